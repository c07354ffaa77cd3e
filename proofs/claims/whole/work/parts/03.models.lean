/-! Models of all methods, by program (wip/whole/gen.py) out of the printed names. -/
def m_X0_forgetAll (vC : Ob)  : Option (Ob) :=
  some (st (st vC 0 0 (0 : Int32)) 0 1 (0 : Int32))
def m_X5_isWithin  (x0 : Int32) (x1 : Int32) (x2 : Int32) : Option (Int32) :=
  if x0 < x1 then (some (0 : Int32)) else (if x2 < x0 then (some (0 : Int32)) else (some (1 : Int32)))
def m_X0_addSwap (vC : Ob) (x1 : Int32) (x2 : Int32) : Option (Int32 × Ob) :=
  ((m_X5_isWithin (vC 0 0) (0 : Int32) (5 : Int32)).bind fun o6 => if o6 = 0 then (some ((0 : Int32), vC)) else (grd (inb (vC 0 0) 6) (grd (inb (vC 0 0) 6) (some ((1 : Int32), (st (st (st vC 4 (Int32.toNatClampNeg (vC 0 0)) x1) 5 (Int32.toNatClampNeg (vC 0 0)) x2) 0 0 ((vC 0 0) + (1 : Int32))))))))
def m_X0_addTaste (vC : Ob) (x1 : Int32) (x2 : Int32) : Option (Int32 × Ob) :=
  ((m_X5_isWithin (vC 0 1) (0 : Int32) (5 : Int32)).bind fun o6 => if o6 = 0 then (some ((0 : Int32), vC)) else (grd (inb (vC 0 1) 6) (grd (inb (vC 0 1) 6) (some ((1 : Int32), (st (st (st vC 6 (Int32.toNatClampNeg (vC 0 1)) x1) 7 (Int32.toNatClampNeg (vC 0 1)) x2) 0 1 ((vC 0 1) + (1 : Int32))))))))
def m_X0_rowAtFirst_L4B  (rc : Int32 → Int32 → Int32 → Option (Int32)) (x0 : Int32) (x1 : Int32) (x2 : Int32) : Option (Int32) :=
  if x0 ≤ x2 then (some x1) else (rc x0 (x1 ||| (x2 <<< (((3 : Int32) * x2) &&& 31))) (x2 + (1 : Int32)))
def m_X0_rowAtFirst_L4  : Nat → Int32 → Int32 → Int32 → Option (Int32)
  | 0, _, _, _ => none
  | n + 1, x0, x1, x2 => m_X0_rowAtFirst_L4B  (m_X0_rowAtFirst_L4  n) x0 x1 x2
def m_X0_rowAtFirst  (x0 : Int32) : Option (Int32) :=
  ((m_X0_rowAtFirst_L4  FU x0 (0 : Int32) (0 : Int32)).bind fun o4_1 => some o4_1)
def m_X0_addRow_L2B  (rc : Ob → Int32 → Int32 → Option ((Ob) ⊕ (Ob × Int32))) (vC : Ob) (x1 : Int32) (x2 : Int32) : Option ((Ob) ⊕ (Ob × Int32)) :=
  if (vC 0 2) ≤ x2 then (some (.inr (vC, x1))) else (if (64 : Int32) ≤ x2 then (some (.inr (vC, x1))) else (grd (inb x2 64) (if ((vC 8) (Int32.toNatClampNeg x2)) = x1 then (some (.inl vC)) else (rc vC x1 (x2 + (1 : Int32))))))
def m_X0_addRow_L2  : Nat → Ob → Int32 → Int32 → Option ((Ob) ⊕ (Ob × Int32))
  | 0, _, _, _ => none
  | n + 1, vC, x1, x2 => m_X0_addRow_L2B  (m_X0_addRow_L2  n) vC x1 x2
def m_X0_addRow (vC : Ob) (x1 : Int32) : Option (Ob) :=
  ((m_X0_addRow_L2  FU vC x1 (0 : Int32)).bind fun o2_1 => Sum.elim (fun r => some r) (fun o2_1x => ((m_X5_isWithin (o2_1x.1 0 2) (0 : Int32) (63 : Int32)).bind fun o40 => if o40 = 0 then (some o2_1x.1) else (grd (inb (o2_1x.1 0 2) 64) (some (st (st o2_1x.1 8 (Int32.toNatClampNeg (o2_1x.1 0 2)) o2_1x.2) 0 2 ((o2_1x.1 0 2) + (1 : Int32))))))) o2_1)
def m_X0_cupOn  (x0 : Int32) (x1 : Int32) : Option (Int32) :=
  some ((x0 >>> (((3 : Int32) * x1) &&& 31)) &&& (7 : Int32))
def m_X0_addSwappedRows_L13B  (rc : Ob → Int32 → Int32 → Int32 → Int32 → Option (Ob)) (vC : Ob) (x1 : Int32) (x2 : Int32) (x3 : Int32) (x4 : Int32) : Option (Ob) :=
  if x3 ≤ x4 then (some vC) else (grd (inb x4 64) (((m_X0_cupOn ((vC 8) (Int32.toNatClampNeg x4)) x1).bind fun o27 => grd (inb x4 64) (((m_X0_cupOn ((vC 8) (Int32.toNatClampNeg x4)) x2).bind fun o38 => grd (inb x4 64) (((m_X0_addRow vC ((((vC 8) (Int32.toNatClampNeg x4)) ^^^ ((o27 ^^^ o38) <<< (((3 : Int32) * x1) &&& 31))) ^^^ ((o27 ^^^ o38) <<< (((3 : Int32) * x2) &&& 31)))).bind fun o66 => rc o66 x1 x2 x3 (x4 + (1 : Int32)))))))))
def m_X0_addSwappedRows_L13  : Nat → Ob → Int32 → Int32 → Int32 → Int32 → Option (Ob)
  | 0, _, _, _, _, _ => none
  | n + 1, vC, x1, x2, x3, x4 => m_X0_addSwappedRows_L13B  (m_X0_addSwappedRows_L13  n) vC x1 x2 x3 x4
def m_X0_addSwappedRows (vC : Ob) (x1 : Int32) (x2 : Int32) : Option (Ob) :=
  ((m_X0_addSwappedRows_L13  FU vC x1 x2 (if (64 : Int32) < (vC 0 2) then (64 : Int32) else (vC 0 2)) (0 : Int32)).bind fun o13_1 => some o13_1)
def m_X0_isAsTasted_L2B (vC : Ob) (rc : Int32 → Int32 → Int32 → Option ((Int32) ⊕ (Unit))) (x1 : Int32) (x2 : Int32) (x3 : Int32) : Option ((Int32) ⊕ (Unit)) :=
  if (vC 0 1) ≤ x3 then (some (.inr ())) else (if (6 : Int32) ≤ x3 then (some (.inr ())) else (grd (inb x3 6) (if x2 ≤ ((vC 6) (Int32.toNatClampNeg x3)) then (some (.inl (0 : Int32))) else (grd (inb x3 6) (((m_X0_cupOn x1 ((vC 6) (Int32.toNatClampNeg x3))).bind fun o33 => grd (inb x3 6) (if o33 = ((vC 7) (Int32.toNatClampNeg x3)) then (rc x1 x2 (x3 + (1 : Int32))) else (some (.inl (0 : Int32))))))))))
def m_X0_isAsTasted_L2 (vC : Ob) : Nat → Int32 → Int32 → Int32 → Option ((Int32) ⊕ (Unit))
  | 0, _, _, _ => none
  | n + 1, x1, x2, x3 => m_X0_isAsTasted_L2B vC (m_X0_isAsTasted_L2 vC n) x1 x2 x3
def m_X0_isAsTasted (vC : Ob) (x1 : Int32) (x2 : Int32) : Option (Int32) :=
  ((m_X0_isAsTasted_L2 vC FU x1 x2 (0 : Int32)).bind fun o2_1 => Sum.elim (fun r => some r) (fun o2_1x => some (1 : Int32)) o2_1)
def m_X0_dropUntasted_j50  (rc : Ob → Int32 → Int32 → Int32 → Option (Ob × Int32)) (vC : Ob) (x1 : Int32) (x2 : Int32) (x3 : Int32) : Option (Ob × Int32) :=
  rc vC x1 x2 (x3 + (1 : Int32))
def m_X0_dropUntasted_L4B  (rc : Ob → Int32 → Int32 → Int32 → Option (Ob × Int32)) (vC : Ob) (x1 : Int32) (x2 : Int32) (x3 : Int32) : Option (Ob × Int32) :=
  if (vC 0 2) ≤ x3 then (some (vC, x2)) else (if (64 : Int32) ≤ x3 then (some (vC, x2)) else (grd (inb x3 64) (((m_X0_isAsTasted vC ((vC 8) (Int32.toNatClampNeg x3)) x1).bind fun o26 => if o26 = 0 then (m_X0_dropUntasted_j50  rc vC x1 x2 x3) else (grd (inb x3 64) (grd (inb x2 64) (m_X0_dropUntasted_j50  rc (st vC 8 (Int32.toNatClampNeg x2) ((vC 8) (Int32.toNatClampNeg x3))) x1 (x2 + (1 : Int32)) x3)))))))
def m_X0_dropUntasted_L4  : Nat → Ob → Int32 → Int32 → Int32 → Option (Ob × Int32)
  | 0, _, _, _, _ => none
  | n + 1, vC, x1, x2, x3 => m_X0_dropUntasted_L4B  (m_X0_dropUntasted_L4  n) vC x1 x2 x3
def m_X0_dropUntasted (vC : Ob) (x1 : Int32) : Option (Ob) :=
  ((m_X0_dropUntasted_L4  FU vC x1 (0 : Int32) (0 : Int32)).bind fun o4_1 => some (st o4_1.1 0 2 o4_1.2))
def m_X0_gatherRows_j65  (rc : Ob → Int32 → Int32 → Option (Ob × Int32)) (vC : Ob) (x1 : Int32) (x2 : Int32) : Option (Ob × Int32) :=
  rc vC x1 (x2 + (1 : Int32))
def m_X0_gatherRows_L15B  (rc : Ob → Int32 → Int32 → Option (Ob × Int32)) (vC : Ob) (x1 : Int32) (x2 : Int32) : Option (Ob × Int32) :=
  if (vC 0 0) ≤ x2 then (some (vC, x1)) else (if (6 : Int32) ≤ x2 then (some (vC, x1)) else (grd (inb x2 6) (if x1 ≤ ((vC 4) (Int32.toNatClampNeg x2)) then (m_X0_gatherRows_j65  rc vC x1 x2) else (grd (inb x2 6) (if x1 ≤ ((vC 5) (Int32.toNatClampNeg x2)) then (m_X0_gatherRows_j65  rc vC x1 x2) else (grd (inb x2 6) (grd (inb x2 6) (((m_X0_addSwappedRows vC ((vC 4) (Int32.toNatClampNeg x2)) ((vC 5) (Int32.toNatClampNeg x2))).bind fun o62 => m_X0_gatherRows_j65  rc o62 x1 x2)))))))))
def m_X0_gatherRows_L15  : Nat → Ob → Int32 → Int32 → Option (Ob × Int32)
  | 0, _, _, _ => none
  | n + 1, vC, x1, x2 => m_X0_gatherRows_L15B  (m_X0_gatherRows_L15  n) vC x1 x2
def m_X0_gatherRows (vC : Ob) (x1 : Int32) : Option (Ob) :=
  ((m_X0_rowAtFirst x1).bind fun o7 => ((m_X0_addRow (st vC 0 2 (0 : Int32)) o7).bind fun o10 => ((m_X0_gatherRows_L15  FU o10 x1 (0 : Int32)).bind fun o15_1 => ((m_X0_dropUntasted o15_1.1 o15_1.2).bind fun o73 => some o73))))
def m_X0_cupsOn_L4B (vC : Ob) (rc : Int32 → Int32 → Int32 → Option (Int32)) (x1 : Int32) (x2 : Int32) (x3 : Int32) : Option (Int32) :=
  if (vC 0 2) ≤ x3 then (some x2) else (if (64 : Int32) ≤ x3 then (some x2) else (grd (inb x3 64) (((m_X0_cupOn ((vC 8) (Int32.toNatClampNeg x3)) x1).bind fun o27 => rc x1 (x2 ||| ((1 : Int32) <<< (o27 &&& 31))) (x3 + (1 : Int32))))))
def m_X0_cupsOn_L4 (vC : Ob) : Nat → Int32 → Int32 → Int32 → Option (Int32)
  | 0, _, _, _ => none
  | n + 1, x1, x2, x3 => m_X0_cupsOn_L4B vC (m_X0_cupsOn_L4 vC n) x1 x2 x3
def m_X0_cupsOn (vC : Ob) (x1 : Int32) : Option (Int32) :=
  ((m_X0_cupsOn_L4 vC FU x1 (0 : Int32) (0 : Int32)).bind fun o4_1 => some o4_1)
def m_J6_bitCount_0f7a4  (x0 : Int32) : Option (Int32) :=
  some ((((((((x0 - ((ushr x0 (1 : Int32)) &&& (1431655765 : Int32))) &&& (858993459 : Int32)) + ((ushr (x0 - ((ushr x0 (1 : Int32)) &&& (1431655765 : Int32))) (2 : Int32)) &&& (858993459 : Int32))) + (ushr (((x0 - ((ushr x0 (1 : Int32)) &&& (1431655765 : Int32))) &&& (858993459 : Int32)) + ((ushr (x0 - ((ushr x0 (1 : Int32)) &&& (1431655765 : Int32))) (2 : Int32)) &&& (858993459 : Int32))) (4 : Int32))) &&& (252645135 : Int32)) + (ushr (((((x0 - ((ushr x0 (1 : Int32)) &&& (1431655765 : Int32))) &&& (858993459 : Int32)) + ((ushr (x0 - ((ushr x0 (1 : Int32)) &&& (1431655765 : Int32))) (2 : Int32)) &&& (858993459 : Int32))) + (ushr (((x0 - ((ushr x0 (1 : Int32)) &&& (1431655765 : Int32))) &&& (858993459 : Int32)) + ((ushr (x0 - ((ushr x0 (1 : Int32)) &&& (1431655765 : Int32))) (2 : Int32)) &&& (858993459 : Int32))) (4 : Int32))) &&& (252645135 : Int32)) (8 : Int32))) + (ushr ((((((x0 - ((ushr x0 (1 : Int32)) &&& (1431655765 : Int32))) &&& (858993459 : Int32)) + ((ushr (x0 - ((ushr x0 (1 : Int32)) &&& (1431655765 : Int32))) (2 : Int32)) &&& (858993459 : Int32))) + (ushr (((x0 - ((ushr x0 (1 : Int32)) &&& (1431655765 : Int32))) &&& (858993459 : Int32)) + ((ushr (x0 - ((ushr x0 (1 : Int32)) &&& (1431655765 : Int32))) (2 : Int32)) &&& (858993459 : Int32))) (4 : Int32))) &&& (252645135 : Int32)) + (ushr (((((x0 - ((ushr x0 (1 : Int32)) &&& (1431655765 : Int32))) &&& (858993459 : Int32)) + ((ushr (x0 - ((ushr x0 (1 : Int32)) &&& (1431655765 : Int32))) (2 : Int32)) &&& (858993459 : Int32))) + (ushr (((x0 - ((ushr x0 (1 : Int32)) &&& (1431655765 : Int32))) &&& (858993459 : Int32)) + ((ushr (x0 - ((ushr x0 (1 : Int32)) &&& (1431655765 : Int32))) (2 : Int32)) &&& (858993459 : Int32))) (4 : Int32))) &&& (252645135 : Int32)) (8 : Int32))) (16 : Int32))) &&& (63 : Int32))
def m_X0_surelyOn (vC : Ob) (x1 : Int32) : Option (Int32) :=
  if (vC 0 2) = 0 then (some (-9 : Int32)) else (((m_X0_cupsOn vC x1).bind fun o12 => ((m_J6_bitCount_0f7a4 o12).bind fun o15 => if o15 = (1 : Int32) then (((m_X0_cupOn ((vC 8) (Int32.toNatClampNeg (0 : Int32))) x1).bind fun o29 => some o29)) else (some (-5 : Int32)))))
def m_X0_bestTaste_j37 (vC : Ob) (rc : Int32 → Int32 → Int32 → Int32 → Option (Int32)) (x1 : Int32) (x2 : Int32) (x3 : Int32) (x4 : Int32) : Option (Int32) :=
  rc x1 x2 x3 (x4 + (1 : Int32))
def m_X0_bestTaste_L8B (vC : Ob) (rc : Int32 → Int32 → Int32 → Int32 → Option (Int32)) (x1 : Int32) (x2 : Int32) (x3 : Int32) (x4 : Int32) : Option (Int32) :=
  if x1 ≤ x4 then (some x2) else (((m_X0_cupsOn vC x4).bind fun o17 => ((m_J6_bitCount_0f7a4 o17).bind fun o20 => if o20 ≤ x3 then (m_X0_bestTaste_j37 vC rc x1 x2 x3 x4) else (m_X0_bestTaste_j37 vC rc x1 x4 o20 x4))))
def m_X0_bestTaste_L8 (vC : Ob) : Nat → Int32 → Int32 → Int32 → Int32 → Option (Int32)
  | 0, _, _, _, _ => none
  | n + 1, x1, x2, x3, x4 => m_X0_bestTaste_L8B vC (m_X0_bestTaste_L8 vC n) x1 x2 x3 x4
def m_X0_bestTaste (vC : Ob) (x1 : Int32) : Option (Int32) :=
  ((m_X0_bestTaste_L8 vC FU x1 (-9 : Int32) (1 : Int32) (0 : Int32)).bind fun o8_1 => some o8_1)
def m_X4_forgetAll (vW : Ob)  : Option (Ob) :=
  some (st (st (st (st vW 0 0 (0 : Int32)) 0 1 (0 : Int32)) 0 2 (0 : Int32)) 0 3 (0 : Int32))
def m_X1_isLetter  (x0 : Int32) : Option (Int32) :=
  if x0 < (97 : Int32) then (some (0 : Int32)) else (if (122 : Int32) < x0 then (some (0 : Int32)) else (some (1 : Int32)))
def m_X1_isDigit  (x0 : Int32) : Option (Int32) :=
  if x0 < (48 : Int32) then (some (0 : Int32)) else (if (57 : Int32) < x0 then (some (0 : Int32)) else (some (1 : Int32)))
def m_X1_readToken_L0B (vt : (Nat → Int32)) (rc : Ob → Option (Ob)) (vR : Ob) : Option (Ob) :=
  if (vR 0 2) ≤ (vR 0 3) then (some vR) else (grd (inb (vR 0 3) 200) (if (vt (Int32.toNatClampNeg (vR 0 3))) = (32 : Int32) then (rc (st vR 0 3 ((vR 0 3) + (1 : Int32)))) else (some vR)))
def m_X1_readToken_L0 (vt : (Nat → Int32)) : Nat → Ob → Option (Ob)
  | 0, _ => none
  | n + 1, vR => m_X1_readToken_L0B vt (m_X1_readToken_L0 vt n) vR
def m_X1_readToken_L174B (vt : (Nat → Int32)) (rc : Ob → Int32 → Option (Ob × Int32)) (vR : Ob) (x1 : Int32) : Option (Ob × Int32) :=
  if (vR 0 2) ≤ (vR 0 3) then (some (vR, x1)) else (grd (inb (vR 0 3) 200) (((m_X1_isDigit (vt (Int32.toNatClampNeg (vR 0 3)))).bind fun o194 => if o194 = 0 then (some (vR, x1)) else (grd (inb (vR 0 3) 200) (rc (st (st vR 0 6 ((((vR 0 6) * (10 : Int32)) + (vt (Int32.toNatClampNeg (vR 0 3)))) - (48 : Int32))) 0 3 ((vR 0 3) + (1 : Int32))) x1)))))
def m_X1_readToken_L174 (vt : (Nat → Int32)) : Nat → Ob → Int32 → Option (Ob × Int32)
  | 0, _, _ => none
  | n + 1, vR, x1 => m_X1_readToken_L174B vt (m_X1_readToken_L174 vt n) vR x1
def m_X1_readToken_j269 (vt : (Nat → Int32))  (vR : Ob) (s1 : Int32) : Option (Ob) :=
  some (st vR 0 5 s1)
def m_X1_readToken_j264 (vt : (Nat → Int32))  (vR : Ob) : Option (Ob) :=
  m_X1_readToken_j269 vt vR (2 : Int32)
def m_X1_readToken_j268 (vt : (Nat → Int32))  (vR : Ob) : Option (Ob) :=
  m_X1_readToken_j269 vt vR (4 : Int32)
def m_X1_readToken_L90B (vt : (Nat → Int32)) (rc : Ob → Int32 → Option (Ob × Int32)) (vR : Ob) (x1 : Int32) : Option (Ob × Int32) :=
  if (vR 0 2) ≤ (vR 0 3) then (some (vR, x1)) else (grd (inb (vR 0 3) 200) (((m_X1_isLetter (vt (Int32.toNatClampNeg (vR 0 3)))).bind fun o110 => if o110 = 0 then (some (vR, x1)) else (rc (st vR 0 3 ((vR 0 3) + (1 : Int32))) x1))))
def m_X1_readToken_L90 (vt : (Nat → Int32)) : Nat → Ob → Int32 → Option (Ob × Int32)
  | 0, _, _ => none
  | n + 1, vR, x1 => m_X1_readToken_L90B vt (m_X1_readToken_L90 vt n) vR x1
def m_X1_readToken_j148 (vt : (Nat → Int32))  (vR : Ob) (x1 : Int32) (s1 : Int32) : Option (Ob) :=
  some (st (st vR 0 5 s1) 0 6 x1)
def m_X1_readToken (vR : Ob) (vt : (Nat → Int32))  : Option (Ob) :=
  ((m_X1_readToken_L0 vt FU vR).bind fun o0_1 => if (o0_1 0 3) < (o0_1 0 2) then (grd (inb (o0_1 0 3) 200) (((m_X1_isLetter (vt (Int32.toNatClampNeg (o0_1 0 3)))).bind fun o84 => if o84 = 0 then (((m_X1_isDigit (vt (Int32.toNatClampNeg (o0_1 0 3)))).bind fun o160 => if o160 = 0 then (if (vt (Int32.toNatClampNeg (o0_1 0 3))) = (59 : Int32) then (some (st (st (st (st o0_1 0 4 (o0_1 0 3)) 0 5 (0 : Int32)) 0 3 ((o0_1 0 3) + (1 : Int32))) 0 5 (3 : Int32))) else (some (st (st (st (st o0_1 0 4 (o0_1 0 3)) 0 5 (0 : Int32)) 0 3 ((o0_1 0 3) + (1 : Int32))) 0 5 (4 : Int32)))) else (((m_X1_readToken_L174 vt FU (st (st (st (st o0_1 0 4 (o0_1 0 3)) 0 5 (0 : Int32)) 0 3 ((o0_1 0 3) + (1 : Int32))) 0 6 ((vt (Int32.toNatClampNeg (o0_1 0 3))) - (48 : Int32))) (vt (Int32.toNatClampNeg (o0_1 0 3)))).bind fun o174_2 => if ((o174_2.1 0 3) - (o174_2.1 0 4)) = (1 : Int32) then (m_X1_readToken_j264 vt o174_2.1) else (if ((o174_2.1 0 3) - (o174_2.1 0 4)) = (2 : Int32) then (if o174_2.2 = (48 : Int32) then (m_X1_readToken_j268 vt o174_2.1) else (m_X1_readToken_j264 vt o174_2.1)) else (m_X1_readToken_j268 vt o174_2.1)))))) else (((m_X1_readToken_L90 vt FU (st (st (st o0_1 0 4 (o0_1 0 3)) 0 5 (0 : Int32)) 0 3 ((o0_1 0 3) + (1 : Int32))) (vt (Int32.toNatClampNeg (o0_1 0 3)))).bind fun o90_3 => if ((o90_3.1 0 3) - (o90_3.1 0 4)) = (1 : Int32) then (m_X1_readToken_j148 vt o90_3.1 o90_3.2 (1 : Int32)) else (m_X1_readToken_j148 vt o90_3.1 o90_3.2 (4 : Int32))))))) else (some (st (st o0_1 0 4 (o0_1 0 3)) 0 5 (0 : Int32))))
def m_X4_hasPlace (vW : Ob) (x1 : Int32) : Option (Int32) :=
  if x1 < 0 then (some (0 : Int32)) else (if (vW 0 0) ≤ x1 then (some (0 : Int32)) else (if (7 : Int32) ≤ x1 then (some (0 : Int32)) else (some (1 : Int32))))
def m_X1_readsPlace (vR : Ob) (vD : Ob) (vt : (Nat → Int32))  : Option (Int32 × Ob) :=
  ((m_X1_readToken vR vt).bind fun o1 => if (o1 0 5) = (2 : Int32) then (((m_X4_hasPlace vD (o1 0 6)).bind fun o20 => if o20 = 0 then (some ((0 : Int32), o1)) else (some ((1 : Int32), o1)))) else (some ((0 : Int32), o1)))
def m_X1_readsNumber (vR : Ob) (vt : (Nat → Int32)) (x1 : Int32) (x2 : Int32) : Option (Int32 × Ob) :=
  ((m_X1_readToken vR vt).bind fun o1 => if (o1 0 5) = (2 : Int32) then (((m_X5_isWithin (o1 0 6) x1 x2).bind fun o18 => if o18 = 0 then (some ((0 : Int32), o1)) else (some ((1 : Int32), o1)))) else (some ((0 : Int32), o1)))
def m_X4_addRoad (vW : Ob) (x1 : Int32) (x2 : Int32) (x3 : Int32) : Option (Int32 × Ob) :=
  ((m_X5_isWithin (vW 0 1) (0 : Int32) (8 : Int32)).bind fun o7 => if o7 = 0 then (some ((0 : Int32), vW)) else (grd (inb (vW 0 1) 9) (grd (inb (vW 0 1) 9) (grd (inb (vW 0 1) 9) (some ((1 : Int32), (st (st (st (st vW 8 (Int32.toNatClampNeg (vW 0 1)) x1) 9 (Int32.toNatClampNeg (vW 0 1)) x2) 10 (Int32.toNatClampNeg (vW 0 1)) x3) 0 1 ((vW 0 1) + (1 : Int32)))))))))
def m_X1_readsRoad (vR : Ob) (vD : Ob) (vt : (Nat → Int32))  : Option (Int32 × Ob × Ob) :=
  if (9 : Int32) ≤ (vD 0 1) then (some ((0 : Int32), vR, vD)) else (((m_X1_readsPlace vR vD vt).bind fun o13 => if o13.1 = 0 then (some ((0 : Int32), o13.2, vD)) else (((m_X1_readsPlace o13.2 vD vt).bind fun o27 => if o27.1 = 0 then (some ((0 : Int32), o27.2, vD)) else (if (o27.2 0 6) = (o13.2 0 6) then (some ((0 : Int32), o27.2, vD)) else (((m_X1_readsNumber o27.2 vt (1 : Int32) (9 : Int32)).bind fun o52 => if o52.1 = 0 then (some ((0 : Int32), o52.2, vD)) else (((m_X4_addRoad vD (o13.2 0 6) (o27.2 0 6) (o52.2 0 6)).bind fun o68 => if o68.1 = 0 then (some ((0 : Int32), o52.2, o68.2)) else (some ((1 : Int32), o52.2, o68.2)))))))))))
def m_X4_addPlace (vW : Ob)  : Option (Int32 × Ob) :=
  ((m_X5_isWithin (vW 0 0) (0 : Int32) (6 : Int32)).bind fun o7 => if o7 = 0 then (some ((0 : Int32), vW)) else (grd (inb (vW 0 0) 7) (grd (inb (vW 0 0) 7) (grd (inb (vW 0 0) 7) (some ((1 : Int32), (st (st (st (st vW 5 (Int32.toNatClampNeg (vW 0 0)) (9 : Int32)) 6 (Int32.toNatClampNeg (vW 0 0)) (-9 : Int32)) 7 (Int32.toNatClampNeg (vW 0 0)) (24 : Int32)) 0 0 ((vW 0 0) + (1 : Int32)))))))))
def m_X1_readsOff (vR : Ob) (vD : Ob) (vt : (Nat → Int32))  : Option (Int32 × Ob × Ob) :=
  if (vR 0 7) = 0 then (((m_X1_readsNumber vR vt (0 : Int32) (6 : Int32)).bind fun o11 => if o11.1 = 0 then (some ((0 : Int32), o11.2, vD)) else (some ((1 : Int32), (st o11.2 0 7 (1 : Int32)), (st vD 0 3 (o11.2 0 6)))))) else (some ((0 : Int32), vR, vD))
def m_X4_lionAt (vW : Ob) (x1 : Int32) : Option (Int32) :=
  ((m_X4_hasPlace vW x1).bind fun o2 => if o2 = 0 then (some (9 : Int32)) else (grd (inb x1 7) (some ((vW 5) (Int32.toNatClampNeg x1)))))
def m_X4_addLion (vW : Ob) (x1 : Int32) (x2 : Int32) : Option (Int32 × Ob) :=
  ((m_X4_hasPlace vW x1).bind fun o2 => if o2 = 0 then (some ((0 : Int32), vW)) else (grd (inb x1 7) (some ((1 : Int32), (st vW 5 (Int32.toNatClampNeg x1) x2)))))
def m_X1_readsLion (vR : Ob) (vD : Ob) (vt : (Nat → Int32))  : Option (Int32 × Ob × Ob) :=
  ((m_X1_readsPlace vR vD vt).bind fun o1 => if o1.1 = 0 then (some ((0 : Int32), o1.2, vD)) else (if (o1.2 0 6) = 0 then (some ((0 : Int32), o1.2, vD)) else (((m_X4_lionAt vD (o1.2 0 6)).bind fun o22 => if o22 = (9 : Int32) then (((m_X1_readsNumber o1.2 vt (0 : Int32) (4 : Int32)).bind fun o40 => if o40.1 = 0 then (some ((0 : Int32), o40.2, vD)) else (((m_X4_addLion vD (o1.2 0 6) (o40.2 0 6)).bind fun o55 => if o55.1 = 0 then (some ((0 : Int32), o40.2, o55.2)) else (some ((1 : Int32), o40.2, o55.2)))))) else (some ((0 : Int32), o1.2, vD))))))
def m_X5_isThing  (x0 : Int32) : Option (Int32) :=
  if x0 < 0 then (some (0 : Int32)) else (if (5 : Int32) ≤ x0 then (some (0 : Int32)) else (some (1 : Int32)))
def m_X4_addHost (vW : Ob) (x1 : Int32) (x2 : Int32) (x3 : Int32) : Option (Int32 × Ob) :=
  ((m_X5_isWithin (vW 0 2) (0 : Int32) (5 : Int32)).bind fun o6 => if o6 = 0 then (some ((0 : Int32), vW)) else (grd (inb (vW 0 2) 6) (grd (inb (vW 0 2) 6) (grd (inb (vW 0 2) 6) (some ((1 : Int32), (st (st (st (st vW 11 (Int32.toNatClampNeg (vW 0 2)) x1) 12 (Int32.toNatClampNeg (vW 0 2)) x2) 13 (Int32.toNatClampNeg (vW 0 2)) x3) 0 2 ((vW 0 2) + (1 : Int32)))))))))
def m_X1_readsHost_j73 (vt : (Nat → Int32))  (vR : Ob) (vD : Ob) (x1 : Int32) (x2 : Int32) : Option (Int32 × Ob × Ob) :=
  ((m_X4_addHost vD x1 x2 (vR 0 6)).bind fun o83 => if o83.1 = 0 then (some ((0 : Int32), vR, o83.2)) else (some ((1 : Int32), vR, o83.2)))
def m_X1_readsHost (vR : Ob) (vD : Ob) (vt : (Nat → Int32))  : Option (Int32 × Ob × Ob) :=
  if (6 : Int32) ≤ (vD 0 2) then (some ((0 : Int32), vR, vD)) else (((m_X1_readsPlace vR vD vt).bind fun o13 => if o13.1 = 0 then (some ((0 : Int32), o13.2, vD)) else (((m_X1_readsNumber o13.2 vt (0 : Int32) (4 : Int32)).bind fun o29 => if o29.1 = 0 then (some ((0 : Int32), o29.2, vD)) else (((m_X1_readsNumber o29.2 vt (0 : Int32) (9 : Int32)).bind fun o46 => if o46.1 = 0 then (some ((0 : Int32), o46.2, vD)) else (((m_X5_isThing (o46.2 0 6)).bind fun o58 => if o58 = 0 then (if (o46.2 0 6) = (9 : Int32) then (m_X1_readsHost_j73 vt o46.2 vD (o13.2 0 6) (o29.2 0 6)) else (some ((0 : Int32), o46.2, vD))) else (m_X1_readsHost_j73 vt o46.2 vD (o13.2 0 6) (o29.2 0 6))))))))))
def m_X4_gateFromAt (vW : Ob) (x1 : Int32) : Option (Int32) :=
  ((m_X4_hasPlace vW x1).bind fun o2 => if o2 = 0 then (some (-9 : Int32)) else (grd (inb x1 7) (some ((vW 6) (Int32.toNatClampNeg x1)))))
def m_X4_addGate (vW : Ob) (x1 : Int32) (x2 : Int32) (x3 : Int32) : Option (Int32 × Ob) :=
  ((m_X4_hasPlace vW x1).bind fun o2 => if o2 = 0 then (some ((0 : Int32), vW)) else (grd (inb x1 7) (grd (inb x1 7) (some ((1 : Int32), (st (st vW 6 (Int32.toNatClampNeg x1) x2) 7 (Int32.toNatClampNeg x1) x3))))))
def m_X1_readsGate (vR : Ob) (vD : Ob) (vt : (Nat → Int32))  : Option (Int32 × Ob × Ob) :=
  ((m_X1_readsPlace vR vD vt).bind fun o1 => if o1.1 = 0 then (some ((0 : Int32), o1.2, vD)) else (if (o1.2 0 6) = 0 then (some ((0 : Int32), o1.2, vD)) else (((m_X4_gateFromAt vD (o1.2 0 6)).bind fun o22 => if o22 = (-9 : Int32) then (((m_X1_readsNumber o1.2 vt (0 : Int32) (23 : Int32)).bind fun o41 => if o41.1 = 0 then (some ((0 : Int32), o41.2, vD)) else (((m_X1_readsNumber o41.2 vt (1 : Int32) (24 : Int32)).bind fun o58 => if o58.1 = 0 then (some ((0 : Int32), o58.2, vD)) else (((m_X4_addGate vD (o1.2 0 6) (o41.2 0 6) (o58.2 0 6)).bind fun o74 => if o74.1 = 0 then (some ((0 : Int32), o58.2, o74.2)) else (some ((1 : Int32), o58.2, o74.2)))))))) else (some ((0 : Int32), o1.2, vD))))))
def m_X1_readsItem (vR : Ob) (vD : Ob) (vt : (Nat → Int32))  : Option (Int32 × Ob × Ob) :=
  if (vR 0 5) = (1 : Int32) then (if (vR 0 6) = (103 : Int32) then (((m_X1_readsGate vR vD vt).bind fun o100 => grd (bz o100.1) (some (o100.1, o100.2.1, o100.2.2)))) else (if (vR 0 6) = (104 : Int32) then (((m_X1_readsHost vR vD vt).bind fun o90 => grd (bz o90.1) (some (o90.1, o90.2.1, o90.2.2)))) else (if (vR 0 6) = (108 : Int32) then (((m_X1_readsLion vR vD vt).bind fun o95 => grd (bz o95.1) (some (o95.1, o95.2.1, o95.2.2)))) else (if (vR 0 6) = (111 : Int32) then (((m_X1_readsOff vR vD vt).bind fun o105 => grd (bz o105.1) (some (o105.1, o105.2.1, o105.2.2)))) else (if (vR 0 6) = (112 : Int32) then (((m_X4_addPlace vD).bind fun o80 => grd (bz o80.1) (some (o80.1, vR, o80.2)))) else (if (vR 0 6) = (114 : Int32) then (((m_X1_readsRoad vR vD vt).bind fun o85 => grd (bz o85.1) (some (o85.1, o85.2.1, o85.2.2)))) else (some ((0 : Int32), vR, vD)))))))) else (some ((0 : Int32), vR, vD))
def m_X1_readsStop (vR : Ob) (vt : (Nat → Int32))  : Option (Int32 × Ob) :=
  ((m_X1_readToken vR vt).bind fun o1 => if (o1 0 5) = (3 : Int32) then (some ((1 : Int32), o1)) else (some ((0 : Int32), o1)))
def m_X1_readTale_L32B (vt : (Nat → Int32)) (rc : Ob → Ob → Int32 → Option ((Int32 × Ob × Ob) ⊕ (Ob × Ob))) (vR : Ob) (vD : Ob) (x2 : Int32) : Option ((Int32 × Ob × Ob) ⊕ (Ob × Ob)) :=
  if (200 : Int32) < x2 then (some (.inr (vR, vD))) else (((m_X1_readToken vR vt).bind fun o40 => if (o40 0 5) = 0 then (some (.inl (x2, o40, vD))) else (((m_X1_readsItem o40 vD vt).bind fun o53 => if o53.1 = 0 then (some (.inl (((-10 : Int32) - (o53.2.1 0 4)), o53.2.1, o53.2.2))) else (((m_X1_readsStop o53.2.1 vt).bind fun o60 => if o60.1 = 0 then (some (.inl (((-10 : Int32) - (o60.2 0 4)), o60.2, o53.2.2))) else (rc o60.2 o53.2.2 (x2 + (1 : Int32)))))))))
def m_X1_readTale_L32 (vt : (Nat → Int32)) : Nat → Ob → Ob → Int32 → Option ((Int32 × Ob × Ob) ⊕ (Ob × Ob))
  | 0, _, _, _ => none
  | n + 1, vR, vD, x2 => m_X1_readTale_L32B vt (m_X1_readTale_L32 vt n) vR vD x2
def m_X1_readTale (vR : Ob) (vD : Ob) (vt : (Nat → Int32)) (x1 : Int32) : Option (Int32 × Ob × Ob) :=
  ((m_X4_forgetAll vD).bind fun o4 => ((m_X1_readTale_L32 vt FU (st (st (st vR 0 2 (if (200 : Int32) < x1 then (200 : Int32) else x1)) 0 3 (0 : Int32)) 0 7 (0 : Int32)) o4 (0 : Int32)).bind fun o32_1 => Sum.elim (fun r => some r) (fun o32_1x => some (((-10 : Int32) - (o32_1x.1 0 2)), o32_1x.1, o32_1x.2)) o32_1))
def m_X2_startAnew (vS : Ob)  : Option (Ob) :=
  some (st (st (st (st vS 0 0 (0 : Int32)) 0 1 (0 : Int32)) 0 2 (0 : Int32)) 0 3 (0 : Int32))
def m_X2_becomeLike (vS : Ob) (vO : Ob)  : Option (Ob) :=
  some (upR (upR (upR (st (st (st (st vS 0 0 (vO 0 0)) 0 1 (vO 0 1)) 0 2 (vO 0 2)) 0 3 (vO 0 3)) 6 (va_cpy (vO 6) (vS 6) (Int32.toNatClampNeg (0 : Int32)) (Int32.toNatClampNeg (0 : Int32)) (Int32.toNatClampNeg (12 : Int32)))) 7 (va_cpy (vO 7) (vS 7) (Int32.toNatClampNeg (0 : Int32)) (Int32.toNatClampNeg (0 : Int32)) (Int32.toNatClampNeg (12 : Int32)))) 8 (va_cpy (vO 8) (vS 8) (Int32.toNatClampNeg (0 : Int32)) (Int32.toNatClampNeg (0 : Int32)) (Int32.toNatClampNeg (12 : Int32))))
def m_X2_loseOldest (vS : Ob)  : Option (Ob) :=
  some (st (upR (upR (upR vS 6 (va_cpy (vS 6) (vS 6) (Int32.toNatClampNeg (1 : Int32)) (Int32.toNatClampNeg (0 : Int32)) (Int32.toNatClampNeg (11 : Int32)))) 7 (va_cpy (vS 7) (vS 7) (Int32.toNatClampNeg (1 : Int32)) (Int32.toNatClampNeg (0 : Int32)) (Int32.toNatClampNeg (11 : Int32)))) 8 (va_cpy (vS 8) (vS 8) (Int32.toNatClampNeg (1 : Int32)) (Int32.toNatClampNeg (0 : Int32)) (Int32.toNatClampNeg (11 : Int32)))) 0 3 (11 : Int32))
def m_X2_remember_j13   (vS : Ob) : Option (Ob) :=
  ((m_X5_isWithin (vS 0 3) (0 : Int32) (11 : Int32)).bind fun o20 => if o20 = 0 then (some vS) else (grd (inb (vS 0 3) 12) (grd (inb (vS 0 3) 12) (grd (inb (vS 0 3) 12) (some (st (st (st (st vS 6 (Int32.toNatClampNeg (vS 0 3)) (vS 0 0)) 7 (Int32.toNatClampNeg (vS 0 3)) (vS 0 1)) 8 (Int32.toNatClampNeg (vS 0 3)) (vS 0 2)) 0 3 ((vS 0 3) + (1 : Int32))))))))
def m_X2_remember (vS : Ob)  : Option (Ob) :=
  if (vS 0 3) < (12 : Int32) then (m_X2_remember_j13  vS) else (((m_X2_loseOldest vS).bind fun o10 => m_X2_remember_j13  o10))
def m_X2_recall (vS : Ob)  : Option (Ob) :=
  ((m_X5_isWithin (vS 0 3) (1 : Int32) (12 : Int32)).bind fun o7 => if o7 = 0 then (some vS) else (grd (inb ((vS 0 3) - (1 : Int32)) 12) (grd (inb ((vS 0 3) - (1 : Int32)) 12) (grd (inb ((vS 0 3) - (1 : Int32)) 12) (some (st (st (st (st vS 0 3 ((vS 0 3) - (1 : Int32))) 0 0 ((vS 6) (Int32.toNatClampNeg ((vS 0 3) - (1 : Int32))))) 0 1 ((vS 7) (Int32.toNatClampNeg ((vS 0 3) - (1 : Int32))))) 0 2 ((vS 8) (Int32.toNatClampNeg ((vS 0 3) - (1 : Int32))))))))))
def m_X3_forgetWay (vY : Ob)  : Option (Ob) :=
  some (st vY 0 7 (-9 : Int32))
def m_X3_isWayKnown (vY : Ob) (vS : Ob) (x1 : Int32) : Option (Int32) :=
  if x1 = (vY 0 7) then (if (vY 0 8) = (vS 0 0) then (if (vY 0 9) = (vS 0 1) then (if (vY 0 10) = (vS 0 2) then (some (1 : Int32)) else (some (0 : Int32))) else (some (0 : Int32))) else (some (0 : Int32))) else (some (0 : Int32))
def m_J7_fill_53178_L5B  (rc : (Nat → Int32) → Int32 → Int32 → Int32 → Option ((Nat → Int32))) (vt : (Nat → Int32)) (x1 : Int32) (x2 : Int32) (x3 : Int32) : Option ((Nat → Int32)) :=
  if x3 ≤ x2 then (some vt) else (grd (inb x2 427) (rc (upd vt (Int32.toNatClampNeg x2) x1) x1 (x2 + (1 : Int32)) x3))
def m_J7_fill_53178_L5  : Nat → (Nat → Int32) → Int32 → Int32 → Int32 → Option ((Nat → Int32))
  | 0, _, _, _, _ => none
  | n + 1, vt, x1, x2, x3 => m_J7_fill_53178_L5B  (m_J7_fill_53178_L5  n) vt x1 x2 x3
def m_J7_fill_53178 (vt : (Nat → Int32)) (x1 : Int32) : Option ((Nat → Int32)) :=
  ((m_J7_fill_53178_L5  FU vt x1 (0 : Int32) (427 : Int32)).bind fun o5_1 => some o5_1)
def m_X3_isCell  (x0 : Int32) (x1 : Int32) : Option (Int32) :=
  if x0 < 0 then (some (0 : Int32)) else (if (60 : Int32) < x0 then (some (0 : Int32)) else (if x1 < 0 then (some (0 : Int32)) else (if (7 : Int32) ≤ x1 then (some (0 : Int32)) else (some (1 : Int32)))))
def m_X3_addSets (vY : Ob) (x1 : Int32) (x2 : Int32) (x3 : Int32) : Option (Ob) :=
  ((m_X3_isCell x1 x2).bind fun o2 => if o2 = 0 then (some vY) else (grd (inb ((x1 * (7 : Int32)) + x2) 427) (grd (inb ((x1 * (7 : Int32)) + x2) 427) (some (st vY 3 (Int32.toNatClampNeg ((x1 * (7 : Int32)) + x2)) (((vY 3) (Int32.toNatClampNeg ((x1 * (7 : Int32)) + x2))) ||| x3))))))
def m_X4_hasHost (vW : Ob) (x1 : Int32) : Option (Int32) :=
  if x1 < 0 then (some (0 : Int32)) else (if (vW 0 2) ≤ x1 then (some (0 : Int32)) else (if (6 : Int32) ≤ x1 then (some (0 : Int32)) else (some (1 : Int32))))
def m_X4_hostPlace (vW : Ob) (x1 : Int32) : Option (Int32) :=
  ((m_X4_hasHost vW x1).bind fun o2 => if o2 = 0 then (some (-9 : Int32)) else (grd (inb x1 6) (some ((vW 11) (Int32.toNatClampNeg x1)))))
def m_X4_hostGives (vW : Ob) (x1 : Int32) : Option (Int32) :=
  ((m_X4_hasHost vW x1).bind fun o2 => if o2 = 0 then (some (0 : Int32)) else (grd (inb x1 6) (some ((vW 12) (Int32.toNatClampNeg x1)))))
def m_X3_setsAt (vY : Ob) (x1 : Int32) (x2 : Int32) : Option (Int32) :=
  ((m_X3_isCell x1 x2).bind fun o2 => if o2 = 0 then (some (0 : Int32)) else (grd (inb ((x1 * (7 : Int32)) + x2) 427) (some ((vY 3) (Int32.toNatClampNeg ((x1 * (7 : Int32)) + x2))))))
def m_X4_hostAsks (vW : Ob) (x1 : Int32) : Option (Int32) :=
  ((m_X4_hasHost vW x1).bind fun o2 => if o2 = 0 then (some (9 : Int32)) else (grd (inb x1 6) (some ((vW 13) (Int32.toNatClampNeg x1)))))
def m_X3_setsHaving  (x0 : Int32) : Option (Int32) :=
  ((m_X5_isThing x0).bind fun o1 => if o1 = 0 then (some (-1 : Int32)) else (grd (inb x0 5) (some (fHav (Int32.toNatClampNeg x0)))))
def m_X3_isAskMore_j81 (vW : Ob)  (vY : Ob) (x1 : Int32) (x4 : Int32) (x6 : Int32) (s1 : Int32) (s2 : Int32) (s3 : Int32) : Option (Int32 × Ob) :=
  ((m_X3_addSets vY s1 s2 s3).bind fun o81 => ((m_X3_setsAt o81 x1 x4).bind fun o88 => if o88 = x6 then (some ((0 : Int32), o81)) else (some ((1 : Int32), o81))))
def m_X3_isAskMore (vY : Ob) (vW : Ob) (x1 : Int32) (x2 : Int32) (x3 : Int32) : Option (Int32 × Ob) :=
  ((m_X4_hostPlace vW x2).bind fun o5 => ((m_X4_hostGives vW x2).bind fun o15 => ((m_X3_setsAt vY x1 o5).bind fun o24 => ((m_X4_hostAsks vW x2).bind fun o34 => ((m_X3_setsHaving o34).bind fun o37 => ((m_X3_setsHaving o15).bind fun o42 => if x3 = 0 then (m_X3_isAskMore_j81 vW vY x1 o5 o24 x1 o5 ((ushr o24 ((1 : Int32) <<< (o15 &&& 31))) &&& (o37 &&& (o42 ^^^ (-1 : Int32))))) else (m_X3_isAskMore_j81 vW vY x1 o5 o24 x1 o5 ((o24 &&& (o37 &&& (o42 ^^^ (-1 : Int32)))) <<< (((1 : Int32) <<< (o15 &&& 31)) &&& 31)))))))))
def m_X3_spreadAsks_j47 (vW : Ob) (rc : Ob → Int32 → Int32 → Int32 → Int32 → Int32 → Int32 → Option (Ob × Int32 × Int32 × Int32 × Int32 × Int32)) (vY : Ob) (x1 : Int32) (x2 : Int32) (x3 : Int32) (x4 : Int32) (x5 : Int32) (x6 : Int32) : Option (Ob × Int32 × Int32 × Int32 × Int32 × Int32) :=
  rc vY x1 x2 x3 x4 x5 (x6 + (1 : Int32))
def m_X3_spreadAsks_L15B (vW : Ob) (rc : Ob → Int32 → Int32 → Int32 → Int32 → Int32 → Int32 → Option (Ob × Int32 × Int32 × Int32 × Int32 × Int32)) (vY : Ob) (x1 : Int32) (x2 : Int32) (x3 : Int32) (x4 : Int32) (x5 : Int32) (x6 : Int32) : Option (Ob × Int32 × Int32 × Int32 × Int32 × Int32) :=
  if (vW 0 2) ≤ x6 then (some (vY, x1, x2, x3, x4, x5)) else (if x6 = x3 then (m_X3_spreadAsks_j47 vW rc vY x1 x2 x3 x4 x5 x6) else (((m_X3_isAskMore vY vW x1 x6 x2).bind fun o38 => if o38.1 = 0 then (m_X3_spreadAsks_j47 vW rc o38.2 x1 x2 x3 x4 x5 x6) else (m_X3_spreadAsks_j47 vW rc o38.2 x1 x2 x3 x4 (1 : Int32) x6))))
def m_X3_spreadAsks_L15 (vW : Ob) : Nat → Ob → Int32 → Int32 → Int32 → Int32 → Int32 → Int32 → Option (Ob × Int32 × Int32 × Int32 × Int32 × Int32)
  | 0, _, _, _, _, _, _, _ => none
  | n + 1, vY, x1, x2, x3, x4, x5, x6 => m_X3_spreadAsks_L15B vW (m_X3_spreadAsks_L15 vW n) vY x1 x2 x3 x4 x5 x6
def m_X3_spreadAsks_L3B (vW : Ob) (rc : Ob → Int32 → Int32 → Int32 → Int32 → Option ((Ob) ⊕ (Ob))) (vY : Ob) (x1 : Int32) (x2 : Int32) (x3 : Int32) (x4 : Int32) : Option ((Ob) ⊕ (Ob)) :=
  if (5 : Int32) ≤ x4 then (some (.inr vY)) else (((m_X3_spreadAsks_L15 vW FU vY x1 x2 x3 x4 (0 : Int32) (0 : Int32)).bind fun o15_1 => if o15_1.2.2.2.2.2 = 0 then (some (.inl o15_1.1)) else (rc o15_1.1 o15_1.2.1 o15_1.2.2.1 o15_1.2.2.2.1 (o15_1.2.2.2.2.1 + (1 : Int32)))))
def m_X3_spreadAsks_L3 (vW : Ob) : Nat → Ob → Int32 → Int32 → Int32 → Int32 → Option ((Ob) ⊕ (Ob))
  | 0, _, _, _, _, _ => none
  | n + 1, vY, x1, x2, x3, x4 => m_X3_spreadAsks_L3B vW (m_X3_spreadAsks_L3 vW n) vY x1 x2 x3 x4
def m_X3_spreadAsks (vY : Ob) (vW : Ob) (x1 : Int32) (x2 : Int32) (x3 : Int32) : Option (Ob) :=
  ((m_X3_spreadAsks_L3 vW FU vY x1 x2 x3 (0 : Int32)).bind fun o3_2 => Sum.elim (fun r => some r) (fun o3_2x => some o3_2x) o3_2)
def m_X4_hasRoad (vW : Ob) (x1 : Int32) : Option (Int32) :=
  if x1 < 0 then (some (0 : Int32)) else (if (vW 0 1) ≤ x1 then (some (0 : Int32)) else (if (9 : Int32) ≤ x1 then (some (0 : Int32)) else (some (1 : Int32))))
def m_X4_roadStart (vW : Ob) (x1 : Int32) : Option (Int32) :=
  ((m_X4_hasRoad vW x1).bind fun o2 => if o2 = 0 then (some (-9 : Int32)) else (grd (inb x1 9) (some ((vW 8) (Int32.toNatClampNeg x1)))))
def m_X4_roadEnd (vW : Ob) (x1 : Int32) : Option (Int32) :=
  ((m_X4_hasRoad vW x1).bind fun o2 => if o2 = 0 then (some (-9 : Int32)) else (grd (inb x1 9) (some ((vW 9) (Int32.toNatClampNeg x1)))))
def m_X4_roadHours (vW : Ob) (x1 : Int32) : Option (Int32) :=
  ((m_X4_hasRoad vW x1).bind fun o2 => if o2 = 0 then (some (0 : Int32)) else (grd (inb x1 9) (some ((vW 10) (Int32.toNatClampNeg x1)))))
def m_J9_floorMod_7cf53  (x0 : Int32) (x1 : Int32) : Option (Int32) :=
  grd (decide (¬ x1 = 0)) (if 0 ≤ (x0 ^^^ x1) then (some (rem x0 x1)) else (if (rem x0 x1) = 0 then (some (rem x0 x1)) else (some ((rem x0 x1) + x1))))
def m_X4_isOpen (vW : Ob) (x1 : Int32) (x2 : Int32) : Option (Int32) :=
  ((m_X4_hasPlace vW x1).bind fun o2 => if o2 = 0 then (some (1 : Int32)) else (grd (inb x1 7) (if ((vW 6) (Int32.toNatClampNeg x1)) = (-9 : Int32) then (some (1 : Int32)) else (grd (inb x1 7) (((m_J9_floorMod_7cf53 (x2 - ((vW 6) (Int32.toNatClampNeg x1))) (24 : Int32)).bind fun o31 => grd (inb x1 7) (if ((vW 7) (Int32.toNatClampNeg x1)) ≤ o31 then (some (0 : Int32)) else (some (1 : Int32)))))))))
def m_X3_setsLess  (x0 : Int32) (x1 : Int32) : Option (Int32) :=
  ((m_X5_isThing x1).bind fun o1 => if o1 = 0 then (some x0) else (grd (inb x1 5) (some (ushr (x0 &&& (fHav (Int32.toNatClampNeg x1))) ((1 : Int32) <<< (x1 &&& 31))))))
def m_X3_setsWith  (x0 : Int32) (x1 : Int32) : Option (Int32) :=
  ((m_X5_isThing x1).bind fun o1 => if o1 = 0 then (some x0) else (grd (inb x1 5) (some ((x0 <<< (((1 : Int32) <<< (x1 &&& 31)) &&& 31)) &&& (fHav (Int32.toNatClampNeg x1))))))
def m_X3_spreadWalk (vY : Ob) (vW : Ob) (vS : Ob) (x1 : Int32) (x2 : Int32) (x3 : Int32) (x4 : Int32) (x5 : Int32) : Option (Ob) :=
  ((m_X4_isOpen vW x4 ((vS 0 1) + x2)).bind fun o15 => if o15 = 0 then (some vY) else (((m_X4_lionAt vW x4).bind fun o28 => if x5 = 0 then (((m_X3_setsAt vY x2 x4).bind fun o66 => ((m_X3_setsWith o66 o28).bind fun o71 => ((m_X3_addSets vY x1 x3 o71).bind fun o74 => some o74)))) else (((m_X3_setsAt vY x1 x3).bind fun o45 => ((m_X3_setsLess o45 o28).bind fun o50 => ((m_X3_addSets vY x2 x4 o50).bind fun o53 => some o53)))))))
def m_X3_spreadWalks_j93 (vW : Ob) (vS : Ob) (rc : Ob → Int32 → Int32 → Int32 → Int32 → Option (Ob)) (vY : Ob) (x1 : Int32) (x2 : Int32) (x3 : Int32) (x4 : Int32) : Option (Ob) :=
  rc vY x1 x2 x3 (x4 + (1 : Int32))
def m_X3_spreadWalks_L3B (vW : Ob) (vS : Ob) (rc : Ob → Int32 → Int32 → Int32 → Int32 → Option (Ob)) (vY : Ob) (x1 : Int32) (x2 : Int32) (x3 : Int32) (x4 : Int32) : Option (Ob) :=
  if (vW 0 1) ≤ x4 then (some vY) else (if x4 = x3 then (m_X3_spreadWalks_j93 vW vS rc vY x1 x2 x3 x4) else (((m_X4_roadStart vW x4).bind fun o30 => ((m_X4_roadEnd vW x4).bind fun o41 => ((m_X4_roadHours vW x4).bind fun o53 => if (x1 + o53) ≤ (60 : Int32) then (((m_X3_spreadWalk vY vW vS x1 (x1 + o53) o30 o41 x2).bind fun o78 => ((m_X3_spreadWalk o78 vW vS x1 (x1 + o53) o41 o30 x2).bind fun o90 => m_X3_spreadWalks_j93 vW vS rc o90 x1 x2 x3 x4))) else (m_X3_spreadWalks_j93 vW vS rc vY x1 x2 x3 x4))))))
def m_X3_spreadWalks_L3 (vW : Ob) (vS : Ob) : Nat → Ob → Int32 → Int32 → Int32 → Int32 → Option (Ob)
  | 0, _, _, _, _, _ => none
  | n + 1, vY, x1, x2, x3, x4 => m_X3_spreadWalks_L3B vW vS (m_X3_spreadWalks_L3 vW vS n) vY x1 x2 x3 x4
def m_X3_spreadWalks (vY : Ob) (vW : Ob) (vS : Ob) (x1 : Int32) (x2 : Int32) (x3 : Int32) : Option (Ob) :=
  ((m_X3_spreadWalks_L3 vW vS FU vY x1 x2 x3 (0 : Int32)).bind fun o3_1 => some o3_1)
def m_X3_fewestHours_L68B (vW : Ob) (vS : Ob) (rc : Ob → Int32 → Int32 → Int32 → Int32 → Int32 → Option (Ob × Int32 × Int32 × Int32 × Int32)) (vY : Ob) (x1 : Int32) (x2 : Int32) (x3 : Int32) (x4 : Int32) (x5 : Int32) : Option (Ob × Int32 × Int32 × Int32 × Int32) :=
  if (vW 0 0) ≤ x5 then (some (vY, x1, x2, x3, x4)) else (((m_X3_setsAt vY x4 x5).bind fun o92 => ((m_X3_addSets vY (x4 + (1 : Int32)) x5 o92).bind fun o95 => rc o95 x1 x2 x3 x4 (x5 + (1 : Int32)))))
def m_X3_fewestHours_L68 (vW : Ob) (vS : Ob) : Nat → Ob → Int32 → Int32 → Int32 → Int32 → Int32 → Option (Ob × Int32 × Int32 × Int32 × Int32)
  | 0, _, _, _, _, _, _ => none
  | n + 1, vY, x1, x2, x3, x4, x5 => m_X3_fewestHours_L68B vW vS (m_X3_fewestHours_L68 vW vS n) vY x1 x2 x3 x4 x5
def m_X3_fewestHours_L32B (vW : Ob) (vS : Ob) (rc : Ob → Int32 → Int32 → Int32 → Int32 → Option ((Int32 × Ob) ⊕ (Ob))) (vY : Ob) (x1 : Int32) (x2 : Int32) (x3 : Int32) (x4 : Int32) : Option ((Int32 × Ob) ⊕ (Ob)) :=
  if (60 : Int32) < x4 then (some (.inr vY)) else (((m_X3_spreadAsks vY vW x4 (1 : Int32) x3).bind fun o44 => ((m_X3_setsAt o44 x4 (0 : Int32)).bind fun o51 => ((m_X3_setsHaving x1).bind fun o55 => if (o51 &&& o55) = 0 then (((m_X3_fewestHours_L68 vW vS FU o44 x1 x2 x3 x4 (0 : Int32)).bind fun o68_1 => ((m_X3_spreadWalks o68_1.1 vW vS o68_1.2.2.2.2 (1 : Int32) o68_1.2.2.1).bind fun o109 => rc o109 o68_1.2.1 o68_1.2.2.1 o68_1.2.2.2.1 (o68_1.2.2.2.2 + (1 : Int32))))) else (some (.inl (x4, o44)))))))
def m_X3_fewestHours_L32 (vW : Ob) (vS : Ob) : Nat → Ob → Int32 → Int32 → Int32 → Int32 → Option ((Int32 × Ob) ⊕ (Ob))
  | 0, _, _, _, _, _ => none
  | n + 1, vY, x1, x2, x3, x4 => m_X3_fewestHours_L32B vW vS (m_X3_fewestHours_L32 vW vS n) vY x1 x2 x3 x4
def m_X3_fewestHours (vY : Ob) (vW : Ob) (vS : Ob) (x1 : Int32) (x2 : Int32) (x3 : Int32) : Option (Int32 × Ob) :=
  ((m_J7_fill_53178 (vY 3) (0 : Int32)).bind fun o5 => ((m_X3_addSets (upR vY 3 o5) (0 : Int32) (vS 0 0) ((1 : Int32) <<< ((vS 0 2) &&& 31))).bind fun o26 => ((m_X3_fewestHours_L32 vW vS FU o26 x1 x2 x3 (0 : Int32)).bind fun o32_2 => Sum.elim (fun r => some r) (fun o32_2x => some ((-9 : Int32), o32_2x)) o32_2)))
def m_X3_fillBackward_L27B (vW : Ob) (vS : Ob) (rc : Ob → Int32 → Int32 → Option (Ob × Int32)) (vY : Ob) (x3 : Int32) (x4 : Int32) : Option (Ob × Int32) :=
  if (vW 0 0) ≤ x4 then (some (vY, x3)) else (((m_X3_setsAt vY (x3 + (1 : Int32)) x4).bind fun o49 => ((m_X3_addSets vY x3 x4 o49).bind fun o52 => rc o52 x3 (x4 + (1 : Int32)))))
def m_X3_fillBackward_L27 (vW : Ob) (vS : Ob) : Nat → Ob → Int32 → Int32 → Option (Ob × Int32)
  | 0, _, _, _ => none
  | n + 1, vY, x3, x4 => m_X3_fillBackward_L27B vW vS (m_X3_fillBackward_L27 vW vS n) vY x3 x4
def m_X3_fillBackward_L20B (vW : Ob) (vS : Ob) (rc : Ob → Int32 → Option (Ob)) (vY : Ob) (x3 : Int32) : Option (Ob) :=
  if x3 < 0 then (some vY) else (((m_X3_fillBackward_L27 vW vS FU vY x3 (0 : Int32)).bind fun o27_1 => ((m_X3_spreadWalks o27_1.1 vW vS o27_1.2 (0 : Int32) (-1 : Int32)).bind fun o65 => ((m_X3_spreadAsks o65 vW o27_1.2 (0 : Int32) (-1 : Int32)).bind fun o72 => rc o72 (o27_1.2 + (-1 : Int32))))))
def m_X3_fillBackward_L20 (vW : Ob) (vS : Ob) : Nat → Ob → Int32 → Option (Ob)
  | 0, _, _ => none
  | n + 1, vY, x3 => m_X3_fillBackward_L20B vW vS (m_X3_fillBackward_L20 vW vS n) vY x3
def m_X3_fillBackward (vY : Ob) (vW : Ob) (vS : Ob) (x1 : Int32) (x2 : Int32) : Option (Ob) :=
  ((m_J7_fill_53178 (vY 3) (0 : Int32)).bind fun o5 => ((m_X3_setsHaving x1).bind fun o12 => ((m_X3_addSets (upR vY 3 o5) x2 (0 : Int32) o12).bind fun o15 => ((m_X3_fillBackward_L20 vW vS FU o15 x2).bind fun o20_2 => some o20_2))))
def m_X3_standAtStart (vY : Ob)  : Option (Ob) :=
  some (st (st (st vY 0 11 (vY 0 8)) 0 12 (0 : Int32)) 0 13 (vY 0 10))
def m_X5_hasThing_j22    : Option (Int32) :=
  some (1 : Int32)
def m_X5_hasThing  (x0 : Int32) (x1 : Int32) : Option (Int32) :=
  if x1 = (9 : Int32) then (m_X5_hasThing_j22  ) else (((m_X5_isThing x1).bind fun o7 => if o7 = 0 then (some (0 : Int32)) else (if ((x0 >>> (x1 &&& 31)) &&& (1 : Int32)) = (1 : Int32) then (m_X5_hasThing_j22  ) else (some (0 : Int32)))))
def m_X3_canBeHome (vY : Ob) (x1 : Int32) (x2 : Int32) (x3 : Int32) : Option (Int32) :=
  ((m_X3_isCell x1 x2).bind fun o2 => if o2 = 0 then (some (0 : Int32)) else (grd (inb ((x1 * (7 : Int32)) + x2) 427) (if ((ushr ((vY 3) (Int32.toNatClampNeg ((x1 * (7 : Int32)) + x2))) x3) &&& (1 : Int32)) = (1 : Int32) then (some (1 : Int32)) else (some (0 : Int32)))))
def m_X4_farEnd (vW : Ob) (x1 : Int32) (x2 : Int32) : Option (Int32) :=
  ((m_X4_hasRoad vW x1).bind fun o2 => if o2 = 0 then (some (-9 : Int32)) else (grd (inb x1 9) (if ((vW 8) (Int32.toNatClampNeg x1)) = x2 then (grd (inb x1 9) (some ((vW 9) (Int32.toNatClampNeg x1)))) else (grd (inb x1 9) (if ((vW 9) (Int32.toNatClampNeg x1)) = x2 then (grd (inb x1 9) (some ((vW 8) (Int32.toNatClampNeg x1)))) else (some (-9 : Int32)))))))
def m_X4_letsIn (vW : Ob) (x1 : Int32) (x2 : Int32) (x3 : Int32) : Option (Int32) :=
  ((m_X4_isOpen vW x1 x2).bind fun o3 => if o3 = 0 then (some (0 : Int32)) else (((m_X4_lionAt vW x1).bind fun o12 => ((m_X5_hasThing x3 o12).bind fun o15 => if o15 = 0 then (some (0 : Int32)) else (some (1 : Int32))))))
def m_X4_thingsInside (vW : Ob) (x1 : Int32) (x2 : Int32) : Option (Int32) :=
  ((m_X4_lionAt vW x1).bind fun o2 => ((m_X5_isThing o2).bind fun o7 => if o7 = 0 then (some x2) else (some (x2 &&& (((1 : Int32) <<< (o2 &&& 31)) ^^^ (-1 : Int32))))))
def m_X3_isWalkHomeward (vY : Ob) (vW : Ob) (vS : Ob) (x1 : Int32) : Option (Int32) :=
  ((m_X4_farEnd vW x1 (vY 0 11)).bind fun o9 => ((m_X4_roadHours vW x1).bind fun o22 => if o9 = (-9 : Int32) then (some (0 : Int32)) else (((m_X4_letsIn vW o9 ((vS 0 1) + ((vY 0 12) + o22)) (vY 0 13)).bind fun o51 => if o51 = 0 then (some (0 : Int32)) else (((m_X4_thingsInside vW o9 (vY 0 13)).bind fun o69 => ((m_X3_canBeHome vY ((vY 0 12) + o22) o9 o69).bind fun o72 => if o72 = 0 then (some (0 : Int32)) else (some (1 : Int32)))))))))
def m_X4_isGiven (vW : Ob) (x1 : Int32) (x2 : Int32) (x3 : Int32) : Option (Int32) :=
  ((m_X4_hasHost vW x1).bind fun o2 => if o2 = 0 then (some (0 : Int32)) else (grd (inb x1 6) (if ((vW 11) (Int32.toNatClampNeg x1)) = x2 then (grd (inb x1 6) (((m_X5_hasThing x3 ((vW 13) (Int32.toNatClampNeg x1))).bind fun o25 => if o25 = 0 then (some (0 : Int32)) else (grd (inb x1 6) (((m_X5_hasThing x3 ((vW 12) (Int32.toNatClampNeg x1))).bind fun o38 => if o38 = 0 then (some (1 : Int32)) else (some (0 : Int32)))))))) else (some (0 : Int32)))))
def m_X3_isAskHomeward (vY : Ob) (vW : Ob) (x1 : Int32) : Option (Int32) :=
  ((m_X4_isGiven vW x1 (vY 0 11) (vY 0 13)).bind fun o13 => if o13 = 0 then (some (0 : Int32)) else (((m_X4_hostGives vW x1).bind fun o38 => ((m_X3_canBeHome vY (vY 0 12) (vY 0 11) ((vY 0 13) ||| ((1 : Int32) <<< (o38 &&& 31)))).bind fun o43 => if o43 = 0 then (some (0 : Int32)) else (some (1 : Int32))))))
def m_X3_nextStep_L49B (vY : Ob) (vW : Ob) (vS : Ob) (rc : Int32 → Option ((Int32) ⊕ (Unit))) (x1 : Int32) : Option ((Int32) ⊕ (Unit)) :=
  if (vW 0 1) ≤ x1 then (some (.inr ())) else (((m_X3_isWalkHomeward vY vW vS x1).bind fun o62 => if o62 = 0 then (rc (x1 + (1 : Int32))) else (some (.inl ((1 : Int32) + x1)))))
def m_X3_nextStep_L49 (vY : Ob) (vW : Ob) (vS : Ob) : Nat → Int32 → Option ((Int32) ⊕ (Unit))
  | 0, _ => none
  | n + 1, x1 => m_X3_nextStep_L49B vY vW vS (m_X3_nextStep_L49 vY vW vS n) x1
def m_X3_nextStep_L80B (vY : Ob) (vW : Ob) (vS : Ob) (rc : Int32 → Option ((Int32) ⊕ (Unit))) (x1 : Int32) : Option ((Int32) ⊕ (Unit)) :=
  if (vW 0 2) ≤ x1 then (some (.inr ())) else (((m_X3_isAskHomeward vY vW x1).bind fun o93 => if o93 = 0 then (rc (x1 + (1 : Int32))) else (some (.inl ((11 : Int32) + x1)))))
def m_X3_nextStep_L80 (vY : Ob) (vW : Ob) (vS : Ob) : Nat → Int32 → Option ((Int32) ⊕ (Unit))
  | 0, _ => none
  | n + 1, x1 => m_X3_nextStep_L80B vY vW vS (m_X3_nextStep_L80 vY vW vS n) x1
def m_X3_nextStep_j24 (vY : Ob) (vW : Ob) (vS : Ob)   : Option (Int32) :=
  ((m_X3_canBeHome vY ((vY 0 12) + (1 : Int32)) (vY 0 11) (vY 0 13)).bind fun o39 => if o39 = 0 then (((m_X3_nextStep_L49 vY vW vS FU (0 : Int32)).bind fun o49_1 => Sum.elim (fun r => some r) (fun o49_1x => ((m_X3_nextStep_L80 vY vW vS FU (0 : Int32)).bind fun o80_2 => Sum.elim (fun r => some r) (fun o80_2x => some (-9 : Int32)) o80_2)) o49_1)) else (some (0 : Int32)))
def m_X3_nextStep (vY : Ob) (vW : Ob) (vS : Ob)  : Option (Int32) :=
  if (vY 0 11) = 0 then (((m_X5_hasThing (vY 0 13) (vY 0 7)).bind fun o15 => if o15 = 0 then (m_X3_nextStep_j24 vY vW vS ) else (some (-9 : Int32)))) else (m_X3_nextStep_j24 vY vW vS )
def m_X3_isWalk  (x0 : Int32) : Option (Int32) :=
  if x0 < (1 : Int32) then (some (0 : Int32)) else (if (11 : Int32) ≤ x0 then (some (0 : Int32)) else (some (1 : Int32)))
def m_X3_takeStep (vY : Ob) (vW : Ob) (x1 : Int32) : Option (Ob) :=
  if x1 = 0 then (some (st vY 0 12 ((vY 0 12) + (1 : Int32)))) else (((m_X3_isWalk x1).bind fun o18 => if o18 = 0 then (((m_X4_hostGives vW (x1 - (11 : Int32))).bind fun o97 => some (st vY 0 13 ((vY 0 13) ||| ((1 : Int32) <<< (o97 &&& 31)))))) else (((m_X4_farEnd vW (x1 - (1 : Int32)) (vY 0 11)).bind fun o38 => ((m_X4_roadHours vW (x1 - (1 : Int32))).bind fun o54 => ((m_X4_thingsInside vW o38 (vY 0 13)).bind fun o74 => some (st (st (st vY 0 11 o38) 0 12 ((vY 0 12) + o54)) 0 13 o74)))))))
def m_X3_findWay_L88B (vW : Ob) (vS : Ob) (rc : Ob → Int32 → Option ((Ob) ⊕ (Ob))) (vY : Ob) (x2 : Int32) : Option ((Ob) ⊕ (Ob)) :=
  if (125 : Int32) ≤ x2 then (some (.inr vY)) else (((m_X3_nextStep vY vW vS).bind fun o95 => if o95 = (-9 : Int32) then (some (.inl vY)) else (grd (inb x2 125) (((m_X3_takeStep (st (st vY 5 (Int32.toNatClampNeg x2) o95) 0 5 (x2 + (1 : Int32))) vW o95).bind fun o122 => rc o122 (x2 + (1 : Int32)))))))
def m_X3_findWay_L88 (vW : Ob) (vS : Ob) : Nat → Ob → Int32 → Option ((Ob) ⊕ (Ob))
  | 0, _, _ => none
  | n + 1, vY, x2 => m_X3_findWay_L88B vW vS (m_X3_findWay_L88 vW vS n) vY x2
def m_X3_findWay (vY : Ob) (vW : Ob) (vS : Ob) (x1 : Int32) : Option (Ob) :=
  ((m_X3_isWayKnown vY vS x1).bind fun o2 => if o2 = 0 then (((m_X3_fewestHours (st (st (st (st (st vY 0 7 x1) 0 8 (vS 0 0)) 0 9 (vS 0 1)) 0 10 (vS 0 2)) 0 5 (0 : Int32)) vW vS x1 (-1 : Int32) (-1 : Int32)).bind fun o57 => if o57.1 = (-9 : Int32) then (some (st o57.2 0 6 o57.1)) else (((m_X3_fillBackward (st o57.2 0 6 o57.1) vW vS x1 o57.1).bind fun o79 => ((m_X3_standAtStart o79).bind fun o83 => ((m_X3_findWay_L88 vW vS FU o83 (0 : Int32)).bind fun o88_1 => Sum.elim (fun r => some r) (fun o88_1x => some o88_1x) o88_1)))))) else (some vY))
def m_X3_stepOfWay (vY : Ob) (x1 : Int32) : Option (Int32) :=
  if x1 < 0 then (some (-9 : Int32)) else (if (vY 0 5) ≤ x1 then (some (-9 : Int32)) else (if (125 : Int32) ≤ x1 then (some (-9 : Int32)) else (grd (inb x1 125) (some ((vY 5) (Int32.toNatClampNeg x1))))))
def m_X3_brotherHoursTo (vY : Ob) (vW : Ob) (x1 : Int32) : Option (Int32) :=
  ((m_X4_hasPlace vW x1).bind fun o5 => if o5 = 0 then (some (1000 : Int32)) else (grd (inb x1 7) (some ((vY 4) (Int32.toNatClampNeg x1)))))
def m_X3_shortenBrother (vY : Ob) (vW : Ob) (x1 : Int32) (x2 : Int32) (x3 : Int32) : Option (Ob) :=
  ((m_X3_brotherHoursTo vY vW x2).bind fun o2 => ((m_X4_roadHours vW x1).bind fun o10 => ((m_X4_hasPlace vW x3).bind fun o21 => if o21 = 0 then (some vY) else (grd (inb x3 7) (if ((vY 4) (Int32.toNatClampNeg x3)) ≤ (o2 + o10) then (some vY) else (grd (inb x3 7) (some (st vY 4 (Int32.toNatClampNeg x3) (o2 + o10)))))))))
def m_X3_measureBrother_j25 (vW : Ob) (rc : Ob → Int32 → Int32 → Option (Ob)) (vY : Ob) (x1 : Int32) (x2 : Int32) (s1 : Int32) (s2 : Int32) : Option (Ob) :=
  grd (inb s1 7) (rc (st vY 4 (Int32.toNatClampNeg s1) s2) x1 (x2 + (1 : Int32)))
def m_X3_measureBrother_L2B (vW : Ob) (rc : Ob → Int32 → Int32 → Option (Ob)) (vY : Ob) (x1 : Int32) (x2 : Int32) : Option (Ob) :=
  if (7 : Int32) ≤ x2 then (some vY) else (if x2 = x1 then (m_X3_measureBrother_j25 vW rc vY x1 x2 x2 (0 : Int32)) else (m_X3_measureBrother_j25 vW rc vY x1 x2 x2 (1000 : Int32)))
def m_X3_measureBrother_L2 (vW : Ob) : Nat → Ob → Int32 → Int32 → Option (Ob)
  | 0, _, _, _ => none
  | n + 1, vY, x1, x2 => m_X3_measureBrother_L2B vW (m_X3_measureBrother_L2 vW n) vY x1 x2
def m_X3_measureBrother_L42B (vW : Ob) (rc : Ob → Int32 → Int32 → Option (Ob × Int32)) (vY : Ob) (x2 : Int32) (x3 : Int32) : Option (Ob × Int32) :=
  if (vW 0 1) ≤ x3 then (some (vY, x2)) else (((m_X4_roadStart vW x3).bind fun o60 => ((m_X4_roadEnd vW x3).bind fun o68 => ((m_X3_shortenBrother vY vW x3 o60 o68).bind fun o71 => ((m_X4_roadEnd vW x3).bind fun o81 => ((m_X4_roadStart vW x3).bind fun o89 => ((m_X3_shortenBrother o71 vW x3 o81 o89).bind fun o92 => rc o92 x2 (x3 + (1 : Int32)))))))))
def m_X3_measureBrother_L42 (vW : Ob) : Nat → Ob → Int32 → Int32 → Option (Ob × Int32)
  | 0, _, _, _ => none
  | n + 1, vY, x2, x3 => m_X3_measureBrother_L42B vW (m_X3_measureBrother_L42 vW n) vY x2 x3
def m_X3_measureBrother_L34B (vW : Ob) (rc : Ob → Int32 → Option (Ob)) (vY : Ob) (x2 : Int32) : Option (Ob) :=
  if (7 : Int32) ≤ x2 then (some vY) else (((m_X3_measureBrother_L42 vW FU vY x2 (0 : Int32)).bind fun o42_2 => rc o42_2.1 (o42_2.2 + (1 : Int32))))
def m_X3_measureBrother_L34 (vW : Ob) : Nat → Ob → Int32 → Option (Ob)
  | 0, _, _ => none
  | n + 1, vY, x2 => m_X3_measureBrother_L34B vW (m_X3_measureBrother_L34 vW n) vY x2
def m_X3_measureBrother (vY : Ob) (vW : Ob) (x1 : Int32) : Option (Ob) :=
  ((m_X3_measureBrother_L2 vW FU vY x1 (0 : Int32)).bind fun o2_1 => ((m_X3_measureBrother_L34 vW FU o2_1 (1 : Int32)).bind fun o34_3 => some o34_3))
def m_X3_placeOfRobbery_j83 (vW : Ob) (rc : Ob → Int32 → Option ((Int32 × Ob) ⊕ (Ob))) (vY : Ob) (x2 : Int32) : Option ((Int32 × Ob) ⊕ (Ob)) :=
  rc vY (x2 + (1 : Int32))
def m_X3_placeOfRobbery_L11B (vW : Ob) (rc : Ob → Int32 → Option ((Int32 × Ob) ⊕ (Ob))) (vY : Ob) (x2 : Int32) : Option ((Int32 × Ob) ⊕ (Ob)) :=
  if (vY 0 5) ≤ x2 then (some (.inr vY)) else (if (125 : Int32) ≤ x2 then (some (.inr vY)) else (((m_X5_hasThing (vY 0 13) (vY 0 7)).bind fun o33 => grd (inb x2 125) (((m_X3_takeStep vY vW ((vY 5) (Int32.toNatClampNeg x2))).bind fun o44 => grd (inb x2 125) (((m_X3_isWalk ((o44 5) (Int32.toNatClampNeg x2))).bind fun o53 => if o53 = 0 then (m_X3_placeOfRobbery_j83 vW rc o44 x2) else (if o33 = 0 then (m_X3_placeOfRobbery_j83 vW rc o44 x2) else (((m_X3_brotherHoursTo o44 vW (o44 0 11)).bind fun o68 => if (o44 0 12) < o68 then (m_X3_placeOfRobbery_j83 vW rc o44 x2) else (some (.inl ((o44 0 11), o44)))))))))))))
def m_X3_placeOfRobbery_L11 (vW : Ob) : Nat → Ob → Int32 → Option ((Int32 × Ob) ⊕ (Ob))
  | 0, _, _ => none
  | n + 1, vY, x2 => m_X3_placeOfRobbery_L11B vW (m_X3_placeOfRobbery_L11 vW n) vY x2
def m_X3_placeOfRobbery (vY : Ob) (vW : Ob) (x1 : Int32) : Option (Int32 × Ob) :=
  ((m_X3_measureBrother vY vW x1).bind fun o2 => ((m_X3_standAtStart o2).bind fun o6 => ((m_X3_placeOfRobbery_L11 vW FU o6 (0 : Int32)).bind fun o11_1 => Sum.elim (fun r => some r) (fun o11_1x => some ((-9 : Int32), o11_1x)) o11_1)))
def m_X3_usedSteps_L4B (vY : Ob) (rc : Int32 → Int32 → Option (Int32)) (x1 : Int32) (x2 : Int32) : Option (Int32) :=
  if (vY 0 5) ≤ x2 then (some x1) else (if (125 : Int32) ≤ x2 then (some x1) else (grd (inb x2 125) (rc (x1 ||| ((1 : Int32) <<< (((vY 5) (Int32.toNatClampNeg x2)) &&& 31))) (x2 + (1 : Int32)))))
def m_X3_usedSteps_L4 (vY : Ob) : Nat → Int32 → Int32 → Option (Int32)
  | 0, _, _ => none
  | n + 1, x1, x2 => m_X3_usedSteps_L4B vY (m_X3_usedSteps_L4 vY n) x1 x2
def m_X3_usedSteps (vY : Ob)  : Option (Int32) :=
  ((m_X3_usedSteps_L4 vY FU (0 : Int32) (0 : Int32)).bind fun o4_1 => some o4_1)
def m_X3_neededRoads_j64 (vW : Ob) (vS : Ob) (rc : Ob → Int32 → Int32 → Int32 → Option (Ob × Int32)) (vY : Ob) (x1 : Int32) (x2 : Int32) (x3 : Int32) : Option (Ob × Int32) :=
  rc vY x1 x2 (x3 + (1 : Int32))
def m_X3_neededRoads_j36 (vW : Ob) (vS : Ob) (rc : Ob → Int32 → Int32 → Int32 → Option (Ob × Int32)) (vY : Ob) (x1 : Int32) (x2 : Int32) (x3 : Int32) (s0 : Int32) : Option (Ob × Int32) :=
  if s0 = 0 then (m_X3_neededRoads_j64 vW vS rc vY x1 x2 x3) else (((m_X3_fewestHours vY vW vS (vY 0 7) x3 (-1 : Int32)).bind fun o50 => if o50.1 = (-9 : Int32) then (m_X3_neededRoads_j64 vW vS rc o50.2 x1 (x2 ||| ((1 : Int32) <<< (x3 &&& 31))) x3) else (m_X3_neededRoads_j64 vW vS rc o50.2 x1 x2 x3)))
def m_X3_neededRoads_L9B (vW : Ob) (vS : Ob) (rc : Ob → Int32 → Int32 → Int32 → Option (Ob × Int32)) (vY : Ob) (x1 : Int32) (x2 : Int32) (x3 : Int32) : Option (Ob × Int32) :=
  if (vW 0 1) ≤ x3 then (some (vY, x2)) else (if ((x1 >>> (((1 : Int32) + x3) &&& 31)) &&& (1 : Int32)) = (1 : Int32) then (m_X3_neededRoads_j36 vW vS rc vY x1 x2 x3 (1 : Int32)) else (m_X3_neededRoads_j36 vW vS rc vY x1 x2 x3 (0 : Int32)))
def m_X3_neededRoads_L9 (vW : Ob) (vS : Ob) : Nat → Ob → Int32 → Int32 → Int32 → Option (Ob × Int32)
  | 0, _, _, _, _ => none
  | n + 1, vY, x1, x2, x3 => m_X3_neededRoads_L9B vW vS (m_X3_neededRoads_L9 vW vS n) vY x1 x2 x3
def m_X3_neededRoads (vY : Ob) (vW : Ob) (vS : Ob)  : Option (Int32 × Ob) :=
  ((m_X3_usedSteps vY).bind fun o1 => ((m_X3_neededRoads_L9 vW vS FU vY o1 (0 : Int32) (0 : Int32)).bind fun o9_1 => some (o9_1.2, o9_1.1)))
def m_X3_neededHosts_j65 (vW : Ob) (vS : Ob) (rc : Ob → Int32 → Int32 → Int32 → Option (Ob × Int32)) (vY : Ob) (x1 : Int32) (x2 : Int32) (x3 : Int32) : Option (Ob × Int32) :=
  rc vY x1 x2 (x3 + (1 : Int32))
def m_X3_neededHosts_j37 (vW : Ob) (vS : Ob) (rc : Ob → Int32 → Int32 → Int32 → Option (Ob × Int32)) (vY : Ob) (x1 : Int32) (x2 : Int32) (x3 : Int32) (s0 : Int32) : Option (Ob × Int32) :=
  if s0 = 0 then (m_X3_neededHosts_j65 vW vS rc vY x1 x2 x3) else (((m_X3_fewestHours vY vW vS (vY 0 7) (-1 : Int32) x3).bind fun o51 => if o51.1 = (-9 : Int32) then (m_X3_neededHosts_j65 vW vS rc o51.2 x1 (x2 ||| ((1 : Int32) <<< (x3 &&& 31))) x3) else (m_X3_neededHosts_j65 vW vS rc o51.2 x1 x2 x3)))
def m_X3_neededHosts_L9B (vW : Ob) (vS : Ob) (rc : Ob → Int32 → Int32 → Int32 → Option (Ob × Int32)) (vY : Ob) (x1 : Int32) (x2 : Int32) (x3 : Int32) : Option (Ob × Int32) :=
  if (vW 0 2) ≤ x3 then (some (vY, x2)) else (if ((x1 >>> (((11 : Int32) + x3) &&& 31)) &&& (1 : Int32)) = (1 : Int32) then (m_X3_neededHosts_j37 vW vS rc vY x1 x2 x3 (1 : Int32)) else (m_X3_neededHosts_j37 vW vS rc vY x1 x2 x3 (0 : Int32)))
def m_X3_neededHosts_L9 (vW : Ob) (vS : Ob) : Nat → Ob → Int32 → Int32 → Int32 → Option (Ob × Int32)
  | 0, _, _, _, _ => none
  | n + 1, vY, x1, x2, x3 => m_X3_neededHosts_L9B vW vS (m_X3_neededHosts_L9 vW vS n) vY x1 x2 x3
def m_X3_neededHosts (vY : Ob) (vW : Ob) (vS : Ob)  : Option (Int32 × Ob) :=
  ((m_X3_usedSteps vY).bind fun o1 => ((m_X3_neededHosts_L9 vW vS FU vY o1 (0 : Int32) (0 : Int32)).bind fun o9_1 => some (o9_1.2, o9_1.1)))
def m_X3_mostWaiting_L8B (vW : Ob) (vS : Ob) (rc : Ob → Int32 → Option ((Int32 × Ob) ⊕ (Ob))) (vY : Ob) (x3 : Int32) : Option ((Int32 × Ob) ⊕ (Ob)) :=
  if x3 < 0 then (some (.inr vY)) else (((m_X3_canBeHome vY x3 (vS 0 0) (vS 0 2)).bind fun o28 => if o28 = 0 then (rc vY (x3 + (-1 : Int32))) else (some (.inl (x3, vY)))))
def m_X3_mostWaiting_L8 (vW : Ob) (vS : Ob) : Nat → Ob → Int32 → Option ((Int32 × Ob) ⊕ (Ob))
  | 0, _, _ => none
  | n + 1, vY, x3 => m_X3_mostWaiting_L8B vW vS (m_X3_mostWaiting_L8 vW vS n) vY x3
def m_X3_mostWaiting (vY : Ob) (vW : Ob) (vS : Ob) (x1 : Int32) (x2 : Int32) : Option (Int32 × Ob) :=
  ((m_X3_fillBackward vY vW vS x1 x2).bind fun o3 => ((m_X3_mostWaiting_L8 vW vS FU o3 x2).bind fun o8_1 => Sum.elim (fun r => some r) (fun o8_1x => some ((-9 : Int32), o8_1x)) o8_1))
def m_X4_becomeLike (vW : Ob) (vO : Ob)  : Option (Ob) :=
  some (upR (upR (upR (upR (upR (upR (upR (upR (upR (st (st (st (st vW 0 0 (vO 0 0)) 0 1 (vO 0 1)) 0 2 (vO 0 2)) 0 3 (vO 0 3)) 5 (va_cpy (vO 5) (vW 5) (Int32.toNatClampNeg (0 : Int32)) (Int32.toNatClampNeg (0 : Int32)) (Int32.toNatClampNeg (7 : Int32)))) 6 (va_cpy (vO 6) (vW 6) (Int32.toNatClampNeg (0 : Int32)) (Int32.toNatClampNeg (0 : Int32)) (Int32.toNatClampNeg (7 : Int32)))) 7 (va_cpy (vO 7) (vW 7) (Int32.toNatClampNeg (0 : Int32)) (Int32.toNatClampNeg (0 : Int32)) (Int32.toNatClampNeg (7 : Int32)))) 8 (va_cpy (vO 8) (vW 8) (Int32.toNatClampNeg (0 : Int32)) (Int32.toNatClampNeg (0 : Int32)) (Int32.toNatClampNeg (9 : Int32)))) 9 (va_cpy (vO 9) (vW 9) (Int32.toNatClampNeg (0 : Int32)) (Int32.toNatClampNeg (0 : Int32)) (Int32.toNatClampNeg (9 : Int32)))) 10 (va_cpy (vO 10) (vW 10) (Int32.toNatClampNeg (0 : Int32)) (Int32.toNatClampNeg (0 : Int32)) (Int32.toNatClampNeg (9 : Int32)))) 11 (va_cpy (vO 11) (vW 11) (Int32.toNatClampNeg (0 : Int32)) (Int32.toNatClampNeg (0 : Int32)) (Int32.toNatClampNeg (6 : Int32)))) 12 (va_cpy (vO 12) (vW 12) (Int32.toNatClampNeg (0 : Int32)) (Int32.toNatClampNeg (0 : Int32)) (Int32.toNatClampNeg (6 : Int32)))) 13 (va_cpy (vO 13) (vW 13) (Int32.toNatClampNeg (0 : Int32)) (Int32.toNatClampNeg (0 : Int32)) (Int32.toNatClampNeg (6 : Int32))))
def m_X4_gateHoursAt (vW : Ob) (x1 : Int32) : Option (Int32) :=
  ((m_X4_hasPlace vW x1).bind fun o2 => if o2 = 0 then (some (24 : Int32)) else (grd (inb x1 7) (some ((vW 7) (Int32.toNatClampNeg x1)))))
def m_X4_hoursAround (vW : Ob)  : Option (Int32) :=
  some (((2 : Int32) * (vW 0 3)) + (1 : Int32))
def m_X4_openAround_j33 (vW : Ob) (rc : Int32 → Int32 → Int32 → Int32 → Option (Int32)) (x1 : Int32) (x2 : Int32) (x3 : Int32) (x4 : Int32) : Option (Int32) :=
  rc x1 x2 x3 (x4 + (1 : Int32))
def m_X4_openAround_L9B (vW : Ob) (rc : Int32 → Int32 → Int32 → Int32 → Option (Int32)) (x1 : Int32) (x2 : Int32) (x3 : Int32) (x4 : Int32) : Option (Int32) :=
  if (vW 0 3) < x4 then (some x3) else (((m_X4_isOpen vW x1 (x2 + x4)).bind fun o24 => if o24 = 0 then (m_X4_openAround_j33 vW rc x1 x2 x3 x4) else (m_X4_openAround_j33 vW rc x1 x2 (x3 + (1 : Int32)) x4)))
def m_X4_openAround_L9 (vW : Ob) : Nat → Int32 → Int32 → Int32 → Int32 → Option (Int32)
  | 0, _, _, _, _ => none
  | n + 1, x1, x2, x3, x4 => m_X4_openAround_L9B vW (m_X4_openAround_L9 vW n) x1 x2 x3 x4
def m_X4_openAround (vW : Ob) (x1 : Int32) (x2 : Int32) : Option (Int32) :=
  ((m_X4_openAround_L9 vW FU x1 x2 (0 : Int32) (-(vW 0 3))).bind fun o9_1 => some o9_1)
def m_X5_type (vX : Ob) (x1 : Int32) : Option (Int32 × Ob) :=
  ((m_X5_isWithin x1 (0 : Int32) (255 : Int32)).bind fun o5 => if o5 = 0 then (some ((-1 : Int32), vX)) else (if (vX 0 1) < 0 then (some ((-3 : Int32), vX)) else (if (vX 0 1) < (200 : Int32) then (grd (inb (vX 0 1) 200) (some (((vX 0 1) + (1 : Int32)), (st (st vX 1 (Int32.toNatClampNeg (vX 0 1)) x1) 0 1 ((vX 0 1) + (1 : Int32)))))) else (some ((-3 : Int32), vX)))))
def m_X5_clear (vX : Ob)  : Option (Int32 × Ob) :=
  some ((vX 0 1), (st vX 0 1 (0 : Int32)))
def m_X5_tale (vX : Ob) (vR : Ob) (vY : Ob) (vC : Ob) (vW : Ob) (vD : Ob) (vS : Ob) (vI : Ob) (vJ : Ob)  : Option (Int32 × Ob × Ob × Ob × Ob × Ob × Ob × Ob × Ob × Ob) :=
  ((m_X1_readTale vR vD (vX 1) (vX 0 1)).bind fun o8 => if 0 ≤ o8.1 then (((m_X4_becomeLike vW o8.2.2).bind fun o31 => ((m_X2_startAnew vS).bind fun o38 => ((m_X3_forgetWay vY).bind fun o45 => ((m_X0_forgetAll vC).bind fun o68 => some (o8.1, (st vX 0 1 (0 : Int32)), o8.2.1, o45, o68, o31, o8.2.2, o38, (st vI 0 4 (0 : Int32)), (st vJ 0 4 (0 : Int32)))))))) else (some (o8.1, vX, o8.2.1, vY, vC, vW, o8.2.2, vS, vI, vJ)))
def m_X5_place (vX : Ob) (vW : Ob) (x1 : Int32) (x2 : Int32) : Option (Int32) :=
  ((m_X4_hasPlace vW x1).bind fun o5 => if o5 = 0 then (some (-1 : Int32)) else (if x2 = (0 : Int32) then (((m_X4_lionAt vW x1).bind fun o45 => some o45)) else (if x2 = (1 : Int32) then (((m_X4_gateFromAt vW x1).bind fun o54 => some o54)) else (if x2 = (2 : Int32) then (((m_X4_gateHoursAt vW x1).bind fun o63 => some o63)) else (some (-1 : Int32))))))
def m_X5_road (vX : Ob) (vW : Ob) (x1 : Int32) (x2 : Int32) : Option (Int32) :=
  ((m_X4_hasRoad vW x1).bind fun o5 => if o5 = 0 then (some (-1 : Int32)) else (if x2 = (0 : Int32) then (((m_X4_roadStart vW x1).bind fun o45 => some o45)) else (if x2 = (1 : Int32) then (((m_X4_roadEnd vW x1).bind fun o54 => some o54)) else (if x2 = (2 : Int32) then (((m_X4_roadHours vW x1).bind fun o63 => some o63)) else (some (-1 : Int32))))))
def m_X5_host (vX : Ob) (vW : Ob) (x1 : Int32) (x2 : Int32) : Option (Int32) :=
  ((m_X4_hasHost vW x1).bind fun o5 => if o5 = 0 then (some (-1 : Int32)) else (if x2 = (0 : Int32) then (((m_X4_hostPlace vW x1).bind fun o45 => some o45)) else (if x2 = (1 : Int32) then (((m_X4_hostGives vW x1).bind fun o54 => some o54)) else (if x2 = (2 : Int32) then (((m_X4_hostAsks vW x1).bind fun o63 => some o63)) else (some (-1 : Int32))))))
def m_X5_canWalk (vX : Ob) (vW : Ob) (vS : Ob) (x1 : Int32) : Option (Int32) :=
  ((m_X4_farEnd vW x1 (vS 0 0)).bind fun o12 => ((m_X4_roadHours vW x1).bind fun o28 => if o12 = (-9 : Int32) then (some (0 : Int32)) else (if (9999 : Int32) < ((vS 0 1) + o28) then (some (0 : Int32)) else (((m_X4_letsIn vW o12 ((vS 0 1) + o28) (vS 0 2)).bind fun o59 => if o59 = 0 then (some (0 : Int32)) else (some (1 : Int32)))))))
def m_X5_walks (vX : Ob) (vW : Ob) (vS : Ob) (x1 : Int32) : Option (Int32 × Ob) :=
  ((m_X4_hasRoad vW x1).bind fun o5 => if o5 = 0 then (some ((-1 : Int32), vS)) else (((m_X5_canWalk vX vW vS x1).bind fun o15 => if o15 = 0 then (some ((-2 : Int32), vS)) else (((m_X4_farEnd vW x1 (vS 0 0)).bind fun o36 => ((m_X2_remember vS).bind fun o44 => ((m_X4_roadHours vW x1).bind fun o68 => ((m_X4_thingsInside vW o36 (o44 0 2)).bind fun o91 => some (o36, (st (st (st o44 0 0 o36) 0 1 ((o44 0 1) + o68)) 0 2 o91))))))))))
def m_X5_waits (vX : Ob) (vW : Ob) (vS : Ob)  : Option (Int32 × Ob) :=
  if (vW 0 0) = 0 then (some ((-2 : Int32), vS)) else (if (vS 0 1) < (9999 : Int32) then (((m_X2_remember vS).bind fun o30 => some (((o30 0 1) + (1 : Int32)), (st o30 0 1 ((o30 0 1) + (1 : Int32)))))) else (some ((-2 : Int32), vS)))
def m_X5_asks (vX : Ob) (vW : Ob) (vS : Ob) (x1 : Int32) : Option (Int32 × Ob) :=
  ((m_X4_hasHost vW x1).bind fun o5 => if o5 = 0 then (some ((-1 : Int32), vS)) else (((m_X4_isGiven vW x1 (vS 0 0) (vS 0 2)).bind fun o32 => if o32 = 0 then (some ((-2 : Int32), vS)) else (((m_X2_remember vS).bind fun o45 => ((m_X4_hostGives vW x1).bind fun o62 => some (((o45 0 2) ||| ((1 : Int32) <<< (o62 &&& 31))), (st o45 0 2 ((o45 0 2) ||| ((1 : Int32) <<< (o62 &&& 31)))))))))))
def m_X5_undo (vX : Ob) (vS : Ob)  : Option (Int32 × Ob) :=
  if (vS 0 3) = 0 then (some ((-2 : Int32), vS)) else (((m_X2_recall vS).bind fun o17 => some ((o17 0 3), o17)))
def m_X5_givingHosts_j46 (vX : Ob) (vW : Ob) (vS : Ob) (rc : Int32 → Int32 → Option (Int32)) (x1 : Int32) (x2 : Int32) : Option (Int32) :=
  rc x1 (x2 + (1 : Int32))
def m_X5_givingHosts_L4B (vX : Ob) (vW : Ob) (vS : Ob) (rc : Int32 → Int32 → Option (Int32)) (x1 : Int32) (x2 : Int32) : Option (Int32) :=
  if (vW 0 2) ≤ x2 then (some x1) else (((m_X4_isGiven vW x2 (vS 0 0) (vS 0 2)).bind fun o34 => if o34 = 0 then (m_X5_givingHosts_j46 vX vW vS rc x1 x2) else (m_X5_givingHosts_j46 vX vW vS rc (x1 ||| ((1 : Int32) <<< (x2 &&& 31))) x2)))
def m_X5_givingHosts_L4 (vX : Ob) (vW : Ob) (vS : Ob) : Nat → Int32 → Int32 → Option (Int32)
  | 0, _, _ => none
  | n + 1, x1, x2 => m_X5_givingHosts_L4B vX vW vS (m_X5_givingHosts_L4 vX vW vS n) x1 x2
def m_X5_givingHosts (vX : Ob) (vW : Ob) (vS : Ob)  : Option (Int32) :=
  ((m_X5_givingHosts_L4 vX vW vS FU (0 : Int32) (0 : Int32)).bind fun o4_1 => some o4_1)
def m_X5_openRoads_j29 (vX : Ob) (vW : Ob) (vS : Ob) (rc : Int32 → Int32 → Option (Int32)) (x1 : Int32) (x2 : Int32) : Option (Int32) :=
  rc x1 (x2 + (1 : Int32))
def m_X5_openRoads_L4B (vX : Ob) (vW : Ob) (vS : Ob) (rc : Int32 → Int32 → Option (Int32)) (x1 : Int32) (x2 : Int32) : Option (Int32) :=
  if (vW 0 1) ≤ x2 then (some x1) else (((m_X5_canWalk vX vW vS x2).bind fun o17 => if o17 = 0 then (m_X5_openRoads_j29 vX vW vS rc x1 x2) else (m_X5_openRoads_j29 vX vW vS rc (x1 ||| ((1 : Int32) <<< (x2 &&& 31))) x2)))
def m_X5_openRoads_L4 (vX : Ob) (vW : Ob) (vS : Ob) : Nat → Int32 → Int32 → Option (Int32)
  | 0, _, _ => none
  | n + 1, x1, x2 => m_X5_openRoads_L4B vX vW vS (m_X5_openRoads_L4 vX vW vS n) x1 x2
def m_X5_openRoads (vX : Ob) (vW : Ob) (vS : Ob)  : Option (Int32) :=
  ((m_X5_openRoads_L4 vX vW vS FU (0 : Int32) (0 : Int32)).bind fun o4_1 => some o4_1)
def m_X5_now (vX : Ob) (vW : Ob) (vS : Ob) (x1 : Int32) : Option (Int32) :=
  if x1 = (0 : Int32) then (if (vW 0 0) = 0 then (some (-9 : Int32)) else (some (vS 0 0))) else (if x1 = (1 : Int32) then (some (vS 0 1)) else (if x1 = (2 : Int32) then (some (rem (vS 0 1) (24 : Int32))) else (if x1 = (3 : Int32) then (some (vS 0 2)) else (if x1 = (4 : Int32) then (((m_X5_openRoads vX vW vS).bind fun o91 => some o91)) else (if x1 = (5 : Int32) then (((m_X5_givingHosts vX vW vS).bind fun o96 => some o96)) else (some (-1 : Int32)))))))
def m_X5_soonest (vX : Ob) (vY : Ob) (vW : Ob) (vS : Ob) (x1 : Int32) (x2 : Int32) : Option (Int32 × Ob) :=
  ((m_X5_isThing x1).bind fun o1 => if o1 = 0 then (some ((-1 : Int32), vY)) else (((m_X5_isWithin x2 (-1 : Int32) (99 : Int32)).bind fun o11 => if o11 = 0 then (some ((-1 : Int32), vY)) else (((m_X3_findWay vY vW vS x1).bind fun o24 => if x2 = (-1 : Int32) then (some ((o24 0 6), o24)) else (((m_X3_stepOfWay o24 x2).bind fun o47 => some (o47, o24))))))))
def m_X5_latest (vX : Ob) (vY : Ob) (vW : Ob) (vS : Ob) (x1 : Int32) (x2 : Int32) : Option (Int32 × Ob) :=
  ((m_X5_isThing x1).bind fun o1 => if o1 = 0 then (some ((-1 : Int32), vY)) else (((m_X5_isWithin x2 (0 : Int32) (60 : Int32)).bind fun o11 => if o11 = 0 then (some ((-1 : Int32), vY)) else (((m_X3_mostWaiting vY vW vS x1 x2).bind fun o25 => some (o25.1, o25.2))))))
def m_X5_without (vX : Ob) (vY : Ob) (vW : Ob) (vS : Ob) (x1 : Int32) (x2 : Int32) : Option (Int32 × Ob) :=
  ((m_X5_isThing x1).bind fun o1 => if o1 = 0 then (some ((-1 : Int32), vY)) else (((m_X5_isWithin x2 (0 : Int32) (1 : Int32)).bind fun o10 => if o10 = 0 then (some ((-1 : Int32), vY)) else (((m_X3_findWay vY vW vS x1).bind fun o23 => if x2 = 0 then (((m_X3_neededRoads o23 vW vS).bind fun o34 => some (o34.1, o34.2))) else (((m_X3_neededHosts o23 vW vS).bind fun o44 => some (o44.1, o44.2))))))))
def m_X5_robbed (vX : Ob) (vY : Ob) (vW : Ob) (vS : Ob) (x1 : Int32) (x2 : Int32) : Option (Int32 × Ob) :=
  ((m_X5_isThing x1).bind fun o1 => if o1 = 0 then (some ((-1 : Int32), vY)) else (((m_X4_hasPlace vW x2).bind fun o12 => if o12 = 0 then (some ((-1 : Int32), vY)) else (((m_X3_findWay vY vW vS x1).bind fun o25 => ((m_X3_placeOfRobbery o25 vW x2).bind fun o33 => some (o33.1, o33.2)))))))
def m_X5_sure (vX : Ob) (vW : Ob) (x1 : Int32) (x2 : Int32) : Option (Int32) :=
  ((m_X4_hasPlace vW x1).bind fun o5 => if o5 = 0 then (some (-1 : Int32)) else (((m_X5_isWithin x2 (0 : Int32) (23 : Int32)).bind fun o15 => if o15 = 0 then (some (-1 : Int32)) else (((m_X4_openAround vW x1 x2).bind fun o29 => ((m_X4_hoursAround vW).bind fun o36 => if o29 = o36 then (some (1 : Int32)) else (some (0 : Int32))))))))
def m_X5_greatestDivisor_j21  (rc : Int32 → Int32 → Int32 → Option ((Int32) ⊕ (Unit))) (x0 : Int32) (x1 : Int32) (x2 : Int32) : Option ((Int32) ⊕ (Unit)) :=
  rc x0 x1 (x2 + (-1 : Int32))
def m_X5_greatestDivisor_L2B  (rc : Int32 → Int32 → Int32 → Option ((Int32) ⊕ (Unit))) (x0 : Int32) (x1 : Int32) (x2 : Int32) : Option ((Int32) ⊕ (Unit)) :=
  if x2 ≤ (1 : Int32) then (some (.inr ())) else (grd (decide (¬ x2 = 0)) (if (rem x0 x2) = 0 then (grd (decide (¬ x2 = 0)) (if (rem x1 x2) = 0 then (some (.inl x2)) else (m_X5_greatestDivisor_j21  rc x0 x1 x2))) else (m_X5_greatestDivisor_j21  rc x0 x1 x2)))
def m_X5_greatestDivisor_L2  : Nat → Int32 → Int32 → Int32 → Option ((Int32) ⊕ (Unit))
  | 0, _, _, _ => none
  | n + 1, x0, x1, x2 => m_X5_greatestDivisor_L2B  (m_X5_greatestDivisor_L2  n) x0 x1 x2
def m_X5_greatestDivisor  (x0 : Int32) (x1 : Int32) : Option (Int32) :=
  ((m_X5_greatestDivisor_L2  FU x0 x1 x1).bind fun o2_1 => Sum.elim (fun r => some r) (fun o2_1x => some (1 : Int32)) o2_1)
def m_X5_odds_j79 (vX : Ob) (vW : Ob)  (x6 : Int32) (s0 : Int32) : Option (Int32) :=
  grd (decide (¬ x6 = 0)) (some (s0 / x6))
def m_X5_odds (vX : Ob) (vW : Ob) (x1 : Int32) (x2 : Int32) (x3 : Int32) : Option (Int32) :=
  ((m_X4_hasPlace vW x1).bind fun o5 => if o5 = 0 then (some (-1 : Int32)) else (((m_X5_isWithin x2 (0 : Int32) (23 : Int32)).bind fun o15 => if o15 = 0 then (some (-1 : Int32)) else (((m_X5_isWithin x3 (0 : Int32) (1 : Int32)).bind fun o24 => if o24 = 0 then (some (-1 : Int32)) else (((m_X4_openAround vW x1 x2).bind fun o38 => ((m_X4_hoursAround vW).bind fun o47 => ((m_X5_greatestDivisor o38 o47).bind fun o56 => if o56 = 0 then (some (0 : Int32)) else (if x3 = 0 then (m_X5_odds_j79 vX vW o56 o38) else (m_X5_odds_j79 vX vW o56 o47)))))))))))
def m_X5_isSeat  (x0 : Int32) : Option (Int32) :=
  ((m_X5_isWithin x0 (0 : Int32) (4 : Int32)).bind fun o3 => grd (bz o3) (some o3))
def m_X5_swaps (vX : Ob) (vC : Ob) (x1 : Int32) (x2 : Int32) : Option (Int32 × Ob) :=
  ((m_X5_isSeat x1).bind fun o1 => if o1 = 0 then (some ((-1 : Int32), vC)) else (((m_X5_isSeat x2).bind fun o8 => if o8 = 0 then (some ((-1 : Int32), vC)) else (if x1 = x2 then (some ((-1 : Int32), vC)) else (((m_X0_addSwap vC x1 x2).bind fun o27 => if o27.1 = 0 then (some ((-3 : Int32), o27.2)) else (some ((o27.2 0 0), o27.2))))))))
def m_X5_tastes (vX : Ob) (vC : Ob) (x1 : Int32) (x2 : Int32) : Option (Int32 × Ob) :=
  ((m_X5_isSeat x1).bind fun o1 => if o1 = 0 then (some ((-1 : Int32), vC)) else (((m_X5_isSeat x2).bind fun o8 => if o8 = 0 then (some ((-1 : Int32), vC)) else (((m_X0_addTaste vC x1 x2).bind fun o22 => if o22.1 = 0 then (some ((-3 : Int32), o22.2)) else (some ((o22.2 0 1), o22.2)))))))
def m_X5_clears (vX : Ob) (vC : Ob)  : Option (Int32 × Ob) :=
  ((m_X0_forgetAll vC).bind fun o20 => some (((vC 0 0) + (vC 0 1)), o20))
def m_X5_lie (vX : Ob) (vC : Ob) (x1 : Int32) (x2 : Int32) : Option (Int32 × Ob) :=
  ((m_X5_isWithin x1 (2 : Int32) (5 : Int32)).bind fun o3 => if o3 = 0 then (some ((-1 : Int32), vC)) else (((m_X5_isWithin x2 (-2 : Int32) (x1 - (1 : Int32))).bind fun o15 => if o15 = 0 then (some ((-1 : Int32), vC)) else (((m_X0_gatherRows vC x1).bind fun o28 => if x2 = (-1 : Int32) then (some ((o28 0 2), o28)) else (if x2 = (-2 : Int32) then (((m_X0_bestTaste o28 x1).bind fun o55 => some (o55, o28))) else (((m_X0_surelyOn o28 x2).bind fun o66 => some (o66, o28)))))))))
def m_X5_markOfHost (vX : Ob) (vW : Ob) (vT : Int64) (x1 : Int32) : Option (Int32 × Int64) :=
  ((m_X4_hostGives vW x1).bind fun o15 => some (o15, (vT + (1 : Int64))))
def m_X5_markOfDwarf (vX : Ob) (vW : Ob) (vS : Ob) (vT : Int64) (x1 : Int32) : Option (Int32 × Int64) :=
  ((m_X5_markOfHost vX vW (vT + (100000 : Int64)) x1).bind fun o14 => some ((o14.1 + (rem (vS 0 1) (24 : Int32))), o14.2))
def m_X5_markOfOffended (vX : Ob) (vW : Ob) (vT : Int64) (x1 : Int32) : Option (Int32 × Int64) :=
  ((m_X5_markOfHost vX vW (vT + (100 : Int64)) x1).bind fun o14 => ((m_X4_hostAsks vW x1).bind fun o22 => some ((o14.1 - o22), o14.2)))
def m_X5_markOfFalse (vX : Ob) (vW : Ob) (vS : Ob) (vT : Int64) (x1 : Int32) : Option (Int32 × Int64) :=
  ((m_X5_markOfOffended vX vW (vT + (10000 : Int64)) x1).bind fun o14 => ((m_J6_bitCount_0f7a4 (vS 0 2)).bind fun o24 => some ((o14.1 + o24), o14.2)))
def m_X5_markOfLending (vX : Ob) (vW : Ob) (vT : Int64) (x1 : Int32) : Option (Int32 × Int64) :=
  ((m_X5_markOfHost vX vW (vT + (10 : Int64)) x1).bind fun o14 => ((m_X4_hostPlace vW x1).bind fun o22 => some ((o14.1 + o22), o14.2)))
def m_X5_markOfTwice (vX : Ob) (vW : Ob) (vT : Int64) (x1 : Int32) : Option (Int32 × Int64) :=
  ((m_X5_markOfLending vX vW (vT + (1000 : Int64)) x1).bind fun o14 => some ((o14.1 * (2 : Int32)), o14.2))
def m_X5_mark (vX : Ob) (vW : Ob) (vS : Ob) (vT : Int64) (x1 : Int32) (x2 : Int32) : Option (Int32 × Int64) :=
  ((m_X4_hasHost vW x2).bind fun o5 => if o5 = 0 then (some ((-1000000 : Int32), vT)) else (if x1 = (0 : Int32) then (((m_X5_markOfHost vX vW vT x2).bind fun o54 => some (o54.1, o54.2))) else (if x1 = (1 : Int32) then (((m_X5_markOfLending vX vW vT x2).bind fun o60 => some (o60.1, o60.2))) else (if x1 = (2 : Int32) then (((m_X5_markOfOffended vX vW vT x2).bind fun o66 => some (o66.1, o66.2))) else (if x1 = (3 : Int32) then (((m_X5_markOfTwice vX vW vT x2).bind fun o72 => some (o72.1, o72.2))) else (if x1 = (4 : Int32) then (((m_X5_markOfFalse vX vW vS vT x2).bind fun o78 => some (o78.1, o78.2))) else (if x1 = (5 : Int32) then (((m_X5_markOfDwarf vX vW vS vT x2).bind fun o84 => some (o84.1, o84.2))) else (some ((-1000000 : Int32), vT)))))))))
def m_X5_imageOf (vX : Ob) (x1 : Int32) : Option (Int32) :=
  if x1 = 0 then (some (0 : Int32)) else (some (1 : Int32))
def m_X5_keep (vX : Ob) (vS : Ob) (vI : Ob) (vJ : Ob) (x1 : Int32) : Option (Int32 × Ob × Ob) :=
  ((m_X5_isWithin x1 (0 : Int32) (1 : Int32)).bind fun o3 => if o3 = 0 then (some ((-1 : Int32), vI, vJ)) else (((m_X5_imageOf vX x1).bind fun o13 => if o13 = 0 then (((m_X2_becomeLike vI vS).bind fun o22 => some ((vS 0 1), (st o22 0 4 (1 : Int32)), vJ))) else (((m_X2_becomeLike vJ vS).bind fun o22 => some ((vS 0 1), vI, (st o22 0 4 (1 : Int32))))))))
def m_X5_back (vX : Ob) (vS : Ob) (vI : Ob) (vJ : Ob) (x1 : Int32) : Option (Int32 × Ob) :=
  ((m_X5_isWithin x1 (0 : Int32) (1 : Int32)).bind fun o3 => if o3 = 0 then (some ((-1 : Int32), vS)) else (((m_X5_imageOf vX x1).bind fun o13 => if o13 = 0 then (if (vI 0 4) = 0 then (some ((-2 : Int32), vS)) else (((m_X2_becomeLike vS vI).bind fun o32 => some ((o32 0 1), o32)))) else (if (vJ 0 4) = 0 then (some ((-2 : Int32), vS)) else (((m_X2_becomeLike vS vJ).bind fun o32 => some ((o32 0 1), o32)))))))
def m_X5_count (vX : Ob) (vC : Ob) (vW : Ob) (vS : Ob) (x1 : Int32) : Option (Int32) :=
  if x1 = (0 : Int32) then (some (vW 0 0)) else (if x1 = (1 : Int32) then (some (vW 0 1)) else (if x1 = (2 : Int32) then (some (vW 0 2)) else (if x1 = (3 : Int32) then (some (vW 0 3)) else (if x1 = (4 : Int32) then (some (vC 0 0)) else (if x1 = (5 : Int32) then (some (vC 0 1)) else (if x1 = (6 : Int32) then (some (vS 0 3)) else (if x1 = (7 : Int32) then (some (vX 0 1)) else (some (-1 : Int32)))))))))
def m_X5_trace (vX : Ob) (vT : Int64)  : Option (Int64) :=
  some vT
def m_X6_in  (x0 : Int64) (x2 : Int64) (x4 : Int64) : Option (Int32) :=
  if (lg_cmp x0 x2) < 0 then (some (0 : Int32)) else (if 0 < (lg_cmp x0 x4) then (some (0 : Int32)) else (some (1 : Int32)))
def m_X6_isTwo  (x0 : Int32) : Option (Int32) :=
  ((m_X6_in (Int32.toInt64 x0) (0 : Int64) (1 : Int64)).bind fun o4 => grd (bz o4) (some o4))
def m_X6_holds  (x0 : Int32) (x1 : Int32) : Option (Int32) :=
  if ((x0 >>> (x1 &&& 31)) &&& (1 : Int32)) = (1 : Int32) then (some (1 : Int32)) else (some (0 : Int32))
def m_X6_bits_L4B  (rc : Int32 → Int32 → Option (Int32)) (x1 : Int32) (x2 : Int32) : Option (Int32) :=
  if x2 = 0 then (some x1) else (rc (x1 + (1 : Int32)) (x2 &&& (x2 - (1 : Int32))))
def m_X6_bits_L4  : Nat → Int32 → Int32 → Option (Int32)
  | 0, _, _ => none
  | n + 1, x1, x2 => m_X6_bits_L4B  (m_X6_bits_L4  n) x1 x2
def m_X6_bits  (x0 : Int32) : Option (Int32) :=
  ((m_X6_bits_L4  FU (0 : Int32) x0).bind fun o4_1 => some o4_1)
def m_X6_clean_L2B  (rc : (Nat → Int32) → Int32 → Option ((Nat → Int32))) (vt : (Nat → Int32)) (x1 : Int32) : Option ((Nat → Int32)) :=
  if (70 : Int32) ≤ x1 then (some vt) else (grd (inb x1 70) (rc (upd vt (Int32.toNatClampNeg x1) (0 : Int32)) (x1 + (1 : Int32))))
def m_X6_clean_L2  : Nat → (Nat → Int32) → Int32 → Option ((Nat → Int32))
  | 0, _, _ => none
  | n + 1, vt, x1 => m_X6_clean_L2B  (m_X6_clean_L2  n) vt x1
def m_X6_clean_L20B  (rc : (Nat → Int32) → Int32 → Option ((Nat → Int32))) (vt : (Nat → Int32)) (x1 : Int32) : Option ((Nat → Int32)) :=
  if (7 : Int32) ≤ x1 then (some vt) else (grd (inb ((4 : Int32) + x1) 70) (grd (inb ((11 : Int32) + x1) 70) (grd (inb ((18 : Int32) + x1) 70) (rc (upd (upd (upd vt (Int32.toNatClampNeg ((4 : Int32) + x1)) (9 : Int32)) (Int32.toNatClampNeg ((11 : Int32) + x1)) (-9 : Int32)) (Int32.toNatClampNeg ((18 : Int32) + x1)) (24 : Int32)) (x1 + (1 : Int32))))))
def m_X6_clean_L20  : Nat → (Nat → Int32) → Int32 → Option ((Nat → Int32))
  | 0, _, _ => none
  | n + 1, vt, x1 => m_X6_clean_L20B  (m_X6_clean_L20  n) vt x1
def m_X6_clean (vt : (Nat → Int32))  : Option ((Nat → Int32)) :=
  ((m_X6_clean_L2  FU vt (0 : Int32)).bind fun o2_1 => ((m_X6_clean_L20  FU o2_1 (0 : Int32)).bind fun o20_2 => some o20_2))
def m_X6_type (vM : Ob) (x1 : Int32) : Option (Int32 × Ob) :=
  ((m_X6_in (Int32.toInt64 x1) (0 : Int64) (255 : Int64)).bind fun o6 => if o6 = 0 then (some ((-1 : Int32), vM)) else (if (vM 0 6) = (200 : Int32) then (some ((-3 : Int32), vM)) else (grd (inb (vM 0 6) 200) (some (((vM 0 6) + (1 : Int32)), (st (st vM 6 (Int32.toNatClampNeg (vM 0 6)) x1) 0 6 ((vM 0 6) + (1 : Int32))))))))
def m_X6_clear (vM : Ob)  : Option (Int32 × Ob) :=
  some ((vM 0 6), (st vM 0 6 (0 : Int32)))
def m_X6_isLetter  (x0 : Int32) : Option (Int32) :=
  ((m_X6_in (Int32.toInt64 x0) (97 : Int64) (122 : Int64)).bind fun o8 => grd (bz o8) (some o8))
def m_X6_isFigure  (x0 : Int32) : Option (Int32) :=
  ((m_X6_in (Int32.toInt64 x0) (48 : Int64) (57 : Int64)).bind fun o8 => grd (bz o8) (some o8))
def m_X6_here (vM : Ob)  : Option (Int32) :=
  if (vM 0 6) ≤ (vM 0 12) then (some (-1 : Int32)) else (grd (inb (vM 0 12) 200) (some ((vM 6) (Int32.toNatClampNeg (vM 0 12)))))
def m_X6_next_L0B  (rc : Ob → Option (Ob)) (vM : Ob) : Option (Ob) :=
  ((m_X6_here vM).bind fun o1 => if o1 = (32 : Int32) then (rc (st vM 0 12 ((vM 0 12) + (1 : Int32)))) else (some vM))
def m_X6_next_L0  : Nat → Ob → Option (Ob)
  | 0, _ => none
  | n + 1, vM => m_X6_next_L0B  (m_X6_next_L0  n) vM
def m_X6_next_j142  (rc : Ob → Int32 → Option (Ob × Int32)) (vM : Ob) (x1 : Int32) (s1 : Int32) : Option (Ob × Int32) :=
  rc (st (st vM 0 15 s1) 0 12 ((vM 0 12) + (1 : Int32))) x1
def m_X6_next_L107B  (rc : Ob → Int32 → Option (Ob × Int32)) (vM : Ob) (x1 : Int32) : Option (Ob × Int32) :=
  if (vM 0 14) = (1 : Int32) then (((m_X6_here vM).bind fun o116 => ((m_X6_isLetter o116).bind fun o119 => if o119 = 0 then (some (vM, x1)) else (if (vM 0 12) = (vM 0 13) then (m_X6_next_j142  rc vM x1 x1) else (m_X6_next_j142  rc vM x1 (0 : Int32)))))) else (some (vM, x1))
def m_X6_next_L107  : Nat → Ob → Int32 → Option (Ob × Int32)
  | 0, _, _ => none
  | n + 1, vM, x1 => m_X6_next_L107B  (m_X6_next_L107  n) vM x1
def m_X6_next_j208  (rc : Ob → Int32 → Option (Ob × Int32)) (vM : Ob) (x1 : Int32) (s1 : Int32) : Option (Ob × Int32) :=
  rc (st (st vM 0 15 s1) 0 12 ((vM 0 12) + (1 : Int32))) x1
def m_X6_next_L158B  (rc : Ob → Int32 → Option (Ob × Int32)) (vM : Ob) (x1 : Int32) : Option (Ob × Int32) :=
  if (vM 0 14) = (2 : Int32) then (((m_X6_here vM).bind fun o167 => ((m_X6_isFigure o167).bind fun o170 => if o170 = 0 then (some (vM, x1)) else (if (vM 0 15) ≤ (99 : Int32) then (((m_X6_here vM).bind fun o201 => m_X6_next_j208  rc vM x1 ((((10 : Int32) * (vM 0 15)) + o201) - (48 : Int32)))) else (m_X6_next_j208  rc vM x1 (vM 0 15)))))) else (some (vM, x1))
def m_X6_next_L158  : Nat → Ob → Int32 → Option (Ob × Int32)
  | 0, _, _ => none
  | n + 1, vM, x1 => m_X6_next_L158B  (m_X6_next_L158  n) vM x1
def m_X6_next_j265   (vM : Ob) (s0 : Int32) : Option (Ob) :=
  if s0 = 0 then (some (st vM 0 14 (vM 0 14))) else (some (st vM 0 14 (4 : Int32)))
def m_X6_next_j264   (vM : Ob) : Option (Ob) :=
  m_X6_next_j265  vM (0 : Int32)
def m_X6_next_j260   (vM : Ob) : Option (Ob) :=
  m_X6_next_j265  vM (1 : Int32)
def m_X6_next_j103   (vM : Ob) (x1 : Int32) (s1 : Int32) (s2 : Int32) : Option (Ob) :=
  ((m_X6_next_L107  FU (st vM 0 12 (s1 + s2)) x1).bind fun o107_2 => ((m_X6_next_L158  FU o107_2.1 o107_2.2).bind fun o158_3 => if (o158_3.1 0 14) = (2 : Int32) then (if (99 : Int32) < (o158_3.1 0 15) then (m_X6_next_j260  o158_3.1) else (if o158_3.2 = (48 : Int32) then (if ((o158_3.1 0 12) - (o158_3.1 0 13)) ≤ (1 : Int32) then (m_X6_next_j264  o158_3.1) else (m_X6_next_j260  o158_3.1)) else (m_X6_next_j264  o158_3.1))) else (m_X6_next_j264  o158_3.1)))
def m_X6_next_j77   (vM : Ob) (x1 : Int32) (s1 : Int32) : Option (Ob) :=
  if s1 ≤ (2 : Int32) then (m_X6_next_j103  (st (st vM 0 14 s1) 0 15 (0 : Int32)) x1 (vM 0 12) (0 : Int32)) else (m_X6_next_j103  (st (st vM 0 14 s1) 0 15 (0 : Int32)) x1 (vM 0 12) (1 : Int32))
def m_X6_next (vM : Ob)  : Option (Ob) :=
  ((m_X6_next_L0  FU vM).bind fun o0_1 => ((m_X6_here (st o0_1 0 13 (o0_1 0 12))).bind fun o31 => if 0 ≤ o31 then (((m_X6_isLetter o31).bind fun o45 => if o45 = 0 then (((m_X6_isFigure o31).bind fun o56 => if o56 = 0 then (if o31 = (59 : Int32) then (m_X6_next_j77  (st o0_1 0 13 (o0_1 0 12)) o31 (3 : Int32)) else (m_X6_next_j77  (st o0_1 0 13 (o0_1 0 12)) o31 (4 : Int32))) else (m_X6_next_j77  (st o0_1 0 13 (o0_1 0 12)) o31 (2 : Int32)))) else (m_X6_next_j77  (st o0_1 0 13 (o0_1 0 12)) o31 (1 : Int32)))) else (m_X6_next_j77  (st o0_1 0 13 (o0_1 0 12)) o31 (0 : Int32))))
def m_X6_number (vM : Ob) (x1 : Int32) (x2 : Int32) : Option (Int32 × Ob) :=
  ((m_X6_next vM).bind fun o1 => if (o1 0 14) = (2 : Int32) then (((m_X6_in (Int32.toInt64 (o1 0 15)) (Int32.toInt64 x1) (Int32.toInt64 x2)).bind fun o21 => if o21 = 0 then (some ((0 : Int32), o1)) else (some ((1 : Int32), o1)))) else (some ((0 : Int32), o1)))
def m_X6_takes_j31   (vM : Ob) (x4 : Int32) (s1 : Int32) (s2 : Int32) : Option (Int32 × Ob) :=
  grd (inb s1 70) (grd (bz x4) (some (x4, (st vM 2 (Int32.toNatClampNeg s1) s2))))
def m_X6_takes (vM : Ob) (x1 : Int32) (x2 : Int32) (x3 : Int32) : Option (Int32 × Ob) :=
  ((m_X6_number vM x1 x2).bind fun o3 => if o3.1 = 0 then (grd (inb x3 70) (m_X6_takes_j31  o3.2 o3.1 x3 ((o3.2 2) (Int32.toNatClampNeg x3)))) else (m_X6_takes_j31  o3.2 o3.1 x3 (o3.2 0 15)))
def m_X6_ends (vM : Ob)  : Option (Int32 × Ob) :=
  ((m_X6_next vM).bind fun o1 => if (o1 0 14) = (3 : Int32) then (some ((1 : Int32), o1)) else (some ((0 : Int32), o1)))
def m_X6_places (vM : Ob)  : Option (Int32 × Ob) :=
  if ((vM 2) (Int32.toNatClampNeg (0 : Int32))) = (7 : Int32) then (some ((0 : Int32), vM)) else (((m_X6_ends (st vM 2 (Int32.toNatClampNeg (0 : Int32)) (((vM 2) (Int32.toNatClampNeg (0 : Int32))) + (1 : Int32)))).bind fun o24 => grd (bz o24.1) (some (o24.1, o24.2))))
def m_X6_roads (vM : Ob)  : Option (Int32 × Ob) :=
  if ((vM 2) (Int32.toNatClampNeg (1 : Int32))) = (9 : Int32) then (some ((0 : Int32), vM)) else (((m_X6_takes vM (0 : Int32) (((vM 2) (Int32.toNatClampNeg (0 : Int32))) - (1 : Int32)) ((25 : Int32) + ((vM 2) (Int32.toNatClampNeg (1 : Int32))))).bind fun o29 => if o29.1 = 0 then (some ((0 : Int32), o29.2)) else (((m_X6_takes o29.2 (0 : Int32) (((vM 2) (Int32.toNatClampNeg (0 : Int32))) - (1 : Int32)) ((34 : Int32) + ((vM 2) (Int32.toNatClampNeg (1 : Int32))))).bind fun o42 => if o42.1 = 0 then (some ((0 : Int32), o42.2)) else (grd (inb ((25 : Int32) + ((vM 2) (Int32.toNatClampNeg (1 : Int32)))) 70) (grd (inb ((34 : Int32) + ((vM 2) (Int32.toNatClampNeg (1 : Int32)))) 70) (if ((o42.2 2) (Int32.toNatClampNeg ((25 : Int32) + ((vM 2) (Int32.toNatClampNeg (1 : Int32)))))) = ((o42.2 2) (Int32.toNatClampNeg ((34 : Int32) + ((vM 2) (Int32.toNatClampNeg (1 : Int32)))))) then (some ((0 : Int32), o42.2)) else (((m_X6_takes o42.2 (1 : Int32) (9 : Int32) ((43 : Int32) + ((vM 2) (Int32.toNatClampNeg (1 : Int32))))).bind fun o77 => if o77.1 = 0 then (some ((0 : Int32), o77.2)) else (((m_X6_ends (st o77.2 2 (Int32.toNatClampNeg (1 : Int32)) (((o77.2 2) (Int32.toNatClampNeg (1 : Int32))) + (1 : Int32)))).bind fun o96 => grd (bz o96.1) (some (o96.1, o96.2)))))))))))))
def m_X6_hosts (vM : Ob)  : Option (Int32 × Ob) :=
  if ((vM 2) (Int32.toNatClampNeg (2 : Int32))) = (6 : Int32) then (some ((0 : Int32), vM)) else (((m_X6_takes vM (0 : Int32) (((vM 2) (Int32.toNatClampNeg (0 : Int32))) - (1 : Int32)) ((52 : Int32) + ((vM 2) (Int32.toNatClampNeg (2 : Int32))))).bind fun o27 => if o27.1 = 0 then (some ((0 : Int32), o27.2)) else (((m_X6_takes o27.2 (0 : Int32) (4 : Int32) ((58 : Int32) + ((vM 2) (Int32.toNatClampNeg (2 : Int32))))).bind fun o40 => if o40.1 = 0 then (some ((0 : Int32), o40.2)) else (((m_X6_takes o40.2 (0 : Int32) (9 : Int32) ((64 : Int32) + ((vM 2) (Int32.toNatClampNeg (2 : Int32))))).bind fun o54 => if o54.1 = 0 then (some ((0 : Int32), o54.2)) else (((m_X6_in (Int32.toInt64 (o54.2 0 15)) (5 : Int64) (8 : Int64)).bind fun o71 => if o71 = 0 then (((m_X6_ends (st o54.2 2 (Int32.toNatClampNeg (2 : Int32)) (((o54.2 2) (Int32.toNatClampNeg (2 : Int32))) + (1 : Int32)))).bind fun o90 => grd (bz o90.1) (some (o90.1, o90.2)))) else (some ((0 : Int32), o54.2))))))))))
def m_X6_lion (vM : Ob)  : Option (Int32 × Ob) :=
  ((m_X6_number vM (1 : Int32) (((vM 2) (Int32.toNatClampNeg (0 : Int32))) - (1 : Int32))).bind fun o10 => if o10.1 = 0 then (some ((0 : Int32), o10.2)) else (grd (inb ((4 : Int32) + (o10.2 0 15)) 70) (if ((o10.2 2) (Int32.toNatClampNeg ((4 : Int32) + (o10.2 0 15)))) = (9 : Int32) then (((m_X6_takes o10.2 (0 : Int32) (4 : Int32) ((4 : Int32) + (o10.2 0 15))).bind fun o43 => if o43.1 = 0 then (some ((0 : Int32), o43.2)) else (((m_X6_ends o43.2).bind fun o50 => if o50.1 = 0 then (some ((0 : Int32), o50.2)) else (some ((1 : Int32), o50.2)))))) else (some ((0 : Int32), o10.2)))))
def m_X6_gate (vM : Ob)  : Option (Int32 × Ob) :=
  ((m_X6_number vM (1 : Int32) (((vM 2) (Int32.toNatClampNeg (0 : Int32))) - (1 : Int32))).bind fun o10 => if o10.1 = 0 then (some ((0 : Int32), o10.2)) else (grd (inb ((11 : Int32) + (o10.2 0 15)) 70) (if ((o10.2 2) (Int32.toNatClampNeg ((11 : Int32) + (o10.2 0 15)))) = (-9 : Int32) then (((m_X6_takes o10.2 (0 : Int32) (23 : Int32) ((11 : Int32) + (o10.2 0 15))).bind fun o48 => if o48.1 = 0 then (some ((0 : Int32), o48.2)) else (((m_X6_takes o48.2 (1 : Int32) (24 : Int32) ((18 : Int32) + (o10.2 0 15))).bind fun o62 => if o62.1 = 0 then (some ((0 : Int32), o62.2)) else (((m_X6_ends o62.2).bind fun o69 => if o69.1 = 0 then (some ((0 : Int32), o69.2)) else (some ((1 : Int32), o69.2)))))))) else (some ((0 : Int32), o10.2)))))
def m_X6_off (vM : Ob)  : Option (Int32 × Ob) :=
  if (vM 0 16) = 0 then (((m_X6_takes (st vM 0 16 (1 : Int32)) (0 : Int32) (6 : Int32) (3 : Int32)).bind fun o19 => if o19.1 = 0 then (some ((0 : Int32), o19.2)) else (((m_X6_ends o19.2).bind fun o26 => if o26.1 = 0 then (some ((0 : Int32), o26.2)) else (some ((1 : Int32), o26.2)))))) else (some ((0 : Int32), vM))
def m_X6_takesItem_j16   (vM : Ob) (s0 : Int32) : Option (Int32 × Ob) :=
  if s0 = (103 : Int32) then (((m_X6_gate vM).bind fun o101 => grd (bz o101.1) (some (o101.1, o101.2)))) else (if s0 = (104 : Int32) then (((m_X6_hosts vM).bind fun o91 => grd (bz o91.1) (some (o91.1, o91.2)))) else (if s0 = (108 : Int32) then (((m_X6_lion vM).bind fun o96 => grd (bz o96.1) (some (o96.1, o96.2)))) else (if s0 = (111 : Int32) then (((m_X6_off vM).bind fun o106 => grd (bz o106.1) (some (o106.1, o106.2)))) else (if s0 = (112 : Int32) then (((m_X6_places vM).bind fun o81 => grd (bz o81.1) (some (o81.1, o81.2)))) else (if s0 = (114 : Int32) then (((m_X6_roads vM).bind fun o86 => grd (bz o86.1) (some (o86.1, o86.2)))) else (some ((0 : Int32), vM)))))))
def m_X6_takesItem (vM : Ob)  : Option (Int32 × Ob) :=
  if (vM 0 14) = (1 : Int32) then (m_X6_takesItem_j16  vM (vM 0 15)) else (m_X6_takesItem_j16  vM (0 : Int32))
def m_X6_tale_L23B  (rc : Ob → Int32 → Option ((Int32 × Ob) ⊕ (Ob × Int32))) (vM : Ob) (x1 : Int32) : Option ((Int32 × Ob) ⊕ (Ob × Int32)) :=
  if (vM 0 14) = 0 then (some (.inr (vM, x1))) else (((m_X6_takesItem vM).bind fun o31 => if o31.1 = 0 then (some (.inl (((-10 : Int32) - (o31.2 0 13)), o31.2))) else (((m_X6_next o31.2).bind fun o49 => rc o49 (x1 + (1 : Int32))))))
def m_X6_tale_L23  : Nat → Ob → Int32 → Option ((Int32 × Ob) ⊕ (Ob × Int32))
  | 0, _, _ => none
  | n + 1, vM, x1 => m_X6_tale_L23B  (m_X6_tale_L23  n) vM x1
def m_X6_tale_L57B  (rc : Ob → Int32 → Int32 → Option (Ob × Int32)) (vM : Ob) (x1 : Int32) (x2 : Int32) : Option (Ob × Int32) :=
  if (70 : Int32) ≤ x2 then (some (vM, x1)) else (grd (inb x2 70) (grd (inb x2 70) (rc (st vM 1 (Int32.toNatClampNeg x2) ((vM 2) (Int32.toNatClampNeg x2))) x1 (x2 + (1 : Int32)))))
def m_X6_tale_L57  : Nat → Ob → Int32 → Int32 → Option (Ob × Int32)
  | 0, _, _, _ => none
  | n + 1, vM, x1, x2 => m_X6_tale_L57B  (m_X6_tale_L57  n) vM x1 x2
def m_X6_tale_L83B  (rc : Ob → Int32 → Int32 → Option (Ob × Int32)) (vM : Ob) (x1 : Int32) (x2 : Int32) : Option (Ob × Int32) :=
  if (40 : Int32) ≤ x2 then (some (vM, x1)) else (grd (inb x2 40) (rc (st vM 3 (Int32.toNatClampNeg x2) (0 : Int32)) x1 (x2 + (1 : Int32))))
def m_X6_tale_L83  : Nat → Ob → Int32 → Int32 → Option (Ob × Int32)
  | 0, _, _, _ => none
  | n + 1, vM, x1, x2 => m_X6_tale_L83B  (m_X6_tale_L83  n) vM x1 x2
def m_X6_tale (vM : Ob)  : Option (Int32 × Ob) :=
  ((m_X6_clean (vM 2)).bind fun o4 => ((m_X6_next (st (st (upR vM 2 o4) 0 12 (0 : Int32)) 0 16 (0 : Int32))).bind fun o20 => ((m_X6_tale_L23  FU o20 (0 : Int32)).bind fun o23_1 => Sum.elim (fun r => some r) (fun o23_1x => ((m_X6_tale_L57  FU o23_1x.1 o23_1x.2 (0 : Int32)).bind fun o57_2 => ((m_X6_tale_L83  FU o57_2.1 o57_2.2 (0 : Int32)).bind fun o83_3 => some (o83_3.2, (st (st (st (st (st o83_3.1 0 6 (0 : Int32)) 0 8 (0 : Int32)) 0 10 (0 : Int32)) 5 (Int32.toNatClampNeg (0 : Int32)) (vp_nar .boolean (0 : Int32))) 5 (Int32.toNatClampNeg (1 : Int32)) (vp_nar .boolean (0 : Int32))))))) o23_1)))
def m_X6_isPlace (vM : Ob) (x1 : Int32) : Option (Int32) :=
  ((m_X6_in (Int32.toInt64 x1) (0 : Int64) (Int32.toInt64 (((vM 1) (Int32.toNatClampNeg (0 : Int32))) - (1 : Int32)))).bind fun o12 => grd (bz o12) (some o12))
def m_X6_isRoad (vM : Ob) (x1 : Int32) : Option (Int32) :=
  ((m_X6_in (Int32.toInt64 x1) (0 : Int64) (Int32.toInt64 (((vM 1) (Int32.toNatClampNeg (1 : Int32))) - (1 : Int32)))).bind fun o12 => grd (bz o12) (some o12))
def m_X6_isHost (vM : Ob) (x1 : Int32) : Option (Int32) :=
  ((m_X6_in (Int32.toInt64 x1) (0 : Int64) (Int32.toInt64 (((vM 1) (Int32.toNatClampNeg (2 : Int32))) - (1 : Int32)))).bind fun o12 => grd (bz o12) (some o12))
def m_X6_isThing  (x0 : Int32) : Option (Int32) :=
  ((m_X6_in (Int32.toInt64 x0) (0 : Int64) (4 : Int64)).bind fun o6 => grd (bz o6) (some o6))
def m_X6_place (vM : Ob) (x1 : Int32) (x2 : Int32) : Option (Int32) :=
  ((m_X6_isPlace vM x1).bind fun o2 => if o2 = 0 then (some (-1 : Int32)) else (((m_X6_in (Int32.toInt64 x2) (0 : Int64) (2 : Int64)).bind fun o14 => if o14 = 0 then (some (-1 : Int32)) else (grd (inb (((4 : Int32) + ((7 : Int32) * x2)) + x1) 70) (some ((vM 1) (Int32.toNatClampNeg (((4 : Int32) + ((7 : Int32) * x2)) + x1))))))))
def m_X6_road (vM : Ob) (x1 : Int32) (x2 : Int32) : Option (Int32) :=
  ((m_X6_isRoad vM x1).bind fun o2 => if o2 = 0 then (some (-1 : Int32)) else (((m_X6_in (Int32.toInt64 x2) (0 : Int64) (2 : Int64)).bind fun o14 => if o14 = 0 then (some (-1 : Int32)) else (grd (inb (((25 : Int32) + ((9 : Int32) * x2)) + x1) 70) (some ((vM 1) (Int32.toNatClampNeg (((25 : Int32) + ((9 : Int32) * x2)) + x1))))))))
def m_X6_host (vM : Ob) (x1 : Int32) (x2 : Int32) : Option (Int32) :=
  ((m_X6_isHost vM x1).bind fun o2 => if o2 = 0 then (some (-1 : Int32)) else (((m_X6_in (Int32.toInt64 x2) (0 : Int64) (2 : Int64)).bind fun o14 => if o14 = 0 then (some (-1 : Int32)) else (grd (inb (((52 : Int32) + ((6 : Int32) * x2)) + x1) 70) (some ((vM 1) (Int32.toNatClampNeg (((52 : Int32) + ((6 : Int32) * x2)) + x1))))))))
def m_X6_otherEnd (vM : Ob) (x1 : Int32) (x2 : Int32) : Option (Int32) :=
  grd (inb ((25 : Int32) + x1) 70) (if ((vM 1) (Int32.toNatClampNeg ((25 : Int32) + x1))) = x2 then (grd (inb ((34 : Int32) + x1) 70) (some ((vM 1) (Int32.toNatClampNeg ((34 : Int32) + x1))))) else (grd (inb ((34 : Int32) + x1) 70) (if ((vM 1) (Int32.toNatClampNeg ((34 : Int32) + x1))) = x2 then (grd (inb ((25 : Int32) + x1) 70) (some ((vM 1) (Int32.toNatClampNeg ((25 : Int32) + x1))))) else (some (-1 : Int32)))))
def m_X6_isOpen_j44 (vM : Ob)   : Option (Int32) :=
  some (1 : Int32)
def m_X6_isOpen (vM : Ob) (x1 : Int32) (x2 : Int32) : Option (Int32) :=
  grd (inb ((11 : Int32) + x1) 70) (if ((vM 1) (Int32.toNatClampNeg ((11 : Int32) + x1))) = (-9 : Int32) then (m_X6_isOpen_j44 vM ) else (grd (inb ((11 : Int32) + x1) 70) (grd (inb ((18 : Int32) + x1) 70) (if ((vM 1) (Int32.toNatClampNeg ((18 : Int32) + x1))) ≤ (rem ((x2 - ((vM 1) (Int32.toNatClampNeg ((11 : Int32) + x1)))) + (240 : Int32)) (24 : Int32)) then (some (0 : Int32)) else (m_X6_isOpen_j44 vM )))))
def m_X6_enters (vM : Ob) (x1 : Int32) (x2 : Int32) (x3 : Int32) (x4 : Int32) : Option (Int32) :=
  ((m_X6_otherEnd vM x1 x2).bind fun o3 => if o3 < 0 then (some (-1 : Int32)) else (((m_X6_isOpen vM o3 (rem x3 (24 : Int32))).bind fun o20 => if o20 = 0 then (some (-1 : Int32)) else (grd (inb ((4 : Int32) + o3) 70) (if ((vM 1) (Int32.toNatClampNeg ((4 : Int32) + o3))) = (9 : Int32) then (some x4) else (((m_X6_holds x4 ((vM 1) (Int32.toNatClampNeg ((4 : Int32) + o3)))).bind fun o53 => if o53 = 0 then (some (-1 : Int32)) else (some (x4 &&& (((1 : Int32) <<< (((vM 1) (Int32.toNatClampNeg ((4 : Int32) + o3))) &&& 31)) ^^^ (-1 : Int32)))))))))))
def m_X6_given_j61 (vM : Ob)  (x1 : Int32) (x3 : Int32) (s0 : Int32) : Option (Int32) :=
  if s0 = 0 then (some (-1 : Int32)) else (grd (inb ((58 : Int32) + x1) 70) (some (x3 ||| ((1 : Int32) <<< (((vM 1) (Int32.toNatClampNeg ((58 : Int32) + x1))) &&& 31)))))
def m_X6_given_j60 (vM : Ob)  (x1 : Int32) (x3 : Int32) : Option (Int32) :=
  m_X6_given_j61 vM x1 x3 (0 : Int32)
def m_X6_given_j40 (vM : Ob)  (x1 : Int32) (x3 : Int32) : Option (Int32) :=
  grd (inb ((58 : Int32) + x1) 70) (((m_X6_holds x3 ((vM 1) (Int32.toNatClampNeg ((58 : Int32) + x1)))).bind fun o50 => if o50 = 0 then (m_X6_given_j61 vM x1 x3 (1 : Int32)) else (m_X6_given_j60 vM x1 x3)))
def m_X6_given (vM : Ob) (x1 : Int32) (x2 : Int32) (x3 : Int32) : Option (Int32) :=
  grd (inb ((64 : Int32) + x1) 70) (grd (inb ((52 : Int32) + x1) 70) (if ((vM 1) (Int32.toNatClampNeg ((52 : Int32) + x1))) = x2 then (if ((vM 1) (Int32.toNatClampNeg ((64 : Int32) + x1))) = (9 : Int32) then (m_X6_given_j40 vM x1 x3) else (((m_X6_holds x3 ((vM 1) (Int32.toNatClampNeg ((64 : Int32) + x1)))).bind fun o34 => if o34 = 0 then (m_X6_given_j60 vM x1 x3) else (m_X6_given_j40 vM x1 x3)))) else (m_X6_given_j60 vM x1 x3)))
def m_X6_remember_L66B  (rc : Ob → Int32 → Int32 → Option (Ob)) (vM : Ob) (x1 : Int32) (x2 : Int32) : Option (Ob) :=
  if (3 : Int32) ≤ x2 then (some vM) else (grd (inb x2 40) (grd (inb (x1 + x2) 40) (rc (st vM 3 (Int32.toNatClampNeg (x1 + x2)) ((vM 3) (Int32.toNatClampNeg x2))) x1 (x2 + (1 : Int32)))))
def m_X6_remember_L66  : Nat → Ob → Int32 → Int32 → Option (Ob)
  | 0, _, _, _ => none
  | n + 1, vM, x1, x2 => m_X6_remember_L66B  (m_X6_remember_L66  n) vM x1 x2
def m_X6_remember_j53   (vM : Ob) : Option (Ob) :=
  ((m_X6_remember_L66  FU vM ((4 : Int32) + ((3 : Int32) * ((vM 3) (Int32.toNatClampNeg (3 : Int32))))) (0 : Int32)).bind fun o66_1 => some (st o66_1 3 (Int32.toNatClampNeg (3 : Int32)) (((o66_1 3) (Int32.toNatClampNeg (3 : Int32))) + (1 : Int32))))
def m_X6_remember_L13B  (rc : Ob → Int32 → Option (Ob)) (vM : Ob) (x1 : Int32) : Option (Ob) :=
  if (33 : Int32) ≤ x1 then (some vM) else (grd (inb (((4 : Int32) + x1) + (3 : Int32)) 40) (grd (inb ((4 : Int32) + x1) 40) (rc (st vM 3 (Int32.toNatClampNeg ((4 : Int32) + x1)) ((vM 3) (Int32.toNatClampNeg (((4 : Int32) + x1) + (3 : Int32))))) (x1 + (1 : Int32)))))
def m_X6_remember_L13  : Nat → Ob → Int32 → Option (Ob)
  | 0, _, _ => none
  | n + 1, vM, x1 => m_X6_remember_L13B  (m_X6_remember_L13  n) vM x1
def m_X6_remember (vM : Ob)  : Option (Ob) :=
  if ((vM 3) (Int32.toNatClampNeg (3 : Int32))) = (12 : Int32) then (((m_X6_remember_L13  FU vM (0 : Int32)).bind fun o13_2 => m_X6_remember_j53  (st o13_2 3 (Int32.toNatClampNeg (3 : Int32)) (((o13_2 3) (Int32.toNatClampNeg (3 : Int32))) - (1 : Int32))))) else (m_X6_remember_j53  vM)
def m_X6_walks_j56   (vM : Ob) (x1 : Int32) (x2 : Int32) (s0 : Int32) : Option (Int32 × Ob) :=
  if 0 ≤ s0 then (((m_X6_remember vM).bind fun o65 => ((m_X6_otherEnd o65 x1 ((o65 3) (Int32.toNatClampNeg (0 : Int32)))).bind fun o81 => some (((upd (upd (upd (o65 3) (Int32.toNatClampNeg (0 : Int32)) o81) (Int32.toNatClampNeg (1 : Int32)) x2) (Int32.toNatClampNeg (2 : Int32)) s0) (Int32.toNatClampNeg (0 : Int32))), (st (st (st o65 3 (Int32.toNatClampNeg (0 : Int32)) o81) 3 (Int32.toNatClampNeg (1 : Int32)) x2) 3 (Int32.toNatClampNeg (2 : Int32)) s0))))) else (some ((-2 : Int32), vM))
def m_X6_walks (vM : Ob) (x1 : Int32) : Option (Int32 × Ob) :=
  ((m_X6_isRoad vM x1).bind fun o2 => if o2 = 0 then (some ((-1 : Int32), vM)) else (grd (inb ((43 : Int32) + x1) 70) (if (((vM 3) (Int32.toNatClampNeg (1 : Int32))) + ((vM 1) (Int32.toNatClampNeg ((43 : Int32) + x1)))) ≤ (9999 : Int32) then (((m_X6_enters vM x1 ((vM 3) (Int32.toNatClampNeg (0 : Int32))) (((vM 3) (Int32.toNatClampNeg (1 : Int32))) + ((vM 1) (Int32.toNatClampNeg ((43 : Int32) + x1)))) ((vM 3) (Int32.toNatClampNeg (2 : Int32)))).bind fun o53 => m_X6_walks_j56  vM x1 (((vM 3) (Int32.toNatClampNeg (1 : Int32))) + ((vM 1) (Int32.toNatClampNeg ((43 : Int32) + x1)))) o53)) else (m_X6_walks_j56  vM x1 (((vM 3) (Int32.toNatClampNeg (1 : Int32))) + ((vM 1) (Int32.toNatClampNeg ((43 : Int32) + x1)))) (-1 : Int32)))))
def m_X6_waits (vM : Ob)  : Option (Int32 × Ob) :=
  if ((vM 1) (Int32.toNatClampNeg (0 : Int32))) = 0 then (some ((-2 : Int32), vM)) else (if ((vM 3) (Int32.toNatClampNeg (1 : Int32))) = (9999 : Int32) then (some ((-2 : Int32), vM)) else (((m_X6_remember vM).bind fun o25 => some (((upd (o25 3) (Int32.toNatClampNeg (1 : Int32)) (((o25 3) (Int32.toNatClampNeg (1 : Int32))) + (1 : Int32))) (Int32.toNatClampNeg (1 : Int32))), (st o25 3 (Int32.toNatClampNeg (1 : Int32)) (((o25 3) (Int32.toNatClampNeg (1 : Int32))) + (1 : Int32)))))))
def m_X6_asks (vM : Ob) (x1 : Int32) : Option (Int32 × Ob) :=
  ((m_X6_isHost vM x1).bind fun o2 => if o2 = 0 then (some ((-1 : Int32), vM)) else (((m_X6_given vM x1 ((vM 3) (Int32.toNatClampNeg (0 : Int32))) ((vM 3) (Int32.toNatClampNeg (2 : Int32)))).bind fun o24 => if 0 ≤ o24 then (((m_X6_remember vM).bind fun o36 => some (o24, (st o36 3 (Int32.toNatClampNeg (2 : Int32)) o24)))) else (some ((-2 : Int32), vM)))))
def m_X6_undo_L35B  (rc : Ob → Int32 → Int32 → Option (Ob)) (vM : Ob) (x1 : Int32) (x2 : Int32) : Option (Ob) :=
  if (3 : Int32) ≤ x2 then (some vM) else (grd (inb (x1 + x2) 40) (grd (inb x2 40) (rc (st vM 3 (Int32.toNatClampNeg x2) ((vM 3) (Int32.toNatClampNeg (x1 + x2)))) x1 (x2 + (1 : Int32)))))
def m_X6_undo_L35  : Nat → Ob → Int32 → Int32 → Option (Ob)
  | 0, _, _, _ => none
  | n + 1, vM, x1, x2 => m_X6_undo_L35B  (m_X6_undo_L35  n) vM x1 x2
def m_X6_undo (vM : Ob)  : Option (Int32 × Ob) :=
  if ((vM 3) (Int32.toNatClampNeg (3 : Int32))) = 0 then (some ((-2 : Int32), vM)) else (((m_X6_undo_L35  FU (st vM 3 (Int32.toNatClampNeg (3 : Int32)) (((vM 3) (Int32.toNatClampNeg (3 : Int32))) - (1 : Int32))) ((4 : Int32) + ((3 : Int32) * ((upd (vM 3) (Int32.toNatClampNeg (3 : Int32)) (((vM 3) (Int32.toNatClampNeg (3 : Int32))) - (1 : Int32))) (Int32.toNatClampNeg (3 : Int32))))) (0 : Int32)).bind fun o35_1 => some (((o35_1 3) (Int32.toNatClampNeg (3 : Int32))), o35_1)))
def m_X6_roadsNow_j67 (vM : Ob) (rc : Int32 → Int32 → Option (Int32)) (x2 : Int32) (s0 : Int32) (s1 : Int32) : Option (Int32) :=
  rc (s0 ||| s1) (x2 + (1 : Int32))
def m_X6_roadsNow_j60 (vM : Ob) (rc : Int32 → Int32 → Option (Int32)) (x2 : Int32) (s0 : Int32) : Option (Int32) :=
  m_X6_roadsNow_j67 vM rc x2 s0 (0 : Int32)
def m_X6_roadsNow_L4B (vM : Ob) (rc : Int32 → Int32 → Option (Int32)) (x1 : Int32) (x2 : Int32) : Option (Int32) :=
  if ((vM 1) (Int32.toNatClampNeg (1 : Int32))) ≤ x2 then (some x1) else (grd (inb ((43 : Int32) + x2) 70) (if (9999 : Int32) < (((vM 3) (Int32.toNatClampNeg (1 : Int32))) + ((vM 1) (Int32.toNatClampNeg ((43 : Int32) + x2)))) then (m_X6_roadsNow_j60 vM rc x2 x1) else (((m_X6_enters vM x2 ((vM 3) (Int32.toNatClampNeg (0 : Int32))) (((vM 3) (Int32.toNatClampNeg (1 : Int32))) + ((vM 1) (Int32.toNatClampNeg ((43 : Int32) + x2)))) ((vM 3) (Int32.toNatClampNeg (2 : Int32)))).bind fun o54 => if 0 ≤ o54 then (m_X6_roadsNow_j67 vM rc x2 x1 ((1 : Int32) <<< (x2 &&& 31))) else (m_X6_roadsNow_j60 vM rc x2 x1)))))
def m_X6_roadsNow_L4 (vM : Ob) : Nat → Int32 → Int32 → Option (Int32)
  | 0, _, _ => none
  | n + 1, x1, x2 => m_X6_roadsNow_L4B vM (m_X6_roadsNow_L4 vM n) x1 x2
def m_X6_roadsNow (vM : Ob)  : Option (Int32) :=
  ((m_X6_roadsNow_L4 vM FU (0 : Int32) (0 : Int32)).bind fun o4_1 => some o4_1)
def m_X6_hostsNow_j42 (vM : Ob) (rc : Int32 → Int32 → Option (Int32)) (x2 : Int32) (s0 : Int32) (s1 : Int32) : Option (Int32) :=
  rc (s0 ||| s1) (x2 + (1 : Int32))
def m_X6_hostsNow_L4B (vM : Ob) (rc : Int32 → Int32 → Option (Int32)) (x1 : Int32) (x2 : Int32) : Option (Int32) :=
  if ((vM 1) (Int32.toNatClampNeg (2 : Int32))) ≤ x2 then (some x1) else (((m_X6_given vM x2 ((vM 3) (Int32.toNatClampNeg (0 : Int32))) ((vM 3) (Int32.toNatClampNeg (2 : Int32)))).bind fun o29 => if 0 ≤ o29 then (m_X6_hostsNow_j42 vM rc x2 x1 ((1 : Int32) <<< (x2 &&& 31))) else (m_X6_hostsNow_j42 vM rc x2 x1 (0 : Int32))))
def m_X6_hostsNow_L4 (vM : Ob) : Nat → Int32 → Int32 → Option (Int32)
  | 0, _, _ => none
  | n + 1, x1, x2 => m_X6_hostsNow_L4B vM (m_X6_hostsNow_L4 vM n) x1 x2
def m_X6_hostsNow (vM : Ob)  : Option (Int32) :=
  ((m_X6_hostsNow_L4 vM FU (0 : Int32) (0 : Int32)).bind fun o4_1 => some o4_1)
def m_X6_now (vM : Ob) (x1 : Int32) : Option (Int32) :=
  if x1 = (0 : Int32) then (if ((vM 1) (Int32.toNatClampNeg (0 : Int32))) = 0 then (some (-9 : Int32)) else (some ((vM 3) (Int32.toNatClampNeg (0 : Int32))))) else (if x1 = (1 : Int32) then (some ((vM 3) (Int32.toNatClampNeg (1 : Int32)))) else (if x1 = (2 : Int32) then (some (rem ((vM 3) (Int32.toNatClampNeg (1 : Int32))) (24 : Int32))) else (if x1 = (3 : Int32) then (some ((vM 3) (Int32.toNatClampNeg (2 : Int32)))) else (if x1 = (4 : Int32) then (((m_X6_roadsNow vM).bind fun o86 => some o86)) else (if x1 = (5 : Int32) then (((m_X6_hostsNow vM).bind fun o91 => some o91)) else (some (-1 : Int32)))))))
def m_X6_withAll (vM : Ob)  : Option (Ob) :=
  some (st (st vM 0 18 (-1 : Int32)) 0 19 (-1 : Int32))
def m_X6_canBe (vM : Ob) (x1 : Int32) (x2 : Int32) (x3 : Int32) : Option (Int32) :=
  grd (inb (((7 : Int32) * x1) + x2) 427) (((m_X6_holds ((vM 18) (Int32.toNatClampNeg (((7 : Int32) * x1) + x2))) x3).bind fun o12 => grd (bz o12) (some o12)))
def m_X6_leads (vM : Ob) (x1 : Int32) (x2 : Int32) (x3 : Int32) (x4 : Int32) (x5 : Int32) : Option (Int32) :=
  grd (inb ((43 : Int32) + x4) 70) (if x4 = (vM 0 18) then (some (0 : Int32)) else (if (x1 + ((vM 1) (Int32.toNatClampNeg ((43 : Int32) + x4)))) ≤ x5 then (((m_X6_enters vM x4 x2 (((vM 3) (Int32.toNatClampNeg (1 : Int32))) + (x1 + ((vM 1) (Int32.toNatClampNeg ((43 : Int32) + x4))))) x3).bind fun o46 => if o46 < 0 then (some (0 : Int32)) else (((m_X6_otherEnd vM x4 x2).bind fun o63 => ((m_X6_canBe vM (x1 + ((vM 1) (Int32.toNatClampNeg ((43 : Int32) + x4)))) o63 o46).bind fun o68 => if o68 = 0 then (some (0 : Int32)) else (some (1 : Int32))))))) else (some (0 : Int32))))
def m_X6_asksOn_j21 (vM : Ob)  (x1 : Int32) (x2 : Int32) (s0 : Int32) : Option (Int32) :=
  if s0 < 0 then (some (0 : Int32)) else (((m_X6_canBe vM x1 x2 s0).bind fun o33 => if o33 = 0 then (some (0 : Int32)) else (some (1 : Int32))))
def m_X6_asksOn (vM : Ob) (x1 : Int32) (x2 : Int32) (x3 : Int32) (x4 : Int32) : Option (Int32) :=
  if x4 = (vM 0 19) then (m_X6_asksOn_j21 vM x1 x2 (-1 : Int32)) else (((m_X6_given vM x4 x2 x3).bind fun o18 => m_X6_asksOn_j21 vM x1 x2 o18))
def m_X6_waitsOn (vM : Ob) (x1 : Int32) (x2 : Int32) (x3 : Int32) (x4 : Int32) : Option (Int32) :=
  if x4 ≤ x1 then (some (0 : Int32)) else (((m_X6_canBe vM (x1 + (1 : Int32)) x2 x3).bind fun o12 => if o12 = 0 then (some (0 : Int32)) else (some (1 : Int32))))
def m_X6_goesOn_L14B (vM : Ob) (rc : Int32 → Int32 → Int32 → Int32 → Int32 → Int32 → Option (Int32 × Int32 × Int32 × Int32)) (x1 : Int32) (x2 : Int32) (x3 : Int32) (x4 : Int32) (x5 : Int32) (x6 : Int32) : Option (Int32 × Int32 × Int32 × Int32) :=
  if ((vM 1) (Int32.toNatClampNeg (1 : Int32))) ≤ x6 then (some (x1, x2, x3, x5)) else (if x5 = 0 then (((m_X6_leads vM x1 x2 x3 x6 x4).bind fun o38 => rc x1 x2 x3 x4 o38 (x6 + (1 : Int32)))) else (some (x1, x2, x3, x5)))
def m_X6_goesOn_L14 (vM : Ob) : Nat → Int32 → Int32 → Int32 → Int32 → Int32 → Int32 → Option (Int32 × Int32 × Int32 × Int32)
  | 0, _, _, _, _, _, _ => none
  | n + 1, x1, x2, x3, x4, x5, x6 => m_X6_goesOn_L14B vM (m_X6_goesOn_L14 vM n) x1 x2 x3 x4 x5 x6
def m_X6_goesOn_L52B (vM : Ob) (rc : Int32 → Int32 → Int32 → Int32 → Int32 → Option (Int32)) (x1 : Int32) (x2 : Int32) (x3 : Int32) (x5 : Int32) (x6 : Int32) : Option (Int32) :=
  if ((vM 1) (Int32.toNatClampNeg (2 : Int32))) ≤ x6 then (some x5) else (if x5 = 0 then (((m_X6_asksOn vM x1 x2 x3 x6).bind fun o74 => rc x1 x2 x3 o74 (x6 + (1 : Int32)))) else (some x5))
def m_X6_goesOn_L52 (vM : Ob) : Nat → Int32 → Int32 → Int32 → Int32 → Int32 → Option (Int32)
  | 0, _, _, _, _, _ => none
  | n + 1, x1, x2, x3, x5, x6 => m_X6_goesOn_L52B vM (m_X6_goesOn_L52 vM n) x1 x2 x3 x5 x6
def m_X6_goesOn (vM : Ob) (x1 : Int32) (x2 : Int32) (x3 : Int32) (x4 : Int32) : Option (Int32) :=
  ((m_X6_waitsOn vM x1 x2 x3 x4).bind fun o6 => ((m_X6_goesOn_L14 vM FU x1 x2 x3 x4 o6 (0 : Int32)).bind fun o14_1 => ((m_X6_goesOn_L52 vM FU o14_1.1 o14_1.2.1 o14_1.2.2.1 o14_1.2.2.2 (0 : Int32)).bind fun o52_2 => grd (bz o52_2) (some o52_2))))
def m_X6_layWays_j107  (rc : Ob → Int32 → Int32 → Int32 → Int32 → Int32 → Option (Ob × Int32 × Int32 × Int32 × Int32)) (vM : Ob) (x1 : Int32) (x2 : Int32) (x3 : Int32) (x4 : Int32) (x5 : Int32) (s1 : Int32) (s2 : Int32) (s3 : Int32) : Option (Ob × Int32 × Int32 × Int32 × Int32) :=
  grd (inb s1 427) (rc (st vM 18 (Int32.toNatClampNeg s1) (s2 ||| s3)) x1 x2 x3 x4 (x5 + (-1 : Int32)))
def m_X6_layWays_j99  (rc : Ob → Int32 → Int32 → Int32 → Int32 → Int32 → Option (Ob × Int32 × Int32 × Int32 × Int32)) (vM : Ob) (x1 : Int32) (x2 : Int32) (x3 : Int32) (x4 : Int32) (x5 : Int32) (s1 : Int32) (s2 : Int32) : Option (Ob × Int32 × Int32 × Int32 × Int32) :=
  m_X6_layWays_j107  rc vM x1 x2 x3 x4 x5 s1 s2 ((1 : Int32) <<< (x5 &&& 31))
def m_X6_layWays_j66  (rc : Ob → Int32 → Int32 → Int32 → Int32 → Int32 → Option (Ob × Int32 × Int32 × Int32 × Int32)) (vM : Ob) (x1 : Int32) (x2 : Int32) (x3 : Int32) (x4 : Int32) (x5 : Int32) (s0 : Int32) : Option (Ob × Int32 × Int32 × Int32 × Int32) :=
  grd (inb (((7 : Int32) * x3) + x4) 427) (if s0 = 0 then (((m_X6_goesOn vM x3 x4 x5 x2).bind fun o93 => if o93 = 0 then (m_X6_layWays_j107  rc vM x1 x2 x3 x4 x5 (((7 : Int32) * x3) + x4) ((vM 18) (Int32.toNatClampNeg (((7 : Int32) * x3) + x4))) (0 : Int32)) else (m_X6_layWays_j99  rc vM x1 x2 x3 x4 x5 (((7 : Int32) * x3) + x4) ((vM 18) (Int32.toNatClampNeg (((7 : Int32) * x3) + x4)))))) else (m_X6_layWays_j99  rc vM x1 x2 x3 x4 x5 (((7 : Int32) * x3) + x4) ((vM 18) (Int32.toNatClampNeg (((7 : Int32) * x3) + x4)))))
def m_X6_layWays_j65  (rc : Ob → Int32 → Int32 → Int32 → Int32 → Int32 → Option (Ob × Int32 × Int32 × Int32 × Int32)) (vM : Ob) (x1 : Int32) (x2 : Int32) (x3 : Int32) (x4 : Int32) (x5 : Int32) : Option (Ob × Int32 × Int32 × Int32 × Int32) :=
  m_X6_layWays_j66  rc vM x1 x2 x3 x4 x5 (0 : Int32)
def m_X6_layWays_L37B  (rc : Ob → Int32 → Int32 → Int32 → Int32 → Int32 → Option (Ob × Int32 × Int32 × Int32 × Int32)) (vM : Ob) (x1 : Int32) (x2 : Int32) (x3 : Int32) (x4 : Int32) (x5 : Int32) : Option (Ob × Int32 × Int32 × Int32 × Int32) :=
  if x5 < 0 then (some (vM, x1, x2, x3, x4)) else (if x3 = x2 then (if x4 = 0 then (((m_X6_holds x5 x1).bind fun o55 => if o55 = 0 then (m_X6_layWays_j65  rc vM x1 x2 x3 x4 x5) else (m_X6_layWays_j66  rc vM x1 x2 x3 x4 x5 (1 : Int32)))) else (m_X6_layWays_j65  rc vM x1 x2 x3 x4 x5)) else (m_X6_layWays_j65  rc vM x1 x2 x3 x4 x5))
def m_X6_layWays_L37  : Nat → Ob → Int32 → Int32 → Int32 → Int32 → Int32 → Option (Ob × Int32 × Int32 × Int32 × Int32)
  | 0, _, _, _, _, _, _ => none
  | n + 1, vM, x1, x2, x3, x4, x5 => m_X6_layWays_L37B  (m_X6_layWays_L37  n) vM x1 x2 x3 x4 x5
def m_X6_layWays_L9B  (rc : Ob → Int32 → Int32 → Int32 → Int32 → Option (Ob × Int32 × Int32 × Int32)) (vM : Ob) (x1 : Int32) (x2 : Int32) (x3 : Int32) (x4 : Int32) : Option (Ob × Int32 × Int32 × Int32) :=
  if ((vM 1) (Int32.toNatClampNeg (0 : Int32))) ≤ x4 then (some (vM, x1, x2, x3)) else (grd (inb (((7 : Int32) * x3) + x4) 427) (((m_X6_layWays_L37  FU (st vM 18 (Int32.toNatClampNeg (((7 : Int32) * x3) + x4)) (0 : Int32)) x1 x2 x3 x4 (31 : Int32)).bind fun o37_1 => rc o37_1.1 o37_1.2.1 o37_1.2.2.1 o37_1.2.2.2.1 (o37_1.2.2.2.2 + (1 : Int32)))))
def m_X6_layWays_L9  : Nat → Ob → Int32 → Int32 → Int32 → Int32 → Option (Ob × Int32 × Int32 × Int32)
  | 0, _, _, _, _, _ => none
  | n + 1, vM, x1, x2, x3, x4 => m_X6_layWays_L9B  (m_X6_layWays_L9  n) vM x1 x2 x3 x4
def m_X6_layWays_L2B  (rc : Ob → Int32 → Int32 → Int32 → Option (Ob)) (vM : Ob) (x1 : Int32) (x2 : Int32) (x3 : Int32) : Option (Ob) :=
  if x3 < 0 then (some vM) else (((m_X6_layWays_L9  FU vM x1 x2 x3 (0 : Int32)).bind fun o9_2 => rc o9_2.1 o9_2.2.1 o9_2.2.2.1 (o9_2.2.2.2 + (-1 : Int32))))
def m_X6_layWays_L2  : Nat → Ob → Int32 → Int32 → Int32 → Option (Ob)
  | 0, _, _, _, _ => none
  | n + 1, vM, x1, x2, x3 => m_X6_layWays_L2B  (m_X6_layWays_L2  n) vM x1 x2 x3
def m_X6_layWays (vM : Ob) (x1 : Int32) (x2 : Int32) : Option (Ob) :=
  ((m_X6_layWays_L2  FU vM x1 x2 x2).bind fun o2_3 => some o2_3)
def m_X6_isWay (vM : Ob) (x1 : Int32) (x2 : Int32) : Option (Int32 × Ob) :=
  ((m_X6_layWays vM x1 x2).bind fun o3 => ((m_X6_canBe o3 (0 : Int32) ((o3 3) (Int32.toNatClampNeg (0 : Int32))) ((o3 3) (Int32.toNatClampNeg (2 : Int32)))).bind fun o20 => grd (bz o20) (some (o20, o3))))
def m_X6_fewest_j73  (rc : Ob → Int32 → Int32 → Int32 → Option (Ob × Int32 × Int32)) (vM : Ob) (x1 : Int32) (x2 : Int32) (s0 : Int32) : Option (Ob × Int32 × Int32) :=
  rc vM x1 x2 s0
def m_X6_fewest_j61  (rc : Ob → Int32 → Int32 → Int32 → Option (Ob × Int32 × Int32)) (vM : Ob) (x1 : Int32) (x3 : Int32) (x4 : Int32) (x5 : Int32) (s0 : Int32) : Option (Ob × Int32 × Int32) :=
  if x5 = 0 then (m_X6_fewest_j73  rc vM x1 s0 x3) else (m_X6_fewest_j73  rc vM x1 s0 x4)
def m_X6_fewest_L27B  (rc : Ob → Int32 → Int32 → Int32 → Option (Ob × Int32 × Int32)) (vM : Ob) (x1 : Int32) (x2 : Int32) (x3 : Int32) : Option (Ob × Int32 × Int32) :=
  if x3 ≤ x2 then (some (vM, x1, x2)) else (((m_X6_isWay vM x1 ((x2 + x3) / (2 : Int32))).bind fun o43 => if o43.1 = 0 then (m_X6_fewest_j61  rc o43.2 x1 x3 ((x2 + x3) / (2 : Int32)) o43.1 (((x2 + x3) / (2 : Int32)) + (1 : Int32))) else (m_X6_fewest_j61  rc o43.2 x1 x3 ((x2 + x3) / (2 : Int32)) o43.1 x2)))
def m_X6_fewest_L27  : Nat → Ob → Int32 → Int32 → Int32 → Option (Ob × Int32 × Int32)
  | 0, _, _, _, _ => none
  | n + 1, vM, x1, x2, x3 => m_X6_fewest_L27B  (m_X6_fewest_L27  n) vM x1 x2 x3
def m_X6_fewest (vM : Ob) (x1 : Int32) : Option (Int32 × Ob) :=
  if ((vM 1) (Int32.toNatClampNeg (0 : Int32))) = 0 then (some ((-9 : Int32), vM)) else (((m_X6_isWay vM x1 (60 : Int32)).bind fun o13 => if o13.1 = 0 then (some ((-9 : Int32), o13.2)) else (((m_X6_fewest_L27  FU o13.2 x1 (0 : Int32) (60 : Int32)).bind fun o27_1 => ((m_X6_layWays o27_1.1 o27_1.2.1 o27_1.2.2).bind fun o80 => some (o27_1.2.2, o80))))))
def m_X6_leastStep_L17B (vM : Ob) (rc : Int32 → Int32 → Int32 → Int32 → Int32 → Option ((Int32) ⊕ (Int32 × Int32 × Int32))) (x1 : Int32) (x2 : Int32) (x3 : Int32) (x4 : Int32) (x5 : Int32) : Option ((Int32) ⊕ (Int32 × Int32 × Int32)) :=
  if ((vM 1) (Int32.toNatClampNeg (1 : Int32))) ≤ x5 then (some (.inr (x1, x2, x3))) else (((m_X6_leads vM x1 x2 x3 x5 x4).bind fun o36 => if o36 = 0 then (rc x1 x2 x3 x4 (x5 + (1 : Int32))) else (some (.inl ((1 : Int32) + x5)))))
def m_X6_leastStep_L17 (vM : Ob) : Nat → Int32 → Int32 → Int32 → Int32 → Int32 → Option ((Int32) ⊕ (Int32 × Int32 × Int32))
  | 0, _, _, _, _, _ => none
  | n + 1, x1, x2, x3, x4, x5 => m_X6_leastStep_L17B vM (m_X6_leastStep_L17 vM n) x1 x2 x3 x4 x5
def m_X6_leastStep_L56B (vM : Ob) (rc : Int32 → Int32 → Int32 → Int32 → Option (Int32)) (x1 : Int32) (x2 : Int32) (x3 : Int32) (x5 : Int32) : Option (Int32) :=
  ((m_X6_asksOn vM x1 x2 x3 x5).bind fun o62 => if o62 = 0 then (rc x1 x2 x3 (x5 + (1 : Int32))) else (some x5))
def m_X6_leastStep_L56 (vM : Ob) : Nat → Int32 → Int32 → Int32 → Int32 → Option (Int32)
  | 0, _, _, _, _ => none
  | n + 1, x1, x2, x3, x5 => m_X6_leastStep_L56B vM (m_X6_leastStep_L56 vM n) x1 x2 x3 x5
def m_X6_leastStep (vM : Ob) (x1 : Int32) (x2 : Int32) (x3 : Int32) (x4 : Int32) : Option (Int32) :=
  ((m_X6_waitsOn vM x1 x2 x3 x4).bind fun o6 => if o6 = 0 then (((m_X6_leastStep_L17 vM FU x1 x2 x3 x4 (0 : Int32)).bind fun o17_1 => Sum.elim (fun r => some r) (fun o17_1x => ((m_X6_leastStep_L56 vM FU o17_1x.1 o17_1x.2.1 o17_1x.2.2 (0 : Int32)).bind fun o56_2 => some ((11 : Int32) + o56_2))) o17_1)) else (some (0 : Int32)))
def m_X6_layRow_j213  (rc : Ob → Int32 → Int32 → Int32 → Int32 → Int32 → Option (Ob)) (vM : Ob) (x1 : Int32) (x2 : Int32) (x3 : Int32) (x4 : Int32) (x5 : Int32) : Option (Ob) :=
  rc vM x1 x2 x3 x4 x5
def m_X6_layRow_j209  (rc : Ob → Int32 → Int32 → Int32 → Int32 → Int32 → Option (Ob)) (vM : Ob) (x1 : Int32) (x2 : Int32) (x3 : Int32) (x4 : Int32) (x5 : Int32) (s1 : Int32) (s2 : Int32) : Option (Ob) :=
  m_X6_layRow_j213  rc (st vM 0 24 (s1 + s2)) x1 x2 x3 x4 x5
def m_X6_layRow_j47  (rc : Ob → Int32 → Int32 → Int32 → Int32 → Int32 → Option (Ob)) (vM : Ob) (x1 : Int32) (x2 : Int32) (x3 : Int32) (x4 : Int32) (x5 : Int32) : Option (Ob) :=
  ((m_X6_leastStep vM x3 x4 x5 x2).bind fun o54 => grd (inb (vM 0 21) 100) (if o54 = 0 then (m_X6_layRow_j213  rc (st (st vM 21 (Int32.toNatClampNeg (vM 0 21)) o54) 0 21 ((vM 0 21) + (1 : Int32))) x1 x2 (x3 + (1 : Int32)) x4 x5) else (if o54 ≤ (10 : Int32) then (((m_X6_holds x5 x1).bind fun o119 => grd (inb (((43 : Int32) + o54) - (1 : Int32)) 70) (((m_X6_enters (st (st vM 21 (Int32.toNatClampNeg (vM 0 21)) o54) 0 21 ((vM 0 21) + (1 : Int32))) (o54 - (1 : Int32)) x4 (((vM 3) (Int32.toNatClampNeg (1 : Int32))) + (x3 + ((vM 1) (Int32.toNatClampNeg (((43 : Int32) + o54) - (1 : Int32)))))) x5).bind fun o156 => ((m_X6_otherEnd (st (st vM 21 (Int32.toNatClampNeg (vM 0 21)) o54) 0 21 ((vM 0 21) + (1 : Int32))) (o54 - (1 : Int32)) x4).bind fun o168 => grd (inb (vM 0 24) 100) (grd (inb (vM 0 24) 100) (if o119 = 0 then (m_X6_layRow_j209  rc (st (st (st (st vM 21 (Int32.toNatClampNeg (vM 0 21)) o54) 0 21 ((vM 0 21) + (1 : Int32))) 23 (Int32.toNatClampNeg (vM 0 24)) o168) 24 (Int32.toNatClampNeg (vM 0 24)) (x3 + ((vM 1) (Int32.toNatClampNeg (((43 : Int32) + o54) - (1 : Int32)))))) x1 x2 (x3 + ((vM 1) (Int32.toNatClampNeg (((43 : Int32) + o54) - (1 : Int32))))) o168 o156 (vM 0 24) (0 : Int32)) else (m_X6_layRow_j209  rc (st (st (st (st vM 21 (Int32.toNatClampNeg (vM 0 21)) o54) 0 21 ((vM 0 21) + (1 : Int32))) 23 (Int32.toNatClampNeg (vM 0 24)) o168) 24 (Int32.toNatClampNeg (vM 0 24)) (x3 + ((vM 1) (Int32.toNatClampNeg (((43 : Int32) + o54) - (1 : Int32)))))) x1 x2 (x3 + ((vM 1) (Int32.toNatClampNeg (((43 : Int32) + o54) - (1 : Int32))))) o168 o156 (vM 0 24) (1 : Int32))))))))) else (((m_X6_given (st (st vM 21 (Int32.toNatClampNeg (vM 0 21)) o54) 0 21 ((vM 0 21) + (1 : Int32))) (o54 - (11 : Int32)) x4 x5).bind fun o108 => m_X6_layRow_j213  rc (st (st vM 21 (Int32.toNatClampNeg (vM 0 21)) o54) 0 21 ((vM 0 21) + (1 : Int32))) x1 x2 x3 x4 o108)))))
def m_X6_layRow_L28B  (rc : Ob → Int32 → Int32 → Int32 → Int32 → Int32 → Option (Ob)) (vM : Ob) (x1 : Int32) (x2 : Int32) (x3 : Int32) (x4 : Int32) (x5 : Int32) : Option (Ob) :=
  if x3 = x2 then (if x4 = 0 then (((m_X6_holds x5 x1).bind fun o41 => if o41 = 0 then (m_X6_layRow_j47  rc vM x1 x2 x3 x4 x5) else (some vM))) else (m_X6_layRow_j47  rc vM x1 x2 x3 x4 x5)) else (m_X6_layRow_j47  rc vM x1 x2 x3 x4 x5)
def m_X6_layRow_L28  : Nat → Ob → Int32 → Int32 → Int32 → Int32 → Int32 → Option (Ob)
  | 0, _, _, _, _, _, _ => none
  | n + 1, vM, x1, x2, x3, x4, x5 => m_X6_layRow_L28B  (m_X6_layRow_L28  n) vM x1 x2 x3 x4 x5
def m_X6_layRow (vM : Ob) (x1 : Int32) (x2 : Int32) : Option (Ob) :=
  ((m_X6_layRow_L28  FU (st (st vM 0 21 (0 : Int32)) 0 24 (0 : Int32)) x1 x2 (0 : Int32) ((vM 3) (Int32.toNatClampNeg (0 : Int32))) ((vM 3) (Int32.toNatClampNeg (2 : Int32)))).bind fun o28_1 => some o28_1)
def m_X6_soonest (vM : Ob) (x1 : Int32) (x2 : Int32) : Option (Int32 × Ob) :=
  ((m_X6_isThing x1).bind fun o1 => if o1 = 0 then (some ((-1 : Int32), vM)) else (((m_X6_in (Int32.toInt64 x2) (-1 : Int64) (99 : Int64)).bind fun o15 => if o15 = 0 then (some ((-1 : Int32), vM)) else (((m_X6_withAll vM).bind fun o24 => ((m_X6_fewest o24 x1).bind fun o29 => if o29.1 = (-9 : Int32) then (some (o29.1, o29.2)) else (if 0 ≤ x2 then (((m_X6_layRow o29.2 x1 o29.1).bind fun o48 => if (o48 0 21) ≤ x2 then (some ((-9 : Int32), o48)) else (grd (inb x2 100) (some (((o48 21) (Int32.toNatClampNeg x2)), o48))))) else (some (o29.1, o29.2)))))))))
def m_X6_latest_L45B  (rc : Ob → Int32 → Option ((Int32 × Ob) ⊕ (Ob))) (vM : Ob) (x3 : Int32) : Option ((Int32 × Ob) ⊕ (Ob)) :=
  if x3 < 0 then (some (.inr vM)) else (((m_X6_canBe vM x3 ((vM 3) (Int32.toNatClampNeg (0 : Int32))) ((vM 3) (Int32.toNatClampNeg (2 : Int32)))).bind fun o63 => if o63 = 0 then (rc vM (x3 + (-1 : Int32))) else (some (.inl (x3, vM)))))
def m_X6_latest_L45  : Nat → Ob → Int32 → Option ((Int32 × Ob) ⊕ (Ob))
  | 0, _, _ => none
  | n + 1, vM, x3 => m_X6_latest_L45B  (m_X6_latest_L45  n) vM x3
def m_X6_latest (vM : Ob) (x1 : Int32) (x2 : Int32) : Option (Int32 × Ob) :=
  ((m_X6_isThing x1).bind fun o1 => if o1 = 0 then (some ((-1 : Int32), vM)) else (((m_X6_in (Int32.toInt64 x2) (0 : Int64) (60 : Int64)).bind fun o13 => if o13 = 0 then (some ((-1 : Int32), vM)) else (if ((vM 1) (Int32.toNatClampNeg (0 : Int32))) = 0 then (some ((-9 : Int32), vM)) else (((m_X6_withAll vM).bind fun o34 => ((m_X6_layWays o34 x1 x2).bind fun o40 => ((m_X6_latest_L45  FU o40 x2).bind fun o45_1 => Sum.elim (fun r => some r) (fun o45_1x => some ((-9 : Int32), o45_1x)) o45_1))))))))
def m_X6_without_j105  (rc : Ob → Int32 → Int32 → Int32 → Int32 → Option (Ob × Int32)) (vM : Ob) (x1 : Int32) (x2 : Int32) (x4 : Int32) (s0 : Int32) (s1 : Int32) : Option (Ob × Int32) :=
  rc vM x1 x2 (s0 ||| s1) (x4 + (1 : Int32))
def m_X6_without_j83  (rc : Ob → Int32 → Int32 → Int32 → Int32 → Option (Ob × Int32)) (vM : Ob) (x1 : Int32) (x2 : Int32) (x3 : Int32) (x4 : Int32) (s1 : Int32) : Option (Ob × Int32) :=
  ((m_X6_isWay (st vM 0 19 s1) x1 (60 : Int32)).bind fun o91 => if o91.1 = 0 then (m_X6_without_j105  rc o91.2 x1 x2 x4 x3 ((1 : Int32) <<< (x4 &&& 31))) else (m_X6_without_j105  rc o91.2 x1 x2 x4 x3 (0 : Int32)))
def m_X6_without_j68  (rc : Ob → Int32 → Int32 → Int32 → Int32 → Option (Ob × Int32)) (vM : Ob) (x1 : Int32) (x2 : Int32) (x3 : Int32) (x4 : Int32) (s1 : Int32) : Option (Ob × Int32) :=
  if x2 = (1 : Int32) then (m_X6_without_j83  rc (st vM 0 18 s1) x1 x2 x3 x4 x4) else (m_X6_without_j83  rc (st vM 0 18 s1) x1 x2 x3 x4 (-1 : Int32))
def m_X6_without_L44B  (rc : Ob → Int32 → Int32 → Int32 → Int32 → Option (Ob × Int32)) (vM : Ob) (x1 : Int32) (x2 : Int32) (x3 : Int32) (x4 : Int32) : Option (Ob × Int32) :=
  grd (inb ((1 : Int32) + x2) 70) (if ((vM 1) (Int32.toNatClampNeg ((1 : Int32) + x2))) ≤ x4 then (some (vM, x3)) else (if x2 = 0 then (m_X6_without_j68  rc vM x1 x2 x3 x4 x4) else (m_X6_without_j68  rc vM x1 x2 x3 x4 (-1 : Int32))))
def m_X6_without_L44  : Nat → Ob → Int32 → Int32 → Int32 → Int32 → Option (Ob × Int32)
  | 0, _, _, _, _, _ => none
  | n + 1, vM, x1, x2, x3, x4 => m_X6_without_L44B  (m_X6_without_L44  n) vM x1 x2 x3 x4
def m_X6_without (vM : Ob) (x1 : Int32) (x2 : Int32) : Option (Int32 × Ob) :=
  ((m_X6_isThing x1).bind fun o1 => if o1 = 0 then (some ((-1 : Int32), vM)) else (((m_X6_isTwo x2).bind fun o8 => if o8 = 0 then (some ((-1 : Int32), vM)) else (((m_X6_withAll vM).bind fun o17 => if ((o17 1) (Int32.toNatClampNeg (0 : Int32))) ≤ 0 then (some ((0 : Int32), o17)) else (((m_X6_isWay o17 x1 (60 : Int32)).bind fun o35 => if o35.1 = 0 then (some ((0 : Int32), o35.2)) else (((m_X6_without_L44  FU o35.2 x1 x2 (0 : Int32) (0 : Int32)).bind fun o44_1 => some (o44_1.2, o44_1.1))))))))))
def m_X6_layFar_j25  (rc : Ob → Int32 → Int32 → Option (Ob)) (vM : Ob) (x1 : Int32) (x2 : Int32) (s1 : Int32) (s2 : Int32) : Option (Ob) :=
  grd (inb s1 7) (rc (st vM 26 (Int32.toNatClampNeg s1) s2) x1 (x2 + (1 : Int32)))
def m_X6_layFar_L2B  (rc : Ob → Int32 → Int32 → Option (Ob)) (vM : Ob) (x1 : Int32) (x2 : Int32) : Option (Ob) :=
  if (7 : Int32) ≤ x2 then (some vM) else (if x2 = x1 then (m_X6_layFar_j25  rc vM x1 x2 x2 (0 : Int32)) else (m_X6_layFar_j25  rc vM x1 x2 x2 (9999 : Int32)))
def m_X6_layFar_L2  : Nat → Ob → Int32 → Int32 → Option (Ob)
  | 0, _, _, _ => none
  | n + 1, vM, x1, x2 => m_X6_layFar_L2B  (m_X6_layFar_L2  n) vM x1 x2
def m_X6_layFar_j178  (rc : Ob → Int32 → Int32 → Option (Ob × Int32)) (vM : Ob) (x2 : Int32) (x3 : Int32) (s1 : Int32) (s2 : Int32) : Option (Ob × Int32) :=
  grd (inb s1 7) (rc (st vM 26 (Int32.toNatClampNeg s1) s2) x2 (x3 + (1 : Int32)))
def m_X6_layFar_j131  (rc : Ob → Int32 → Int32 → Option (Ob × Int32)) (vM : Ob) (x2 : Int32) (x3 : Int32) (x4 : Int32) (x5 : Int32) (x6 : Int32) (s1 : Int32) (s2 : Int32) : Option (Ob × Int32) :=
  grd (inb s1 7) (grd (inb x4 7) (grd (inb x5 7) (if ((upd (vM 26) (Int32.toNatClampNeg s1) s2) (Int32.toNatClampNeg x5)) ≤ (((upd (vM 26) (Int32.toNatClampNeg s1) s2) (Int32.toNatClampNeg x4)) + x6) then (grd (inb x5 7) (m_X6_layFar_j178  rc (st vM 26 (Int32.toNatClampNeg s1) s2) x2 x3 x5 ((upd (vM 26) (Int32.toNatClampNeg s1) s2) (Int32.toNatClampNeg x5)))) else (grd (inb x4 7) (m_X6_layFar_j178  rc (st vM 26 (Int32.toNatClampNeg s1) s2) x2 x3 x5 (((upd (vM 26) (Int32.toNatClampNeg s1) s2) (Int32.toNatClampNeg x4)) + x6))))))
def m_X6_layFar_L42B  (rc : Ob → Int32 → Int32 → Option (Ob × Int32)) (vM : Ob) (x2 : Int32) (x3 : Int32) : Option (Ob × Int32) :=
  if ((vM 1) (Int32.toNatClampNeg (1 : Int32))) ≤ x3 then (some (vM, x2)) else (grd (inb ((25 : Int32) + x3) 70) (grd (inb ((34 : Int32) + x3) 70) (grd (inb ((43 : Int32) + x3) 70) (grd (inb ((vM 1) (Int32.toNatClampNeg ((34 : Int32) + x3))) 7) (grd (inb ((vM 1) (Int32.toNatClampNeg ((25 : Int32) + x3))) 7) (if ((vM 26) (Int32.toNatClampNeg ((vM 1) (Int32.toNatClampNeg ((25 : Int32) + x3))))) ≤ (((vM 26) (Int32.toNatClampNeg ((vM 1) (Int32.toNatClampNeg ((34 : Int32) + x3))))) + ((vM 1) (Int32.toNatClampNeg ((43 : Int32) + x3)))) then (grd (inb ((vM 1) (Int32.toNatClampNeg ((25 : Int32) + x3))) 7) (m_X6_layFar_j131  rc vM x2 x3 ((vM 1) (Int32.toNatClampNeg ((25 : Int32) + x3))) ((vM 1) (Int32.toNatClampNeg ((34 : Int32) + x3))) ((vM 1) (Int32.toNatClampNeg ((43 : Int32) + x3))) ((vM 1) (Int32.toNatClampNeg ((25 : Int32) + x3))) ((vM 26) (Int32.toNatClampNeg ((vM 1) (Int32.toNatClampNeg ((25 : Int32) + x3))))))) else (grd (inb ((vM 1) (Int32.toNatClampNeg ((34 : Int32) + x3))) 7) (m_X6_layFar_j131  rc vM x2 x3 ((vM 1) (Int32.toNatClampNeg ((25 : Int32) + x3))) ((vM 1) (Int32.toNatClampNeg ((34 : Int32) + x3))) ((vM 1) (Int32.toNatClampNeg ((43 : Int32) + x3))) ((vM 1) (Int32.toNatClampNeg ((25 : Int32) + x3))) (((vM 26) (Int32.toNatClampNeg ((vM 1) (Int32.toNatClampNeg ((34 : Int32) + x3))))) + ((vM 1) (Int32.toNatClampNeg ((43 : Int32) + x3))))))))))))
def m_X6_layFar_L42  : Nat → Ob → Int32 → Int32 → Option (Ob × Int32)
  | 0, _, _, _ => none
  | n + 1, vM, x2, x3 => m_X6_layFar_L42B  (m_X6_layFar_L42  n) vM x2 x3
def m_X6_layFar_L34B  (rc : Ob → Int32 → Option (Ob)) (vM : Ob) (x2 : Int32) : Option (Ob) :=
  if (7 : Int32) ≤ x2 then (some vM) else (((m_X6_layFar_L42  FU vM x2 (0 : Int32)).bind fun o42_2 => rc o42_2.1 (o42_2.2 + (1 : Int32))))
def m_X6_layFar_L34  : Nat → Ob → Int32 → Option (Ob)
  | 0, _, _ => none
  | n + 1, vM, x2 => m_X6_layFar_L34B  (m_X6_layFar_L34  n) vM x2
def m_X6_layFar (vM : Ob) (x1 : Int32) : Option (Ob) :=
  ((m_X6_layFar_L2  FU vM x1 (0 : Int32)).bind fun o2_1 => ((m_X6_layFar_L34  FU o2_1 (0 : Int32)).bind fun o34_3 => some o34_3))
def m_X6_robbed_L50B  (rc : Ob → Int32 → Option ((Int32 × Ob) ⊕ (Ob))) (vM : Ob) (x4 : Int32) : Option ((Int32 × Ob) ⊕ (Ob)) :=
  if (vM 0 24) ≤ x4 then (some (.inr vM)) else (grd (inb x4 100) (grd (inb ((vM 23) (Int32.toNatClampNeg x4)) 7) (grd (inb x4 100) (if ((vM 24) (Int32.toNatClampNeg x4)) < ((vM 26) (Int32.toNatClampNeg ((vM 23) (Int32.toNatClampNeg x4)))) then (rc vM (x4 + (1 : Int32))) else (grd (inb x4 100) (some (.inl (((vM 23) (Int32.toNatClampNeg x4)), vM))))))))
def m_X6_robbed_L50  : Nat → Ob → Int32 → Option ((Int32 × Ob) ⊕ (Ob))
  | 0, _, _ => none
  | n + 1, vM, x4 => m_X6_robbed_L50B  (m_X6_robbed_L50  n) vM x4
def m_X6_robbed (vM : Ob) (x1 : Int32) (x2 : Int32) : Option (Int32 × Ob) :=
  ((m_X6_isThing x1).bind fun o1 => if o1 = 0 then (some ((-1 : Int32), vM)) else (((m_X6_isPlace vM x2).bind fun o9 => if o9 = 0 then (some ((-1 : Int32), vM)) else (((m_X6_withAll vM).bind fun o18 => ((m_X6_fewest o18 x1).bind fun o23 => if o23.1 = (-9 : Int32) then (some ((-9 : Int32), o23.2)) else (((m_X6_layRow o23.2 x1 o23.1).bind fun o39 => ((m_X6_layFar o39 x2).bind fun o44 => ((m_X6_robbed_L50  FU o44 (0 : Int32)).bind fun o50_1 => Sum.elim (fun r => some r) (fun o50_1x => some ((-9 : Int32), o50_1x)) o50_1))))))))))
def m_X6_openBy_j46 (vM : Ob) (rc : Int32 → Int32 → Int32 → Int32 → Option (Int32)) (x1 : Int32) (x2 : Int32) (x4 : Int32) (s0 : Int32) (s1 : Int32) : Option (Int32) :=
  rc x1 x2 (s0 + s1) (x4 + (1 : Int32))
def m_X6_openBy_L11B (vM : Ob) (rc : Int32 → Int32 → Int32 → Int32 → Option (Int32)) (x1 : Int32) (x2 : Int32) (x3 : Int32) (x4 : Int32) : Option (Int32) :=
  if ((vM 1) (Int32.toNatClampNeg (3 : Int32))) < x4 then (some x3) else (((m_X6_isOpen vM x1 (rem ((x2 + x4) + (24 : Int32)) (24 : Int32))).bind fun o35 => if o35 = 0 then (m_X6_openBy_j46 vM rc x1 x2 x4 x3 (0 : Int32)) else (m_X6_openBy_j46 vM rc x1 x2 x4 x3 (1 : Int32))))
def m_X6_openBy_L11 (vM : Ob) : Nat → Int32 → Int32 → Int32 → Int32 → Option (Int32)
  | 0, _, _, _, _ => none
  | n + 1, x1, x2, x3, x4 => m_X6_openBy_L11B vM (m_X6_openBy_L11 vM n) x1 x2 x3 x4
def m_X6_openBy (vM : Ob) (x1 : Int32) (x2 : Int32) : Option (Int32) :=
  ((m_X6_openBy_L11 vM FU x1 x2 (0 : Int32) (-((vM 1) (Int32.toNatClampNeg (3 : Int32))))).bind fun o11_1 => some o11_1)
def m_X6_sure (vM : Ob) (x1 : Int32) (x2 : Int32) : Option (Int32) :=
  ((m_X6_isPlace vM x1).bind fun o2 => if o2 = 0 then (some (-1 : Int32)) else (((m_X6_in (Int32.toInt64 x2) (0 : Int64) (23 : Int64)).bind fun o14 => if o14 = 0 then (some (-1 : Int32)) else (((m_X6_openBy vM x1 x2).bind fun o25 => if o25 = (((2 : Int32) * ((vM 1) (Int32.toNatClampNeg (3 : Int32)))) + (1 : Int32)) then (some (1 : Int32)) else (some (0 : Int32)))))))
def m_X6_odds_L57B (vM : Ob) (rc : Int32 → Int32 → Int32 → Int32 → Int32 → Option (Int32 × Int32 × Int32 × Int32)) (x3 : Int32) (x4 : Int32) (x5 : Int32) (x6 : Int32) (x7 : Int32) : Option (Int32 × Int32 × Int32 × Int32) :=
  if x7 = 0 then (some (x3, x4, x5, x6)) else (grd (decide (¬ x7 = 0)) (rc x3 x4 x5 x7 (rem x6 x7)))
def m_X6_odds_L57 (vM : Ob) : Nat → Int32 → Int32 → Int32 → Int32 → Int32 → Option (Int32 × Int32 × Int32 × Int32)
  | 0, _, _, _, _, _ => none
  | n + 1, x3, x4, x5, x6, x7 => m_X6_odds_L57B vM (m_X6_odds_L57 vM n) x3 x4 x5 x6 x7
def m_X6_odds (vM : Ob) (x1 : Int32) (x2 : Int32) (x3 : Int32) : Option (Int32) :=
  ((m_X6_isPlace vM x1).bind fun o2 => if o2 = 0 then (some (-1 : Int32)) else (((m_X6_in (Int32.toInt64 x2) (0 : Int64) (23 : Int64)).bind fun o14 => if o14 = 0 then (some (-1 : Int32)) else (((m_X6_isTwo x3).bind fun o21 => if o21 = 0 then (some (-1 : Int32)) else (((m_X6_openBy vM x1 x2).bind fun o32 => ((m_X6_odds_L57 vM FU x3 o32 (((2 : Int32) * ((vM 1) (Int32.toNatClampNeg (3 : Int32)))) + (1 : Int32)) o32 (((2 : Int32) * ((vM 1) (Int32.toNatClampNeg (3 : Int32)))) + (1 : Int32))).bind fun o57_1 => if o57_1.1 = 0 then (grd (decide (¬ o57_1.2.2.2 = 0)) (some (o57_1.2.1 / o57_1.2.2.2))) else (grd (decide (¬ o57_1.2.2.2 = 0)) (some (o57_1.2.2.1 / o57_1.2.2.2)))))))))))
def m_X6_isSeat  (x0 : Int32) : Option (Int32) :=
  ((m_X6_in (Int32.toInt64 x0) (0 : Int64) (4 : Int64)).bind fun o6 => grd (bz o6) (some o6))
def m_X6_swaps (vM : Ob) (x1 : Int32) (x2 : Int32) : Option (Int32 × Ob) :=
  ((m_X6_isSeat x1).bind fun o1 => if o1 = 0 then (some ((-1 : Int32), vM)) else (((m_X6_isSeat x2).bind fun o8 => if o8 = 0 then (some ((-1 : Int32), vM)) else (if x1 = x2 then (some ((-1 : Int32), vM)) else (if (vM 0 8) = (6 : Int32) then (some ((-3 : Int32), vM)) else (grd (inb ((2 : Int32) * (vM 0 8)) 12) (grd (inb (((2 : Int32) * (vM 0 8)) + (1 : Int32)) 12) (some (((vM 0 8) + (1 : Int32)), (st (st (st vM 8 (Int32.toNatClampNeg ((2 : Int32) * (vM 0 8))) x1) 8 (Int32.toNatClampNeg (((2 : Int32) * (vM 0 8)) + (1 : Int32))) x2) 0 8 ((vM 0 8) + (1 : Int32))))))))))))
def m_X6_tastes (vM : Ob) (x1 : Int32) (x2 : Int32) : Option (Int32 × Ob) :=
  ((m_X6_isSeat x1).bind fun o1 => if o1 = 0 then (some ((-1 : Int32), vM)) else (((m_X6_isSeat x2).bind fun o8 => if o8 = 0 then (some ((-1 : Int32), vM)) else (if (vM 0 10) = (6 : Int32) then (some ((-3 : Int32), vM)) else (grd (inb ((2 : Int32) * (vM 0 10)) 12) (grd (inb (((2 : Int32) * (vM 0 10)) + (1 : Int32)) 12) (some (((vM 0 10) + (1 : Int32)), (st (st (st vM 10 (Int32.toNatClampNeg ((2 : Int32) * (vM 0 10))) x1) 10 (Int32.toNatClampNeg (((2 : Int32) * (vM 0 10)) + (1 : Int32))) x2) 0 10 ((vM 0 10) + (1 : Int32)))))))))))
def m_X6_clears (vM : Ob)  : Option (Int32 × Ob) :=
  some (((vM 0 8) + (vM 0 10)), (st (st vM 0 8 (0 : Int32)) 0 10 (0 : Int32)))
def m_X6_layCups_L2B  (rc : Ob → Int32 → Int32 → Int32 → Option (Ob × Int32 × Int32)) (vM : Ob) (x1 : Int32) (x2 : Int32) (x3 : Int32) : Option (Ob × Int32 × Int32) :=
  if (5 : Int32) ≤ x3 then (some (vM, x1, x2)) else (grd (inb x3 5) (rc (st vM 27 (Int32.toNatClampNeg x3) x3) x1 x2 (x3 + (1 : Int32))))
def m_X6_layCups_L2  : Nat → Ob → Int32 → Int32 → Int32 → Option (Ob × Int32 × Int32)
  | 0, _, _, _, _ => none
  | n + 1, vM, x1, x2, x3 => m_X6_layCups_L2B  (m_X6_layCups_L2  n) vM x1 x2 x3
def m_X6_layCups_j104  (rc : Ob → Int32 → Int32 → Int32 → Option (Ob × Int32)) (vM : Ob) (x1 : Int32) (x2 : Int32) (x3 : Int32) : Option (Ob × Int32) :=
  rc vM x1 x2 (x3 + (1 : Int32))
def m_X6_layCups_L22B  (rc : Ob → Int32 → Int32 → Int32 → Option (Ob × Int32)) (vM : Ob) (x1 : Int32) (x2 : Int32) (x3 : Int32) : Option (Ob × Int32) :=
  if (vM 0 8) ≤ x3 then (some (vM, x1)) else (grd (inb ((2 : Int32) * x3) 12) (grd (inb (((2 : Int32) * x3) + (1 : Int32)) 12) (((m_X6_holds x2 x3).bind fun o54 => if o54 = 0 then (m_X6_layCups_j104  rc vM x1 x2 x3) else (if x1 ≤ ((vM 8) (Int32.toNatClampNeg ((2 : Int32) * x3))) then (m_X6_layCups_j104  rc vM x1 x2 x3) else (if x1 ≤ ((vM 8) (Int32.toNatClampNeg (((2 : Int32) * x3) + (1 : Int32)))) then (m_X6_layCups_j104  rc vM x1 x2 x3) else (grd (inb ((vM 8) (Int32.toNatClampNeg ((2 : Int32) * x3))) 5) (grd (inb ((vM 8) (Int32.toNatClampNeg (((2 : Int32) * x3) + (1 : Int32)))) 5) (grd (inb ((vM 8) (Int32.toNatClampNeg ((2 : Int32) * x3))) 5) (grd (inb ((vM 8) (Int32.toNatClampNeg (((2 : Int32) * x3) + (1 : Int32)))) 5) (m_X6_layCups_j104  rc (st (st vM 27 (Int32.toNatClampNeg ((vM 8) (Int32.toNatClampNeg ((2 : Int32) * x3)))) ((vM 27) (Int32.toNatClampNeg ((vM 8) (Int32.toNatClampNeg (((2 : Int32) * x3) + (1 : Int32))))))) 27 (Int32.toNatClampNeg ((vM 8) (Int32.toNatClampNeg (((2 : Int32) * x3) + (1 : Int32))))) ((vM 27) (Int32.toNatClampNeg ((vM 8) (Int32.toNatClampNeg ((2 : Int32) * x3)))))) x1 x2 x3)))))))))))
def m_X6_layCups_L22  : Nat → Ob → Int32 → Int32 → Int32 → Option (Ob × Int32)
  | 0, _, _, _, _ => none
  | n + 1, vM, x1, x2, x3 => m_X6_layCups_L22B  (m_X6_layCups_L22  n) vM x1 x2 x3
def m_X6_layCups_j174  (rc : Ob → Int32 → Int32 → Int32 → Option (Ob × Int32)) (vM : Ob) (x1 : Int32) (x4 : Int32) (s0 : Int32) : Option (Ob × Int32) :=
  rc vM x1 s0 (x4 + (1 : Int32))
def m_X6_layCups_j173  (rc : Ob → Int32 → Int32 → Int32 → Option (Ob × Int32)) (vM : Ob) (x1 : Int32) (x4 : Int32) : Option (Ob × Int32) :=
  m_X6_layCups_j174  rc vM x1 x4 (0 : Int32)
def m_X6_layCups_L115B  (rc : Ob → Int32 → Int32 → Int32 → Option (Ob × Int32)) (vM : Ob) (x1 : Int32) (x3 : Int32) (x4 : Int32) : Option (Ob × Int32) :=
  if (vM 0 10) ≤ x4 then (some (vM, x3)) else (if x3 = 0 then (m_X6_layCups_j173  rc vM x1 x4) else (grd (inb ((2 : Int32) * x4) 12) (if x1 ≤ ((vM 10) (Int32.toNatClampNeg ((2 : Int32) * x4))) then (m_X6_layCups_j173  rc vM x1 x4) else (grd (inb ((2 : Int32) * x4) 12) (grd (inb ((vM 10) (Int32.toNatClampNeg ((2 : Int32) * x4))) 5) (grd (inb (((2 : Int32) * x4) + (1 : Int32)) 12) (if ((vM 27) (Int32.toNatClampNeg ((vM 10) (Int32.toNatClampNeg ((2 : Int32) * x4))))) = ((vM 10) (Int32.toNatClampNeg (((2 : Int32) * x4) + (1 : Int32)))) then (m_X6_layCups_j174  rc vM x1 x4 (1 : Int32)) else (m_X6_layCups_j173  rc vM x1 x4))))))))
def m_X6_layCups_L115  : Nat → Ob → Int32 → Int32 → Int32 → Option (Ob × Int32)
  | 0, _, _, _, _ => none
  | n + 1, vM, x1, x3, x4 => m_X6_layCups_L115B  (m_X6_layCups_L115  n) vM x1 x3 x4
def m_X6_layCups (vM : Ob) (x1 : Int32) (x2 : Int32) : Option (Int32 × Ob) :=
  ((m_X6_layCups_L2  FU vM x1 x2 (0 : Int32)).bind fun o2_1 => ((m_X6_layCups_L22  FU o2_1.1 o2_1.2.1 o2_1.2.2 (0 : Int32)).bind fun o22_2 => ((m_X6_layCups_L115  FU o22_2.1 o22_2.2 (1 : Int32) (0 : Int32)).bind fun o115_3 => grd (bz o115_3.2) (some (o115_3.2, o115_3.1)))))
def m_X6_layRows_L32B  (rc : Ob → Int32 → Int32 → Int32 → Int32 → Int32 → Option (Ob × Int32 × Int32 × Int32 × Int32)) (vM : Ob) (x1 : Int32) (x2 : Int32) (x3 : Int32) (x4 : Int32) (x5 : Int32) : Option (Ob × Int32 × Int32 × Int32 × Int32) :=
  if x5 < 0 then (some (vM, x1, x2, x3, x4)) else (grd (inb x5 5) (rc vM x1 x2 x3 (((8 : Int32) * x4) + ((vM 27) (Int32.toNatClampNeg x5))) (x5 + (-1 : Int32))))
def m_X6_layRows_L32  : Nat → Ob → Int32 → Int32 → Int32 → Int32 → Int32 → Option (Ob × Int32 × Int32 × Int32 × Int32)
  | 0, _, _, _, _, _, _ => none
  | n + 1, vM, x1, x2, x3, x4, x5 => m_X6_layRows_L32B  (m_X6_layRows_L32  n) vM x1 x2 x3 x4 x5
def m_X6_layRows_j91  (rc : Ob → Int32 → Int32 → Int32 → Int32 → Int32 → Option (Ob × Int32 × Int32 × Int32 × Int32)) (vM : Ob) (x1 : Int32) (x2 : Int32) (x4 : Int32) (x5 : Int32) (s0 : Int32) : Option (Ob × Int32 × Int32 × Int32 × Int32) :=
  rc vM x1 x2 s0 x4 (x5 + (1 : Int32))
def m_X6_layRows_j90  (rc : Ob → Int32 → Int32 → Int32 → Int32 → Int32 → Option (Ob × Int32 × Int32 × Int32 × Int32)) (vM : Ob) (x1 : Int32) (x2 : Int32) (x4 : Int32) (x5 : Int32) : Option (Ob × Int32 × Int32 × Int32 × Int32) :=
  m_X6_layRows_j91  rc vM x1 x2 x4 x5 (0 : Int32)
def m_X6_layRows_L61B  (rc : Ob → Int32 → Int32 → Int32 → Int32 → Int32 → Option (Ob × Int32 × Int32 × Int32 × Int32)) (vM : Ob) (x1 : Int32) (x2 : Int32) (x3 : Int32) (x4 : Int32) (x5 : Int32) : Option (Ob × Int32 × Int32 × Int32 × Int32) :=
  if (vM 0 28) ≤ x5 then (some (vM, x1, x2, x3, x4)) else (if x3 = 0 then (m_X6_layRows_j90  rc vM x1 x2 x4 x5) else (grd (inb x5 64) (if ((vM 28) (Int32.toNatClampNeg x5)) = x4 then (m_X6_layRows_j90  rc vM x1 x2 x4 x5) else (m_X6_layRows_j91  rc vM x1 x2 x4 x5 (1 : Int32)))))
def m_X6_layRows_L61  : Nat → Ob → Int32 → Int32 → Int32 → Int32 → Int32 → Option (Ob × Int32 × Int32 × Int32 × Int32)
  | 0, _, _, _, _, _, _ => none
  | n + 1, vM, x1, x2, x3, x4, x5 => m_X6_layRows_L61B  (m_X6_layRows_L61  n) vM x1 x2 x3 x4 x5
def m_X6_layRows_j139  (rc : Ob → Int32 → Int32 → Option (Ob)) (vM : Ob) (x1 : Int32) (x2 : Int32) (s1 : Int32) (s2 : Int32) : Option (Ob) :=
  rc (st vM 0 28 (s1 + s2)) x1 (x2 + (1 : Int32))
def m_X6_layRows_j124  (rc : Ob → Int32 → Int32 → Option (Ob)) (vM : Ob) (x1 : Int32) (x2 : Int32) (x3 : Int32) (s1 : Int32) (s2 : Int32) : Option (Ob) :=
  grd (inb s1 64) (if x3 = 0 then (m_X6_layRows_j139  rc (st vM 28 (Int32.toNatClampNeg s1) s2) x1 x2 (vM 0 28) (0 : Int32)) else (m_X6_layRows_j139  rc (st vM 28 (Int32.toNatClampNeg s1) s2) x1 x2 (vM 0 28) (1 : Int32)))
def m_X6_layRows_L7B  (rc : Ob → Int32 → Int32 → Option (Ob)) (vM : Ob) (x1 : Int32) (x2 : Int32) : Option (Ob) :=
  if ((1 : Int32) <<< ((vM 0 8) &&& 31)) ≤ x2 then (some vM) else (((m_X6_layCups vM x1 x2).bind fun o20 => ((m_X6_layRows_L32  FU o20.2 x1 x2 o20.1 (0 : Int32) (x1 - (1 : Int32))).bind fun o32_1 => ((m_X6_layRows_L61  FU o32_1.1 o32_1.2.1 o32_1.2.2.1 o32_1.2.2.2.1 o32_1.2.2.2.2 (0 : Int32)).bind fun o61_2 => if o61_2.2.2.2.1 = 0 then (grd (inb (o61_2.1 0 28) 64) (m_X6_layRows_j124  rc o61_2.1 o61_2.2.1 o61_2.2.2.1 o61_2.2.2.2.1 (o61_2.1 0 28) ((o61_2.1 28) (Int32.toNatClampNeg (o61_2.1 0 28))))) else (m_X6_layRows_j124  rc o61_2.1 o61_2.2.1 o61_2.2.2.1 o61_2.2.2.2.1 (o61_2.1 0 28) o61_2.2.2.2.2)))))
def m_X6_layRows_L7  : Nat → Ob → Int32 → Int32 → Option (Ob)
  | 0, _, _, _ => none
  | n + 1, vM, x1, x2 => m_X6_layRows_L7B  (m_X6_layRows_L7  n) vM x1 x2
def m_X6_layRows (vM : Ob) (x1 : Int32) : Option (Ob) :=
  ((m_X6_layRows_L7  FU (st vM 0 28 (0 : Int32)) x1 (0 : Int32)).bind fun o7_3 => some o7_3)
def m_X6_cupsAt_L4B (vM : Ob) (rc : Int32 → Int32 → Int32 → Option (Int32)) (x1 : Int32) (x2 : Int32) (x3 : Int32) : Option (Int32) :=
  if (vM 0 28) ≤ x3 then (some x2) else (grd (inb x3 64) (rc x1 (x2 ||| ((1 : Int32) <<< (((((vM 28) (Int32.toNatClampNeg x3)) >>> (((3 : Int32) * x1) &&& 31)) &&& (7 : Int32)) &&& 31))) (x3 + (1 : Int32))))
def m_X6_cupsAt_L4 (vM : Ob) : Nat → Int32 → Int32 → Int32 → Option (Int32)
  | 0, _, _, _ => none
  | n + 1, x1, x2, x3 => m_X6_cupsAt_L4B vM (m_X6_cupsAt_L4 vM n) x1 x2 x3
def m_X6_cupsAt (vM : Ob) (x1 : Int32) : Option (Int32) :=
  ((m_X6_cupsAt_L4 vM FU x1 (0 : Int32) (0 : Int32)).bind fun o4_1 => some o4_1)
def m_X6_lie_j150  (rc : Ob → Int32 → Int32 → Int32 → Option (Ob × Int32 × Int32)) (vM : Ob) (x3 : Int32) (x5 : Int32) (s0 : Int32) : Option (Ob × Int32 × Int32) :=
  rc vM x3 s0 (x5 + (1 : Int32))
def m_X6_lie_L129B  (rc : Ob → Int32 → Int32 → Int32 → Option (Ob × Int32 × Int32)) (vM : Ob) (x3 : Int32) (x4 : Int32) (x5 : Int32) : Option (Ob × Int32 × Int32) :=
  if (5 : Int32) ≤ x5 then (some (vM, x3, x4)) else (if x3 = ((1 : Int32) <<< (x5 &&& 31)) then (m_X6_lie_j150  rc vM x3 x5 x5) else (m_X6_lie_j150  rc vM x3 x5 x4))
def m_X6_lie_L129  : Nat → Ob → Int32 → Int32 → Int32 → Option (Ob × Int32 × Int32)
  | 0, _, _, _, _ => none
  | n + 1, vM, x3, x4, x5 => m_X6_lie_L129B  (m_X6_lie_L129  n) vM x3 x4 x5
def m_X6_lie_j106  (rc : Ob → Int32 → Int32 → Int32 → Int32 → Option (Ob × Int32)) (vM : Ob) (x1 : Int32) (x3 : Int32) (x5 : Int32) (s0 : Int32) : Option (Ob × Int32) :=
  rc vM x1 x3 s0 (x5 + (1 : Int32))
def m_X6_lie_j91  (rc : Ob → Int32 → Int32 → Int32 → Int32 → Option (Ob × Int32)) (vM : Ob) (x1 : Int32) (x4 : Int32) (x5 : Int32) (x6 : Int32) (s0 : Int32) : Option (Ob × Int32) :=
  if x6 ≤ x4 then (m_X6_lie_j106  rc vM x1 s0 x5 x4) else (m_X6_lie_j106  rc vM x1 s0 x5 x6)
def m_X6_lie_L61B  (rc : Ob → Int32 → Int32 → Int32 → Int32 → Option (Ob × Int32)) (vM : Ob) (x1 : Int32) (x3 : Int32) (x4 : Int32) (x5 : Int32) : Option (Ob × Int32) :=
  if x1 ≤ x5 then (some (vM, x3)) else (((m_X6_cupsAt vM x5).bind fun o70 => ((m_X6_bits o70).bind fun o73 => if o73 ≤ x4 then (m_X6_lie_j91  rc vM x1 x4 x5 o73 x3) else (m_X6_lie_j91  rc vM x1 x4 x5 o73 x5))))
def m_X6_lie_L61  : Nat → Ob → Int32 → Int32 → Int32 → Int32 → Option (Ob × Int32)
  | 0, _, _, _, _, _ => none
  | n + 1, vM, x1, x3, x4, x5 => m_X6_lie_L61B  (m_X6_lie_L61  n) vM x1 x3 x4 x5
def m_X6_lie (vM : Ob) (x1 : Int32) (x2 : Int32) : Option (Int32 × Ob) :=
  ((m_X6_in (Int32.toInt64 x1) (2 : Int64) (5 : Int64)).bind fun o8 => if o8 = 0 then (some ((-1 : Int32), vM)) else (((m_X6_in (Int32.toInt64 x2) (-2 : Int64) (Int32.toInt64 (x1 - (1 : Int32)))).bind fun o23 => if o23 = 0 then (some ((-1 : Int32), vM)) else (((m_X6_layRows vM x1).bind fun o33 => if x2 = (-1 : Int32) then (some ((o33 0 28), o33)) else (if x2 = (-2 : Int32) then (((m_X6_lie_L61  FU o33 x1 (-9 : Int32) (1 : Int32) (0 : Int32)).bind fun o61_2 => some (o61_2.2, o61_2.1))) else (((m_X6_cupsAt o33 x2).bind fun o118 => ((m_X6_lie_L129  FU o33 o118 (-9 : Int32) (0 : Int32)).bind fun o129_1 => ((m_X6_bits o129_1.2.1).bind fun o159 => if o159 ≤ (1 : Int32) then (some (o129_1.2.2, o129_1.1)) else (some ((-5 : Int32), o129_1.1))))))))))))
def m_X6_mark_j62 (vM : Ob)  (vT : Int64) (x1 : Int32) (x2 : Int32) (x3 : Int32) (s0 : Int32) : Option (Int32 × Int64) :=
  if x1 = (1 : Int32) then (grd (inb ((52 : Int32) + x2) 70) (some ((x3 + ((vM 1) (Int32.toNatClampNeg ((52 : Int32) + x2)))), ((vT + (1 : Int64)) + (10 : Int64))))) else (if x1 = (2 : Int32) then (some ((x3 - s0), ((vT + (1 : Int64)) + (100 : Int64)))) else (if x1 = (3 : Int32) then (grd (inb ((52 : Int32) + x2) 70) (some (((2 : Int32) * (x3 + ((vM 1) (Int32.toNatClampNeg ((52 : Int32) + x2))))), ((vT + (1 : Int64)) + (1010 : Int64))))) else (if x1 = (4 : Int32) then (((m_X6_bits ((vM 3) (Int32.toNatClampNeg (2 : Int32)))).bind fun o197 => some (((x3 - s0) + o197), ((vT + (1 : Int64)) + (10100 : Int64))))) else (if x1 = (5 : Int32) then (some ((x3 + (rem ((vM 3) (Int32.toNatClampNeg (1 : Int32))) (24 : Int32))), ((vT + (1 : Int64)) + (100000 : Int64)))) else (some (x3, (vT + (1 : Int64))))))))
def m_X6_mark (vM : Ob) (vT : Int64) (x1 : Int32) (x2 : Int32) : Option (Int32 × Int64) :=
  ((m_X6_in (Int32.toInt64 x1) (0 : Int64) (5 : Int64)).bind fun o6 => if o6 = 0 then (some ((-1000000 : Int32), vT)) else (((m_X6_isHost vM x2).bind fun o14 => if o14 = 0 then (some ((-1000000 : Int32), vT)) else (grd (inb ((58 : Int32) + x2) 70) (grd (inb ((64 : Int32) + x2) 70) (if ((vM 1) (Int32.toNatClampNeg ((64 : Int32) + x2))) = (9 : Int32) then (m_X6_mark_j62 vM vT x1 x2 ((vM 1) (Int32.toNatClampNeg ((58 : Int32) + x2))) (9 : Int32)) else (grd (inb ((64 : Int32) + x2) 70) (m_X6_mark_j62 vM vT x1 x2 ((vM 1) (Int32.toNatClampNeg ((58 : Int32) + x2))) ((vM 1) (Int32.toNatClampNeg ((64 : Int32) + x2)))))))))))
def m_X6_keep_L11B  (rc : Ob → Int32 → Int32 → Option (Ob × Int32)) (vM : Ob) (x1 : Int32) (x2 : Int32) : Option (Ob × Int32) :=
  if (40 : Int32) ≤ x2 then (some (vM, x1)) else (grd (inb x2 40) (grd (inb (((40 : Int32) * x1) + x2) 80) (rc (st vM 4 (Int32.toNatClampNeg (((40 : Int32) * x1) + x2)) ((vM 3) (Int32.toNatClampNeg x2))) x1 (x2 + (1 : Int32)))))
def m_X6_keep_L11  : Nat → Ob → Int32 → Int32 → Option (Ob × Int32)
  | 0, _, _, _ => none
  | n + 1, vM, x1, x2 => m_X6_keep_L11B  (m_X6_keep_L11  n) vM x1 x2
def m_X6_keep (vM : Ob) (x1 : Int32) : Option (Int32 × Ob) :=
  ((m_X6_isTwo x1).bind fun o1 => if o1 = 0 then (some ((-1 : Int32), vM)) else (((m_X6_keep_L11  FU vM x1 (0 : Int32)).bind fun o11_1 => grd (inb o11_1.2 2) (some (((o11_1.1 3) (Int32.toNatClampNeg (1 : Int32))), (st o11_1.1 5 (Int32.toNatClampNeg o11_1.2) (vp_nar .boolean (1 : Int32))))))))
def m_X6_back_L23B  (rc : Ob → Int32 → Int32 → Option (Ob)) (vM : Ob) (x1 : Int32) (x2 : Int32) : Option (Ob) :=
  if (40 : Int32) ≤ x2 then (some vM) else (grd (inb (((40 : Int32) * x1) + x2) 80) (grd (inb x2 40) (rc (st vM 3 (Int32.toNatClampNeg x2) ((vM 4) (Int32.toNatClampNeg (((40 : Int32) * x1) + x2)))) x1 (x2 + (1 : Int32)))))
def m_X6_back_L23  : Nat → Ob → Int32 → Int32 → Option (Ob)
  | 0, _, _, _ => none
  | n + 1, vM, x1, x2 => m_X6_back_L23B  (m_X6_back_L23  n) vM x1 x2
def m_X6_back (vM : Ob) (x1 : Int32) : Option (Int32 × Ob) :=
  ((m_X6_isTwo x1).bind fun o1 => if o1 = 0 then (some ((-1 : Int32), vM)) else (grd (inb x1 2) (if ((vM 5) (Int32.toNatClampNeg x1)) = 0 then (some ((-2 : Int32), vM)) else (((m_X6_back_L23  FU vM x1 (0 : Int32)).bind fun o23_1 => some (((o23_1 3) (Int32.toNatClampNeg (1 : Int32))), o23_1))))))
def m_X6_count (vM : Ob) (x1 : Int32) : Option (Int32) :=
  if x1 = (0 : Int32) then (grd (inb x1 70) (some ((vM 1) (Int32.toNatClampNeg x1)))) else (if x1 = (1 : Int32) then (grd (inb x1 70) (some ((vM 1) (Int32.toNatClampNeg x1)))) else (if x1 = (2 : Int32) then (grd (inb x1 70) (some ((vM 1) (Int32.toNatClampNeg x1)))) else (if x1 = (3 : Int32) then (grd (inb x1 70) (some ((vM 1) (Int32.toNatClampNeg x1)))) else (if x1 = (4 : Int32) then (some (vM 0 8)) else (if x1 = (5 : Int32) then (some (vM 0 10)) else (if x1 = (6 : Int32) then (some ((vM 3) (Int32.toNatClampNeg (3 : Int32)))) else (if x1 = (7 : Int32) then (some (vM 0 6)) else (some (-1 : Int32)))))))))
def m_X6_trace (vM : Ob) (vT : Int64)  : Option (Int64) :=
  some vT
