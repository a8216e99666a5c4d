/-! FUNCTIONS: what each method does to the memory, by program out of its bytecode -/
def f_X0_tell (aq0 : Int32) (σ : Mm) : Option (Int32 × Mm) :=
  ck aq0 7 (ck aq0 7 (nm (sI σ 2 (ix aq0) ((σ.1 2 (ix aq0)) + (1 : Int32))) (fun σ1 => nm (sI σ1 1 1 ((σ1.1 1 1) + (1 : Int32))) (fun σ2 => some (((-1000000001 : Int32) - aq0), σ2)))))
def f_X5_partOf (aq0 : Int32) (aq1 : Int32) (aq2 : Int32) (σ : Mm) : Option (Int32 × Mm) :=
  ck ((((aq0 * (7 : Int32)) + aq1) * (5 : Int32)) + aq2) 210 (some ((σ.1 9 (ix ((((aq0 * (7 : Int32)) + aq1) * (5 : Int32)) + aq2))), σ))
def f_X1_layCall_L48 (K79 : Mm → Option (Int32 × Mm)) (xq2 : Int32) (xq3 : Int32) (xq5 : Int64) (xq7 : Int32) (xq8 : Int32) (xq9 : Int32) (L48 : Int32 → Mm → Option (Int32 × Mm)) (xq10 : Int32) (σ : Mm) : Option (Int32 × Mm) :=
  (if (5 : Int32) ≤ xq10 then K79 σ else bd (f_X5_partOf xq2 xq8 xq10 σ) (fun rq4 σ3 => ck (xq9 + xq10) 390 (nm (sI σ3 14 (ix (xq9 + xq10)) rq4) (fun σ5 => nm (xq10 + (1 : Int32)) (fun vq6 => L48 vq6 σ5)))))
def f_X1_layCall_158 (L7 : Int32 → Int32 → Mm → Option (Int32 × Mm)) (xq2 : Int32) (xq3 : Int32) (xq5 : Int64) (xq7 : Int32) (xq8 : Int32) (σ : Mm) : Option (Int32 × Mm) :=
  nm (xq8 + (1 : Int32)) (fun vq8 => L7 xq7 vq8 σ)
def f_X1_layCall_113 (L7 : Int32 → Int32 → Mm → Option (Int32 × Mm)) (xq2 : Int32) (xq3 : Int32) (xq5 : Int64) (xq7 : Int32) (xq8 : Int32) (σ : Mm) : Option (Int32 × Mm) :=
  nm (xq7 + (1 : Int32)) (fun vq7 => (if (lg_cmp ((((xq5).toUInt64 >>> ((((xq2 * (7 : Int32)) + xq8)).toInt64.toUInt64 &&& Int64.toUInt64 63)).toInt64) &&& (1 : Int64)) (1 : Int64)) = 0 then (if (26 : Int32) ≤ vq7 then f_X1_layCall_158 L7 xq2 xq3 xq5 vq7 xq8 σ else ck (((xq3 * (26 : Int32)) + vq7) * (5 : Int32)) 390 (nm (sI σ 14 (ix (((xq3 * (26 : Int32)) + vq7) * (5 : Int32))) (5 : Int32)) (fun σ9 => nm (vq7 + (1 : Int32)) (fun vq10 => f_X1_layCall_158 L7 xq2 xq3 xq5 vq10 xq8 σ9)))) else f_X1_layCall_158 L7 xq2 xq3 xq5 vq7 xq8 σ))
def f_X1_layCall_79 (L7 : Int32 → Int32 → Mm → Option (Int32 × Mm)) (xq2 : Int32) (xq3 : Int32) (xq5 : Int64) (xq7 : Int32) (xq8 : Int32) (xq9 : Int32) (σ : Mm) : Option (Int32 × Mm) :=
  ck xq9 390 ((if (σ.1 14 (ix xq9)) = (6 : Int32) then bd (f_X5_partOf xq2 xq8 (4 : Int32) σ) (fun rq12 σ11 => ck rq12 7 (ck (xq9 + (4 : Int32)) 390 (nm (sI σ11 14 (ix (xq9 + (4 : Int32))) (σ11.1 15 (ix rq12))) (fun σ13 => f_X1_layCall_113 L7 xq2 xq3 xq5 xq7 xq8 σ13)))) else f_X1_layCall_113 L7 xq2 xq3 xq5 xq7 xq8 σ))
def f_X1_layCall_L7 (xq2 : Int32) (xq3 : Int32) (xq5 : Int64) (L7 : Int32 → Int32 → Mm → Option (Int32 × Mm)) (xq7 : Int32) (xq8 : Int32) (σ : Mm) : Option (Int32 × Mm) :=
  ck xq2 6 ((if (σ.1 8 (ix xq2)) ≤ xq8 then some (xq7, σ) else (if (26 : Int32) ≤ xq7 then some (xq7, σ) else ck xq8 7 (nm (sI σ 15 (ix xq8) xq7) (fun σ1 => nm (((xq3 * (26 : Int32)) + xq7) * (5 : Int32)) (fun vq2 => fx (fun _ _ => none) FU (f_X1_layCall_L48 (fun  (σ : Mm) => f_X1_layCall_79 L7 xq2 xq3 xq5 xq7 xq8 vq2 σ) xq2 xq3 xq5 xq7 xq8 vq2) (0 : Int32) σ1))))))
def f_X1_layCall (aq1 : Int32) (aq2 : Int32) (aq3 : Int32) (aq4 : Int64) (σ : Mm) : Option (Int32 × Mm) :=
  fx (fun _ _ _ => none) FU (f_X1_layCall_L7  aq1 aq2 aq4) aq3 (0 : Int32) σ
def f_X1_load_L33 (K67 : Mm → Option (Unit × Mm)) (xq2 : Int64) (L33 : Int32 → Mm → Option (Unit × Mm)) (xq4 : Int32) (σ : Mm) : Option (Unit × Mm) :=
  (if (3 : Int32) ≤ xq4 then K67 σ else ck xq4 3 (nm (sL σ 13 2 ((σ.2 13 2) ||| ((((σ.1 12 (ix xq4))).toInt64) <<< ((((2 : Int32) * xq4)).toInt64 &&& 63)))) (fun σ4 => nm (xq4 + (1 : Int32)) (fun vq5 => L33 vq5 σ4))))
def f_X1_load_174 (L70 : Int32 → Mm → Option (Unit × Mm)) (xq2 : Int64) (xq4 : Int32) (σ : Mm) : Option (Unit × Mm) :=
  nm (xq4 + (1 : Int32)) (fun vq8 => L70 vq8 σ)
def f_X1_load_111 (L70 : Int32 → Mm → Option (Unit × Mm)) (xq2 : Int64) (xq4 : Int32) (xqs1 : Int32) (xqs2 : Int32) (σ : Mm) : Option (Unit × Mm) :=
  ck xqs1 3 (nm (sI σ 16 (ix xqs1) xqs2) (fun σ6 => ck xq4 3 (ck xq4 3 (nm (sI σ6 17 (ix xq4) (σ6.1 16 (ix xq4))) (fun σ7 => (if (σ7.1 13 0) ≤ xq4 then f_X1_load_174 L70 xq2 xq4 σ7 else ck xq4 3 ((if (σ7.1 11 (ix xq4)) < 0 then f_X1_load_174 L70 xq2 xq4 σ7 else ck xq4 3 (ck xq4 3 (bd (f_X1_layCall (σ7.1 11 (ix xq4)) xq4 (σ7.1 16 (ix xq4)) xq2 σ7) (fun rq10 σ9 => ck xq4 3 (nm (sI σ9 17 (ix xq4) rq10) (fun σ11 => f_X1_load_174 L70 xq2 xq4 σ11)))))))))))))
def f_X1_load_L70 (xq2 : Int64) (L70 : Int32 → Mm → Option (Unit × Mm)) (xq4 : Int32) (σ : Mm) : Option (Unit × Mm) :=
  (if (3 : Int32) ≤ xq4 then some ((), σ) else (if (σ.1 13 0) ≤ xq4 then f_X1_load_111 L70 xq2 xq4 xq4 (0 : Int32) σ else ck xq4 3 (bd (f_X1_layCall (σ.1 10 (ix xq4)) xq4 (0 : Int32) xq2 σ) (fun rq13 σ12 => f_X1_load_111 L70 xq2 xq4 xq4 rq13 σ12))))
def f_X1_load_67 (xq2 : Int64) (σ : Mm) : Option (Unit × Mm) :=
  fx (fun _ _ => none) FU (f_X1_load_L70  xq2) (0 : Int32) σ
def f_X1_load_22 (xq2 : Int64) (xqs1 : Int32) (σ : Mm) : Option (Unit × Mm) :=
  cb xqs1 (nm (sI σ 13 1 xqs1) (fun σ2 => nm (sL σ2 13 2 (0 : Int64)) (fun σ3 => fx (fun _ _ => none) FU (f_X1_load_L33 (fun  (σ : Mm) => f_X1_load_67 xq2 σ) xq2) (0 : Int32) σ3)))
def f_X1_load (aq1 : Int64) (σ : Mm) : Option (Unit × Mm) :=
  nm (sI σ 13 0 (σ.1 7 3)) (fun σ1 => (if (σ1.1 7 7) = (1 : Int32) then f_X1_load_22 aq1 (1 : Int32) σ1 else f_X1_load_22 aq1 (0 : Int32) σ1))
def f_X1_valueIn (aq0 : Int64) (aq1 : Int32) (σ : Mm) : Option (Int32 × Mm) :=
  some (((((((aq0).toUInt64 >>> ((((2 : Int32) * aq1)).toInt64.toUInt64 &&& Int64.toUInt64 63)).toInt64)).toInt32) &&& (3 : Int32)), σ)
def f_X1_handIn (aq0 : Int64) (aq1 : Int32) (σ : Mm) : Option (Int32 × Mm) :=
  some (((((((aq0).toUInt64 >>> ((((6 : Int32) + ((19 : Int32) * aq1))).toInt64.toUInt64 &&& Int64.toUInt64 63)).toInt64)).toInt32) &&& (524287 : Int32)), σ)
def f_X1_withValue (aq0 : Int64) (aq1 : Int32) (aq2 : Int32) (σ : Mm) : Option (Int64 × Mm) :=
  some (((aq0 &&& (((3 : Int64) <<< ((((2 : Int32) * aq1)).toInt64 &&& 63)) ^^^ (-1 : Int64))) ||| ((((aq2 &&& (3 : Int32))).toInt64) <<< ((((2 : Int32) * aq1)).toInt64 &&& 63))), σ)
def f_X1_withHand (aq0 : Int64) (aq1 : Int32) (aq2 : Int32) (σ : Mm) : Option (Int64 × Mm) :=
  nm ((6 : Int32) + ((19 : Int32) * aq1)) (fun vq1 => some (((aq0 &&& (((524287 : Int64) <<< ((vq1).toInt64 &&& 63)) ^^^ (-1 : Int64))) ||| (((aq2).toInt64) <<< ((vq1).toInt64 &&& 63))), σ))
def f_X1_withA (aq0 : Int32) (aq1 : Int32) (σ : Mm) : Option (Int32 × Mm) :=
  some (((aq0 &&& (-97 : Int32)) ||| (aq1 <<< ((5 : Int32) &&& 31))), σ)
def f_X1_withB (aq0 : Int32) (aq1 : Int32) (σ : Mm) : Option (Int32 × Mm) :=
  some (((aq0 &&& (-385 : Int32)) ||| (aq1 <<< ((7 : Int32) &&& 31))), σ)
def f_X1_waitingFor_60  (σ : Mm) : Option (Int32 × Mm) :=
  some ((-1 : Int32), σ)
def f_X1_waitingFor_31 (xq0 : Int32) (xq1 : Int32) (xq2 : Int32) (σ : Mm) : Option (Int32 × Mm) :=
  nm ((xq0 >>> ((11 : Int32) &&& 31)) &&& (15 : Int32)) (fun vq3 => (if xq2 < (1 : Int32) then f_X1_waitingFor_60  σ else (if (vq3 >>> ((2 : Int32) &&& 31)) = xq1 then some ((vq3 &&& (3 : Int32)), σ) else f_X1_waitingFor_60  σ)))
def f_X1_waitingFor (aq0 : Int32) (aq1 : Int32) (σ : Mm) : Option (Int32 × Mm) :=
  nm ((aq0 >>> ((9 : Int32) &&& 31)) &&& (3 : Int32)) (fun vq1 => nm ((aq0 >>> ((15 : Int32) &&& 31)) &&& (15 : Int32)) (fun vq2 => (if vq1 = (2 : Int32) then (if (vq2 >>> ((2 : Int32) &&& 31)) = aq1 then some ((vq2 &&& (3 : Int32)), σ) else f_X1_waitingFor_31 aq0 aq1 vq1 σ) else f_X1_waitingFor_31 aq0 aq1 vq1 σ)))
def f_X1_arrived (aq0 : Int64) (aq1 : Int32) (σ : Mm) : Option (Int64 × Mm) :=
  bd (f_X1_handIn aq0 aq1 σ) (fun rq2 σ1 => nm ((rq2 >>> ((9 : Int32) &&& 31)) &&& (3 : Int32)) (fun vq3 => (if vq3 = 0 then some ((-1 : Int64), σ1) else nm ((rq2 >>> ((11 : Int32) &&& 31)) &&& (15 : Int32)) (fun vq4 => nm ((rq2 >>> ((15 : Int32) &&& 31)) &&& (15 : Int32)) (fun vq5 => nm (((rq2 &&& (511 : Int32)) ||| ((vq3 - (1 : Int32)) <<< ((9 : Int32) &&& 31))) ||| (vq5 <<< ((11 : Int32) &&& 31))) (fun vq6 => bd (f_X1_withValue aq0 (vq4 >>> ((2 : Int32) &&& 31)) (vq4 &&& (3 : Int32)) σ1) (fun rq8 σ7 => bd (f_X1_withHand rq8 aq1 vq6 σ7) (fun rq10 σ9 => some (rq10, σ9)))))))))
def f_X1_swapped (aq0 : Int64) (aq1 : Int32) (aq2 : Int32) (σ : Mm) : Option (Int64 × Mm) :=
  bd (f_X1_handIn aq0 aq1 σ) (fun rq2 σ1 => (if (rq2 &&& (-512 : Int32)) = 0 then ck (aq2 + (1 : Int32)) 390 (nm (σ1.1 14 (ix (aq2 + (1 : Int32)))) (fun vq3 => bd (f_X1_valueIn aq0 vq3 σ1) (fun rq5 σ4 => ck (aq2 + (2 : Int32)) 390 (nm (σ4.1 14 (ix (aq2 + (2 : Int32)))) (fun vq6 => ck aq2 390 ((if (σ4.1 14 (ix aq2)) = (4 : Int32) then bd (f_X1_withValue aq0 vq3 (rq5 + vq6) σ4) (fun rq18 σ17 => bd (f_X1_withA (rq2 + (1 : Int32)) rq5 σ17) (fun rq20 σ19 => bd (f_X1_withHand rq18 aq1 rq20 σ19) (fun rq22 σ21 => some (rq22, σ21)))) else (if rq5 = vq6 then ck (aq2 + (3 : Int32)) 390 (bd (f_X1_withValue aq0 vq3 (σ4.1 14 (ix (aq2 + (3 : Int32)))) σ4) (fun rq8 σ7 => bd (f_X1_withA (rq2 + (1 : Int32)) (1 : Int32) σ7) (fun rq10 σ9 => bd (f_X1_withHand rq8 aq1 rq10 σ9) (fun rq12 σ11 => some (rq12, σ11))))) else bd (f_X1_withA (rq2 + (1 : Int32)) (0 : Int32) σ4) (fun rq14 σ13 => bd (f_X1_withHand aq0 aq1 rq14 σ13) (fun rq16 σ15 => some (rq16, σ15))))))))))) else some ((-1 : Int64), σ1)))
def f_X1_written_101 (xq1 : Int64) (xq3 : Int32) (xq6 : Int32) (xq7 : Int32) (xq9 : Int32) (xqs0 : Int32) (σ : Mm) : Option (Int64 × Mm) :=
  bd (f_X1_withHand xq1 xq3 (((xq6 + (1 : Int32)) + (512 : Int32)) + (((xq7 <<< ((2 : Int32) &&& 31)) ||| xq9) <<< (xqs0 &&& 31))) σ) (fun rq7 σ6 => some (rq7, σ6))
def f_X1_written_46 (xq1 : Int64) (xq3 : Int32) (xq5 : Int32) (xq6 : Int32) (xq7 : Int32) (xqs0 : Int32) (σ : Mm) : Option (Int64 × Mm) :=
  (if xq5 = 0 then bd (f_X1_withValue xq1 xq7 xqs0 σ) (fun rq9 σ8 => bd (f_X1_withHand rq9 xq3 (xq6 + (1 : Int32)) σ8) (fun rq11 σ10 => some (rq11, σ10))) else nm ((xq6 >>> ((9 : Int32) &&& 31)) &&& (3 : Int32)) (fun vq5 => (if vq5 < (2 : Int32) then (if vq5 = 0 then f_X1_written_101 xq1 xq3 xq6 xq7 xqs0 (11 : Int32) σ else f_X1_written_101 xq1 xq3 xq6 xq7 xqs0 (15 : Int32) σ) else some ((-1 : Int64), σ))))
def f_X1_written (aq0 : Int64) (aq1 : Int32) (aq2 : Int32) (aq3 : Int32) (σ : Mm) : Option (Int64 × Mm) :=
  bd (f_X1_handIn aq0 aq1 σ) (fun rq2 σ1 => ck (aq2 + (1 : Int32)) 390 (nm (σ1.1 14 (ix (aq2 + (1 : Int32)))) (fun vq3 => ck (aq2 + (2 : Int32)) 390 (nm (σ1.1 14 (ix (aq2 + (2 : Int32)))) (fun vq4 => (if 0 ≤ vq4 then f_X1_written_46 aq0 aq1 aq3 rq2 vq3 vq4 σ1 else f_X1_written_46 aq0 aq1 aq3 rq2 vq3 ((rq2 >>> ((7 : Int32) &&& 31)) &&& (3 : Int32)) σ1))))))
def f_X1_moved (aq0 : Int64) (aq1 : Int32) (aq2 : Int32) (σ : Mm) : Option (Int64 × Mm) :=
  (if aq1 < (3 : Int32) then bd (f_X1_handIn aq0 aq1 σ) (fun rq2 σ1 => nm (rq2 &&& (31 : Int32)) (fun vq3 => ck aq1 3 ((if vq3 < (σ1.1 17 (ix aq1)) then nm (((aq1 * (26 : Int32)) + vq3) * (5 : Int32)) (fun vq4 => nm ((rq2 >>> ((5 : Int32) &&& 31)) &&& (3 : Int32)) (fun vq5 => nm (rq2 + (1 : Int32)) (fun vq6 => ck vq4 390 (nm (σ1.1 14 (ix vq4)) (fun vq7 => (if vq7 = (1 : Int32) then ck (vq4 + (1 : Int32)) 390 (nm (σ1.1 14 (ix (vq4 + (1 : Int32)))) (fun vq9 => bd (f_X1_waitingFor rq2 vq9 σ1) (fun rq11 σ10 => (if rq11 < 0 then bd (f_X1_valueIn aq0 vq9 σ10) (fun rq13 σ12 => bd (f_X1_withA vq6 rq13 σ12) (fun rq15 σ14 => bd (f_X1_withHand aq0 aq1 rq15 σ14) (fun rq17 σ16 => some (rq17, σ16)))) else bd (f_X1_withA vq6 rq11 σ10) (fun rq19 σ18 => bd (f_X1_withHand aq0 aq1 rq19 σ18) (fun rq21 σ20 => some (rq21, σ20))))))) else (if vq7 = (2 : Int32) then bd (f_X1_written aq0 aq1 vq4 aq2 σ1) (fun rq24 σ23 => some (rq24, σ23)) else (if vq7 = (3 : Int32) then bd (f_X1_swapped aq0 aq1 vq4 σ1) (fun rq27 σ26 => some (rq27, σ26)) else (if vq7 = (4 : Int32) then bd (f_X1_swapped aq0 aq1 vq4 σ1) (fun rq30 σ29 => some (rq30, σ29)) else (if vq7 = (5 : Int32) then (if (rq2 &&& (-512 : Int32)) = 0 then bd (f_X1_withHand aq0 aq1 vq6 σ1) (fun rq33 σ32 => some (rq33, σ32)) else some ((-1 : Int64), σ1)) else (if vq7 = (6 : Int32) then (if vq5 = 0 then ck (vq4 + (4 : Int32)) 390 (bd (f_X1_withHand aq0 aq1 ((rq2 - vq3) + (σ1.1 14 (ix (vq4 + (4 : Int32))))) σ1) (fun rq38 σ37 => some (rq38, σ37))) else bd (f_X1_withHand aq0 aq1 vq6 σ1) (fun rq36 σ35 => some (rq36, σ35))) else (if vq7 = (7 : Int32) then ck (vq4 + (2 : Int32)) 390 (bd (f_X1_withA vq6 (σ1.1 14 (ix (vq4 + (2 : Int32)))) σ1) (fun rq41 σ40 => bd (f_X1_withHand aq0 aq1 rq41 σ40) (fun rq43 σ42 => some (rq43, σ42)))) else bd (f_X1_withB vq6 vq5 σ1) (fun rq45 σ44 => bd (f_X1_withHand aq0 aq1 rq45 σ44) (fun rq47 σ46 => some (rq47, σ46))))))))))))))) else some ((-1 : Int64), σ1))))) else bd (f_X1_arrived aq0 (aq1 - (3 : Int32)) σ) (fun rq49 σ48 => some (rq49, σ48)))
def f_X1_withCallDone_119 (L46 : Int64 → Int64 → Int32 → Int32 → Mm → Option (Int64 × Mm)) (xq3 : Int32) (xq4 : Int32) (xq5 : Int64) (xq7 : Int64) (xq9 : Int32) (xq10 : Int32) (σ : Mm) : Option (Int64 × Mm) :=
  nm (xq10 + (1 : Int32)) (fun vq7 => L46 xq5 xq7 xq9 vq7 σ)
def f_X1_withCallDone_L46 (xq3 : Int32) (xq4 : Int32) (L46 : Int64 → Int64 → Int32 → Int32 → Mm → Option (Int64 × Mm)) (xq5 : Int64) (xq7 : Int64) (xq9 : Int32) (xq10 : Int32) (σ : Mm) : Option (Int64 × Mm) :=
  (if (13312 : Int32) < xq10 then some ((-1 : Int64), σ) else bd (f_X1_moved xq5 xq3 (0 : Int32) σ) (fun rq4 σ3 => (if (lg_cmp rq4 (-1 : Int64)) = 0 then some ((-1 : Int64), σ3) else (if (lg_cmp rq4 xq7) = 0 then some ((-1 : Int64), σ3) else bd (f_X1_handIn rq4 xq3 σ3) (fun rq6 σ5 => (if (rq6 &&& (31 : Int32)) < xq4 then (if xq10 = xq9 then nm ((2 : Int32) * xq9) (fun vq8 => f_X1_withCallDone_119 L46 xq3 xq4 rq4 rq4 vq8 xq10 σ5) else f_X1_withCallDone_119 L46 xq3 xq4 rq4 xq7 xq9 xq10 σ5) else some (rq4, σ5)))))))
def f_X1_withCallDone_32 (xq1 : Int64) (xq3 : Int32) (xqs0 : Int32) (σ : Mm) : Option (Int64 × Mm) :=
  fx (fun _ _ _ _ _ => none) FU (f_X1_withCallDone_L46  xq3 xqs0) xq1 xq1 (2 : Int32) (1 : Int32) σ
def f_X1_withCallDone (aq0 : Int64) (aq1 : Int32) (σ : Mm) : Option (Int64 × Mm) :=
  bd (f_X1_handIn aq0 aq1 σ) (fun rq2 σ1 => ck aq1 3 ((if (σ1.1 16 (ix aq1)) ≤ (rq2 &&& (31 : Int32)) then ck aq1 3 (f_X1_withCallDone_32 aq0 aq1 (σ1.1 17 (ix aq1)) σ1) else ck aq1 3 (f_X1_withCallDone_32 aq0 aq1 (σ1.1 16 (ix aq1)) σ1))))
def f_X1_hasCallLeft (aq0 : Int64) (aq1 : Int32) (σ : Mm) : Option (Int32 × Mm) :=
  bd (f_X1_handIn aq0 aq1 σ) (fun rq2 σ1 => ck aq1 3 ((if (σ1.1 17 (ix aq1)) ≤ (rq2 &&& (31 : Int32)) then cb (0 : Int32) (some ((0 : Int32), σ1)) else cb (1 : Int32) (some ((1 : Int32), σ1)))))
def f_X1_isEnd_L2 (xq1 : Int64) (L2 : Int32 → Mm → Option (Int32 × Mm)) (xq3 : Int32) (σ : Mm) : Option (Int32 × Mm) :=
  (if (σ.1 13 0) ≤ xq3 then cb (1 : Int32) (some ((1 : Int32), σ)) else bd (f_X1_hasCallLeft xq1 xq3 σ) (fun rq2 σ1 => (if rq2 = 0 then bd (f_X1_handIn xq1 xq3 σ1) (fun rq4 σ3 => (if (rq4 &&& (-512 : Int32)) = 0 then nm (xq3 + (1 : Int32)) (fun vq5 => L2 vq5 σ3) else cb (0 : Int32) (some ((0 : Int32), σ3)))) else cb (0 : Int32) (some ((0 : Int32), σ1)))))
def f_X1_isEnd (aq0 : Int64) (σ : Mm) : Option (Int32 × Mm) :=
  fx (fun _ _ => none) FU (f_X1_isEnd_L2  aq0) (0 : Int32) σ
def f_X1_resultOf_L5 (K28 : Int32 → Mm → Option (Int32 × Mm)) (xq1 : Int64) (L5 : Int32 → Int32 → Mm → Option (Int32 × Mm)) (xq3 : Int32) (xq4 : Int32) (σ : Mm) : Option (Int32 × Mm) :=
  (if (3 : Int32) ≤ xq4 then K28 xq3 σ else bd (f_X1_valueIn xq1 xq4 σ) (fun rq2 σ1 => nm ((xq3 * (4 : Int32)) + rq2) (fun vq3 => nm (xq4 + (1 : Int32)) (fun vq4 => L5 vq3 vq4 σ1))))
def f_X1_resultOf_L31 (xq1 : Int64) (L31 : Int32 → Int32 → Mm → Option (Int32 × Mm)) (xq3 : Int32) (xq4 : Int32) (σ : Mm) : Option (Int32 × Mm) :=
  (if (σ.1 13 0) ≤ xq4 then some (xq3, σ) else bd (f_X1_handIn xq1 xq4 σ) (fun rq6 σ5 => nm (((xq3 * (16 : Int32)) + (((rq6 >>> ((5 : Int32) &&& 31)) &&& (3 : Int32)) * (4 : Int32))) + ((rq6 >>> ((7 : Int32) &&& 31)) &&& (3 : Int32))) (fun vq7 => nm (xq4 + (1 : Int32)) (fun vq8 => L31 vq7 vq8 σ5))))
def f_X1_resultOf_28 (xq1 : Int64) (xq3 : Int32) (σ : Mm) : Option (Int32 × Mm) :=
  fx (fun _ _ _ => none) FU (f_X1_resultOf_L31  xq1) xq3 (0 : Int32) σ
def f_X1_resultOf (aq0 : Int64) (σ : Mm) : Option (Int32 × Mm) :=
  fx (fun _ _ _ => none) FU (f_X1_resultOf_L5 (fun (xq3 : Int32) (σ : Mm) => f_X1_resultOf_28 aq0 xq3 σ) aq0) (0 : Int32) (0 : Int32) σ
def f_X1_possible_37 (L5 : Int32 → Int32 → Mm → Option (Int32 × Mm)) (xq1 : Int64) (xq3 : Int32) (xq4 : Int32) (σ : Mm) : Option (Int32 × Mm) :=
  nm (xq4 + (1 : Int32)) (fun vq3 => L5 xq3 vq3 σ)
def f_X1_possible_L5 (xq1 : Int64) (L5 : Int32 → Int32 → Mm → Option (Int32 × Mm)) (xq3 : Int32) (xq4 : Int32) (σ : Mm) : Option (Int32 × Mm) :=
  (if (6 : Int32) ≤ xq4 then some (xq3, σ) else bd (f_X1_moved xq1 xq4 (σ.1 13 1) σ) (fun rq2 σ1 => (if (lg_cmp rq2 (-1 : Int64)) = 0 then f_X1_possible_37 L5 xq1 xq3 xq4 σ1 else nm (xq3 ||| ((1 : Int32) <<< (xq4 &&& 31))) (fun vq4 => f_X1_possible_37 L5 xq1 vq4 xq4 σ1))))
def f_X1_possible (aq0 : Int64) (σ : Mm) : Option (Int32 × Mm) :=
  fx (fun _ _ _ => none) FU (f_X1_possible_L5  aq0) (0 : Int32) (0 : Int32) σ
def f_X1_touched (aq0 : Int64) (aq1 : Int32) (σ : Mm) : Option (Int32 × Mm) :=
  (if aq1 < (3 : Int32) then bd (f_X1_handIn aq0 aq1 σ) (fun rq2 σ1 => nm (((aq1 * (26 : Int32)) + (rq2 &&& (31 : Int32))) * (5 : Int32)) (fun vq3 => ck vq3 390 (nm (σ1.1 14 (ix vq3)) (fun vq4 => (if vq4 = (1 : Int32) then ck (vq3 + (1 : Int32)) 390 (bd (f_X1_waitingFor rq2 (σ1.1 14 (ix (vq3 + (1 : Int32)))) σ1) (fun rq7 σ6 => (if rq7 < 0 then ck (vq3 + (1 : Int32)) 390 (some ((σ6.1 14 (ix (vq3 + (1 : Int32)))), σ6)) else some ((-1 : Int32), σ6)))) else (if vq4 = (2 : Int32) then (if (σ1.1 13 1) = 0 then ck (vq3 + (1 : Int32)) 390 (some ((σ1.1 14 (ix (vq3 + (1 : Int32)))), σ1)) else some ((-1 : Int32), σ1)) else (if vq4 = (3 : Int32) then ck (vq3 + (1 : Int32)) 390 (some ((σ1.1 14 (ix (vq3 + (1 : Int32)))), σ1)) else (if vq4 = (4 : Int32) then ck (vq3 + (1 : Int32)) 390 (some ((σ1.1 14 (ix (vq3 + (1 : Int32)))), σ1)) else some ((-1 : Int32), σ1))))))))) else bd (f_X1_handIn aq0 (aq1 - (3 : Int32)) σ) (fun rq12 σ11 => some (((rq12 >>> ((13 : Int32) &&& 31)) &&& (3 : Int32)), σ11)))
def f_X1_aboutHand_48 (xq3 : Int32) (xq4 : Int32) (xq5 : Int32) (xq6 : Int32) (xq7 : Int32) (xqs0 : Int32) (σ : Mm) : Option (Int32 × Mm) :=
  (if xq4 = (0 : Int32) then some (((xq5 >>> ((5 : Int32) &&& 31)) &&& (3 : Int32)), σ) else (if xq4 = (1 : Int32) then some (((xq5 >>> ((7 : Int32) &&& 31)) &&& (3 : Int32)), σ) else (if xq4 = (2 : Int32) then some (((xq5 >>> ((9 : Int32) &&& 31)) &&& (3 : Int32)), σ) else (if xq4 = (3 : Int32) then (if xq7 = 0 then (if xqs0 = 0 then some (xq6, σ) else ck xq3 3 (some ((xq6 - (σ.1 16 (ix xq3))), σ))) else some ((0 : Int32), σ)) else (if xq7 = 0 then (if xqs0 = 0 then some ((0 : Int32), σ) else some ((1 : Int32), σ)) else ck xq3 3 (ck xq3 3 ((if (σ.1 17 (ix xq3)) ≤ (σ.1 16 (ix xq3)) then some ((1 : Int32), σ) else some ((2 : Int32), σ)))))))))
def f_X1_aboutHand_30 (xq3 : Int32) (xq4 : Int32) (xq5 : Int32) (xq6 : Int32) (xqs0 : Int32) (σ : Mm) : Option (Int32 × Mm) :=
  ck xq3 3 ((if xq6 < (σ.1 16 (ix xq3)) then f_X1_aboutHand_48 xq3 xq4 xq5 xq6 xqs0 (0 : Int32) σ else f_X1_aboutHand_48 xq3 xq4 xq5 xq6 xqs0 (1 : Int32) σ))
def f_X1_aboutHand (aq0 : Int64) (aq1 : Int32) (aq2 : Int32) (σ : Mm) : Option (Int32 × Mm) :=
  bd (f_X1_handIn aq0 aq1 σ) (fun rq2 σ1 => nm (rq2 &&& (31 : Int32)) (fun vq3 => ck aq1 3 ((if vq3 < (σ1.1 17 (ix aq1)) then f_X1_aboutHand_30 aq1 aq2 rq2 vq3 (0 : Int32) σ1 else f_X1_aboutHand_30 aq1 aq2 rq2 vq3 (1 : Int32) σ1))))
def f_J7_fill_53178_L5 (xq1 : Int32) (xq3 : Int32) (L5 : Int32 → Mm → Option (Unit × Mm)) (xq2 : Int32) (σ : Mm) : Option (Unit × Mm) :=
  (if xq3 ≤ xq2 then some ((), σ) else ck xq2 3 (nm (sI σ 38 (ix xq2) xq1) (fun σ1 => nm (xq2 + (1 : Int32)) (fun vq2 => L5 vq2 σ1))))
def f_J7_fill_53178 (aq1 : Int32) (σ : Mm) : Option (Unit × Mm) :=
  fx (fun _ _ => none) FU (f_J7_fill_53178_L5  aq1 (3 : Int32)) (0 : Int32) σ
def f_X2_moveFor_43  (σ : Mm) : Option (Int32 × Mm) :=
  some ((-1 : Int32), σ)
def f_X2_moveFor_17 (xq0 : Int64) (σ : Mm) : Option (Int32 × Mm) :=
  (if (lg_cmp xq0 (10 : Int64)) < 0 then f_X2_moveFor_43  σ else (if 0 ≤ (lg_cmp xq0 (13 : Int64)) then f_X2_moveFor_43  σ else some (((((xq0).toInt32) - (10 : Int32)) + (3 : Int32)), σ)))
def f_X2_moveFor (aq0 : Int64) (σ : Mm) : Option (Int32 × Mm) :=
  (if (lg_cmp aq0 (0 : Int64)) < 0 then f_X2_moveFor_17 aq0 σ else (if 0 ≤ (lg_cmp aq0 (3 : Int64)) then f_X2_moveFor_17 aq0 σ else some (((aq0).toInt32), σ)))
def f_X2_priceOf_39 (xq2 : Int32) (xq3 : Int32) (xqs0 : Int32) (σ : Mm) : Option (Int32 × Mm) :=
  ck xq2 3 (nm (sI σ 38 (ix xq2) xq3) (fun σ2 => (if xqs0 = 0 then some ((1 : Int32), σ2) else some ((5 : Int32), σ2))))
def f_X2_priceOf_38 (xq2 : Int32) (xq3 : Int32) (σ : Mm) : Option (Int32 × Mm) :=
  f_X2_priceOf_39 xq2 xq3 (0 : Int32) σ
def f_X2_priceOf (aq0 : Int32) (aq1 : Int32) (σ : Mm) : Option (Int32 × Mm) :=
  (if aq1 < 0 then some ((1 : Int32), σ) else (if aq1 < (3 : Int32) then nm (irm aq0 (3 : Int32)) (fun vq1 => ck aq1 3 ((if (σ.1 38 (ix aq1)) < 0 then f_X2_priceOf_38 aq1 vq1 σ else ck aq1 3 ((if (σ.1 38 (ix aq1)) = vq1 then f_X2_priceOf_38 aq1 vq1 σ else f_X2_priceOf_39 aq1 vq1 (1 : Int32) σ))))) else some ((1 : Int32), σ)))
def f_X2_through_72 (L28 : Int32 → Mm → Option (Unit × Mm)) (kq1 : Nat) (xq3 : Int32) (xq4 : Int32) (xqs0 : Int64) (σ : Mm) : Option (Unit × Mm) :=
  (if (lg_cmp xqs0 (-1 : Int64)) = 0 then some ((), σ) else bd (f_X1_touched (σ.2 37 1) xq4 σ) (fun rq11 σ10 => bd (f_X2_priceOf xq4 rq11 σ10) (fun rq13 σ12 => nm (sI σ12 37 3 ((σ.1 37 3) + rq13)) (fun σ14 => nm (sL σ14 37 1 xqs0) (fun σ15 => nm (sI σ15 37 2 ((σ15.1 37 2) + (1 : Int32))) (fun σ16 => nm (xq3 + (1 : Int32)) (fun vq17 => L28 vq17 σ16)))))))
def f_X2_through_L28 (kq1 : Nat) (L28 : Int32 → Mm → Option (Unit × Mm)) (xq3 : Int32) (σ : Mm) : Option (Unit × Mm) :=
  (if (σ.1 kq1 1) ≤ xq3 then some ((), σ) else ck xq3 40 (bd (f_X2_moveFor (σ.2 (kq1 + 1) (ix xq3)) σ) (fun rq7 σ6 => (if 0 ≤ rq7 then bd (f_X1_moved (σ6.2 37 1) rq7 (σ6.1 13 1) σ6) (fun rq9 σ8 => f_X2_through_72 L28 kq1 xq3 rq7 rq9 σ8) else f_X2_through_72 L28 kq1 xq3 rq7 (-1 : Int64) σ6))))
def f_X2_through (kq0 : Nat) (σ : Mm) : Option (Unit × Mm) :=
  bd (f_J7_fill_53178 (-1 : Int32) σ) (fun rq2 σ1 => nm (sL σ1 37 1 (σ1.2 13 2)) (fun σ3 => nm (sI σ3 37 2 (0 : Int32)) (fun σ4 => nm (sI σ4 37 3 (0 : Int32)) (fun σ5 => fx (fun _ _ => none) FU (f_X2_through_L28  kq0) (0 : Int32) σ5))))
def f_J9_min_7cf53 (aq0 : Int32) (aq1 : Int32) (σ : Mm) : Option (Int32 × Mm) :=
  (if aq1 < aq0 then some (aq1, σ) else some (aq0, σ))
def f_X3_isIn_14  (σ : Mm) : Option (Int32 × Mm) :=
  cb (0 : Int32) (some ((0 : Int32), σ))
def f_X3_isIn (aq0 : Int32) (aq1 : Int32) (aq2 : Int32) (σ : Mm) : Option (Int32 × Mm) :=
  (if aq0 < aq1 then f_X3_isIn_14  σ else (if aq2 < aq0 then f_X3_isIn_14  σ else cb (1 : Int32) (some ((1 : Int32), σ))))
def f_X3_nextToken_L0 (K44 : Mm → Option (Unit × Mm))  (L0 : Mm → Option (Unit × Mm))  (σ : Mm) : Option (Unit × Mm) :=
  (if (σ.1 4 1) ≤ (σ.1 3 1) then K44 σ else ck (σ.1 3 1) 120 ((if (σ.1 5 (ix (σ.1 3 1))) = (32 : Int32) then nm (sI σ 3 1 ((σ.1 3 1) + (1 : Int32))) (fun σ1 => L0 σ1) else K44 σ)))
def f_X3_nextToken_287 (xqs1 : Int32) (σ : Mm) : Option (Unit × Mm) :=
  nm (sI σ 3 3 xqs1) (fun σ7 => nm (sI σ7 3 1 ((σ7.1 3 1) + (1 : Int32))) (fun σ8 => some ((), σ8)))
def f_X3_nextToken_L182  (L182 : Mm → Option (Unit × Mm))  (σ : Mm) : Option (Unit × Mm) :=
  (if (σ.1 4 1) ≤ (σ.1 3 1) then some ((), σ) else ck (σ.1 3 1) 120 (bd (f_X3_isIn (σ.1 5 (ix (σ.1 3 1))) (48 : Int32) (57 : Int32) σ) (fun rq12 σ11 => (if rq12 = 0 then some ((), σ11) else ck (σ11.1 3 1) 120 (bd (f_J9_min_7cf53 (1000 : Int32) ((((σ11.1 3 4) * (10 : Int32)) + (σ11.1 5 (ix (σ11.1 3 1)))) - (48 : Int32)) σ11) (fun rq14 σ13 => nm (sI σ13 3 4 rq14) (fun σ15 => nm (sI σ15 3 1 ((σ15.1 3 1) + (1 : Int32))) (fun σ16 => L182 σ16))))))))
def f_X3_nextToken_L101  (L101 : Mm → Option (Unit × Mm))  (σ : Mm) : Option (Unit × Mm) :=
  (if (σ.1 4 1) ≤ (σ.1 3 1) then some ((), σ) else ck (σ.1 3 1) 120 (bd (f_X3_isIn (σ.1 5 (ix (σ.1 3 1))) (97 : Int32) (122 : Int32) σ) (fun rq19 σ18 => (if rq19 = 0 then some ((), σ18) else nm (sI σ18 3 1 ((σ18.1 3 1) + (1 : Int32))) (fun σ20 => L101 σ20)))))
def f_X3_nextToken_44  (σ : Mm) : Option (Unit × Mm) :=
  nm (sI σ 3 2 (σ.1 3 1)) (fun σ2 => (if (σ2.1 3 1) < (σ2.1 4 1) then ck (σ2.1 3 1) 120 (bd (f_X3_isIn (σ2.1 5 (ix (σ2.1 3 1))) (97 : Int32) (122 : Int32) σ2) (fun rq4 σ3 => (if rq4 = 0 then ck (σ3.1 3 1) 120 (bd (f_X3_isIn (σ3.1 5 (ix (σ3.1 3 1))) (48 : Int32) (57 : Int32) σ3) (fun rq6 σ5 => (if rq6 = 0 then ck (σ5.1 3 1) 120 ((if (σ5.1 5 (ix (σ5.1 3 1))) = (59 : Int32) then f_X3_nextToken_287 (3 : Int32) σ5 else f_X3_nextToken_287 (4 : Int32) σ5)) else nm (sI σ5 3 3 (2 : Int32)) (fun σ9 => nm (sI σ9 3 4 (0 : Int32)) (fun σ10 => fx (fun _ => none) FU (f_X3_nextToken_L182  )  σ10))))) else nm (sI σ3 3 3 (1 : Int32)) (fun σ17 => fx (fun _ => none) FU (f_X3_nextToken_L101  )  σ17)))) else nm (sI σ2 3 3 (0 : Int32)) (fun σ21 => some ((), σ21))))
def f_X3_nextToken  (σ : Mm) : Option (Unit × Mm) :=
  fx (fun _ => none) FU (f_X3_nextToken_L0 (fun  (σ : Mm) => f_X3_nextToken_44  σ) )  σ
def f_X3_highestOf (aq0 : Int32) (aq1 : Int32) (σ : Mm) : Option (Int32 × Mm) :=
  (if aq0 = (1 : Int32) then some ((2 : Int32), σ) else (if aq0 = (4 : Int32) then some (aq1, σ) else some ((3 : Int32), σ)))
def f_J0_isLatin1_aae02_17  (σ : Mm) : Option (Int32 × Mm) :=
  cb (0 : Int32) (some ((0 : Int32), σ))
def f_J0_isLatin1_aae02 (kq : Nat) (σ : Mm) : Option (Int32 × Mm) :=
  (if (1 : Int32) = 0 then f_J0_isLatin1_aae02_17  σ else (if (0 : Int32) = 0 then cb (1 : Int32) (some ((1 : Int32), σ)) else f_J0_isLatin1_aae02_17  σ))
def f_J1_charAt_3b067 (kq0 : Nat) (aq1 : Int32) (σ : Mm) : Option (Int32 × Mm) :=
  bd (f_J0_checkIndex_df160 aq1 (Int32.ofNat (stLen.getD kq0 0)) σ) (fun rq2 σ1 => ck aq1 (stLen.getD kq0 0) (cC ((((((stByt.getD kq0 []).getD (ix aq1) 0) &&& (255 : Int32))).toUInt32 % 65536).toInt32) (some (((((((stByt.getD kq0 []).getD (ix aq1) 0) &&& (255 : Int32))).toUInt32 % 65536).toInt32), σ1))))
def f_J0_charAt_5068e (kq : Nat) (aq0 : Int32) (σ : Mm) : Option (Int32 × Mm) :=
  bd (f_J0_isLatin1_aae02 kq σ) (fun rq2 σ1 => (if rq2 = 0 then none else bd (f_J1_charAt_3b067 kq aq0 σ1) (fun rq4 σ3 => cC rq4 (some (rq4, σ3)))))
def f_J0_coder_7d493 (kq : Nat) (σ : Mm) : Option (Int32 × Mm) :=
  (if (1 : Int32) = 0 then cB (1 : Int32) (some ((1 : Int32), σ)) else cB (0 : Int32) (some ((0 : Int32), σ)))
def f_J0_length_8abf5 (kq : Nat) (σ : Mm) : Option (Int32 × Mm) :=
  bd (f_J0_coder_7d493 kq σ) (fun rq2 σ1 => some (((Int32.ofNat (stLen.getD kq 0)) >>> (rq2 &&& 31)), σ1))
def f_X3_isLatest_L20 (kq1 : Nat) (L20 : Int32 → Mm → Option (Int32 × Mm)) (xq2 : Int32) (σ : Mm) : Option (Int32 × Mm) :=
  bd (f_J0_length_8abf5 kq1 σ) (fun rq4 σ3 => (if rq4 ≤ xq2 then cb (1 : Int32) (some ((1 : Int32), σ3)) else bd (f_J0_charAt_5068e kq1 xq2 σ3) (fun rq6 σ5 => ck ((σ5.1 3 2) + xq2) 120 ((if rq6 = (σ5.1 5 (ix ((σ5.1 3 2) + xq2))) then nm (xq2 + (1 : Int32)) (fun vq7 => L20 vq7 σ5) else cb (0 : Int32) (some ((0 : Int32), σ5)))))))
def f_X3_isLatest (kq0 : Nat) (σ : Mm) : Option (Int32 × Mm) :=
  bd (f_J0_length_8abf5 kq0 σ) (fun rq2 σ1 => (if rq2 = ((σ1.1 3 1) - (σ1.1 3 2)) then fx (fun _ _ => none) FU (f_X3_isLatest_L20  kq0) (0 : Int32) σ1 else cb (0 : Int32) (some ((0 : Int32), σ1))))
def f_X3_spelling (aq0 : Int32) (σ : Mm) : Option (Nat × Mm) :=
  (if aq0 = (0 : Int32) then some (0, σ) else (if aq0 = (1 : Int32) then some (1, σ) else (if aq0 = (2 : Int32) then some (2, σ) else (if aq0 = (3 : Int32) then some (3, σ) else (if aq0 = (4 : Int32) then some (4, σ) else (if aq0 = (5 : Int32) then some (5, σ) else (if aq0 = (6 : Int32) then some (6, σ) else (if aq0 = (7 : Int32) then some (7, σ) else some (8, σ)))))))))
def f_X3_latestWord_L2  (L2 : Int32 → Mm → Option (Int32 × Mm)) (xq1 : Int32) (σ : Mm) : Option (Int32 × Mm) :=
  (if (9 : Int32) ≤ xq1 then some ((-1 : Int32), σ) else bd (f_X3_spelling xq1 σ) (fun rq2 σ1 => bd (f_X3_isLatest rq2 σ1) (fun rq4 σ3 => (if rq4 = 0 then nm (xq1 + (1 : Int32)) (fun vq5 => L2 vq5 σ3) else some (xq1, σ3)))))
def f_X3_latestWord  (σ : Mm) : Option (Int32 × Mm) :=
  fx (fun _ _ => none) FU (f_X3_latestWord_L2  ) (0 : Int32) σ
def f_X5_putPart (aq0 : Int32) (aq1 : Int32) (aq2 : Int32) (aq3 : Int32) (σ : Mm) : Option (Unit × Mm) :=
  ck ((((aq0 * (7 : Int32)) + aq1) * (5 : Int32)) + aq2) 210 (nm (sI σ 9 (ix ((((aq0 * (7 : Int32)) + aq1) * (5 : Int32)) + aq2)) aq3) (fun σ1 => some ((), σ1)))
def f_X3_readStep_105 (L49 : Int32 → Mm → Option (Int32 × Mm)) (xq2 : Int32) (xq3 : Int32) (xq4 : Int32) (xq5 : Int32) (σ : Mm) : Option (Int32 × Mm) :=
  bd (f_X5_putPart (σ.1 7 0) xq2 xq4 xq5 σ) (fun rq8 σ7 => nm (xq4 + (1 : Int32)) (fun vq9 => L49 vq9 σ7))
def f_X3_readStep_L49 (xq2 : Int32) (xq3 : Int32) (L49 : Int32 → Mm → Option (Int32 × Mm)) (xq4 : Int32) (σ : Mm) : Option (Int32 × Mm) :=
  (if (5 : Int32) ≤ xq4 then cb (1 : Int32) (some ((1 : Int32), σ)) else ck xq3 9 ((if (((stV3 (ix xq3)) >>> (xq4 &&& 31)) &&& (1 : Int32)) = (1 : Int32) then bd (f_X3_nextToken σ) (fun rq11 σ10 => (if (σ10.1 3 3) = (2 : Int32) then bd (f_X3_highestOf xq4 xq2 σ10) (fun rq13 σ12 => (if (σ10.1 3 4) ≤ rq13 then nm (σ12.1 3 4) (fun vq14 => f_X3_readStep_105 L49 xq2 xq3 xq4 vq14 σ12) else cb (0 : Int32) (some ((0 : Int32), σ12)))) else cb (0 : Int32) (some ((0 : Int32), σ10)))) else f_X3_readStep_105 L49 xq2 xq3 xq4 (-1 : Int32) σ)))
def f_X3_readStep (aq1 : Int32) (σ : Mm) : Option (Int32 × Mm) :=
  bd (f_X3_nextToken σ) (fun rq2 σ1 => (if (σ1.1 3 3) = (1 : Int32) then (if aq1 < (7 : Int32) then bd (f_X3_latestWord σ1) (fun rq4 σ3 => (if 0 ≤ rq4 then ck rq4 9 (bd (f_X5_putPart (σ3.1 7 0) aq1 (0 : Int32) (stV2 (ix rq4)) σ3) (fun rq6 σ5 => fx (fun _ _ => none) FU (f_X3_readStep_L49  aq1 rq4) (1 : Int32) σ5)) else cb (0 : Int32) (some ((0 : Int32), σ3)))) else cb (0 : Int32) (some ((0 : Int32), σ1))) else cb (0 : Int32) (some ((0 : Int32), σ1))))
def f_X3_faultOfNewCall_L7 (K38 : Int32 → Mm → Option (Int32 × Mm))  (L7 : Int32 → Mm → Option (Int32 × Mm)) (xq2 : Int32) (σ : Mm) : Option (Int32 × Mm) :=
  (if (7 : Int32) < xq2 then some ((σ.1 3 2), σ) else bd (f_X3_readStep xq2 σ) (fun rq3 σ2 => (if rq3 = 0 then some ((σ2.1 3 2), σ2) else bd (f_X3_nextToken σ2) (fun rq5 σ4 => (if (σ4.1 3 3) = 0 then K38 xq2 σ4 else (if (σ4.1 3 3) = (3 : Int32) then nm (xq2 + (1 : Int32)) (fun vq6 => L7 vq6 σ4) else some ((σ4.1 3 2), σ4)))))))
def f_X3_faultOfNewCall_38 (xq2 : Int32) (σ : Mm) : Option (Int32 × Mm) :=
  ck (σ.1 7 0) 6 (nm (sI σ 8 (ix (σ.1 7 0)) (xq2 + (1 : Int32))) (fun σ7 => nm (sI σ7 7 0 ((σ7.1 7 0) + (1 : Int32))) (fun σ8 => some ((-1 : Int32), σ8))))
def f_X3_faultOfNewCall  (σ : Mm) : Option (Int32 × Mm) :=
  nm (sI σ 3 1 (0 : Int32)) (fun σ1 => fx (fun _ _ => none) FU (f_X3_faultOfNewCall_L7 (fun (xq2 : Int32) (σ : Mm) => f_X3_faultOfNewCall_38 xq2 σ) ) (0 : Int32) σ1)
def f_X4_placeFor_51 (L10 : Int32 → Int32 → Int32 → Mm → Option (Int32 × Mm)) (kq0 : Nat) (xq1 : Int32) (xq2 : Int32) (xq3 : Int32) (xq4 : Int32) (σ : Mm) : Option (Int32 × Mm) :=
  nm (xq4 + (1 : Int32)) (fun vq3 => L10 xq2 xq3 vq3 σ)
def f_X4_placeFor_L10 (kq0 : Nat) (xq1 : Int32) (L10 : Int32 → Int32 → Int32 → Mm → Option (Int32 × Mm)) (xq2 : Int32) (xq3 : Int32) (xq4 : Int32) (σ : Mm) : Option (Int32 × Mm) :=
  (if (32 : Int32) ≤ xq4 then some (xq2, σ) else (if xq3 ≤ xq2 then some (xq2, σ) else nm ((xq2 + xq3) / (2 : Int32)) (fun vq2 => ck vq2 (alen (kq0 + 1)) ((if xq1 ≤ (σ.1 (kq0 + 1) (ix vq2)) then f_X4_placeFor_51 L10 kq0 xq1 xq2 vq2 xq4 σ else nm (vq2 + (1 : Int32)) (fun vq4 => f_X4_placeFor_51 L10 kq0 xq1 vq4 xq3 xq4 σ))))))
def f_X4_placeFor (kq : Nat) (aq0 : Int32) (σ : Mm) : Option (Int32 × Mm) :=
  nm (σ.1 kq 1) (fun vq1 => fx (fun _ _ _ _ => none) FU (f_X4_placeFor_L10  kq aq0) (0 : Int32) vq1 (0 : Int32) σ)
def f_X4_holds_28  (σ : Mm) : Option (Int32 × Mm) :=
  cb (0 : Int32) (some ((0 : Int32), σ))
def f_X4_holds (aq0 : Int32) (σ : Mm) : Option (Int32 × Mm) :=
  bd (f_X4_placeFor 28 aq0 σ) (fun rq2 σ1 => (if (σ1.1 28 1) ≤ rq2 then f_X4_holds_28  σ1 else ck rq2 90 ((if (σ1.1 29 (ix rq2)) = aq0 then cb (1 : Int32) (some ((1 : Int32), σ1)) else f_X4_holds_28  σ1))))
def f_X4_include_24 (kq0 : Nat) (xq1 : Int32) (xq2 : Int32) (σ : Mm) : Option (Unit × Mm) :=
  (if (σ.1 kq0 1) < (Int32.ofNat (alen (kq0 + 1))) then cpy (alen (kq0 + 1)) (alen (kq0 + 1)) xq2 (xq2 + (1 : Int32)) ((σ.1 kq0 1) - xq2) (nm (sR σ (kq0 + 1) (va_cpy (σ.1 (kq0 + 1)) (σ.1 (kq0 + 1)) (ix xq2) (ix (xq2 + (1 : Int32))) (ix ((σ.1 kq0 1) - xq2)))) (fun σ3 => ck xq2 (alen (kq0 + 1)) (nm (sI σ3 (kq0 + 1) (ix xq2) xq1) (fun σ4 => nm (sI σ4 kq0 1 ((σ4.1 kq0 1) + (1 : Int32))) (fun σ5 => some ((), σ5)))))) else some ((), σ))
def f_X4_include (kq : Nat) (aq0 : Int32) (σ : Mm) : Option (Unit × Mm) :=
  bd (f_X4_placeFor kq aq0 σ) (fun rq2 σ1 => (if (σ1.1 kq 1) ≤ rq2 then f_X4_include_24 kq aq0 rq2 σ1 else ck rq2 (alen (kq + 1)) ((if (σ1.1 (kq + 1) (ix rq2)) = aq0 then some ((), σ1) else f_X4_include_24 kq aq0 rq2 σ1))))
def f_X5_hasCall_16  (σ : Mm) : Option (Int32 × Mm) :=
  cb (0 : Int32) (some ((0 : Int32), σ))
def f_X5_hasCall (aq0 : Int32) (σ : Mm) : Option (Int32 × Mm) :=
  (if aq0 < 0 then f_X5_hasCall_16  σ else (if (σ.1 7 0) ≤ aq0 then f_X5_hasCall_16  σ else cb (1 : Int32) (some ((1 : Int32), σ))))
def f_X5_hasStep_26  (σ : Mm) : Option (Int32 × Mm) :=
  cb (0 : Int32) (some ((0 : Int32), σ))
def f_X5_hasStep (aq0 : Int32) (aq1 : Int32) (σ : Mm) : Option (Int32 × Mm) :=
  bd (f_X5_hasCall aq0 σ) (fun rq2 σ1 => (if rq2 = 0 then f_X5_hasStep_26  σ1 else (if aq1 < 0 then f_X5_hasStep_26  σ1 else ck aq0 6 ((if (σ1.1 8 (ix aq0)) ≤ aq1 then f_X5_hasStep_26  σ1 else cb (1 : Int32) (some ((1 : Int32), σ1)))))))
def f_X5_changeablePart (aq0 : Int32) (aq1 : Int32) (σ : Mm) : Option (Int32 × Mm) :=
  bd (f_X5_partOf aq0 aq1 (0 : Int32) σ) (fun rq2 σ1 => (if rq2 = (2 : Int32) then bd (f_X5_partOf aq0 aq1 (2 : Int32) σ1) (fun rq5 σ4 => (if 0 ≤ rq5 then some ((2 : Int32), σ4) else some ((-1 : Int32), σ4))) else (if rq2 = (3 : Int32) then some ((3 : Int32), σ1) else (if rq2 = (4 : Int32) then some ((2 : Int32), σ1) else (if rq2 = (5 : Int32) then some ((-1 : Int32), σ1) else (if rq2 = (6 : Int32) then some ((-1 : Int32), σ1) else (if rq2 = (7 : Int32) then some ((2 : Int32), σ1) else some ((-1 : Int32), σ1))))))))
def f_X5_isDone_L2 (xq1 : Int32) (L2 : Int32 → Mm → Option (Int32 × Mm)) (xq2 : Int32) (σ : Mm) : Option (Int32 × Mm) :=
  (if (σ.1 7 3) ≤ xq2 then cb (0 : Int32) (some ((0 : Int32), σ)) else ck xq2 3 ((if (σ.1 10 (ix xq2)) = xq1 then cb (1 : Int32) (some ((1 : Int32), σ)) else ck xq2 3 ((if (σ.1 11 (ix xq2)) = xq1 then cb (1 : Int32) (some ((1 : Int32), σ)) else nm (xq2 + (1 : Int32)) (fun vq1 => L2 vq1 σ))))))
def f_X5_isDone (aq0 : Int32) (σ : Mm) : Option (Int32 × Mm) :=
  fx (fun _ _ => none) FU (f_X5_isDone_L2  aq0) (0 : Int32) σ
def f_X5_takeFrom (kq : Nat) (kq0 : Nat) (σ : Mm) : Option (Unit × Mm) :=
  nm (sI σ kq 0 (σ.1 kq0 0)) (fun σ1 => nm (sI σ1 kq 3 (σ1.1 kq0 3)) (fun σ2 => nm (sI σ2 kq 7 (σ2.1 kq0 7)) (fun σ3 => cpy 6 6 (0 : Int32) (0 : Int32) (6 : Int32) (nm (sR σ3 (kq + 1) (va_cpy (σ3.1 (kq0 + 1)) (σ3.1 (kq + 1)) (ix (0 : Int32)) (ix (0 : Int32)) (ix (6 : Int32)))) (fun σ4 => cpy 210 210 (0 : Int32) (0 : Int32) (210 : Int32) (nm (sR σ4 (kq + 2) (va_cpy (σ4.1 (kq0 + 2)) (σ4.1 (kq + 2)) (ix (0 : Int32)) (ix (0 : Int32)) (ix (210 : Int32)))) (fun σ5 => cpy 3 3 (0 : Int32) (0 : Int32) (3 : Int32) (nm (sR σ5 (kq + 3) (va_cpy (σ5.1 (kq0 + 3)) (σ5.1 (kq + 3)) (ix (0 : Int32)) (ix (0 : Int32)) (ix (3 : Int32)))) (fun σ6 => cpy 3 3 (0 : Int32) (0 : Int32) (3 : Int32) (nm (sR σ6 (kq + 4) (va_cpy (σ6.1 (kq0 + 4)) (σ6.1 (kq + 4)) (ix (0 : Int32)) (ix (0 : Int32)) (ix (3 : Int32)))) (fun σ7 => cpy 3 3 (0 : Int32) (0 : Int32) (3 : Int32) (nm (sR σ7 (kq + 5) (va_cpy (σ7.1 (kq0 + 5)) (σ7.1 (kq + 5)) (ix (0 : Int32)) (ix (0 : Int32)) (ix (3 : Int32)))) (fun σ8 => some ((), σ8))))))))))))))
def f_J7_fill_d0a16_L6 (kq0 : Nat) (xq1 : Int64) (xq4 : Int32) (L6 : Int32 → Mm → Option (Unit × Mm)) (xq3 : Int32) (σ : Mm) : Option (Unit × Mm) :=
  (if xq4 ≤ xq3 then some ((), σ) else ck xq3 40 (nm (sL σ (kq0 + 1) (ix xq3) xq1) (fun σ1 => nm (xq3 + (1 : Int32)) (fun vq2 => L6 vq2 σ1))))
def f_J7_fill_d0a16 (kq0 : Nat) (aq1 : Int64) (σ : Mm) : Option (Unit × Mm) :=
  fx (fun _ _ => none) FU (f_J7_fill_d0a16_L6  kq0 aq1 (40 : Int32)) (0 : Int32) σ
def f_X6_begin (kq : Nat) (aq0 : Int32) (aq1 : Int32) (σ : Mm) : Option (Unit × Mm) :=
  nm (sI σ kq 0 aq0) (fun σ1 => nm (sI σ1 kq 1 aq1) (fun σ2 => bd (f_J7_fill_d0a16 kq (0 : Int64) σ2) (fun rq4 σ3 => some ((), σ3))))
def f_X6_put (kq : Nat) (aq0 : Int32) (aq1 : Int64) (σ : Mm) : Option (Unit × Mm) :=
  (if (σ.1 kq 0) = (8 : Int32) then ck aq0 40 (nm (sL σ (kq + 1) (ix aq0) ((((((aq1).toInt32)).toInt8.toInt32)).toInt64)) (fun σ3 => some ((), σ3))) else (if (σ.1 kq 0) = (16 : Int32) then ck aq0 40 (nm (sL σ (kq + 1) (ix aq0) ((((((aq1).toInt32)).toInt16.toInt32)).toInt64)) (fun σ2 => some ((), σ2))) else ck aq0 40 (nm (sL σ (kq + 1) (ix aq0) aq1) (fun σ1 => some ((), σ1)))))
def f_X6_hasRange_30  (σ : Mm) : Option (Int32 × Mm) :=
  cb (0 : Int32) (some ((0 : Int32), σ))
def f_X6_hasRange (kq : Nat) (aq0 : Int32) (aq1 : Int32) (σ : Mm) : Option (Int32 × Mm) :=
  (if aq0 < 0 then f_X6_hasRange_30  σ else (if aq1 < 0 then f_X6_hasRange_30  σ else (if (σ.1 kq 1) < aq1 then f_X6_hasRange_30  σ else (if ((σ.1 kq 1) - aq1) < aq0 then f_X6_hasRange_30  σ else cb (1 : Int32) (some ((1 : Int32), σ))))))
def f_X7_forget  (σ : Mm) : Option (Unit × Mm) :=
  cb (0 : Int32) (nm (sI σ 6 6 (0 : Int32)) (fun σ1 => cb (0 : Int32) (nm (sI σ1 6 7 (0 : Int32)) (fun σ2 => some ((), σ2)))))
def f_X7_followOrders_64 (S : Int64 → Int32 → Mm → Option (Unit × Mm)) (L6 : Int32 → Int32 → Mm → Option (Unit × Mm)) (xq2 : Int64) (xq4 : Int32) (xq5 : Int32) (xq6 : Int32) (σ : Mm) : Option (Unit × Mm) :=
  nm (xq6 + (1 : Int32)) (fun vq3 => L6 xq5 vq3 σ)
def f_X7_followOrders_L6 (S : Int64 → Int32 → Mm → Option (Unit × Mm)) (K70 : Int32 → Mm → Option (Unit × Mm)) (xq2 : Int64) (xq4 : Int32) (L6 : Int32 → Int32 → Mm → Option (Unit × Mm)) (xq5 : Int32) (xq6 : Int32) (σ : Mm) : Option (Unit × Mm) :=
  (if (σ.1 13 0) ≤ xq6 then K70 xq5 σ else bd (f_X1_hasCallLeft xq2 xq6 σ) (fun rq2 σ1 => (if rq2 = 0 then f_X7_followOrders_64 S L6 xq2 xq4 xq5 xq6 σ1 else bd (f_X1_withCallDone xq2 xq6 σ1) (fun rq5 σ4 => (if (lg_cmp rq5 (-1 : Int64)) = 0 then f_X7_followOrders_64 S L6 xq2 xq4 (0 : Int32) xq6 σ4 else (if (6 : Int32) ≤ xq4 then f_X7_followOrders_64 S L6 xq2 xq4 (0 : Int32) xq6 σ4 else bd (S rq5 (xq4 + (1 : Int32)) σ4) (fun rq7 σ6 => f_X7_followOrders_64 S L6 xq2 xq4 (0 : Int32) xq6 σ6)))))))
def f_X7_followOrders_70 (S : Int64 → Int32 → Mm → Option (Unit × Mm)) (xq2 : Int64) (xq5 : Int32) (σ : Mm) : Option (Unit × Mm) :=
  (if xq5 = 0 then some ((), σ) else bd (f_X1_resultOf xq2 σ) (fun rq9 σ8 => bd (f_X4_include 28 rq9 σ8) (fun rq11 σ10 => some ((), σ10))))
def f_X7_followOrders_b (S : Int64 → Int32 → Mm → Option (Unit × Mm)) (aq2 : Int64) (aq3 : Int32) (σ : Mm) : Option (Unit × Mm) :=
  fx (fun _ _ _ => none) FU (f_X7_followOrders_L6 S (fun (xq5 : Int32) (σ : Mm) => f_X7_followOrders_70 S aq2 xq5 σ) aq2 aq3) (1 : Int32) (0 : Int32) σ
def f_X7_followOrders : Nat → Int64 → Int32 → Mm → Option (Unit × Mm) := fun n => fx (fun _ _ _ => none) n f_X7_followOrders_b
def f_X7_orderedResults  (σ : Mm) : Option (Unit × Mm) :=
  (if (σ.1 6 7) = 0 then bd (f_X1_load (0 : Int64) σ) (fun rq2 σ1 => nm (sI σ1 28 1 (0 : Int32)) (fun σ3 => bd (f_X7_followOrders 8 (σ3.2 13 2) (0 : Int32) σ3) (fun rq5 σ4 => cb (1 : Int32) (nm (sI σ4 6 7 (1 : Int32)) (fun σ6 => some ((), σ6)))))) else some ((), σ))
def f_X9_include (aq0 : Int64) (aq1 : Int32) (aq2 : Int32) (σ : Mm) : Option (Int32 × Mm) :=
  (if (σ.1 18 7) < (6000 : Int32) then ck (σ.1 18 7) 6000 (nm (sL σ 19 (ix (σ.1 18 7)) aq0) (fun σ1 => ck aq1 16384 (nm (sI σ1 20 (ix aq1) (σ1.1 18 7)) (fun σ2 => ck (σ2.1 18 7) 6000 (nm (sI σ2 21 (ix (σ2.1 18 7)) aq1) (fun σ3 => ck (σ3.1 18 7) 6000 (nm (sI σ3 22 (ix (σ3.1 18 7)) aq2) (fun σ4 => nm (sI σ4 18 7 ((σ4.1 18 7) + (1 : Int32))) (fun σ5 => some (((σ5.1 18 7) - (1 : Int32)), σ5)))))))))) else cb (1 : Int32) (nm (sI σ 18 8 (1 : Int32)) (fun σ6 => some ((-1 : Int32), σ6))))
def f_X9_indexOf_L14 (xq1 : Int64) (xq3 : Int32) (L14 : Int32 → Int32 → Mm → Option (Int32 × Mm)) (xq4 : Int32) (xq5 : Int32) (σ : Mm) : Option (Int32 × Mm) :=
  (if (16384 : Int32) ≤ xq5 then some ((-1 : Int32), σ) else ck xq4 16384 (nm (σ.1 20 (ix xq4)) (fun vq2 => (if (σ.1 18 7) ≤ vq2 then bd (f_X9_include xq1 xq4 xq3 σ) (fun rq4 σ3 => some (rq4, σ3)) else ck vq2 6000 ((if (σ.1 21 (ix vq2)) = xq4 then ck vq2 6000 ((if (lg_cmp (σ.2 19 (ix vq2)) xq1) = 0 then some (vq2, σ) else nm ((xq4 + (1 : Int32)) &&& (16383 : Int32)) (fun vq5 => nm (xq5 + (1 : Int32)) (fun vq6 => L14 vq5 vq6 σ)))) else bd (f_X9_include xq1 xq4 xq3 σ) (fun rq8 σ7 => some (rq8, σ7))))))))
def f_X9_indexOf (aq0 : Int64) (aq1 : Int32) (σ : Mm) : Option (Int32 × Mm) :=
  nm ((((((aq0 * (-7046029254386353131 : Int64))).toUInt64 >>> (((50 : Int32)).toInt64.toUInt64 &&& Int64.toUInt64 63)).toInt64)).toInt32) (fun vq1 => fx (fun _ _ _ => none) FU (f_X9_indexOf_L14  aq0 aq1) vq1 (0 : Int32) σ)
def f_X9_explore_111 (L46 : Int32 → Mm → Option (Unit × Mm)) (xq2 : Int32) (xq3 : Int32) (xqs1 : Int32) (xqs2 : Int32) (σ : Mm) : Option (Unit × Mm) :=
  ck xqs1 36000 (nm (sI σ 23 (ix xqs1) xqs2) (fun σ10 => nm (xq3 + (1 : Int32)) (fun vq11 => L46 vq11 σ10)))
def f_X9_explore_L46 (K118 : Mm → Option (Unit × Mm)) (xq2 : Int32) (L46 : Int32 → Mm → Option (Unit × Mm)) (xq3 : Int32) (σ : Mm) : Option (Unit × Mm) :=
  (if (6 : Int32) ≤ xq3 then K118 σ else (if (σ.1 18 8) = 0 then ck xq2 6000 (bd (f_X1_moved (σ.2 19 (ix xq2)) xq3 (σ.1 13 1) σ) (fun rq6 σ5 => nm ((xq2 * (6 : Int32)) + xq3) (fun vq7 => (if (lg_cmp rq6 (-1 : Int64)) = 0 then f_X9_explore_111 L46 xq2 xq3 vq7 (-1 : Int32) σ5 else bd (f_X9_indexOf rq6 vq7 σ5) (fun rq9 σ8 => f_X9_explore_111 L46 xq2 xq3 vq7 rq9 σ8))))) else K118 σ))
def f_X9_explore_118 (L22 : Int32 → Mm → Option (Unit × Mm)) (xq2 : Int32) (σ : Mm) : Option (Unit × Mm) :=
  nm (xq2 + (1 : Int32)) (fun vq12 => L22 vq12 σ)
def f_X9_explore_L22  (L22 : Int32 → Mm → Option (Unit × Mm)) (xq2 : Int32) (σ : Mm) : Option (Unit × Mm) :=
  (if (6000 : Int32) ≤ xq2 then some ((), σ) else (if (σ.1 18 7) ≤ xq2 then some ((), σ) else (if (σ.1 18 8) = 0 then fx (fun _ _ => none) FU (f_X9_explore_L46 (fun  (σ : Mm) => f_X9_explore_118 L22 xq2 σ) xq2) (0 : Int32) σ else some ((), σ))))
def f_X9_explore  (σ : Mm) : Option (Unit × Mm) :=
  nm (sI σ 18 7 (0 : Int32)) (fun σ1 => cb (0 : Int32) (nm (sI σ1 18 8 (0 : Int32)) (fun σ2 => bd (f_X9_indexOf (σ2.2 13 2) (-1 : Int32) σ2) (fun rq4 σ3 => fx (fun _ _ => none) FU (f_X9_explore_L22  ) (0 : Int32) σ3))))
def f_X9_gatherEnds_42 (L7 : Int32 → Mm → Option (Unit × Mm)) (xq3 : Int32) (σ : Mm) : Option (Unit × Mm) :=
  nm (xq3 + (1 : Int32)) (fun vq4 => L7 vq4 σ)
def f_X9_gatherEnds_L7  (L7 : Int32 → Mm → Option (Unit × Mm)) (xq3 : Int32) (σ : Mm) : Option (Unit × Mm) :=
  (if (σ.1 18 7) ≤ xq3 then some ((), σ) else ck xq3 6000 (bd (f_X1_isEnd (σ.2 19 (ix xq3)) σ) (fun rq3 σ2 => (if rq3 = 0 then f_X9_gatherEnds_42 L7 xq3 σ2 else ck xq3 6000 (bd (f_X1_resultOf (σ2.2 19 (ix xq3)) σ2) (fun rq6 σ5 => bd (f_X4_include 26 rq6 σ5) (fun rq8 σ7 => f_X9_gatherEnds_42 L7 xq3 σ7)))))))
def f_X9_gatherEnds  (σ : Mm) : Option (Unit × Mm) :=
  nm (sI σ 26 1 (0 : Int32)) (fun σ1 => fx (fun _ _ => none) FU (f_X9_gatherEnds_L7  ) (0 : Int32) σ1)
def f_X7_goThrough (aq0 : Int64) (σ : Mm) : Option (Unit × Mm) :=
  bd (f_X1_load aq0 σ) (fun rq2 σ1 => bd (f_X9_explore σ1) (fun rq4 σ3 => bd (f_X9_gatherEnds σ3) (fun rq6 σ5 => some ((), σ5))))
def f_X7_isTooLarge  (σ : Mm) : Option (Int32 × Mm) :=
  (if (σ.1 6 6) = 0 then bd (f_X7_goThrough (0 : Int64) σ) (fun rq2 σ1 => cb (1 : Int32) (nm (sI σ1 6 6 (1 : Int32)) (fun σ3 => cb (σ3.1 18 8) (some ((σ3.1 18 8), σ3))))) else cb (σ.1 18 8) (some ((σ.1 18 8), σ)))
def f_X7_countBad_34 (L4 : Int32 → Int32 → Mm → Option (Int32 × Mm)) (xq2 : Int32) (xq3 : Int32) (σ : Mm) : Option (Int32 × Mm) :=
  nm (xq3 + (1 : Int32)) (fun vq3 => L4 xq2 vq3 σ)
def f_X7_countBad_L4  (L4 : Int32 → Int32 → Mm → Option (Int32 × Mm)) (xq2 : Int32) (xq3 : Int32) (σ : Mm) : Option (Int32 × Mm) :=
  (if (σ.1 26 1) ≤ xq3 then some (xq2, σ) else ck xq3 6000 (bd (f_X4_holds (σ.1 27 (ix xq3)) σ) (fun rq2 σ1 => (if rq2 = 0 then nm (xq2 + (1 : Int32)) (fun vq4 => f_X7_countBad_34 L4 vq4 xq3 σ1) else f_X7_countBad_34 L4 xq2 xq3 σ1))))
def f_X7_countBad  (σ : Mm) : Option (Int32 × Mm) :=
  fx (fun _ _ _ => none) FU (f_X7_countBad_L4  ) (0 : Int32) (0 : Int32) σ
def f_X7_leastBad_L2  (L2 : Int32 → Mm → Option (Int32 × Mm)) (xq2 : Int32) (σ : Mm) : Option (Int32 × Mm) :=
  (if (σ.1 26 1) ≤ xq2 then some ((-1 : Int32), σ) else ck xq2 6000 (bd (f_X4_holds (σ.1 27 (ix xq2)) σ) (fun rq2 σ1 => (if rq2 = 0 then ck xq2 6000 (some ((σ1.1 27 (ix xq2)), σ1)) else nm (xq2 + (1 : Int32)) (fun vq3 => L2 vq3 σ1)))))
def f_X7_leastBad  (σ : Mm) : Option (Int32 × Mm) :=
  fx (fun _ _ => none) FU (f_X7_leastBad_L2  ) (0 : Int32) σ
def f_X9_walkTo_49 (L5 : Int32 → Mm → Option (Int32 × Mm)) (xq2 : Int32) (xq3 : Int32) (xq4 : Int32) (σ : Mm) : Option (Int32 × Mm) :=
  nm (xq4 + (1 : Int32)) (fun vq3 => L5 vq3 σ)
def f_X9_walkTo_L5 (K43 : Int32 → Mm → Option (Int32 × Mm)) (K55 : Mm → Option (Int32 × Mm)) (xq2 : Int32) (xq3 : Int32) (L5 : Int32 → Mm → Option (Int32 × Mm)) (xq4 : Int32) (σ : Mm) : Option (Int32 × Mm) :=
  (if (σ.1 18 7) ≤ xq4 then K55 σ else ck xq4 6000 (bd (f_X1_isEnd (σ.2 19 (ix xq4)) σ) (fun rq2 σ1 => (if rq2 = 0 then f_X9_walkTo_49 L5 xq2 xq3 xq4 σ1 else ck xq4 6000 (bd (f_X1_resultOf (σ1.2 19 (ix xq4)) σ1) (fun rq5 σ4 => (if rq5 = xq2 then K43 xq4 σ4 else f_X9_walkTo_49 L5 xq2 xq3 xq4 σ4)))))))
def f_X9_walkTo_L61 (K98 : Int32 → Mm → Option (Int32 × Mm)) (xq3 : Int32) (L61 : Int32 → Int32 → Mm → Option (Int32 × Mm)) (xq4 : Int32) (xq5 : Int32) (σ : Mm) : Option (Int32 × Mm) :=
  (if (σ.1 18 7) ≤ xq4 then K98 xq4 σ else ck xq5 6000 ((if (σ.1 22 (ix xq5)) < 0 then K98 xq4 σ else nm (xq4 + (1 : Int32)) (fun vq6 => ck xq5 6000 (nm ((σ.1 22 (ix xq5)) / (6 : Int32)) (fun vq7 => L61 vq6 vq7 σ))))))
def f_X9_walkTo_L107 (xq4 : Int32) (L107 : Int32 → Int32 → Mm → Option (Int32 × Mm)) (xq5 : Int32) (xq6 : Int32) (σ : Mm) : Option (Int32 × Mm) :=
  (if xq6 < 0 then some (xq4, σ) else ck xq5 6000 (ck xq6 6000 (nm (sI σ 25 (ix xq6) (irm (σ.1 22 (ix xq5)) (6 : Int32))) (fun σ9 => ck xq5 6000 (nm ((σ9.1 22 (ix xq5)) / (6 : Int32)) (fun vq10 => nm (xq6 + (-1 : Int32)) (fun vq11 => L107 vq10 vq11 σ9)))))))
def f_X9_walkTo_98 (xq3 : Int32) (xq4 : Int32) (σ : Mm) : Option (Int32 × Mm) :=
  nm (xq4 - (1 : Int32)) (fun vq8 => fx (fun _ _ _ => none) FU (f_X9_walkTo_L107  xq4) xq3 vq8 σ)
def f_X9_walkTo_55 (xq3 : Int32) (σ : Mm) : Option (Int32 × Mm) :=
  fx (fun _ _ _ => none) FU (f_X9_walkTo_L61 (fun (xq4 : Int32) (σ : Mm) => f_X9_walkTo_98 xq3 xq4 σ) xq3) (0 : Int32) xq3 σ
def f_X9_walkTo_43 (xq4 : Int32) (σ : Mm) : Option (Int32 × Mm) :=
  f_X9_walkTo_55 xq4 σ
def f_X9_walkTo (aq1 : Int32) (σ : Mm) : Option (Int32 × Mm) :=
  fx (fun _ _ => none) FU (f_X9_walkTo_L5 (fun (xq4 : Int32) (σ : Mm) => f_X9_walkTo_43 xq4 σ) (fun  (σ : Mm) => f_X9_walkTo_55 (0 : Int32) σ) aq1 (0 : Int32)) (0 : Int32) σ
def f_X7_walkToWorst  (σ : Mm) : Option (Int32 × Mm) :=
  bd (f_X7_orderedResults σ) (fun rq2 σ1 => bd (f_X7_leastBad σ1) (fun rq4 σ3 => (if 0 ≤ rq4 then bd (f_X1_load (0 : Int64) σ3) (fun rq6 σ5 => bd (f_X9_walkTo rq4 σ5) (fun rq8 σ7 => some (rq8, σ7))) else some ((-1 : Int32), σ3))))
def f_X7_healingValues_79 (L18 : Int32 → Int32 → Mm → Option (Int32 × Mm)) (xq1 : Int32) (xq2 : Int32) (xq3 : Int32) (xq4 : Int32) (xq5 : Int32) (xq6 : Int32) (σ : Mm) : Option (Int32 × Mm) :=
  nm (xq6 + (1 : Int32)) (fun vq13 => L18 xq5 vq13 σ)
def f_X7_healingValues_L18 (K85 : Int32 → Mm → Option (Int32 × Mm)) (xq1 : Int32) (xq2 : Int32) (xq3 : Int32) (xq4 : Int32) (L18 : Int32 → Int32 → Mm → Option (Int32 × Mm)) (xq5 : Int32) (xq6 : Int32) (σ : Mm) : Option (Int32 × Mm) :=
  (if (4 : Int32) ≤ xq6 then K85 xq5 σ else (if xq5 < 0 then K85 xq5 σ else bd (f_X5_putPart xq1 xq2 xq3 xq6 σ) (fun rq4 σ3 => bd (f_X7_forget σ3) (fun rq6 σ5 => bd (f_X7_isTooLarge σ5) (fun rq8 σ7 => (if rq8 = 0 then bd (f_X7_orderedResults σ7) (fun rq10 σ9 => bd (f_X7_leastBad σ9) (fun rq12 σ11 => (if 0 ≤ rq12 then f_X7_healingValues_79 L18 xq1 xq2 xq3 xq4 xq5 xq6 σ11 else nm (xq5 ||| ((1 : Int32) <<< (xq6 &&& 31))) (fun vq14 => f_X7_healingValues_79 L18 xq1 xq2 xq3 xq4 vq14 xq6 σ11)))) else f_X7_healingValues_79 L18 xq1 xq2 xq3 xq4 (-2 : Int32) xq6 σ7))))))
def f_X7_healingValues_85 (xq1 : Int32) (xq2 : Int32) (xq3 : Int32) (xq4 : Int32) (xq5 : Int32) (σ : Mm) : Option (Int32 × Mm) :=
  bd (f_X5_putPart xq1 xq2 xq3 xq4 σ) (fun rq16 σ15 => bd (f_X7_forget σ15) (fun rq18 σ17 => some (xq5, σ17)))
def f_X7_healingValues (aq0 : Int32) (aq1 : Int32) (aq2 : Int32) (σ : Mm) : Option (Int32 × Mm) :=
  bd (f_X5_partOf aq0 aq1 aq2 σ) (fun rq2 σ1 => fx (fun _ _ _ => none) FU (f_X7_healingValues_L18 (fun (xq5 : Int32) (σ : Mm) => f_X7_healingValues_85 aq0 aq1 aq2 rq2 xq5 σ) aq0 aq1 aq2 rq2) (0 : Int32) (0 : Int32) σ1)
def f_J6_bitCount_0f7a4 (aq0 : Int32) (σ : Mm) : Option (Int32 × Mm) :=
  nm (aq0 - ((((aq0).toUInt32 >>> (((1 : Int32)).toUInt32 &&& Int32.toUInt32 31)).toInt32) &&& (1431655765 : Int32))) (fun vq1 => nm ((vq1 &&& (858993459 : Int32)) + ((((vq1).toUInt32 >>> (((2 : Int32)).toUInt32 &&& Int32.toUInt32 31)).toInt32) &&& (858993459 : Int32))) (fun vq2 => nm ((vq2 + (((vq2).toUInt32 >>> (((4 : Int32)).toUInt32 &&& Int32.toUInt32 31)).toInt32)) &&& (252645135 : Int32)) (fun vq3 => nm (vq3 + (((vq3).toUInt32 >>> (((8 : Int32)).toUInt32 &&& Int32.toUInt32 31)).toInt32)) (fun vq4 => nm (vq4 + (((vq4).toUInt32 >>> (((16 : Int32)).toUInt32 &&& Int32.toUInt32 31)).toInt32)) (fun vq5 => some ((vq5 &&& (63 : Int32)), σ))))))
def f_X7_findFencePlaces_76 (L17 : Int32 → Int32 → Mm → Option (Int32 × Mm)) (xq1 : Int32) (xq2 : Int32) (xq3 : Int32) (σ : Mm) : Option (Int32 × Mm) :=
  nm (xq3 + (1 : Int32)) (fun vq5 => L17 xq1 vq5 σ)
def f_X7_findFencePlaces_L17 (K82 : Int32 → Mm → Option (Int32 × Mm)) (xq2 : Int32) (L17 : Int32 → Int32 → Mm → Option (Int32 × Mm)) (xq1 : Int32) (xq3 : Int32) (σ : Mm) : Option (Int32 × Mm) :=
  ck xq2 6 ((if (σ.1 8 (ix xq2)) ≤ xq3 then K82 xq1 σ else bd (f_X5_isDone xq2 σ) (fun rq2 σ1 => (if rq2 = 0 then K82 xq1 σ1 else bd (f_X5_partOf xq2 xq3 (0 : Int32) σ1) (fun rq4 σ3 => (if rq4 = (2 : Int32) then (if (6 : Int32) ≤ xq1 then f_X7_findFencePlaces_76 L17 xq1 xq2 xq3 σ3 else ck xq1 6 (nm (sI σ3 30 (ix xq1) ((xq2 * (7 : Int32)) + xq3)) (fun σ6 => nm (xq1 + (1 : Int32)) (fun vq7 => f_X7_findFencePlaces_76 L17 vq7 xq2 xq3 σ6)))) else f_X7_findFencePlaces_76 L17 xq1 xq2 xq3 σ3))))))
def f_X7_findFencePlaces_82 (L4 : Int32 → Int32 → Mm → Option (Int32 × Mm)) (xq1 : Int32) (xq2 : Int32) (σ : Mm) : Option (Int32 × Mm) :=
  nm (xq2 + (1 : Int32)) (fun vq8 => L4 xq1 vq8 σ)
def f_X7_findFencePlaces_L4  (L4 : Int32 → Int32 → Mm → Option (Int32 × Mm)) (xq1 : Int32) (xq2 : Int32) (σ : Mm) : Option (Int32 × Mm) :=
  (if (σ.1 7 0) ≤ xq2 then some (xq1, σ) else fx (fun _ _ _ => none) FU (f_X7_findFencePlaces_L17 (fun (xq1 : Int32) (σ : Mm) => f_X7_findFencePlaces_82 L4 xq1 xq2 σ) xq2) xq1 (0 : Int32) σ)
def f_X7_findFencePlaces  (σ : Mm) : Option (Int32 × Mm) :=
  fx (fun _ _ _ => none) FU (f_X7_findFencePlaces_L4  ) (0 : Int32) (0 : Int32) σ
def f_X7_tryFences_36 (L6 : Int64 → Int32 → Mm → Option (Int32 × Mm)) (xq1 : Int32) (xq2 : Int32) (xq4 : Int64) (xq6 : Int32) (σ : Mm) : Option (Int32 × Mm) :=
  nm (xq6 + (1 : Int32)) (fun vq1 => L6 xq4 vq1 σ)
def f_X7_tryFences_L6 (K42 : Int64 → Mm → Option (Int32 × Mm)) (xq1 : Int32) (xq2 : Int32) (L6 : Int64 → Int32 → Mm → Option (Int32 × Mm)) (xq4 : Int64) (xq6 : Int32) (σ : Mm) : Option (Int32 × Mm) :=
  (if xq2 ≤ xq6 then K42 xq4 σ else (if ((xq1 >>> (xq6 &&& 31)) &&& (1 : Int32)) = (1 : Int32) then ck xq6 6 (nm (xq4 ||| ((1 : Int64) <<< (((σ.1 30 (ix xq6))).toInt64 &&& 63))) (fun vq2 => f_X7_tryFences_36 L6 xq1 xq2 vq2 xq6 σ)) else f_X7_tryFences_36 L6 xq1 xq2 xq4 xq6 σ))
def f_X7_tryFences_42 (xq1 : Int32) (xq4 : Int64) (σ : Mm) : Option (Int32 × Mm) :=
  bd (f_X7_goThrough xq4 σ) (fun rq4 σ3 => (if (σ3.1 18 8) = 0 then bd (f_X7_leastBad σ3) (fun rq6 σ5 => (if 0 ≤ rq6 then some ((-1 : Int32), σ5) else some (xq1, σ5))) else some ((-2 : Int32), σ3)))
def f_X7_tryFences (aq0 : Int32) (aq1 : Int32) (σ : Mm) : Option (Int32 × Mm) :=
  fx (fun _ _ _ => none) FU (f_X7_tryFences_L6 (fun (xq4 : Int64) (σ : Mm) => f_X7_tryFences_42 aq0 xq4 σ) aq0 aq1) (0 : Int64) (0 : Int32) σ
def f_X7_fewestFences_81 (L49 : Int32 → Int32 → Mm → Option (Int32 × Mm)) (xq2 : Int32) (xq3 : Int32) (xq4 : Int32) (xq5 : Int32) (σ : Mm) : Option (Int32 × Mm) :=
  nm (xq5 + (1 : Int32)) (fun vq13 => L49 xq3 vq13 σ)
def f_X7_fewestFences_L49 (K87 : Int32 → Mm → Option (Int32 × Mm)) (xq2 : Int32) (xq4 : Int32) (L49 : Int32 → Int32 → Mm → Option (Int32 × Mm)) (xq3 : Int32) (xq5 : Int32) (σ : Mm) : Option (Int32 × Mm) :=
  (if ((1 : Int32) <<< (xq2 &&& 31)) ≤ xq5 then K87 xq3 σ else (if xq3 = (-1 : Int32) then bd (f_J6_bitCount_0f7a4 xq5 σ) (fun rq12 σ11 => (if rq12 = xq4 then bd (f_X7_tryFences xq5 xq2 σ11) (fun rq15 σ14 => f_X7_fewestFences_81 L49 xq2 rq15 xq4 xq5 σ14) else f_X7_fewestFences_81 L49 xq2 xq3 xq4 xq5 σ11)) else K87 xq3 σ))
def f_X7_fewestFences_87 (L35 : Int32 → Int32 → Mm → Option (Int32 × Mm)) (xq2 : Int32) (xq3 : Int32) (xq4 : Int32) (σ : Mm) : Option (Int32 × Mm) :=
  nm (xq4 + (1 : Int32)) (fun vq16 => L35 xq3 vq16 σ)
def f_X7_fewestFences_L35 (xq2 : Int32) (L35 : Int32 → Int32 → Mm → Option (Int32 × Mm)) (xq3 : Int32) (xq4 : Int32) (σ : Mm) : Option (Int32 × Mm) :=
  (if xq2 < xq4 then cb (0 : Int32) (nm (sI σ 6 6 (0 : Int32)) (fun σ9 => some (xq3, σ9))) else (if xq3 = (-1 : Int32) then fx (fun _ _ _ => none) FU (f_X7_fewestFences_L49 (fun (xq3 : Int32) (σ : Mm) => f_X7_fewestFences_87 L35 xq2 xq3 xq4 σ) xq2 xq4) xq3 (0 : Int32) σ else cb (0 : Int32) (nm (sI σ 6 6 (0 : Int32)) (fun σ10 => some (xq3, σ10)))))
def f_X7_fewestFences  (σ : Mm) : Option (Int32 × Mm) :=
  bd (f_X7_orderedResults σ) (fun rq2 σ1 => bd (f_X7_isTooLarge σ1) (fun rq4 σ3 => (if rq4 = 0 then bd (f_X7_leastBad σ3) (fun rq6 σ5 => (if 0 ≤ rq6 then bd (f_X7_findFencePlaces σ5) (fun rq8 σ7 => fx (fun _ _ _ => none) FU (f_X7_fewestFences_L35  rq8) (-1 : Int32) (1 : Int32) σ7) else some ((0 : Int32), σ5))) else some ((-2 : Int32), σ3))))
def f_X8_append_L4 (xq1 : Int32) (L4 : Int32 → Mm → Option (Unit × Mm)) (xq3 : Int32) (σ : Mm) : Option (Unit × Mm) :=
  (if xq3 < 0 then some ((), σ) else (if (120 : Int32) ≤ (σ.1 4 1) then some ((), σ) else ck (σ.1 4 1) 120 (nm (sI σ 5 (ix (σ.1 4 1)) ((xq1 >>> (((8 : Int32) * xq3) &&& 31)) &&& (255 : Int32))) (fun σ2 => nm (sI σ2 4 1 ((σ2.1 4 1) + (1 : Int32))) (fun σ3 => nm (xq3 + (-1 : Int32)) (fun vq4 => L4 vq4 σ3))))))
def f_X8_append (aq0 : Int32) (aq1 : Int32) (σ : Mm) : Option (Unit × Mm) :=
  nm (aq1 - (1 : Int32)) (fun vq1 => fx (fun _ _ => none) FU (f_X8_append_L4  aq0) vq1 σ)
def f_X9_moveOnPath (aq0 : Int32) (σ : Mm) : Option (Int32 × Mm) :=
  ck aq0 6000 ((if (3 : Int32) ≤ (σ.1 25 (ix aq0)) then ck aq0 6000 (some ((((σ.1 25 (ix aq0)) - (3 : Int32)) + (10 : Int32)), σ)) else ck aq0 6000 (some ((σ.1 25 (ix aq0)), σ))))
def f_J7_rangeCheck_23922 (aq0 : Int32) (aq1 : Int32) (aq2 : Int32) (σ : Mm) : Option (Unit × Mm) :=
  (if aq1 ≤ aq2 then (if 0 ≤ aq1 then (if aq2 ≤ aq0 then some ((), σ) else none) else none) else none)
def f_J7_fill_fda19_L10 (xq2 : Int32) (xq3 : Int32) (L10 : Int32 → Mm → Option (Unit × Mm)) (xq4 : Int32) (σ : Mm) : Option (Unit × Mm) :=
  (if xq2 ≤ xq4 then some ((), σ) else ck xq4 6000 (nm (sI σ 24 (ix xq4) xq3) (fun σ3 => nm (xq4 + (1 : Int32)) (fun vq4 => L10 vq4 σ3))))
def f_J7_fill_fda19 (aq1 : Int32) (aq2 : Int32) (aq3 : Int32) (σ : Mm) : Option (Unit × Mm) :=
  bd (f_J7_rangeCheck_23922 (6000 : Int32) aq1 aq2 σ) (fun rq2 σ1 => fx (fun _ _ => none) FU (f_J7_fill_fda19_L10  aq2 aq3) aq1 σ1)
def f_X9_leadsOut_45 (L7 : Int32 → Int32 → Mm → Option (Int32 × Mm)) (xq1 : Int32) (xq2 : Int32) (xq3 : Int32) (σ : Mm) : Option (Int32 × Mm) :=
  nm (xq3 + (1 : Int32)) (fun vq2 => L7 xq2 vq2 σ)
def f_X9_leadsOut_L7 (xq1 : Int32) (L7 : Int32 → Int32 → Mm → Option (Int32 × Mm)) (xq2 : Int32) (xq3 : Int32) (σ : Mm) : Option (Int32 × Mm) :=
  (if ((xq1 + (1 : Int32)) * (6 : Int32)) ≤ xq3 then cb xq2 (some (xq2, σ)) else ck xq3 36000 ((if (σ.1 23 (ix xq3)) < 0 then f_X9_leadsOut_45 L7 xq1 xq2 xq3 σ else ck xq3 36000 (ck (σ.1 23 (ix xq3)) 6000 ((if (σ.1 24 (ix (σ.1 23 (ix xq3)))) = (1 : Int32) then cb (1 : Int32) (some ((1 : Int32), σ)) else f_X9_leadsOut_45 L7 xq1 (0 : Int32) xq3 σ))))))
def f_X9_leadsOut (aq0 : Int32) (σ : Mm) : Option (Int32 × Mm) :=
  nm (aq0 * (6 : Int32)) (fun vq1 => fx (fun _ _ _ => none) FU (f_X9_leadsOut_L7  aq0) (1 : Int32) vq1 σ)
def f_X9_countStuck_78 (L41 : Int32 → Int32 → Int32 → Mm → Option (Int32 × Mm)) (xq1 : Int32) (xq2 : Int32) (xq3 : Int32) (xq4 : Int32) (σ : Mm) : Option (Int32 × Mm) :=
  nm (xq4 + (-1 : Int32)) (fun vq4 => L41 xq1 xq2 vq4 σ)
def f_X9_countStuck_L41 (K84 : Int32 → Int32 → Mm → Option (Int32 × Mm)) (xq3 : Int32) (L41 : Int32 → Int32 → Int32 → Mm → Option (Int32 × Mm)) (xq1 : Int32) (xq2 : Int32) (xq4 : Int32) (σ : Mm) : Option (Int32 × Mm) :=
  (if xq4 < 0 then K84 xq1 xq2 σ else ck xq4 6000 ((if (σ.1 24 (ix xq4)) = 0 then bd (f_X9_leadsOut xq4 σ) (fun rq6 σ5 => (if rq6 = 0 then f_X9_countStuck_78 L41 xq1 xq2 xq3 xq4 σ5 else ck xq4 6000 (nm (sI σ5 24 (ix xq4) (1 : Int32)) (fun σ7 => nm (xq1 + (1 : Int32)) (fun vq8 => f_X9_countStuck_78 L41 vq8 (1 : Int32) xq3 xq4 σ7))))) else f_X9_countStuck_78 L41 xq1 xq2 xq3 xq4 σ)))
def f_X9_countStuck_84 (L19 : Int32 → Int32 → Int32 → Mm → Option (Int32 × Mm)) (xq1 : Int32) (xq2 : Int32) (xq3 : Int32) (σ : Mm) : Option (Int32 × Mm) :=
  nm (xq3 + (1 : Int32)) (fun vq9 => L19 xq1 xq2 vq9 σ)
def f_X9_countStuck_L19  (L19 : Int32 → Int32 → Int32 → Mm → Option (Int32 × Mm)) (xq1 : Int32) (xq2 : Int32) (xq3 : Int32) (σ : Mm) : Option (Int32 × Mm) :=
  (if (σ.1 18 7) < xq3 then some (((σ.1 18 7) - xq1), σ) else (if xq2 = 0 then some (((σ.1 18 7) - xq1), σ) else nm ((σ.1 18 7) - (1 : Int32)) (fun vq3 => fx (fun _ _ _ _ => none) FU (f_X9_countStuck_L41 (fun (xq1 : Int32) (xq2 : Int32) (σ : Mm) => f_X9_countStuck_84 L19 xq1 xq2 xq3 σ) xq3) xq1 (0 : Int32) vq3 σ)))
def f_X9_countStuck  (σ : Mm) : Option (Int32 × Mm) :=
  bd (f_J7_fill_fda19 (0 : Int32) (σ.1 18 7) (0 : Int32) σ) (fun rq2 σ1 => fx (fun _ _ _ _ => none) FU (f_X9_countStuck_L19  ) (0 : Int32) (1 : Int32) (0 : Int32) σ1)
def f_X9_takeAway_72 (L8 : Int32 → Int32 → Mm → Option (Int32 × Mm)) (xq1 : Int32) (xq3 : Int32) (xq4 : Int32) (σ : Mm) : Option (Int32 × Mm) :=
  nm (xq4 + (1 : Int32)) (fun vq3 => L8 xq3 vq3 σ)
def f_X9_takeAway_L8 (xq1 : Int32) (L8 : Int32 → Int32 → Mm → Option (Int32 × Mm)) (xq3 : Int32) (xq4 : Int32) (σ : Mm) : Option (Int32 × Mm) :=
  (if ((xq1 + (1 : Int32)) * (6 : Int32)) ≤ xq4 then some (xq3, σ) else ck xq4 36000 (nm (σ.1 23 (ix xq4)) (fun vq2 => (if vq2 < 0 then f_X9_takeAway_72 L8 xq1 xq3 xq4 σ else ck vq2 6000 (ck vq2 6000 (nm (sI σ 24 (ix vq2) ((σ.1 24 (ix vq2)) - (1 : Int32))) (fun σ4 => ck vq2 6000 ((if (σ4.1 24 (ix vq2)) = 0 then (if (6000 : Int32) ≤ xq3 then f_X9_takeAway_72 L8 xq1 xq3 xq4 σ4 else ck xq3 6000 (nm (sI σ4 25 (ix xq3) vq2) (fun σ5 => nm (xq3 + (1 : Int32)) (fun vq6 => f_X9_takeAway_72 L8 xq1 vq6 xq4 σ5)))) else f_X9_takeAway_72 L8 xq1 xq3 xq4 σ4)))))))))
def f_X9_takeAway (aq0 : Int32) (aq1 : Int32) (σ : Mm) : Option (Int32 × Mm) :=
  nm (aq0 * (6 : Int32)) (fun vq1 => fx (fun _ _ _ => none) FU (f_X9_takeAway_L8  aq0) aq1 vq1 σ)
def f_X9_hasRound_50 (L15 : Int32 → Mm → Option (Int32 × Mm)) (xq1 : Int32) (σ : Mm) : Option (Int32 × Mm) :=
  nm (xq1 + (1 : Int32)) (fun vq3 => L15 vq3 σ)
def f_X9_hasRound_L15 (K56 : Mm → Option (Int32 × Mm))  (L15 : Int32 → Mm → Option (Int32 × Mm)) (xq1 : Int32) (σ : Mm) : Option (Int32 × Mm) :=
  (if ((σ.1 18 7) * (6 : Int32)) ≤ xq1 then K56 σ else ck xq1 36000 ((if (σ.1 23 (ix xq1)) < 0 then f_X9_hasRound_50 L15 xq1 σ else ck xq1 36000 (nm (σ.1 23 (ix xq1)) (fun vq4 => ck vq4 6000 (ck vq4 6000 (nm (sI σ 24 (ix vq4) ((σ.1 24 (ix vq4)) + (1 : Int32))) (fun σ5 => f_X9_hasRound_50 L15 xq1 σ5))))))))
def f_X9_hasRound_L85 (K116 : Int32 → Mm → Option (Int32 × Mm))  (L85 : Int32 → Int32 → Mm → Option (Int32 × Mm)) (xq1 : Int32) (xq2 : Int32) (σ : Mm) : Option (Int32 × Mm) :=
  (if (σ.1 18 7) ≤ xq2 then K116 xq1 σ else (if xq1 ≤ xq2 then K116 xq1 σ else ck xq2 6000 (bd (f_X9_takeAway (σ.1 25 (ix xq2)) xq1 σ) (fun rq7 σ6 => nm (xq2 + (1 : Int32)) (fun vq8 => L85 rq7 vq8 σ6)))))
def f_X9_hasRound_116 (xq1 : Int32) (σ : Mm) : Option (Int32 × Mm) :=
  (if (σ.1 18 7) ≤ xq1 then cb (0 : Int32) (some ((0 : Int32), σ)) else cb (1 : Int32) (some ((1 : Int32), σ)))
def f_X9_hasRound_83 (xq1 : Int32) (σ : Mm) : Option (Int32 × Mm) :=
  fx (fun _ _ _ => none) FU (f_X9_hasRound_L85 (fun (xq1 : Int32) (σ : Mm) => f_X9_hasRound_116 xq1 σ) ) xq1 (0 : Int32) σ
def f_X9_hasRound_56  (σ : Mm) : Option (Int32 × Mm) :=
  (if (σ.1 18 7) ≤ 0 then f_X9_hasRound_83 (0 : Int32) σ else ck (0 : Int32) 6000 ((if (σ.1 24 (ix (0 : Int32))) = 0 then ck (0 : Int32) 6000 (nm (sI σ 25 (ix (0 : Int32)) (0 : Int32)) (fun σ9 => f_X9_hasRound_83 (1 : Int32) σ9)) else f_X9_hasRound_83 (0 : Int32) σ)))
def f_X9_hasRound  (σ : Mm) : Option (Int32 × Mm) :=
  bd (f_J7_fill_fda19 (0 : Int32) (σ.1 18 7) (0 : Int32) σ) (fun rq2 σ1 => fx (fun _ _ => none) FU (f_X9_hasRound_L15 (fun  (σ : Mm) => f_X9_hasRound_56  σ) ) (0 : Int32) σ1)
def f_X10_feed (aq0 : Int32) (aq1 : Int32) (σ : Mm) : Option (Int32 × Mm) :=
  (if aq1 < (1 : Int32) then bd (f_X0_tell (0 : Int32) σ) (fun rq2 σ1 => some (rq2, σ1)) else (if aq1 ≤ (4 : Int32) then (if ((σ.1 4 1) + aq1) ≤ (120 : Int32) then bd (f_X8_append aq0 aq1 σ) (fun rq4 σ3 => some ((σ3.1 4 1), σ3)) else bd (f_X0_tell (1 : Int32) σ) (fun rq6 σ5 => some (rq6, σ5))) else bd (f_X0_tell (0 : Int32) σ) (fun rq8 σ7 => some (rq8, σ7))))
def f_X10_wipe  (σ : Mm) : Option (Int32 × Mm) :=
  nm (σ.1 4 1) (fun vq1 => nm (sI σ 4 1 (0 : Int32)) (fun σ2 => some (vq1, σ2)))
def f_X10_text  (σ : Mm) : Option (Int32 × Mm) :=
  (if (σ.1 7 0) < (6 : Int32) then bd (f_X3_faultOfNewCall σ) (fun rq2 σ1 => (if rq2 < 0 then nm (sI σ1 4 1 (0 : Int32)) (fun σ3 => bd (f_X7_forget σ3) (fun rq5 σ4 => some (((σ4.1 7 0) - (1 : Int32)), σ4))) else some (((-1 : Int32) - rq2), σ1))) else bd (f_X0_tell (1 : Int32) σ) (fun rq7 σ6 => some (rq7, σ6)))
def f_X10_steps (aq0 : Int32) (σ : Mm) : Option (Int32 × Mm) :=
  bd (f_X5_hasCall aq0 σ) (fun rq2 σ1 => (if rq2 = 0 then bd (f_X0_tell (0 : Int32) σ1) (fun rq4 σ3 => some (rq4, σ3)) else ck aq0 6 (some ((σ1.1 8 (ix aq0)), σ1))))
def f_X10_step (aq0 : Int32) (aq1 : Int32) (aq2 : Int32) (σ : Mm) : Option (Int32 × Mm) :=
  bd (f_X5_hasStep aq0 aq1 σ) (fun rq2 σ1 => (if rq2 = 0 then bd (f_X0_tell (0 : Int32) σ1) (fun rq4 σ3 => some (rq4, σ3)) else (if aq2 < 0 then bd (f_X0_tell (0 : Int32) σ1) (fun rq6 σ5 => some (rq6, σ5)) else (if aq2 < (5 : Int32) then bd (f_X5_partOf aq0 aq1 (0 : Int32) σ1) (fun rq8 σ7 => ck rq8 8 (nm (stV1 (ix rq8)) (fun vq9 => (if ((vq9 >>> (aq2 &&& 31)) &&& (1 : Int32)) = 0 then bd (f_X0_tell (2 : Int32) σ7) (fun rq13 σ12 => some (rq13, σ12)) else bd (f_X5_partOf aq0 aq1 aq2 σ7) (fun rq11 σ10 => some (rq11, σ10)))))) else bd (f_X0_tell (0 : Int32) σ1) (fun rq15 σ14 => some (rq15, σ14))))))
def f_X10_isUnder_L4 (xq1 : Int32) (L4 : Int32 → Int32 → Mm → Option (Int32 × Mm)) (xq2 : Int32) (xq3 : Int32) (σ : Mm) : Option (Int32 × Mm) :=
  (if (8 : Int32) ≤ xq3 then cb (0 : Int32) (some ((0 : Int32), σ)) else (if xq2 < 0 then cb (0 : Int32) (some ((0 : Int32), σ)) else (if xq2 = xq1 then cb (1 : Int32) (some ((1 : Int32), σ)) else ck xq2 8 (nm (stV0 (ix xq2)) (fun vq1 => nm (xq3 + (1 : Int32)) (fun vq2 => L4 vq1 vq2 σ))))))
def f_X10_isUnder (aq0 : Int32) (aq1 : Int32) (σ : Mm) : Option (Int32 × Mm) :=
  fx (fun _ _ _ => none) FU (f_X10_isUnder_L4  aq1) aq0 (0 : Int32) σ
def f_X10_as (aq0 : Int32) (aq1 : Int32) (aq2 : Int32) (σ : Mm) : Option (Int32 × Mm) :=
  bd (f_X5_hasStep aq0 aq1 σ) (fun rq2 σ1 => (if rq2 = 0 then bd (f_X0_tell (0 : Int32) σ1) (fun rq4 σ3 => some (rq4, σ3)) else (if aq2 < 0 then bd (f_X0_tell (0 : Int32) σ1) (fun rq6 σ5 => some (rq6, σ5)) else (if aq2 < (8 : Int32) then bd (f_X5_partOf aq0 aq1 (0 : Int32) σ1) (fun rq8 σ7 => bd (f_X10_isUnder rq8 aq2 σ7) (fun rq10 σ9 => (if rq10 = 0 then bd (f_X0_tell (2 : Int32) σ9) (fun rq12 σ11 => some (rq12, σ11)) else some (rq8, σ9)))) else bd (f_X0_tell (0 : Int32) σ1) (fun rq14 σ13 => some (rq14, σ13))))))
def f_X10_isValue_13  (σ : Mm) : Option (Int32 × Mm) :=
  cb (0 : Int32) (some ((0 : Int32), σ))
def f_X10_isValue (aq0 : Int32) (σ : Mm) : Option (Int32 × Mm) :=
  (if aq0 < 0 then f_X10_isValue_13  σ else (if (4 : Int32) ≤ aq0 then f_X10_isValue_13  σ else cb (1 : Int32) (some ((1 : Int32), σ))))
def f_X10_change (aq0 : Int32) (aq1 : Int32) (aq2 : Int32) (σ : Mm) : Option (Int32 × Mm) :=
  bd (f_X5_hasStep aq0 aq1 σ) (fun rq2 σ1 => (if rq2 = 0 then bd (f_X0_tell (0 : Int32) σ1) (fun rq4 σ3 => some (rq4, σ3)) else bd (f_X10_isValue aq2 σ1) (fun rq6 σ5 => (if rq6 = 0 then bd (f_X0_tell (0 : Int32) σ5) (fun rq18 σ17 => some (rq18, σ17)) else bd (f_X5_changeablePart aq0 aq1 σ5) (fun rq8 σ7 => (if 0 ≤ rq8 then bd (f_X5_partOf aq0 aq1 rq8 σ7) (fun rq10 σ9 => bd (f_X5_putPart aq0 aq1 rq8 aq2 σ9) (fun rq12 σ11 => bd (f_X7_forget σ11) (fun rq14 σ13 => some (rq10, σ13)))) else bd (f_X0_tell (2 : Int32) σ7) (fun rq16 σ15 => some (rq16, σ15))))))))
def f_X10_cell (aq0 : Int32) (aq1 : Int32) (σ : Mm) : Option (Int32 × Mm) :=
  (if aq0 < 0 then bd (f_X0_tell (0 : Int32) σ) (fun rq2 σ1 => some (rq2, σ1)) else (if (3 : Int32) ≤ aq0 then bd (f_X0_tell (0 : Int32) σ) (fun rq4 σ3 => some (rq4, σ3)) else bd (f_X10_isValue aq1 σ) (fun rq6 σ5 => (if rq6 = 0 then bd (f_X0_tell (0 : Int32) σ5) (fun rq12 σ11 => some (rq12, σ11)) else ck aq0 3 (nm (σ5.1 12 (ix aq0)) (fun vq7 => ck aq0 3 (nm (sI σ5 12 (ix aq0) aq1) (fun σ8 => bd (f_X7_forget σ8) (fun rq10 σ9 => some (vq7, σ9))))))))))
def f_X10_machine (aq0 : Int32) (σ : Mm) : Option (Int32 × Mm) :=
  (if aq0 < 0 then bd (f_X0_tell (0 : Int32) σ) (fun rq2 σ1 => some (rq2, σ1)) else (if aq0 ≤ (1 : Int32) then nm (σ.1 7 7) (fun vq3 => nm (sI σ 7 7 aq0) (fun σ4 => bd (f_X7_forget σ4) (fun rq6 σ5 => some (vq3, σ5)))) else bd (f_X0_tell (0 : Int32) σ) (fun rq8 σ7 => some (rq8, σ7))))
def f_X10_hand_36 (xq1 : Int32) (xq2 : Int32) (σ : Mm) : Option (Int32 × Mm) :=
  (if (σ.1 7 3) < (3 : Int32) then ck (σ.1 7 3) 3 (nm (sI σ 10 (ix (σ.1 7 3)) xq1) (fun σ5 => ck (σ5.1 7 3) 3 (nm (sI σ5 11 (ix (σ5.1 7 3)) xq2) (fun σ6 => nm (sI σ6 7 3 ((σ6.1 7 3) + (1 : Int32))) (fun σ7 => bd (f_X7_forget σ7) (fun rq9 σ8 => some (((σ8.1 7 3) - (1 : Int32)), σ8))))))) else bd (f_X0_tell (1 : Int32) σ) (fun rq11 σ10 => some (rq11, σ10)))
def f_X10_hand (aq0 : Int32) (aq1 : Int32) (σ : Mm) : Option (Int32 × Mm) :=
  bd (f_X5_hasCall aq0 σ) (fun rq2 σ1 => (if rq2 = 0 then bd (f_X0_tell (0 : Int32) σ1) (fun rq4 σ3 => some (rq4, σ3)) else (if aq1 = (-1 : Int32) then f_X10_hand_36 aq0 aq1 σ1 else bd (f_X5_hasCall aq1 σ1) (fun rq13 σ12 => (if rq13 = 0 then bd (f_X0_tell (0 : Int32) σ12) (fun rq15 σ14 => some (rq15, σ14)) else f_X10_hand_36 aq0 aq1 σ12)))))
def f_X10_clear  (σ : Mm) : Option (Int32 × Mm) :=
  nm (σ.1 7 3) (fun vq1 => nm (sI σ 7 3 (0 : Int32)) (fun σ2 => bd (f_X7_forget σ2) (fun rq4 σ3 => some (vq1, σ3))))
def f_X10_states  (σ : Mm) : Option (Int32 × Mm) :=
  bd (f_X7_isTooLarge σ) (fun rq2 σ1 => (if rq2 = 0 then some ((σ1.1 18 7), σ1) else bd (f_X0_tell (6 : Int32) σ1) (fun rq4 σ3 => some (rq4, σ3))))
def f_X10_ends  (σ : Mm) : Option (Int32 × Mm) :=
  bd (f_X7_isTooLarge σ) (fun rq2 σ1 => (if rq2 = 0 then some ((σ1.1 26 1), σ1) else bd (f_X0_tell (6 : Int32) σ1) (fun rq4 σ3 => some (rq4, σ3))))
def f_X10_result (aq0 : Int32) (σ : Mm) : Option (Int32 × Mm) :=
  (if 0 ≤ aq0 then bd (f_X7_isTooLarge σ) (fun rq2 σ1 => (if rq2 = 0 then (if (σ1.1 26 1) ≤ aq0 then bd (f_X0_tell (3 : Int32) σ1) (fun rq4 σ3 => some (rq4, σ3)) else ck aq0 6000 (some ((σ1.1 27 (ix aq0)), σ1))) else bd (f_X0_tell (6 : Int32) σ1) (fun rq6 σ5 => some (rq6, σ5)))) else bd (f_X0_tell (0 : Int32) σ) (fun rq8 σ7 => some (rq8, σ7)))
def f_X10_orders  (σ : Mm) : Option (Int32 × Mm) :=
  bd (f_X7_orderedResults σ) (fun rq2 σ1 => some ((σ1.1 28 1), σ1))
def f_X10_inOrder (aq0 : Int32) (σ : Mm) : Option (Int32 × Mm) :=
  (if 0 ≤ aq0 then bd (f_X7_orderedResults σ) (fun rq2 σ1 => (if (σ1.1 28 1) ≤ aq0 then bd (f_X0_tell (3 : Int32) σ1) (fun rq4 σ3 => some (rq4, σ3)) else ck aq0 90 (some ((σ1.1 29 (ix aq0)), σ1)))) else bd (f_X0_tell (0 : Int32) σ) (fun rq6 σ5 => some (rq6, σ5)))
def f_X10_bad  (σ : Mm) : Option (Int32 × Mm) :=
  bd (f_X7_isTooLarge σ) (fun rq2 σ1 => (if rq2 = 0 then bd (f_X7_orderedResults σ1) (fun rq4 σ3 => bd (f_X7_countBad σ3) (fun rq6 σ5 => some (rq6, σ5))) else bd (f_X0_tell (6 : Int32) σ1) (fun rq8 σ7 => some (rq8, σ7))))
def f_X10_worst  (σ : Mm) : Option (Int32 × Mm) :=
  bd (f_X7_isTooLarge σ) (fun rq2 σ1 => (if rq2 = 0 then bd (f_X7_orderedResults σ1) (fun rq4 σ3 => bd (f_X7_leastBad σ3) (fun rq6 σ5 => (if rq6 < 0 then bd (f_X0_tell (3 : Int32) σ5) (fun rq8 σ7 => some (rq8, σ7)) else some (rq6, σ5)))) else bd (f_X0_tell (6 : Int32) σ1) (fun rq10 σ9 => some (rq10, σ9))))
def f_X10_turn (aq0 : Int32) (σ : Mm) : Option (Int32 × Mm) :=
  (if (-1 : Int32) ≤ aq0 then bd (f_X7_isTooLarge σ) (fun rq2 σ1 => (if rq2 = 0 then bd (f_X7_walkToWorst σ1) (fun rq4 σ3 => (if rq4 < 0 then bd (f_X0_tell (3 : Int32) σ3) (fun rq6 σ5 => some (rq6, σ5)) else (if aq0 < rq4 then (if aq0 = (-1 : Int32) then some (rq4, σ3) else bd (f_X9_moveOnPath aq0 σ3) (fun rq8 σ7 => some (rq8, σ7))) else bd (f_X0_tell (3 : Int32) σ3) (fun rq10 σ9 => some (rq10, σ9))))) else bd (f_X0_tell (6 : Int32) σ1) (fun rq12 σ11 => some (rq12, σ11)))) else bd (f_X0_tell (0 : Int32) σ) (fun rq14 σ13 => some (rq14, σ13)))
def f_X10_stuck  (σ : Mm) : Option (Int32 × Mm) :=
  bd (f_X7_isTooLarge σ) (fun rq2 σ1 => (if rq2 = 0 then bd (f_X9_countStuck σ1) (fun rq4 σ3 => some (rq4, σ3)) else bd (f_X0_tell (6 : Int32) σ1) (fun rq6 σ5 => some (rq6, σ5))))
def f_X10_round  (σ : Mm) : Option (Int32 × Mm) :=
  bd (f_X7_isTooLarge σ) (fun rq2 σ1 => (if rq2 = 0 then bd (f_X9_hasRound σ1) (fun rq4 σ3 => (if rq4 = 0 then some ((0 : Int32), σ3) else some ((1 : Int32), σ3))) else bd (f_X0_tell (6 : Int32) σ1) (fun rq6 σ5 => some (rq6, σ5))))
def f_X10_heal (aq0 : Int32) (aq1 : Int32) (σ : Mm) : Option (Int32 × Mm) :=
  bd (f_X5_hasStep aq0 aq1 σ) (fun rq2 σ1 => (if rq2 = 0 then bd (f_X0_tell (0 : Int32) σ1) (fun rq12 σ11 => some (rq12, σ11)) else bd (f_X5_changeablePart aq0 aq1 σ1) (fun rq4 σ3 => (if 0 ≤ rq4 then bd (f_X7_healingValues aq0 aq1 rq4 σ3) (fun rq6 σ5 => (if rq6 < 0 then bd (f_X0_tell (6 : Int32) σ5) (fun rq8 σ7 => some (rq8, σ7)) else some (rq6, σ5))) else bd (f_X0_tell (2 : Int32) σ3) (fun rq10 σ9 => some (rq10, σ9))))))
def f_X10_fences  (σ : Mm) : Option (Int32 × Mm) :=
  bd (f_X7_fewestFences σ) (fun rq2 σ1 => (if rq2 = (-2 : Int32) then bd (f_X0_tell (6 : Int32) σ1) (fun rq6 σ5 => some (rq6, σ5)) else (if rq2 < 0 then bd (f_X0_tell (3 : Int32) σ1) (fun rq4 σ3 => some (rq4, σ3)) else some (rq2, σ1))))
def f_X10_isSheet_13  (σ : Mm) : Option (Int32 × Mm) :=
  cb (0 : Int32) (some ((0 : Int32), σ))
def f_X10_isSheet (aq0 : Int32) (σ : Mm) : Option (Int32 × Mm) :=
  (if aq0 < 0 then f_X10_isSheet_13  σ else (if (4 : Int32) ≤ aq0 then f_X10_isSheet_13  σ else cb (1 : Int32) (some ((1 : Int32), σ))))
def f_X10_findingOfTurn (aq0 : Int32) (σ : Mm) : Option (Int32 × Mm) :=
  bd (f_X10_isSheet aq0 σ) (fun rq2 σ1 => (if rq2 = 0 then some ((0 : Int32), σ1) else ck aq0 4 ((if (σ1.1 ((shI aq0)) 0) = 0 then some ((5 : Int32), σ1) else bd (f_X1_load (0 : Int64) σ1) (fun rq5 σ4 => ck aq0 4 (bd (f_X2_through (shI aq0) σ4) (fun rq8 σ7 => ck aq0 4 ((if (σ7.1 ((shI aq0)) 1) ≤ (σ7.1 37 2) then some ((-1 : Int32), σ7) else some ((4 : Int32), σ7))))))))))
def f_X10_cost (aq0 : Int32) (σ : Mm) : Option (Int32 × Mm) :=
  bd (f_X10_findingOfTurn aq0 σ) (fun rq2 σ1 => (if 0 ≤ rq2 then bd (f_X0_tell rq2 σ1) (fun rq4 σ3 => some (rq4, σ3)) else some ((σ1.1 37 3), σ1)))
def f_X10_played (aq0 : Int32) (σ : Mm) : Option (Int32 × Mm) :=
  bd (f_X10_findingOfTurn aq0 σ) (fun rq2 σ1 => (if rq2 < 0 then some ((σ1.1 37 2), σ1) else (if rq2 = (4 : Int32) then some ((σ1.1 37 2), σ1) else bd (f_X0_tell rq2 σ1) (fun rq4 σ3 => some (rq4, σ3)))))
def f_X10_judge (aq0 : Int32) (σ : Mm) : Option (Int32 × Mm) :=
  bd (f_X10_findingOfTurn aq0 σ) (fun rq2 σ1 => (if rq2 < 0 then bd (f_X1_isEnd (σ1.2 37 1) σ1) (fun rq4 σ3 => (if rq4 = 0 then some ((2 : Int32), σ3) else bd (f_X7_orderedResults σ3) (fun rq6 σ5 => bd (f_X1_resultOf (σ5.2 37 1) σ5) (fun rq8 σ7 => bd (f_X4_holds rq8 σ7) (fun rq10 σ9 => (if rq10 = 0 then some ((1 : Int32), σ9) else some ((0 : Int32), σ9))))))) else bd (f_X0_tell rq2 σ1) (fun rq12 σ11 => some (rq12, σ11))))
def f_X10_moves (aq0 : Int32) (σ : Mm) : Option (Int32 × Mm) :=
  bd (f_X10_findingOfTurn aq0 σ) (fun rq2 σ1 => (if 0 ≤ rq2 then bd (f_X0_tell rq2 σ1) (fun rq4 σ3 => some (rq4, σ3)) else bd (f_X1_possible (σ1.2 37 1) σ1) (fun rq6 σ5 => some (rq6, σ5))))
def f_X10_after_74 (xq1 : Int32) (xq2 : Int32) (xq3 : Int32) (xq4 : Int32) (σ : Mm) : Option (Int32 × Mm) :=
  bd (f_X10_findingOfTurn xq1 σ) (fun rq3 σ2 => (if rq3 < 0 then (if xq4 = 0 then bd (f_X1_aboutHand (σ2.2 37 1) xq3 (irm xq2 (10 : Int32)) σ2) (fun rq5 σ4 => some (rq5, σ4)) else bd (f_X1_valueIn (σ2.2 37 1) xq2 σ2) (fun rq7 σ6 => some (rq7, σ6))) else bd (f_X0_tell rq3 σ2) (fun rq9 σ8 => some (rq9, σ8))))
def f_X10_after_53 (xq1 : Int32) (xq2 : Int32) (xq3 : Int32) (xq4 : Int32) (xqs0 : Int32) (σ : Mm) : Option (Int32 × Mm) :=
  (if xq4 = 0 then (if xqs0 = 0 then bd (f_X0_tell (0 : Int32) σ) (fun rq11 σ10 => some (rq11, σ10)) else f_X10_after_74 xq1 xq2 xq3 xq4 σ) else f_X10_after_74 xq1 xq2 xq3 xq4 σ)
def f_X10_after_52 (xq1 : Int32) (xq2 : Int32) (xq3 : Int32) (xq4 : Int32) (σ : Mm) : Option (Int32 × Mm) :=
  f_X10_after_53 xq1 xq2 xq3 xq4 (0 : Int32) σ
def f_X10_after_21 (xq1 : Int32) (xq2 : Int32) (xq3 : Int32) (xqs0 : Int32) (σ : Mm) : Option (Int32 × Mm) :=
  (if xq2 < (10 : Int32) then f_X10_after_52 xq1 xq2 xq3 xqs0 σ else (if (σ.1 7 3) ≤ xq3 then f_X10_after_52 xq1 xq2 xq3 xqs0 σ else (if (4 : Int32) < (irm xq2 (10 : Int32)) then f_X10_after_52 xq1 xq2 xq3 xqs0 σ else f_X10_after_53 xq1 xq2 xq3 xqs0 (1 : Int32) σ)))
def f_X10_after_20 (xq1 : Int32) (xq2 : Int32) (xq3 : Int32) (σ : Mm) : Option (Int32 × Mm) :=
  f_X10_after_21 xq1 xq2 xq3 (0 : Int32) σ
def f_X10_after (aq0 : Int32) (aq1 : Int32) (σ : Mm) : Option (Int32 × Mm) :=
  nm ((aq1 / (10 : Int32)) - (1 : Int32)) (fun vq1 => (if aq1 < 0 then f_X10_after_20 aq0 aq1 vq1 σ else (if (3 : Int32) ≤ aq1 then f_X10_after_20 aq0 aq1 vq1 σ else f_X10_after_21 aq0 aq1 vq1 (1 : Int32) σ)))
def f_X10_sheet_38 (xq1 : Int32) (xq2 : Int32) (xq3 : Int32) (σ : Mm) : Option (Int32 × Mm) :=
  (if 0 ≤ xq3 then (if xq3 ≤ (40 : Int32) then ck xq1 4 ((if xq2 = 0 then bd (f_X6_begin (shI xq1) xq2 (0 : Int32) σ) (fun rq10 σ9 => ck xq1 4 (some ((σ9.1 ((shI xq1)) 1), σ9))) else bd (f_X6_begin (shI xq1) xq2 xq3 σ) (fun rq7 σ6 => ck xq1 4 (some ((σ6.1 ((shI xq1)) 1), σ6))))) else bd (f_X0_tell (0 : Int32) σ) (fun rq13 σ12 => some (rq13, σ12))) else bd (f_X0_tell (6 : Int32) σ) (fun rq15 σ14 => some (rq15, σ14)))
def f_X10_sheet (aq0 : Int32) (aq1 : Int32) (aq2 : Int32) (σ : Mm) : Option (Int32 × Mm) :=
  bd (f_X10_isSheet aq0 σ) (fun rq2 σ1 => (if rq2 = 0 then bd (f_X0_tell (0 : Int32) σ1) (fun rq4 σ3 => some (rq4, σ3)) else (if aq1 = 0 then f_X10_sheet_38 aq0 aq1 aq2 σ1 else (if aq1 = (8 : Int32) then f_X10_sheet_38 aq0 aq1 aq2 σ1 else (if aq1 = (16 : Int32) then f_X10_sheet_38 aq0 aq1 aq2 σ1 else (if aq1 = (64 : Int32) then f_X10_sheet_38 aq0 aq1 aq2 σ1 else bd (f_X0_tell (0 : Int32) σ1) (fun rq17 σ16 => some (rq17, σ16))))))))
def f_X10_write (aq0 : Int32) (aq1 : Int32) (aq2 : Int64) (σ : Mm) : Option (Int64 × Mm) :=
  bd (f_X10_isSheet aq0 σ) (fun rq2 σ1 => (if rq2 = 0 then bd (f_X0_tell (0 : Int32) σ1) (fun rq17 σ16 => some (((rq17).toInt64), σ16)) else ck aq0 4 ((if (σ1.1 ((shI aq0)) 0) = 0 then bd (f_X0_tell (5 : Int32) σ1) (fun rq15 σ14 => some (((rq15).toInt64), σ14)) else (if aq1 < 0 then bd (f_X0_tell (0 : Int32) σ1) (fun rq5 σ4 => some (((rq5).toInt64), σ4)) else ck aq0 4 ((if aq1 < (σ1.1 ((shI aq0)) 1) then ck aq0 4 (ck aq1 40 (nm (σ1.2 ((shI aq0) + 1) (ix aq1)) (fun vq8 => ck aq0 4 (bd (f_X6_put (shI aq0) aq1 aq2 σ1) (fun rq11 σ10 => some (vq8, σ10)))))) else bd (f_X0_tell (0 : Int32) σ1) (fun rq13 σ12 => some (((rq13).toInt64), σ12)))))))))
def f_X10_copy (aq0 : Int32) (aq1 : Int32) (aq2 : Int32) (aq3 : Int32) (aq4 : Int32) (σ : Mm) : Option (Int32 × Mm) :=
  bd (f_X10_isSheet aq0 σ) (fun rq2 σ1 => (if rq2 = 0 then bd (f_X0_tell (0 : Int32) σ1) (fun rq4 σ3 => some (rq4, σ3)) else bd (f_X10_isSheet aq2 σ1) (fun rq6 σ5 => (if rq6 = 0 then bd (f_X0_tell (0 : Int32) σ5) (fun rq25 σ24 => some (rq25, σ24)) else ck aq0 4 (ck aq2 4 ((if (σ5.1 ((shI aq0)) 0) = 0 then bd (f_X0_tell (5 : Int32) σ5) (fun rq10 σ9 => some (rq10, σ9)) else (if (σ5.1 ((shI aq2)) 0) = 0 then bd (f_X0_tell (5 : Int32) σ5) (fun rq23 σ22 => some (rq23, σ22)) else (if (σ5.1 ((shI aq0)) 0) = (σ5.1 ((shI aq2)) 0) then bd (f_X6_hasRange (shI aq0) aq1 aq4 σ5) (fun rq12 σ11 => (if rq12 = 0 then bd (f_X0_tell (0 : Int32) σ11) (fun rq14 σ13 => some (rq14, σ13)) else bd (f_X6_hasRange (shI aq2) aq3 aq4 σ11) (fun rq16 σ15 => (if rq16 = 0 then bd (f_X0_tell (0 : Int32) σ15) (fun rq19 σ18 => some (rq19, σ18)) else cpy 40 40 aq1 aq3 aq4 (nm (sQ σ15 ((shI aq2) + 1) (va_cpy (σ15.2 ((shI aq0) + 1)) (σ15.2 ((shI aq2) + 1)) (ix aq1) (ix aq3) (ix aq4))) (fun σ17 => some (aq4, σ17))))))) else bd (f_X0_tell (2 : Int32) σ5) (fun rq21 σ20 => some (rq21, σ20)))))))))))
def f_X10_lead_L86 (xq1 : Int32) (xq2 : Int32) (L86 : Int32 → Mm → Option (Int32 × Mm)) (xq3 : Int32) (σ : Mm) : Option (Int32 × Mm) :=
  (if xq2 ≤ xq3 then some (xq2, σ) else ck xq1 4 (bd (f_X9_moveOnPath xq3 σ) (fun rq12 σ11 => bd (f_X6_put (shI xq1) xq3 ((rq12).toInt64) σ11) (fun rq14 σ13 => nm (xq3 + (1 : Int32)) (fun vq15 => L86 vq15 σ13)))))
def f_X10_lead (aq0 : Int32) (σ : Mm) : Option (Int32 × Mm) :=
  bd (f_X10_isSheet aq0 σ) (fun rq2 σ1 => (if rq2 = 0 then bd (f_X0_tell (0 : Int32) σ1) (fun rq23 σ22 => some (rq23, σ22)) else bd (f_X7_isTooLarge σ1) (fun rq4 σ3 => (if rq4 = 0 then bd (f_X7_walkToWorst σ3) (fun rq6 σ5 => (if 0 ≤ rq6 then (if rq6 ≤ (40 : Int32) then ck aq0 4 (bd (f_X6_begin (shI aq0) (8 : Int32) rq6 σ5) (fun rq9 σ8 => fx (fun _ _ => none) FU (f_X10_lead_L86  aq0 rq6) (0 : Int32) σ8)) else bd (f_X0_tell (1 : Int32) σ5) (fun rq17 σ16 => some (rq17, σ16))) else bd (f_X0_tell (3 : Int32) σ5) (fun rq19 σ18 => some (rq19, σ18)))) else bd (f_X0_tell (6 : Int32) σ3) (fun rq21 σ20 => some (rq21, σ20))))))
def f_X10_image  (σ : Mm) : Option (Int32 × Mm) :=
  bd (f_X5_takeFrom 31 7 σ) (fun rq2 σ1 => cb (1 : Int32) (nm (sI σ1 0 6 (1 : Int32)) (fun σ3 => some ((1 : Int32), σ3))))
def f_X10_undo  (σ : Mm) : Option (Int32 × Mm) :=
  (if (σ.1 0 6) = 0 then bd (f_X0_tell (3 : Int32) σ) (fun rq6 σ5 => some (rq6, σ5)) else bd (f_X5_takeFrom 7 31 σ) (fun rq2 σ1 => bd (f_X7_forget σ1) (fun rq4 σ3 => some ((σ3.1 7 0), σ3))))
def f_X10_tear  (σ : Mm) : Option (Int32 × Mm) :=
  (if (σ.1 0 6) = 0 then cb (0 : Int32) (nm (sI σ 0 6 (0 : Int32)) (fun σ1 => some ((0 : Int32), σ1))) else cb (0 : Int32) (nm (sI σ 0 6 (0 : Int32)) (fun σ2 => some ((1 : Int32), σ2))))
def f_X10_look (aq0 : Int32) (σ : Mm) : Option (Int32 × Mm) :=
  (if aq0 = (0 : Int32) then some ((σ.1 7 0), σ) else (if aq0 = (1 : Int32) then some ((σ.1 7 3), σ) else (if aq0 = (2 : Int32) then some ((σ.1 7 7), σ) else (if aq0 = (3 : Int32) then ck (aq0 - (3 : Int32)) 3 (some ((σ.1 12 (ix (aq0 - (3 : Int32)))), σ)) else (if aq0 = (4 : Int32) then ck (aq0 - (3 : Int32)) 3 (some ((σ.1 12 (ix (aq0 - (3 : Int32)))), σ)) else (if aq0 = (5 : Int32) then ck (aq0 - (3 : Int32)) 3 (some ((σ.1 12 (ix (aq0 - (3 : Int32)))), σ)) else (if aq0 = (6 : Int32) then some ((σ.1 4 1), σ) else bd (f_X0_tell (0 : Int32) σ) (fun rq9 σ8 => some (rq9, σ8)))))))))
def f_X10_status (aq0 : Int32) (σ : Mm) : Option (Int32 × Mm) :=
  (if aq0 < (-1 : Int32) then bd (f_X0_tell (0 : Int32) σ) (fun rq2 σ1 => some (rq2, σ1)) else (if aq0 ≤ (6 : Int32) then (if aq0 = (-1 : Int32) then some ((σ.1 1 1), σ) else ck aq0 7 (some ((σ.1 2 (ix aq0)), σ))) else bd (f_X0_tell (0 : Int32) σ) (fun rq4 σ3 => some (rq4, σ3))))
def f_X11_finds (aq0 : Int32) (σ : Mm) : Option (Int32 × Mm) :=
  nm ((-1000000001 : Int32) - aq0) (fun vq1 => ck vq1 7 (ck vq1 7 (nm (sI σ 59 (ix vq1) ((σ.1 59 (ix vq1)) + (1 : Int32))) (fun σ2 => some (aq0, σ2)))))
def f_X11_in_14  (σ : Mm) : Option (Int32 × Mm) :=
  cb (0 : Int32) (some ((0 : Int32), σ))
def f_X11_in (aq0 : Int32) (aq1 : Int32) (aq2 : Int32) (σ : Mm) : Option (Int32 × Mm) :=
  (if aq0 < aq1 then f_X11_in_14  σ else (if aq2 < aq0 then f_X11_in_14  σ else cb (1 : Int32) (some ((1 : Int32), σ))))
def f_X11_isCall (aq0 : Int32) (σ : Mm) : Option (Int32 × Mm) :=
  bd (f_X11_in aq0 (0 : Int32) ((σ.1 48 0) - (1 : Int32)) σ) (fun rq2 σ1 => cb rq2 (some (rq2, σ1)))
def f_X11_isStep_28  (σ : Mm) : Option (Int32 × Mm) :=
  cb (0 : Int32) (some ((0 : Int32), σ))
def f_X11_isStep (aq0 : Int32) (aq1 : Int32) (σ : Mm) : Option (Int32 × Mm) :=
  bd (f_X11_isCall aq0 σ) (fun rq2 σ1 => (if rq2 = 0 then f_X11_isStep_28  σ1 else ck aq0 6 (bd (f_X11_in aq1 (0 : Int32) ((σ1.1 49 (ix aq0)) - (1 : Int32)) σ1) (fun rq4 σ3 => (if rq4 = 0 then f_X11_isStep_28  σ3 else cb (1 : Int32) (some ((1 : Int32), σ3)))))))
def f_X11_feed_L38 (xq1 : Int32) (L38 : Int32 → Mm → Option (Int32 × Mm)) (xq3 : Int32) (σ : Mm) : Option (Int32 × Mm) :=
  (if xq3 < 0 then some ((σ.1 48 13), σ) else ck (σ.1 48 13) 120 (nm (sI σ 58 (ix (σ.1 48 13)) ((xq1 >>> (((8 : Int32) * xq3) &&& 31)) &&& (255 : Int32))) (fun σ4 => nm (sI σ4 48 13 ((σ4.1 48 13) + (1 : Int32))) (fun σ5 => nm (xq3 + (-1 : Int32)) (fun vq6 => L38 vq6 σ5)))))
def f_X11_feed (aq0 : Int32) (aq1 : Int32) (σ : Mm) : Option (Int32 × Mm) :=
  bd (f_X11_in aq1 (1 : Int32) (4 : Int32) σ) (fun rq2 σ1 => (if rq2 = 0 then bd (f_X11_finds (-1000000001 : Int32) σ1) (fun rq10 σ9 => some (rq10, σ9)) else (if ((σ1.1 48 13) + aq1) ≤ (120 : Int32) then nm (aq1 - (1 : Int32)) (fun vq3 => fx (fun _ _ => none) FU (f_X11_feed_L38  aq0) vq3 σ1) else bd (f_X11_finds (-1000000002 : Int32) σ1) (fun rq8 σ7 => some (rq8, σ7)))))
def f_X11_wipe  (σ : Mm) : Option (Int32 × Mm) :=
  nm (σ.1 48 13) (fun vq1 => nm (sI σ 48 13 (0 : Int32)) (fun σ2 => some (vq1, σ2)))
def f_X11_packed_81 (xq4 : Int32) (xqs0 : Int64) (σ : Mm) : Option (Int64 × Mm) :=
  (if xq4 = 0 then some (xqs0, σ) else some ((((256 : Int64) * xqs0) + ((xq4).toInt64)), σ))
def f_X11_packed_61 (xq3 : Int32) (xq4 : Int32) (xqs0 : Int64) (σ : Mm) : Option (Int64 × Mm) :=
  (if xq3 = 0 then f_X11_packed_81 xq4 xqs0 σ else f_X11_packed_81 xq4 (((256 : Int64) * xqs0) + ((xq3).toInt64)) σ)
def f_X11_packed_41 (xq2 : Int32) (xq3 : Int32) (xq4 : Int32) (xqs0 : Int64) (σ : Mm) : Option (Int64 × Mm) :=
  (if xq2 = 0 then f_X11_packed_61 xq3 xq4 xqs0 σ else f_X11_packed_61 xq3 xq4 (((256 : Int64) * xqs0) + ((xq2).toInt64)) σ)
def f_X11_packed_21 (xq1 : Int32) (xq2 : Int32) (xq3 : Int32) (xq4 : Int32) (xqs0 : Int64) (σ : Mm) : Option (Int64 × Mm) :=
  (if xq1 = 0 then f_X11_packed_41 xq2 xq3 xq4 xqs0 σ else f_X11_packed_41 xq2 xq3 xq4 (((256 : Int64) * xqs0) + ((xq1).toInt64)) σ)
def f_X11_packed (aq0 : Int32) (aq1 : Int32) (aq2 : Int32) (aq3 : Int32) (aq4 : Int32) (σ : Mm) : Option (Int64 × Mm) :=
  (if aq0 = 0 then f_X11_packed_21 aq1 aq2 aq3 aq4 (0 : Int64) σ else f_X11_packed_21 aq1 aq2 aq3 aq4 (((256 : Int64) * (0 : Int64)) + ((aq0).toInt64)) σ)
def f_X11_byteAt (aq0 : Int32) (σ : Mm) : Option (Int32 × Mm) :=
  (if (σ.1 48 13) ≤ aq0 then some ((-1 : Int32), σ) else ck aq0 120 (some ((σ.1 58 (ix aq0)), σ)))
def f_X11_isLetter (aq0 : Int32) (σ : Mm) : Option (Int32 × Mm) :=
  bd (f_X11_byteAt aq0 σ) (fun rq2 σ1 => bd (f_X11_in rq2 (97 : Int32) (122 : Int32) σ1) (fun rq4 σ3 => cb rq4 (some (rq4, σ3))))
def f_X11_isDigit (aq0 : Int32) (σ : Mm) : Option (Int32 × Mm) :=
  bd (f_X11_byteAt aq0 σ) (fun rq2 σ1 => bd (f_X11_in rq2 (48 : Int32) (57 : Int32) σ1) (fun rq4 σ3 => cb rq4 (some (rq4, σ3))))
def f_X11_next_L0 (K26 : Mm → Option (Unit × Mm))  (L0 : Mm → Option (Unit × Mm))  (σ : Mm) : Option (Unit × Mm) :=
  bd (f_X11_byteAt (σ.1 48 24) σ) (fun rq2 σ1 => (if rq2 = (32 : Int32) then nm (sI σ1 48 24 ((σ1.1 48 24) + (1 : Int32))) (fun σ3 => L0 σ3) else K26 σ1))
def f_X11_next_288 (xqs1 : Int32) (σ : Mm) : Option (Unit × Mm) :=
  nm (sI σ 48 26 xqs1) (fun σ12 => nm (sI σ12 48 24 ((σ12.1 48 24) + (1 : Int32))) (fun σ13 => some ((), σ13)))
def f_X11_next_245 (L197 : Mm → Option (Unit × Mm)) (xqs1 : Int32) (σ : Mm) : Option (Unit × Mm) :=
  nm (sI σ 48 27 xqs1) (fun σ17 => nm (sI σ17 48 24 ((σ17.1 48 24) + (1 : Int32))) (fun σ18 => L197 σ18))
def f_X11_next_L197  (L197 : Mm → Option (Unit × Mm))  (σ : Mm) : Option (Unit × Mm) :=
  bd (f_X11_isDigit (σ.1 48 24) σ) (fun rq15 σ14 => (if rq15 = 0 then nm (sI σ14 48 26 (2 : Int32)) (fun σ16 => some ((), σ16)) else (if (1000 : Int32) ≤ (σ14.1 48 27) then f_X11_next_245 L197 (σ14.1 48 27) σ14 else bd (f_X11_byteAt (σ14.1 48 24) σ14) (fun rq20 σ19 => f_X11_next_245 L197 ((((10 : Int32) * (σ14.1 48 27)) + rq20) - (48 : Int32)) σ19))))
def f_X11_next_109 (L73 : Int64 → Int32 → Mm → Option (Unit × Mm)) (xq3 : Int32) (xqs0 : Int64) (σ : Mm) : Option (Unit × Mm) :=
  nm (xq3 + (1 : Int32)) (fun vq23 => nm (sI σ 48 24 ((σ.1 48 24) + (1 : Int32))) (fun σ24 => L73 xqs0 vq23 σ24))
def f_X11_next_L73 (K126 : Int64 → Int32 → Mm → Option (Unit × Mm))  (L73 : Int64 → Int32 → Mm → Option (Unit × Mm)) (xq1 : Int64) (xq3 : Int32) (σ : Mm) : Option (Unit × Mm) :=
  bd (f_X11_isLetter (σ.1 48 24) σ) (fun rq22 σ21 => (if rq22 = 0 then K126 xq1 xq3 σ21 else (if (6 : Int32) ≤ xq3 then f_X11_next_109 L73 xq3 xq1 σ21 else bd (f_X11_byteAt (σ21.1 48 24) σ21) (fun rq26 σ25 => f_X11_next_109 L73 xq3 (((256 : Int64) * xq1) + ((rq26).toInt64)) σ25))))
def f_X11_next_174 (L139 : Int32 → Mm → Option (Unit × Mm)) (xq1 : Int64) (xq3 : Int32) (xq4 : Int32) (xqs1 : Int32) (σ : Mm) : Option (Unit × Mm) :=
  nm (sI σ 48 27 xqs1) (fun σ29 => nm (xq4 + (1 : Int32)) (fun vq30 => L139 vq30 σ29))
def f_X11_next_170 (L139 : Int32 → Mm → Option (Unit × Mm)) (xq1 : Int64) (xq3 : Int32) (xq4 : Int32) (σ : Mm) : Option (Unit × Mm) :=
  f_X11_next_174 L139 xq1 xq3 xq4 (σ.1 48 27) σ
def f_X11_next_L139 (xq1 : Int64) (xq3 : Int32) (L139 : Int32 → Mm → Option (Unit × Mm)) (xq4 : Int32) (σ : Mm) : Option (Unit × Mm) :=
  (if (9 : Int32) ≤ xq4 then some ((), σ) else (if (6 : Int32) ≤ xq3 then f_X11_next_170 L139 xq1 xq3 xq4 σ else ck xq4 9 ((if (lg_cmp (σ.2 65 (ix xq4)) xq1) = 0 then f_X11_next_174 L139 xq1 xq3 xq4 xq4 σ else f_X11_next_170 L139 xq1 xq3 xq4 σ))))
def f_X11_next_126 (xq1 : Int64) (xq3 : Int32) (σ : Mm) : Option (Unit × Mm) :=
  nm (sI σ 48 26 (1 : Int32)) (fun σ27 => nm (sI σ27 48 27 (-1 : Int32)) (fun σ28 => fx (fun _ _ => none) FU (f_X11_next_L139  xq1 xq3) (0 : Int32) σ28))
def f_X11_next_26  (σ : Mm) : Option (Unit × Mm) :=
  nm (sI σ 48 25 (σ.1 48 24)) (fun σ4 => nm (sI σ4 48 27 (0 : Int32)) (fun σ5 => (if (σ5.1 48 24) = (σ5.1 48 13) then nm (sI σ5 48 26 (0 : Int32)) (fun σ31 => some ((), σ31)) else bd (f_X11_isLetter (σ5.1 48 24) σ5) (fun rq7 σ6 => (if rq7 = 0 then bd (f_X11_isDigit (σ6.1 48 24) σ6) (fun rq9 σ8 => (if rq9 = 0 then bd (f_X11_byteAt (σ8.1 48 24) σ8) (fun rq11 σ10 => (if rq11 = (59 : Int32) then f_X11_next_288 (3 : Int32) σ10 else f_X11_next_288 (4 : Int32) σ10)) else fx (fun _ => none) FU (f_X11_next_L197  )  σ8)) else fx (fun _ _ _ => none) FU (f_X11_next_L73 (fun (xq1 : Int64) (xq3 : Int32) (σ : Mm) => f_X11_next_126 xq1 xq3 σ) ) (0 : Int64) (0 : Int32) σ6)))))
def f_X11_next  (σ : Mm) : Option (Unit × Mm) :=
  fx (fun _ => none) FU (f_X11_next_L0 (fun  (σ : Mm) => f_X11_next_26  σ) )  σ
def f_X11_wrong  (σ : Mm) : Option (Unit × Mm) :=
  (if 0 ≤ (σ.1 48 28) then nm (sI σ 48 28 (σ.1 48 28)) (fun σ1 => some ((), σ1)) else nm (sI σ 48 28 (σ.1 48 25)) (fun σ2 => some ((), σ2)))
def f_X11_number (aq0 : Int32) (σ : Mm) : Option (Int32 × Mm) :=
  (if (σ.1 48 28) < 0 then (if (σ.1 48 26) = (2 : Int32) then (if (σ.1 48 27) ≤ aq0 then nm (σ.1 48 27) (fun vq3 => bd (f_X11_next σ) (fun rq5 σ4 => some (vq3, σ4))) else bd (f_X11_wrong σ) (fun rq7 σ6 => some ((0 : Int32), σ6))) else bd (f_X11_wrong σ) (fun rq2 σ1 => some ((0 : Int32), σ1))) else some ((0 : Int32), σ))
def f_X11_readStep_207 (xq1 : Int32) (xq2 : Int32) (xq3 : Int32) (xqs1 : Int32) (xqs2 : Int32) (σ : Mm) : Option (Unit × Mm) :=
  ck xqs1 42 (nm (sI σ 53 (ix xqs1) xqs2) (fun σ14 => (if xq3 = (8 : Int32) then bd (f_X11_number xq1 σ14) (fun rq17 σ16 => ck xq2 42 (nm (sI σ16 54 (ix xq2) rq17) (fun σ18 => some ((), σ18)))) else ck xq2 42 (nm (sI σ14 54 (ix xq2) (0 : Int32)) (fun σ15 => some ((), σ15))))))
def f_X11_readStep_187 (xq1 : Int32) (xq2 : Int32) (xq3 : Int32) (xqs1 : Int32) (xqs2 : Int32) (σ : Mm) : Option (Unit × Mm) :=
  ck xqs1 42 (nm (sI σ 52 (ix xqs1) xqs2) (fun σ13 => (if xq3 = (3 : Int32) then bd (f_X11_number (3 : Int32) σ13) (fun rq20 σ19 => f_X11_readStep_207 xq1 xq2 xq3 xq2 rq20 σ19) else f_X11_readStep_207 xq1 xq2 xq3 xq2 (0 : Int32) σ13)))
def f_X11_readStep_178 (xq1 : Int32) (xq2 : Int32) (xq3 : Int32) (xqs1 : Int32) (σ : Mm) : Option (Unit × Mm) :=
  bd (f_X11_number (3 : Int32) σ) (fun rq12 σ11 => f_X11_readStep_187 xq1 xq2 xq3 xqs1 rq12 σ11)
def f_X11_readStep_142 (xq1 : Int32) (xq2 : Int32) (xq3 : Int32) (xqs1 : Int32) (xqs2 : Int32) (σ : Mm) : Option (Unit × Mm) :=
  ck xqs1 42 (nm (sI σ 51 (ix xqs1) xqs2) (fun σ10 => (if xq3 = (1 : Int32) then f_X11_readStep_187 xq1 xq2 xq3 xq2 (-1 : Int32) σ10 else (if xq3 = (2 : Int32) then f_X11_readStep_178 xq1 xq2 xq3 xq2 σ10 else (if xq3 = (3 : Int32) then f_X11_readStep_178 xq1 xq2 xq3 xq2 σ10 else (if xq3 = (4 : Int32) then f_X11_readStep_178 xq1 xq2 xq3 xq2 σ10 else (if xq3 = (6 : Int32) then f_X11_readStep_178 xq1 xq2 xq3 xq2 σ10 else f_X11_readStep_187 xq1 xq2 xq3 xq2 (0 : Int32) σ10)))))))
def f_X11_readStep_122 (xq1 : Int32) (xq2 : Int32) (xq3 : Int32) (xqs1 : Int32) (xqs2 : Int32) (σ : Mm) : Option (Unit × Mm) :=
  ck xqs1 42 (nm (sI σ 50 (ix xqs1) xqs2) (fun σ9 => (if (4 : Int32) < xq3 then f_X11_readStep_142 xq1 xq2 xq3 xq2 (0 : Int32) σ9 else bd (f_X11_number (2 : Int32) σ9) (fun rq22 σ21 => f_X11_readStep_142 xq1 xq2 xq3 xq2 rq22 σ21))))
def f_X11_readStep_68 (xq1 : Int32) (xq2 : Int32) (xq3 : Int32) (xqs1 : Int32) (σ : Mm) : Option (Unit × Mm) :=
  f_X11_readStep_122 xq1 xq2 xq3 xqs1 (2 : Int32) σ
def f_X11_readStep (aq0 : Int32) (σ : Mm) : Option (Unit × Mm) :=
  (if (σ.1 48 26) = (1 : Int32) then (if (σ.1 48 27) < 0 then bd (f_X11_wrong σ) (fun rq4 σ3 => some ((), σ3)) else (if aq0 = (7 : Int32) then bd (f_X11_wrong σ) (fun rq24 σ23 => some ((), σ23)) else nm (((7 : Int32) * (σ.1 48 0)) + aq0) (fun vq5 => nm (σ.1 48 27) (fun vq6 => bd (f_X11_next σ) (fun rq8 σ7 => (if vq6 = 0 then f_X11_readStep_122 aq0 vq5 vq6 vq5 (1 : Int32) σ7 else (if vq6 = (1 : Int32) then f_X11_readStep_68 aq0 vq5 vq6 vq5 σ7 else (if vq6 = (2 : Int32) then f_X11_readStep_68 aq0 vq5 vq6 vq5 σ7 else (if vq6 = (3 : Int32) then f_X11_readStep_122 aq0 vq5 vq6 vq5 (3 : Int32) σ7 else (if vq6 = (4 : Int32) then f_X11_readStep_122 aq0 vq5 vq6 vq5 (4 : Int32) σ7 else (if vq6 = (5 : Int32) then f_X11_readStep_122 aq0 vq5 vq6 vq5 (5 : Int32) σ7 else (if vq6 = (6 : Int32) then f_X11_readStep_122 aq0 vq5 vq6 vq5 (7 : Int32) σ7 else (if vq6 = (7 : Int32) then f_X11_readStep_122 aq0 vq5 vq6 vq5 (0 : Int32) σ7 else f_X11_readStep_122 aq0 vq5 vq6 vq5 (6 : Int32) σ7))))))))))))) else bd (f_X11_wrong σ) (fun rq2 σ1 => some ((), σ1)))
def f_X11_text_73 (L34 : Int32 → Int32 → Mm → Option (Int32 × Mm)) (xq1 : Int32) (xqs0 : Int32) (σ : Mm) : Option (Int32 × Mm) :=
  (if xqs0 = 0 then L34 xq1 xqs0 σ else bd (f_X11_next σ) (fun rq9 σ8 => L34 xq1 xqs0 σ8))
def f_X11_text_72 (L34 : Int32 → Int32 → Mm → Option (Int32 × Mm)) (xq1 : Int32) (σ : Mm) : Option (Int32 × Mm) :=
  f_X11_text_73 L34 xq1 (0 : Int32) σ
def f_X11_text_L34 (K85 : Int32 → Mm → Option (Int32 × Mm))  (L34 : Int32 → Int32 → Mm → Option (Int32 × Mm)) (xq1 : Int32) (xq2 : Int32) (σ : Mm) : Option (Int32 × Mm) :=
  (if xq2 = 0 then K85 xq1 σ else (if 0 ≤ (σ.1 48 28) then K85 xq1 σ else bd (f_X11_readStep xq1 σ) (fun rq6 σ5 => nm (xq1 + (1 : Int32)) (fun vq7 => (if 0 ≤ (σ5.1 48 28) then f_X11_text_72 L34 vq7 σ5 else (if (σ5.1 48 26) = (3 : Int32) then f_X11_text_73 L34 vq7 (1 : Int32) σ5 else f_X11_text_72 L34 vq7 σ5))))))
def f_X11_text_103 (xq1 : Int32) (σ : Mm) : Option (Int32 × Mm) :=
  (if (σ.1 48 28) < 0 then nm (sI σ 48 13 (0 : Int32)) (fun σ10 => ck (σ10.1 48 0) 6 (nm (sI σ10 49 (ix (σ10.1 48 0)) xq1) (fun σ11 => nm (sI σ11 48 0 ((σ11.1 48 0) + (1 : Int32))) (fun σ12 => cb (0 : Int32) (nm (sI σ12 48 48 (0 : Int32)) (fun σ13 => some (((σ13.1 48 0) - (1 : Int32)), σ13))))))) else some (((-1 : Int32) - (σ.1 48 28)), σ))
def f_X11_text_85 (xq1 : Int32) (σ : Mm) : Option (Int32 × Mm) :=
  (if 0 ≤ (σ.1 48 28) then f_X11_text_103 xq1 σ else (if (σ.1 48 26) = 0 then f_X11_text_103 xq1 σ else bd (f_X11_wrong σ) (fun rq15 σ14 => f_X11_text_103 xq1 σ14)))
def f_X11_text  (σ : Mm) : Option (Int32 × Mm) :=
  (if (σ.1 48 0) = (6 : Int32) then bd (f_X11_finds (-1000000002 : Int32) σ) (fun rq17 σ16 => some (rq17, σ16)) else nm (sI σ 48 24 (0 : Int32)) (fun σ1 => nm (sI σ1 48 28 (-1 : Int32)) (fun σ2 => bd (f_X11_next σ2) (fun rq4 σ3 => fx (fun _ _ _ => none) FU (f_X11_text_L34 (fun (xq1 : Int32) (σ : Mm) => f_X11_text_85 xq1 σ) ) (0 : Int32) (1 : Int32) σ3))))
def f_X11_steps (aq0 : Int32) (σ : Mm) : Option (Int32 × Mm) :=
  bd (f_X11_isCall aq0 σ) (fun rq2 σ1 => (if rq2 = 0 then bd (f_X11_finds (-1000000001 : Int32) σ1) (fun rq4 σ3 => some (rq4, σ3)) else ck aq0 6 (some ((σ1.1 49 (ix aq0)), σ1))))
def f_X11_step (aq0 : Int32) (aq1 : Int32) (aq2 : Int32) (σ : Mm) : Option (Int32 × Mm) :=
  bd (f_X11_isStep aq0 aq1 σ) (fun rq2 σ1 => (if rq2 = 0 then bd (f_X11_finds (-1000000001 : Int32) σ1) (fun rq4 σ3 => some (rq4, σ3)) else bd (f_X11_in aq2 (0 : Int32) (4 : Int32) σ1) (fun rq6 σ5 => (if rq6 = 0 then bd (f_X11_finds (-1000000001 : Int32) σ5) (fun rq24 σ23 => some (rq24, σ23)) else nm (((7 : Int32) * aq0) + aq1) (fun vq7 => ck vq7 42 (nm (σ5.1 50 (ix vq7)) (fun vq8 => (if aq2 = (0 : Int32) then some (vq8, σ5) else (if aq2 = (1 : Int32) then bd (f_X11_in vq8 (1 : Int32) (4 : Int32) σ5) (fun rq12 σ11 => (if rq12 = 0 then bd (f_X11_finds (-1000000003 : Int32) σ11) (fun rq14 σ13 => some (rq14, σ13)) else ck vq7 42 (some ((σ11.1 51 (ix vq7)), σ11)))) else (if aq2 = (2 : Int32) then (if vq8 = (2 : Int32) then ck vq7 42 (some ((σ5.1 52 (ix vq7)), σ5)) else (if vq8 = (3 : Int32) then ck vq7 42 (some ((σ5.1 52 (ix vq7)), σ5)) else (if vq8 = (4 : Int32) then ck vq7 42 (some ((σ5.1 52 (ix vq7)), σ5)) else (if vq8 = (7 : Int32) then ck vq7 42 (some ((σ5.1 52 (ix vq7)), σ5)) else bd (f_X11_finds (-1000000003 : Int32) σ5) (fun rq17 σ16 => some (rq17, σ16)))))) else (if aq2 = (3 : Int32) then (if vq8 = (3 : Int32) then ck vq7 42 (some ((σ5.1 53 (ix vq7)), σ5)) else bd (f_X11_finds (-1000000003 : Int32) σ5) (fun rq20 σ19 => some (rq20, σ19))) else (if vq8 = (6 : Int32) then ck vq7 42 (some ((σ5.1 54 (ix vq7)), σ5)) else bd (f_X11_finds (-1000000003 : Int32) σ5) (fun rq22 σ21 => some (rq22, σ21))))))))))))))
def f_X11_as_65  (σ : Mm) : Option (Int32 × Mm) :=
  bd (f_X11_finds (-1000000003 : Int32) σ) (fun rq9 σ8 => some (rq9, σ8))
def f_X11_as (aq0 : Int32) (aq1 : Int32) (aq2 : Int32) (σ : Mm) : Option (Int32 × Mm) :=
  bd (f_X11_isStep aq0 aq1 σ) (fun rq2 σ1 => (if rq2 = 0 then bd (f_X11_finds (-1000000001 : Int32) σ1) (fun rq4 σ3 => some (rq4, σ3)) else bd (f_X11_in aq2 (0 : Int32) (7 : Int32) σ1) (fun rq6 σ5 => (if rq6 = 0 then bd (f_X11_finds (-1000000001 : Int32) σ5) (fun rq11 σ10 => some (rq11, σ10)) else ck (((7 : Int32) * aq0) + aq1) 42 (nm (σ5.1 50 (ix (((7 : Int32) * aq0) + aq1))) (fun vq7 => (if aq2 = 0 then some (vq7, σ5) else (if aq2 = vq7 then some (vq7, σ5) else (if aq2 = (3 : Int32) then (if vq7 = (4 : Int32) then some (vq7, σ5) else f_X11_as_65  σ5) else f_X11_as_65  σ5)))))))))
def f_X11_hasValue_54  (σ : Mm) : Option (Int32 × Mm) :=
  cb (0 : Int32) (some ((0 : Int32), σ))
def f_X11_hasValue (aq0 : Int32) (σ : Mm) : Option (Int32 × Mm) :=
  ck aq0 42 ((if (σ.1 50 (ix aq0)) = (3 : Int32) then cb (1 : Int32) (some ((1 : Int32), σ)) else ck aq0 42 ((if (σ.1 50 (ix aq0)) = (4 : Int32) then cb (1 : Int32) (some ((1 : Int32), σ)) else ck aq0 42 ((if (σ.1 50 (ix aq0)) = (7 : Int32) then cb (1 : Int32) (some ((1 : Int32), σ)) else ck aq0 42 ((if (σ.1 50 (ix aq0)) = (2 : Int32) then ck aq0 42 ((if (σ.1 52 (ix aq0)) < 0 then f_X11_hasValue_54  σ else cb (1 : Int32) (some ((1 : Int32), σ)))) else f_X11_hasValue_54  σ))))))))
def f_X11_put_51 (xq1 : Int32) (xq2 : Int32) (xq3 : Int32) (xqs1 : Int32) (xqs2 : Int32) (σ : Mm) : Option (Int32 × Mm) :=
  ck xqs1 42 (nm (sI σ 53 (ix xqs1) xqs2) (fun σ1 => ck xq1 42 ((if (σ1.1 50 (ix xq1)) = (3 : Int32) then ck xq1 42 (ck xq1 42 (nm (sI σ1 52 (ix xq1) (σ1.1 52 (ix xq1))) (fun σ4 => cb (0 : Int32) (nm (sI σ4 48 48 (0 : Int32)) (fun σ5 => some (xq3, σ5)))))) else ck xq1 42 (nm (sI σ1 52 (ix xq1) xq2) (fun σ2 => cb (0 : Int32) (nm (sI σ2 48 48 (0 : Int32)) (fun σ3 => some (xq3, σ3)))))))))
def f_X11_put_25 (xq1 : Int32) (xq2 : Int32) (xqs0 : Int32) (σ : Mm) : Option (Int32 × Mm) :=
  ck xq1 42 ((if (σ.1 50 (ix xq1)) = (3 : Int32) then f_X11_put_51 xq1 xq2 xqs0 xq1 xq2 σ else ck xq1 42 (f_X11_put_51 xq1 xq2 xqs0 xq1 (σ.1 53 (ix xq1)) σ)))
def f_X11_put (aq0 : Int32) (aq1 : Int32) (σ : Mm) : Option (Int32 × Mm) :=
  ck aq0 42 ((if (σ.1 50 (ix aq0)) = (3 : Int32) then ck aq0 42 (f_X11_put_25 aq0 aq1 (σ.1 53 (ix aq0)) σ) else ck aq0 42 (f_X11_put_25 aq0 aq1 (σ.1 52 (ix aq0)) σ)))
def f_X11_change (aq0 : Int32) (aq1 : Int32) (aq2 : Int32) (σ : Mm) : Option (Int32 × Mm) :=
  bd (f_X11_isStep aq0 aq1 σ) (fun rq2 σ1 => (if rq2 = 0 then bd (f_X11_finds (-1000000001 : Int32) σ1) (fun rq4 σ3 => some (rq4, σ3)) else bd (f_X11_in aq2 (0 : Int32) (3 : Int32) σ1) (fun rq6 σ5 => (if rq6 = 0 then bd (f_X11_finds (-1000000001 : Int32) σ5) (fun rq15 σ14 => some (rq15, σ14)) else nm (((7 : Int32) * aq0) + aq1) (fun vq7 => bd (f_X11_hasValue vq7 σ5) (fun rq9 σ8 => (if rq9 = 0 then bd (f_X11_finds (-1000000003 : Int32) σ8) (fun rq11 σ10 => some (rq11, σ10)) else bd (f_X11_put vq7 aq2 σ8) (fun rq13 σ12 => some (rq13, σ12)))))))))
def f_X11_cell (aq0 : Int32) (aq1 : Int32) (σ : Mm) : Option (Int32 × Mm) :=
  bd (f_X11_in aq0 (0 : Int32) (2 : Int32) σ) (fun rq2 σ1 => (if rq2 = 0 then bd (f_X11_finds (-1000000001 : Int32) σ1) (fun rq4 σ3 => some (rq4, σ3)) else bd (f_X11_in aq1 (0 : Int32) (3 : Int32) σ1) (fun rq6 σ5 => (if rq6 = 0 then bd (f_X11_finds (-1000000001 : Int32) σ5) (fun rq11 σ10 => some (rq11, σ10)) else ck aq0 3 (nm (σ5.1 57 (ix aq0)) (fun vq7 => ck aq0 3 (nm (sI σ5 57 (ix aq0) aq1) (fun σ8 => cb (0 : Int32) (nm (sI σ8 48 48 (0 : Int32)) (fun σ9 => some (vq7, σ9)))))))))))
def f_X11_machine (aq0 : Int32) (σ : Mm) : Option (Int32 × Mm) :=
  bd (f_X11_in aq0 (0 : Int32) (1 : Int32) σ) (fun rq2 σ1 => (if rq2 = 0 then bd (f_X11_finds (-1000000001 : Int32) σ1) (fun rq7 σ6 => some (rq7, σ6)) else nm (σ1.1 48 11) (fun vq3 => nm (sI σ1 48 11 aq0) (fun σ4 => cb (0 : Int32) (nm (sI σ4 48 48 (0 : Int32)) (fun σ5 => some (vq3, σ5)))))))
def f_X11_hand_87 (xqs1 : Int32) (xqs2 : Int32) (σ : Mm) : Option (Int32 × Mm) :=
  ck xqs1 3 (nm (sI σ 56 (ix xqs1) xqs2) (fun σ7 => nm (sI σ7 48 7 ((σ7.1 48 7) + (1 : Int32))) (fun σ8 => cb (0 : Int32) (nm (sI σ8 48 48 (0 : Int32)) (fun σ9 => some (((σ9.1 48 7) - (1 : Int32)), σ9))))))
def f_X11_hand_28 (xq1 : Int32) (xq2 : Int32) (σ : Mm) : Option (Int32 × Mm) :=
  (if (σ.1 48 7) = (3 : Int32) then bd (f_X11_finds (-1000000002 : Int32) σ) (fun rq11 σ10 => some (rq11, σ10)) else ck ((2 : Int32) * (σ.1 48 7)) 6 (nm (sI σ 55 (ix ((2 : Int32) * (σ.1 48 7))) xq1) (fun σ5 => ck (((2 : Int32) * (σ5.1 48 7)) + (1 : Int32)) 6 (nm (sI σ5 55 (ix (((2 : Int32) * (σ5.1 48 7)) + (1 : Int32))) xq2) (fun σ6 => (if xq2 = (-1 : Int32) then f_X11_hand_87 (σ6.1 48 7) (1 : Int32) σ6 else f_X11_hand_87 (σ6.1 48 7) (2 : Int32) σ6))))))
def f_X11_hand (aq0 : Int32) (aq1 : Int32) (σ : Mm) : Option (Int32 × Mm) :=
  bd (f_X11_isCall aq0 σ) (fun rq2 σ1 => (if rq2 = 0 then bd (f_X11_finds (-1000000001 : Int32) σ1) (fun rq4 σ3 => some (rq4, σ3)) else (if aq1 = (-1 : Int32) then f_X11_hand_28 aq0 aq1 σ1 else bd (f_X11_isCall aq1 σ1) (fun rq13 σ12 => (if rq13 = 0 then bd (f_X11_finds (-1000000001 : Int32) σ12) (fun rq15 σ14 => some (rq15, σ14)) else f_X11_hand_28 aq0 aq1 σ12)))))
def f_X11_clear  (σ : Mm) : Option (Int32 × Mm) :=
  nm (σ.1 48 7) (fun vq1 => nm (sI σ 48 7 (0 : Int32)) (fun σ2 => cb (0 : Int32) (nm (sI σ2 48 48 (0 : Int32)) (fun σ3 => some (vq1, σ3)))))
def f_X11_isDone_57 (L4 : Int32 → Int32 → Mm → Option (Int32 × Mm)) (xq1 : Int32) (xq3 : Int32) (xqs0 : Int32) (σ : Mm) : Option (Int32 × Mm) :=
  nm (xq3 + (1 : Int32)) (fun vq1 => L4 xqs0 vq1 σ)
def f_X11_isDone_52 (L4 : Int32 → Int32 → Mm → Option (Int32 × Mm)) (xq1 : Int32) (xq3 : Int32) (σ : Mm) : Option (Int32 × Mm) :=
  f_X11_isDone_57 L4 xq1 xq3 (1 : Int32) σ
def f_X11_isDone_56 (L4 : Int32 → Int32 → Mm → Option (Int32 × Mm)) (xq1 : Int32) (xq3 : Int32) (σ : Mm) : Option (Int32 × Mm) :=
  f_X11_isDone_57 L4 xq1 xq3 (0 : Int32) σ
def f_X11_isDone_L4 (xq1 : Int32) (L4 : Int32 → Int32 → Mm → Option (Int32 × Mm)) (xq2 : Int32) (xq3 : Int32) (σ : Mm) : Option (Int32 × Mm) :=
  (if (σ.1 48 7) ≤ xq3 then cb xq2 (some (xq2, σ)) else (if xq2 = 0 then ck ((2 : Int32) * xq3) 6 ((if (σ.1 55 (ix ((2 : Int32) * xq3))) = xq1 then f_X11_isDone_52 L4 xq1 xq3 σ else ck xq3 3 ((if (σ.1 56 (ix xq3)) = (2 : Int32) then ck (((2 : Int32) * xq3) + (1 : Int32)) 6 ((if (σ.1 55 (ix (((2 : Int32) * xq3) + (1 : Int32)))) = xq1 then f_X11_isDone_52 L4 xq1 xq3 σ else f_X11_isDone_56 L4 xq1 xq3 σ)) else f_X11_isDone_56 L4 xq1 xq3 σ)))) else f_X11_isDone_52 L4 xq1 xq3 σ))
def f_X11_isDone (aq0 : Int32) (σ : Mm) : Option (Int32 × Mm) :=
  fx (fun _ _ _ => none) FU (f_X11_isDone_L4  aq0) (0 : Int32) (0 : Int32) σ
def f_X11_findWrites_84 (L17 : Int32 → Mm → Option (Unit × Mm)) (xq1 : Int32) (xq2 : Int32) (σ : Mm) : Option (Unit × Mm) :=
  nm (xq2 + (1 : Int32)) (fun vq4 => L17 vq4 σ)
def f_X11_findWrites_L17 (K90 : Mm → Option (Unit × Mm)) (xq1 : Int32) (L17 : Int32 → Mm → Option (Unit × Mm)) (xq2 : Int32) (σ : Mm) : Option (Unit × Mm) :=
  ck xq1 6 ((if (σ.1 49 (ix xq1)) ≤ xq2 then K90 σ else bd (f_X11_isDone xq1 σ) (fun rq3 σ2 => (if rq3 = 0 then K90 σ2 else ck (((7 : Int32) * xq1) + xq2) 42 ((if (σ2.1 50 (ix (((7 : Int32) * xq1) + xq2))) = (2 : Int32) then (if (6 : Int32) ≤ (σ2.1 48 37) then f_X11_findWrites_84 L17 xq1 xq2 σ2 else ck (σ2.1 48 37) 6 (nm (sI σ2 72 (ix (σ2.1 48 37)) (((7 : Int32) * xq1) + xq2)) (fun σ5 => nm (sI σ5 48 37 ((σ5.1 48 37) + (1 : Int32))) (fun σ6 => f_X11_findWrites_84 L17 xq1 xq2 σ6)))) else f_X11_findWrites_84 L17 xq1 xq2 σ2))))))
def f_X11_findWrites_90 (L7 : Int32 → Mm → Option (Unit × Mm)) (xq1 : Int32) (σ : Mm) : Option (Unit × Mm) :=
  nm (xq1 + (1 : Int32)) (fun vq7 => L7 vq7 σ)
def f_X11_findWrites_L7  (L7 : Int32 → Mm → Option (Unit × Mm)) (xq1 : Int32) (σ : Mm) : Option (Unit × Mm) :=
  (if (σ.1 48 0) ≤ xq1 then some ((), σ) else fx (fun _ _ => none) FU (f_X11_findWrites_L17 (fun  (σ : Mm) => f_X11_findWrites_90 L7 xq1 σ) xq1) (0 : Int32) σ)
def f_X11_findWrites  (σ : Mm) : Option (Unit × Mm) :=
  nm (sI σ 48 37 (0 : Int32)) (fun σ1 => fx (fun _ _ => none) FU (f_X11_findWrites_L7  ) (0 : Int32) σ1)
def f_X11_isFenced_44 (L5 : Int32 → Int32 → Mm → Option (Int32 × Mm)) (xq1 : Int32) (xq2 : Int32) (xq4 : Int32) (xqs0 : Int32) (σ : Mm) : Option (Int32 × Mm) :=
  nm (xq4 + (1 : Int32)) (fun vq1 => L5 xqs0 vq1 σ)
def f_X11_isFenced_39 (L5 : Int32 → Int32 → Mm → Option (Int32 × Mm)) (xq1 : Int32) (xq2 : Int32) (xq4 : Int32) (σ : Mm) : Option (Int32 × Mm) :=
  f_X11_isFenced_44 L5 xq1 xq2 xq4 (1 : Int32) σ
def f_X11_isFenced_43 (L5 : Int32 → Int32 → Mm → Option (Int32 × Mm)) (xq1 : Int32) (xq2 : Int32) (xq4 : Int32) (σ : Mm) : Option (Int32 × Mm) :=
  f_X11_isFenced_44 L5 xq1 xq2 xq4 (0 : Int32) σ
def f_X11_isFenced_L5 (xq1 : Int32) (xq2 : Int32) (L5 : Int32 → Int32 → Mm → Option (Int32 × Mm)) (xq3 : Int32) (xq4 : Int32) (σ : Mm) : Option (Int32 × Mm) :=
  (if (σ.1 48 37) ≤ xq4 then cb xq3 (some (xq3, σ)) else (if xq3 = 0 then ck xq4 6 ((if (σ.1 72 (ix xq4)) = xq1 then (if ((xq2 >>> (xq4 &&& 31)) &&& (1 : Int32)) = (1 : Int32) then f_X11_isFenced_39 L5 xq1 xq2 xq4 σ else f_X11_isFenced_43 L5 xq1 xq2 xq4 σ) else f_X11_isFenced_43 L5 xq1 xq2 xq4 σ)) else f_X11_isFenced_39 L5 xq1 xq2 xq4 σ))
def f_X11_isFenced (aq0 : Int32) (aq1 : Int32) (σ : Mm) : Option (Int32 × Mm) :=
  fx (fun _ _ _ => none) FU (f_X11_isFenced_L5  aq0 aq1) (0 : Int32) (0 : Int32) σ
def f_X11_lays (aq0 : Int32) (aq1 : Int32) (σ : Mm) : Option (Unit × Mm) :=
  ck aq1 42 (ck aq0 84 (nm (sI σ 67 (ix aq0) (σ.1 50 (ix aq1))) (fun σ1 => ck aq1 42 (ck aq0 84 (nm (sI σ1 68 (ix aq0) (σ1.1 51 (ix aq1))) (fun σ2 => ck aq1 42 (ck aq0 84 (nm (sI σ2 69 (ix aq0) (σ2.1 52 (ix aq1))) (fun σ3 => ck aq1 42 (ck aq0 84 (nm (sI σ3 70 (ix aq0) (σ3.1 53 (ix aq1))) (fun σ4 => ck aq1 42 (ck aq0 84 (nm (sI σ4 71 (ix aq0) (σ4.1 54 (ix aq1))) (fun σ5 => some ((), σ5))))))))))))))))
def f_X11_lay_84 (L15 : Int32 → Int32 → Mm → Option (Unit × Mm)) (xq1 : Int32) (xq2 : Int32) (xq3 : Int32) (xq4 : Int32) (σ : Mm) : Option (Unit × Mm) :=
  nm (xq4 + (1 : Int32)) (fun vq7 => L15 xq3 vq7 σ)
def f_X11_lay_L15 (K90 : Int32 → Mm → Option (Unit × Mm)) (xq1 : Int32) (xq2 : Int32) (L15 : Int32 → Int32 → Mm → Option (Unit × Mm)) (xq3 : Int32) (xq4 : Int32) (σ : Mm) : Option (Unit × Mm) :=
  ck xq2 6 ((if (σ.1 49 (ix xq2)) ≤ xq4 then K90 xq3 σ else ck xq4 7 (nm (sI σ 73 (ix xq4) xq3) (fun σ1 => bd (f_X11_lays (((14 : Int32) * xq2) + xq3) (((7 : Int32) * xq2) + xq4) σ1) (fun rq3 σ2 => nm (xq3 + (1 : Int32)) (fun vq4 => bd (f_X11_isFenced (((7 : Int32) * xq2) + xq4) xq1 σ2) (fun rq6 σ5 => (if rq6 = 0 then f_X11_lay_84 L15 xq1 xq2 vq4 xq4 σ5 else ck (((14 : Int32) * xq2) + vq4) 84 (nm (sI σ5 67 (ix (((14 : Int32) * xq2) + vq4)) (5 : Int32)) (fun σ8 => nm (vq4 + (1 : Int32)) (fun vq9 => f_X11_lay_84 L15 xq1 xq2 vq9 xq4 σ8)))))))))))
def f_X11_lay_152 (L100 : Int32 → Mm → Option (Unit × Mm)) (xq1 : Int32) (xq2 : Int32) (xq3 : Int32) (xq4 : Int32) (σ : Mm) : Option (Unit × Mm) :=
  nm (xq4 + (1 : Int32)) (fun vq11 => L100 vq11 σ)
def f_X11_lay_L100 (K158 : Mm → Option (Unit × Mm)) (xq1 : Int32) (xq2 : Int32) (xq3 : Int32) (L100 : Int32 → Mm → Option (Unit × Mm)) (xq4 : Int32) (σ : Mm) : Option (Unit × Mm) :=
  (if xq3 ≤ xq4 then K158 σ else ck (((14 : Int32) * xq2) + xq4) 84 ((if (σ.1 67 (ix (((14 : Int32) * xq2) + xq4))) = (6 : Int32) then ck (((14 : Int32) * xq2) + xq4) 84 (ck (σ.1 71 (ix (((14 : Int32) * xq2) + xq4))) 7 (ck (((14 : Int32) * xq2) + xq4) 84 (nm (sI σ 71 (ix (((14 : Int32) * xq2) + xq4)) (σ.1 73 (ix (σ.1 71 (ix (((14 : Int32) * xq2) + xq4)))))) (fun σ12 => f_X11_lay_152 L100 xq1 xq2 xq3 xq4 σ12)))) else f_X11_lay_152 L100 xq1 xq2 xq3 xq4 σ)))
def f_X11_lay_158 (L2 : Int32 → Mm → Option (Unit × Mm)) (xq1 : Int32) (xq2 : Int32) (σ : Mm) : Option (Unit × Mm) :=
  nm (xq2 + (1 : Int32)) (fun vq13 => L2 vq13 σ)
def f_X11_lay_90 (L2 : Int32 → Mm → Option (Unit × Mm)) (xq1 : Int32) (xq2 : Int32) (xq3 : Int32) (σ : Mm) : Option (Unit × Mm) :=
  ck xq2 6 (nm (sI σ 66 (ix xq2) xq3) (fun σ10 => fx (fun _ _ => none) FU (f_X11_lay_L100 (fun  (σ : Mm) => f_X11_lay_158 L2 xq1 xq2 σ) xq1 xq2 xq3) (0 : Int32) σ10))
def f_X11_lay_L2 (xq1 : Int32) (L2 : Int32 → Mm → Option (Unit × Mm)) (xq2 : Int32) (σ : Mm) : Option (Unit × Mm) :=
  (if (σ.1 48 0) ≤ xq2 then some ((), σ) else fx (fun _ _ _ => none) FU (f_X11_lay_L15 (fun (xq3 : Int32) (σ : Mm) => f_X11_lay_90 L2 xq1 xq2 xq3 σ) xq1 xq2) (0 : Int32) (0 : Int32) σ)
def f_X11_lay (aq0 : Int32) (σ : Mm) : Option (Unit × Mm) :=
  fx (fun _ _ => none) FU (f_X11_lay_L2  aq0) (0 : Int32) σ
def f_X11_begins_L2 (K25 : Mm → Option (Unit × Mm))  (L2 : Int32 → Mm → Option (Unit × Mm)) (xq1 : Int32) (σ : Mm) : Option (Unit × Mm) :=
  (if (3 : Int32) ≤ xq1 then K25 σ else ck xq1 3 (ck xq1 3 (nm (sI σ 74 (ix xq1) (σ.1 57 (ix xq1))) (fun σ1 => nm (xq1 + (1 : Int32)) (fun vq2 => L2 vq2 σ1)))))
def f_X11_begins_L27  (L27 : Int32 → Mm → Option (Unit × Mm)) (xq1 : Int32) (σ : Mm) : Option (Unit × Mm) :=
  (if (3 : Int32) ≤ xq1 then some ((), σ) else ck xq1 3 (nm (sI σ 75 (ix xq1) (0 : Int32)) (fun σ3 => ck xq1 3 (nm (sI σ3 76 (ix xq1) (0 : Int32)) (fun σ4 => ck xq1 3 (nm (sI σ4 77 (ix xq1) (0 : Int32)) (fun σ5 => ck xq1 3 (nm (sI σ5 78 (ix xq1) (0 : Int32)) (fun σ6 => ck xq1 3 (nm (sI σ6 79 (ix xq1) (0 : Int32)) (fun σ7 => nm (xq1 + (1 : Int32)) (fun vq8 => L27 vq8 σ7))))))))))))
def f_X11_begins_25  (σ : Mm) : Option (Unit × Mm) :=
  fx (fun _ _ => none) FU (f_X11_begins_L27  ) (0 : Int32) σ
def f_X11_begins  (σ : Mm) : Option (Unit × Mm) :=
  fx (fun _ _ => none) FU (f_X11_begins_L2 (fun  (σ : Mm) => f_X11_begins_25  σ) ) (0 : Int32) σ
def f_X11_waitCode (aq0 : Int32) (σ : Mm) : Option (Int32 × Mm) :=
  ck ((2 : Int32) * aq0) 6 (ck ((2 : Int32) * aq0) 6 (nm (((4 : Int32) * (σ.1 80 (ix ((2 : Int32) * aq0)))) + (σ.1 81 (ix ((2 : Int32) * aq0)))) (fun vq1 => ck (((2 : Int32) * aq0) + (1 : Int32)) 6 (ck (((2 : Int32) * aq0) + (1 : Int32)) 6 (nm (((4 : Int32) * (σ.1 80 (ix (((2 : Int32) * aq0) + (1 : Int32))))) + (σ.1 81 (ix (((2 : Int32) * aq0) + (1 : Int32))))) (fun vq2 => ck aq0 3 ((if (σ.1 79 (ix aq0)) = 0 then some ((0 : Int32), σ) else ck aq0 3 ((if (σ.1 79 (ix aq0)) = (1 : Int32) then some (((1 : Int32) + vq1), σ) else some ((((13 : Int32) + ((12 : Int32) * vq1)) + vq2), σ)))))))))))
def f_X11_pack_L34  (L34 : Int64 → Int32 → Mm → Option (Int64 × Mm)) (xq1 : Int64) (xq3 : Int32) (σ : Mm) : Option (Int64 × Mm) :=
  (if (σ.1 48 7) ≤ xq3 then some (xq1, σ) else ck xq3 3 (ck xq3 3 (nm ((((42 : Int64) * xq1) + ((((14 : Int32) * (σ.1 75 (ix xq3)))).toInt64)) + (((σ.1 76 (ix xq3))).toInt64)) (fun vq2 => ck xq3 3 (ck xq3 3 (nm ((((16 : Int64) * vq2) + ((((4 : Int32) * (σ.1 77 (ix xq3)))).toInt64)) + (((σ.1 78 (ix xq3))).toInt64)) (fun vq3 => bd (f_X11_waitCode xq3 σ) (fun rq5 σ4 => nm (((157 : Int64) * vq3) + ((rq5).toInt64)) (fun vq6 => nm (xq3 + (1 : Int32)) (fun vq7 => L34 vq6 vq7 σ4))))))))))
def f_X11_pack  (σ : Mm) : Option (Int64 × Mm) :=
  ck (0 : Int32) 3 (ck (1 : Int32) 3 (ck (2 : Int32) 3 (nm ((((16 : Int64) * (((σ.1 74 (ix (0 : Int32)))).toInt64)) + ((4 : Int64) * (((σ.1 74 (ix (1 : Int32)))).toInt64))) + (((σ.1 74 (ix (2 : Int32)))).toInt64)) (fun vq1 => fx (fun _ _ _ => none) FU (f_X11_pack_L34  ) vq1 (0 : Int32) σ))))
def f_X11_unpack_183 (L10 : Int64 → Int32 → Mm → Option (Unit × Mm)) (xq3 : Int64) (xq5 : Int32) (xq9 : Int32) (xqs0 : Int32) (σ : Mm) : Option (Unit × Mm) :=
  ck ((2 : Int32) * xq5) 6 (nm (sI σ 80 (ix ((2 : Int32) * xq5)) (xq9 / (4 : Int32))) (fun σ13 => ck ((2 : Int32) * xq5) 6 (nm (sI σ13 81 (ix ((2 : Int32) * xq5)) (irm xq9 (4 : Int32))) (fun σ14 => ck (((2 : Int32) * xq5) + (1 : Int32)) 6 (nm (sI σ14 80 (ix (((2 : Int32) * xq5) + (1 : Int32))) (xqs0 / (4 : Int32))) (fun σ15 => ck (((2 : Int32) * xq5) + (1 : Int32)) 6 (nm (sI σ15 81 (ix (((2 : Int32) * xq5) + (1 : Int32))) (irm xqs0 (4 : Int32))) (fun σ16 => nm (xq5 + (-1 : Int32)) (fun vq17 => L10 xq3 vq17 σ16)))))))))
def f_X11_unpack_162 (L10 : Int64 → Int32 → Mm → Option (Unit × Mm)) (xq3 : Int64) (xq5 : Int32) (xq6 : Int32) (xqs0 : Int32) (σ : Mm) : Option (Unit × Mm) :=
  (if (13 : Int32) ≤ xq6 then f_X11_unpack_183 L10 xq3 xq5 xqs0 (irm (xq6 - (13 : Int32)) (12 : Int32)) σ else f_X11_unpack_183 L10 xq3 xq5 xqs0 (0 : Int32) σ)
def f_X11_unpack_130 (L10 : Int64 → Int32 → Mm → Option (Unit × Mm)) (xq3 : Int64) (xq5 : Int32) (xq6 : Int32) (xqs1 : Int32) (xqs2 : Int32) (σ : Mm) : Option (Unit × Mm) :=
  ck xqs1 3 (nm (sI σ 79 (ix xqs1) xqs2) (fun σ12 => (if xq6 = 0 then f_X11_unpack_162 L10 xq3 xq5 xq6 (0 : Int32) σ12 else (if (13 : Int32) ≤ xq6 then f_X11_unpack_162 L10 xq3 xq5 xq6 ((xq6 - (13 : Int32)) / (12 : Int32)) σ12 else f_X11_unpack_162 L10 xq3 xq5 xq6 (xq6 - (1 : Int32)) σ12))))
def f_X11_unpack_L10 (K247 : Int64 → Mm → Option (Unit × Mm))  (L10 : Int64 → Int32 → Mm → Option (Unit × Mm)) (xq3 : Int64) (xq5 : Int32) (σ : Mm) : Option (Unit × Mm) :=
  (if xq5 < 0 then K247 xq3 σ else nm (((lrm xq3 (157 : Int64))).toInt32) (fun vq2 => nm (xq3 / (157 : Int64)) (fun vq3 => nm (((lrm vq3 (16 : Int64))).toInt32) (fun vq4 => nm (vq3 / (16 : Int64)) (fun vq5 => nm (((lrm vq5 (42 : Int64))).toInt32) (fun vq6 => nm (vq5 / (42 : Int64)) (fun vq7 => ck xq5 3 (nm (sI σ 75 (ix xq5) (vq6 / (14 : Int32))) (fun σ8 => ck xq5 3 (nm (sI σ8 76 (ix xq5) (irm vq6 (14 : Int32))) (fun σ9 => ck xq5 3 (nm (sI σ9 77 (ix xq5) (vq4 / (4 : Int32))) (fun σ10 => ck xq5 3 (nm (sI σ10 78 (ix xq5) (irm vq4 (4 : Int32))) (fun σ11 => (if vq2 = 0 then f_X11_unpack_130 L10 vq7 xq5 vq2 xq5 (0 : Int32) σ11 else (if (13 : Int32) ≤ vq2 then f_X11_unpack_130 L10 vq7 xq5 vq2 xq5 (2 : Int32) σ11 else f_X11_unpack_130 L10 vq7 xq5 vq2 xq5 (1 : Int32) σ11)))))))))))))))))
def f_X11_unpack_247 (xq3 : Int64) (σ : Mm) : Option (Unit × Mm) :=
  ck (0 : Int32) 3 (nm (sI σ 74 (ix (0 : Int32)) (((xq3 / (16 : Int64))).toInt32)) (fun σ18 => ck (1 : Int32) 3 (nm (sI σ18 74 (ix (1 : Int32)) (((lrm (xq3 / (4 : Int64)) (4 : Int64))).toInt32)) (fun σ19 => ck (2 : Int32) 3 (nm (sI σ19 74 (ix (2 : Int32)) (((lrm xq3 (4 : Int64))).toInt32)) (fun σ20 => some ((), σ20)))))))
def f_X11_unpack (aq0 : Int64) (σ : Mm) : Option (Unit × Mm) :=
  nm ((σ.1 48 7) - (1 : Int32)) (fun vq1 => fx (fun _ _ _ => none) FU (f_X11_unpack_L10 (fun (xq3 : Int64) (σ : Mm) => f_X11_unpack_247 xq3 σ) ) aq0 vq1 σ)
def f_X11_isEnd_45 (L4 : Int32 → Int32 → Mm → Option (Int32 × Mm)) (xq2 : Int32) (xqs0 : Int32) (σ : Mm) : Option (Int32 × Mm) :=
  nm (xq2 + (1 : Int32)) (fun vq1 => L4 xqs0 vq1 σ)
def f_X11_isEnd_44 (L4 : Int32 → Int32 → Mm → Option (Int32 × Mm)) (xq2 : Int32) (σ : Mm) : Option (Int32 × Mm) :=
  f_X11_isEnd_45 L4 xq2 (0 : Int32) σ
def f_X11_isEnd_L4  (L4 : Int32 → Int32 → Mm → Option (Int32 × Mm)) (xq1 : Int32) (xq2 : Int32) (σ : Mm) : Option (Int32 × Mm) :=
  (if (σ.1 48 7) ≤ xq2 then cb xq1 (some (xq1, σ)) else (if xq1 = 0 then f_X11_isEnd_44 L4 xq2 σ else ck xq2 3 (ck xq2 3 ((if (σ.1 75 (ix xq2)) = (σ.1 56 (ix xq2)) then ck xq2 3 ((if (σ.1 79 (ix xq2)) = 0 then f_X11_isEnd_45 L4 xq2 (1 : Int32) σ else f_X11_isEnd_44 L4 xq2 σ)) else f_X11_isEnd_44 L4 xq2 σ)))))
def f_X11_isEnd  (σ : Mm) : Option (Int32 × Mm) :=
  fx (fun _ _ _ => none) FU (f_X11_isEnd_L4  ) (1 : Int32) (0 : Int32) σ
def f_X11_resultNow_L28  (L28 : Int32 → Int32 → Mm → Option (Int32 × Mm)) (xq1 : Int32) (xq2 : Int32) (σ : Mm) : Option (Int32 × Mm) :=
  (if (σ.1 48 7) ≤ xq2 then some (xq1, σ) else ck xq2 3 (ck xq2 3 (nm ((((16 : Int32) * xq1) + ((4 : Int32) * (σ.1 77 (ix xq2)))) + (σ.1 78 (ix xq2))) (fun vq2 => nm (xq2 + (1 : Int32)) (fun vq3 => L28 vq2 vq3 σ)))))
def f_X11_resultNow  (σ : Mm) : Option (Int32 × Mm) :=
  ck (0 : Int32) 3 (ck (1 : Int32) 3 (ck (2 : Int32) 3 (nm ((((16 : Int32) * (σ.1 74 (ix (0 : Int32)))) + ((4 : Int32) * (σ.1 74 (ix (1 : Int32))))) + (σ.1 74 (ix (2 : Int32)))) (fun vq1 => fx (fun _ _ _ => none) FU (f_X11_resultNow_L28  ) vq1 (0 : Int32) σ))))
def f_X11_stepNow (aq0 : Int32) (σ : Mm) : Option (Int32 × Mm) :=
  ck aq0 3 (ck (((2 : Int32) * aq0) + (σ.1 75 (ix aq0))) 6 (ck aq0 3 (some ((((14 : Int32) * (σ.1 55 (ix (((2 : Int32) * aq0) + (σ.1 75 (ix aq0)))))) + (σ.1 76 (ix aq0))), σ))))
def f_X11_can_115 (xq1 : Int32) (σ : Mm) : Option (Int32 × Mm) :=
  ck xq1 3 ((if (σ.1 79 (ix xq1)) = 0 then cb (1 : Int32) (some ((1 : Int32), σ)) else cb (0 : Int32) (some ((0 : Int32), σ))))
def f_X11_can_33  (σ : Mm) : Option (Int32 × Mm) :=
  cb (0 : Int32) (some ((0 : Int32), σ))
def f_X11_can (aq0 : Int32) (aq1 : Int32) (σ : Mm) : Option (Int32 × Mm) :=
  (if aq0 < (10 : Int32) then (if aq0 < 0 then cb (0 : Int32) (some ((0 : Int32), σ)) else (if (σ.1 48 7) ≤ aq0 then cb (0 : Int32) (some ((0 : Int32), σ)) else ck aq0 3 (ck aq0 3 ((if (σ.1 75 (ix aq0)) = (σ.1 56 (ix aq0)) then cb (0 : Int32) (some ((0 : Int32), σ)) else bd (f_X11_stepNow aq0 σ) (fun rq2 σ1 => ck rq2 84 (nm (σ1.1 67 (ix rq2)) (fun vq3 => (if vq3 = (2 : Int32) then (if aq1 = 0 then cb (1 : Int32) (some ((1 : Int32), σ1)) else ck aq0 3 ((if (2 : Int32) ≤ (σ1.1 79 (ix aq0)) then cb (0 : Int32) (some ((0 : Int32), σ1)) else cb (1 : Int32) (some ((1 : Int32), σ1))))) else (if vq3 = (3 : Int32) then f_X11_can_115 aq0 σ1 else (if vq3 = (4 : Int32) then f_X11_can_115 aq0 σ1 else (if vq3 = (5 : Int32) then f_X11_can_115 aq0 σ1 else cb (1 : Int32) (some ((1 : Int32), σ1)))))))))))))) else (if (σ.1 48 7) ≤ (aq0 - (10 : Int32)) then f_X11_can_33  σ else ck (aq0 - (10 : Int32)) 3 ((if (σ.1 79 (ix (aq0 - (10 : Int32)))) ≤ 0 then f_X11_can_33  σ else cb (1 : Int32) (some ((1 : Int32), σ))))))
def f_X11_waiting_46 (L5 : Int32 → Int32 → Mm → Option (Int32 × Mm)) (xq1 : Int32) (xq2 : Int32) (xq4 : Int32) (xqs0 : Int32) (σ : Mm) : Option (Int32 × Mm) :=
  nm (xq4 + (1 : Int32)) (fun vq1 => L5 xqs0 vq1 σ)
def f_X11_waiting_L5 (xq1 : Int32) (xq2 : Int32) (L5 : Int32 → Int32 → Mm → Option (Int32 × Mm)) (xq3 : Int32) (xq4 : Int32) (σ : Mm) : Option (Int32 × Mm) :=
  ck xq1 3 ((if (σ.1 79 (ix xq1)) ≤ xq4 then some (xq3, σ) else ck (((2 : Int32) * xq1) + xq4) 6 ((if (σ.1 80 (ix (((2 : Int32) * xq1) + xq4))) = xq2 then ck (((2 : Int32) * xq1) + xq4) 6 (f_X11_waiting_46 L5 xq1 xq2 xq4 (σ.1 81 (ix (((2 : Int32) * xq1) + xq4))) σ) else f_X11_waiting_46 L5 xq1 xq2 xq4 xq3 σ))))
def f_X11_waiting (aq0 : Int32) (aq1 : Int32) (σ : Mm) : Option (Int32 × Mm) :=
  fx (fun _ _ _ => none) FU (f_X11_waiting_L5  aq0 aq1) (-1 : Int32) (0 : Int32) σ
def f_X11_writesTo (aq0 : Int32) (aq1 : Int32) (aq2 : Int32) (aq3 : Int32) (σ : Mm) : Option (Unit × Mm) :=
  (if aq3 = 0 then ck aq1 3 (nm (sI σ 74 (ix aq1) aq2) (fun σ4 => nm (sI σ4 48 47 aq1) (fun σ5 => some ((), σ5)))) else ck aq0 3 (ck (((2 : Int32) * aq0) + (σ.1 79 (ix aq0))) 6 (nm (sI σ 80 (ix (((2 : Int32) * aq0) + (σ.1 79 (ix aq0)))) aq1) (fun σ1 => ck aq0 3 (ck (((2 : Int32) * aq0) + (σ1.1 79 (ix aq0))) 6 (nm (sI σ1 81 (ix (((2 : Int32) * aq0) + (σ1.1 79 (ix aq0)))) aq2) (fun σ2 => ck aq0 3 (ck aq0 3 (nm (sI σ2 79 (ix aq0) ((σ2.1 79 (ix aq0)) + (1 : Int32))) (fun σ3 => some ((), σ3)))))))))))
def f_X11_goesOn (aq0 : Int32) (aq1 : Int32) (σ : Mm) : Option (Unit × Mm) :=
  ck aq0 3 (nm (sI σ 76 (ix aq0) aq1) (fun σ1 => ck aq0 3 (ck (((2 : Int32) * aq0) + (σ1.1 75 (ix aq0))) 6 (ck (σ1.1 55 (ix (((2 : Int32) * aq0) + (σ1.1 75 (ix aq0))))) 6 ((if aq1 = (σ1.1 66 (ix (σ1.1 55 (ix (((2 : Int32) * aq0) + (σ1.1 75 (ix aq0))))))) then ck aq0 3 (nm (sI σ1 76 (ix aq0) (0 : Int32)) (fun σ2 => ck aq0 3 (ck aq0 3 (nm (sI σ2 75 (ix aq0) ((σ2.1 75 (ix aq0)) + (1 : Int32))) (fun σ3 => some ((), σ3)))))) else some ((), σ1)))))))
def f_X11_stepsOn_112 (xq1 : Int32) (xq4 : Int32) (xq5 : Int32) (xq6 : Int32) (xqs1 : Int32) (σ : Mm) : Option (Unit × Mm) :=
  nm (sI σ 48 47 xqs1) (fun σ13 => (if 0 ≤ xq6 then ck xq1 3 (nm (sI σ13 77 (ix xq1) xq6) (fun σ14 => bd (f_X11_goesOn xq1 xq5 σ14) (fun rq16 σ15 => some ((), σ15)))) else ck xq4 3 (ck xq1 3 (nm (sI σ13 77 (ix xq1) (σ13.1 74 (ix xq4))) (fun σ17 => bd (f_X11_goesOn xq1 xq5 σ17) (fun rq19 σ18 => some ((), σ18)))))))
def f_X11_stepsOn_208 (xq1 : Int32) (xq3 : Int32) (xq4 : Int32) (xq5 : Int32) (xqs1 : Int32) (xqs2 : Int32) (σ : Mm) : Option (Unit × Mm) :=
  ck xqs1 3 (nm (sI σ 77 (ix xqs1) xqs2) (fun σ31 => ck xq1 3 ((if (σ31.1 77 (ix xq1)) = (1 : Int32) then ck xq3 84 (ck xq4 3 (nm (sI σ31 74 (ix xq4) (σ31.1 70 (ix xq3))) (fun σ35 => bd (f_X11_goesOn xq1 xq5 σ35) (fun rq37 σ36 => some ((), σ36))))) else ck xq4 3 (ck xq4 3 (nm (sI σ31 74 (ix xq4) (σ31.1 74 (ix xq4))) (fun σ32 => bd (f_X11_goesOn xq1 xq5 σ32) (fun rq34 σ33 => some ((), σ33)))))))))
def f_X11_stepsOn (aq0 : Int32) (aq1 : Int32) (σ : Mm) : Option (Unit × Mm) :=
  bd (f_X11_stepNow aq0 σ) (fun rq2 σ1 => ck rq2 84 (nm (σ1.1 68 (ix rq2)) (fun vq3 => ck aq0 3 (nm ((σ1.1 76 (ix aq0)) + (1 : Int32)) (fun vq4 => ck rq2 84 (nm (σ1.1 67 (ix rq2)) (fun vq5 => (if vq5 = (0 : Int32) then ck aq0 3 (ck aq0 3 (nm (sI σ1 78 (ix aq0) (σ1.1 77 (ix aq0))) (fun σ7 => bd (f_X11_goesOn aq0 vq4 σ7) (fun rq9 σ8 => some ((), σ8))))) else (if vq5 = (1 : Int32) then bd (f_X11_waiting aq0 vq3 σ1) (fun rq12 σ11 => (if 0 ≤ rq12 then f_X11_stepsOn_112 aq0 vq3 vq4 rq12 (-1 : Int32) σ11 else f_X11_stepsOn_112 aq0 vq3 vq4 rq12 vq3 σ11)) else (if vq5 = (2 : Int32) then ck rq2 84 ((if 0 ≤ (σ1.1 69 (ix rq2)) then ck rq2 84 (bd (f_X11_writesTo aq0 vq3 (σ1.1 69 (ix rq2)) aq1 σ1) (fun rq22 σ21 => bd (f_X11_goesOn aq0 vq4 σ21) (fun rq24 σ23 => some ((), σ23)))) else ck aq0 3 (bd (f_X11_writesTo aq0 vq3 (σ1.1 78 (ix aq0)) aq1 σ1) (fun rq26 σ25 => bd (f_X11_goesOn aq0 vq4 σ25) (fun rq28 σ27 => some ((), σ27)))))) else (if vq5 = (3 : Int32) then nm (sI σ1 48 47 vq3) (fun σ30 => ck vq3 3 (ck rq2 84 ((if (σ30.1 74 (ix vq3)) = (σ30.1 69 (ix rq2)) then f_X11_stepsOn_208 aq0 rq2 vq3 vq4 aq0 (1 : Int32) σ30 else f_X11_stepsOn_208 aq0 rq2 vq3 vq4 aq0 (0 : Int32) σ30)))) else (if vq5 = (4 : Int32) then nm (sI σ1 48 47 vq3) (fun σ39 => ck vq3 3 (ck aq0 3 (nm (sI σ39 77 (ix aq0) (σ39.1 74 (ix vq3))) (fun σ40 => ck vq3 3 (ck rq2 84 (ck vq3 3 (nm (sI σ40 74 (ix vq3) (irm ((σ40.1 74 (ix vq3)) + (σ40.1 69 (ix rq2))) (4 : Int32))) (fun σ41 => bd (f_X11_goesOn aq0 vq4 σ41) (fun rq43 σ42 => some ((), σ42)))))))))) else (if vq5 = (5 : Int32) then bd (f_X11_goesOn aq0 vq4 σ1) (fun rq46 σ45 => some ((), σ45)) else (if vq5 = (6 : Int32) then ck aq0 3 ((if (σ1.1 77 (ix aq0)) = 0 then ck rq2 84 (nm (σ1.1 71 (ix rq2)) (fun vq50 => bd (f_X11_goesOn aq0 vq50 σ1) (fun rq52 σ51 => some ((), σ51)))) else bd (f_X11_goesOn aq0 vq4 σ1) (fun rq49 σ48 => some ((), σ48)))) else (if vq5 = (7 : Int32) then ck rq2 84 (ck aq0 3 (nm (sI σ1 77 (ix aq0) (σ1.1 69 (ix rq2))) (fun σ54 => bd (f_X11_goesOn aq0 vq4 σ54) (fun rq56 σ55 => some ((), σ55))))) else bd (f_X11_goesOn aq0 vq4 σ1) (fun rq58 σ57 => some ((), σ57)))))))))))))))))
def f_X11_does (aq0 : Int32) (aq1 : Int32) (σ : Mm) : Option (Unit × Mm) :=
  nm (sI σ 48 47 (-1 : Int32)) (fun σ1 => (if (10 : Int32) ≤ aq0 then nm (aq0 - (10 : Int32)) (fun vq2 => ck ((2 : Int32) * vq2) 6 (nm (sI σ1 48 47 (σ1.1 80 (ix ((2 : Int32) * vq2)))) (fun σ3 => ck ((2 : Int32) * vq2) 6 (ck (σ3.1 48 47) 3 (nm (sI σ3 74 (ix (σ3.1 48 47)) (σ3.1 81 (ix ((2 : Int32) * vq2)))) (fun σ4 => ck (((2 : Int32) * vq2) + (1 : Int32)) 6 (ck ((2 : Int32) * vq2) 6 (nm (sI σ4 80 (ix ((2 : Int32) * vq2)) (σ4.1 80 (ix (((2 : Int32) * vq2) + (1 : Int32))))) (fun σ5 => ck (((2 : Int32) * vq2) + (1 : Int32)) 6 (ck ((2 : Int32) * vq2) 6 (nm (sI σ5 81 (ix ((2 : Int32) * vq2)) (σ5.1 81 (ix (((2 : Int32) * vq2) + (1 : Int32))))) (fun σ6 => ck vq2 3 (ck vq2 3 (nm (sI σ6 79 (ix vq2) ((σ6.1 79 (ix vq2)) - (1 : Int32))) (fun σ7 => some ((), σ7)))))))))))))))) else bd (f_X11_stepsOn aq0 aq1 σ1) (fun rq9 σ8 => some ((), σ8))))
def f_X11_moveOf (aq0 : Int32) (σ : Mm) : Option (Int32 × Mm) :=
  (if (3 : Int32) ≤ aq0 then some (((7 : Int32) + aq0), σ) else some (aq0, σ))
def f_X11_placeOf_L18 (K60 : Int32 → Mm → Option (Int32 × Mm)) (xq1 : Int64) (xq3 : Int32) (L18 : Int32 → Mm → Option (Int32 × Mm)) (xq4 : Int32) (σ : Mm) : Option (Int32 × Mm) :=
  ck xq4 16384 ((if (σ.1 85 (ix xq4)) = 0 then K60 xq4 σ else ck xq4 16384 (ck ((σ.1 85 (ix xq4)) - (1 : Int32)) 6001 ((if (lg_cmp (σ.2 82 (ix ((σ.1 85 (ix xq4)) - (1 : Int32)))) xq1) = 0 then K60 xq4 σ else nm ((xq4 + (1 : Int32)) &&& (16383 : Int32)) (fun vq2 => L18 vq2 σ))))))
def f_X11_placeOf_60 (xq1 : Int64) (xq3 : Int32) (xq4 : Int32) (σ : Mm) : Option (Int32 × Mm) :=
  ck xq4 16384 ((if (σ.1 85 (ix xq4)) = 0 then ck (σ.1 48 50) 6001 (nm (sL σ 82 (ix (σ.1 48 50)) xq1) (fun σ3 => ck (σ3.1 48 50) 6001 (nm (sI σ3 84 (ix (σ3.1 48 50)) xq3) (fun σ4 => nm (sI σ4 48 50 ((σ4.1 48 50) + (1 : Int32))) (fun σ5 => ck xq4 16384 (nm (sI σ5 85 (ix xq4) (σ5.1 48 50)) (fun σ6 => ck xq4 16384 (some (((σ6.1 85 (ix xq4)) - (1 : Int32)), σ6))))))))) else ck xq4 16384 (some (((σ.1 85 (ix xq4)) - (1 : Int32)), σ))))
def f_X11_placeOf (aq0 : Int64) (aq1 : Int32) (σ : Mm) : Option (Int32 × Mm) :=
  nm (((((aq0 ^^^ (aq0 >>> (((17 : Int32)).toInt64 &&& 63))) ^^^ (aq0 >>> (((35 : Int32)).toInt64 &&& 63))) &&& (16383 : Int64))).toInt32) (fun vq1 => fx (fun _ _ => none) FU (f_X11_placeOf_L18 (fun (xq4 : Int32) (σ : Mm) => f_X11_placeOf_60 aq0 aq1 xq4 σ) aq0 aq1) vq1 σ)
def f_X11_goesThrough_L7 (K27 : Mm → Option (Int32 × Mm))  (L7 : Int32 → Mm → Option (Int32 × Mm)) (xq2 : Int32) (σ : Mm) : Option (Int32 × Mm) :=
  (if (16384 : Int32) ≤ xq2 then K27 σ else ck xq2 16384 (nm (sI σ 85 (ix xq2) (0 : Int32)) (fun σ3 => nm (xq2 + (1 : Int32)) (fun vq4 => L7 vq4 σ3))))
def f_X11_goesThrough_197 (L100 : Int32 → Mm → Option (Int32 × Mm)) (xq3 : Int32) (xq4 : Int32) (σ : Mm) : Option (Int32 × Mm) :=
  nm (xq4 + (1 : Int32)) (fun vq24 => L100 vq24 σ)
def f_X11_goesThrough_L100 (K203 : Mm → Option (Int32 × Mm)) (xq3 : Int32) (L100 : Int32 → Mm → Option (Int32 × Mm)) (xq4 : Int32) (σ : Mm) : Option (Int32 × Mm) :=
  (if (6 : Int32) ≤ xq4 then K203 σ else (if (6000 : Int32) < (σ.1 48 50) then K203 σ else ck xq3 6001 (bd (f_X11_unpack (σ.2 82 (ix xq3)) σ) (fun rq18 σ17 => ck (((6 : Int32) * xq3) + xq4) 36006 (nm (sI σ17 83 (ix (((6 : Int32) * xq3) + xq4)) (-1 : Int32)) (fun σ19 => bd (f_X11_moveOf xq4 σ19) (fun rq21 σ20 => bd (f_X11_can rq21 (σ20.1 48 11) σ20) (fun rq23 σ22 => (if rq23 = 0 then f_X11_goesThrough_197 L100 xq3 xq4 σ22 else bd (f_X11_moveOf xq4 σ22) (fun rq26 σ25 => bd (f_X11_does rq26 (σ25.1 48 11) σ25) (fun rq28 σ27 => bd (f_X11_pack σ27) (fun rq30 σ29 => ck xq3 6001 (bd (f_X11_placeOf rq30 ((σ29.1 84 (ix xq3)) + (1 : Int32)) σ29) (fun rq32 σ31 => ck (((6 : Int32) * xq3) + xq4) 36006 (nm (sI σ31 83 (ix (((6 : Int32) * xq3) + xq4)) rq32) (fun σ33 => f_X11_goesThrough_197 L100 xq3 xq4 σ33))))))))))))))))
def f_X11_goesThrough_203 (L48 : Int32 → Mm → Option (Int32 × Mm)) (xq3 : Int32) (σ : Mm) : Option (Int32 × Mm) :=
  nm (xq3 + (1 : Int32)) (fun vq34 => L48 vq34 σ)
def f_X11_goesThrough_96 (L48 : Int32 → Mm → Option (Int32 × Mm)) (xq3 : Int32) (xqs1 : Int32) (xqs2 : Int32) (σ : Mm) : Option (Int32 × Mm) :=
  ck xqs1 6001 (nm (sI σ 87 (ix xqs1) xqs2) (fun σ16 => fx (fun _ _ => none) FU (f_X11_goesThrough_L100 (fun  (σ : Mm) => f_X11_goesThrough_203 L48 xq3 σ) xq3) (0 : Int32) σ16))
def f_X11_goesThrough_L48 (K209 : Mm → Option (Int32 × Mm))  (L48 : Int32 → Mm → Option (Int32 × Mm)) (xq3 : Int32) (σ : Mm) : Option (Int32 × Mm) :=
  (if (σ.1 48 50) ≤ xq3 then K209 σ else (if (6000 : Int32) < (σ.1 48 50) then K209 σ else ck xq3 6001 (bd (f_X11_unpack (σ.2 82 (ix xq3)) σ) (fun rq13 σ12 => bd (f_X11_isEnd σ12) (fun rq15 σ14 => (if rq15 = 0 then f_X11_goesThrough_96 L48 xq3 xq3 (-1 : Int32) σ14 else bd (f_X11_resultNow σ14) (fun rq36 σ35 => f_X11_goesThrough_96 L48 xq3 xq3 rq36 σ35)))))))
def f_X11_goesThrough_209  (σ : Mm) : Option (Int32 × Mm) :=
  (if (6000 : Int32) < (σ.1 48 50) then cb (0 : Int32) (some ((0 : Int32), σ)) else cb (1 : Int32) (some ((1 : Int32), σ)))
def f_X11_goesThrough_27  (σ : Mm) : Option (Int32 × Mm) :=
  nm (sI σ 48 50 (0 : Int32)) (fun σ5 => bd (f_X11_begins σ5) (fun rq7 σ6 => bd (f_X11_pack σ6) (fun rq9 σ8 => bd (f_X11_placeOf rq9 (0 : Int32) σ8) (fun rq11 σ10 => fx (fun _ _ => none) FU (f_X11_goesThrough_L48 (fun  (σ : Mm) => f_X11_goesThrough_209  σ) ) rq11 σ10))))
def f_X11_goesThrough (aq0 : Int32) (σ : Mm) : Option (Int32 × Mm) :=
  bd (f_X11_lay aq0 σ) (fun rq2 σ1 => fx (fun _ _ => none) FU (f_X11_goesThrough_L7 (fun  (σ : Mm) => f_X11_goesThrough_27  σ) ) (0 : Int32) σ1)
def f_X11_comes_L2 (K21 : Int32 → Mm → Option (Int32 × Mm)) (kq0 : Nat) (xq1 : Int32) (xq2 : Int32) (L2 : Int32 → Mm → Option (Int32 × Mm)) (xq3 : Int32) (σ : Mm) : Option (Int32 × Mm) :=
  (if xq3 ≤ 0 then K21 xq3 σ else ck (xq3 - (1 : Int32)) (alen kq0) ((if (σ.1 kq0 (ix (xq3 - (1 : Int32)))) ≤ xq2 then K21 xq3 σ else nm (xq3 + (-1 : Int32)) (fun vq1 => L2 vq1 σ))))
def f_X11_comes_L39 (kq0 : Nat) (xq1 : Int32) (xq2 : Int32) (xq3 : Int32) (L39 : Int32 → Mm → Option (Int32 × Mm)) (xq4 : Int32) (σ : Mm) : Option (Int32 × Mm) :=
  (if xq4 ≤ xq3 then ck xq3 (alen kq0) (nm (sI σ kq0 (ix xq3) xq2) (fun σ2 => some ((xq1 + (1 : Int32)), σ2))) else ck (xq4 - (1 : Int32)) (alen kq0) (ck xq4 (alen kq0) (nm (sI σ kq0 (ix xq4) (σ.1 kq0 (ix (xq4 - (1 : Int32))))) (fun σ3 => nm (xq4 + (-1 : Int32)) (fun vq4 => L39 vq4 σ3)))))
def f_X11_comes_36 (kq0 : Nat) (xq1 : Int32) (xq2 : Int32) (xq3 : Int32) (σ : Mm) : Option (Int32 × Mm) :=
  fx (fun _ _ => none) FU (f_X11_comes_L39  kq0 xq1 xq2 xq3) xq1 σ
def f_X11_comes_21 (kq0 : Nat) (xq1 : Int32) (xq2 : Int32) (xq3 : Int32) (σ : Mm) : Option (Int32 × Mm) :=
  (if xq3 ≤ 0 then f_X11_comes_36 kq0 xq1 xq2 xq3 σ else ck (xq3 - (1 : Int32)) (alen kq0) ((if (σ.1 kq0 (ix (xq3 - (1 : Int32)))) = xq2 then some (xq1, σ) else f_X11_comes_36 kq0 xq1 xq2 xq3 σ)))
def f_X11_comes (kq0 : Nat) (aq1 : Int32) (aq2 : Int32) (σ : Mm) : Option (Int32 × Mm) :=
  fx (fun _ _ => none) FU (f_X11_comes_L2 (fun (xq3 : Int32) (σ : Mm) => f_X11_comes_21 kq0 aq1 aq2 xq3 σ) kq0 aq1 aq2) aq1 σ
def f_X11_findResults_49 (L7 : Int32 → Mm → Option (Unit × Mm)) (xq1 : Int32) (xqs1 : Int32) (σ : Mm) : Option (Unit × Mm) :=
  nm (sI σ 48 58 xqs1) (fun σ4 => nm (xq1 + (1 : Int32)) (fun vq5 => L7 vq5 σ4))
def f_X11_findResults_L7  (L7 : Int32 → Mm → Option (Unit × Mm)) (xq1 : Int32) (σ : Mm) : Option (Unit × Mm) :=
  (if (σ.1 48 50) ≤ xq1 then some ((), σ) else ck xq1 6001 ((if 0 ≤ (σ.1 87 (ix xq1)) then ck xq1 6001 (bd (f_X11_comes 88 (σ.1 48 58) (σ.1 87 (ix xq1)) σ) (fun rq3 σ2 => f_X11_findResults_49 L7 xq1 rq3 σ2)) else f_X11_findResults_49 L7 xq1 (σ.1 48 58) σ)))
def f_X11_findResults  (σ : Mm) : Option (Unit × Mm) :=
  nm (sI σ 48 58 (0 : Int32)) (fun σ1 => fx (fun _ _ => none) FU (f_X11_findResults_L7  ) (0 : Int32) σ1)
def f_X11_wholeCall_L11 (K37 : Mm → Option (Int32 × Mm)) (xq1 : Int32) (xq2 : Int32) (L11 : Int32 → Mm → Option (Int32 × Mm)) (xq3 : Int32) (σ : Mm) : Option (Int32 × Mm) :=
  ck xq1 3 ((if (σ.1 75 (ix xq1)) = xq2 then (if xq3 ≤ 0 then K37 σ else bd (f_X11_stepsOn xq1 (0 : Int32) σ) (fun rq3 σ2 => nm (xq3 + (-1 : Int32)) (fun vq4 => L11 vq4 σ2))) else K37 σ))
def f_X11_wholeCall_37 (xq1 : Int32) (xq2 : Int32) (σ : Mm) : Option (Int32 × Mm) :=
  ck xq1 3 ((if (σ.1 75 (ix xq1)) ≤ xq2 then cb (0 : Int32) (some ((0 : Int32), σ)) else cb (1 : Int32) (some ((1 : Int32), σ))))
def f_X11_wholeCall (aq0 : Int32) (σ : Mm) : Option (Int32 × Mm) :=
  ck aq0 3 (nm (σ.1 75 (ix aq0)) (fun vq1 => fx (fun _ _ => none) FU (f_X11_wholeCall_L11 (fun  (σ : Mm) => f_X11_wholeCall_37 aq0 vq1 σ) aq0 vq1) (14337 : Int32) σ))
def f_X11_ordersFrom_67 (S : Int32 → Mm → Option (Unit × Mm)) (L14 : Int32 → Int32 → Mm → Option (Unit × Mm)) (xq1 : Int32) (xq2 : Int32) (xq3 : Int32) (σ : Mm) : Option (Unit × Mm) :=
  nm (xq3 + (1 : Int32)) (fun vq8 => L14 xq2 vq8 σ)
def f_X11_ordersFrom_L14 (S : Int32 → Mm → Option (Unit × Mm)) (K73 : Int32 → Mm → Option (Unit × Mm)) (xq1 : Int32) (L14 : Int32 → Int32 → Mm → Option (Unit × Mm)) (xq2 : Int32) (xq3 : Int32) (σ : Mm) : Option (Unit × Mm) :=
  (if (σ.1 48 7) ≤ xq3 then K73 xq2 σ else ck xq1 7 (bd (f_X11_unpack (σ.2 90 (ix xq1)) σ) (fun rq5 σ4 => ck xq3 3 (ck xq3 3 ((if (σ4.1 75 (ix xq3)) = (σ4.1 56 (ix xq3)) then f_X11_ordersFrom_67 S L14 xq1 xq2 xq3 σ4 else bd (f_X11_wholeCall xq3 σ4) (fun rq7 σ6 => (if rq7 = 0 then f_X11_ordersFrom_67 S L14 xq1 (0 : Int32) xq3 σ6 else bd (S (xq1 + (1 : Int32)) σ6) (fun rq10 σ9 => f_X11_ordersFrom_67 S L14 xq1 (0 : Int32) xq3 σ9)))))))))
def f_X11_ordersFrom_73 (S : Int32 → Mm → Option (Unit × Mm)) (xq1 : Int32) (xq2 : Int32) (σ : Mm) : Option (Unit × Mm) :=
  (if xq2 = 0 then some ((), σ) else ck xq1 7 (bd (f_X11_unpack (σ.2 90 (ix xq1)) σ) (fun rq12 σ11 => bd (f_X11_resultNow σ11) (fun rq14 σ13 => bd (f_X11_comes 89 (σ11.1 48 60) rq14 σ13) (fun rq16 σ15 => nm (sI σ15 48 60 rq16) (fun σ17 => some ((), σ17)))))))
def f_X11_ordersFrom_b (S : Int32 → Mm → Option (Unit × Mm)) (aq0 : Int32) (σ : Mm) : Option (Unit × Mm) :=
  bd (f_X11_pack σ) (fun rq2 σ1 => ck aq0 7 (nm (sL σ1 90 (ix aq0) rq2) (fun σ3 => fx (fun _ _ _ => none) FU (f_X11_ordersFrom_L14 S (fun (xq2 : Int32) (σ : Mm) => f_X11_ordersFrom_73 S aq0 xq2 σ) aq0) (1 : Int32) (0 : Int32) σ3)))
def f_X11_ordersFrom : Nat → Int32 → Mm → Option (Unit × Mm) := fun n => fx (fun _ _ => none) n f_X11_ordersFrom_b
def f_X11_findGoods  (σ : Mm) : Option (Unit × Mm) :=
  nm (sI σ 48 60 (0 : Int32)) (fun σ1 => bd (f_X11_begins σ1) (fun rq3 σ2 => bd (f_X11_ordersFrom 8 (0 : Int32) σ2) (fun rq5 σ4 => some ((), σ4))))
def f_X11_isGood_31 (L4 : Int32 → Int32 → Mm → Option (Int32 × Mm)) (xq1 : Int32) (xq3 : Int32) (xqs0 : Int32) (σ : Mm) : Option (Int32 × Mm) :=
  nm (xq3 + (1 : Int32)) (fun vq1 => L4 xqs0 vq1 σ)
def f_X11_isGood_26 (L4 : Int32 → Int32 → Mm → Option (Int32 × Mm)) (xq1 : Int32) (xq3 : Int32) (σ : Mm) : Option (Int32 × Mm) :=
  f_X11_isGood_31 L4 xq1 xq3 (1 : Int32) σ
def f_X11_isGood_L4 (xq1 : Int32) (L4 : Int32 → Int32 → Mm → Option (Int32 × Mm)) (xq2 : Int32) (xq3 : Int32) (σ : Mm) : Option (Int32 × Mm) :=
  (if (σ.1 48 60) ≤ xq3 then cb xq2 (some (xq2, σ)) else (if xq2 = 0 then ck xq3 128 ((if (σ.1 89 (ix xq3)) = xq1 then f_X11_isGood_26 L4 xq1 xq3 σ else f_X11_isGood_31 L4 xq1 xq3 (0 : Int32) σ)) else f_X11_isGood_26 L4 xq1 xq3 σ))
def f_X11_isGood (aq0 : Int32) (σ : Mm) : Option (Int32 × Mm) :=
  fx (fun _ _ _ => none) FU (f_X11_isGood_L4  aq0) (0 : Int32) (0 : Int32) σ
def f_X11_lookAll_22 (xqs1 : Int32) (σ : Mm) : Option (Unit × Mm) :=
  cb xqs1 (nm (sI σ 48 49 xqs1) (fun σ3 => (if (σ3.1 48 49) = 0 then bd (f_X11_findResults σ3) (fun rq8 σ7 => bd (f_X11_findGoods σ7) (fun rq10 σ9 => cb (1 : Int32) (nm (sI σ9 48 48 (1 : Int32)) (fun σ11 => some ((), σ11))))) else bd (f_X11_findGoods σ3) (fun rq5 σ4 => cb (1 : Int32) (nm (sI σ4 48 48 (1 : Int32)) (fun σ6 => some ((), σ6)))))))
def f_X11_lookAll  (σ : Mm) : Option (Unit × Mm) :=
  (if (σ.1 48 48) = 0 then bd (f_X11_goesThrough (0 : Int32) σ) (fun rq2 σ1 => (if rq2 = 0 then f_X11_lookAll_22 (1 : Int32) σ1 else f_X11_lookAll_22 (0 : Int32) σ1)) else some ((), σ))
def f_X11_badMany_31 (L4 : Int32 → Int32 → Mm → Option (Int32 × Mm)) (xq2 : Int32) (xqs0 : Int32) (xqs1 : Int32) (σ : Mm) : Option (Int32 × Mm) :=
  nm (xqs0 + xqs1) (fun vq3 => nm (xq2 + (1 : Int32)) (fun vq4 => L4 vq3 vq4 σ))
def f_X11_badMany_L4  (L4 : Int32 → Int32 → Mm → Option (Int32 × Mm)) (xq1 : Int32) (xq2 : Int32) (σ : Mm) : Option (Int32 × Mm) :=
  (if (σ.1 48 58) ≤ xq2 then some (xq1, σ) else ck xq2 6001 (bd (f_X11_isGood (σ.1 88 (ix xq2)) σ) (fun rq2 σ1 => (if rq2 = 0 then f_X11_badMany_31 L4 xq2 xq1 (1 : Int32) σ1 else f_X11_badMany_31 L4 xq2 xq1 (0 : Int32) σ1))))
def f_X11_badMany  (σ : Mm) : Option (Int32 × Mm) :=
  fx (fun _ _ _ => none) FU (f_X11_badMany_L4  ) (0 : Int32) (0 : Int32) σ
def f_X11_leastBad_L2  (L2 : Int32 → Mm → Option (Int32 × Mm)) (xq1 : Int32) (σ : Mm) : Option (Int32 × Mm) :=
  (if (σ.1 48 58) ≤ xq1 then some ((-1 : Int32), σ) else ck xq1 6001 (bd (f_X11_isGood (σ.1 88 (ix xq1)) σ) (fun rq2 σ1 => (if rq2 = 0 then ck xq1 6001 (some ((σ1.1 88 (ix xq1)), σ1)) else nm (xq1 + (1 : Int32)) (fun vq3 => L2 vq3 σ1)))))
def f_X11_leastBad  (σ : Mm) : Option (Int32 × Mm) :=
  fx (fun _ _ => none) FU (f_X11_leastBad_L2  ) (0 : Int32) σ
def f_X11_states  (σ : Mm) : Option (Int32 × Mm) :=
  bd (f_X11_lookAll σ) (fun rq2 σ1 => (if (σ1.1 48 49) = 0 then some ((σ1.1 48 50), σ1) else bd (f_X11_finds (-1000000007 : Int32) σ1) (fun rq4 σ3 => some (rq4, σ3))))
def f_X11_ends  (σ : Mm) : Option (Int32 × Mm) :=
  bd (f_X11_lookAll σ) (fun rq2 σ1 => (if (σ1.1 48 49) = 0 then some ((σ1.1 48 58), σ1) else bd (f_X11_finds (-1000000007 : Int32) σ1) (fun rq4 σ3 => some (rq4, σ3))))
def f_X11_result (aq0 : Int32) (σ : Mm) : Option (Int32 × Mm) :=
  (if 0 ≤ aq0 then bd (f_X11_lookAll σ) (fun rq2 σ1 => (if (σ1.1 48 49) = 0 then (if (σ1.1 48 58) ≤ aq0 then bd (f_X11_finds (-1000000004 : Int32) σ1) (fun rq4 σ3 => some (rq4, σ3)) else ck aq0 6001 (some ((σ1.1 88 (ix aq0)), σ1))) else bd (f_X11_finds (-1000000007 : Int32) σ1) (fun rq6 σ5 => some (rq6, σ5)))) else bd (f_X11_finds (-1000000001 : Int32) σ) (fun rq8 σ7 => some (rq8, σ7)))
def f_X11_orders  (σ : Mm) : Option (Int32 × Mm) :=
  bd (f_X11_lookAll σ) (fun rq2 σ1 => some ((σ1.1 48 60), σ1))
def f_X11_inOrder (aq0 : Int32) (σ : Mm) : Option (Int32 × Mm) :=
  (if 0 ≤ aq0 then bd (f_X11_lookAll σ) (fun rq2 σ1 => (if (σ1.1 48 60) ≤ aq0 then bd (f_X11_finds (-1000000004 : Int32) σ1) (fun rq4 σ3 => some (rq4, σ3)) else ck aq0 128 (some ((σ1.1 89 (ix aq0)), σ1)))) else bd (f_X11_finds (-1000000001 : Int32) σ) (fun rq6 σ5 => some (rq6, σ5)))
def f_X11_bad  (σ : Mm) : Option (Int32 × Mm) :=
  bd (f_X11_lookAll σ) (fun rq2 σ1 => (if (σ1.1 48 49) = 0 then bd (f_X11_badMany σ1) (fun rq4 σ3 => some (rq4, σ3)) else bd (f_X11_finds (-1000000007 : Int32) σ1) (fun rq6 σ5 => some (rq6, σ5))))
def f_X11_worst  (σ : Mm) : Option (Int32 × Mm) :=
  bd (f_X11_lookAll σ) (fun rq2 σ1 => (if (σ1.1 48 49) = 0 then bd (f_X11_leastBad σ1) (fun rq4 σ3 => (if 0 ≤ rq4 then some (rq4, σ3) else bd (f_X11_finds (-1000000004 : Int32) σ3) (fun rq6 σ5 => some (rq6, σ5)))) else bd (f_X11_finds (-1000000007 : Int32) σ1) (fun rq8 σ7 => some (rq8, σ7))))
def f_X11_findWay_106 (L34 : Int32 → Mm → Option (Unit × Mm)) (xq1 : Int32) (xq2 : Int32) (xq3 : Int32) (xqs1 : Int32) (xqs2 : Int32) (σ : Mm) : Option (Unit × Mm) :=
  ck xqs1 6001 (cb xqs2 (nm (sI σ 86 (ix xqs1) xqs2) (fun σ4 => nm (xq3 + (1 : Int32)) (fun vq5 => L34 vq5 σ4))))
def f_X11_findWay_101 (L34 : Int32 → Mm → Option (Unit × Mm)) (xq1 : Int32) (xq2 : Int32) (xq3 : Int32) (xqs1 : Int32) (σ : Mm) : Option (Unit × Mm) :=
  f_X11_findWay_106 L34 xq1 xq2 xq3 xqs1 (1 : Int32) σ
def f_X11_findWay_105 (L34 : Int32 → Mm → Option (Unit × Mm)) (xq1 : Int32) (xq2 : Int32) (xq3 : Int32) (xqs1 : Int32) (σ : Mm) : Option (Unit × Mm) :=
  f_X11_findWay_106 L34 xq1 xq2 xq3 xqs1 (0 : Int32) σ
def f_X11_findWay_L34 (K113 : Mm → Option (Unit × Mm)) (xq1 : Int32) (xq2 : Int32) (L34 : Int32 → Mm → Option (Unit × Mm)) (xq3 : Int32) (σ : Mm) : Option (Unit × Mm) :=
  (if (6 : Int32) ≤ xq3 then K113 σ else ck (((6 : Int32) * xq2) + xq3) 36006 (nm (σ.1 83 (ix (((6 : Int32) * xq2) + xq3))) (fun vq3 => ck xq2 6001 ((if (σ.1 86 (ix xq2)) = 0 then (if vq3 ≤ xq2 then f_X11_findWay_105 L34 xq1 xq2 xq3 xq2 σ else ck vq3 6001 ((if (σ.1 86 (ix vq3)) = 0 then f_X11_findWay_105 L34 xq1 xq2 xq3 xq2 σ else ck vq3 6001 (ck xq2 6001 ((if (σ.1 84 (ix vq3)) = ((σ.1 84 (ix xq2)) + (1 : Int32)) then f_X11_findWay_101 L34 xq1 xq2 xq3 xq2 σ else f_X11_findWay_105 L34 xq1 xq2 xq3 xq2 σ)))))) else f_X11_findWay_101 L34 xq1 xq2 xq3 xq2 σ)))))
def f_X11_findWay_113 (L7 : Int32 → Mm → Option (Unit × Mm)) (xq1 : Int32) (xq2 : Int32) (σ : Mm) : Option (Unit × Mm) :=
  nm (xq2 + (-1 : Int32)) (fun vq6 => L7 vq6 σ)
def f_X11_findWay_31 (L7 : Int32 → Mm → Option (Unit × Mm)) (xq1 : Int32) (xq2 : Int32) (xqs1 : Int32) (xqs2 : Int32) (σ : Mm) : Option (Unit × Mm) :=
  ck xqs1 6001 (cb xqs2 (nm (sI σ 86 (ix xqs1) xqs2) (fun σ2 => fx (fun _ _ => none) FU (f_X11_findWay_L34 (fun  (σ : Mm) => f_X11_findWay_113 L7 xq1 xq2 σ) xq1 xq2) (0 : Int32) σ2)))
def f_X11_findWay_L7 (K119 : Mm → Option (Unit × Mm)) (xq1 : Int32) (L7 : Int32 → Mm → Option (Unit × Mm)) (xq2 : Int32) (σ : Mm) : Option (Unit × Mm) :=
  (if xq2 < 0 then K119 σ else ck xq2 6001 ((if (σ.1 87 (ix xq2)) = xq1 then f_X11_findWay_31 L7 xq1 xq2 xq2 (1 : Int32) σ else f_X11_findWay_31 L7 xq1 xq2 xq2 (0 : Int32) σ)))
def f_X11_findWay_198 (L138 : Int32 → Mm → Option (Unit × Mm)) (xq1 : Int32) (xq2 : Int32) (xq3 : Int32) (σ : Mm) : Option (Unit × Mm) :=
  nm (xq3 + (1 : Int32)) (fun vq8 => L138 vq8 σ)
def f_X11_findWay_L138 (K204 : Int32 → Mm → Option (Unit × Mm)) (xq1 : Int32) (xq2 : Int32) (L138 : Int32 → Mm → Option (Unit × Mm)) (xq3 : Int32) (σ : Mm) : Option (Unit × Mm) :=
  ck (((6 : Int32) * xq2) + xq3) 36006 ((if (σ.1 83 (ix (((6 : Int32) * xq2) + xq3))) < 0 then f_X11_findWay_198 L138 xq1 xq2 xq3 σ else ck (((6 : Int32) * xq2) + xq3) 36006 (ck (σ.1 83 (ix (((6 : Int32) * xq2) + xq3))) 6001 ((if (σ.1 86 (ix (σ.1 83 (ix (((6 : Int32) * xq2) + xq3))))) = 0 then f_X11_findWay_198 L138 xq1 xq2 xq3 σ else ck (((6 : Int32) * xq2) + xq3) 36006 (ck (σ.1 83 (ix (((6 : Int32) * xq2) + xq3))) 6001 (ck xq2 6001 ((if (σ.1 84 (ix (σ.1 83 (ix (((6 : Int32) * xq2) + xq3))))) = ((σ.1 84 (ix xq2)) + (1 : Int32)) then K204 xq3 σ else f_X11_findWay_198 L138 xq1 xq2 xq3 σ)))))))))
def f_X11_findWay_204 (L126 : Int32 → Mm → Option (Unit × Mm)) (xq1 : Int32) (xq2 : Int32) (xq3 : Int32) (σ : Mm) : Option (Unit × Mm) :=
  bd (f_X11_moveOf xq3 σ) (fun rq10 σ9 => ck (σ.1 48 63) 6001 (nm (sI σ9 91 (ix (σ.1 48 63)) rq10) (fun σ11 => nm (sI σ11 48 63 ((σ11.1 48 63) + (1 : Int32))) (fun σ12 => ck (((6 : Int32) * xq2) + xq3) 36006 (nm (σ12.1 83 (ix (((6 : Int32) * xq2) + xq3))) (fun vq13 => L126 vq13 σ12))))))
def f_X11_findWay_L126 (xq1 : Int32) (L126 : Int32 → Mm → Option (Unit × Mm)) (xq2 : Int32) (σ : Mm) : Option (Unit × Mm) :=
  ck xq2 6001 ((if (σ.1 87 (ix xq2)) = xq1 then some ((), σ) else fx (fun _ _ => none) FU (f_X11_findWay_L138 (fun (xq3 : Int32) (σ : Mm) => f_X11_findWay_204 L126 xq1 xq2 xq3 σ) xq1 xq2) (0 : Int32) σ))
def f_X11_findWay_119 (xq1 : Int32) (σ : Mm) : Option (Unit × Mm) :=
  nm (sI σ 48 63 (0 : Int32)) (fun σ7 => fx (fun _ _ => none) FU (f_X11_findWay_L126  xq1) (0 : Int32) σ7)
def f_X11_findWay (aq0 : Int32) (σ : Mm) : Option (Unit × Mm) :=
  nm ((σ.1 48 50) - (1 : Int32)) (fun vq1 => fx (fun _ _ => none) FU (f_X11_findWay_L7 (fun  (σ : Mm) => f_X11_findWay_119 aq0 σ) aq0) vq1 σ)
def f_X11_leads  (σ : Mm) : Option (Int32 × Mm) :=
  bd (f_X11_lookAll σ) (fun rq2 σ1 => (if (σ1.1 48 49) = 0 then bd (f_X11_leastBad σ1) (fun rq4 σ3 => (if 0 ≤ rq4 then bd (f_X11_findWay rq4 σ3) (fun rq6 σ5 => some ((0 : Int32), σ5)) else some ((-1000000004 : Int32), σ3))) else some ((-1000000007 : Int32), σ1)))
def f_X11_turn (aq0 : Int32) (σ : Mm) : Option (Int32 × Mm) :=
  (if (-1 : Int32) ≤ aq0 then bd (f_X11_leads σ) (fun rq2 σ1 => (if rq2 = 0 then (if aq0 = (-1 : Int32) then some ((σ1.1 48 63), σ1) else (if (σ1.1 48 63) ≤ aq0 then bd (f_X11_finds (-1000000004 : Int32) σ1) (fun rq4 σ3 => some (rq4, σ3)) else ck aq0 6001 (some ((σ1.1 91 (ix aq0)), σ1)))) else bd (f_X11_finds rq2 σ1) (fun rq6 σ5 => some (rq6, σ5)))) else bd (f_X11_finds (-1000000001 : Int32) σ) (fun rq8 σ7 => some (rq8, σ7)))
def f_X11_stuck_48 (L21 : Int32 → Mm → Option (Int32 × Mm)) (xq1 : Int32) (xqs1 : Int32) (xqs2 : Int32) (σ : Mm) : Option (Int32 × Mm) :=
  ck xqs1 6001 (cb xqs2 (nm (sI σ 86 (ix xqs1) xqs2) (fun σ3 => nm (xq1 + (1 : Int32)) (fun vq4 => L21 vq4 σ3))))
def f_X11_stuck_L21 (K55 : Mm → Option (Int32 × Mm))  (L21 : Int32 → Mm → Option (Int32 × Mm)) (xq1 : Int32) (σ : Mm) : Option (Int32 × Mm) :=
  (if (σ.1 48 50) ≤ xq1 then K55 σ else ck xq1 6001 ((if (σ.1 87 (ix xq1)) < 0 then f_X11_stuck_48 L21 xq1 xq1 (0 : Int32) σ else f_X11_stuck_48 L21 xq1 xq1 (1 : Int32) σ)))
def f_X11_stuck_148 (L76 : Int32 → Int32 → Mm → Option (Int32 × Mm)) (xq2 : Int32) (xq3 : Int32) (xqs0 : Int32) (σ : Mm) : Option (Int32 × Mm) :=
  nm (xq3 + (1 : Int32)) (fun vq8 => L76 xqs0 vq8 σ)
def f_X11_stuck_143 (L76 : Int32 → Int32 → Mm → Option (Int32 × Mm)) (xq2 : Int32) (xq3 : Int32) (σ : Mm) : Option (Int32 × Mm) :=
  f_X11_stuck_148 L76 xq2 xq3 (1 : Int32) σ
def f_X11_stuck_129 (L76 : Int32 → Int32 → Mm → Option (Int32 × Mm)) (xq1 : Int32) (xq2 : Int32) (xq3 : Int32) (xqs1 : Int32) (xqs2 : Int32) (σ : Mm) : Option (Int32 × Mm) :=
  ck xqs1 6001 (cb xqs2 (nm (sI σ 86 (ix xqs1) xqs2) (fun σ7 => (if xq1 = 0 then ck xq2 6001 ((if (σ7.1 86 (ix xq2)) = 0 then f_X11_stuck_148 L76 xq2 xq3 (0 : Int32) σ7 else f_X11_stuck_143 L76 xq2 xq3 σ7)) else f_X11_stuck_143 L76 xq2 xq3 σ7))))
def f_X11_stuck_128 (L76 : Int32 → Int32 → Mm → Option (Int32 × Mm)) (xq1 : Int32) (xq2 : Int32) (xq3 : Int32) (xqs1 : Int32) (σ : Mm) : Option (Int32 × Mm) :=
  f_X11_stuck_129 L76 xq1 xq2 xq3 xqs1 (0 : Int32) σ
def f_X11_stuck_L76 (K155 : Int32 → Mm → Option (Int32 × Mm)) (xq2 : Int32) (L76 : Int32 → Int32 → Mm → Option (Int32 × Mm)) (xq1 : Int32) (xq3 : Int32) (σ : Mm) : Option (Int32 × Mm) :=
  (if (6 : Int32) ≤ xq3 then K155 xq1 σ else ck xq2 6001 ((if (σ.1 86 (ix xq2)) = 0 then ck (((6 : Int32) * xq2) + xq3) 36006 (nm (σ.1 83 (ix (((6 : Int32) * xq2) + xq3))) (fun vq6 => (if vq6 < 0 then f_X11_stuck_128 L76 xq1 xq2 xq3 xq2 σ else ck vq6 6001 ((if (σ.1 86 (ix vq6)) = 0 then f_X11_stuck_128 L76 xq1 xq2 xq3 xq2 σ else f_X11_stuck_129 L76 xq1 xq2 xq3 xq2 (1 : Int32) σ))))) else K155 xq1 σ)))
def f_X11_stuck_155 (L70 : Int32 → Int32 → Mm → Option (Int32 × Mm)) (xq1 : Int32) (xq2 : Int32) (σ : Mm) : Option (Int32 × Mm) :=
  nm (xq2 + (-1 : Int32)) (fun vq9 => L70 xq1 vq9 σ)
def f_X11_stuck_L70 (K161 : Int32 → Mm → Option (Int32 × Mm))  (L70 : Int32 → Int32 → Mm → Option (Int32 × Mm)) (xq1 : Int32) (xq2 : Int32) (σ : Mm) : Option (Int32 × Mm) :=
  (if xq2 < 0 then K161 xq1 σ else fx (fun _ _ _ => none) FU (f_X11_stuck_L76 (fun (xq1 : Int32) (σ : Mm) => f_X11_stuck_155 L70 xq1 xq2 σ) xq2) xq1 (0 : Int32) σ)
def f_X11_stuck_161 (L57 : Int32 → Mm → Option (Int32 × Mm)) (xq1 : Int32) (σ : Mm) : Option (Int32 × Mm) :=
  L57 xq1 σ
def f_X11_stuck_L57 (K164 : Mm → Option (Int32 × Mm))  (L57 : Int32 → Mm → Option (Int32 × Mm)) (xq1 : Int32) (σ : Mm) : Option (Int32 × Mm) :=
  (if xq1 = 0 then K164 σ else nm ((σ.1 48 50) - (1 : Int32)) (fun vq5 => fx (fun _ _ _ => none) FU (f_X11_stuck_L70 (fun (xq1 : Int32) (σ : Mm) => f_X11_stuck_161 L57 xq1 σ) ) (0 : Int32) vq5 σ))
def f_X11_stuck_191 (L168 : Int32 → Int32 → Mm → Option (Int32 × Mm)) (xq3 : Int32) (xqs0 : Int32) (xqs1 : Int32) (σ : Mm) : Option (Int32 × Mm) :=
  nm (xqs0 + xqs1) (fun vq10 => nm (xq3 + (1 : Int32)) (fun vq11 => L168 vq10 vq11 σ))
def f_X11_stuck_L168  (L168 : Int32 → Int32 → Mm → Option (Int32 × Mm)) (xq2 : Int32) (xq3 : Int32) (σ : Mm) : Option (Int32 × Mm) :=
  (if (σ.1 48 50) ≤ xq3 then some (xq2, σ) else ck xq3 6001 ((if (σ.1 86 (ix xq3)) = 0 then f_X11_stuck_191 L168 xq3 xq2 (1 : Int32) σ else f_X11_stuck_191 L168 xq3 xq2 (0 : Int32) σ)))
def f_X11_stuck_164  (σ : Mm) : Option (Int32 × Mm) :=
  fx (fun _ _ _ => none) FU (f_X11_stuck_L168  ) (0 : Int32) (0 : Int32) σ
def f_X11_stuck_55  (σ : Mm) : Option (Int32 × Mm) :=
  fx (fun _ _ => none) FU (f_X11_stuck_L57 (fun  (σ : Mm) => f_X11_stuck_164  σ) ) (1 : Int32) σ
def f_X11_stuck  (σ : Mm) : Option (Int32 × Mm) :=
  bd (f_X11_lookAll σ) (fun rq2 σ1 => (if (σ1.1 48 49) = 0 then fx (fun _ _ => none) FU (f_X11_stuck_L21 (fun  (σ : Mm) => f_X11_stuck_55  σ) ) (0 : Int32) σ1 else bd (f_X11_finds (-1000000007 : Int32) σ1) (fun rq13 σ12 => some (rq13, σ12))))
def f_X11_round_L21 (K42 : Mm → Option (Int32 × Mm))  (L21 : Int32 → Mm → Option (Int32 × Mm)) (xq1 : Int32) (σ : Mm) : Option (Int32 × Mm) :=
  (if (σ.1 48 50) ≤ xq1 then K42 σ else ck xq1 6001 (nm (sI σ 92 (ix xq1) (0 : Int32)) (fun σ3 => nm (xq1 + (1 : Int32)) (fun vq4 => L21 vq4 σ3))))
def f_X11_round_79 (L44 : Int32 → Mm → Option (Int32 × Mm)) (xq1 : Int32) (σ : Mm) : Option (Int32 × Mm) :=
  nm (xq1 + (1 : Int32)) (fun vq5 => L44 vq5 σ)
def f_X11_round_L44 (K85 : Mm → Option (Int32 × Mm))  (L44 : Int32 → Mm → Option (Int32 × Mm)) (xq1 : Int32) (σ : Mm) : Option (Int32 × Mm) :=
  (if ((6 : Int32) * (σ.1 48 50)) ≤ xq1 then K85 σ else ck xq1 36006 ((if (σ.1 83 (ix xq1)) < 0 then f_X11_round_79 L44 xq1 σ else ck xq1 36006 (nm (σ.1 83 (ix xq1)) (fun vq6 => ck vq6 6001 (ck vq6 6001 (nm (sI σ 92 (ix vq6) ((σ.1 92 (ix vq6)) + (1 : Int32))) (fun σ7 => f_X11_round_79 L44 xq1 σ7))))))))
def f_X11_round_116 (L89 : Int32 → Int32 → Mm → Option (Int32 × Mm)) (xq1 : Int32) (xq2 : Int32) (σ : Mm) : Option (Int32 × Mm) :=
  nm (xq2 + (1 : Int32)) (fun vq8 => L89 xq1 vq8 σ)
def f_X11_round_L89 (K122 : Int32 → Mm → Option (Int32 × Mm))  (L89 : Int32 → Int32 → Mm → Option (Int32 × Mm)) (xq1 : Int32) (xq2 : Int32) (σ : Mm) : Option (Int32 × Mm) :=
  (if (σ.1 48 50) ≤ xq2 then K122 xq1 σ else ck xq2 6001 ((if (σ.1 92 (ix xq2)) = 0 then ck xq1 6001 (nm (sI σ 93 (ix xq1) xq2) (fun σ9 => nm (xq1 + (1 : Int32)) (fun vq10 => f_X11_round_116 L89 vq10 xq2 σ9))) else f_X11_round_116 L89 xq1 xq2 σ)))
def f_X11_round_195 (L131 : Int32 → Int32 → Mm → Option (Int32 × Mm)) (xq1 : Int32) (xq2 : Int32) (xq3 : Int32) (σ : Mm) : Option (Int32 × Mm) :=
  nm (xq3 + (1 : Int32)) (fun vq13 => L131 xq1 vq13 σ)
def f_X11_round_L131 (K201 : Int32 → Mm → Option (Int32 × Mm)) (xq2 : Int32) (L131 : Int32 → Int32 → Mm → Option (Int32 × Mm)) (xq1 : Int32) (xq3 : Int32) (σ : Mm) : Option (Int32 × Mm) :=
  (if (6 : Int32) ≤ xq3 then K201 xq1 σ else ck xq2 6001 (ck (((6 : Int32) * (σ.1 93 (ix xq2))) + xq3) 36006 (nm (σ.1 83 (ix (((6 : Int32) * (σ.1 93 (ix xq2))) + xq3))) (fun vq11 => (if 0 ≤ vq11 then ck vq11 6001 (ck vq11 6001 (nm (sI σ 92 (ix vq11) ((σ.1 92 (ix vq11)) - (1 : Int32))) (fun σ12 => ck vq11 6001 ((if (σ12.1 92 (ix vq11)) = 0 then ck xq1 6001 (nm (sI σ12 93 (ix xq1) vq11) (fun σ14 => nm (xq1 + (1 : Int32)) (fun vq15 => f_X11_round_195 L131 vq15 xq2 xq3 σ14))) else f_X11_round_195 L131 xq1 xq2 xq3 σ12))))) else f_X11_round_195 L131 xq1 xq2 xq3 σ)))))
def f_X11_round_201 (L124 : Int32 → Int32 → Mm → Option (Int32 × Mm)) (xq1 : Int32) (xq2 : Int32) (σ : Mm) : Option (Int32 × Mm) :=
  nm (xq2 + (1 : Int32)) (fun vq16 => L124 xq1 vq16 σ)
def f_X11_round_L124 (K207 : Int32 → Mm → Option (Int32 × Mm))  (L124 : Int32 → Int32 → Mm → Option (Int32 × Mm)) (xq1 : Int32) (xq2 : Int32) (σ : Mm) : Option (Int32 × Mm) :=
  (if xq1 ≤ xq2 then K207 xq1 σ else fx (fun _ _ _ => none) FU (f_X11_round_L131 (fun (xq1 : Int32) (σ : Mm) => f_X11_round_201 L124 xq1 xq2 σ) xq2) xq1 (0 : Int32) σ)
def f_X11_round_207 (xq1 : Int32) (σ : Mm) : Option (Int32 × Mm) :=
  (if (σ.1 48 50) ≤ xq1 then some ((0 : Int32), σ) else some ((1 : Int32), σ))
def f_X11_round_122 (xq1 : Int32) (σ : Mm) : Option (Int32 × Mm) :=
  fx (fun _ _ _ => none) FU (f_X11_round_L124 (fun (xq1 : Int32) (σ : Mm) => f_X11_round_207 xq1 σ) ) xq1 (0 : Int32) σ
def f_X11_round_85  (σ : Mm) : Option (Int32 × Mm) :=
  fx (fun _ _ _ => none) FU (f_X11_round_L89 (fun (xq1 : Int32) (σ : Mm) => f_X11_round_122 xq1 σ) ) (0 : Int32) (0 : Int32) σ
def f_X11_round_42  (σ : Mm) : Option (Int32 × Mm) :=
  fx (fun _ _ => none) FU (f_X11_round_L44 (fun  (σ : Mm) => f_X11_round_85  σ) ) (0 : Int32) σ
def f_X11_round  (σ : Mm) : Option (Int32 × Mm) :=
  bd (f_X11_lookAll σ) (fun rq2 σ1 => (if (σ1.1 48 49) = 0 then fx (fun _ _ => none) FU (f_X11_round_L21 (fun  (σ : Mm) => f_X11_round_42  σ) ) (0 : Int32) σ1 else bd (f_X11_finds (-1000000007 : Int32) σ1) (fun rq18 σ17 => some (rq18, σ17))))
def f_X11_badWith (aq0 : Int32) (σ : Mm) : Option (Int32 × Mm) :=
  bd (f_X11_goesThrough aq0 σ) (fun rq2 σ1 => (if rq2 = 0 then some ((-1000000007 : Int32), σ1) else bd (f_X11_findResults σ1) (fun rq4 σ3 => bd (f_X11_findGoods σ3) (fun rq6 σ5 => bd (f_X11_badMany σ5) (fun rq8 σ7 => (if rq8 = 0 then some ((0 : Int32), σ7) else some ((1 : Int32), σ7)))))))
def f_X11_heal_112 (L55 : Int32 → Int32 → Int32 → Mm → Option (Int32 × Mm)) (xq3 : Int32) (xq4 : Int32) (xq6 : Int32) (xq7 : Int32) (xqs0 : Int32) (xqs1 : Int32) (σ : Mm) : Option (Int32 × Mm) :=
  nm (xqs0 ||| xqs1) (fun vq12 => nm (xq7 + (1 : Int32)) (fun vq13 => L55 vq12 xq6 vq13 σ))
def f_X11_heal_95 (L55 : Int32 → Int32 → Int32 → Mm → Option (Int32 × Mm)) (xq3 : Int32) (xq4 : Int32) (xq5 : Int32) (xq7 : Int32) (xq9 : Int32) (xqs0 : Int32) (σ : Mm) : Option (Int32 × Mm) :=
  (if xq9 = 0 then f_X11_heal_112 L55 xq3 xq4 xqs0 xq7 xq5 ((1 : Int32) <<< (xq7 &&& 31)) σ else f_X11_heal_112 L55 xq3 xq4 xqs0 xq7 xq5 (0 : Int32) σ)
def f_X11_heal_L55 (K121 : Int32 → Int32 → Mm → Option (Int32 × Mm)) (xq3 : Int32) (xq4 : Int32) (L55 : Int32 → Int32 → Int32 → Mm → Option (Int32 × Mm)) (xq5 : Int32) (xq6 : Int32) (xq7 : Int32) (σ : Mm) : Option (Int32 × Mm) :=
  (if (4 : Int32) ≤ xq7 then K121 xq5 xq6 σ else (if xq6 = 0 then bd (f_X11_put xq3 xq7 σ) (fun rq9 σ8 => bd (f_X11_badWith (0 : Int32) σ8) (fun rq11 σ10 => (if rq11 = (-1000000007 : Int32) then f_X11_heal_95 L55 xq3 xq4 xq5 xq7 rq11 (1 : Int32) σ10 else f_X11_heal_95 L55 xq3 xq4 xq5 xq7 rq11 (0 : Int32) σ10))) else K121 xq5 xq6 σ))
def f_X11_heal_121 (xq3 : Int32) (xq4 : Int32) (xq5 : Int32) (xq6 : Int32) (σ : Mm) : Option (Int32 × Mm) :=
  bd (f_X11_put xq3 xq4 σ) (fun rq15 σ14 => (if xq6 = 0 then some (xq5, σ14) else bd (f_X11_finds (-1000000007 : Int32) σ14) (fun rq17 σ16 => some (rq17, σ16))))
def f_X11_heal (aq0 : Int32) (aq1 : Int32) (σ : Mm) : Option (Int32 × Mm) :=
  bd (f_X11_isStep aq0 aq1 σ) (fun rq2 σ1 => (if rq2 = 0 then bd (f_X11_finds (-1000000001 : Int32) σ1) (fun rq21 σ20 => some (rq21, σ20)) else nm (((7 : Int32) * aq0) + aq1) (fun vq3 => bd (f_X11_hasValue vq3 σ1) (fun rq5 σ4 => (if rq5 = 0 then bd (f_X11_finds (-1000000003 : Int32) σ4) (fun rq19 σ18 => some (rq19, σ18)) else bd (f_X11_put vq3 (0 : Int32) σ4) (fun rq7 σ6 => fx (fun _ _ _ _ => none) FU (f_X11_heal_L55 (fun (xq5 : Int32) (xq6 : Int32) (σ : Mm) => f_X11_heal_121 vq3 rq7 xq5 xq6 σ) vq3 rq7) (0 : Int32) (0 : Int32) (0 : Int32) σ6))))))
def f_X11_ones_L4 (xq0 : Int32) (L4 : Int32 → Int32 → Mm → Option (Int32 × Mm)) (xq1 : Int32) (xq2 : Int32) (σ : Mm) : Option (Int32 × Mm) :=
  (if (6 : Int32) ≤ xq2 then some (xq1, σ) else nm (xq1 + ((xq0 >>> (xq2 &&& 31)) &&& (1 : Int32))) (fun vq1 => nm (xq2 + (1 : Int32)) (fun vq2 => L4 vq1 vq2 σ)))
def f_X11_ones (aq0 : Int32) (σ : Mm) : Option (Int32 × Mm) :=
  fx (fun _ _ _ => none) FU (f_X11_ones_L4  aq0) (0 : Int32) (0 : Int32) σ
def f_X11_fences_72 (L21 : Int32 → Mm → Option (Int32 × Mm)) (xq1 : Int32) (xq2 : Int32) (σ : Mm) : Option (Int32 × Mm) :=
  nm (xq2 + (1 : Int32)) (fun vq10 => L21 vq10 σ)
def f_X11_fences_L21 (K53 : Int32 → Int32 → Mm → Option (Int32 × Mm)) (K78 : Mm → Option (Int32 × Mm)) (xq1 : Int32) (L21 : Int32 → Mm → Option (Int32 × Mm)) (xq2 : Int32) (σ : Mm) : Option (Int32 × Mm) :=
  (if ((1 : Int32) <<< ((σ.1 48 37) &&& 31)) ≤ xq2 then K78 σ else bd (f_X11_ones xq2 σ) (fun rq7 σ6 => (if rq7 = xq1 then bd (f_X11_badWith xq2 σ6) (fun rq9 σ8 => (if rq9 = (1 : Int32) then f_X11_fences_72 L21 xq1 xq2 σ8 else K53 xq2 rq9 σ8)) else f_X11_fences_72 L21 xq1 xq2 σ6)))
def f_X11_fences_78 (L11 : Int32 → Mm → Option (Int32 × Mm)) (xq1 : Int32) (σ : Mm) : Option (Int32 × Mm) :=
  nm (xq1 + (1 : Int32)) (fun vq11 => L11 vq11 σ)
def f_X11_fences_L11 (K53 : Int32 → Int32 → Mm → Option (Int32 × Mm))  (L11 : Int32 → Mm → Option (Int32 × Mm)) (xq1 : Int32) (σ : Mm) : Option (Int32 × Mm) :=
  (if (σ.1 48 37) < xq1 then bd (f_X11_finds (-1000000004 : Int32) σ) (fun rq5 σ4 => some (rq5, σ4)) else fx (fun _ _ => none) FU (f_X11_fences_L21 (fun (xq2 : Int32) (xq3 : Int32) (σ : Mm) => K53 xq2 xq3 σ) (fun  (σ : Mm) => f_X11_fences_78 L11 xq1 σ) xq1) (0 : Int32) σ)
def f_X11_fences_53 (xq2 : Int32) (xq3 : Int32) (σ : Mm) : Option (Int32 × Mm) :=
  (if xq3 = (-1000000007 : Int32) then bd (f_X11_finds (-1000000007 : Int32) σ) (fun rq13 σ12 => some (rq13, σ12)) else some (xq2, σ))
def f_X11_fences  (σ : Mm) : Option (Int32 × Mm) :=
  bd (f_X11_findWrites σ) (fun rq2 σ1 => cb (0 : Int32) (nm (sI σ1 48 48 (0 : Int32)) (fun σ3 => fx (fun _ _ => none) FU (f_X11_fences_L11 (fun (xq2 : Int32) (xq3 : Int32) (σ : Mm) => f_X11_fences_53 xq2 xq3 σ) ) (0 : Int32) σ3)))
def f_X11_isSheet (aq0 : Int32) (σ : Mm) : Option (Int32 × Mm) :=
  bd (f_X11_in aq0 (0 : Int32) (3 : Int32) σ) (fun rq2 σ1 => cb rq2 (some (rq2, σ1)))
def f_X11_plays_L16 (K34 : Mm → Option (Int32 × Mm)) (xq1 : Int32) (L16 : Int32 → Mm → Option (Int32 × Mm)) (xq2 : Int32) (σ : Mm) : Option (Int32 × Mm) :=
  (if (3 : Int32) ≤ xq2 then K34 σ else ck xq2 3 (nm (sI σ 94 (ix xq2) (-1 : Int32)) (fun σ6 => nm (xq2 + (1 : Int32)) (fun vq7 => L16 vq7 σ6))))
def f_X11_plays_172 (L36 : Int32 → Mm → Option (Int32 × Mm)) (xq1 : Int32) (xq2 : Int32) (σ : Mm) : Option (Int32 × Mm) :=
  nm (xq2 + (1 : Int32)) (fun vq14 => L36 vq14 σ)
def f_X11_plays_157 (L36 : Int32 → Mm → Option (Int32 × Mm)) (xq1 : Int32) (xq2 : Int32) (xq5 : Int32) (xqs1 : Int32) (xqs2 : Int32) (σ : Mm) : Option (Int32 × Mm) :=
  nm (sI σ 48 66 (xqs1 + xqs2)) (fun σ16 => ck (σ16.1 48 47) 3 (nm (sI σ16 94 (ix (σ16.1 48 47)) xq5) (fun σ17 => f_X11_plays_172 L36 xq1 xq2 σ17)))
def f_X11_plays_156 (L36 : Int32 → Mm → Option (Int32 × Mm)) (xq1 : Int32) (xq2 : Int32) (xq5 : Int32) (xqs1 : Int32) (σ : Mm) : Option (Int32 × Mm) :=
  f_X11_plays_157 L36 xq1 xq2 xq5 xqs1 (0 : Int32) σ
def f_X11_plays_L36 (xq1 : Int32) (L36 : Int32 → Mm → Option (Int32 × Mm)) (xq2 : Int32) (σ : Mm) : Option (Int32 × Mm) :=
  ck xq1 4 ((if (σ.1 62 (ix xq1)) ≤ xq2 then ck xq1 4 (some ((σ.1 62 (ix xq1)), σ)) else ck (((40 : Int32) * xq1) + xq2) 160 (nm (σ.2 63 (ix (((40 : Int32) * xq1) + xq2))) (fun vq8 => (if (lg_cmp vq8 (0 : Int64)) < 0 then some (xq2, σ) else (if 0 < (lg_cmp vq8 (12 : Int64)) then some (xq2, σ) else bd (f_X11_can ((vq8).toInt32) (σ.1 48 11) σ) (fun rq10 σ9 => (if rq10 = 0 then some (xq2, σ9) else bd (f_X11_does ((vq8).toInt32) (σ9.1 48 11) σ9) (fun rq12 σ11 => nm (sI σ11 48 66 ((σ11.1 48 66) + (1 : Int32))) (fun σ13 => (if (σ13.1 48 47) < 0 then f_X11_plays_172 L36 xq1 xq2 σ13 else nm (irm ((vq8).toInt32) (10 : Int32)) (fun vq15 => ck (σ13.1 48 47) 3 ((if (σ13.1 94 (ix (σ13.1 48 47))) < 0 then f_X11_plays_156 L36 xq1 xq2 vq15 (σ13.1 48 66) σ13 else ck (σ13.1 48 47) 3 ((if (σ13.1 94 (ix (σ13.1 48 47))) = vq15 then f_X11_plays_156 L36 xq1 xq2 vq15 (σ13.1 48 66) σ13 else f_X11_plays_157 L36 xq1 xq2 vq15 (σ13.1 48 66) (4 : Int32) σ13))))))))))))))))
def f_X11_plays_34 (xq1 : Int32) (σ : Mm) : Option (Int32 × Mm) :=
  fx (fun _ _ => none) FU (f_X11_plays_L36  xq1) (0 : Int32) σ
def f_X11_plays (aq0 : Int32) (σ : Mm) : Option (Int32 × Mm) :=
  bd (f_X11_lay (0 : Int32) σ) (fun rq2 σ1 => bd (f_X11_begins σ1) (fun rq4 σ3 => nm (sI σ3 48 66 (0 : Int32)) (fun σ5 => fx (fun _ _ => none) FU (f_X11_plays_L16 (fun  (σ : Mm) => f_X11_plays_34 aq0 σ) aq0) (0 : Int32) σ5)))
def f_X11_playedWhole (aq0 : Int32) (σ : Mm) : Option (Int32 × Mm) :=
  bd (f_X11_isSheet aq0 σ) (fun rq2 σ1 => (if rq2 = 0 then some ((-1000000001 : Int32), σ1) else ck aq0 4 ((if (σ1.1 61 (ix aq0)) = 0 then some ((-1000000006 : Int32), σ1) else bd (f_X11_plays aq0 σ1) (fun rq4 σ3 => ck aq0 4 ((if (σ3.1 62 (ix aq0)) ≤ rq4 then some ((0 : Int32), σ3) else some ((-1000000005 : Int32), σ3))))))))
def f_X11_cost (aq0 : Int32) (σ : Mm) : Option (Int32 × Mm) :=
  bd (f_X11_playedWhole aq0 σ) (fun rq2 σ1 => (if rq2 = 0 then some ((σ1.1 48 66), σ1) else bd (f_X11_finds rq2 σ1) (fun rq4 σ3 => some (rq4, σ3))))
def f_X11_played (aq0 : Int32) (σ : Mm) : Option (Int32 × Mm) :=
  bd (f_X11_isSheet aq0 σ) (fun rq2 σ1 => (if rq2 = 0 then bd (f_X11_finds (-1000000001 : Int32) σ1) (fun rq8 σ7 => some (rq8, σ7)) else ck aq0 4 ((if (σ1.1 61 (ix aq0)) = 0 then bd (f_X11_finds (-1000000006 : Int32) σ1) (fun rq6 σ5 => some (rq6, σ5)) else bd (f_X11_plays aq0 σ1) (fun rq4 σ3 => some (rq4, σ3))))))
def f_X11_judge (aq0 : Int32) (σ : Mm) : Option (Int32 × Mm) :=
  bd (f_X11_playedWhole aq0 σ) (fun rq2 σ1 => (if rq2 = 0 then bd (f_X11_isEnd σ1) (fun rq4 σ3 => (if rq4 = 0 then some ((2 : Int32), σ3) else bd (f_X11_resultNow σ3) (fun rq6 σ5 => bd (f_X11_findGoods σ5) (fun rq8 σ7 => bd (f_X11_isGood rq6 σ7) (fun rq10 σ9 => (if rq10 = 0 then some ((1 : Int32), σ9) else some ((0 : Int32), σ9))))))) else bd (f_X11_finds rq2 σ1) (fun rq12 σ11 => some (rq12, σ11))))
def f_X11_moves_53 (L21 : Int32 → Int32 → Mm → Option (Int32 × Mm)) (xq4 : Int32) (xqs0 : Int32) (xqs1 : Int32) (σ : Mm) : Option (Int32 × Mm) :=
  nm (xqs0 ||| xqs1) (fun vq7 => nm (xq4 + (1 : Int32)) (fun vq8 => L21 vq7 vq8 σ))
def f_X11_moves_L21  (L21 : Int32 → Int32 → Mm → Option (Int32 × Mm)) (xq3 : Int32) (xq4 : Int32) (σ : Mm) : Option (Int32 × Mm) :=
  (if (6 : Int32) ≤ xq4 then some (xq3, σ) else bd (f_X11_moveOf xq4 σ) (fun rq4 σ3 => bd (f_X11_can rq4 (σ3.1 48 11) σ3) (fun rq6 σ5 => (if rq6 = 0 then f_X11_moves_53 L21 xq4 xq3 (0 : Int32) σ5 else f_X11_moves_53 L21 xq4 xq3 ((1 : Int32) <<< (xq4 &&& 31)) σ5))))
def f_X11_moves (aq0 : Int32) (σ : Mm) : Option (Int32 × Mm) :=
  bd (f_X11_playedWhole aq0 σ) (fun rq2 σ1 => (if rq2 = 0 then fx (fun _ _ _ => none) FU (f_X11_moves_L21  ) (0 : Int32) (0 : Int32) σ1 else bd (f_X11_finds rq2 σ1) (fun rq10 σ9 => some (rq10, σ9))))
def f_X11_after_39 (xq1 : Int32) (xq2 : Int32) (xqs0 : Int32) (σ : Mm) : Option (Int32 × Mm) :=
  bd (f_X11_isSheet xq1 σ) (fun rq4 σ3 => (if rq4 = 0 then bd (f_X11_finds (-1000000001 : Int32) σ3) (fun rq6 σ5 => some (rq6, σ5)) else (if xqs0 = 0 then bd (f_X11_finds (-1000000001 : Int32) σ3) (fun rq18 σ17 => some (rq18, σ17)) else bd (f_X11_playedWhole xq1 σ3) (fun rq8 σ7 => (if rq8 = 0 then (if (10 : Int32) ≤ xq2 then nm ((xq2 / (10 : Int32)) - (1 : Int32)) (fun vq9 => nm (irm xq2 (10 : Int32)) (fun vq10 => (if vq10 = (0 : Int32) then ck vq9 3 (some ((σ7.1 77 (ix vq9)), σ7)) else (if vq10 = (1 : Int32) then ck vq9 3 (some ((σ7.1 78 (ix vq9)), σ7)) else (if vq10 = (2 : Int32) then ck vq9 3 (some ((σ7.1 79 (ix vq9)), σ7)) else (if vq10 = (3 : Int32) then ck vq9 3 (some ((σ7.1 76 (ix vq9)), σ7)) else ck vq9 3 (some ((σ7.1 75 (ix vq9)), σ7)))))))) else ck xq2 3 (some ((σ7.1 74 (ix xq2)), σ7))) else bd (f_X11_finds rq8 σ7) (fun rq16 σ15 => some (rq16, σ15)))))))
def f_X11_after_34 (xq1 : Int32) (xq2 : Int32) (σ : Mm) : Option (Int32 × Mm) :=
  f_X11_after_39 xq1 xq2 (1 : Int32) σ
def f_X11_after_38 (xq1 : Int32) (xq2 : Int32) (σ : Mm) : Option (Int32 × Mm) :=
  f_X11_after_39 xq1 xq2 (0 : Int32) σ
def f_X11_after (aq0 : Int32) (aq1 : Int32) (σ : Mm) : Option (Int32 × Mm) :=
  bd (f_X11_in aq1 (0 : Int32) (2 : Int32) σ) (fun rq2 σ1 => (if rq2 = 0 then (if aq1 < (10 : Int32) then f_X11_after_38 aq0 aq1 σ1 else (if (σ1.1 48 7) < (aq1 / (10 : Int32)) then f_X11_after_38 aq0 aq1 σ1 else (if (4 : Int32) < (irm aq1 (10 : Int32)) then f_X11_after_38 aq0 aq1 σ1 else f_X11_after_34 aq0 aq1 σ1))) else f_X11_after_34 aq0 aq1 σ1))
def f_X11_layRow_L25 (xq1 : Int32) (L25 : Int32 → Mm → Option (Unit × Mm)) (xq4 : Int32) (σ : Mm) : Option (Unit × Mm) :=
  (if (40 : Int32) ≤ xq4 then some ((), σ) else ck (((40 : Int32) * xq1) + xq4) 160 (nm (sL σ 63 (ix (((40 : Int32) * xq1) + xq4)) (0 : Int64)) (fun σ3 => nm (xq4 + (1 : Int32)) (fun vq4 => L25 vq4 σ3))))
def f_X11_layRow_21 (xq1 : Int32) (xqs1 : Int32) (xqs2 : Int32) (σ : Mm) : Option (Unit × Mm) :=
  ck xqs1 4 (nm (sI σ 62 (ix xqs1) xqs2) (fun σ2 => fx (fun _ _ => none) FU (f_X11_layRow_L25  xq1) (0 : Int32) σ2))
def f_X11_layRow (aq0 : Int32) (aq1 : Int32) (aq2 : Int32) (σ : Mm) : Option (Unit × Mm) :=
  ck aq0 4 (nm (sI σ 61 (ix aq0) aq1) (fun σ1 => (if aq1 = 0 then f_X11_layRow_21 aq0 aq0 (0 : Int32) σ1 else f_X11_layRow_21 aq0 aq0 aq2 σ1)))
def f_X11_sheet_36 (xq1 : Int32) (xq2 : Int32) (xq3 : Int32) (σ : Mm) : Option (Int32 × Mm) :=
  (if 0 ≤ xq3 then (if xq3 ≤ (40 : Int32) then bd (f_X11_layRow xq1 xq2 xq3 σ) (fun rq6 σ5 => ck xq1 4 (some ((σ5.1 62 (ix xq1)), σ5))) else bd (f_X11_finds (-1000000001 : Int32) σ) (fun rq8 σ7 => some (rq8, σ7))) else bd (f_X11_finds (-1000000007 : Int32) σ) (fun rq10 σ9 => some (rq10, σ9)))
def f_X11_sheet (aq0 : Int32) (aq1 : Int32) (aq2 : Int32) (σ : Mm) : Option (Int32 × Mm) :=
  bd (f_X11_isSheet aq0 σ) (fun rq2 σ1 => (if rq2 = 0 then bd (f_X11_finds (-1000000001 : Int32) σ1) (fun rq4 σ3 => some (rq4, σ3)) else (if aq1 = 0 then f_X11_sheet_36 aq0 aq1 aq2 σ1 else (if aq1 = (8 : Int32) then f_X11_sheet_36 aq0 aq1 aq2 σ1 else (if aq1 = (16 : Int32) then f_X11_sheet_36 aq0 aq1 aq2 σ1 else (if aq1 = (64 : Int32) then f_X11_sheet_36 aq0 aq1 aq2 σ1 else bd (f_X11_finds (-1000000001 : Int32) σ1) (fun rq12 σ11 => some (rq12, σ11))))))))
def f_X11_write (aq0 : Int32) (aq1 : Int32) (aq2 : Int64) (σ : Mm) : Option (Int64 × Mm) :=
  bd (f_X11_isSheet aq0 σ) (fun rq2 σ1 => (if rq2 = 0 then bd (f_X11_finds (-1000000001 : Int32) σ1) (fun rq14 σ13 => some (((rq14).toInt64), σ13)) else ck aq0 4 ((if (σ1.1 61 (ix aq0)) = 0 then bd (f_X11_finds (-1000000006 : Int32) σ1) (fun rq12 σ11 => some (((rq12).toInt64), σ11)) else ck aq0 4 (bd (f_X11_in aq1 (0 : Int32) ((σ1.1 62 (ix aq0)) - (1 : Int32)) σ1) (fun rq4 σ3 => (if rq4 = 0 then bd (f_X11_finds (-1000000001 : Int32) σ3) (fun rq10 σ9 => some (((rq10).toInt64), σ9)) else ck (((40 : Int32) * aq0) + aq1) 160 (nm (σ3.2 63 (ix (((40 : Int32) * aq0) + aq1))) (fun vq5 => ck aq0 4 ((if (σ3.1 61 (ix aq0)) = (8 : Int32) then ck (((40 : Int32) * aq0) + aq1) 160 (nm (sL σ3 63 (ix (((40 : Int32) * aq0) + aq1)) ((((((aq2).toInt32)).toInt8.toInt32)).toInt64)) (fun σ8 => some (vq5, σ8))) else ck aq0 4 ((if (σ3.1 61 (ix aq0)) = (16 : Int32) then ck (((40 : Int32) * aq0) + aq1) 160 (nm (sL σ3 63 (ix (((40 : Int32) * aq0) + aq1)) ((((((aq2).toInt32)).toInt16.toInt32)).toInt64)) (fun σ7 => some (vq5, σ7))) else ck (((40 : Int32) * aq0) + aq1) 160 (nm (sL σ3 63 (ix (((40 : Int32) * aq0) + aq1)) aq2) (fun σ6 => some (vq5, σ6))))))))))))))))
def f_X11_copy_L120 (K154 : Mm → Option (Int32 × Mm)) (xq1 : Int32) (xq2 : Int32) (xq3 : Int32) (xq4 : Int32) (xq5 : Int32) (L120 : Int32 → Mm → Option (Int32 × Mm)) (xq6 : Int32) (σ : Mm) : Option (Int32 × Mm) :=
  (if xq5 ≤ xq6 then K154 σ else ck ((((40 : Int32) * xq1) + xq2) + xq6) 160 (ck xq6 40 (nm (sL σ 64 (ix xq6) (σ.2 63 (ix ((((40 : Int32) * xq1) + xq2) + xq6)))) (fun σ17 => nm (xq6 + (1 : Int32)) (fun vq18 => L120 vq18 σ17)))))
def f_X11_copy_L157 (xq3 : Int32) (xq4 : Int32) (xq5 : Int32) (L157 : Int32 → Mm → Option (Int32 × Mm)) (xq6 : Int32) (σ : Mm) : Option (Int32 × Mm) :=
  (if xq5 ≤ xq6 then some (xq5, σ) else ck xq6 40 (ck ((((40 : Int32) * xq3) + xq4) + xq6) 160 (nm (sL σ 63 (ix ((((40 : Int32) * xq3) + xq4) + xq6)) (σ.2 64 (ix xq6))) (fun σ19 => nm (xq6 + (1 : Int32)) (fun vq20 => L157 vq20 σ19)))))
def f_X11_copy_154 (xq3 : Int32) (xq4 : Int32) (xq5 : Int32) (σ : Mm) : Option (Int32 × Mm) :=
  fx (fun _ _ => none) FU (f_X11_copy_L157  xq3 xq4 xq5) (0 : Int32) σ
def f_X11_copy (aq0 : Int32) (aq1 : Int32) (aq2 : Int32) (aq3 : Int32) (aq4 : Int32) (σ : Mm) : Option (Int32 × Mm) :=
  bd (f_X11_isSheet aq0 σ) (fun rq2 σ1 => (if rq2 = 0 then bd (f_X11_finds (-1000000001 : Int32) σ1) (fun rq4 σ3 => some (rq4, σ3)) else bd (f_X11_isSheet aq2 σ1) (fun rq6 σ5 => (if rq6 = 0 then bd (f_X11_finds (-1000000001 : Int32) σ5) (fun rq28 σ27 => some (rq28, σ27)) else ck aq0 4 ((if (σ5.1 61 (ix aq0)) = 0 then bd (f_X11_finds (-1000000006 : Int32) σ5) (fun rq8 σ7 => some (rq8, σ7)) else ck aq2 4 ((if (σ5.1 61 (ix aq2)) = 0 then bd (f_X11_finds (-1000000006 : Int32) σ5) (fun rq26 σ25 => some (rq26, σ25)) else ck aq0 4 (ck aq2 4 ((if (σ5.1 61 (ix aq0)) = (σ5.1 61 (ix aq2)) then (if aq1 < 0 then bd (f_X11_finds (-1000000001 : Int32) σ5) (fun rq10 σ9 => some (rq10, σ9)) else (if aq3 < 0 then bd (f_X11_finds (-1000000001 : Int32) σ5) (fun rq12 σ11 => some (rq12, σ11)) else (if aq4 < 0 then bd (f_X11_finds (-1000000001 : Int32) σ5) (fun rq14 σ13 => some (rq14, σ13)) else ck aq0 4 ((if ((σ5.1 62 (ix aq0)) - aq4) < aq1 then bd (f_X11_finds (-1000000001 : Int32) σ5) (fun rq16 σ15 => some (rq16, σ15)) else ck aq2 4 ((if aq3 ≤ ((σ5.1 62 (ix aq2)) - aq4) then fx (fun _ _ => none) FU (f_X11_copy_L120 (fun  (σ : Mm) => f_X11_copy_154 aq2 aq3 aq4 σ) aq0 aq1 aq2 aq3 aq4) (0 : Int32) σ5 else bd (f_X11_finds (-1000000001 : Int32) σ5) (fun rq22 σ21 => some (rq22, σ21))))))))) else bd (f_X11_finds (-1000000003 : Int32) σ5) (fun rq24 σ23 => some (rq24, σ23)))))))))))))
def f_X11_lead_L58 (xq1 : Int32) (L58 : Int32 → Mm → Option (Int32 × Mm)) (xq3 : Int32) (σ : Mm) : Option (Int32 × Mm) :=
  (if (σ.1 48 63) ≤ xq3 then some ((σ.1 48 63), σ) else ck xq3 6001 (ck (((40 : Int32) * xq1) + xq3) 160 (nm (sL σ 63 (ix (((40 : Int32) * xq1) + xq3)) (((σ.1 91 (ix xq3))).toInt64)) (fun σ7 => nm (xq3 + (1 : Int32)) (fun vq8 => L58 vq8 σ7)))))
def f_X11_lead (aq0 : Int32) (σ : Mm) : Option (Int32 × Mm) :=
  bd (f_X11_isSheet aq0 σ) (fun rq2 σ1 => (if rq2 = 0 then bd (f_X11_finds (-1000000001 : Int32) σ1) (fun rq14 σ13 => some (rq14, σ13)) else bd (f_X11_leads σ1) (fun rq4 σ3 => (if rq4 = 0 then (if (σ3.1 48 63) ≤ (40 : Int32) then bd (f_X11_layRow aq0 (8 : Int32) (σ3.1 48 63) σ3) (fun rq6 σ5 => fx (fun _ _ => none) FU (f_X11_lead_L58  aq0) (0 : Int32) σ5) else bd (f_X11_finds (-1000000002 : Int32) σ3) (fun rq10 σ9 => some (rq10, σ9))) else bd (f_X11_finds rq4 σ3) (fun rq12 σ11 => some (rq12, σ11))))))
def f_X11_passes (aq0 : Int32) (aq1 : Int32) (aq2 : Int32) (σ : Mm) : Option (Int32 × Mm) :=
  (if aq0 = 0 then ck aq1 234 (ck aq1 234 (nm (sI σ 60 (ix aq1) (σ.1 60 (ix aq1))) (fun σ1 => ck aq1 234 (some ((σ1.1 60 (ix aq1)), σ1))))) else ck aq1 234 (nm (sI σ 60 (ix aq1) aq2) (fun σ2 => ck aq1 234 (some ((σ2.1 60 (ix aq1)), σ2)))))
def f_X11_passAll_L4 (K117 : Int32 → Mm → Option (Unit × Mm)) (xq1 : Int32) (L4 : Int32 → Int32 → Mm → Option (Unit × Mm)) (xq2 : Int32) (xq3 : Int32) (σ : Mm) : Option (Unit × Mm) :=
  (if (42 : Int32) ≤ xq3 then K117 xq2 σ else ck xq3 42 (bd (f_X11_passes xq1 xq2 (σ.1 50 (ix xq3)) σ) (fun rq2 σ1 => ck xq3 42 (nm (sI σ1 50 (ix xq3) rq2) (fun σ3 => ck xq3 42 (bd (f_X11_passes xq1 (xq2 + (1 : Int32)) (σ3.1 51 (ix xq3)) σ3) (fun rq5 σ4 => ck xq3 42 (nm (sI σ4 51 (ix xq3) rq5) (fun σ6 => ck xq3 42 (bd (f_X11_passes xq1 (xq2 + (2 : Int32)) (σ6.1 52 (ix xq3)) σ6) (fun rq8 σ7 => ck xq3 42 (nm (sI σ7 52 (ix xq3) rq8) (fun σ9 => ck xq3 42 (bd (f_X11_passes xq1 (xq2 + (3 : Int32)) (σ9.1 53 (ix xq3)) σ9) (fun rq11 σ10 => ck xq3 42 (nm (sI σ10 53 (ix xq3) rq11) (fun σ12 => ck xq3 42 (bd (f_X11_passes xq1 (xq2 + (4 : Int32)) (σ12.1 54 (ix xq3)) σ12) (fun rq14 σ13 => ck xq3 42 (nm (sI σ13 54 (ix xq3) rq14) (fun σ15 => nm (xq2 + (5 : Int32)) (fun vq16 => nm (xq3 + (1 : Int32)) (fun vq17 => L4 vq16 vq17 σ15)))))))))))))))))))))))
def f_X11_passAll_L119 (K172 : Int32 → Mm → Option (Unit × Mm)) (xq1 : Int32) (L119 : Int32 → Int32 → Mm → Option (Unit × Mm)) (xq2 : Int32) (xq3 : Int32) (σ : Mm) : Option (Unit × Mm) :=
  (if (6 : Int32) ≤ xq3 then K172 xq2 σ else ck xq3 6 (bd (f_X11_passes xq1 xq2 (σ.1 49 (ix xq3)) σ) (fun rq19 σ18 => ck xq3 6 (nm (sI σ18 49 (ix xq3) rq19) (fun σ20 => ck xq3 6 (bd (f_X11_passes xq1 (xq2 + (1 : Int32)) (σ20.1 55 (ix xq3)) σ20) (fun rq22 σ21 => ck xq3 6 (nm (sI σ21 55 (ix xq3) rq22) (fun σ23 => nm (xq2 + (2 : Int32)) (fun vq24 => nm (xq3 + (1 : Int32)) (fun vq25 => L119 vq24 vq25 σ23)))))))))))
def f_X11_passAll_L174 (xq1 : Int32) (L174 : Int32 → Int32 → Mm → Option (Unit × Mm)) (xq2 : Int32) (xq3 : Int32) (σ : Mm) : Option (Unit × Mm) :=
  (if (3 : Int32) ≤ xq3 then some ((), σ) else ck xq3 3 (bd (f_X11_passes xq1 xq2 (σ.1 56 (ix xq3)) σ) (fun rq27 σ26 => ck xq3 3 (nm (sI σ26 56 (ix xq3) rq27) (fun σ28 => ck xq3 3 (bd (f_X11_passes xq1 (xq2 + (1 : Int32)) (σ28.1 57 (ix xq3)) σ28) (fun rq30 σ29 => ck xq3 3 (nm (sI σ29 57 (ix xq3) rq30) (fun σ31 => nm (xq2 + (2 : Int32)) (fun vq32 => nm (xq3 + (1 : Int32)) (fun vq33 => L174 vq32 vq33 σ31)))))))))))
def f_X11_passAll_172 (xq1 : Int32) (xq2 : Int32) (σ : Mm) : Option (Unit × Mm) :=
  fx (fun _ _ _ => none) FU (f_X11_passAll_L174  xq1) xq2 (0 : Int32) σ
def f_X11_passAll_117 (xq1 : Int32) (xq2 : Int32) (σ : Mm) : Option (Unit × Mm) :=
  fx (fun _ _ _ => none) FU (f_X11_passAll_L119 (fun (xq2 : Int32) (σ : Mm) => f_X11_passAll_172 xq1 xq2 σ) xq1) xq2 (0 : Int32) σ
def f_X11_passAll (aq0 : Int32) (σ : Mm) : Option (Unit × Mm) :=
  fx (fun _ _ _ => none) FU (f_X11_passAll_L4 (fun (xq2 : Int32) (σ : Mm) => f_X11_passAll_117 aq0 xq2 σ) aq0) (0 : Int32) (0 : Int32) σ
def f_X11_image  (σ : Mm) : Option (Int32 × Mm) :=
  bd (f_X11_passAll (1 : Int32) σ) (fun rq2 σ1 => nm (sI σ1 48 16 (σ1.1 48 0)) (fun σ3 => nm (sI σ3 48 17 (σ3.1 48 7)) (fun σ4 => nm (sI σ4 48 18 (σ4.1 48 11)) (fun σ5 => cb (1 : Int32) (nm (sI σ5 48 15 (1 : Int32)) (fun σ6 => some ((1 : Int32), σ6)))))))
def f_X11_undo  (σ : Mm) : Option (Int32 × Mm) :=
  (if (σ.1 48 15) = 0 then bd (f_X11_finds (-1000000004 : Int32) σ) (fun rq8 σ7 => some (rq8, σ7)) else bd (f_X11_passAll (0 : Int32) σ) (fun rq2 σ1 => nm (sI σ1 48 0 (σ1.1 48 16)) (fun σ3 => nm (sI σ3 48 7 (σ3.1 48 17)) (fun σ4 => nm (sI σ4 48 11 (σ4.1 48 18)) (fun σ5 => cb (0 : Int32) (nm (sI σ5 48 48 (0 : Int32)) (fun σ6 => some ((σ6.1 48 0), σ6))))))))
def f_X11_tear  (σ : Mm) : Option (Int32 × Mm) :=
  (if (σ.1 48 15) = 0 then cb (0 : Int32) (nm (sI σ 48 15 (0 : Int32)) (fun σ1 => some ((0 : Int32), σ1))) else cb (0 : Int32) (nm (sI σ 48 15 (0 : Int32)) (fun σ2 => some ((1 : Int32), σ2))))
def f_X11_look (aq0 : Int32) (σ : Mm) : Option (Int32 × Mm) :=
  (if aq0 = (0 : Int32) then some ((σ.1 48 0), σ) else (if aq0 = (1 : Int32) then some ((σ.1 48 7), σ) else (if aq0 = (2 : Int32) then some ((σ.1 48 11), σ) else (if aq0 = (3 : Int32) then ck (aq0 - (3 : Int32)) 3 (some ((σ.1 57 (ix (aq0 - (3 : Int32)))), σ)) else (if aq0 = (4 : Int32) then ck (aq0 - (3 : Int32)) 3 (some ((σ.1 57 (ix (aq0 - (3 : Int32)))), σ)) else (if aq0 = (5 : Int32) then ck (aq0 - (3 : Int32)) 3 (some ((σ.1 57 (ix (aq0 - (3 : Int32)))), σ)) else (if aq0 = (6 : Int32) then some ((σ.1 48 13), σ) else bd (f_X11_finds (-1000000001 : Int32) σ) (fun rq9 σ8 => some (rq9, σ8)))))))))
def f_X11_status_48 (L21 : Int32 → Int32 → Mm → Option (Int32 × Mm)) (xq1 : Int32) (xq3 : Int32) (xqs0 : Int32) (xqs1 : Int32) (σ : Mm) : Option (Int32 × Mm) :=
  nm (xqs0 + xqs1) (fun vq3 => nm (xq3 + (1 : Int32)) (fun vq4 => L21 vq3 vq4 σ))
def f_X11_status_38 (L21 : Int32 → Int32 → Mm → Option (Int32 × Mm)) (xq1 : Int32) (xq3 : Int32) (xqs0 : Int32) (σ : Mm) : Option (Int32 × Mm) :=
  ck xq3 7 (f_X11_status_48 L21 xq1 xq3 xqs0 (σ.1 59 (ix xq3)) σ)
def f_X11_status_L21 (xq1 : Int32) (L21 : Int32 → Int32 → Mm → Option (Int32 × Mm)) (xq2 : Int32) (xq3 : Int32) (σ : Mm) : Option (Int32 × Mm) :=
  (if (7 : Int32) ≤ xq3 then some (xq2, σ) else (if xq1 = (-1 : Int32) then f_X11_status_38 L21 xq1 xq3 xq2 σ else (if xq1 = xq3 then f_X11_status_38 L21 xq1 xq3 xq2 σ else f_X11_status_48 L21 xq1 xq3 xq2 (0 : Int32) σ)))
def f_X11_status (aq0 : Int32) (σ : Mm) : Option (Int32 × Mm) :=
  bd (f_X11_in aq0 (-1 : Int32) (6 : Int32) σ) (fun rq2 σ1 => (if rq2 = 0 then bd (f_X11_finds (-1000000001 : Int32) σ1) (fun rq6 σ5 => some (rq6, σ5)) else fx (fun _ _ _ => none) FU (f_X11_status_L21  aq0) (0 : Int32) (0 : Int32) σ1))
def f_J9_max_7cf53 (aq0 : Int32) (aq1 : Int32) (σ : Mm) : Option (Int32 × Mm) :=
  (if aq0 < aq1 then some (aq1, σ) else some (aq0, σ))
