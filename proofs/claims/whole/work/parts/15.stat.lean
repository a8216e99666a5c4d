theorem tl1 {w : Cond} {i : Nat} (h : tables_1_1[i]? = some w) : w ∈ lw_tbl := List.mem_append_right (k2_sels lw_privs) (show w ∈ tables_1 from List.mem_append_left _ (List.mem_of_getElem? h))
theorem tl2 {w : Cond} {i : Nat} (h : tables_1_2[i]? = some w) : w ∈ lw_tbl := List.mem_append_right (k2_sels lw_privs) (show w ∈ tables_1 from List.mem_append_right _ (List.mem_append_left _ (List.mem_of_getElem? h)))
theorem tl3 {w : Cond} {i : Nat} (h : tables_1_3[i]? = some w) : w ∈ lw_tbl := List.mem_append_right (k2_sels lw_privs) (show w ∈ tables_1 from List.mem_append_right _ (List.mem_append_right _ (List.mem_append_left _ (List.mem_of_getElem? h))))
theorem tl4 {w : Cond} {i : Nat} (h : tables_1_4[i]? = some w) : w ∈ lw_tbl := List.mem_append_right (k2_sels lw_privs) (show w ∈ tables_1 from List.mem_append_right _ (List.mem_append_right _ (List.mem_append_right _ (List.mem_append_left _ (List.mem_of_getElem? h)))))
theorem tl5 {w : Cond} {i : Nat} (h : tables_1_5[i]? = some w) : w ∈ lw_tbl := List.mem_append_right (k2_sels lw_privs) (show w ∈ tables_1 from List.mem_append_right _ (List.mem_append_right _ (List.mem_append_right _ (List.mem_append_right _ (List.mem_append_left _ (List.mem_of_getElem? h))))))
theorem tl6 {w : Cond} {i : Nat} (h : tables_1_6[i]? = some w) : w ∈ lw_tbl := List.mem_append_right (k2_sels lw_privs) (show w ∈ tables_1 from List.mem_append_right _ (List.mem_append_right _ (List.mem_append_right _ (List.mem_append_right _ (List.mem_append_right _ (List.mem_append_left _ (List.mem_of_getElem? h)))))))
theorem tl7 {w : Cond} {i : Nat} (h : tables_1_7[i]? = some w) : w ∈ lw_tbl := List.mem_append_right (k2_sels lw_privs) (show w ∈ tables_1 from List.mem_append_right _ (List.mem_append_right _ (List.mem_append_right _ (List.mem_append_right _ (List.mem_append_right _ (List.mem_append_right _ (List.mem_of_getElem? h)))))))
set_option maxHeartbeats 4000000 in
set_option maxRecDepth 100000 in
theorem stt_start {args : Array Value} {s : State} (hgv : (Jvm.Cond.and given_1 narrow_1).before args s = true) (hts : ∀ w ∈ lw_tbl, w.before args s = true) : ∃ (z k v : Nat → Nat), ∀ (l : Launch) (ad0 : Nat → Nat) (ca : Nat → ClassId) (dC : Nat → ClassId) (dI : Nat → Nat → Nat), Stt (l, s.heap.size, ad0, ca, dC, dI, z, k, v) s := by
  have hs := flat_of_before _ hgv
  have hA : ∀ a : Nat, a < s.heap.size → ¬ (fun q : Nat => s.heap.size ≤ q) a := fun a h => Nat.not_le.mpr h
  obtain ⟨t0, e0, T0⟩ := va_Tof (args := args) (s := s) (tm := Term.static "ManyHands" "UNDER" "[I") (ty := .int) (N := 8) (f := fun j => .int (([-1, 0, 0, 0, 3, 0, 0, 0] : List Int32).getD j 0)) (A := fun q => s.heap.size ≤ q) (by decide) (hs _ (by decide +kernel)) (va_eqt (z := 8) (hs _ (by decide +kernel))) (fun j hj => by
    match j, hj with
    | 0, _ => exact va_eqt (t := .elem (.static "ManyHands" "UNDER" "[I") (.int 0)) (z := -1) (hs _ (by decide +kernel))
    | 1, _ => exact va_eqt (t := .elem (.static "ManyHands" "UNDER" "[I") (.int 1)) (z := 0) (hs _ (by decide +kernel))
    | 2, _ => exact va_eqt (t := .elem (.static "ManyHands" "UNDER" "[I") (.int 2)) (z := 0) (hs _ (by decide +kernel))
    | 3, _ => exact va_eqt (t := .elem (.static "ManyHands" "UNDER" "[I") (.int 3)) (z := 0) (hs _ (by decide +kernel))
    | 4, _ => exact va_eqt (t := .elem (.static "ManyHands" "UNDER" "[I") (.int 4)) (z := 3) (hs _ (by decide +kernel))
    | 5, _ => exact va_eqt (t := .elem (.static "ManyHands" "UNDER" "[I") (.int 5)) (z := 0) (hs _ (by decide +kernel))
    | 6, _ => exact va_eqt (t := .elem (.static "ManyHands" "UNDER" "[I") (.int 6)) (z := 0) (hs _ (by decide +kernel))
    | 7, _ => exact va_eqt (t := .elem (.static "ManyHands" "UNDER" "[I") (.int 7)) (z := 0) (hs _ (by decide +kernel))
    | k + 8, h => exact absurd h (by omega)) hA
  have Z0 := va_Zref (hts _ (tl3 (i := 5) rfl)) (hts _ (tl1 (i := 1) rfl)) e0 hA
  obtain ⟨t1, e1, T1⟩ := va_Tof (args := args) (s := s) (tm := Term.static "ManyHands" "PARTS_OF_KIND" "[I") (ty := .int) (N := 8) (f := fun j => .int (([1, 3, 7, 15, 7, 1, 17, 5] : List Int32).getD j 0)) (A := fun q => s.heap.size ≤ q) (by decide) (hs _ (by decide +kernel)) (va_eqt (z := 8) (hs _ (by decide +kernel))) (fun j hj => by
    match j, hj with
    | 0, _ => exact va_eqt (t := .elem (.static "ManyHands" "PARTS_OF_KIND" "[I") (.int 0)) (z := 1) (hs _ (by decide +kernel))
    | 1, _ => exact va_eqt (t := .elem (.static "ManyHands" "PARTS_OF_KIND" "[I") (.int 1)) (z := 3) (hs _ (by decide +kernel))
    | 2, _ => exact va_eqt (t := .elem (.static "ManyHands" "PARTS_OF_KIND" "[I") (.int 2)) (z := 7) (hs _ (by decide +kernel))
    | 3, _ => exact va_eqt (t := .elem (.static "ManyHands" "PARTS_OF_KIND" "[I") (.int 3)) (z := 15) (hs _ (by decide +kernel))
    | 4, _ => exact va_eqt (t := .elem (.static "ManyHands" "PARTS_OF_KIND" "[I") (.int 4)) (z := 7) (hs _ (by decide +kernel))
    | 5, _ => exact va_eqt (t := .elem (.static "ManyHands" "PARTS_OF_KIND" "[I") (.int 5)) (z := 1) (hs _ (by decide +kernel))
    | 6, _ => exact va_eqt (t := .elem (.static "ManyHands" "PARTS_OF_KIND" "[I") (.int 6)) (z := 17) (hs _ (by decide +kernel))
    | 7, _ => exact va_eqt (t := .elem (.static "ManyHands" "PARTS_OF_KIND" "[I") (.int 7)) (z := 5) (hs _ (by decide +kernel))
    | k + 8, h => exact absurd h (by omega)) hA
  have Z1 := va_Zref (hts _ (tl2 (i := 235) rfl)) (hts _ (tl1 (i := 1) rfl)) e1 hA
  obtain ⟨t2, e2, T2⟩ := va_Tof (args := args) (s := s) (tm := Term.static "ManyHands$Reader" "KIND_OF_WORD" "[I") (ty := .int) (N := 9) (f := fun j => .int (([1, 2, 2, 3, 4, 5, 7, 0, 6] : List Int32).getD j 0)) (A := fun q => s.heap.size ≤ q) (by decide) (hs _ (by decide +kernel)) (va_eqt (z := 9) (hs _ (by decide +kernel))) (fun j hj => by
    match j, hj with
    | 0, _ => exact va_eqt (t := .elem (.static "ManyHands$Reader" "KIND_OF_WORD" "[I") (.int 0)) (z := 1) (hs _ (by decide +kernel))
    | 1, _ => exact va_eqt (t := .elem (.static "ManyHands$Reader" "KIND_OF_WORD" "[I") (.int 1)) (z := 2) (hs _ (by decide +kernel))
    | 2, _ => exact va_eqt (t := .elem (.static "ManyHands$Reader" "KIND_OF_WORD" "[I") (.int 2)) (z := 2) (hs _ (by decide +kernel))
    | 3, _ => exact va_eqt (t := .elem (.static "ManyHands$Reader" "KIND_OF_WORD" "[I") (.int 3)) (z := 3) (hs _ (by decide +kernel))
    | 4, _ => exact va_eqt (t := .elem (.static "ManyHands$Reader" "KIND_OF_WORD" "[I") (.int 4)) (z := 4) (hs _ (by decide +kernel))
    | 5, _ => exact va_eqt (t := .elem (.static "ManyHands$Reader" "KIND_OF_WORD" "[I") (.int 5)) (z := 5) (hs _ (by decide +kernel))
    | 6, _ => exact va_eqt (t := .elem (.static "ManyHands$Reader" "KIND_OF_WORD" "[I") (.int 6)) (z := 7) (hs _ (by decide +kernel))
    | 7, _ => exact va_eqt (t := .elem (.static "ManyHands$Reader" "KIND_OF_WORD" "[I") (.int 7)) (z := 0) (hs _ (by decide +kernel))
    | 8, _ => exact va_eqt (t := .elem (.static "ManyHands$Reader" "KIND_OF_WORD" "[I") (.int 8)) (z := 6) (hs _ (by decide +kernel))
    | k + 9, h => exact absurd h (by omega)) hA
  have Z2 := va_Zref (hts _ (tl2 (i := 202) rfl)) (hts _ (tl1 (i := 3) rfl)) e2 hA
  obtain ⟨t3, e3, T3⟩ := va_Tof (args := args) (s := s) (tm := Term.static "ManyHands$Reader" "PARTS_OF_WORD" "[I") (ty := .int) (N := 9) (f := fun j => .int (([2, 2, 6, 14, 6, 0, 4, 0, 16] : List Int32).getD j 0)) (A := fun q => s.heap.size ≤ q) (by decide) (hs _ (by decide +kernel)) (va_eqt (z := 9) (hs _ (by decide +kernel))) (fun j hj => by
    match j, hj with
    | 0, _ => exact va_eqt (t := .elem (.static "ManyHands$Reader" "PARTS_OF_WORD" "[I") (.int 0)) (z := 2) (hs _ (by decide +kernel))
    | 1, _ => exact va_eqt (t := .elem (.static "ManyHands$Reader" "PARTS_OF_WORD" "[I") (.int 1)) (z := 2) (hs _ (by decide +kernel))
    | 2, _ => exact va_eqt (t := .elem (.static "ManyHands$Reader" "PARTS_OF_WORD" "[I") (.int 2)) (z := 6) (hs _ (by decide +kernel))
    | 3, _ => exact va_eqt (t := .elem (.static "ManyHands$Reader" "PARTS_OF_WORD" "[I") (.int 3)) (z := 14) (hs _ (by decide +kernel))
    | 4, _ => exact va_eqt (t := .elem (.static "ManyHands$Reader" "PARTS_OF_WORD" "[I") (.int 4)) (z := 6) (hs _ (by decide +kernel))
    | 5, _ => exact va_eqt (t := .elem (.static "ManyHands$Reader" "PARTS_OF_WORD" "[I") (.int 5)) (z := 0) (hs _ (by decide +kernel))
    | 6, _ => exact va_eqt (t := .elem (.static "ManyHands$Reader" "PARTS_OF_WORD" "[I") (.int 6)) (z := 4) (hs _ (by decide +kernel))
    | 7, _ => exact va_eqt (t := .elem (.static "ManyHands$Reader" "PARTS_OF_WORD" "[I") (.int 7)) (z := 0) (hs _ (by decide +kernel))
    | 8, _ => exact va_eqt (t := .elem (.static "ManyHands$Reader" "PARTS_OF_WORD" "[I") (.int 8)) (z := 16) (hs _ (by decide +kernel))
    | k + 9, h => exact absurd h (by omega)) hA
  have Z3 := va_Zref (hts _ (tl2 (i := 208) rfl)) (hts _ (tl1 (i := 3) rfl)) e3 hA
  obtain ⟨kA0, vA0, S0, hk⟩ := vk_Sof (args := args) (s := s) (N := 9) (tm := fun i => Term.string "ManyHands$Reader" (([97, 99, 101, 103, 105, 107, 109, 111, 113] : List Nat).getD i 0)) (len := stLen) (byt := stByt) (A := fun q => s.heap.size ≤ q)
    (fun i hi => by
    match i, hi with
    | 0, _ => decide
    | 1, _ => decide
    | 2, _ => decide
    | 3, _ => decide
    | 4, _ => decide
    | 5, _ => decide
    | 6, _ => decide
    | 7, _ => decide
    | 8, _ => decide
    | k + 9, h => exact absurd h (by omega))
    (fun i hi => by
    match i, hi with
    | 0, _ => exact hs (Cond.exactly (Term.string "ManyHands$Reader" 97) "java/lang/String") (by decide +kernel)
    | 1, _ => exact hs (Cond.exactly (Term.string "ManyHands$Reader" 99) "java/lang/String") (by decide +kernel)
    | 2, _ => exact hs (Cond.exactly (Term.string "ManyHands$Reader" 101) "java/lang/String") (by decide +kernel)
    | 3, _ => exact hs (Cond.exactly (Term.string "ManyHands$Reader" 103) "java/lang/String") (by decide +kernel)
    | 4, _ => exact hs (Cond.exactly (Term.string "ManyHands$Reader" 105) "java/lang/String") (by decide +kernel)
    | 5, _ => exact hs (Cond.exactly (Term.string "ManyHands$Reader" 107) "java/lang/String") (by decide +kernel)
    | 6, _ => exact hs (Cond.exactly (Term.string "ManyHands$Reader" 109) "java/lang/String") (by decide +kernel)
    | 7, _ => exact hs (Cond.exactly (Term.string "ManyHands$Reader" 111) "java/lang/String") (by decide +kernel)
    | 8, _ => exact hs (Cond.exactly (Term.string "ManyHands$Reader" 113) "java/lang/String") (by decide +kernel)
    | k + 9, h => exact absurd h (by omega))
    (fun i hi => by
    match i, hi with
    | 0, _ => exact hs (Cond.eq (.field (Term.string "ManyHands$Reader" 97) "java/lang/String" "coder" "B") (.int 0)) (by decide +kernel)
    | 1, _ => exact hs (Cond.eq (.field (Term.string "ManyHands$Reader" 99) "java/lang/String" "coder" "B") (.int 0)) (by decide +kernel)
    | 2, _ => exact hs (Cond.eq (.field (Term.string "ManyHands$Reader" 101) "java/lang/String" "coder" "B") (.int 0)) (by decide +kernel)
    | 3, _ => exact hs (Cond.eq (.field (Term.string "ManyHands$Reader" 103) "java/lang/String" "coder" "B") (.int 0)) (by decide +kernel)
    | 4, _ => exact hs (Cond.eq (.field (Term.string "ManyHands$Reader" 105) "java/lang/String" "coder" "B") (.int 0)) (by decide +kernel)
    | 5, _ => exact hs (Cond.eq (.field (Term.string "ManyHands$Reader" 107) "java/lang/String" "coder" "B") (.int 0)) (by decide +kernel)
    | 6, _ => exact hs (Cond.eq (.field (Term.string "ManyHands$Reader" 109) "java/lang/String" "coder" "B") (.int 0)) (by decide +kernel)
    | 7, _ => exact hs (Cond.eq (.field (Term.string "ManyHands$Reader" 111) "java/lang/String" "coder" "B") (.int 0)) (by decide +kernel)
    | 8, _ => exact hs (Cond.eq (.field (Term.string "ManyHands$Reader" 113) "java/lang/String" "coder" "B") (.int 0)) (by decide +kernel)
    | k + 9, h => exact absurd h (by omega))
    (fun i hi => by
    match i, hi with
    | 0, _ => exact hs (Cond.arrayOf (.field (Term.string "ManyHands$Reader" 97) "java/lang/String" "value" "[B") .byte) (by decide +kernel)
    | 1, _ => exact hs (Cond.arrayOf (.field (Term.string "ManyHands$Reader" 99) "java/lang/String" "value" "[B") .byte) (by decide +kernel)
    | 2, _ => exact hs (Cond.arrayOf (.field (Term.string "ManyHands$Reader" 101) "java/lang/String" "value" "[B") .byte) (by decide +kernel)
    | 3, _ => exact hs (Cond.arrayOf (.field (Term.string "ManyHands$Reader" 103) "java/lang/String" "value" "[B") .byte) (by decide +kernel)
    | 4, _ => exact hs (Cond.arrayOf (.field (Term.string "ManyHands$Reader" 105) "java/lang/String" "value" "[B") .byte) (by decide +kernel)
    | 5, _ => exact hs (Cond.arrayOf (.field (Term.string "ManyHands$Reader" 107) "java/lang/String" "value" "[B") .byte) (by decide +kernel)
    | 6, _ => exact hs (Cond.arrayOf (.field (Term.string "ManyHands$Reader" 109) "java/lang/String" "value" "[B") .byte) (by decide +kernel)
    | 7, _ => exact hs (Cond.arrayOf (.field (Term.string "ManyHands$Reader" 111) "java/lang/String" "value" "[B") .byte) (by decide +kernel)
    | 8, _ => exact hs (Cond.arrayOf (.field (Term.string "ManyHands$Reader" 113) "java/lang/String" "value" "[B") .byte) (by decide +kernel)
    | k + 9, h => exact absurd h (by omega))
    (fun i hi => by
    match i, hi with
    | 0, _ => exact hs (Cond.eq (.length (.field (Term.string "ManyHands$Reader" 97) "java/lang/String" "value" "[B")) (.int 4)) (by decide +kernel)
    | 1, _ => exact hs (Cond.eq (.length (.field (Term.string "ManyHands$Reader" 99) "java/lang/String" "value" "[B")) (.int 5)) (by decide +kernel)
    | 2, _ => exact hs (Cond.eq (.length (.field (Term.string "ManyHands$Reader" 101) "java/lang/String" "value" "[B")) (.int 3)) (by decide +kernel)
    | 3, _ => exact hs (Cond.eq (.length (.field (Term.string "ManyHands$Reader" 103) "java/lang/String" "value" "[B")) (.int 4)) (by decide +kernel)
    | 4, _ => exact hs (Cond.eq (.length (.field (Term.string "ManyHands$Reader" 105) "java/lang/String" "value" "[B")) (.int 3)) (by decide +kernel)
    | 5, _ => exact hs (Cond.eq (.length (.field (Term.string "ManyHands$Reader" 107) "java/lang/String" "value" "[B")) (.int 5)) (by decide +kernel)
    | 6, _ => exact hs (Cond.eq (.length (.field (Term.string "ManyHands$Reader" 109) "java/lang/String" "value" "[B")) (.int 3)) (by decide +kernel)
    | 7, _ => exact hs (Cond.eq (.length (.field (Term.string "ManyHands$Reader" 111) "java/lang/String" "value" "[B")) (.int 4)) (by decide +kernel)
    | 8, _ => exact hs (Cond.eq (.length (.field (Term.string "ManyHands$Reader" 113) "java/lang/String" "value" "[B")) (.int 5)) (by decide +kernel)
    | k + 9, h => exact absurd h (by omega))
    (fun i hi j hj => by
    match i, hi, j, hj with
    | 0, _, 0, _ => exact hs (Cond.eq (.elem (.field (Term.string "ManyHands$Reader" 97) "java/lang/String" "value" "[B") (.int 0)) (.int 114)) (by decide +kernel)
    | 0, _, 1, _ => exact hs (Cond.eq (.elem (.field (Term.string "ManyHands$Reader" 97) "java/lang/String" "value" "[B") (.int 1)) (.int 101)) (by decide +kernel)
    | 0, _, 2, _ => exact hs (Cond.eq (.elem (.field (Term.string "ManyHands$Reader" 97) "java/lang/String" "value" "[B") (.int 2)) (.int 97)) (by decide +kernel)
    | 0, _, 3, _ => exact hs (Cond.eq (.elem (.field (Term.string "ManyHands$Reader" 97) "java/lang/String" "value" "[B") (.int 3)) (.int 100)) (by decide +kernel)
    | 0, _, k + 4, h => exact absurd h (by show ¬ k + 4 < 4; omega)
    | 1, _, 0, _ => exact hs (Cond.eq (.elem (.field (Term.string "ManyHands$Reader" 99) "java/lang/String" "value" "[B") (.int 0)) (.int 119)) (by decide +kernel)
    | 1, _, 1, _ => exact hs (Cond.eq (.elem (.field (Term.string "ManyHands$Reader" 99) "java/lang/String" "value" "[B") (.int 1)) (.int 114)) (by decide +kernel)
    | 1, _, 2, _ => exact hs (Cond.eq (.elem (.field (Term.string "ManyHands$Reader" 99) "java/lang/String" "value" "[B") (.int 2)) (.int 105)) (by decide +kernel)
    | 1, _, 3, _ => exact hs (Cond.eq (.elem (.field (Term.string "ManyHands$Reader" 99) "java/lang/String" "value" "[B") (.int 3)) (.int 116)) (by decide +kernel)
    | 1, _, 4, _ => exact hs (Cond.eq (.elem (.field (Term.string "ManyHands$Reader" 99) "java/lang/String" "value" "[B") (.int 4)) (.int 101)) (by decide +kernel)
    | 1, _, k + 5, h => exact absurd h (by show ¬ k + 5 < 5; omega)
    | 2, _, 0, _ => exact hs (Cond.eq (.elem (.field (Term.string "ManyHands$Reader" 101) "java/lang/String" "value" "[B") (.int 0)) (.int 112)) (by decide +kernel)
    | 2, _, 1, _ => exact hs (Cond.eq (.elem (.field (Term.string "ManyHands$Reader" 101) "java/lang/String" "value" "[B") (.int 1)) (.int 117)) (by decide +kernel)
    | 2, _, 2, _ => exact hs (Cond.eq (.elem (.field (Term.string "ManyHands$Reader" 101) "java/lang/String" "value" "[B") (.int 2)) (.int 116)) (by decide +kernel)
    | 2, _, k + 3, h => exact absurd h (by show ¬ k + 3 < 3; omega)
    | 3, _, 0, _ => exact hs (Cond.eq (.elem (.field (Term.string "ManyHands$Reader" 103) "java/lang/String" "value" "[B") (.int 0)) (.int 115)) (by decide +kernel)
    | 3, _, 1, _ => exact hs (Cond.eq (.elem (.field (Term.string "ManyHands$Reader" 103) "java/lang/String" "value" "[B") (.int 1)) (.int 119)) (by decide +kernel)
    | 3, _, 2, _ => exact hs (Cond.eq (.elem (.field (Term.string "ManyHands$Reader" 103) "java/lang/String" "value" "[B") (.int 2)) (.int 97)) (by decide +kernel)
    | 3, _, 3, _ => exact hs (Cond.eq (.elem (.field (Term.string "ManyHands$Reader" 103) "java/lang/String" "value" "[B") (.int 3)) (.int 112)) (by decide +kernel)
    | 3, _, k + 4, h => exact absurd h (by show ¬ k + 4 < 4; omega)
    | 4, _, 0, _ => exact hs (Cond.eq (.elem (.field (Term.string "ManyHands$Reader" 105) "java/lang/String" "value" "[B") (.int 0)) (.int 97)) (by decide +kernel)
    | 4, _, 1, _ => exact hs (Cond.eq (.elem (.field (Term.string "ManyHands$Reader" 105) "java/lang/String" "value" "[B") (.int 1)) (.int 100)) (by decide +kernel)
    | 4, _, 2, _ => exact hs (Cond.eq (.elem (.field (Term.string "ManyHands$Reader" 105) "java/lang/String" "value" "[B") (.int 2)) (.int 100)) (by decide +kernel)
    | 4, _, k + 3, h => exact absurd h (by show ¬ k + 3 < 3; omega)
    | 5, _, 0, _ => exact hs (Cond.eq (.elem (.field (Term.string "ManyHands$Reader" 107) "java/lang/String" "value" "[B") (.int 0)) (.int 102)) (by decide +kernel)
    | 5, _, 1, _ => exact hs (Cond.eq (.elem (.field (Term.string "ManyHands$Reader" 107) "java/lang/String" "value" "[B") (.int 1)) (.int 101)) (by decide +kernel)
    | 5, _, 2, _ => exact hs (Cond.eq (.elem (.field (Term.string "ManyHands$Reader" 107) "java/lang/String" "value" "[B") (.int 2)) (.int 110)) (by decide +kernel)
    | 5, _, 3, _ => exact hs (Cond.eq (.elem (.field (Term.string "ManyHands$Reader" 107) "java/lang/String" "value" "[B") (.int 3)) (.int 99)) (by decide +kernel)
    | 5, _, 4, _ => exact hs (Cond.eq (.elem (.field (Term.string "ManyHands$Reader" 107) "java/lang/String" "value" "[B") (.int 4)) (.int 101)) (by decide +kernel)
    | 5, _, k + 5, h => exact absurd h (by show ¬ k + 5 < 5; omega)
    | 6, _, 0, _ => exact hs (Cond.eq (.elem (.field (Term.string "ManyHands$Reader" 109) "java/lang/String" "value" "[B") (.int 0)) (.int 115)) (by decide +kernel)
    | 6, _, 1, _ => exact hs (Cond.eq (.elem (.field (Term.string "ManyHands$Reader" 109) "java/lang/String" "value" "[B") (.int 1)) (.int 101)) (by decide +kernel)
    | 6, _, 2, _ => exact hs (Cond.eq (.elem (.field (Term.string "ManyHands$Reader" 109) "java/lang/String" "value" "[B") (.int 2)) (.int 116)) (by decide +kernel)
    | 6, _, k + 3, h => exact absurd h (by show ¬ k + 3 < 3; omega)
    | 7, _, 0, _ => exact hs (Cond.eq (.elem (.field (Term.string "ManyHands$Reader" 111) "java/lang/String" "value" "[B") (.int 0)) (.int 107)) (by decide +kernel)
    | 7, _, 1, _ => exact hs (Cond.eq (.elem (.field (Term.string "ManyHands$Reader" 111) "java/lang/String" "value" "[B") (.int 1)) (.int 101)) (by decide +kernel)
    | 7, _, 2, _ => exact hs (Cond.eq (.elem (.field (Term.string "ManyHands$Reader" 111) "java/lang/String" "value" "[B") (.int 2)) (.int 101)) (by decide +kernel)
    | 7, _, 3, _ => exact hs (Cond.eq (.elem (.field (Term.string "ManyHands$Reader" 111) "java/lang/String" "value" "[B") (.int 3)) (.int 112)) (by decide +kernel)
    | 7, _, k + 4, h => exact absurd h (by show ¬ k + 4 < 4; omega)
    | 8, _, 0, _ => exact hs (Cond.eq (.elem (.field (Term.string "ManyHands$Reader" 113) "java/lang/String" "value" "[B") (.int 0)) (.int 97)) (by decide +kernel)
    | 8, _, 1, _ => exact hs (Cond.eq (.elem (.field (Term.string "ManyHands$Reader" 113) "java/lang/String" "value" "[B") (.int 1)) (.int 103)) (by decide +kernel)
    | 8, _, 2, _ => exact hs (Cond.eq (.elem (.field (Term.string "ManyHands$Reader" 113) "java/lang/String" "value" "[B") (.int 2)) (.int 97)) (by decide +kernel)
    | 8, _, 3, _ => exact hs (Cond.eq (.elem (.field (Term.string "ManyHands$Reader" 113) "java/lang/String" "value" "[B") (.int 3)) (.int 105)) (by decide +kernel)
    | 8, _, 4, _ => exact hs (Cond.eq (.elem (.field (Term.string "ManyHands$Reader" 113) "java/lang/String" "value" "[B") (.int 4)) (.int 110)) (by decide +kernel)
    | 8, _, k + 5, h => exact absurd h (by show ¬ k + 5 < 5; omega)
    | k + 9, h, _, _ => exact absurd h (by omega))
    (fun i j hi hj hne => by
    match i, hi, j, hj, hne with
    | 0, _, 0, _, h => exact absurd rfl h
    | 0, _, 1, _, _ => exact Or.inl (hs (Cond.not (Cond.eq (Term.string "ManyHands$Reader" 97) (Term.string "ManyHands$Reader" 99))) (by decide +kernel))
    | 0, _, 2, _, _ => exact Or.inl (hs (Cond.not (Cond.eq (Term.string "ManyHands$Reader" 97) (Term.string "ManyHands$Reader" 101))) (by decide +kernel))
    | 0, _, 3, _, _ => exact Or.inl (hs (Cond.not (Cond.eq (Term.string "ManyHands$Reader" 97) (Term.string "ManyHands$Reader" 103))) (by decide +kernel))
    | 0, _, 4, _, _ => exact Or.inl (hs (Cond.not (Cond.eq (Term.string "ManyHands$Reader" 97) (Term.string "ManyHands$Reader" 105))) (by decide +kernel))
    | 0, _, 5, _, _ => exact Or.inl (hs (Cond.not (Cond.eq (Term.string "ManyHands$Reader" 97) (Term.string "ManyHands$Reader" 107))) (by decide +kernel))
    | 0, _, 6, _, _ => exact Or.inl (hs (Cond.not (Cond.eq (Term.string "ManyHands$Reader" 97) (Term.string "ManyHands$Reader" 109))) (by decide +kernel))
    | 0, _, 7, _, _ => exact Or.inl (hs (Cond.not (Cond.eq (Term.string "ManyHands$Reader" 97) (Term.string "ManyHands$Reader" 111))) (by decide +kernel))
    | 0, _, 8, _, _ => exact Or.inl (hs (Cond.not (Cond.eq (Term.string "ManyHands$Reader" 97) (Term.string "ManyHands$Reader" 113))) (by decide +kernel))
    | 0, _, k + 9, h, _ => exact absurd h (by omega)
    | 1, _, 0, _, _ => exact Or.inr (hs (Cond.not (Cond.eq (Term.string "ManyHands$Reader" 97) (Term.string "ManyHands$Reader" 99))) (by decide +kernel))
    | 1, _, 1, _, h => exact absurd rfl h
    | 1, _, 2, _, _ => exact Or.inl (hs (Cond.not (Cond.eq (Term.string "ManyHands$Reader" 99) (Term.string "ManyHands$Reader" 101))) (by decide +kernel))
    | 1, _, 3, _, _ => exact Or.inl (hs (Cond.not (Cond.eq (Term.string "ManyHands$Reader" 99) (Term.string "ManyHands$Reader" 103))) (by decide +kernel))
    | 1, _, 4, _, _ => exact Or.inl (hs (Cond.not (Cond.eq (Term.string "ManyHands$Reader" 99) (Term.string "ManyHands$Reader" 105))) (by decide +kernel))
    | 1, _, 5, _, _ => exact Or.inl (hs (Cond.not (Cond.eq (Term.string "ManyHands$Reader" 99) (Term.string "ManyHands$Reader" 107))) (by decide +kernel))
    | 1, _, 6, _, _ => exact Or.inl (hs (Cond.not (Cond.eq (Term.string "ManyHands$Reader" 99) (Term.string "ManyHands$Reader" 109))) (by decide +kernel))
    | 1, _, 7, _, _ => exact Or.inl (hs (Cond.not (Cond.eq (Term.string "ManyHands$Reader" 99) (Term.string "ManyHands$Reader" 111))) (by decide +kernel))
    | 1, _, 8, _, _ => exact Or.inl (hs (Cond.not (Cond.eq (Term.string "ManyHands$Reader" 99) (Term.string "ManyHands$Reader" 113))) (by decide +kernel))
    | 1, _, k + 9, h, _ => exact absurd h (by omega)
    | 2, _, 0, _, _ => exact Or.inr (hs (Cond.not (Cond.eq (Term.string "ManyHands$Reader" 97) (Term.string "ManyHands$Reader" 101))) (by decide +kernel))
    | 2, _, 1, _, _ => exact Or.inr (hs (Cond.not (Cond.eq (Term.string "ManyHands$Reader" 99) (Term.string "ManyHands$Reader" 101))) (by decide +kernel))
    | 2, _, 2, _, h => exact absurd rfl h
    | 2, _, 3, _, _ => exact Or.inl (hs (Cond.not (Cond.eq (Term.string "ManyHands$Reader" 101) (Term.string "ManyHands$Reader" 103))) (by decide +kernel))
    | 2, _, 4, _, _ => exact Or.inl (hs (Cond.not (Cond.eq (Term.string "ManyHands$Reader" 101) (Term.string "ManyHands$Reader" 105))) (by decide +kernel))
    | 2, _, 5, _, _ => exact Or.inl (hs (Cond.not (Cond.eq (Term.string "ManyHands$Reader" 101) (Term.string "ManyHands$Reader" 107))) (by decide +kernel))
    | 2, _, 6, _, _ => exact Or.inl (hs (Cond.not (Cond.eq (Term.string "ManyHands$Reader" 101) (Term.string "ManyHands$Reader" 109))) (by decide +kernel))
    | 2, _, 7, _, _ => exact Or.inl (hs (Cond.not (Cond.eq (Term.string "ManyHands$Reader" 101) (Term.string "ManyHands$Reader" 111))) (by decide +kernel))
    | 2, _, 8, _, _ => exact Or.inl (hs (Cond.not (Cond.eq (Term.string "ManyHands$Reader" 101) (Term.string "ManyHands$Reader" 113))) (by decide +kernel))
    | 2, _, k + 9, h, _ => exact absurd h (by omega)
    | 3, _, 0, _, _ => exact Or.inr (hs (Cond.not (Cond.eq (Term.string "ManyHands$Reader" 97) (Term.string "ManyHands$Reader" 103))) (by decide +kernel))
    | 3, _, 1, _, _ => exact Or.inr (hs (Cond.not (Cond.eq (Term.string "ManyHands$Reader" 99) (Term.string "ManyHands$Reader" 103))) (by decide +kernel))
    | 3, _, 2, _, _ => exact Or.inr (hs (Cond.not (Cond.eq (Term.string "ManyHands$Reader" 101) (Term.string "ManyHands$Reader" 103))) (by decide +kernel))
    | 3, _, 3, _, h => exact absurd rfl h
    | 3, _, 4, _, _ => exact Or.inl (hs (Cond.not (Cond.eq (Term.string "ManyHands$Reader" 103) (Term.string "ManyHands$Reader" 105))) (by decide +kernel))
    | 3, _, 5, _, _ => exact Or.inl (hs (Cond.not (Cond.eq (Term.string "ManyHands$Reader" 103) (Term.string "ManyHands$Reader" 107))) (by decide +kernel))
    | 3, _, 6, _, _ => exact Or.inl (hs (Cond.not (Cond.eq (Term.string "ManyHands$Reader" 103) (Term.string "ManyHands$Reader" 109))) (by decide +kernel))
    | 3, _, 7, _, _ => exact Or.inl (hs (Cond.not (Cond.eq (Term.string "ManyHands$Reader" 103) (Term.string "ManyHands$Reader" 111))) (by decide +kernel))
    | 3, _, 8, _, _ => exact Or.inl (hs (Cond.not (Cond.eq (Term.string "ManyHands$Reader" 103) (Term.string "ManyHands$Reader" 113))) (by decide +kernel))
    | 3, _, k + 9, h, _ => exact absurd h (by omega)
    | 4, _, 0, _, _ => exact Or.inr (hs (Cond.not (Cond.eq (Term.string "ManyHands$Reader" 97) (Term.string "ManyHands$Reader" 105))) (by decide +kernel))
    | 4, _, 1, _, _ => exact Or.inr (hs (Cond.not (Cond.eq (Term.string "ManyHands$Reader" 99) (Term.string "ManyHands$Reader" 105))) (by decide +kernel))
    | 4, _, 2, _, _ => exact Or.inr (hs (Cond.not (Cond.eq (Term.string "ManyHands$Reader" 101) (Term.string "ManyHands$Reader" 105))) (by decide +kernel))
    | 4, _, 3, _, _ => exact Or.inr (hs (Cond.not (Cond.eq (Term.string "ManyHands$Reader" 103) (Term.string "ManyHands$Reader" 105))) (by decide +kernel))
    | 4, _, 4, _, h => exact absurd rfl h
    | 4, _, 5, _, _ => exact Or.inl (hs (Cond.not (Cond.eq (Term.string "ManyHands$Reader" 105) (Term.string "ManyHands$Reader" 107))) (by decide +kernel))
    | 4, _, 6, _, _ => exact Or.inl (hs (Cond.not (Cond.eq (Term.string "ManyHands$Reader" 105) (Term.string "ManyHands$Reader" 109))) (by decide +kernel))
    | 4, _, 7, _, _ => exact Or.inl (hs (Cond.not (Cond.eq (Term.string "ManyHands$Reader" 105) (Term.string "ManyHands$Reader" 111))) (by decide +kernel))
    | 4, _, 8, _, _ => exact Or.inl (hs (Cond.not (Cond.eq (Term.string "ManyHands$Reader" 105) (Term.string "ManyHands$Reader" 113))) (by decide +kernel))
    | 4, _, k + 9, h, _ => exact absurd h (by omega)
    | 5, _, 0, _, _ => exact Or.inr (hs (Cond.not (Cond.eq (Term.string "ManyHands$Reader" 97) (Term.string "ManyHands$Reader" 107))) (by decide +kernel))
    | 5, _, 1, _, _ => exact Or.inr (hs (Cond.not (Cond.eq (Term.string "ManyHands$Reader" 99) (Term.string "ManyHands$Reader" 107))) (by decide +kernel))
    | 5, _, 2, _, _ => exact Or.inr (hs (Cond.not (Cond.eq (Term.string "ManyHands$Reader" 101) (Term.string "ManyHands$Reader" 107))) (by decide +kernel))
    | 5, _, 3, _, _ => exact Or.inr (hs (Cond.not (Cond.eq (Term.string "ManyHands$Reader" 103) (Term.string "ManyHands$Reader" 107))) (by decide +kernel))
    | 5, _, 4, _, _ => exact Or.inr (hs (Cond.not (Cond.eq (Term.string "ManyHands$Reader" 105) (Term.string "ManyHands$Reader" 107))) (by decide +kernel))
    | 5, _, 5, _, h => exact absurd rfl h
    | 5, _, 6, _, _ => exact Or.inl (hs (Cond.not (Cond.eq (Term.string "ManyHands$Reader" 107) (Term.string "ManyHands$Reader" 109))) (by decide +kernel))
    | 5, _, 7, _, _ => exact Or.inl (hs (Cond.not (Cond.eq (Term.string "ManyHands$Reader" 107) (Term.string "ManyHands$Reader" 111))) (by decide +kernel))
    | 5, _, 8, _, _ => exact Or.inl (hs (Cond.not (Cond.eq (Term.string "ManyHands$Reader" 107) (Term.string "ManyHands$Reader" 113))) (by decide +kernel))
    | 5, _, k + 9, h, _ => exact absurd h (by omega)
    | 6, _, 0, _, _ => exact Or.inr (hs (Cond.not (Cond.eq (Term.string "ManyHands$Reader" 97) (Term.string "ManyHands$Reader" 109))) (by decide +kernel))
    | 6, _, 1, _, _ => exact Or.inr (hs (Cond.not (Cond.eq (Term.string "ManyHands$Reader" 99) (Term.string "ManyHands$Reader" 109))) (by decide +kernel))
    | 6, _, 2, _, _ => exact Or.inr (hs (Cond.not (Cond.eq (Term.string "ManyHands$Reader" 101) (Term.string "ManyHands$Reader" 109))) (by decide +kernel))
    | 6, _, 3, _, _ => exact Or.inr (hs (Cond.not (Cond.eq (Term.string "ManyHands$Reader" 103) (Term.string "ManyHands$Reader" 109))) (by decide +kernel))
    | 6, _, 4, _, _ => exact Or.inr (hs (Cond.not (Cond.eq (Term.string "ManyHands$Reader" 105) (Term.string "ManyHands$Reader" 109))) (by decide +kernel))
    | 6, _, 5, _, _ => exact Or.inr (hs (Cond.not (Cond.eq (Term.string "ManyHands$Reader" 107) (Term.string "ManyHands$Reader" 109))) (by decide +kernel))
    | 6, _, 6, _, h => exact absurd rfl h
    | 6, _, 7, _, _ => exact Or.inl (hs (Cond.not (Cond.eq (Term.string "ManyHands$Reader" 109) (Term.string "ManyHands$Reader" 111))) (by decide +kernel))
    | 6, _, 8, _, _ => exact Or.inl (hs (Cond.not (Cond.eq (Term.string "ManyHands$Reader" 109) (Term.string "ManyHands$Reader" 113))) (by decide +kernel))
    | 6, _, k + 9, h, _ => exact absurd h (by omega)
    | 7, _, 0, _, _ => exact Or.inr (hs (Cond.not (Cond.eq (Term.string "ManyHands$Reader" 97) (Term.string "ManyHands$Reader" 111))) (by decide +kernel))
    | 7, _, 1, _, _ => exact Or.inr (hs (Cond.not (Cond.eq (Term.string "ManyHands$Reader" 99) (Term.string "ManyHands$Reader" 111))) (by decide +kernel))
    | 7, _, 2, _, _ => exact Or.inr (hs (Cond.not (Cond.eq (Term.string "ManyHands$Reader" 101) (Term.string "ManyHands$Reader" 111))) (by decide +kernel))
    | 7, _, 3, _, _ => exact Or.inr (hs (Cond.not (Cond.eq (Term.string "ManyHands$Reader" 103) (Term.string "ManyHands$Reader" 111))) (by decide +kernel))
    | 7, _, 4, _, _ => exact Or.inr (hs (Cond.not (Cond.eq (Term.string "ManyHands$Reader" 105) (Term.string "ManyHands$Reader" 111))) (by decide +kernel))
    | 7, _, 5, _, _ => exact Or.inr (hs (Cond.not (Cond.eq (Term.string "ManyHands$Reader" 107) (Term.string "ManyHands$Reader" 111))) (by decide +kernel))
    | 7, _, 6, _, _ => exact Or.inr (hs (Cond.not (Cond.eq (Term.string "ManyHands$Reader" 109) (Term.string "ManyHands$Reader" 111))) (by decide +kernel))
    | 7, _, 7, _, h => exact absurd rfl h
    | 7, _, 8, _, _ => exact Or.inl (hs (Cond.not (Cond.eq (Term.string "ManyHands$Reader" 111) (Term.string "ManyHands$Reader" 113))) (by decide +kernel))
    | 7, _, k + 9, h, _ => exact absurd h (by omega)
    | 8, _, 0, _, _ => exact Or.inr (hs (Cond.not (Cond.eq (Term.string "ManyHands$Reader" 97) (Term.string "ManyHands$Reader" 113))) (by decide +kernel))
    | 8, _, 1, _, _ => exact Or.inr (hs (Cond.not (Cond.eq (Term.string "ManyHands$Reader" 99) (Term.string "ManyHands$Reader" 113))) (by decide +kernel))
    | 8, _, 2, _, _ => exact Or.inr (hs (Cond.not (Cond.eq (Term.string "ManyHands$Reader" 101) (Term.string "ManyHands$Reader" 113))) (by decide +kernel))
    | 8, _, 3, _, _ => exact Or.inr (hs (Cond.not (Cond.eq (Term.string "ManyHands$Reader" 103) (Term.string "ManyHands$Reader" 113))) (by decide +kernel))
    | 8, _, 4, _, _ => exact Or.inr (hs (Cond.not (Cond.eq (Term.string "ManyHands$Reader" 105) (Term.string "ManyHands$Reader" 113))) (by decide +kernel))
    | 8, _, 5, _, _ => exact Or.inr (hs (Cond.not (Cond.eq (Term.string "ManyHands$Reader" 107) (Term.string "ManyHands$Reader" 113))) (by decide +kernel))
    | 8, _, 6, _, _ => exact Or.inr (hs (Cond.not (Cond.eq (Term.string "ManyHands$Reader" 109) (Term.string "ManyHands$Reader" 113))) (by decide +kernel))
    | 8, _, 7, _, _ => exact Or.inr (hs (Cond.not (Cond.eq (Term.string "ManyHands$Reader" 111) (Term.string "ManyHands$Reader" 113))) (by decide +kernel))
    | 8, _, 8, _, h => exact absurd rfl h
    | 8, _, k + 9, h, _ => exact absurd h (by omega)
    | k + 9, h, _, _, _ => exact absurd h (by omega)) hA
  have Zc := va_Zof (args := args) (s := s) (A := fun q : Nat => s.heap.size ≤ q) (hts _ (tl2 (i := 162) rfl)) (hts _ (tl1 (i := 14) rfl)) (va_eqi (z := 1) (hs _ (by decide +kernel))) hA
  have Zq := va_Zqof (args := args) (s := s) (A := fun q : Nat => s.heap.size ≤ q) (hts _ (tl2 (i := 178) rfl)) (hts _ (tl1 (i := 16) rfl)) (hs _ (by decide +kernel)) hA
  refine ⟨fun i => ([t0, t1, t2, t3] : List Nat).getD i 0, kA0, vA0, fun l ad0 ca dC dI => ⟨fun i q hq => ?_, fun i q hq => ?_, S0, Zc, Zq⟩⟩
  · match i, hq with
    | 0, hq => cases hq; exact ⟨Z0, T0⟩
    | 1, hq => cases hq; exact ⟨Z1, T1⟩
    | 2, hq => cases hq; exact ⟨Z2, T2⟩
    | 3, hq => cases hq; exact ⟨Z3, T3⟩
    | k + 4, hq => simp [stT] at hq
  · match i, hq with
    | 0, hq => cases hq; exact vk_R.of (hts _ (tl2 (i := 140) rfl)) (hk 0 (by decide))
    | 1, hq => cases hq; exact vk_R.of (hts _ (tl2 (i := 141) rfl)) (hk 1 (by decide))
    | 2, hq => cases hq; exact vk_R.of (hts _ (tl2 (i := 142) rfl)) (hk 2 (by decide))
    | 3, hq => cases hq; exact vk_R.of (hts _ (tl2 (i := 143) rfl)) (hk 3 (by decide))
    | 4, hq => cases hq; exact vk_R.of (hts _ (tl2 (i := 144) rfl)) (hk 4 (by decide))
    | 5, hq => cases hq; exact vk_R.of (hts _ (tl2 (i := 145) rfl)) (hk 5 (by decide))
    | 6, hq => cases hq; exact vk_R.of (hts _ (tl2 (i := 146) rfl)) (hk 6 (by decide))
    | 7, hq => cases hq; exact vk_R.of (hts _ (tl2 (i := 147) rfl)) (hk 7 (by decide))
    | 8, hq => cases hq; exact vk_R.of (hts _ (tl2 (i := 148) rfl)) (hk 8 (by decide))
    | k + 9, hq => simp [stS] at hq
