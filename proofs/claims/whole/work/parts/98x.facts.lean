/-! ===== the law's start: what the tables and the Statement give ===== -/
set_option maxRecDepth 20000 in
theorem lw_facts {s : State} {args : Array Value} (hts : ∀ w ∈ lw_tbl, w.before args s = true) (hgv : (Jvm.Cond.and given_1 narrow_1).before args s = true) : ∃ (D : va_G) (cI cJ cZ cO : ClassId) (e0 mi sa : Nat), kK D (kTY cI cJ cZ cO) s ∧ kX e0 mi (lwA s) s s.heap ∧ kY2 sa (lwA s) s s.heap := by
  have hA : ∀ a : Nat, a < s.heap.size → ¬ lwA s a := fun a h => Nat.not_le.mpr h
  obtain ⟨c0, f0, n0⟩ := u_known (C := RJx4a65c) (T := TJx4a65c) (N := 3) (n := 3) hts wsL_in_Jx4a65c (hts (.instantiable RJx4a65c 3) (by decide +kernel))
  obtain ⟨c1, f1, n1⟩ := u_known (C := RX0) (T := TX0) (N := 4) (n := 4) hts wsL_in_X0 (hts (.instantiable RX0 4) (by decide +kernel))
  obtain ⟨c2, f2, n2⟩ := u_known (C := RX1) (T := TX1) (N := 5) (n := 5) hts wsL_in_X1 (hts (.instantiable RX1 5) (by decide +kernel))
  obtain ⟨c3, f3, n3⟩ := u_known (C := RX2) (T := TX2) (N := 2) (n := 2) hts wsL_in_X2 (hts (.instantiable RX2 2) (by decide +kernel))
  obtain ⟨c4, f4, n4⟩ := u_known (C := RX3) (T := TX3) (N := 2) (n := 2) hts wsL_in_X3 (hts (.instantiable RX3 2) (by decide +kernel))
  obtain ⟨c5, f5, n5⟩ := u_known (C := RX4) (T := TX4) (N := 3) (n := 3) hts wsL_in_X4 (hts (.instantiable RX4 3) (by decide +kernel))
  obtain ⟨c6, f6, n6⟩ := u_known (C := RX5) (T := TX5) (N := 3) (n := 3) hts wsL_in_X5 (hts (.instantiable RX5 3) (by decide +kernel))
  obtain ⟨c7, f7, n7⟩ := u_known (C := RX6) (T := TX6) (N := 3) (n := 3) hts wsL_in_X6 (hts (.instantiable RX6 3) (by decide +kernel))
  obtain ⟨c8, f8, n8⟩ := u_known (C := RX7) (T := TX7) (N := 7) (n := 7) hts wsL_in_X7 (hts (.instantiable RX7 7) (by decide +kernel))
  obtain ⟨c9, f9, n9⟩ := u_known (C := RX8) (T := TX8) (N := 24) (n := 24) hts wsL_in_X8 (hts (.instantiable RX8 24) (by decide +kernel))
  obtain ⟨dC, dI, hKc⟩ : ∃ (dC : Nat → ClassId) (dI : Nat → Nat → Nat), ∀ (k : Nat) (q : vw_C), vwCl[k]? = some q → u_Kn s q.1 q.2.1 q.2.2 (dC k) (dI k) := by
    refine ⟨fun k => match k with | 0 => c0 | 1 => c1 | 2 => c2 | 3 => c3 | 4 => c4 | 5 => c5 | 6 => c6 | 7 => c7 | 8 => c8 | _ => c9, fun k => match k with | 0 => f0 | 1 => f1 | 2 => f2 | 3 => f3 | 4 => f4 | 5 => f5 | 6 => f6 | 7 => f7 | 8 => f8 | _ => f9, ?_⟩
    intro k q hq
    match k, hq with
    | 0, hq => cases hq; exact n0
    | 1, hq => cases hq; exact n1
    | 2, hq => cases hq; exact n2
    | 3, hq => cases hq; exact n3
    | 4, hq => cases hq; exact n4
    | 5, hq => cases hq; exact n5
    | 6, hq => cases hq; exact n6
    | 7, hq => cases hq; exact n7
    | 8, hq => cases hq; exact n8
    | 9, hq => cases hq; exact n9
    | k + 10, hq => simp at hq
  obtain ⟨cI, kI, coI, i1, i2, i3⟩ := Cond.arrayClass_spec (hts (.arrayClass .int) (by decide +kernel))
  obtain ⟨cJ, kJ, coJ, j1, j2, j3⟩ := Cond.arrayClass_spec (hts (.arrayClass .long) (by decide +kernel))
  obtain ⟨cZ, kZ, coZ, z1, z2, z3⟩ := Cond.arrayClass_spec (hts (.arrayClass .boolean) (by decide +kernel))
  obtain ⟨coO, cO, kO, q1, -, q2, q3, q4⟩ := Cond.arrayOver_spec (hts (.arrayOver (.object "java/lang/Object")) (by decide +kernel))
  have hTY : ∀ (k : Nat) (q : ClassId × FieldType), (kTY cI cJ cZ cO)[k]? = some q → ArrOfT s q.1 q.2 ∧ va_RA s q.1 q.2 := by
    intro k q hq
    match k, hq with
    | 0, hq => cases hq; exact ⟨fun N z => ⟨(fun k h => by cases h), kI, i2, coI, i3⟩, i1⟩
    | 1, hq => cases hq; exact ⟨fun N z => ⟨(fun k h => by cases h), kJ, j2, coJ, j3⟩, j1⟩
    | 2, hq => cases hq; exact ⟨fun N z => ⟨(fun k h => by cases h), kZ, z2, coZ, z3⟩, z1⟩
    | 3, hq => cases hq; exact ⟨fun N z => ⟨(fun k h => by cases h), kO, q2, coO, q3⟩, kO, coO, q2, q3, q1, q4⟩
    | k + 4, hq => simp at hq
  have hs := flat_of_before _ hgv
  have hlen := Cond.eq_int (n := 0) (hs (.eq (.length (.static "java/util/ArrayList" "DEFAULTCAPACITY_EMPTY_ELEMENTDATA" "[Ljava/lang/Object;")) (.int 0)) (by decide +kernel)) rfl
  obtain ⟨e0, he0, hT⟩ := va_Tof (N := 0) (f := fun _ => .null) (A := lwA s) (by decide) (hs (.arrayOf (.static "java/util/ArrayList" "DEFAULTCAPACITY_EMPTY_ELEMENTDATA" "[Ljava/lang/Object;") (.object "java/lang/Object")) (by decide +kernel)) hlen (fun j h => absurd h (by omega)) hA
  have hZ := va_Zref (hts (.laysStatic "java/util/ArrayList" "DEFAULTCAPACITY_EMPTY_ELEMENTDATA" "[Ljava/lang/Object;") (by decide +kernel)) (hts (.initialized "java/util/ArrayList") (by decide +kernel)) he0 hA
  obtain ⟨mi, hMi⟩ := va_Mi.of (hs (.isRef (.mirror "[Ljava/lang/Object;")) (by decide +kernel))
  obtain ⟨sa, c99, cell9, k9, hsa, -⟩ := Cond.exactly_spec (hs (.exactly (.string "WhatToRead" 181) "java/lang/String") (by decide +kernel))
  have hKK : kK (dC, dI) (kTY cI cJ cZ cO) s := ⟨⟨hKc, hTY⟩, va_Nw.of rfl (hts (kNs RX3) (by decide +kernel)), va_Nw.of rfl (hts (kNs RX5) (by decide +kernel)), va_Fw.of (hts (.declares kI1) (by decide +kernel)) (hts (.interfaceMethod kI1.cls kI1.cls kI1.name kI1.desc) (by decide +kernel)) (hts (.publicMethod yJx4a65c_size_8abf5) (by decide +kernel)) (hts (.unhidden RJx4a65c kI1.name kI1.desc) (by decide +kernel)) (hts (.castable RJx4a65c kI1.cls) (by decide +kernel)), va_Fw.of (hts (.declares kI2) (by decide +kernel)) (hts (.interfaceMethod kI2.cls kI2.cls kI2.name kI2.desc) (by decide +kernel)) (hts (.publicMethod yJx4a65c_get_915e3) (by decide +kernel)) (hts (.unhidden RJx4a65c kI2.name kI2.desc) (by decide +kernel)) (hts (.castable RJx4a65c kI2.cls) (by decide +kernel)), va_Fw.of (hts (.declares kI3) (by decide +kernel)) (hts (.interfaceMethod kI3.cls kI3.cls kI3.name kI3.desc) (by decide +kernel)) (hts (.publicMethod yJx4a65c_add_9ea2d) (by decide +kernel)) (hts (.unhidden RJx4a65c kI3.name kI3.desc) (by decide +kernel)) (hts (.castable RJx4a65c kI3.cls) (by decide +kernel)), va_Fw.of (hts (.declares kI4) (by decide +kernel)) (hts (.interfaceMethod kI4.cls kI4.cls kI4.name kI4.desc) (by decide +kernel)) (hts (.publicMethod yJx4a65c_isEmpty_aae02) (by decide +kernel)) (hts (.unhidden RJx4a65c kI4.name kI4.desc) (by decide +kernel)) (hts (.castable RJx4a65c kI4.cls) (by decide +kernel)), va_Fw.of (hts (.declares kI5) (by decide +kernel)) (hts (.interfaceMethod kI5.cls kI5.cls kI5.name kI5.desc) (by decide +kernel)) (hts (.publicMethod yJx4a65c_remove_915e3) (by decide +kernel)) (hts (.unhidden RJx4a65c kI5.name kI5.desc) (by decide +kernel)) (hts (.castable RJx4a65c kI5.cls) (by decide +kernel)), va_Nw.of rfl (hts (.castable RX1 "java/lang/Object") (by decide +kernel))⟩
  have hXX : kX e0 mi (lwA s) s s.heap := ⟨hZ, hT, hMi, va_Dc.of (hts (.declares ⟨"java/lang/Object", "getClass", "()Ljava/lang/Class;"⟩) (by decide +kernel)), va_AO.of (hts (.arrayOver (.object "java/lang/Object")) (by decide +kernel))⟩
  have hYY : kY2 sa (lwA s) s s.heap := ⟨vk_R.of (hts (.stringRef RX7 181 "no such state") (by decide +kernel)) hsa, fun w hw => va_Nw.of (kFa_tab (kYB2_fa w hw)) (hts w (kYB2_in w hw)), vx_Zqof (hts (.laysStatic Bundle.tN "UNASSIGNED_STACK" Bundle.steD) (by decide +kernel)) (hts (.initialized Bundle.tN) (by decide +kernel)) (hs (.isRef (.static Bundle.tN "UNASSIGNED_STACK" Bundle.steD)) (by decide +kernel)) hA, vx_Zqof (hts (.laysStatic Bundle.tN "SUPPRESSED_SENTINEL" Bundle.listD) (by decide +kernel)) (hts (.initialized Bundle.tN) (by decide +kernel)) (hs (.isRef (.static Bundle.tN "SUPPRESSED_SENTINEL" Bundle.listD)) (by decide +kernel)) hA, va_Nw.of rfl (hts (.castable "java/util/NoSuchElementException" "java/util/NoSuchElementException") (by decide +kernel))⟩
  exact ⟨(dC, dI), cI, cJ, cZ, cO, e0, mi, sa, hKK, hXX, hYY⟩
