/-! ===== the law's cases, on ===== -/
set_option maxHeartbeats 4000000 in
theorem lw_c13 {p : Program} {l : Launch} {e : Env} {s : State} {m : MethodId} {below : List Frame} {meth : Method} {c : Code} {b L : Nat} {xs : Nat → Int32} {D : va_G} {cI cJ cZ cO : ClassId} {e0 mi sa : Nat} {H : Heap} {cells slots : Nat} {Q : State → Prop} {ls : Array Slot} {o z q i : Nat} {wX wM : va_W} {of : Nat → Int64}
    (C0 : lwC p s m meth c b L xs D cI cJ cZ cO e0 mi sa) (hroom : cells + 2 ≤ 601024 ∧ slots + 20 ≤ 7293034) (hi : i + 6 ≤ L) (hl : lv_has ls 7 [(0, .ref b), (1, .ref o), (2, .ref z), (3, .ref q), (4, .int (nI i))]) (hJ : lJ cI cJ cZ cO e0 o z wX wM)
    (hP : va_P D vwCl (wX ++ (wM ++ [(q, .inl (cJ, 1, .inr (.inl of)))])) H) (hD : va_D (lwA s) (wX ++ (wM ++ [(q, .inl (cJ, 1, .inr (.inl of)))]))) (hS : va_S (lwA s) s.heap H []) (K : lwK p l e s m below meth c b Q D cI cJ cZ cO e0 o z q i cells slots) :
    W p l e room_1 s m #[Value.ref b] below meth c H [] cells slots Q (F0 m 533 ls []) := by
  have hC := C0
  obtain ⟨hx, hb, hml, hown, hts, -, -, hK, hX, -, -, hL, -⟩ := hC
  obtain ⟨frx, lox, mcx, msx, frm, lom, a, pX, pM, hr, cx, cm, hj⟩ := j_reach l D cI cJ cZ cO e0 mi o z wX wM hJ 
  obtain ⟨fX, hrX⟩ := lJ_rX hJ
  obtain ⟨fM, hrM⟩ := lJ_rM hJ
  refine lv_aload_n hx hb dL_law_533 rfl (lv_at hl 1 rfl) ?_
  refine lw_go (va_runV (As := []) (rest := []) ⟨hx, hb, hml, hown, hts⟩ (cx _) (cwV 0 hts gL_law_X7_reach rfl rfl rfl (by decide +kernel) ⟨(by show frx + 1 ≤ 2048; omega), (by show 8 + (3 + 11) + lox ≤ 84000; omega)⟩) (kPreVX (ci := 8) (q0 := 0) hK hX hS (kFre hD hS (fun _ h => h)) (kPA hP) ((kDA hD).weaken (fun _ _ _ _ => trivial)) rfl hrX rfl) rfl rfl hl.1 rfl (lv_room (Nat.le_of_ble_eq_true rfl)) dL_law_534 ⟨(by show cells + mcx ≤ 601024; omega), (by show slots + msx ≤ 7293034; omega)⟩) hP hD hS (fun v_534 w_534 H hv_534 hP hD hS => ?_)
  obtain ⟨rfl, hpx⟩ := hv_534
  refine W.eq (g2 := F0 m 537 ls [.int a]) rfl ?_
  have hP : va_P D vwCl (wM ++ ([(q, .inl (cJ, 1, .inr (.inl of)))] ++ w_534)) H := by rw [← List.append_assoc]; exact hP
  have hD : va_D (lwA s) (wM ++ ([(q, .inl (cJ, 1, .inr (.inl of)))] ++ w_534)) := by rw [← List.append_assoc]; exact hD
  refine lv_aload_n hx hb dL_law_537 rfl (lv_at hl 2 rfl) ?_
  refine lw_go (va_runV (As := []) (rest := [.int a]) ⟨hx, hb, hml, hown, hts⟩ (cm _) (cwV 0 hts gL_law_X8_reach rfl rfl rfl (by decide +kernel) ⟨(by show frm + 1 ≤ 2048; omega), (by show 8 + (1 + 11) + lom ≤ 84000; omega)⟩) (kPreVX (ci := 9) (q0 := 0) hK hX hS (kFre hD hS (fun _ h => h)) (kPA hP) ((kDA hD).weaken (fun _ _ _ _ => trivial)) rfl hrM rfl) rfl rfl hl.1 rfl (lv_room (Nat.le_of_ble_eq_true rfl)) dL_law_538 ⟨(by show (cells + mcx) + 0 ≤ 601024; omega), (by show (slots + msx) + 0 ≤ 7293034; omega)⟩) hP hD hS (fun v_538 w_538 H hv_538 hP hD hS => ?_)
  obtain ⟨rfl, hpm⟩ := hv_538
  refine W.eq (g2 := F0 m 541 ls [.int a, .int a]) rfl ?_
  refine lv_icmp_eq (tgt := 857) hx hb dL_law_541 (by decide) (fun c1 => ?_) (fun c1 => absurd rfl c1)
  have hJ1 := hj _ _ hpx hpm
  have hP := lw_rot hP
  have hD := lw_rotD hD
  exact W.widen (by omega) (by omega) (K _ _ _ _ _ hl hJ1 hP hD hS)

set_option maxHeartbeats 4000000 in
theorem lw_c14 {p : Program} {l : Launch} {e : Env} {s : State} {m : MethodId} {below : List Frame} {meth : Method} {c : Code} {b L : Nat} {xs : Nat → Int32} {D : va_G} {cI cJ cZ cO : ClassId} {e0 mi sa : Nat} {H : Heap} {cells slots : Nat} {Q : State → Prop} {ls : Array Slot} {o z q i : Nat} {wX wM : va_W} {of : Nat → Int64}
    (C0 : lwC p s m meth c b L xs D cI cJ cZ cO e0 mi sa) (hroom : cells + 2 ≤ 601024 ∧ slots + 20 ≤ 7293034) (hi : i + 6 ≤ L) (hl : lv_has ls 7 [(0, .ref b), (1, .ref o), (2, .ref z), (3, .ref q), (4, .int (nI i))]) (hJ : lJ cI cJ cZ cO e0 o z wX wM)
    (hP : va_P D vwCl (wX ++ (wM ++ [(q, .inl (cJ, 1, .inr (.inl of)))])) H) (hD : va_D (lwA s) (wX ++ (wM ++ [(q, .inl (cJ, 1, .inr (.inl of)))]))) (hS : va_S (lwA s) s.heap H []) (K : lwK p l e s m below meth c b Q D cI cJ cZ cO e0 o z q i cells slots) :
    W p l e room_1 s m #[Value.ref b] below meth c H [] cells slots Q (F0 m 546 ls []) := by
  have hC := C0
  obtain ⟨hx, hb, hml, hown, hts, -, -, hK, hX, -, -, hL, -⟩ := hC
  obtain ⟨frx, lox, mcx, msx, frm, lom, a, pX, pM, hr, cx, cm, hj⟩ := j_gaps l D cI cJ cZ cO e0 mi o z wX wM hJ 
  obtain ⟨fX, hrX⟩ := lJ_rX hJ
  obtain ⟨fM, hrM⟩ := lJ_rM hJ
  refine lv_aload_n hx hb dL_law_546 rfl (lv_at hl 1 rfl) ?_
  refine lw_go (va_runV (As := []) (rest := []) ⟨hx, hb, hml, hown, hts⟩ (cx _) (cwV 0 hts gL_law_X7_gaps rfl rfl rfl (by decide +kernel) ⟨(by show frx + 1 ≤ 2048; omega), (by show 8 + (1 + 11) + lox ≤ 84000; omega)⟩) (kPreVX (ci := 8) (q0 := 0) hK hX hS (kFre hD hS (fun _ h => h)) (kPA hP) ((kDA hD).weaken (fun _ _ _ _ => trivial)) rfl hrX rfl) rfl rfl hl.1 rfl (lv_room (Nat.le_of_ble_eq_true rfl)) dL_law_547 ⟨(by show cells + mcx ≤ 601024; omega), (by show slots + msx ≤ 7293034; omega)⟩) hP hD hS (fun v_547 w_547 H hv_547 hP hD hS => ?_)
  obtain ⟨rfl, hpx⟩ := hv_547
  refine W.eq (g2 := F0 m 550 ls [.int a]) rfl ?_
  have hP : va_P D vwCl (wM ++ ([(q, .inl (cJ, 1, .inr (.inl of)))] ++ w_547)) H := by rw [← List.append_assoc]; exact hP
  have hD : va_D (lwA s) (wM ++ ([(q, .inl (cJ, 1, .inr (.inl of)))] ++ w_547)) := by rw [← List.append_assoc]; exact hD
  refine lv_aload_n hx hb dL_law_550 rfl (lv_at hl 2 rfl) ?_
  refine lw_go (va_runV (As := []) (rest := [.int a]) ⟨hx, hb, hml, hown, hts⟩ (cm _) (cwV 0 hts gL_law_X8_gaps rfl rfl rfl (by decide +kernel) ⟨(by show frm + 1 ≤ 2048; omega), (by show 8 + (4 + 11) + lom ≤ 84000; omega)⟩) (kPreVX (ci := 9) (q0 := 0) hK hX hS (kFre hD hS (fun _ h => h)) (kPA hP) ((kDA hD).weaken (fun _ _ _ _ => trivial)) rfl hrM rfl) rfl rfl hl.1 rfl (lv_room (Nat.le_of_ble_eq_true rfl)) dL_law_551 ⟨(by show (cells + mcx) + 0 ≤ 601024; omega), (by show (slots + msx) + 0 ≤ 7293034; omega)⟩) hP hD hS (fun v_551 w_551 H hv_551 hP hD hS => ?_)
  obtain ⟨rfl, hpm⟩ := hv_551
  refine W.eq (g2 := F0 m 554 ls [.int a, .int a]) rfl ?_
  refine lv_icmp_eq (tgt := 857) hx hb dL_law_554 (by decide) (fun c1 => ?_) (fun c1 => absurd rfl c1)
  have hJ1 := hj _ _ hpx hpm
  have hP := lw_rot hP
  have hD := lw_rotD hD
  exact W.widen (by omega) (by omega) (K _ _ _ _ _ hl hJ1 hP hD hS)

set_option maxHeartbeats 4000000 in
theorem lw_c15 {p : Program} {l : Launch} {e : Env} {s : State} {m : MethodId} {below : List Frame} {meth : Method} {c : Code} {b L : Nat} {xs : Nat → Int32} {D : va_G} {cI cJ cZ cO : ClassId} {e0 mi sa : Nat} {H : Heap} {cells slots : Nat} {Q : State → Prop} {ls : Array Slot} {o z q i : Nat} {wX wM : va_W} {of : Nat → Int64}
    (C0 : lwC p s m meth c b L xs D cI cJ cZ cO e0 mi sa) (hroom : cells + 2 ≤ 601024 ∧ slots + 20 ≤ 7293034) (hi : i + 6 ≤ L) (hl : lv_has ls 7 [(0, .ref b), (1, .ref o), (2, .ref z), (3, .ref q), (4, .int (nI i))]) (hJ : lJ cI cJ cZ cO e0 o z wX wM)
    (hP : va_P D vwCl (wX ++ (wM ++ [(q, .inl (cJ, 1, .inr (.inl of)))])) H) (hD : va_D (lwA s) (wX ++ (wM ++ [(q, .inl (cJ, 1, .inr (.inl of)))]))) (hS : va_S (lwA s) s.heap H []) (K : lwK p l e s m below meth c b Q D cI cJ cZ cO e0 o z q i cells slots) :
    W p l e room_1 s m #[Value.ref b] below meth c H [] cells slots Q (F0 m 559 ls []) := by
  have hC := C0
  obtain ⟨hx, hb, hml, hown, hts, -, -, hK, hX, -, -, hL, -⟩ := hC
  obtain ⟨frx, lox, mcx, msx, frm, lom, a, pX, pM, hr, cx, cm, hj⟩ := j_shortens l D cI cJ cZ cO e0 mi o z wX wM hJ (xs (i + 1)) (xs (i + 2))
  obtain ⟨fX, hrX⟩ := lJ_rX hJ
  obtain ⟨fM, hrM⟩ := lJ_rM hJ
  refine lv_aload_n hx hb dL_law_559 rfl (lv_at hl 1 rfl) ?_
  refine lw_arg (k := 1) C0 hS hl dL_law_560 dL_law_561 dL_law_563 rfl dL_law_564 dL_law_565 (by omega) ?_
  refine lw_arg (k := 2) C0 hS hl dL_law_566 dL_law_567 dL_law_569 rfl dL_law_570 dL_law_571 (by omega) ?_
  refine lw_go (va_runV (As := [.int (xs (i + 1)), .int (xs (i + 2))]) (rest := []) ⟨hx, hb, hml, hown, hts⟩ (cx _) (cwV 2 hts gL_law_X7_shortens rfl rfl rfl (by decide +kernel) ⟨(by show frx + 1 ≤ 2048; omega), (by show 8 + (6 + 11) + lox ≤ 84000; omega)⟩) (kPreVX (ci := 8) (q0 := 0) hK hX hS (kFre hD hS (fun _ h => h)) (kPA hP) ((kDA hD).weaken (fun _ _ _ _ => trivial)) rfl hrX rfl) rfl rfl hl.1 rfl (lv_room (Nat.le_of_ble_eq_true rfl)) dL_law_572 ⟨(by show cells + mcx ≤ 601024; omega), (by show slots + msx ≤ 7293034; omega)⟩) hP hD hS (fun v_572 w_572 H hv_572 hP hD hS => ?_)
  obtain ⟨rfl, hpx⟩ := hv_572
  refine W.eq (g2 := F0 m 575 ls [.int a]) rfl ?_
  have hP : va_P D vwCl (wM ++ ([(q, .inl (cJ, 1, .inr (.inl of)))] ++ w_572)) H := by rw [← List.append_assoc]; exact hP
  have hD : va_D (lwA s) (wM ++ ([(q, .inl (cJ, 1, .inr (.inl of)))] ++ w_572)) := by rw [← List.append_assoc]; exact hD
  refine lv_aload_n hx hb dL_law_575 rfl (lv_at hl 2 rfl) ?_
  refine lw_arg (k := 1) C0 hS hl dL_law_576 dL_law_577 dL_law_579 rfl dL_law_580 dL_law_581 (by omega) ?_
  refine lw_arg (k := 2) C0 hS hl dL_law_582 dL_law_583 dL_law_585 rfl dL_law_586 dL_law_587 (by omega) ?_
  refine lw_go (va_runV (As := [.int (xs (i + 1)), .int (xs (i + 2))]) (rest := [.int a]) ⟨hx, hb, hml, hown, hts⟩ (cm _) (cwV 2 hts gL_law_X8_shortens rfl rfl rfl (by decide +kernel) ⟨(by show frm + 1 ≤ 2048; omega), (by show 8 + (4 + 11) + lom ≤ 84000; omega)⟩) (kPreVX (ci := 9) (q0 := 0) hK hX hS (kFre hD hS (fun _ h => h)) (kPA hP) ((kDA hD).weaken (fun _ _ _ _ => trivial)) rfl hrM rfl) rfl rfl hl.1 rfl (lv_room (Nat.le_of_ble_eq_true rfl)) dL_law_588 ⟨(by show (cells + mcx) + 0 ≤ 601024; omega), (by show (slots + msx) + 0 ≤ 7293034; omega)⟩) hP hD hS (fun v_588 w_588 H hv_588 hP hD hS => ?_)
  obtain ⟨rfl, hpm⟩ := hv_588
  refine W.eq (g2 := F0 m 591 ls [.int a, .int a]) rfl ?_
  refine lv_icmp_eq (tgt := 857) hx hb dL_law_591 (by decide) (fun c1 => ?_) (fun c1 => absurd rfl c1)
  have hJ1 := hj _ _ hpx hpm
  have hP := lw_rot hP
  have hD := lw_rotD hD
  exact W.widen (by omega) (by omega) (K _ _ _ _ _ hl hJ1 hP hD hS)

set_option maxHeartbeats 4000000 in
theorem lw_c16 {p : Program} {l : Launch} {e : Env} {s : State} {m : MethodId} {below : List Frame} {meth : Method} {c : Code} {b L : Nat} {xs : Nat → Int32} {D : va_G} {cI cJ cZ cO : ClassId} {e0 mi sa : Nat} {H : Heap} {cells slots : Nat} {Q : State → Prop} {ls : Array Slot} {o z q i : Nat} {wX wM : va_W} {of : Nat → Int64}
    (C0 : lwC p s m meth c b L xs D cI cJ cZ cO e0 mi sa) (hroom : cells + 2 ≤ 601024 ∧ slots + 20 ≤ 7293034) (hi : i + 6 ≤ L) (hl : lv_has ls 7 [(0, .ref b), (1, .ref o), (2, .ref z), (3, .ref q), (4, .int (nI i))]) (hJ : lJ cI cJ cZ cO e0 o z wX wM)
    (hP : va_P D vwCl (wX ++ (wM ++ [(q, .inl (cJ, 1, .inr (.inl of)))])) H) (hD : va_D (lwA s) (wX ++ (wM ++ [(q, .inl (cJ, 1, .inr (.inl of)))]))) (hS : va_S (lwA s) s.heap H []) (K : lwK p l e s m below meth c b Q D cI cJ cZ cO e0 o z q i cells slots) :
    W p l e room_1 s m #[Value.ref b] below meth c H [] cells slots Q (F0 m 596 ls []) := by
  have hC := C0
  obtain ⟨hx, hb, hml, hown, hts, -, -, hK, hX, -, -, hL, -⟩ := hC
  obtain ⟨frx, lox, mcx, msx, frm, lom, a, pX, pM, hr, cx, cm, hj⟩ := j_week l D cI cJ cZ cO e0 mi o z wX wM hJ (xs (i + 1)) (xs (i + 2))
  obtain ⟨fX, hrX⟩ := lJ_rX hJ
  obtain ⟨fM, hrM⟩ := lJ_rM hJ
  refine lv_aload_n hx hb dL_law_596 rfl (lv_at hl 1 rfl) ?_
  refine lw_arg (k := 1) C0 hS hl dL_law_597 dL_law_598 dL_law_600 rfl dL_law_601 dL_law_602 (by omega) ?_
  refine lw_arg (k := 2) C0 hS hl dL_law_603 dL_law_604 dL_law_606 rfl dL_law_607 dL_law_608 (by omega) ?_
  refine lw_go (va_runV (As := [.int (xs (i + 1)), .int (xs (i + 2))]) (rest := []) ⟨hx, hb, hml, hown, hts⟩ (cx _) (cwV 2 hts gL_law_X7_week rfl rfl rfl (by decide +kernel) ⟨(by show frx + 1 ≤ 2048; omega), (by show 8 + (3 + 11) + lox ≤ 84000; omega)⟩) (kPreVX (ci := 8) (q0 := 0) hK hX hS (kFre hD hS (fun _ h => h)) (kPA hP) ((kDA hD).weaken (fun _ _ _ _ => trivial)) rfl hrX rfl) rfl rfl hl.1 rfl (lv_room (Nat.le_of_ble_eq_true rfl)) dL_law_609 ⟨(by show cells + mcx ≤ 601024; omega), (by show slots + msx ≤ 7293034; omega)⟩) hP hD hS (fun v_609 w_609 H hv_609 hP hD hS => ?_)
  obtain ⟨rfl, hpx⟩ := hv_609
  refine W.eq (g2 := F0 m 612 ls [.int a]) rfl ?_
  have hP : va_P D vwCl (wM ++ ([(q, .inl (cJ, 1, .inr (.inl of)))] ++ w_609)) H := by rw [← List.append_assoc]; exact hP
  have hD : va_D (lwA s) (wM ++ ([(q, .inl (cJ, 1, .inr (.inl of)))] ++ w_609)) := by rw [← List.append_assoc]; exact hD
  refine lv_aload_n hx hb dL_law_612 rfl (lv_at hl 2 rfl) ?_
  refine lw_arg (k := 1) C0 hS hl dL_law_613 dL_law_614 dL_law_616 rfl dL_law_617 dL_law_618 (by omega) ?_
  refine lw_arg (k := 2) C0 hS hl dL_law_619 dL_law_620 dL_law_622 rfl dL_law_623 dL_law_624 (by omega) ?_
  refine lw_go (va_runV (As := [.int (xs (i + 1)), .int (xs (i + 2))]) (rest := [.int a]) ⟨hx, hb, hml, hown, hts⟩ (cm _) (cwV 2 hts gL_law_X8_week rfl rfl rfl (by decide +kernel) ⟨(by show frm + 1 ≤ 2048; omega), (by show 8 + (3 + 11) + lom ≤ 84000; omega)⟩) (kPreVX (ci := 9) (q0 := 0) hK hX hS (kFre hD hS (fun _ h => h)) (kPA hP) ((kDA hD).weaken (fun _ _ _ _ => trivial)) rfl hrM rfl) rfl rfl hl.1 rfl (lv_room (Nat.le_of_ble_eq_true rfl)) dL_law_625 ⟨(by show (cells + mcx) + 0 ≤ 601024; omega), (by show (slots + msx) + 0 ≤ 7293034; omega)⟩) hP hD hS (fun v_625 w_625 H hv_625 hP hD hS => ?_)
  obtain ⟨rfl, hpm⟩ := hv_625
  refine W.eq (g2 := F0 m 628 ls [.int a, .int a]) rfl ?_
  refine lv_icmp_eq (tgt := 857) hx hb dL_law_628 (by decide) (fun c1 => ?_) (fun c1 => absurd rfl c1)
  have hJ1 := hj _ _ hpx hpm
  have hP := lw_rot hP
  have hD := lw_rotD hD
  exact W.widen (by omega) (by omega) (K _ _ _ _ _ hl hJ1 hP hD hS)

set_option maxHeartbeats 4000000 in
theorem lw_c17 {p : Program} {l : Launch} {e : Env} {s : State} {m : MethodId} {below : List Frame} {meth : Method} {c : Code} {b L : Nat} {xs : Nat → Int32} {D : va_G} {cI cJ cZ cO : ClassId} {e0 mi sa : Nat} {H : Heap} {cells slots : Nat} {Q : State → Prop} {ls : Array Slot} {o z q i : Nat} {wX wM : va_W} {of : Nat → Int64}
    (C0 : lwC p s m meth c b L xs D cI cJ cZ cO e0 mi sa) (hroom : cells + 2 ≤ 601024 ∧ slots + 20 ≤ 7293034) (hi : i + 6 ≤ L) (hl : lv_has ls 7 [(0, .ref b), (1, .ref o), (2, .ref z), (3, .ref q), (4, .int (nI i))]) (hJ : lJ cI cJ cZ cO e0 o z wX wM)
    (hP : va_P D vwCl (wX ++ (wM ++ [(q, .inl (cJ, 1, .inr (.inl of)))])) H) (hD : va_D (lwA s) (wX ++ (wM ++ [(q, .inl (cJ, 1, .inr (.inl of)))]))) (hS : va_S (lwA s) s.heap H []) (K : lwK p l e s m below meth c b Q D cI cJ cZ cO e0 o z q i cells slots) :
    W p l e room_1 s m #[Value.ref b] below meth c H [] cells slots Q (F0 m 633 ls []) := by
  have hC := C0
  obtain ⟨hx, hb, hml, hown, hts, -, -, hK, hX, -, -, hL, -⟩ := hC
  obtain ⟨frx, lox, mcx, msx, frm, lom, a, pX, pM, hr, cx, cm, hj⟩ := j_lay l D cI cJ cZ cO e0 mi o z wX wM hJ (xs (i + 1))
  obtain ⟨fX, hrX⟩ := lJ_rX hJ
  obtain ⟨fM, hrM⟩ := lJ_rM hJ
  refine lv_aload_n hx hb dL_law_633 rfl (lv_at hl 1 rfl) ?_
  refine lw_arg (k := 1) C0 hS hl dL_law_634 dL_law_635 dL_law_637 rfl dL_law_638 dL_law_639 (by omega) ?_
  refine lw_go (va_runV (As := [.int (xs (i + 1))]) (rest := []) ⟨hx, hb, hml, hown, hts⟩ (cx _) (cwV 1 hts gL_law_X7_lay rfl rfl rfl (by decide +kernel) ⟨(by show frx + 1 ≤ 2048; omega), (by show 8 + (2 + 11) + lox ≤ 84000; omega)⟩) (kPreVX (ci := 8) (q0 := 0) hK hX hS (kFre hD hS (fun _ h => h)) (kPA hP) ((kDA hD).weaken (fun _ _ _ _ => trivial)) rfl hrX rfl) rfl rfl hl.1 rfl (lv_room (Nat.le_of_ble_eq_true rfl)) dL_law_640 ⟨(by show cells + mcx ≤ 601024; omega), (by show slots + msx ≤ 7293034; omega)⟩) hP hD hS (fun v_640 w_640 H hv_640 hP hD hS => ?_)
  obtain ⟨rfl, hpx⟩ := hv_640
  refine W.eq (g2 := F0 m 643 ls [.int a]) rfl ?_
  have hP : va_P D vwCl (wM ++ ([(q, .inl (cJ, 1, .inr (.inl of)))] ++ w_640)) H := by rw [← List.append_assoc]; exact hP
  have hD : va_D (lwA s) (wM ++ ([(q, .inl (cJ, 1, .inr (.inl of)))] ++ w_640)) := by rw [← List.append_assoc]; exact hD
  refine lv_aload_n hx hb dL_law_643 rfl (lv_at hl 2 rfl) ?_
  refine lw_arg (k := 1) C0 hS hl dL_law_644 dL_law_645 dL_law_647 rfl dL_law_648 dL_law_649 (by omega) ?_
  refine lw_go (va_runV (As := [.int (xs (i + 1))]) (rest := [.int a]) ⟨hx, hb, hml, hown, hts⟩ (cm _) (cwV 1 hts gL_law_X8_lay rfl rfl rfl (by decide +kernel) ⟨(by show frm + 1 ≤ 2048; omega), (by show 8 + (5 + 11) + lom ≤ 84000; omega)⟩) (kPreVX (ci := 9) (q0 := 0) hK hX hS (kFre hD hS (fun _ h => h)) (kPA hP) ((kDA hD).weaken (fun _ _ _ _ => trivial)) rfl hrM rfl) rfl rfl hl.1 rfl (lv_room (Nat.le_of_ble_eq_true rfl)) dL_law_650 ⟨(by show (cells + mcx) + 0 ≤ 601024; omega), (by show (slots + msx) + 0 ≤ 7293034; omega)⟩) hP hD hS (fun v_650 w_650 H hv_650 hP hD hS => ?_)
  obtain ⟨rfl, hpm⟩ := hv_650
  refine W.eq (g2 := F0 m 653 ls [.int a, .int a]) rfl ?_
  refine lv_icmp_eq (tgt := 857) hx hb dL_law_653 (by decide) (fun c1 => ?_) (fun c1 => absurd rfl c1)
  have hJ1 := hj _ _ hpx hpm
  have hP := lw_rot hP
  have hD := lw_rotD hD
  exact W.widen (by omega) (by omega) (K _ _ _ _ _ hl hJ1 hP hD hS)

set_option maxHeartbeats 4000000 in
theorem lw_c18 {p : Program} {l : Launch} {e : Env} {s : State} {m : MethodId} {below : List Frame} {meth : Method} {c : Code} {b L : Nat} {xs : Nat → Int32} {D : va_G} {cI cJ cZ cO : ClassId} {e0 mi sa : Nat} {H : Heap} {cells slots : Nat} {Q : State → Prop} {ls : Array Slot} {o z q i : Nat} {wX wM : va_W} {of : Nat → Int64}
    (C0 : lwC p s m meth c b L xs D cI cJ cZ cO e0 mi sa) (hroom : cells + 2 ≤ 601024 ∧ slots + 20 ≤ 7293034) (hi : i + 6 ≤ L) (hl : lv_has ls 7 [(0, .ref b), (1, .ref o), (2, .ref z), (3, .ref q), (4, .int (nI i))]) (hJ : lJ cI cJ cZ cO e0 o z wX wM)
    (hP : va_P D vwCl (wX ++ (wM ++ [(q, .inl (cJ, 1, .inr (.inl of)))])) H) (hD : va_D (lwA s) (wX ++ (wM ++ [(q, .inl (cJ, 1, .inr (.inl of)))]))) (hS : va_S (lwA s) s.heap H []) (K : lwK p l e s m below meth c b Q D cI cJ cZ cO e0 o z q i cells slots) :
    W p l e room_1 s m #[Value.ref b] below meth c H [] cells slots Q (F0 m 658 ls []) := by
  have hC := C0
  obtain ⟨hx, hb, hml, hown, hts, -, -, hK, hX, -, -, hL, -⟩ := hC
  obtain ⟨frx, lox, mcx, msx, frm, lom, a, pX, pM, hr, cx, cm, hj⟩ := j_laid l D cI cJ cZ cO e0 mi o z wX wM hJ (xs (i + 1))
  obtain ⟨fX, hrX⟩ := lJ_rX hJ
  obtain ⟨fM, hrM⟩ := lJ_rM hJ
  refine lv_aload_n hx hb dL_law_658 rfl (lv_at hl 1 rfl) ?_
  refine lw_arg (k := 1) C0 hS hl dL_law_659 dL_law_660 dL_law_662 rfl dL_law_663 dL_law_664 (by omega) ?_
  refine lw_go (va_runV (As := [.int (xs (i + 1))]) (rest := []) ⟨hx, hb, hml, hown, hts⟩ (cx _) (cwV 1 hts gL_law_X7_laid rfl rfl rfl (by decide +kernel) ⟨(by show frx + 1 ≤ 2048; omega), (by show 8 + (2 + 11) + lox ≤ 84000; omega)⟩) (kPreVX (ci := 8) (q0 := 0) hK hX hS (kFre hD hS (fun _ h => h)) (kPA hP) ((kDA hD).weaken (fun _ _ _ _ => trivial)) rfl hrX rfl) rfl rfl hl.1 rfl (lv_room (Nat.le_of_ble_eq_true rfl)) dL_law_665 ⟨(by show cells + mcx ≤ 601024; omega), (by show slots + msx ≤ 7293034; omega)⟩) hP hD hS (fun v_665 w_665 H hv_665 hP hD hS => ?_)
  obtain ⟨rfl, hpx⟩ := hv_665
  refine W.eq (g2 := F0 m 668 ls [.int a]) rfl ?_
  have hP : va_P D vwCl (wM ++ ([(q, .inl (cJ, 1, .inr (.inl of)))] ++ w_665)) H := by rw [← List.append_assoc]; exact hP
  have hD : va_D (lwA s) (wM ++ ([(q, .inl (cJ, 1, .inr (.inl of)))] ++ w_665)) := by rw [← List.append_assoc]; exact hD
  refine lv_aload_n hx hb dL_law_668 rfl (lv_at hl 2 rfl) ?_
  refine lw_arg (k := 1) C0 hS hl dL_law_669 dL_law_670 dL_law_672 rfl dL_law_673 dL_law_674 (by omega) ?_
  refine lw_go (va_runV (As := [.int (xs (i + 1))]) (rest := [.int a]) ⟨hx, hb, hml, hown, hts⟩ (cm _) (cwV 1 hts gL_law_X8_laid rfl rfl rfl (by decide +kernel) ⟨(by show frm + 1 ≤ 2048; omega), (by show 8 + (2 + 11) + lom ≤ 84000; omega)⟩) (kPreVX (ci := 9) (q0 := 0) hK hX hS (kFre hD hS (fun _ h => h)) (kPA hP) ((kDA hD).weaken (fun _ _ _ _ => trivial)) rfl hrM rfl) rfl rfl hl.1 rfl (lv_room (Nat.le_of_ble_eq_true rfl)) dL_law_675 ⟨(by show (cells + mcx) + 0 ≤ 601024; omega), (by show (slots + msx) + 0 ≤ 7293034; omega)⟩) hP hD hS (fun v_675 w_675 H hv_675 hP hD hS => ?_)
  obtain ⟨rfl, hpm⟩ := hv_675
  refine W.eq (g2 := F0 m 678 ls [.int a, .int a]) rfl ?_
  refine lv_icmp_eq (tgt := 857) hx hb dL_law_678 (by decide) (fun c1 => ?_) (fun c1 => absurd rfl c1)
  have hJ1 := hj _ _ hpx hpm
  have hP := lw_rot hP
  have hD := lw_rotD hD
  exact W.widen (by omega) (by omega) (K _ _ _ _ _ hl hJ1 hP hD hS)

set_option maxHeartbeats 4000000 in
theorem lw_c19 {p : Program} {l : Launch} {e : Env} {s : State} {m : MethodId} {below : List Frame} {meth : Method} {c : Code} {b L : Nat} {xs : Nat → Int32} {D : va_G} {cI cJ cZ cO : ClassId} {e0 mi sa : Nat} {H : Heap} {cells slots : Nat} {Q : State → Prop} {ls : Array Slot} {o z q i : Nat} {wX wM : va_W} {of : Nat → Int64}
    (C0 : lwC p s m meth c b L xs D cI cJ cZ cO e0 mi sa) (hroom : cells + 2 ≤ 601024 ∧ slots + 20 ≤ 7293034) (hi : i + 6 ≤ L) (hl : lv_has ls 7 [(0, .ref b), (1, .ref o), (2, .ref z), (3, .ref q), (4, .int (nI i))]) (hJ : lJ cI cJ cZ cO e0 o z wX wM)
    (hP : va_P D vwCl (wX ++ (wM ++ [(q, .inl (cJ, 1, .inr (.inl of)))])) H) (hD : va_D (lwA s) (wX ++ (wM ++ [(q, .inl (cJ, 1, .inr (.inl of)))]))) (hS : va_S (lwA s) s.heap H []) (K : lwK p l e s m below meth c b Q D cI cJ cZ cO e0 o z q i cells slots) :
    W p l e room_1 s m #[Value.ref b] below meth c H [] cells slots Q (F0 m 683 ls []) := by
  have hC := C0
  obtain ⟨hx, hb, hml, hown, hts, -, -, hK, hX, -, -, hL, -⟩ := hC
  by_cases h0 : xs (i + 2) = 0
  · skip
    obtain ⟨frx, lox, mcx, msx, frm, lom, a, pX, pM, hr, cx, cm, hj⟩ := j_answer l D cI cJ cZ cO e0 mi o z wX wM hJ (xs (i + 1)) false
    obtain ⟨fX, hrX⟩ := lJ_rX hJ
    obtain ⟨fM, hrM⟩ := lJ_rM hJ
    refine lv_aload_n hx hb dL_law_683 rfl (lv_at hl 1 rfl) ?_
    refine lw_arg (k := 1) C0 hS hl dL_law_684 dL_law_685 dL_law_687 rfl dL_law_688 dL_law_689 (by omega) ?_
    refine lw_arg (k := 2) C0 hS hl dL_law_690 dL_law_691 dL_law_693 rfl dL_law_694 dL_law_695 (by omega) ?_
    refine lv_if_eq (tgt := 703) hx hb dL_law_696 (by decide) (fun c1 => ?_) (fun c1 => absurd h0 c1)
    refine lv_iconst (v := 0) hx hb dL_law_703 (by decide) ?_
    refine lw_go (va_runV (As := [.int (xs (i + 1)), .int (k01 false)]) (rest := []) ⟨hx, hb, hml, hown, hts⟩ (cx _) (cwV 2 hts gL_law_X7_answer rfl rfl rfl (by decide +kernel) ⟨(by show frx + 1 ≤ 2048; omega), (by show 8 + (3 + 11) + lox ≤ 84000; omega)⟩) (kPreVX (ci := 8) (q0 := 0) hK hX hS (kFre hD hS (fun _ h => h)) (kPA hP) ((kDA hD).weaken (fun _ _ _ _ => trivial)) rfl hrX rfl) rfl rfl hl.1 rfl (lv_room (Nat.le_of_ble_eq_true rfl)) dL_law_704 ⟨(by show cells + mcx ≤ 601024; omega), (by show slots + msx ≤ 7293034; omega)⟩) hP hD hS (fun v_704 w_704 H hv_704 hP hD hS => ?_)
    obtain ⟨rfl, hpx⟩ := hv_704
    refine W.eq (g2 := F0 m 707 ls [.int a]) rfl ?_
    have hP : va_P D vwCl (wM ++ ([(q, .inl (cJ, 1, .inr (.inl of)))] ++ w_704)) H := by rw [← List.append_assoc]; exact hP
    have hD : va_D (lwA s) (wM ++ ([(q, .inl (cJ, 1, .inr (.inl of)))] ++ w_704)) := by rw [← List.append_assoc]; exact hD
    refine lv_aload_n hx hb dL_law_707 rfl (lv_at hl 2 rfl) ?_
    refine lw_arg (k := 1) C0 hS hl dL_law_708 dL_law_709 dL_law_711 rfl dL_law_712 dL_law_713 (by omega) ?_
    refine lw_arg (k := 2) C0 hS hl dL_law_714 dL_law_715 dL_law_717 rfl dL_law_718 dL_law_719 (by omega) ?_
    refine lv_if_eq (tgt := 727) hx hb dL_law_720 (by decide) (fun c1 => ?_) (fun c1 => absurd h0 c1)
    refine lv_iconst (v := 0) hx hb dL_law_727 (by decide) ?_
    refine lw_go (va_runV (As := [.int (xs (i + 1)), .int (k01 false)]) (rest := [.int a]) ⟨hx, hb, hml, hown, hts⟩ (cm _) (cwV 2 hts gL_law_X8_answer rfl rfl rfl (by decide +kernel) ⟨(by show frm + 1 ≤ 2048; omega), (by show 8 + (4 + 11) + lom ≤ 84000; omega)⟩) (kPreVX (ci := 9) (q0 := 0) hK hX hS (kFre hD hS (fun _ h => h)) (kPA hP) ((kDA hD).weaken (fun _ _ _ _ => trivial)) rfl hrM rfl) rfl rfl hl.1 rfl (lv_room (Nat.le_of_ble_eq_true rfl)) dL_law_728 ⟨(by show (cells + mcx) + 0 ≤ 601024; omega), (by show (slots + msx) + 0 ≤ 7293034; omega)⟩) hP hD hS (fun v_728 w_728 H hv_728 hP hD hS => ?_)
    obtain ⟨rfl, hpm⟩ := hv_728
    refine W.eq (g2 := F0 m 731 ls [.int a, .int a]) rfl ?_
    refine lv_icmp_eq (tgt := 857) hx hb dL_law_731 (by decide) (fun c1 => ?_) (fun c1 => absurd rfl c1)
    have hJ1 := hj _ _ hpx hpm
    have hP := lw_rot hP
    have hD := lw_rotD hD
    exact W.widen (by omega) (by omega) (K _ _ _ _ _ hl hJ1 hP hD hS)
  · skip
    obtain ⟨frx, lox, mcx, msx, frm, lom, a, pX, pM, hr, cx, cm, hj⟩ := j_answer l D cI cJ cZ cO e0 mi o z wX wM hJ (xs (i + 1)) true
    obtain ⟨fX, hrX⟩ := lJ_rX hJ
    obtain ⟨fM, hrM⟩ := lJ_rM hJ
    refine lv_aload_n hx hb dL_law_683 rfl (lv_at hl 1 rfl) ?_
    refine lw_arg (k := 1) C0 hS hl dL_law_684 dL_law_685 dL_law_687 rfl dL_law_688 dL_law_689 (by omega) ?_
    refine lw_arg (k := 2) C0 hS hl dL_law_690 dL_law_691 dL_law_693 rfl dL_law_694 dL_law_695 (by omega) ?_
    refine lv_if_eq (tgt := 703) hx hb dL_law_696 (by decide) (fun c1 => absurd c1 h0) (fun c1 => ?_)
    refine lv_iconst (v := 1) hx hb dL_law_699 (by decide) ?_
    refine lv_goto (tgt := 704) hx hb dL_law_700 (by decide) ?_
    refine lw_go (va_runV (As := [.int (xs (i + 1)), .int (k01 true)]) (rest := []) ⟨hx, hb, hml, hown, hts⟩ (cx _) (cwV 2 hts gL_law_X7_answer rfl rfl rfl (by decide +kernel) ⟨(by show frx + 1 ≤ 2048; omega), (by show 8 + (3 + 11) + lox ≤ 84000; omega)⟩) (kPreVX (ci := 8) (q0 := 0) hK hX hS (kFre hD hS (fun _ h => h)) (kPA hP) ((kDA hD).weaken (fun _ _ _ _ => trivial)) rfl hrX rfl) rfl rfl hl.1 rfl (lv_room (Nat.le_of_ble_eq_true rfl)) dL_law_704 ⟨(by show cells + mcx ≤ 601024; omega), (by show slots + msx ≤ 7293034; omega)⟩) hP hD hS (fun v_704 w_704 H hv_704 hP hD hS => ?_)
    obtain ⟨rfl, hpx⟩ := hv_704
    refine W.eq (g2 := F0 m 707 ls [.int a]) rfl ?_
    have hP : va_P D vwCl (wM ++ ([(q, .inl (cJ, 1, .inr (.inl of)))] ++ w_704)) H := by rw [← List.append_assoc]; exact hP
    have hD : va_D (lwA s) (wM ++ ([(q, .inl (cJ, 1, .inr (.inl of)))] ++ w_704)) := by rw [← List.append_assoc]; exact hD
    refine lv_aload_n hx hb dL_law_707 rfl (lv_at hl 2 rfl) ?_
    refine lw_arg (k := 1) C0 hS hl dL_law_708 dL_law_709 dL_law_711 rfl dL_law_712 dL_law_713 (by omega) ?_
    refine lw_arg (k := 2) C0 hS hl dL_law_714 dL_law_715 dL_law_717 rfl dL_law_718 dL_law_719 (by omega) ?_
    refine lv_if_eq (tgt := 727) hx hb dL_law_720 (by decide) (fun c1 => absurd c1 h0) (fun c1 => ?_)
    refine lv_iconst (v := 1) hx hb dL_law_723 (by decide) ?_
    refine lv_goto (tgt := 728) hx hb dL_law_724 (by decide) ?_
    refine lw_go (va_runV (As := [.int (xs (i + 1)), .int (k01 true)]) (rest := [.int a]) ⟨hx, hb, hml, hown, hts⟩ (cm _) (cwV 2 hts gL_law_X8_answer rfl rfl rfl (by decide +kernel) ⟨(by show frm + 1 ≤ 2048; omega), (by show 8 + (4 + 11) + lom ≤ 84000; omega)⟩) (kPreVX (ci := 9) (q0 := 0) hK hX hS (kFre hD hS (fun _ h => h)) (kPA hP) ((kDA hD).weaken (fun _ _ _ _ => trivial)) rfl hrM rfl) rfl rfl hl.1 rfl (lv_room (Nat.le_of_ble_eq_true rfl)) dL_law_728 ⟨(by show (cells + mcx) + 0 ≤ 601024; omega), (by show (slots + msx) + 0 ≤ 7293034; omega)⟩) hP hD hS (fun v_728 w_728 H hv_728 hP hD hS => ?_)
    obtain ⟨rfl, hpm⟩ := hv_728
    refine W.eq (g2 := F0 m 731 ls [.int a, .int a]) rfl ?_
    refine lv_icmp_eq (tgt := 857) hx hb dL_law_731 (by decide) (fun c1 => ?_) (fun c1 => absurd rfl c1)
    have hJ1 := hj _ _ hpx hpm
    have hP := lw_rot hP
    have hD := lw_rotD hD
    exact W.widen (by omega) (by omega) (K _ _ _ _ _ hl hJ1 hP hD hS)

set_option maxHeartbeats 4000000 in
theorem lw_c20 {p : Program} {l : Launch} {e : Env} {s : State} {m : MethodId} {below : List Frame} {meth : Method} {c : Code} {b L : Nat} {xs : Nat → Int32} {D : va_G} {cI cJ cZ cO : ClassId} {e0 mi sa : Nat} {H : Heap} {cells slots : Nat} {Q : State → Prop} {ls : Array Slot} {o z q i : Nat} {wX wM : va_W} {of : Nat → Int64}
    (C0 : lwC p s m meth c b L xs D cI cJ cZ cO e0 mi sa) (hroom : cells + 2 ≤ 601024 ∧ slots + 20 ≤ 7293034) (hi : i + 6 ≤ L) (hl : lv_has ls 7 [(0, .ref b), (1, .ref o), (2, .ref z), (3, .ref q), (4, .int (nI i))]) (hJ : lJ cI cJ cZ cO e0 o z wX wM)
    (hP : va_P D vwCl (wX ++ (wM ++ [(q, .inl (cJ, 1, .inr (.inl of)))])) H) (hD : va_D (lwA s) (wX ++ (wM ++ [(q, .inl (cJ, 1, .inr (.inl of)))]))) (hS : va_S (lwA s) s.heap H []) (K : lwK p l e s m below meth c b Q D cI cJ cZ cO e0 o z q i cells slots) :
    W p l e room_1 s m #[Value.ref b] below meth c H [] cells slots Q (F0 m 736 ls []) := by
  have hC := C0
  obtain ⟨hx, hb, hml, hown, hts, -, -, hK, hX, -, -, hL, -⟩ := hC
  obtain ⟨frx, lox, mcx, msx, frm, lom, a, pX, pM, hr, cx, cm, hj⟩ := j_ask l D cI cJ cZ cO e0 mi o z wX wM hJ 
  obtain ⟨fX, hrX⟩ := lJ_rX hJ
  obtain ⟨fM, hrM⟩ := lJ_rM hJ
  refine lv_aload_n hx hb dL_law_736 rfl (lv_at hl 1 rfl) ?_
  refine lw_go (va_runV (As := []) (rest := []) ⟨hx, hb, hml, hown, hts⟩ (cx _) (cwV 0 hts gL_law_X7_ask rfl rfl rfl (by decide +kernel) ⟨(by show frx + 1 ≤ 2048; omega), (by show 8 + (2 + 11) + lox ≤ 84000; omega)⟩) (kPreVX (ci := 8) (q0 := 0) hK hX hS (kFre hD hS (fun _ h => h)) (kPA hP) ((kDA hD).weaken (fun _ _ _ _ => trivial)) rfl hrX rfl) rfl rfl hl.1 rfl (lv_room (Nat.le_of_ble_eq_true rfl)) dL_law_737 ⟨(by show cells + mcx ≤ 601024; omega), (by show slots + msx ≤ 7293034; omega)⟩) hP hD hS (fun v_737 w_737 H hv_737 hP hD hS => ?_)
  obtain ⟨rfl, hpx⟩ := hv_737
  refine W.eq (g2 := F0 m 740 ls [.int a]) rfl ?_
  have hP : va_P D vwCl (wM ++ ([(q, .inl (cJ, 1, .inr (.inl of)))] ++ w_737)) H := by rw [← List.append_assoc]; exact hP
  have hD : va_D (lwA s) (wM ++ ([(q, .inl (cJ, 1, .inr (.inl of)))] ++ w_737)) := by rw [← List.append_assoc]; exact hD
  refine lv_aload_n hx hb dL_law_740 rfl (lv_at hl 2 rfl) ?_
  refine lw_go (va_runV (As := []) (rest := [.int a]) ⟨hx, hb, hml, hown, hts⟩ (cm _) (cwV 0 hts gL_law_X8_ask rfl rfl rfl (by decide +kernel) ⟨(by show frm + 1 ≤ 2048; omega), (by show 8 + (2 + 11) + lom ≤ 84000; omega)⟩) (kPreVX (ci := 9) (q0 := 0) hK hX hS (kFre hD hS (fun _ h => h)) (kPA hP) ((kDA hD).weaken (fun _ _ _ _ => trivial)) rfl hrM rfl) rfl rfl hl.1 rfl (lv_room (Nat.le_of_ble_eq_true rfl)) dL_law_741 ⟨(by show (cells + mcx) + 0 ≤ 601024; omega), (by show (slots + msx) + 0 ≤ 7293034; omega)⟩) hP hD hS (fun v_741 w_741 H hv_741 hP hD hS => ?_)
  obtain ⟨rfl, hpm⟩ := hv_741
  refine W.eq (g2 := F0 m 744 ls [.int a, .int a]) rfl ?_
  refine lv_icmp_eq (tgt := 857) hx hb dL_law_744 (by decide) (fun c1 => ?_) (fun c1 => absurd rfl c1)
  have hJ1 := hj _ _ hpx hpm
  have hP := lw_rot hP
  have hD := lw_rotD hD
  exact W.widen (by omega) (by omega) (K _ _ _ _ _ hl hJ1 hP hD hS)

set_option maxHeartbeats 4000000 in
theorem lw_c21 {p : Program} {l : Launch} {e : Env} {s : State} {m : MethodId} {below : List Frame} {meth : Method} {c : Code} {b L : Nat} {xs : Nat → Int32} {D : va_G} {cI cJ cZ cO : ClassId} {e0 mi sa : Nat} {H : Heap} {cells slots : Nat} {Q : State → Prop} {ls : Array Slot} {o z q i : Nat} {wX wM : va_W} {of : Nat → Int64}
    (C0 : lwC p s m meth c b L xs D cI cJ cZ cO e0 mi sa) (hroom : cells + 2 ≤ 601024 ∧ slots + 20 ≤ 7293034) (hi : i + 6 ≤ L) (hl : lv_has ls 7 [(0, .ref b), (1, .ref o), (2, .ref z), (3, .ref q), (4, .int (nI i))]) (hJ : lJ cI cJ cZ cO e0 o z wX wM)
    (hP : va_P D vwCl (wX ++ (wM ++ [(q, .inl (cJ, 1, .inr (.inl of)))])) H) (hD : va_D (lwA s) (wX ++ (wM ++ [(q, .inl (cJ, 1, .inr (.inl of)))]))) (hS : va_S (lwA s) s.heap H []) (K : lwK p l e s m below meth c b Q D cI cJ cZ cO e0 o z q i cells slots) :
    W p l e room_1 s m #[Value.ref b] below meth c H [] cells slots Q (F0 m 749 ls []) := by
  have hC := C0
  obtain ⟨hx, hb, hml, hown, hts, -, -, hK, hX, -, -, hL, -⟩ := hC
  obtain ⟨frx, lox, mcx, msx, frm, lom, a, pX, pM, hr, cx, cm, hj⟩ := j_states l D cI cJ cZ cO e0 mi o z wX wM hJ 
  obtain ⟨fX, hrX⟩ := lJ_rX hJ
  obtain ⟨fM, hrM⟩ := lJ_rM hJ
  refine lv_aload_n hx hb dL_law_749 rfl (lv_at hl 1 rfl) ?_
  refine lw_go (va_runV (As := []) (rest := []) ⟨hx, hb, hml, hown, hts⟩ (cx _) (cwV 0 hts gL_law_X7_states rfl rfl rfl (by decide +kernel) ⟨(by show frx + 1 ≤ 2048; omega), (by show 8 + (1 + 11) + lox ≤ 84000; omega)⟩) (kPreVX (ci := 8) (q0 := 0) hK hX hS (kFre hD hS (fun _ h => h)) (kPA hP) ((kDA hD).weaken (fun _ _ _ _ => trivial)) rfl hrX rfl) rfl rfl hl.1 rfl (lv_room (Nat.le_of_ble_eq_true rfl)) dL_law_750 ⟨(by show cells + mcx ≤ 601024; omega), (by show slots + msx ≤ 7293034; omega)⟩) hP hD hS (fun v_750 w_750 H hv_750 hP hD hS => ?_)
  obtain ⟨rfl, hpx⟩ := hv_750
  refine W.eq (g2 := F0 m 753 ls [.int a]) rfl ?_
  have hP : va_P D vwCl (wM ++ ([(q, .inl (cJ, 1, .inr (.inl of)))] ++ w_750)) H := by rw [← List.append_assoc]; exact hP
  have hD : va_D (lwA s) (wM ++ ([(q, .inl (cJ, 1, .inr (.inl of)))] ++ w_750)) := by rw [← List.append_assoc]; exact hD
  refine lv_aload_n hx hb dL_law_753 rfl (lv_at hl 2 rfl) ?_
  refine lw_go (va_runV (As := []) (rest := [.int a]) ⟨hx, hb, hml, hown, hts⟩ (cm _) (cwV 0 hts gL_law_X8_states rfl rfl rfl (by decide +kernel) ⟨(by show frm + 1 ≤ 2048; omega), (by show 8 + (1 + 11) + lom ≤ 84000; omega)⟩) (kPreVX (ci := 9) (q0 := 0) hK hX hS (kFre hD hS (fun _ h => h)) (kPA hP) ((kDA hD).weaken (fun _ _ _ _ => trivial)) rfl hrM rfl) rfl rfl hl.1 rfl (lv_room (Nat.le_of_ble_eq_true rfl)) dL_law_754 ⟨(by show (cells + mcx) + 0 ≤ 601024; omega), (by show (slots + msx) + 0 ≤ 7293034; omega)⟩) hP hD hS (fun v_754 w_754 H hv_754 hP hD hS => ?_)
  obtain ⟨rfl, hpm⟩ := hv_754
  refine W.eq (g2 := F0 m 757 ls [.int a, .int a]) rfl ?_
  refine lv_icmp_eq (tgt := 857) hx hb dL_law_757 (by decide) (fun c1 => ?_) (fun c1 => absurd rfl c1)
  have hJ1 := hj _ _ hpx hpm
  have hP := lw_rot hP
  have hD := lw_rotD hD
  exact W.widen (by omega) (by omega) (K _ _ _ _ _ hl hJ1 hP hD hS)

set_option maxHeartbeats 4000000 in
theorem lw_c22 {p : Program} {l : Launch} {e : Env} {s : State} {m : MethodId} {below : List Frame} {meth : Method} {c : Code} {b L : Nat} {xs : Nat → Int32} {D : va_G} {cI cJ cZ cO : ClassId} {e0 mi sa : Nat} {H : Heap} {cells slots : Nat} {Q : State → Prop} {ls : Array Slot} {o z q i : Nat} {wX wM : va_W} {of : Nat → Int64}
    (C0 : lwC p s m meth c b L xs D cI cJ cZ cO e0 mi sa) (hroom : cells + 2 ≤ 601024 ∧ slots + 20 ≤ 7293034) (hi : i + 6 ≤ L) (hl : lv_has ls 7 [(0, .ref b), (1, .ref o), (2, .ref z), (3, .ref q), (4, .int (nI i))]) (hJ : lJ cI cJ cZ cO e0 o z wX wM)
    (hP : va_P D vwCl (wX ++ (wM ++ [(q, .inl (cJ, 1, .inr (.inl of)))])) H) (hD : va_D (lwA s) (wX ++ (wM ++ [(q, .inl (cJ, 1, .inr (.inl of)))]))) (hS : va_S (lwA s) s.heap H []) (K : lwK p l e s m below meth c b Q D cI cJ cZ cO e0 o z q i cells slots) :
    W p l e room_1 s m #[Value.ref b] below meth c H [] cells slots Q (F0 m 762 ls []) := by
  have hC := C0
  obtain ⟨hx, hb, hml, hown, hts, -, -, hK, hX, -, -, hL, -⟩ := hC
  obtain ⟨frx, lox, mcx, msx, frm, lom, a, pX, pM, hr, cx, cm, hj⟩ := j_question l D cI cJ cZ cO e0 mi o z wX wM hJ 
  obtain ⟨fX, hrX⟩ := lJ_rX hJ
  obtain ⟨fM, hrM⟩ := lJ_rM hJ
  refine lv_aload_n hx hb dL_law_762 rfl (lv_at hl 1 rfl) ?_
  refine lw_go (va_runV (As := []) (rest := []) ⟨hx, hb, hml, hown, hts⟩ (cx _) (cwV 0 hts gL_law_X7_question rfl rfl rfl (by decide +kernel) ⟨(by show frx + 1 ≤ 2048; omega), (by show 8 + (1 + 11) + lox ≤ 84000; omega)⟩) (kPreVX (ci := 8) (q0 := 0) hK hX hS (kFre hD hS (fun _ h => h)) (kPA hP) ((kDA hD).weaken (fun _ _ _ _ => trivial)) rfl hrX rfl) rfl rfl hl.1 rfl (lv_room (Nat.le_of_ble_eq_true rfl)) dL_law_763 ⟨(by show cells + mcx ≤ 601024; omega), (by show slots + msx ≤ 7293034; omega)⟩) hP hD hS (fun v_763 w_763 H hv_763 hP hD hS => ?_)
  obtain ⟨rfl, hpx⟩ := hv_763
  refine W.eq (g2 := F0 m 766 ls [.int a]) rfl ?_
  have hP : va_P D vwCl (wM ++ ([(q, .inl (cJ, 1, .inr (.inl of)))] ++ w_763)) H := by rw [← List.append_assoc]; exact hP
  have hD : va_D (lwA s) (wM ++ ([(q, .inl (cJ, 1, .inr (.inl of)))] ++ w_763)) := by rw [← List.append_assoc]; exact hD
  refine lv_aload_n hx hb dL_law_766 rfl (lv_at hl 2 rfl) ?_
  refine lw_go (va_runV (As := []) (rest := [.int a]) ⟨hx, hb, hml, hown, hts⟩ (cm _) (cwV 0 hts gL_law_X8_question rfl rfl rfl (by decide +kernel) ⟨(by show frm + 1 ≤ 2048; omega), (by show 8 + (7 + 11) + lom ≤ 84000; omega)⟩) (kPreVX (ci := 9) (q0 := 0) hK hX hS (kFre hD hS (fun _ h => h)) (kPA hP) ((kDA hD).weaken (fun _ _ _ _ => trivial)) rfl hrM rfl) rfl rfl hl.1 rfl (lv_room (Nat.le_of_ble_eq_true rfl)) dL_law_767 ⟨(by show (cells + mcx) + 0 ≤ 601024; omega), (by show (slots + msx) + 0 ≤ 7293034; omega)⟩) hP hD hS (fun v_767 w_767 H hv_767 hP hD hS => ?_)
  obtain ⟨rfl, hpm⟩ := hv_767
  refine W.eq (g2 := F0 m 770 ls [.int a, .int a]) rfl ?_
  refine lv_icmp_eq (tgt := 857) hx hb dL_law_770 (by decide) (fun c1 => ?_) (fun c1 => absurd rfl c1)
  have hJ1 := hj _ _ hpx hpm
  have hP := lw_rot hP
  have hD := lw_rotD hD
  exact W.widen (by omega) (by omega) (K _ _ _ _ _ hl hJ1 hP hD hS)

set_option maxHeartbeats 4000000 in
theorem lw_c23 {p : Program} {l : Launch} {e : Env} {s : State} {m : MethodId} {below : List Frame} {meth : Method} {c : Code} {b L : Nat} {xs : Nat → Int32} {D : va_G} {cI cJ cZ cO : ClassId} {e0 mi sa : Nat} {H : Heap} {cells slots : Nat} {Q : State → Prop} {ls : Array Slot} {o z q i : Nat} {wX wM : va_W} {of : Nat → Int64}
    (C0 : lwC p s m meth c b L xs D cI cJ cZ cO e0 mi sa) (hroom : cells + 2 ≤ 601024 ∧ slots + 20 ≤ 7293034) (hi : i + 6 ≤ L) (hl : lv_has ls 7 [(0, .ref b), (1, .ref o), (2, .ref z), (3, .ref q), (4, .int (nI i))]) (hJ : lJ cI cJ cZ cO e0 o z wX wM)
    (hP : va_P D vwCl (wX ++ (wM ++ [(q, .inl (cJ, 1, .inr (.inl of)))])) H) (hD : va_D (lwA s) (wX ++ (wM ++ [(q, .inl (cJ, 1, .inr (.inl of)))]))) (hS : va_S (lwA s) s.heap H []) (K : lwK p l e s m below meth c b Q D cI cJ cZ cO e0 o z q i cells slots) :
    W p l e room_1 s m #[Value.ref b] below meth c H [] cells slots Q (F0 m 775 ls []) := by
  have hC := C0
  obtain ⟨hx, hb, hml, hown, hts, -, -, hK, hX, -, -, hL, -⟩ := hC
  obtain ⟨frx, lox, mcx, msx, frm, lom, a, pX, pM, hr, cx, cm, hj⟩ := j_worst l D cI cJ cZ cO e0 mi o z wX wM hJ 
  obtain ⟨fX, hrX⟩ := lJ_rX hJ
  obtain ⟨fM, hrM⟩ := lJ_rM hJ
  refine lv_aload_n hx hb dL_law_775 rfl (lv_at hl 1 rfl) ?_
  refine lw_go (va_runV (As := []) (rest := []) ⟨hx, hb, hml, hown, hts⟩ (cx _) (cwV 0 hts gL_law_X7_worst rfl rfl rfl (by decide +kernel) ⟨(by show frx + 1 ≤ 2048; omega), (by show 8 + (1 + 11) + lox ≤ 84000; omega)⟩) (kPreVX (ci := 8) (q0 := 0) hK hX hS (kFre hD hS (fun _ h => h)) (kPA hP) ((kDA hD).weaken (fun _ _ _ _ => trivial)) rfl hrX rfl) rfl rfl hl.1 rfl (lv_room (Nat.le_of_ble_eq_true rfl)) dL_law_776 ⟨(by show cells + mcx ≤ 601024; omega), (by show slots + msx ≤ 7293034; omega)⟩) hP hD hS (fun v_776 w_776 H hv_776 hP hD hS => ?_)
  obtain ⟨rfl, hpx⟩ := hv_776
  refine W.eq (g2 := F0 m 779 ls [.int a]) rfl ?_
  have hP : va_P D vwCl (wM ++ ([(q, .inl (cJ, 1, .inr (.inl of)))] ++ w_776)) H := by rw [← List.append_assoc]; exact hP
  have hD : va_D (lwA s) (wM ++ ([(q, .inl (cJ, 1, .inr (.inl of)))] ++ w_776)) := by rw [← List.append_assoc]; exact hD
  refine lv_aload_n hx hb dL_law_779 rfl (lv_at hl 2 rfl) ?_
  refine lw_go (va_runV (As := []) (rest := [.int a]) ⟨hx, hb, hml, hown, hts⟩ (cm _) (cwV 0 hts gL_law_X8_worst rfl rfl rfl (by decide +kernel) ⟨(by show frm + 1 ≤ 2048; omega), (by show 8 + (4 + 11) + lom ≤ 84000; omega)⟩) (kPreVX (ci := 9) (q0 := 0) hK hX hS (kFre hD hS (fun _ h => h)) (kPA hP) ((kDA hD).weaken (fun _ _ _ _ => trivial)) rfl hrM rfl) rfl rfl hl.1 rfl (lv_room (Nat.le_of_ble_eq_true rfl)) dL_law_780 ⟨(by show (cells + mcx) + 0 ≤ 601024; omega), (by show (slots + msx) + 0 ≤ 7293034; omega)⟩) hP hD hS (fun v_780 w_780 H hv_780 hP hD hS => ?_)
  obtain ⟨rfl, hpm⟩ := hv_780
  refine W.eq (g2 := F0 m 783 ls [.int a, .int a]) rfl ?_
  refine lv_icmp_eq (tgt := 857) hx hb dL_law_783 (by decide) (fun c1 => ?_) (fun c1 => absurd rfl c1)
  have hJ1 := hj _ _ hpx hpm
  have hP := lw_rot hP
  have hD := lw_rotD hD
  exact W.widen (by omega) (by omega) (K _ _ _ _ _ hl hJ1 hP hD hS)

set_option maxHeartbeats 4000000 in
theorem lw_c24 {p : Program} {l : Launch} {e : Env} {s : State} {m : MethodId} {below : List Frame} {meth : Method} {c : Code} {b L : Nat} {xs : Nat → Int32} {D : va_G} {cI cJ cZ cO : ClassId} {e0 mi sa : Nat} {H : Heap} {cells slots : Nat} {Q : State → Prop} {ls : Array Slot} {o z q i : Nat} {wX wM : va_W} {of : Nat → Int64}
    (C0 : lwC p s m meth c b L xs D cI cJ cZ cO e0 mi sa) (hroom : cells + 2 ≤ 601024 ∧ slots + 20 ≤ 7293034) (hi : i + 6 ≤ L) (hl : lv_has ls 7 [(0, .ref b), (1, .ref o), (2, .ref z), (3, .ref q), (4, .int (nI i))]) (hJ : lJ cI cJ cZ cO e0 o z wX wM)
    (hP : va_P D vwCl (wX ++ (wM ++ [(q, .inl (cJ, 1, .inr (.inl of)))])) H) (hD : va_D (lwA s) (wX ++ (wM ++ [(q, .inl (cJ, 1, .inr (.inl of)))]))) (hS : va_S (lwA s) s.heap H []) (K : lwK p l e s m below meth c b Q D cI cJ cZ cO e0 o z q i cells slots) :
    W p l e room_1 s m #[Value.ref b] below meth c H [] cells slots Q (F0 m 788 ls []) := by
  have hC := C0
  obtain ⟨hx, hb, hml, hown, hts, -, -, hK, hX, -, -, hL, -⟩ := hC
  obtain ⟨frx, lox, mcx, msx, frm, lom, a, pX, pM, hr, cx, cm, hj⟩ := j_settle l D cI cJ cZ cO e0 mi o z wX wM hJ 
  obtain ⟨fX, hrX⟩ := lJ_rX hJ
  obtain ⟨fM, hrM⟩ := lJ_rM hJ
  refine lv_aload_n hx hb dL_law_788 rfl (lv_at hl 1 rfl) ?_
  refine lw_go (va_runV (As := []) (rest := []) ⟨hx, hb, hml, hown, hts⟩ (cx _) (cwV 0 hts gL_law_X7_settle rfl rfl rfl (by decide +kernel) ⟨(by show frx + 1 ≤ 2048; omega), (by show 8 + (1 + 11) + lox ≤ 84000; omega)⟩) (kPreVX (ci := 8) (q0 := 0) hK hX hS (kFre hD hS (fun _ h => h)) (kPA hP) ((kDA hD).weaken (fun _ _ _ _ => trivial)) rfl hrX rfl) rfl rfl hl.1 rfl (lv_room (Nat.le_of_ble_eq_true rfl)) dL_law_789 ⟨(by show cells + mcx ≤ 601024; omega), (by show slots + msx ≤ 7293034; omega)⟩) hP hD hS (fun v_789 w_789 H hv_789 hP hD hS => ?_)
  obtain ⟨rfl, hpx⟩ := hv_789
  refine W.eq (g2 := F0 m 792 ls [.int a]) rfl ?_
  have hP : va_P D vwCl (wM ++ ([(q, .inl (cJ, 1, .inr (.inl of)))] ++ w_789)) H := by rw [← List.append_assoc]; exact hP
  have hD : va_D (lwA s) (wM ++ ([(q, .inl (cJ, 1, .inr (.inl of)))] ++ w_789)) := by rw [← List.append_assoc]; exact hD
  refine lv_aload_n hx hb dL_law_792 rfl (lv_at hl 2 rfl) ?_
  refine lw_go (va_runV (As := []) (rest := [.int a]) ⟨hx, hb, hml, hown, hts⟩ (cm _) (cwV 0 hts gL_law_X8_settle rfl rfl rfl (by decide +kernel) ⟨(by show frm + 1 ≤ 2048; omega), (by show 8 + (3 + 11) + lom ≤ 84000; omega)⟩) (kPreVX (ci := 9) (q0 := 0) hK hX hS (kFre hD hS (fun _ h => h)) (kPA hP) ((kDA hD).weaken (fun _ _ _ _ => trivial)) rfl hrM rfl) rfl rfl hl.1 rfl (lv_room (Nat.le_of_ble_eq_true rfl)) dL_law_793 ⟨(by show (cells + mcx) + 0 ≤ 601024; omega), (by show (slots + msx) + 0 ≤ 7293034; omega)⟩) hP hD hS (fun v_793 w_793 H hv_793 hP hD hS => ?_)
  obtain ⟨rfl, hpm⟩ := hv_793
  refine W.eq (g2 := F0 m 796 ls [.int a, .int a]) rfl ?_
  refine lv_icmp_eq (tgt := 857) hx hb dL_law_796 (by decide) (fun c1 => ?_) (fun c1 => absurd rfl c1)
  have hJ1 := hj _ _ hpx hpm
  have hP := lw_rot hP
  have hD := lw_rotD hD
  exact W.widen (by omega) (by omega) (K _ _ _ _ _ hl hJ1 hP hD hS)
