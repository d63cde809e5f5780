/-! ===== the law: case 25, the switch, the loop, the start ===== -/
theorem lw_in1 {D : va_G} {q : Nat × va_E} {x y : va_W} {H : Heap} (h : va_P D vwCl (x ++ (y ++ [q])) H) : va_P D vwCl ((x ++ [q]) ++ y) H := by
  rw [← List.append_assoc] at h
  exact va_P.swap h
theorem lw_in1D {A : Nat → Prop} {q : Nat × va_E} {x y : va_W} (h : va_D A (x ++ (y ++ [q]))) : va_D A ((x ++ [q]) ++ y) := by
  rw [← List.append_assoc] at h
  exact va_D.swap h
theorem lw_out1 {D : va_G} {q : Nat × va_E} {x y : va_W} {H : Heap} (h : va_P D vwCl ((x ++ [q]) ++ y) H) : va_P D vwCl (x ++ (y ++ [q])) H := by
  rw [← List.append_assoc]
  exact va_P.swap h
theorem lw_out1D {A : Nat → Prop} {q : Nat × va_E} {x y : va_W} (h : va_D A ((x ++ [q]) ++ y)) : va_D A (x ++ (y ++ [q])) := by
  rw [← List.append_assoc]
  exact va_D.swap h
theorem lw_first {D : va_G} {q : Nat × va_E} {x y : va_W} {H : Heap} (h : va_P D vwCl ((x ++ [q]) ++ y) H) : va_P D vwCl (([q] ++ y) ++ x) H := by
  rw [List.append_assoc] at h
  exact kPS h
theorem kPreSY {D : va_G} {TY : List (ClassId × FieldType)} {sa : Nat} {s : State} {A : Nat → Prop} {H : Heap} {locs : List Loc} {wc : va_W} {As : List Value} (hK : kK D TY s) (hY : kY2 sa A s s.heap) (hS : va_S A s.heap H locs) (hF : ∀ q, va_A wc H.size q → A q) (hP : va_P D vwCl wc H) (hD : va_D (fun _ => True) wc) : PreS s H (va_Pc As (kPy2 D TY sa wc H.size)) As :=
  ⟨kBlindY2, fun U hU hW => ⟨rfl, ⟨by rw [hU], by rw [hU]; exact hP, hK.warm hW, hD⟩, hY.use hS hF hW hU⟩⟩
theorem lg_self (x : Int64) : lg_cmp x x = 0 := by
  unfold lg_cmp
  rw [if_neg (by simp [Int64.lt_iff_toInt_lt]), if_pos rfl]
set_option maxHeartbeats 4000000 in
theorem lw_c25 {p : Program} {l : Launch} (hlf : l.stackTraces = false) {e : Env} {s : State} {m : MethodId} {below : List Frame} {meth : Method} {c : Code} {b L : Nat} {xs : Nat → Int32} {D : va_G} {cI cJ cZ cO : ClassId} {e0 mi sa : Nat} {H : Heap} {cells slots : Nat} {Q : State → Prop} {ls : Array Slot} {o z q i : Nat} {wX wM : va_W} {of : Nat → Int64}
    (C0 : lwC p s m meth c b L xs D cI cJ cZ cO e0 mi sa) (hroom : cells + 2 ≤ 601024 ∧ slots + 20 ≤ 7293034) (hi : i + 6 ≤ L) (hl : lv_has ls 7 [(0, .ref b), (1, .ref o), (2, .ref z), (3, .ref q), (4, .int (nI i))]) (hJ : lJ cI cJ cZ cO e0 o z wX wM)
    (hP : va_P D vwCl (wX ++ (wM ++ [(q, .inl (cJ, 1, .inr (.inl of)))])) H) (hD : va_D (lwA s) (wX ++ (wM ++ [(q, .inl (cJ, 1, .inr (.inl of)))]))) (hS : va_S (lwA s) s.heap H []) (K : lwK p l e s m below meth c b Q D cI cJ cZ cO e0 o z q i cells slots) :
    W p l e room_1 s m #[Value.ref b] below meth c H [] cells slots Q (F0 m 801 ls []) := by
  have hC := C0
  obtain ⟨hx, hb, hml, hown, hts, -, -, hK, hX, hY, -, hL, hts2⟩ := hC
  obtain ⟨k, b5, th, of2, pM, cx, cm, ct, hj, hth, hout, hk01⟩ := j_state l hlf D cI cJ cZ cO sa e0 mi o z wX wM hJ q of (xs (i + 1))
  obtain ⟨fX, hrX⟩ := lJ_rX hJ
  obtain ⟨fM, hrM⟩ := lJ_rM hJ
  have hP := lw_in1 hP
  have hD := lw_in1D hD
  refine lv_aload_n hx hb dL_law_801 rfl (lv_at hl 1 rfl) ?_
  refine lw_arg (k := 1) C0 hS hl dL_law_802 dL_law_803 dL_law_805 rfl dL_law_806 dL_law_807 (by omega) ?_
  refine lv_aload_n hx hb dL_law_808 rfl (lv_at hl 3 rfl) ?_
  refine lw_go (vx_runSW (As := [.ref o, .int (xs (i + 1)), .ref q]) (rest := []) ⟨hx, hb, hml, hown, hts2⟩ (cx _) (vx_cwSW 3 hts2 gL_law2_L_state rfl rfl rfl (by decide +kernel) ⟨Nat.le_of_ble_eq_true rfl, Nat.le_of_ble_eq_true rfl⟩) (kPreSY hK hY hS (kFre hD hS (fun _ h => h)) (kPA hP) ((kDA hD).weaken (fun _ _ _ _ => trivial))) rfl rfl hl.1 rfl (lv_room (Nat.le_of_ble_eq_true rfl)) dL_law_809 ⟨(by show cells + 1 ≤ 601024; omega), (by show slots + 6 ≤ 7293034; omega)⟩) hP hD hS (fun v_1 w_1 H hv_1 hP hD hS => ?_)
  obtain ⟨rfl, rfl⟩ := hv_1
  refine W.eq (g2 := F0 m 812 ls [.int k]) rfl ?_
  refine lv_istore (lv' := [(5, .int k), (0, .ref b), (1, .ref o), (2, .ref z), (3, .ref q), (4, .int (nI i))]) hx hb dL_law_812 hl (by decide) rfl (fun ls hl => ?_)
  refine lv_aload_n hx hb dL_law_814 rfl (lv_at hl 3 rfl) ?_
  refine lw_arg (k := 1) C0 hS (lv_sub hl [1, 2, 3, 4, 5] rfl) dL_law_815 dL_law_816 dL_law_818 rfl dL_law_819 dL_law_820 (by omega) ?_
  refine lw_go (va_runV (As := [.int (xs (i + 1))]) (rest := []) ⟨hx, hb, hml, hown, hts⟩ (cm _) (cwV 1 hts gL_law_X8_state rfl rfl rfl (by decide +kernel) ⟨Nat.le_of_ble_eq_true rfl, Nat.le_of_ble_eq_true rfl⟩) (kPreVX (ci := 9) (q0 := 0) hK hX hS (kFre hD hS (fun _ h => h)) (kPA hP) ((kDA hD).weaken (fun _ _ _ _ => trivial)) rfl hrM rfl) rfl rfl hl.1 rfl (lv_room (Nat.le_of_ble_eq_true rfl)) dL_law_821 ⟨(by show cells + 1 + 0 ≤ 601024; omega), (by show slots + 6 + 0 ≤ 7293034; omega)⟩) hP hD hS (fun v_2 w_2 H hv_2 hP hD hS => ?_)
  obtain ⟨rfl, hpm⟩ := hv_2
  have hJ1 := hj _ hpm
  obtain ⟨fM2, hrM2⟩ := lJ_rM hJ1
  refine W.eq (g2 := F0 m 824 ls [.int b5]) rfl ?_
  refine lv_istore (lv' := [(6, .int b5), (5, .int k), (0, .ref b), (1, .ref o), (2, .ref z), (3, .ref q), (4, .int (nI i))]) hx hb dL_law_824 hl (by decide) rfl (fun ls hl => ?_)
  refine lv_aload_n hx hb dL_law_826 rfl (lv_at hl 4 rfl) ?_
  have hP := kPS hP
  have hD := kDS hD
  refine lw_go (va_runV (As := []) (rest := []) ⟨hx, hb, hml, hown, hts⟩ (ct _ hpm _) (cwV 0 hts gL_law_X8_thrown rfl rfl rfl (by decide +kernel) ⟨Nat.le_of_ble_eq_true rfl, Nat.le_of_ble_eq_true rfl⟩) (kPreVX (ci := 9) (q0 := 0) hK hX hS (kFre hD hS (fun _ h => h)) (kPA hP) ((kDA hD).weaken (fun _ _ _ _ => trivial)) rfl hrM2 rfl) rfl rfl hl.1 rfl (lv_room (Nat.le_of_ble_eq_true rfl)) dL_law_827 ⟨(by show cells + 1 + 0 + 0 ≤ 601024; omega), (by show slots + 6 + 0 + 0 ≤ 7293034; omega)⟩) hP hD hS (fun v_3 w_3 H hv_3 hP hD hS => ?_)
  obtain ⟨rfl, hw3⟩ := hv_3
  rw [hw3] at hP hD
  refine W.eq (g2 := F0 m 830 ls [.int th]) rfl ?_
  refine lv_iload hx hb dL_law_830 (lv_at hl 1 rfl) ?_
  refine lv_icmp_eq (tgt := 837) hx hb dL_law_832 (by decide) (fun c1 => ?_) (fun c1 => absurd hth c1)
  refine lv_iload hx hb dL_law_837 (lv_at hl 1 rfl) ?_
  have hl5 := lv_sub hl [2, 3, 4, 5, 6] rfl
  have hPo := lw_out1 hP
  have hDo := lw_out1D hD
  refine lv_if_ne (tgt := 854) hx hb dL_law_839 (by decide) (fun c2 => ?_) (fun c2 => ?_)
  · refine lv_goto (tgt := 857) hx hb dL_law_854 (by decide) ?_
    exact W.widen (by omega) (by omega) (K _ _ _ _ _ hl5 hJ1 hPo hDo hS)
  · have hk0 : k = 0 := Classical.byContradiction fun h => by
      first | exact c2 h | exact h c2
    refine lv_aload_n hx hb dL_law_842 rfl (lv_at hl 5 rfl) ?_
    refine lv_iconst (v := 0) hx hb dL_law_843 (by decide) ?_
    refine va_lald hx hb hK.1 (lw_first hP) 0 1 rfl rfl (vp_in_nI (n := 0) (by omega) (by omega)) dL_law_844 ?_
    refine lv_iload hx hb dL_law_845 (lv_at hl 0 rfl) ?_
    refine lv_i2l (v := b5.toInt64) hx hb dL_law_847 rfl ?_
    refine W.lcmp hx hb dL_law_848 ?_
    refine lv_if_eq (tgt := 854) hx hb dL_law_849 (by decide) (fun c3 => ?_) (fun c3 => absurd (show lg_cmp (of2 0) b5.toInt64 = 0 by rw [hout hk0]; exact lg_self _) c3)
    refine lv_goto (tgt := 857) hx hb dL_law_854 (by decide) ?_
    exact W.widen (by omega) (by omega) (K _ _ _ _ _ hl5 hJ1 hPo hDo hS)
theorem gt6 {L i : Nat} (hL : L ≤ 3072) (hi : i < 8000) : (Int32.ofNat L - 6 < nI i) ↔ ¬ i + 6 ≤ L := by
  by_cases h : 6 ≤ L
  · rw [show Int32.ofNat L - 6 = nI (L - 6) from pk_sub (a := L) (b := 6) h, nI_ltI (by omega) (by omega)]
    omega
  · have h0 : Int32.ofNat L - 6 < 0 := by
      rcases (show L = 0 ∨ L = 1 ∨ L = 2 ∨ L = 3 ∨ L = 4 ∨ L = 5 by omega) with rfl | rfl | rfl | rfl | rfl | rfl <;> decide
    have h1 := nI_pos (n := i) (by omega)
    constructor
    · intro _; omega
    · intro _
      rw [Int32.lt_iff_toInt_lt] at h0 h1 ⊢
      omega
set_option maxHeartbeats 4000000 in
theorem lw_loop {p : Program} {l : Launch} (hlf : l.stackTraces = false) {e : Env} {s : State} {m : MethodId} {below : List Frame} {meth : Method} {c : Code} {b L : Nat} {xs : Nat → Int32} {D : va_G} {cI cJ cZ cO : ClassId} {e0 mi sa : Nat} {Q : State → Prop} {o z q : Nat}
    (C0 : lwC p s m meth c b L xs D cI cJ cZ cO e0 mi sa) (hend : ∀ (H1 : Heap) (ls : Array Slot), W p l e room_1 s m #[Value.ref b] below meth c H1 [] 601024 7293034 Q (F0 m 863 ls [])) :
    ∀ (n i cells slots : Nat) (H : Heap) (ls : Array Slot) (wX wM : va_W) (of : Nat → Int64), L ≤ i + n → i ≤ L + 6 → cells ≤ 100 + 2 * i → slots ≤ 26000 + 20 * i →
      lv_has ls 7 [(0, .ref b), (1, .ref o), (2, .ref z), (3, .ref q), (4, .int (nI i))] → lJ cI cJ cZ cO e0 o z wX wM → va_P D vwCl (wX ++ (wM ++ [(q, .inl (cJ, 1, .inr (.inl of)))])) H → va_D (lwA s) (wX ++ (wM ++ [(q, .inl (cJ, 1, .inr (.inl of)))])) → va_S (lwA s) s.heap H [] →
      W p l e room_1 s m #[Value.ref b] below meth c H [] cells slots Q (F0 m 23 ls []) := by
  intro n
  induction n with
  | zero =>
    intro i cells slots H ls wX wM of hn hi hc hs hl hJ hP hD hS
    have hC := C0
    obtain ⟨hx, hb, hml, hown, hts, hX, hbl, hK, -, -, -, hL, -⟩ := hC
    refine lv_iload hx hb dL_law_23 (lv_at hl 4 rfl) ?_
    refine lv_aload_n hx hb dL_law_25 rfl (lv_at hl 0 rfl) ?_
    refine va_slen hx hb hX hbl (fun h => absurd hbl (Nat.not_lt.mpr h)) hS dL_law_26 ?_
    refine lv_bipush (v := 6) hx hb dL_law_27 (by decide) ?_
    refine lv_isub hx hb dL_law_29 ?_
    refine lv_icmp_gt (tgt := 863) hx hb dL_law_30 (by decide) (fun c1 => ?_) (fun c1 => ?_)
    · exact W.widen (by omega) (by omega) (hend _ _)
    · exact absurd ((gt6 hL (by omega)).mpr (by omega)) c1
  | succ n ih =>
    intro i cells slots H ls wX wM of hn hi hc hs hl hJ hP hD hS
    have hC := C0
    obtain ⟨hx, hb, hml, hown, hts, hX, hbl, hK, -, -, -, hL, -⟩ := hC
    refine lv_iload hx hb dL_law_23 (lv_at hl 4 rfl) ?_
    refine lv_aload_n hx hb dL_law_25 rfl (lv_at hl 0 rfl) ?_
    refine va_slen hx hb hX hbl (fun h => absurd hbl (Nat.not_lt.mpr h)) hS dL_law_26 ?_
    refine lv_bipush (v := 6) hx hb dL_law_27 (by decide) ?_
    refine lv_isub hx hb dL_law_29 ?_
    refine lv_icmp_gt (tgt := 863) hx hb dL_law_30 (by decide) (fun c1 => ?_) (fun c1 => ?_)
    · exact W.widen (by omega) (by omega) (hend _ _)
    have hi6 : i + 6 ≤ L := Classical.byContradiction fun h => c1 ((gt6 hL (by omega)).mpr h)
    have K : lwK p l e s m below meth c b Q D cI cJ cZ cO e0 o z q i cells slots := by
      intro H1 wX1 wM1 of1 ls1 hl1 hJ1 hP1 hD1 hS1
      refine lv_iinc (k := 4) (v := nI (i + 6)) (lv' := [(4, .int (nI (i + 6))), (0, .ref b), (1, .ref o), (2, .ref z), (3, .ref q)]) hx hb dL_law_857 hl1 rfl (nI_add i 6) (by decide) rfl (fun ls2 hl2 => ?_)
      refine lv_goto (tgt := 23) hx hb dL_law_860 (by decide) ?_
      exact ih (i + 6) (cells + 2) (slots + 20) H1 ls2 wX1 wM1 of1 (by omega) (by omega) (by omega) (by omega) (lv_sub hl2 [1, 2, 3, 4, 0] rfl) hJ1 hP1 hD1 hS1
    have hroom : cells + 2 ≤ 601024 ∧ slots + 20 ≤ 7293034 := ⟨by omega, by omega⟩
    refine lv_aload_n hx hb dL_law_33 rfl (lv_at hl 0 rfl) ?_
    refine lv_iload hx hb dL_law_34 (lv_at hl 4 rfl) ?_
    refine va_sld hx hb hX hbl (fun h => absurd hbl (Nat.not_lt.mpr h)) hS (vp_in_nI (by omega) (by omega)) dL_law_36 ?_
    refine lv_bipush (v := 31) hx hb dL_law_37 (by decide) ?_
    refine lv_iand hx hb dL_law_39 ?_
    refine lv_topi (fun y _ => ?_)
    rcases ksw26 y with ⟨h, -⟩ | rfl | rfl | rfl | rfl | rfl | rfl | rfl | rfl | rfl | rfl | rfl | rfl | rfl | rfl | rfl | rfl | rfl | rfl | rfl | rfl | rfl | rfl | rfl | rfl | rfl | rfl
    · refine lv_tableOut (tgt := 857) hx hb dL_law_40 h (by decide) ?_
      exact W.widen (by omega) (by omega) (K _ _ _ _ _ hl hJ hP hD hS)
    · exact lv_tableIn (off := 120) (tgt := 160) hx hb dL_law_40 (by decide) (by decide) rfl (by decide) (lw_c0 C0 hroom hi6 hl hJ hP hD hS K)
    · exact lv_tableIn (off := 157) (tgt := 197) hx hb dL_law_40 (by decide) (by decide) rfl (by decide) (lw_c1 C0 hroom hi6 hl hJ hP hD hS K)
    · exact lv_tableIn (off := 230) (tgt := 270) hx hb dL_law_40 (by decide) (by decide) rfl (by decide) (lw_c2 C0 hroom hi6 hl hJ hP hD hS K)
    · exact lv_tableIn (off := 243) (tgt := 283) hx hb dL_law_40 (by decide) (by decide) rfl (by decide) (lw_c3 C0 hroom hi6 hl hJ hP hD hS K)
    · exact lv_tableIn (off := 268) (tgt := 308) hx hb dL_law_40 (by decide) (by decide) rfl (by decide) (lw_c4 C0 hroom hi6 hl hJ hP hD hS K)
    · exact lv_tableIn (off := 293) (tgt := 333) hx hb dL_law_40 (by decide) (by decide) rfl (by decide) (lw_c5 C0 hroom hi6 hl hJ hP hD hS K)
    · exact lv_tableIn (off := 318) (tgt := 358) hx hb dL_law_40 (by decide) (by decide) rfl (by decide) (lw_c6 C0 hroom hi6 hl hJ hP hD hS K)
    · exact lv_tableIn (off := 343) (tgt := 383) hx hb dL_law_40 (by decide) (by decide) rfl (by decide) (lw_c7 C0 hroom hi6 hl hJ hP hD hS K)
    · exact lv_tableIn (off := 368) (tgt := 408) hx hb dL_law_40 (by decide) (by decide) rfl (by decide) (lw_c8 C0 hroom hi6 hl hJ hP hD hS K)
    · exact lv_tableIn (off := 393) (tgt := 433) hx hb dL_law_40 (by decide) (by decide) rfl (by decide) (lw_c9 C0 hroom hi6 hl hJ hP hD hS K)
    · exact lv_tableIn (off := 418) (tgt := 458) hx hb dL_law_40 (by decide) (by decide) rfl (by decide) (lw_c10 C0 hroom hi6 hl hJ hP hD hS K)
    · exact lv_tableIn (off := 443) (tgt := 483) hx hb dL_law_40 (by decide) (by decide) rfl (by decide) (lw_c11 C0 hroom hi6 hl hJ hP hD hS K)
    · exact lv_tableIn (off := 468) (tgt := 508) hx hb dL_law_40 (by decide) (by decide) rfl (by decide) (lw_c12 C0 hroom hi6 hl hJ hP hD hS K)
    · exact lv_tableIn (off := 493) (tgt := 533) hx hb dL_law_40 (by decide) (by decide) rfl (by decide) (lw_c13 C0 hroom hi6 hl hJ hP hD hS K)
    · exact lv_tableIn (off := 506) (tgt := 546) hx hb dL_law_40 (by decide) (by decide) rfl (by decide) (lw_c14 C0 hroom hi6 hl hJ hP hD hS K)
    · exact lv_tableIn (off := 519) (tgt := 559) hx hb dL_law_40 (by decide) (by decide) rfl (by decide) (lw_c15 C0 hroom hi6 hl hJ hP hD hS K)
    · exact lv_tableIn (off := 556) (tgt := 596) hx hb dL_law_40 (by decide) (by decide) rfl (by decide) (lw_c16 C0 hroom hi6 hl hJ hP hD hS K)
    · exact lv_tableIn (off := 593) (tgt := 633) hx hb dL_law_40 (by decide) (by decide) rfl (by decide) (lw_c17 C0 hroom hi6 hl hJ hP hD hS K)
    · exact lv_tableIn (off := 618) (tgt := 658) hx hb dL_law_40 (by decide) (by decide) rfl (by decide) (lw_c18 C0 hroom hi6 hl hJ hP hD hS K)
    · exact lv_tableIn (off := 643) (tgt := 683) hx hb dL_law_40 (by decide) (by decide) rfl (by decide) (lw_c19 C0 hroom hi6 hl hJ hP hD hS K)
    · exact lv_tableIn (off := 696) (tgt := 736) hx hb dL_law_40 (by decide) (by decide) rfl (by decide) (lw_c20 C0 hroom hi6 hl hJ hP hD hS K)
    · exact lv_tableIn (off := 709) (tgt := 749) hx hb dL_law_40 (by decide) (by decide) rfl (by decide) (lw_c21 C0 hroom hi6 hl hJ hP hD hS K)
    · exact lv_tableIn (off := 722) (tgt := 762) hx hb dL_law_40 (by decide) (by decide) rfl (by decide) (lw_c22 C0 hroom hi6 hl hJ hP hD hS K)
    · exact lv_tableIn (off := 735) (tgt := 775) hx hb dL_law_40 (by decide) (by decide) rfl (by decide) (lw_c23 C0 hroom hi6 hl hJ hP hD hS K)
    · exact lv_tableIn (off := 748) (tgt := 788) hx hb dL_law_40 (by decide) (by decide) rfl (by decide) (lw_c24 C0 hroom hi6 hl hJ hP hD hS K)
    · exact lv_tableIn (off := 761) (tgt := 801) hx hb dL_law_40 (by decide) (by decide) rfl (by decide) (lw_c25 hlf C0 hroom hi6 hl hJ hP hD hS K)

theorem st_init : stOK (fun _ => 0) (fun _ => 0) 0 (fun _ => 0) 1 0 := by
  have h := st_ask (iN := fun _ => 0) (T := 0) (by omega) (fun t => Nat.pos_of_ne_zero (by simp)) (fun _ => (0 : Int32))
  have e : upd (fun _ => (0 : Int32)) 0 0 = fun _ => 0 := by
    funext j
    unfold upd
    split <;> rfl
  have h2 : stOK (fun _ => 0) (fun _ => 0) 0 (upd (fun _ => (0 : Int32)) 0 0) 1 0 := h
  rw [e] at h2
  exact h2
theorem fill_init : fill3 (fun _ => 0) 52 = nF (fun j => if j < 52 then 300 else 0) := by
  funext j
  show (if j < 52 then (300 : Int32) else 0) = nI (if j < 52 then 300 else 0)
  by_cases h : j < 52
  · rw [if_pos h, if_pos h]; rfl
  · rw [if_neg h, if_neg h]; rfl
theorem cl_init : nF (clN (fun _ => 0) 0) = fun _ => (0 : Int32) := by
  funext j
  show nI (clN (fun _ => 0) 0 j) = nI 0
  unfold clN
  rw [if_neg (by omega)]
theorem lJ_init (cI cJ cZ cO : ClassId) (e0 o z t0 t1 t2 h0 la w0 w1 w2 r0 r1 k0 k1 k2 k4 k3 k5 s0 s1 s2 a0 a1 a2 a3 a4 a5 a6 a7 a8 a9 a10 a11 a12 a13 a14 a15 : Nat) :
    lJ cI cJ cZ cO e0 o z [(o, .inr (8, [.ref t0, .ref h0, .ref w0, .ref r0, .ref k0, .ref s0, .int 0])), (t0, .inr (5, [.ref t1, .ref t2, .int 0])), (t1, .inl (cI, 12, .inl (fun _ => 0))), (t2, .inl (cI, 12, .inl (fun _ => 0))), (h0, .inr (4, [.ref la, .int 2])), (la, .inr (0, [.int 0, .ref e0, .int 0])), (w0, .inr (6, [.ref w1, .ref w2, .int 0])), (w1, .inl (cI, 4096, .inl (fun _ => 0))), (w2, .inl (cJ, 4096, .inr (.inl (fun _ => 0)))), (r0, .inr (3, [.ref r1, .int 0])), (r1, .inl (cI, 12, .inl (fun _ => 0))), (k0, .inr (7, [.ref k1, .ref k2, .ref k3])), (k1, .inl (cI, 52, .inl (fill3 (fun _ => 0) 52))), (k2, .inr (3, [.ref k4, .int 0])), (k4, .inl (cI, 12, .inl (fun _ => 0))), (k3, .inr (3, [.ref k5, .int 0])), (k5, .inl (cI, 12, .inl (fun _ => 0))), (s0, .inr (1, [.ref s1, .ref s2, .int 1, .int 0])), (s1, .inl (cI, 4096, .inl (fun _ => 0))), (s2, .inl (cI, 64, .inl (fun _ => 0)))]
      [(z, .inr (9, [.ref a0, .ref a1, .int 0, .ref a2, .ref a3, .ref a4, .ref a5, .ref a6, .int 0, .int 2, .int 0, .ref a7, .int 0, .ref a8, .ref a9, .int 0, .ref a10, .int 0, .ref a11, .ref a12, .int 0, .ref a13, .ref a14, .ref a15])), (a0, .inl (cI, 12, .inl (fun _ => 0))), (a1, .inl (cI, 12, .inl (fun _ => 0))), (a2, .inl (cI, 14, .inl (fun _ => 0))), (a3, .inl (cI, 14, .inl (fun _ => 0))), (a4, .inl (cI, 14, .inl (fun _ => 0))), (a5, .inl (cI, 14, .inl (fun _ => 0))), (a6, .inl (cI, 14, .inl (fun _ => 0))), (a7, .inl (cI, 12, .inl (fun _ => 0))), (a8, .inl (cI, 52, .inl (fill3 (fun _ => 0) 52))), (a9, .inl (cI, 12, .inl (fun _ => 0))), (a10, .inl (cI, 12, .inl (fun _ => 0))), (a11, .inl (cI, 4096, .inl (fun _ => 0))), (a12, .inl (cI, 4096, .inl (fun _ => 0))), (a13, .inl (cZ, 4096, .inl (fun _ => 0))), (a14, .inl (cI, 12, .inl (fun _ => 0))), (a15, .inl (cI, 64, .inl (fun _ => 0)))] := by
  refine ⟨0, fun _ => 0, fun _ => 0, 0, fun _ => 0, fun _ => 0, fun _ => 0, fun _ => 0, fun _ => 0, 2, 0, 0, fun _ => 0, fun j => if j < 52 then 300 else 0, 0, fun _ => 0, fun _ => 0,
    ⟨by omega, by omega, by omega, by decide, by omega, by omega, fun _ => Nat.zero_le 9, fun t => Nat.pos_of_ne_zero (by simp), fun i => ⟨Nat.zero_lt_one, Nat.zero_lt_one, Nat.zero_lt_one, Nat.zero_lt_one, Nat.zero_le 400⟩, fun w => ?_, aB_0 0, fun i h => absurd h (by omega)⟩,
    ⟨t0, h0, w0, r0, k0, s0, t1, t2, la, w1, w2, r1, k1, k2, k3, k4, k5, s1, s2, 0, 0, 0, e0, 0, fun _ => none, [], fun _ => pcE 0 0 0 0 0, fun _ => 0, fun _ => 0, fun _ => 0, fun _ => 0, fun _ => 0, fun _ => 0, fun _ => 0, fun _ => 0, 1, 0, ?_, Or.inl ⟨rfl, rfl⟩, fun i h => absurd h (by omega), fun i h => absurd h (by omega), fun i h => absurd h (by omega), st_init⟩,
    ⟨a0, a1, a2, a3, a4, a5, a6, a7, a8, a9, a10, a11, a12, a13, a14, a15, 0, 0, fun _ => 0, fun _ => 0, fun _ => 0, fun _ => 0, fun _ => 0, fun _ => 0, fun _ => 0, ?_, fun i h => absurd h (by omega), fun i h => absurd h (by omega), fun _ => (by decide : 0 < 4096)⟩⟩
  · show (if w < 52 then 300 else 0) ≤ 3000
    split <;> omega
  · rw [cl_init, ← fill_init]
    rfl
  · rw [← fill_init]
    rfl
