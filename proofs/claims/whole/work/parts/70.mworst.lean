/-! ===== the reference: worst ===== -/
theorem bcb1 {v : Nat} (h : v < 2 ^ 64) : bc1 v < 2 ^ 64 := Nat.lt_of_le_of_lt (Nat.sub_le _ _) h
theorem bcb1s (v : Nat) : (v / 2 &&& 6148914691236517205) ≤ v := Nat.le_trans Nat.and_le_left (Nat.div_le_self _ _)
theorem bcb2 (x : Nat) : bc2 x < 2 ^ 63 := by
  unfold bc2
  have h1 := Nat.and_le_right (n := x) (m := 3689348814741910323)
  have h2 := Nat.and_le_right (n := x / 4) (m := 3689348814741910323)
  omega
theorem bcb2b {y : Nat} (h : y < 2 ^ 63) : y + y / 16 < 2 ^ 64 := by omega
theorem bcb3 (x : Nat) : bc3 x < 2 ^ 60 := by
  unfold bc3
  have h1 := Nat.and_le_right (n := x + x / 16) (m := 1085102592571150095)
  omega
theorem bcb4 {x y : Nat} (h : x < 2 ^ 60) (e : y = x + x / 256) : y < 2 ^ 61 := by omega
theorem bcb5 {x y : Nat} (h : x < 2 ^ 61) (e : y = x + x / 65536) : y < 2 ^ 62 := by omega
theorem bc_127 (x : Nat) : nI x &&& 127 = nI (x % 128) := by
  rw [pk_and _ 7 (by decide)]
  have h1 : (nI x).toBitVec.toNat = x % 2 ^ 32 := BitVec.toNat_ofNat _ _
  rw [h1]
  congr 1
  exact Nat.mod_mod_of_dvd _ (by decide)
theorem lx_andn {a b : Nat} (ha : a < 2 ^ 64) (hb : b < 2 ^ 64) : lN a &&& (lN b ^^^ (-1)) = lN (andn a b) := by
  apply wb_inj
  show BitVec.ofNat 64 a &&& (BitVec.ofNat 64 b ^^^ 18446744073709551615#64) = BitVec.ofNat 64 (andn a b)
  apply BitVec.eq_of_getLsbD_eq
  intro i hi
  have h1 : (18446744073709551615#64).getLsbD i = true := by
    have : ∀ i, i < 64 → (18446744073709551615#64).getLsbD i = true := by decide +kernel
    exact this i hi
  rw [BitVec.getLsbD_and, BitVec.getLsbD_xor, h1, BitVec.getLsbD_ofNat, BitVec.getLsbD_ofNat, BitVec.getLsbD_ofNat, andn_t]
  simp [hi]
theorem lx_sm : ∀ k, k < 64 → (((nI k).toInt64 &&& 63).toBitVec.smod 64).toNat = k := by decide +kernel
/-- one bit of a long, by the shift that keeps the sign -/
theorem lx_bit {v k : Nat} (hk : k < 64) : (lN v >>> ((nI k).toInt64 &&& 63)) &&& 1 = lN (if v.testBit k then 1 else 0) := by
  apply wb_inj
  rw [Int64.toBitVec_and, Int64.toBitVec_shiftRight]
  show ((lN v).toBitVec.sshiftRight (((nI k).toInt64 &&& 63).toBitVec.smod 64).toNat) &&& 1#64 = BitVec.ofNat 64 (if v.testBit k then 1 else 0)
  rw [lx_sm k hk, wb_tb]
  apply BitVec.eq_of_getLsbD_eq
  intro i hi
  have h1 : (1#64).getLsbD i = decide (i = 0) := by
    have : ∀ i, i < 64 → (1#64).getLsbD i = decide (i = 0) := by decide +kernel
    exact this i hi
  rw [BitVec.getLsbD_and, h1]
  by_cases h0 : i = 0
  · subst h0
    rw [BitVec.getLsbD_sshiftRight]
    simp only [Nat.add_zero, BitVec.getLsbD_ofNat]
    cases v.testBit k <;> simp [hk]
  · cases v.testBit k <;> simp [h0]
theorem lx_cmp (b : Bool) : lg_cmp (lN (if b then 1 else 0)) 1 = if b then 0 else -1 := by cases b <;> decide
theorem lx_ne {b : Bool} : (lg_cmp (lN (if b then 1 else 0)) 1 = 0) ↔ b = true := by cases b <;> decide
theorem hx_k01 {v t : Nat} (hv : v < 2 ^ 31) (ht : t < 32) : ((nI v >>> (nI t &&& 31)) &&& 1) = k01 (v.testBit t) := by
  rw [hx_bit hv ht]
  cases v.testBit t <;> rfl
theorem lx_pow {k : Nat} (hk : k < 64) : (1 : Int64) <<< ((nI k).toInt64 &&& 63) = lN (2 ^ k) := by
  rw [show (1 : Int64) = lN 1 from rfl, wb_shl 1 hk, Nat.one_mul]
theorem lx_or {a k : Nat} (ha : a < 2 ^ 64) (hk : k < 64) : lN a ||| lN (2 ^ k) = lN (a ||| 2 ^ k) := wb_or ha (Nat.pow_lt_pow_right (by decide) hk)
theorem hs_le (v : Nat) (r : Nat → Nat) (t : Nat) : pcN (hsF v r t 64) 64 ≤ pcN v 64 := by
  rw [hs_cnt, all_cnt (r := r)]
  exact mCt_le (fun _ _ => rfl)
theorem hs_lt64 (v : Nat) (r : Nat → Nat) (t : Nat) {k : Nat} (hk : k ≤ 64) : hsF v r t k < 2 ^ 64 := Nat.lt_of_lt_of_le (hsF_lt v r t k) (Nat.pow_le_pow_right (by decide) hk)
theorem wx_max {a b : Nat} : nI 1 + nI (max a b) = nI (1 + max a b) := nI_add _ _
theorem ws1_lt (v : Nat) (r : Nat → Nat) (all : Nat) : ∀ t, (wsF v r all t).1 < 2 ^ 64
  | 0 => by show 0 < 2 ^ 64; decide
  | t + 1 => by
    have ih := ws1_lt v r all t
    unfold wsF
    split
    · exact hsF_lt v r t 64
    · exact ih
theorem ws2_le (v : Nat) (r : Nat → Nat) (all : Nat) : ∀ t, (wsF v r all t).2 ≤ all
  | 0 => Nat.le_refl _
  | t + 1 => by
    have ih := ws2_le v r all t
    unfold wsF
    split
    · show moreW all _ ≤ all
      omega
    · exact ih

set_option maxHeartbeats 4000000 in
set_option maxRecDepth 100000 in
theorem c_J13_bitCount_95d88 (l : Launch) (D : va_G) (cI cJ cZ cO : ClassId) (sm : Nat) (hs : sm < 2 ^ 64) : kR l D (kTY cI cJ cZ cO) yJ13_bitCount_95d88 wsJ13_bitCount_95d88 0 0 [.long (lN sm)] [] (fun rv_ => rv_ = some (.int (nI (pcN sm 64)))) := by
  refine kEnterR (cc := cJ13_bitCount_95d88) (maxL := 2) (ret := (some .int)) (by decide) rfl (Nat.le_of_ble_eq_true rfl) ?_
  intro p e s m args below meth c hx hb hr hml hts hown hlk hK hP ls hl
  have hl : lv_has ls 2 [(0, .long (lN sm))] := hl
  obtain ⟨x3, h3⟩ : ∃ x3, x3 = bc3 (bc2 (bc1 sm)) := ⟨_, rfl⟩
  obtain ⟨x4, h4⟩ : ∃ x4, x4 = x3 + x3 / 256 := ⟨_, rfl⟩
  obtain ⟨x5, h5⟩ : ∃ x5, x5 = x4 + x4 / 65536 := ⟨_, rfl⟩
  obtain ⟨x6, h6⟩ : ∃ x6, x6 = x5 + x5 / 4294967296 := ⟨_, rfl⟩
  have hh2 : sm / 2 < 2 ^ 64 := Nat.lt_of_le_of_lt (Nat.div_le_self _ _) hs
  have hb1 := bcb1 hs
  have hb14 : bc1 sm / 4 < 2 ^ 64 := Nat.lt_of_le_of_lt (Nat.div_le_self _ _) hb1
  have hb2 : bc2 (bc1 sm) < 2 ^ 64 := Nat.lt_trans (bcb2 _) (by decide)
  have hb2b := bcb2b (bcb2 (bc1 sm))
  have hb30 : x3 < 2 ^ 60 := by rw [h3]; exact bcb3 _
  have hb3 : x3 < 2 ^ 64 := Nat.lt_trans hb30 (by decide)
  have hb40 := bcb4 hb30 h4
  have hb4 : x4 < 2 ^ 64 := Nat.lt_trans hb40 (by decide)
  have hb50 := bcb5 hb40 h5
  have hb5 : x5 < 2 ^ 64 := Nat.lt_trans hb50 (by decide)
  refine lv_lload_n hx hb dJ13_bitCount_95d88_0 rfl (lv_at hl 0 rfl) ?_
  refine lv_lload_n hx hb dJ13_bitCount_95d88_1 rfl (lv_at hl 0 rfl) ?_
  refine lv_iconst (v := 1) hx hb dJ13_bitCount_95d88_2 (by decide) ?_
  refine lv_lushr hx hb dJ13_bitCount_95d88_3 rfl ?_
  refine lv_topl (fun nv_1 ev_1 => ?_)
  obtain rfl : nv_1 = lN (sm / 2) := ev_1.trans (wb_shr (k := 1) hs (by decide))
  refine lv_ldc2 (v := 6148914691236517205) hx hb hown (hts (.constantLong RJ13 314 6148914691236517205) (by decide +kernel)) dJ13_bitCount_95d88_4 ?_
  refine lv_land hx hb dJ13_bitCount_95d88_7 ?_
  refine lv_topl (fun nv_2 ev_2 => ?_)
  obtain rfl : nv_2 = lN (sm / 2 &&& 6148914691236517205) := ev_2.trans (wb_and (b := 6148914691236517205) hh2 (by decide))
  refine lv_lsub hx hb dJ13_bitCount_95d88_8 ?_
  refine lv_topl (fun nv_3 ev_3 => ?_)
  obtain rfl : nv_3 = lN (bc1 sm) := ev_3.trans (lN_sub (bcb1s sm))
  refine lv_lstore_n (lv' := [(0, .long (lN (bc1 sm)))]) hx hb dJ13_bitCount_95d88_9 rfl hl (by decide) rfl (fun ls hl => ?_)
  refine lv_lload_n hx hb dJ13_bitCount_95d88_10 rfl (lv_at hl 0 rfl) ?_
  refine lv_ldc2 (v := 3689348814741910323) hx hb hown (hts (.constantLong RJ13 316 3689348814741910323) (by decide +kernel)) dJ13_bitCount_95d88_11 ?_
  refine lv_land hx hb dJ13_bitCount_95d88_14 ?_
  refine lv_topl (fun nv_4 ev_4 => ?_)
  obtain rfl : nv_4 = lN (bc1 sm &&& 3689348814741910323) := ev_4.trans (wb_and (b := 3689348814741910323) hb1 (by decide))
  refine lv_lload_n hx hb dJ13_bitCount_95d88_15 rfl (lv_at hl 0 rfl) ?_
  refine lv_iconst (v := 2) hx hb dJ13_bitCount_95d88_16 (by decide) ?_
  refine lv_lushr hx hb dJ13_bitCount_95d88_17 rfl ?_
  refine lv_topl (fun nv_5 ev_5 => ?_)
  obtain rfl : nv_5 = lN (bc1 sm / 4) := ev_5.trans (wb_shr (k := 2) hb1 (by decide))
  refine lv_ldc2 (v := 3689348814741910323) hx hb hown (hts (.constantLong RJ13 316 3689348814741910323) (by decide +kernel)) dJ13_bitCount_95d88_18 ?_
  refine lv_land hx hb dJ13_bitCount_95d88_21 ?_
  refine lv_topl (fun nv_6 ev_6 => ?_)
  obtain rfl : nv_6 = lN (bc1 sm / 4 &&& 3689348814741910323) := ev_6.trans (wb_and (b := 3689348814741910323) hb14 (by decide))
  refine lv_ladd hx hb dJ13_bitCount_95d88_22 ?_
  refine lv_topl (fun nv_7 ev_7 => ?_)
  obtain rfl : nv_7 = lN (bc2 (bc1 sm)) := ev_7.trans (lN_add _ _)
  refine lv_lstore_n (lv' := [(0, .long (lN (bc2 (bc1 sm))))]) hx hb dJ13_bitCount_95d88_23 rfl hl (by decide) rfl (fun ls hl => ?_)
  refine lv_lload_n hx hb dJ13_bitCount_95d88_24 rfl (lv_at hl 0 rfl) ?_
  refine lv_lload_n hx hb dJ13_bitCount_95d88_25 rfl (lv_at hl 0 rfl) ?_
  refine lv_iconst (v := 4) hx hb dJ13_bitCount_95d88_26 (by decide) ?_
  refine lv_lushr hx hb dJ13_bitCount_95d88_27 rfl ?_
  refine lv_topl (fun nv_8 ev_8 => ?_)
  obtain rfl : nv_8 = lN (bc2 (bc1 sm) / 16) := ev_8.trans (wb_shr (k := 4) hb2 (by decide))
  refine lv_ladd hx hb dJ13_bitCount_95d88_28 ?_
  refine lv_topl (fun nv_9 ev_9 => ?_)
  obtain rfl : nv_9 = lN (bc2 (bc1 sm) + bc2 (bc1 sm) / 16) := ev_9.trans (lN_add _ _)
  refine lv_ldc2 (v := 1085102592571150095) hx hb hown (hts (.constantLong RJ13 318 1085102592571150095) (by decide +kernel)) dJ13_bitCount_95d88_29 ?_
  refine lv_land hx hb dJ13_bitCount_95d88_32 ?_
  refine lv_topl (fun nv_10 ev_10 => ?_)
  obtain rfl : nv_10 = lN x3 := ev_10.trans (by rw [h3]; exact wb_and (b := 1085102592571150095) hb2b (by decide))
  refine lv_lstore_n (lv' := [(0, .long (lN x3))]) hx hb dJ13_bitCount_95d88_33 rfl hl (by decide) rfl (fun ls hl => ?_)
  refine lv_lload_n hx hb dJ13_bitCount_95d88_34 rfl (lv_at hl 0 rfl) ?_
  refine lv_lload_n hx hb dJ13_bitCount_95d88_35 rfl (lv_at hl 0 rfl) ?_
  refine lv_bipush (v := 8) hx hb dJ13_bitCount_95d88_36 (by decide) ?_
  refine lv_lushr hx hb dJ13_bitCount_95d88_38 rfl ?_
  refine lv_topl (fun nv_11 ev_11 => ?_)
  obtain rfl : nv_11 = lN (x3 / 256) := ev_11.trans (wb_shr (k := 8) hb3 (by decide))
  refine lv_ladd hx hb dJ13_bitCount_95d88_39 ?_
  refine lv_topl (fun nv_12 ev_12 => ?_)
  obtain rfl : nv_12 = lN x4 := ev_12.trans (by rw [h4]; exact lN_add _ _)
  refine lv_lstore_n (lv' := [(0, .long (lN x4))]) hx hb dJ13_bitCount_95d88_40 rfl hl (by decide) rfl (fun ls hl => ?_)
  refine lv_lload_n hx hb dJ13_bitCount_95d88_41 rfl (lv_at hl 0 rfl) ?_
  refine lv_lload_n hx hb dJ13_bitCount_95d88_42 rfl (lv_at hl 0 rfl) ?_
  refine lv_bipush (v := 16) hx hb dJ13_bitCount_95d88_43 (by decide) ?_
  refine lv_lushr hx hb dJ13_bitCount_95d88_45 rfl ?_
  refine lv_topl (fun nv_13 ev_13 => ?_)
  obtain rfl : nv_13 = lN (x4 / 65536) := ev_13.trans (wb_shr (k := 16) hb4 (by decide))
  refine lv_ladd hx hb dJ13_bitCount_95d88_46 ?_
  refine lv_topl (fun nv_14 ev_14 => ?_)
  obtain rfl : nv_14 = lN x5 := ev_14.trans (by rw [h5]; exact lN_add _ _)
  refine lv_lstore_n (lv' := [(0, .long (lN x5))]) hx hb dJ13_bitCount_95d88_47 rfl hl (by decide) rfl (fun ls hl => ?_)
  refine lv_lload_n hx hb dJ13_bitCount_95d88_48 rfl (lv_at hl 0 rfl) ?_
  refine lv_lload_n hx hb dJ13_bitCount_95d88_49 rfl (lv_at hl 0 rfl) ?_
  refine lv_bipush (v := 32) hx hb dJ13_bitCount_95d88_50 (by decide) ?_
  refine lv_lushr hx hb dJ13_bitCount_95d88_52 rfl ?_
  refine lv_topl (fun nv_15 ev_15 => ?_)
  obtain rfl : nv_15 = lN (x5 / 4294967296) := ev_15.trans (wb_shr (k := 32) hb5 (by decide))
  refine lv_ladd hx hb dJ13_bitCount_95d88_53 ?_
  refine lv_topl (fun nv_16 ev_16 => ?_)
  obtain rfl : nv_16 = lN x6 := ev_16.trans (by rw [h6]; exact lN_add _ _)
  refine lv_lstore_n (lv' := [(0, .long (lN x6))]) hx hb dJ13_bitCount_95d88_54 rfl hl (by decide) rfl (fun ls hl => ?_)
  refine lv_lload_n hx hb dJ13_bitCount_95d88_55 rfl (lv_at hl 0 rfl) ?_
  refine lv_l2i hx hb dJ13_bitCount_95d88_56 rfl ?_
  refine lv_topi (fun nv_17 ev_17 => ?_)
  obtain rfl : nv_17 = nI x6 := ev_17.trans (lN_i _)
  refine lv_bipush (v := 127) hx hb dJ13_bitCount_95d88_57 (by decide) ?_
  refine lv_iand hx hb dJ13_bitCount_95d88_59 ?_
  refine lv_topi (fun nv_18 ev_18 => ?_)
  obtain rfl : nv_18 = nI (x6 % 128) := ev_18.trans (bc_127 _)
  exact kRetIr hx hb hr hlk dJ13_bitCount_95d88_60 (kpi (by rw [bc_N hs (by rw [← h3]; exact h4) h5 h6]))

set_option maxHeartbeats 4000000 in
set_option maxRecDepth 100000 in
theorem c_X8_wo_12 (l : Launch) (D : va_G) (cI cJ cZ cO : ClassId) (z : Nat) (a0 : Nat) (a1 : Nat) (a2 : Nat) (a3 : Nat) (a4 : Nat) (a5 : Nat) (a6 : Nat) (a7 : Nat) (a8 : Nat) (a9 : Nat) (a10 : Nat) (a11 : Nat) (a12 : Nat) (a13 : Nat) (a14 : Nat) (a15 : Nat) (T : Nat) (P : Nat) (pa : Int32) (kn : Int32) (rn : Nat) (ln : Nat) (th : Int32) (wt : Int32) (rr : Nat → Nat) (sm : Nat) (fq : Nat) (q : Nat) (hT : T ≤ 12) (hs : sm < 2 ^ 64) (hrt : ∀ k, k < 64 → sm.testBit k = true → rr k < 2 ^ T) (hrr : ∀ k, rr k < 4096) (hfu : fq = 12 - 12) (hsp : spN (mCt sm rr) ≤ fq) (hq : q = WN fq (mCt sm rr)) : kR l D (kTY cI cJ cZ cO) yX8_worstOf wsX8_worstOf 1 21 [.ref z, .long (lN sm)] [(z, .inr (9, [.ref a0, .ref a1, .int (nI T), .ref a2, .ref a3, .ref a4, .ref a5, .ref a6, .int (nI P), .int pa, .int kn, .ref a7, .int (nI rn), .ref a8, .ref a9, .int (nI ln), .ref a10, .int th, .ref a11, .ref a12, .int wt, .ref a13, .ref a14, .ref a15])), (a15, .inl (cI, 64, .inl (nF rr)))] (fun rv_ => rv_ = some (.int (nI q))) := by
  refine kEnterR (cc := cX8_worstOf) (maxL := 12) (ret := (some .int)) (by decide) rfl (Nat.le_of_ble_eq_true rfl) ?_
  intro p e s m args below meth c hx hb hr hml hts hown hlk hK hP ls hl
  have hl : lv_has ls 12 [(0, .ref z), (1, .long (lN sm))] := hl
  have hw_f66 := hts (.fieldLink RX8 66 "WhatToReadModel" "topics" "I") (by decide +kernel)
  have hi_X8 : ∀ w ∈ wsX80, w ∈ wsX8_worstOf := by decide +kernel
  have hw_f60 := hts (.fieldLink RX8 60 "WhatToReadModel" "row64" "[I") (by decide +kernel)
  refine lv_lload_n hx hb dX8_worstOf_0 rfl (lv_at hl 1 rfl) ?_
  refine kGoR (va_runS (As := [.long (lN sm)]) (rest := []) ⟨hx, hb, hml, hown, hts⟩ (c_J13_bitCount_95d88 l D cI cJ cZ cO sm (hs)) (va_cwS 1 hts gX8_worstOf_J13_bitCount_95d88 rfl rfl rfl (by decide +kernel) ⟨Nat.le_of_ble_eq_true rfl, Nat.le_of_ble_eq_true rfl⟩) (kPreSR hK (kPc_sub hP [] rfl)) rfl rfl hl.1 rfl (lv_room (Nat.le_of_ble_eq_true rfl)) dX8_worstOf_1 ⟨Nat.le_of_ble_eq_true rfl, Nat.le_of_ble_eq_true rfl⟩) (fun v_1 hv_1 => ?_)
  obtain rfl := hv_1
  refine W.eq (g2 := F0 m 4 ls [.int (nI (pcN sm 64))]) rfl ?_
  refine lv_istore_n (lv' := [(3, .int (nI (pcN sm 64))), (0, .ref z), (1, .long (lN sm))]) hx hb dX8_worstOf_4 rfl hl (by decide) rfl (fun ls hl => ?_)
  refine lv_lconst (v := 0) hx hb dX8_worstOf_5 (by decide) ?_
  refine lv_topl (fun nv_2 ev_2 => ?_)
  obtain rfl : nv_2 = lN 0 := ev_2.trans (rfl)
  refine lv_lstore (lv' := [(4, .long (lN 0)), (3, .int (nI (pcN sm 64))), (0, .ref z), (1, .long (lN sm))]) hx hb dX8_worstOf_6 hl (by decide) rfl (fun ls hl => ?_)
  refine lv_iload_n hx hb dX8_worstOf_8 rfl (lv_at hl 1 rfl) ?_
  refine lv_istore (lv' := [(6, .int (nI (pcN sm 64))), (4, .long (lN 0)), (3, .int (nI (pcN sm 64))), (0, .ref z), (1, .long (lN sm))]) hx hb dX8_worstOf_9 hl (by decide) rfl (fun ls hl => ?_)
  refine lv_iconst (v := 0) hx hb dX8_worstOf_11 (by decide) ?_
  refine lv_istore (lv' := [(7, .int 0), (6, .int (nI (pcN sm 64))), (4, .long (lN 0)), (3, .int (nI (pcN sm 64))), (0, .ref z), (1, .long (lN sm))]) hx hb dX8_worstOf_12 hl (by decide) rfl (fun ls hl => ?_)
  have hloop_14 : ∀ (fu : Nat) (t : Nat) (bm : Nat) (le : Nat), T - t < fu → t ≤ T → bm = (wsF sm rr (pcN sm 64) t).1 → le = (wsF sm rr (pcN sm 64) t).2 → ∀ ls : Array Slot, lv_has ls 12 [(0, .ref z), (1, .long (lN sm)), (3, .int (nI (pcN sm 64))), (4, .long (lN bm)), (6, .int (nI le)), (7, .int (nI t))] → W p l e ({ frames := 1, cells := 0, slots := 0, locals := 21 }) s m args below meth c s.heap [] 0 0 (MQ below (kQr (fun rv_ => rv_ = some (.int (nI q)))) args s 0 0 (fun _ => False)) (F0 m 14 ls []) := by
    intro fu
    induction fu with
    | zero => intro t bm le hmu; exact absurd hmu (Nat.not_lt_zero _)
    | succ fu ih_14 =>
      intro t bm le hmu_14 ht eb el ls hl
      have hal := pcN_le sm 64
      have hmle := hs_le sm rr t
      have hl2 := ws2_le sm rr (pcN sm 64) t
      refine lv_iload hx hb dX8_worstOf_14 (lv_at hl 5 rfl) ?_
      refine lv_aload_n hx hb dX8_worstOf_16 rfl (lv_at hl 0 rfl) ?_
      refine va_get (D := D) (ci := 9) (v := .int (nI T)) (C := RX8) (T := TX8) (N := 24) hx hb hts hi_X8 hown hK.1 hP 0 rfl rfl 2 (by decide) hw_f66 (fun _ h9 => h9) rfl dX8_worstOf_17 ?_
      refine lv_icmp_ge (tgt := 129) hx hb dX8_worstOf_20 (by decide) (fun c_20 => ?_) (fun c_20 => ?_)
      · skip
        have nc_20 : T ≤ t := (nI_leI (a := T) (b := t) (by omega) (by omega)).mp c_20
        have e13 : t = T := by omega
        have hle2 : le ≤ pcN sm 64 := by rw [el]; exact ws2_le sm rr _ t
        obtain ⟨wq, hwq⟩ : ∃ wq, wq = wsF sm rr (pcN sm 64) T := ⟨_, rfl⟩
        rw [e13, ← hwq] at eb el
        have hwe := ws_end hT hrt hwq
        refine lv_iload hx hb dX8_worstOf_129 (lv_at hl 4 rfl) ?_
        refine lv_iload_n hx hb dX8_worstOf_131 rfl (lv_at hl 2 rfl) ?_
        refine lv_icmp_ne (tgt := 137) hx hb dX8_worstOf_132 (by decide) (fun c_132 => ?_) (fun c_132 => ?_)
        · skip
          have nc_132 : ¬ le = (pcN sm 64) := (not_congr (nI_eq (a := le) (b := pcN sm 64) (by omega) (by omega))).mp c_132
          exact absurd (hwe.2 (by omega)).2.2.2.1 (by omega)
        · skip
          have nc_132 : le = (pcN sm 64) := (nI_eq (a := le) (b := pcN sm 64) (by omega) (by omega)).mp c_132
          refine lv_iconst (v := 0) hx hb dX8_worstOf_135 (by decide) ?_
          exact kRetIr hx hb hr hlk dX8_worstOf_136 (kpi (by first | (rw [hq, hwe.1 (by omega)]; rfl) | (rw [hfin]; done)))
      · skip
        have nc_20 : ¬ T ≤ t := (not_congr (nI_leI (a := T) (b := t) (by omega) (by omega))).mp c_20
        refine lv_lconst (v := 0) hx hb dX8_worstOf_23 (by decide) ?_
        refine lv_topl (fun nv_3 ev_3 => ?_)
        obtain rfl : nv_3 = lN 0 := ev_3.trans (rfl)
        refine lv_lstore (lv' := [(8, .long (lN 0)), (0, .ref z), (1, .long (lN sm)), (3, .int (nI (pcN sm 64))), (4, .long (lN bm)), (6, .int (nI le)), (7, .int (nI t))]) hx hb dX8_worstOf_24 hl (by decide) rfl (fun ls hl => ?_)
        refine lv_iconst (v := 0) hx hb dX8_worstOf_26 (by decide) ?_
        refine lv_istore (lv' := [(10, .int 0), (8, .long (lN 0)), (0, .ref z), (1, .long (lN sm)), (3, .int (nI (pcN sm 64))), (4, .long (lN bm)), (6, .int (nI le)), (7, .int (nI t))]) hx hb dX8_worstOf_27 hl (by decide) rfl (fun ls hl => ?_)
        have hloop_29 : ∀ (fu : Nat) (k : Nat) (hm : Nat), 64 - k < fu → k ≤ 64 → hm = hsF sm rr t k → ∀ ls : Array Slot, lv_has ls 12 [(0, .ref z), (1, .long (lN sm)), (3, .int (nI (pcN sm 64))), (4, .long (lN bm)), (6, .int (nI le)), (7, .int (nI t)), (8, .long (lN hm)), (10, .int (nI k))] → W p l e ({ frames := 1, cells := 0, slots := 0, locals := 21 }) s m args below meth c s.heap [] 0 0 (MQ below (kQr (fun rv_ => rv_ = some (.int (nI q)))) args s 0 0 (fun _ => False)) (F0 m 29 ls []) := by
          intro fu
          induction fu with
          | zero => intro k hm hmu; exact absurd hmu (Nat.not_lt_zero _)
          | succ fu ih_29 =>
            intro k hm hmu_29 hk eh ls hl
            refine lv_iload hx hb dX8_worstOf_29 (lv_at hl 7 rfl) ?_
            refine lv_bipush (v := 64) hx hb dX8_worstOf_31 (by decide) ?_
            refine lv_icmp_ge (tgt := 78) hx hb dX8_worstOf_33 (by decide) (fun c_33 => ?_) (fun c_33 => ?_)
            · skip
              have nc_33 : 64 ≤ k := (nI_leI (a := 64) (b := k) (by omega) (by omega)).mp c_33
              have e12 : k = 64 := by omega
              rw [show (lN hm : Int64) = lN (hsF sm rr t 64) from by rw [eh, e12]] at hl
              refine lv_lload hx hb dX8_worstOf_78 (lv_at hl 6 rfl) ?_
              refine kGoR (va_runS (As := [.long (lN (hsF sm rr t 64))]) (rest := []) ⟨hx, hb, hml, hown, hts⟩ (c_J13_bitCount_95d88 l D cI cJ cZ cO (hsF sm rr t 64) (hs_lt64 sm rr t (Nat.le_refl _))) (va_cwS 1 hts gX8_worstOf_J13_bitCount_95d88 rfl rfl rfl (by decide +kernel) ⟨Nat.le_of_ble_eq_true rfl, Nat.le_of_ble_eq_true rfl⟩) (kPreSR hK (kPc_sub hP [] rfl)) rfl rfl hl.1 rfl (lv_room (Nat.le_of_ble_eq_true rfl)) dX8_worstOf_80 ⟨Nat.le_of_ble_eq_true rfl, Nat.le_of_ble_eq_true rfl⟩) (fun v_4 hv_4 => ?_)
              obtain rfl := hv_4
              refine W.eq (g2 := F0 m 83 ls [.int (nI (pcN (hsF sm rr t 64) 64))]) rfl ?_
              refine lv_istore (lv' := [(10, .int (nI (pcN (hsF sm rr t 64) 64))), (0, .ref z), (1, .long (lN sm)), (3, .int (nI (pcN sm 64))), (4, .long (lN bm)), (6, .int (nI le)), (7, .int (nI t)), (8, .long (lN (hsF sm rr t 64)))]) hx hb dX8_worstOf_83 hl (by decide) rfl (fun ls hl => ?_)
              refine lv_iload hx hb dX8_worstOf_85 (lv_at hl 0 rfl) ?_
              refine lv_iload_n hx hb dX8_worstOf_87 rfl (lv_at hl 3 rfl) ?_
              refine lv_iload hx hb dX8_worstOf_88 (lv_at hl 0 rfl) ?_
              refine lv_isub hx hb dX8_worstOf_90 ?_
              refine lv_topi (fun nv_5 ev_5 => ?_)
              obtain rfl : nv_5 = nI (pcN sm 64 - pcN (hsF sm rr t 64) 64) := ev_5.trans (pk_sub hmle)
              refine lv_icmp_le (tgt := 99) hx hb dX8_worstOf_91 (by decide) (fun c_91 => ?_) (fun c_91 => ?_)
              · skip
                have nc_91 : (pcN (hsF sm rr t 64) 64) ≤ (pcN sm 64 - pcN (hsF sm rr t 64) 64) := (nI_leI (a := pcN (hsF sm rr t 64) 64) (b := pcN sm 64 - pcN (hsF sm rr t 64) 64) (by omega) (by omega)).mp c_91
                refine lv_iload_n hx hb dX8_worstOf_99 rfl (lv_at hl 3 rfl) ?_
                refine lv_iload hx hb dX8_worstOf_100 (lv_at hl 0 rfl) ?_
                refine lv_isub hx hb dX8_worstOf_102 ?_
                refine lv_topi (fun nv_6 ev_6 => ?_)
                obtain rfl : nv_6 = nI (pcN sm 64 - pcN (hsF sm rr t 64) 64) := ev_6.trans (pk_sub hmle)
                refine lv_istore (lv' := [(11, .int (nI (pcN sm 64 - pcN (hsF sm rr t 64) 64))), (10, .int (nI (pcN (hsF sm rr t 64) 64))), (0, .ref z), (1, .long (lN sm)), (3, .int (nI (pcN sm 64))), (4, .long (lN bm)), (6, .int (nI le)), (7, .int (nI t)), (8, .long (lN (hsF sm rr t 64)))]) hx hb dX8_worstOf_103 hl (by decide) rfl (fun ls hl => ?_)
                refine lv_iload hx hb dX8_worstOf_105 (lv_at hl 0 rfl) ?_
                refine lv_iload hx hb dX8_worstOf_107 (lv_at hl 6 rfl) ?_
                refine lv_icmp_lt (tgt := 115) hx hb dX8_worstOf_109 (by decide) (fun c_109 => ?_) (fun c_109 => ?_)
                · skip
                  have nc_109 : (pcN sm 64 - pcN (hsF sm rr t 64) 64) < le := (nI_ltI (a := pcN sm 64 - pcN (hsF sm rr t 64) 64) (b := le) (by omega) (by omega)).mp c_109
                  refine lv_iload hx hb dX8_worstOf_115 (lv_at hl 0 rfl) ?_
                  refine lv_istore (lv' := [(6, .int (nI (pcN sm 64 - pcN (hsF sm rr t 64) 64))), (11, .int (nI (pcN sm 64 - pcN (hsF sm rr t 64) 64))), (10, .int (nI (pcN (hsF sm rr t 64) 64))), (0, .ref z), (1, .long (lN sm)), (3, .int (nI (pcN sm 64))), (4, .long (lN bm)), (7, .int (nI t)), (8, .long (lN (hsF sm rr t 64)))]) hx hb dX8_worstOf_117 hl (by decide) rfl (fun ls hl => ?_)
                  refine lv_lload hx hb dX8_worstOf_119 (lv_at hl 8 rfl) ?_
                  refine lv_lstore (lv' := [(4, .long (lN (hsF sm rr t 64))), (6, .int (nI (pcN sm 64 - pcN (hsF sm rr t 64) 64))), (11, .int (nI (pcN sm 64 - pcN (hsF sm rr t 64) 64))), (10, .int (nI (pcN (hsF sm rr t 64) 64))), (0, .ref z), (1, .long (lN sm)), (3, .int (nI (pcN sm 64))), (7, .int (nI t)), (8, .long (lN (hsF sm rr t 64)))]) hx hb dX8_worstOf_121 hl (by decide) rfl (fun ls hl => ?_)
                  refine lv_iinc (v := nI (t + 1)) (lv' := [(7, .int (nI (t + 1))), (4, .long (lN (hsF sm rr t 64))), (6, .int (nI (pcN sm 64 - pcN (hsF sm rr t 64) 64))), (11, .int (nI (pcN sm 64 - pcN (hsF sm rr t 64) 64))), (10, .int (nI (pcN (hsF sm rr t 64) 64))), (0, .ref z), (1, .long (lN sm)), (3, .int (nI (pcN sm 64))), (8, .long (lN (hsF sm rr t 64)))]) hx hb dX8_worstOf_123 hl (k := 7) rfl (nI_1 _) (by decide) rfl (fun ls hl => ?_)
                  refine lv_goto (tgt := 14) hx hb dX8_worstOf_126 (by decide) ?_
                  exact ih_14  (t + 1) (hsF sm rr t 64) (pcN sm 64 - pcN (hsF sm rr t 64) 64) (by omega) (by first | exact Nat.zero_le _ | omega) (by first | (subst eb; subst el; simp [wsF, moreW, c_20, nc_20, c_33, nc_33, c_91, nc_91, c_109, nc_109]; done) | (subst eb; subst el; simp [wsF, moreW, c_20, nc_20, c_33, nc_33, c_91, nc_91, c_109, nc_109]; omega)) (by first | (subst eb; subst el; simp [wsF, moreW, c_20, nc_20, c_33, nc_33, c_91, nc_91, c_109, nc_109]; done) | (subst eb; subst el; simp [wsF, moreW, c_20, nc_20, c_33, nc_33, c_91, nc_91, c_109, nc_109]; omega)) _ (lv_sub hl [5, 6, 7, 1, 2, 0] rfl)
                · skip
                  have nc_109 : ¬ (pcN sm 64 - pcN (hsF sm rr t 64) 64) < le := (not_congr (nI_ltI (a := pcN sm 64 - pcN (hsF sm rr t 64) 64) (b := le) (by omega) (by omega))).mp c_109
                  refine lv_goto (tgt := 123) hx hb dX8_worstOf_112 (by decide) ?_
                  refine lv_iinc (v := nI (t + 1)) (lv' := [(7, .int (nI (t + 1))), (11, .int (nI (pcN sm 64 - pcN (hsF sm rr t 64) 64))), (10, .int (nI (pcN (hsF sm rr t 64) 64))), (0, .ref z), (1, .long (lN sm)), (3, .int (nI (pcN sm 64))), (4, .long (lN bm)), (6, .int (nI le)), (8, .long (lN (hsF sm rr t 64)))]) hx hb dX8_worstOf_123 hl (k := 7) rfl (nI_1 _) (by decide) rfl (fun ls hl => ?_)
                  refine lv_goto (tgt := 14) hx hb dX8_worstOf_126 (by decide) ?_
                  exact ih_14  (t + 1) bm le (by omega) (by first | exact Nat.zero_le _ | omega) (by first | (subst eb; subst el; simp [wsF, moreW, c_20, nc_20, c_33, nc_33, c_91, nc_91, c_109, nc_109]; done) | (subst eb; subst el; simp [wsF, moreW, c_20, nc_20, c_33, nc_33, c_91, nc_91, c_109, nc_109]; omega)) (by first | (subst eb; subst el; simp [wsF, moreW, c_20, nc_20, c_33, nc_33, c_91, nc_91, c_109, nc_109]; done) | (subst eb; subst el; simp [wsF, moreW, c_20, nc_20, c_33, nc_33, c_91, nc_91, c_109, nc_109]; omega)) _ (lv_sub hl [3, 4, 5, 6, 7, 0] rfl)
              · skip
                have nc_91 : ¬ (pcN (hsF sm rr t 64) 64) ≤ (pcN sm 64 - pcN (hsF sm rr t 64) 64) := (not_congr (nI_leI (a := pcN (hsF sm rr t 64) 64) (b := pcN sm 64 - pcN (hsF sm rr t 64) 64) (by omega) (by omega))).mp c_91
                refine lv_iload hx hb dX8_worstOf_94 (lv_at hl 0 rfl) ?_
                refine lv_goto (tgt := 103) hx hb dX8_worstOf_96 (by decide) ?_
                refine lv_istore (lv' := [(11, .int (nI (pcN (hsF sm rr t 64) 64))), (10, .int (nI (pcN (hsF sm rr t 64) 64))), (0, .ref z), (1, .long (lN sm)), (3, .int (nI (pcN sm 64))), (4, .long (lN bm)), (6, .int (nI le)), (7, .int (nI t)), (8, .long (lN (hsF sm rr t 64)))]) hx hb dX8_worstOf_103 hl (by decide) rfl (fun ls hl => ?_)
                refine lv_iload hx hb dX8_worstOf_105 (lv_at hl 0 rfl) ?_
                refine lv_iload hx hb dX8_worstOf_107 (lv_at hl 6 rfl) ?_
                refine lv_icmp_lt (tgt := 115) hx hb dX8_worstOf_109 (by decide) (fun c_109 => ?_) (fun c_109 => ?_)
                · skip
                  have nc_109 : (pcN (hsF sm rr t 64) 64) < le := (nI_ltI (a := pcN (hsF sm rr t 64) 64) (b := le) (by omega) (by omega)).mp c_109
                  refine lv_iload hx hb dX8_worstOf_115 (lv_at hl 0 rfl) ?_
                  refine lv_istore (lv' := [(6, .int (nI (pcN (hsF sm rr t 64) 64))), (11, .int (nI (pcN (hsF sm rr t 64) 64))), (10, .int (nI (pcN (hsF sm rr t 64) 64))), (0, .ref z), (1, .long (lN sm)), (3, .int (nI (pcN sm 64))), (4, .long (lN bm)), (7, .int (nI t)), (8, .long (lN (hsF sm rr t 64)))]) hx hb dX8_worstOf_117 hl (by decide) rfl (fun ls hl => ?_)
                  refine lv_lload hx hb dX8_worstOf_119 (lv_at hl 8 rfl) ?_
                  refine lv_lstore (lv' := [(4, .long (lN (hsF sm rr t 64))), (6, .int (nI (pcN (hsF sm rr t 64) 64))), (11, .int (nI (pcN (hsF sm rr t 64) 64))), (10, .int (nI (pcN (hsF sm rr t 64) 64))), (0, .ref z), (1, .long (lN sm)), (3, .int (nI (pcN sm 64))), (7, .int (nI t)), (8, .long (lN (hsF sm rr t 64)))]) hx hb dX8_worstOf_121 hl (by decide) rfl (fun ls hl => ?_)
                  refine lv_iinc (v := nI (t + 1)) (lv' := [(7, .int (nI (t + 1))), (4, .long (lN (hsF sm rr t 64))), (6, .int (nI (pcN (hsF sm rr t 64) 64))), (11, .int (nI (pcN (hsF sm rr t 64) 64))), (10, .int (nI (pcN (hsF sm rr t 64) 64))), (0, .ref z), (1, .long (lN sm)), (3, .int (nI (pcN sm 64))), (8, .long (lN (hsF sm rr t 64)))]) hx hb dX8_worstOf_123 hl (k := 7) rfl (nI_1 _) (by decide) rfl (fun ls hl => ?_)
                  refine lv_goto (tgt := 14) hx hb dX8_worstOf_126 (by decide) ?_
                  exact ih_14  (t + 1) (hsF sm rr t 64) (pcN (hsF sm rr t 64) 64) (by omega) (by first | exact Nat.zero_le _ | omega) (by first | (subst eb; subst el; simp [wsF, moreW, c_20, nc_20, c_33, nc_33, c_91, nc_91, c_109, nc_109]; done) | (subst eb; subst el; simp [wsF, moreW, c_20, nc_20, c_33, nc_33, c_91, nc_91, c_109, nc_109]; omega)) (by first | (subst eb; subst el; simp [wsF, moreW, c_20, nc_20, c_33, nc_33, c_91, nc_91, c_109, nc_109]; done) | (subst eb; subst el; simp [wsF, moreW, c_20, nc_20, c_33, nc_33, c_91, nc_91, c_109, nc_109]; omega)) _ (lv_sub hl [5, 6, 7, 1, 2, 0] rfl)
                · skip
                  have nc_109 : ¬ (pcN (hsF sm rr t 64) 64) < le := (not_congr (nI_ltI (a := pcN (hsF sm rr t 64) 64) (b := le) (by omega) (by omega))).mp c_109
                  refine lv_goto (tgt := 123) hx hb dX8_worstOf_112 (by decide) ?_
                  refine lv_iinc (v := nI (t + 1)) (lv' := [(7, .int (nI (t + 1))), (11, .int (nI (pcN (hsF sm rr t 64) 64))), (10, .int (nI (pcN (hsF sm rr t 64) 64))), (0, .ref z), (1, .long (lN sm)), (3, .int (nI (pcN sm 64))), (4, .long (lN bm)), (6, .int (nI le)), (8, .long (lN (hsF sm rr t 64)))]) hx hb dX8_worstOf_123 hl (k := 7) rfl (nI_1 _) (by decide) rfl (fun ls hl => ?_)
                  refine lv_goto (tgt := 14) hx hb dX8_worstOf_126 (by decide) ?_
                  exact ih_14  (t + 1) bm le (by omega) (by first | exact Nat.zero_le _ | omega) (by first | (subst eb; subst el; simp [wsF, moreW, c_20, nc_20, c_33, nc_33, c_91, nc_91, c_109, nc_109]; done) | (subst eb; subst el; simp [wsF, moreW, c_20, nc_20, c_33, nc_33, c_91, nc_91, c_109, nc_109]; omega)) (by first | (subst eb; subst el; simp [wsF, moreW, c_20, nc_20, c_33, nc_33, c_91, nc_91, c_109, nc_109]; done) | (subst eb; subst el; simp [wsF, moreW, c_20, nc_20, c_33, nc_33, c_91, nc_91, c_109, nc_109]; omega)) _ (lv_sub hl [3, 4, 5, 6, 7, 0] rfl)
            · skip
              have nc_33 : ¬ 64 ≤ k := (not_congr (nI_leI (a := 64) (b := k) (by omega) (by omega))).mp c_33
              refine lv_lload_n hx hb dX8_worstOf_36 rfl (lv_at hl 1 rfl) ?_
              refine lv_iload hx hb dX8_worstOf_37 (lv_at hl 7 rfl) ?_
              refine lv_lshr hx hb dX8_worstOf_39 rfl ?_
              refine lv_lconst (v := 1) hx hb dX8_worstOf_40 (by decide) ?_
              refine lv_land hx hb dX8_worstOf_41 ?_
              refine lv_topl (fun nv_7 ev_7 => ?_)
              obtain rfl : nv_7 = lN (if sm.testBit k then 1 else 0) := ev_7.trans (lx_bit (by omega))
              refine lv_lconst (v := 1) hx hb dX8_worstOf_42 (by decide) ?_
              refine W.lcmp hx hb dX8_worstOf_43 ?_
              refine lv_if_ne (tgt := 72) hx hb dX8_worstOf_44 (by decide) (fun c_44 => ?_) (fun c_44 => ?_)
              · skip
                have c_44b : sm.testBit k = false := by cases hz : sm.testBit k with | false => rfl | true => exact absurd (lx_ne.mpr hz) c_44
                refine lv_iinc (v := nI (k + 1)) (lv' := [(10, .int (nI (k + 1))), (0, .ref z), (1, .long (lN sm)), (3, .int (nI (pcN sm 64))), (4, .long (lN bm)), (6, .int (nI le)), (7, .int (nI t)), (8, .long (lN hm))]) hx hb dX8_worstOf_72 hl (k := 7) rfl (nI_1 _) (by decide) rfl (fun ls hl => ?_)
                refine lv_goto (tgt := 29) hx hb dX8_worstOf_75 (by decide) ?_
                exact ih_29  (k + 1) hm (by omega) (by first | exact Nat.zero_le _ | omega) (by subst eh; simp [hsF, c_20, nc_20, c_33, nc_33, c_44, c_44b]) _ (lv_sub hl [1, 2, 3, 4, 5, 6, 7, 0] rfl)
              · skip
                have c_44b : sm.testBit k = true := lx_ne.mp c_44
                refine lv_aload_n hx hb dX8_worstOf_47 rfl (lv_at hl 0 rfl) ?_
                refine va_get (D := D) (ci := 9) (v := .ref a15) (C := RX8) (T := TX8) (N := 24) hx hb hts hi_X8 hown hK.1 hP 0 rfl rfl 23 (by decide) hw_f60 (fun _ h9 => h9) rfl dX8_worstOf_48 ?_
                refine lv_iload hx hb dX8_worstOf_51 (lv_at hl 7 rfl) ?_
                refine va_iald hx hb hK.1 hP 1 0 rfl rfl (vp_in_nI (by omega) (by omega)) dX8_worstOf_53 ?_
                refine lv_topi (fun nv_8 ev_8 => ?_)
                obtain rfl : nv_8 = (nF rr) k := by rw [ev_8, nI_clamp (by omega)]
                refine lv_topi (fun nv_9 ev_9 => ?_)
                obtain rfl : nv_9 = nI (rr k) := ev_9.trans (rfl)
                refine lv_iload hx hb dX8_worstOf_54 (lv_at hl 5 rfl) ?_
                refine lv_ishr hx hb dX8_worstOf_56 ?_
                refine lv_iconst (v := 1) hx hb dX8_worstOf_57 (by decide) ?_
                refine lv_iand hx hb dX8_worstOf_58 ?_
                refine lv_topi (fun nv_10 ev_10 => ?_)
                obtain rfl : nv_10 = k01 ((rr k).testBit t) := ev_10.trans (hx_k01 (by have := hrr k; omega) (by omega))
                refine lv_iconst (v := 1) hx hb dX8_worstOf_59 (by decide) ?_
                refine lv_icmp_ne (tgt := 72) hx hb dX8_worstOf_60 (by decide) (fun c_60 => ?_) (fun c_60 => ?_)
                · skip
                  have c_60b : (rr k).testBit t = false := by cases hz : (rr k).testBit t with | false => rfl | true => exact absurd (by rw [hz]; rfl) c_60
                  refine lv_iinc (v := nI (k + 1)) (lv' := [(10, .int (nI (k + 1))), (0, .ref z), (1, .long (lN sm)), (3, .int (nI (pcN sm 64))), (4, .long (lN bm)), (6, .int (nI le)), (7, .int (nI t)), (8, .long (lN hm))]) hx hb dX8_worstOf_72 hl (k := 7) rfl (nI_1 _) (by decide) rfl (fun ls hl => ?_)
                  refine lv_goto (tgt := 29) hx hb dX8_worstOf_75 (by decide) ?_
                  exact ih_29  (k + 1) hm (by omega) (by first | exact Nat.zero_le _ | omega) (by subst eh; simp [hsF, c_20, nc_20, c_33, nc_33, c_44, c_44b, c_60, c_60b]) _ (lv_sub hl [1, 2, 3, 4, 5, 6, 7, 0] rfl)
                · skip
                  have c_60b : (rr k).testBit t = true := by cases hz : (rr k).testBit t with | true => rfl | false => exact absurd c_60 (by rw [hz]; decide)
                  refine lv_lload hx hb dX8_worstOf_63 (lv_at hl 6 rfl) ?_
                  refine lv_lconst (v := 1) hx hb dX8_worstOf_65 (by decide) ?_
                  refine lv_iload hx hb dX8_worstOf_66 (lv_at hl 7 rfl) ?_
                  refine lv_lshl hx hb dX8_worstOf_68 rfl ?_
                  refine lv_topl (fun nv_11 ev_11 => ?_)
                  obtain rfl : nv_11 = lN (2 ^ k) := ev_11.trans (lx_pow (by omega))
                  refine lv_lor hx hb dX8_worstOf_69 ?_
                  refine lv_topl (fun nv_12 ev_12 => ?_)
                  obtain rfl : nv_12 = lN (hm ||| 2 ^ k) := ev_12.trans (lx_or (by rw [eh]; exact hs_lt64 sm rr t (by omega)) (by omega))
                  refine lv_lstore (lv' := [(8, .long (lN (hm ||| 2 ^ k))), (0, .ref z), (1, .long (lN sm)), (3, .int (nI (pcN sm 64))), (4, .long (lN bm)), (6, .int (nI le)), (7, .int (nI t)), (10, .int (nI k))]) hx hb dX8_worstOf_70 hl (by decide) rfl (fun ls hl => ?_)
                  refine lv_iinc (v := nI (k + 1)) (lv' := [(10, .int (nI (k + 1))), (8, .long (lN (hm ||| 2 ^ k))), (0, .ref z), (1, .long (lN sm)), (3, .int (nI (pcN sm 64))), (4, .long (lN bm)), (6, .int (nI le)), (7, .int (nI t))]) hx hb dX8_worstOf_72 hl (k := 7) rfl (nI_1 _) (by decide) rfl (fun ls hl => ?_)
                  refine lv_goto (tgt := 29) hx hb dX8_worstOf_75 (by decide) ?_
                  exact ih_29  (k + 1) (hm ||| 2 ^ k) (by omega) (by first | exact Nat.zero_le _ | omega) (by subst eh; simp [hsF, c_20, nc_20, c_33, nc_33, c_44, c_44b, c_60, c_60b]) _ (lv_sub hl [2, 3, 4, 5, 6, 7, 1, 0] rfl)
        exact hloop_29 ((64 - 0) + 1) 0 0 (Nat.lt_succ_self _) (by exact Nat.zero_le _) (by rfl) _ (lv_sub hl [2, 3, 4, 5, 6, 7, 1, 0] rfl)
  exact hloop_14 ((T - 0) + 1) 0 0 (pcN sm 64) (Nat.lt_succ_self _) (by exact Nat.zero_le _) (by rfl) (by rfl) _ (lv_sub hl [4, 5, 3, 2, 1, 0] rfl)

set_option maxHeartbeats 4000000 in
set_option maxRecDepth 100000 in
theorem c_X8_wo_11 (l : Launch) (D : va_G) (cI cJ cZ cO : ClassId) (z : Nat) (a0 : Nat) (a1 : Nat) (a2 : Nat) (a3 : Nat) (a4 : Nat) (a5 : Nat) (a6 : Nat) (a7 : Nat) (a8 : Nat) (a9 : Nat) (a10 : Nat) (a11 : Nat) (a12 : Nat) (a13 : Nat) (a14 : Nat) (a15 : Nat) (T : Nat) (P : Nat) (pa : Int32) (kn : Int32) (rn : Nat) (ln : Nat) (th : Int32) (wt : Int32) (rr : Nat → Nat) (sm : Nat) (fq : Nat) (q : Nat) (hT : T ≤ 12) (hs : sm < 2 ^ 64) (hrt : ∀ k, k < 64 → sm.testBit k = true → rr k < 2 ^ T) (hrr : ∀ k, rr k < 4096) (hfu : fq = 12 - 11) (hsp : spN (mCt sm rr) ≤ fq) (hq : q = WN fq (mCt sm rr)) : kR l D (kTY cI cJ cZ cO) yX8_worstOf wsX8_worstOf 2 52 [.ref z, .long (lN sm)] [(z, .inr (9, [.ref a0, .ref a1, .int (nI T), .ref a2, .ref a3, .ref a4, .ref a5, .ref a6, .int (nI P), .int pa, .int kn, .ref a7, .int (nI rn), .ref a8, .ref a9, .int (nI ln), .ref a10, .int th, .ref a11, .ref a12, .int wt, .ref a13, .ref a14, .ref a15])), (a15, .inl (cI, 64, .inl (nF rr)))] (fun rv_ => rv_ = some (.int (nI q))) := by
  refine kEnterR (cc := cX8_worstOf) (maxL := 12) (ret := (some .int)) (by decide) rfl (Nat.le_of_ble_eq_true rfl) ?_
  intro p e s m args below meth c hx hb hr hml hts hown hlk hK hP ls hl
  have hl : lv_has ls 12 [(0, .ref z), (1, .long (lN sm))] := hl
  have hw_f66 := hts (.fieldLink RX8 66 "WhatToReadModel" "topics" "I") (by decide +kernel)
  have hi_X8 : ∀ w ∈ wsX80, w ∈ wsX8_worstOf := by decide +kernel
  have hw_f60 := hts (.fieldLink RX8 60 "WhatToReadModel" "row64" "[I") (by decide +kernel)
  refine lv_lload_n hx hb dX8_worstOf_0 rfl (lv_at hl 1 rfl) ?_
  refine kGoR (va_runS (As := [.long (lN sm)]) (rest := []) ⟨hx, hb, hml, hown, hts⟩ (c_J13_bitCount_95d88 l D cI cJ cZ cO sm (hs)) (va_cwS 1 hts gX8_worstOf_J13_bitCount_95d88 rfl rfl rfl (by decide +kernel) ⟨Nat.le_of_ble_eq_true rfl, Nat.le_of_ble_eq_true rfl⟩) (kPreSR hK (kPc_sub hP [] rfl)) rfl rfl hl.1 rfl (lv_room (Nat.le_of_ble_eq_true rfl)) dX8_worstOf_1 ⟨Nat.le_of_ble_eq_true rfl, Nat.le_of_ble_eq_true rfl⟩) (fun v_1 hv_1 => ?_)
  obtain rfl := hv_1
  refine W.eq (g2 := F0 m 4 ls [.int (nI (pcN sm 64))]) rfl ?_
  refine lv_istore_n (lv' := [(3, .int (nI (pcN sm 64))), (0, .ref z), (1, .long (lN sm))]) hx hb dX8_worstOf_4 rfl hl (by decide) rfl (fun ls hl => ?_)
  refine lv_lconst (v := 0) hx hb dX8_worstOf_5 (by decide) ?_
  refine lv_topl (fun nv_2 ev_2 => ?_)
  obtain rfl : nv_2 = lN 0 := ev_2.trans (rfl)
  refine lv_lstore (lv' := [(4, .long (lN 0)), (3, .int (nI (pcN sm 64))), (0, .ref z), (1, .long (lN sm))]) hx hb dX8_worstOf_6 hl (by decide) rfl (fun ls hl => ?_)
  refine lv_iload_n hx hb dX8_worstOf_8 rfl (lv_at hl 1 rfl) ?_
  refine lv_istore (lv' := [(6, .int (nI (pcN sm 64))), (4, .long (lN 0)), (3, .int (nI (pcN sm 64))), (0, .ref z), (1, .long (lN sm))]) hx hb dX8_worstOf_9 hl (by decide) rfl (fun ls hl => ?_)
  refine lv_iconst (v := 0) hx hb dX8_worstOf_11 (by decide) ?_
  refine lv_istore (lv' := [(7, .int 0), (6, .int (nI (pcN sm 64))), (4, .long (lN 0)), (3, .int (nI (pcN sm 64))), (0, .ref z), (1, .long (lN sm))]) hx hb dX8_worstOf_12 hl (by decide) rfl (fun ls hl => ?_)
  have hloop_14 : ∀ (fu : Nat) (t : Nat) (bm : Nat) (le : Nat), T - t < fu → t ≤ T → bm = (wsF sm rr (pcN sm 64) t).1 → le = (wsF sm rr (pcN sm 64) t).2 → ∀ ls : Array Slot, lv_has ls 12 [(0, .ref z), (1, .long (lN sm)), (3, .int (nI (pcN sm 64))), (4, .long (lN bm)), (6, .int (nI le)), (7, .int (nI t))] → W p l e ({ frames := 2, cells := 0, slots := 0, locals := 52 }) s m args below meth c s.heap [] 0 0 (MQ below (kQr (fun rv_ => rv_ = some (.int (nI q)))) args s 0 0 (fun _ => False)) (F0 m 14 ls []) := by
    intro fu
    induction fu with
    | zero => intro t bm le hmu; exact absurd hmu (Nat.not_lt_zero _)
    | succ fu ih_14 =>
      intro t bm le hmu_14 ht eb el ls hl
      have hal := pcN_le sm 64
      have hmle := hs_le sm rr t
      have hl2 := ws2_le sm rr (pcN sm 64) t
      refine lv_iload hx hb dX8_worstOf_14 (lv_at hl 5 rfl) ?_
      refine lv_aload_n hx hb dX8_worstOf_16 rfl (lv_at hl 0 rfl) ?_
      refine va_get (D := D) (ci := 9) (v := .int (nI T)) (C := RX8) (T := TX8) (N := 24) hx hb hts hi_X8 hown hK.1 hP 0 rfl rfl 2 (by decide) hw_f66 (fun _ h9 => h9) rfl dX8_worstOf_17 ?_
      refine lv_icmp_ge (tgt := 129) hx hb dX8_worstOf_20 (by decide) (fun c_20 => ?_) (fun c_20 => ?_)
      · skip
        have nc_20 : T ≤ t := (nI_leI (a := T) (b := t) (by omega) (by omega)).mp c_20
        have e13 : t = T := by omega
        have hle2 : le ≤ pcN sm 64 := by rw [el]; exact ws2_le sm rr _ t
        obtain ⟨wq, hwq⟩ : ∃ wq, wq = wsF sm rr (pcN sm 64) T := ⟨_, rfl⟩
        rw [e13, ← hwq] at eb el
        have hwe := ws_end hT hrt hwq
        refine lv_iload hx hb dX8_worstOf_129 (lv_at hl 4 rfl) ?_
        refine lv_iload_n hx hb dX8_worstOf_131 rfl (lv_at hl 2 rfl) ?_
        refine lv_icmp_ne (tgt := 137) hx hb dX8_worstOf_132 (by decide) (fun c_132 => ?_) (fun c_132 => ?_)
        · skip
          have nc_132 : ¬ le = (pcN sm 64) := (not_congr (nI_eq (a := le) (b := pcN sm 64) (by omega) (by omega))).mp c_132
          obtain ⟨w1, w2, w3, w4, w5, w6, w7⟩ := hwe.2 (by omega)
          obtain ⟨fd, hfd⟩ : ∃ fd, fq = fd + 1 := ⟨fq - 1, by omega⟩
          obtain ⟨q1, hq1⟩ : ∃ q1, q1 = WN fd (mCt wq.1 rr) := ⟨_, rfl⟩
          obtain ⟨q2, hq2⟩ : ∃ q2, q2 = WN fd (mCt (andn sm wq.1) rr) := ⟨_, rfl⟩
          have hq1l : q1 ≤ fd := by rw [hq1]; exact WN_le _ _
          have hq2l : q2 ≤ fd := by rw [hq2]; exact WN_le _ _
          have hfin0 : q = 1 + max q2 q1 := by rw [hq, hfd, w7 fd, hq1, hq2]
          refine lv_aload_n hx hb dX8_worstOf_137 rfl (lv_at hl 0 rfl) ?_
          refine lv_lload hx hb dX8_worstOf_138 (lv_at hl 3 rfl) ?_
          refine kGoR (va_runV (As := [.long (lN bm)]) (rest := []) ⟨hx, hb, hml, hown, hts⟩ (c_X8_wo_12 l D cI cJ cZ cO z a0 a1 a2 a3 a4 a5 a6 a7 a8 a9 a10 a11 a12 a13 a14 a15 T P pa kn rn ln th wt rr bm fd q1 (by first | assumption | omega | decide) (by rw [eb]; exact w1) (by rw [eb]; exact w2) (hrr) (by omega) (by rw [eb]; omega) (by rw [hq1, eb])) (cwV 1 hts gX8_worstOf_X8_worstOf rfl rfl rfl (by decide +kernel) ⟨Nat.le_of_ble_eq_true rfl, Nat.le_of_ble_eq_true rfl⟩) (kPreVR (ci := 9) (q0 := 0) hK (kPc_sub hP [0, 1] rfl) rfl rfl rfl) rfl rfl hl.1 rfl (lv_room (Nat.le_of_ble_eq_true rfl)) dX8_worstOf_140 ⟨Nat.le_of_ble_eq_true rfl, Nat.le_of_ble_eq_true rfl⟩) (fun v_3 hv_3 => ?_)
          obtain rfl := hv_3
          refine W.eq (g2 := F0 m 143 ls [.int (nI q1)]) rfl ?_
          refine lv_istore (lv' := [(7, .int (nI q1)), (0, .ref z), (1, .long (lN sm)), (3, .int (nI (pcN sm 64))), (4, .long (lN bm)), (6, .int (nI le))]) hx hb dX8_worstOf_143 hl (by decide) rfl (fun ls hl => ?_)
          refine lv_aload_n hx hb dX8_worstOf_145 rfl (lv_at hl 1 rfl) ?_
          refine lv_lload_n hx hb dX8_worstOf_146 rfl (lv_at hl 2 rfl) ?_
          refine lv_lload hx hb dX8_worstOf_147 (lv_at hl 4 rfl) ?_
          refine lv_ldc2 (v := (-1)) hx hb hown (hts (.constantLong RX8 143 (-1)) (by decide +kernel)) dX8_worstOf_149 ?_
          refine lv_lxor hx hb dX8_worstOf_152 ?_
          refine lv_land hx hb dX8_worstOf_153 ?_
          refine lv_topl (fun nv_4 ev_4 => ?_)
          obtain rfl : nv_4 = lN (andn sm bm) := ev_4.trans (lx_andn hs (by rw [eb, hwq]; exact ws1_lt sm rr _ T))
          refine kGoR (va_runV (As := [.long (lN (andn sm bm))]) (rest := []) ⟨hx, hb, hml, hown, hts⟩ (c_X8_wo_12 l D cI cJ cZ cO z a0 a1 a2 a3 a4 a5 a6 a7 a8 a9 a10 a11 a12 a13 a14 a15 T P pa kn rn ln th wt rr (andn sm bm) fd q2 (by first | assumption | omega | decide) (Nat.lt_of_le_of_lt (andn_le _ _) hs) (by rw [eb]; exact w3) (hrr) (by omega) (by rw [eb]; omega) (by rw [hq2, eb])) (cwV 1 hts gX8_worstOf_X8_worstOf rfl rfl rfl (by decide +kernel) ⟨Nat.le_of_ble_eq_true rfl, Nat.le_of_ble_eq_true rfl⟩) (kPreVR (ci := 9) (q0 := 0) hK (kPc_sub hP [0, 1] rfl) rfl rfl rfl) rfl rfl hl.1 rfl (lv_room (Nat.le_of_ble_eq_true rfl)) dX8_worstOf_154 ⟨Nat.le_of_ble_eq_true rfl, Nat.le_of_ble_eq_true rfl⟩) (fun v_5 hv_5 => ?_)
          obtain rfl := hv_5
          refine W.eq (g2 := F0 m 157 ls [.int (nI q2)]) rfl ?_
          refine lv_istore (lv' := [(8, .int (nI q2)), (7, .int (nI q1)), (0, .ref z), (1, .long (lN sm)), (3, .int (nI (pcN sm 64))), (4, .long (lN bm)), (6, .int (nI le))]) hx hb dX8_worstOf_157 hl (by decide) rfl (fun ls hl => ?_)
          refine lv_iconst (v := 1) hx hb dX8_worstOf_159 (by decide) ?_
          refine lv_iload hx hb dX8_worstOf_160 (lv_at hl 1 rfl) ?_
          refine lv_iload hx hb dX8_worstOf_162 (lv_at hl 0 rfl) ?_
          refine lv_icmp_le (tgt := 172) hx hb dX8_worstOf_164 (by decide) (fun c_164 => ?_) (fun c_164 => ?_)
          · skip
            have nc_164 : q1 ≤ q2 := (nI_leI (a := q1) (b := q2) (by omega) (by omega)).mp c_164
            have hfin : (1 : Int32) + nI q2 = nI q := by rw [hfin0, show max q2 q1 = q2 by omega]; exact nI_add 1 _
            refine lv_iload hx hb dX8_worstOf_172 (lv_at hl 0 rfl) ?_
            refine lv_iadd hx hb dX8_worstOf_174 ?_
            exact kRetIr hx hb hr hlk dX8_worstOf_175 (kpi (by first | (rw [hq, hwe.1 (by omega)]; rfl) | (rw [hfin]; done)))
          · skip
            have nc_164 : ¬ q1 ≤ q2 := (not_congr (nI_leI (a := q1) (b := q2) (by omega) (by omega))).mp c_164
            have hfin : (1 : Int32) + nI q1 = nI q := by rw [hfin0, show max q2 q1 = q1 by omega]; exact nI_add 1 _
            refine lv_iload hx hb dX8_worstOf_167 (lv_at hl 1 rfl) ?_
            refine lv_goto (tgt := 174) hx hb dX8_worstOf_169 (by decide) ?_
            refine lv_iadd hx hb dX8_worstOf_174 ?_
            exact kRetIr hx hb hr hlk dX8_worstOf_175 (kpi (by first | (rw [hq, hwe.1 (by omega)]; rfl) | (rw [hfin]; done)))
        · skip
          have nc_132 : le = (pcN sm 64) := (nI_eq (a := le) (b := pcN sm 64) (by omega) (by omega)).mp c_132
          refine lv_iconst (v := 0) hx hb dX8_worstOf_135 (by decide) ?_
          exact kRetIr hx hb hr hlk dX8_worstOf_136 (kpi (by first | (rw [hq, hwe.1 (by omega)]; rfl) | (rw [hfin]; done)))
      · skip
        have nc_20 : ¬ T ≤ t := (not_congr (nI_leI (a := T) (b := t) (by omega) (by omega))).mp c_20
        refine lv_lconst (v := 0) hx hb dX8_worstOf_23 (by decide) ?_
        refine lv_topl (fun nv_6 ev_6 => ?_)
        obtain rfl : nv_6 = lN 0 := ev_6.trans (rfl)
        refine lv_lstore (lv' := [(8, .long (lN 0)), (0, .ref z), (1, .long (lN sm)), (3, .int (nI (pcN sm 64))), (4, .long (lN bm)), (6, .int (nI le)), (7, .int (nI t))]) hx hb dX8_worstOf_24 hl (by decide) rfl (fun ls hl => ?_)
        refine lv_iconst (v := 0) hx hb dX8_worstOf_26 (by decide) ?_
        refine lv_istore (lv' := [(10, .int 0), (8, .long (lN 0)), (0, .ref z), (1, .long (lN sm)), (3, .int (nI (pcN sm 64))), (4, .long (lN bm)), (6, .int (nI le)), (7, .int (nI t))]) hx hb dX8_worstOf_27 hl (by decide) rfl (fun ls hl => ?_)
        have hloop_29 : ∀ (fu : Nat) (k : Nat) (hm : Nat), 64 - k < fu → k ≤ 64 → hm = hsF sm rr t k → ∀ ls : Array Slot, lv_has ls 12 [(0, .ref z), (1, .long (lN sm)), (3, .int (nI (pcN sm 64))), (4, .long (lN bm)), (6, .int (nI le)), (7, .int (nI t)), (8, .long (lN hm)), (10, .int (nI k))] → W p l e ({ frames := 2, cells := 0, slots := 0, locals := 52 }) s m args below meth c s.heap [] 0 0 (MQ below (kQr (fun rv_ => rv_ = some (.int (nI q)))) args s 0 0 (fun _ => False)) (F0 m 29 ls []) := by
          intro fu
          induction fu with
          | zero => intro k hm hmu; exact absurd hmu (Nat.not_lt_zero _)
          | succ fu ih_29 =>
            intro k hm hmu_29 hk eh ls hl
            refine lv_iload hx hb dX8_worstOf_29 (lv_at hl 7 rfl) ?_
            refine lv_bipush (v := 64) hx hb dX8_worstOf_31 (by decide) ?_
            refine lv_icmp_ge (tgt := 78) hx hb dX8_worstOf_33 (by decide) (fun c_33 => ?_) (fun c_33 => ?_)
            · skip
              have nc_33 : 64 ≤ k := (nI_leI (a := 64) (b := k) (by omega) (by omega)).mp c_33
              have e12 : k = 64 := by omega
              rw [show (lN hm : Int64) = lN (hsF sm rr t 64) from by rw [eh, e12]] at hl
              refine lv_lload hx hb dX8_worstOf_78 (lv_at hl 6 rfl) ?_
              refine kGoR (va_runS (As := [.long (lN (hsF sm rr t 64))]) (rest := []) ⟨hx, hb, hml, hown, hts⟩ (c_J13_bitCount_95d88 l D cI cJ cZ cO (hsF sm rr t 64) (hs_lt64 sm rr t (Nat.le_refl _))) (va_cwS 1 hts gX8_worstOf_J13_bitCount_95d88 rfl rfl rfl (by decide +kernel) ⟨Nat.le_of_ble_eq_true rfl, Nat.le_of_ble_eq_true rfl⟩) (kPreSR hK (kPc_sub hP [] rfl)) rfl rfl hl.1 rfl (lv_room (Nat.le_of_ble_eq_true rfl)) dX8_worstOf_80 ⟨Nat.le_of_ble_eq_true rfl, Nat.le_of_ble_eq_true rfl⟩) (fun v_7 hv_7 => ?_)
              obtain rfl := hv_7
              refine W.eq (g2 := F0 m 83 ls [.int (nI (pcN (hsF sm rr t 64) 64))]) rfl ?_
              refine lv_istore (lv' := [(10, .int (nI (pcN (hsF sm rr t 64) 64))), (0, .ref z), (1, .long (lN sm)), (3, .int (nI (pcN sm 64))), (4, .long (lN bm)), (6, .int (nI le)), (7, .int (nI t)), (8, .long (lN (hsF sm rr t 64)))]) hx hb dX8_worstOf_83 hl (by decide) rfl (fun ls hl => ?_)
              refine lv_iload hx hb dX8_worstOf_85 (lv_at hl 0 rfl) ?_
              refine lv_iload_n hx hb dX8_worstOf_87 rfl (lv_at hl 3 rfl) ?_
              refine lv_iload hx hb dX8_worstOf_88 (lv_at hl 0 rfl) ?_
              refine lv_isub hx hb dX8_worstOf_90 ?_
              refine lv_topi (fun nv_8 ev_8 => ?_)
              obtain rfl : nv_8 = nI (pcN sm 64 - pcN (hsF sm rr t 64) 64) := ev_8.trans (pk_sub hmle)
              refine lv_icmp_le (tgt := 99) hx hb dX8_worstOf_91 (by decide) (fun c_91 => ?_) (fun c_91 => ?_)
              · skip
                have nc_91 : (pcN (hsF sm rr t 64) 64) ≤ (pcN sm 64 - pcN (hsF sm rr t 64) 64) := (nI_leI (a := pcN (hsF sm rr t 64) 64) (b := pcN sm 64 - pcN (hsF sm rr t 64) 64) (by omega) (by omega)).mp c_91
                refine lv_iload_n hx hb dX8_worstOf_99 rfl (lv_at hl 3 rfl) ?_
                refine lv_iload hx hb dX8_worstOf_100 (lv_at hl 0 rfl) ?_
                refine lv_isub hx hb dX8_worstOf_102 ?_
                refine lv_topi (fun nv_9 ev_9 => ?_)
                obtain rfl : nv_9 = nI (pcN sm 64 - pcN (hsF sm rr t 64) 64) := ev_9.trans (pk_sub hmle)
                refine lv_istore (lv' := [(11, .int (nI (pcN sm 64 - pcN (hsF sm rr t 64) 64))), (10, .int (nI (pcN (hsF sm rr t 64) 64))), (0, .ref z), (1, .long (lN sm)), (3, .int (nI (pcN sm 64))), (4, .long (lN bm)), (6, .int (nI le)), (7, .int (nI t)), (8, .long (lN (hsF sm rr t 64)))]) hx hb dX8_worstOf_103 hl (by decide) rfl (fun ls hl => ?_)
                refine lv_iload hx hb dX8_worstOf_105 (lv_at hl 0 rfl) ?_
                refine lv_iload hx hb dX8_worstOf_107 (lv_at hl 6 rfl) ?_
                refine lv_icmp_lt (tgt := 115) hx hb dX8_worstOf_109 (by decide) (fun c_109 => ?_) (fun c_109 => ?_)
                · skip
                  have nc_109 : (pcN sm 64 - pcN (hsF sm rr t 64) 64) < le := (nI_ltI (a := pcN sm 64 - pcN (hsF sm rr t 64) 64) (b := le) (by omega) (by omega)).mp c_109
                  refine lv_iload hx hb dX8_worstOf_115 (lv_at hl 0 rfl) ?_
                  refine lv_istore (lv' := [(6, .int (nI (pcN sm 64 - pcN (hsF sm rr t 64) 64))), (11, .int (nI (pcN sm 64 - pcN (hsF sm rr t 64) 64))), (10, .int (nI (pcN (hsF sm rr t 64) 64))), (0, .ref z), (1, .long (lN sm)), (3, .int (nI (pcN sm 64))), (4, .long (lN bm)), (7, .int (nI t)), (8, .long (lN (hsF sm rr t 64)))]) hx hb dX8_worstOf_117 hl (by decide) rfl (fun ls hl => ?_)
                  refine lv_lload hx hb dX8_worstOf_119 (lv_at hl 8 rfl) ?_
                  refine lv_lstore (lv' := [(4, .long (lN (hsF sm rr t 64))), (6, .int (nI (pcN sm 64 - pcN (hsF sm rr t 64) 64))), (11, .int (nI (pcN sm 64 - pcN (hsF sm rr t 64) 64))), (10, .int (nI (pcN (hsF sm rr t 64) 64))), (0, .ref z), (1, .long (lN sm)), (3, .int (nI (pcN sm 64))), (7, .int (nI t)), (8, .long (lN (hsF sm rr t 64)))]) hx hb dX8_worstOf_121 hl (by decide) rfl (fun ls hl => ?_)
                  refine lv_iinc (v := nI (t + 1)) (lv' := [(7, .int (nI (t + 1))), (4, .long (lN (hsF sm rr t 64))), (6, .int (nI (pcN sm 64 - pcN (hsF sm rr t 64) 64))), (11, .int (nI (pcN sm 64 - pcN (hsF sm rr t 64) 64))), (10, .int (nI (pcN (hsF sm rr t 64) 64))), (0, .ref z), (1, .long (lN sm)), (3, .int (nI (pcN sm 64))), (8, .long (lN (hsF sm rr t 64)))]) hx hb dX8_worstOf_123 hl (k := 7) rfl (nI_1 _) (by decide) rfl (fun ls hl => ?_)
                  refine lv_goto (tgt := 14) hx hb dX8_worstOf_126 (by decide) ?_
                  exact ih_14  (t + 1) (hsF sm rr t 64) (pcN sm 64 - pcN (hsF sm rr t 64) 64) (by omega) (by first | exact Nat.zero_le _ | omega) (by first | (subst eb; subst el; simp [wsF, moreW, c_20, nc_20, c_33, nc_33, c_91, nc_91, c_109, nc_109]; done) | (subst eb; subst el; simp [wsF, moreW, c_20, nc_20, c_33, nc_33, c_91, nc_91, c_109, nc_109]; omega)) (by first | (subst eb; subst el; simp [wsF, moreW, c_20, nc_20, c_33, nc_33, c_91, nc_91, c_109, nc_109]; done) | (subst eb; subst el; simp [wsF, moreW, c_20, nc_20, c_33, nc_33, c_91, nc_91, c_109, nc_109]; omega)) _ (lv_sub hl [5, 6, 7, 1, 2, 0] rfl)
                · skip
                  have nc_109 : ¬ (pcN sm 64 - pcN (hsF sm rr t 64) 64) < le := (not_congr (nI_ltI (a := pcN sm 64 - pcN (hsF sm rr t 64) 64) (b := le) (by omega) (by omega))).mp c_109
                  refine lv_goto (tgt := 123) hx hb dX8_worstOf_112 (by decide) ?_
                  refine lv_iinc (v := nI (t + 1)) (lv' := [(7, .int (nI (t + 1))), (11, .int (nI (pcN sm 64 - pcN (hsF sm rr t 64) 64))), (10, .int (nI (pcN (hsF sm rr t 64) 64))), (0, .ref z), (1, .long (lN sm)), (3, .int (nI (pcN sm 64))), (4, .long (lN bm)), (6, .int (nI le)), (8, .long (lN (hsF sm rr t 64)))]) hx hb dX8_worstOf_123 hl (k := 7) rfl (nI_1 _) (by decide) rfl (fun ls hl => ?_)
                  refine lv_goto (tgt := 14) hx hb dX8_worstOf_126 (by decide) ?_
                  exact ih_14  (t + 1) bm le (by omega) (by first | exact Nat.zero_le _ | omega) (by first | (subst eb; subst el; simp [wsF, moreW, c_20, nc_20, c_33, nc_33, c_91, nc_91, c_109, nc_109]; done) | (subst eb; subst el; simp [wsF, moreW, c_20, nc_20, c_33, nc_33, c_91, nc_91, c_109, nc_109]; omega)) (by first | (subst eb; subst el; simp [wsF, moreW, c_20, nc_20, c_33, nc_33, c_91, nc_91, c_109, nc_109]; done) | (subst eb; subst el; simp [wsF, moreW, c_20, nc_20, c_33, nc_33, c_91, nc_91, c_109, nc_109]; omega)) _ (lv_sub hl [3, 4, 5, 6, 7, 0] rfl)
              · skip
                have nc_91 : ¬ (pcN (hsF sm rr t 64) 64) ≤ (pcN sm 64 - pcN (hsF sm rr t 64) 64) := (not_congr (nI_leI (a := pcN (hsF sm rr t 64) 64) (b := pcN sm 64 - pcN (hsF sm rr t 64) 64) (by omega) (by omega))).mp c_91
                refine lv_iload hx hb dX8_worstOf_94 (lv_at hl 0 rfl) ?_
                refine lv_goto (tgt := 103) hx hb dX8_worstOf_96 (by decide) ?_
                refine lv_istore (lv' := [(11, .int (nI (pcN (hsF sm rr t 64) 64))), (10, .int (nI (pcN (hsF sm rr t 64) 64))), (0, .ref z), (1, .long (lN sm)), (3, .int (nI (pcN sm 64))), (4, .long (lN bm)), (6, .int (nI le)), (7, .int (nI t)), (8, .long (lN (hsF sm rr t 64)))]) hx hb dX8_worstOf_103 hl (by decide) rfl (fun ls hl => ?_)
                refine lv_iload hx hb dX8_worstOf_105 (lv_at hl 0 rfl) ?_
                refine lv_iload hx hb dX8_worstOf_107 (lv_at hl 6 rfl) ?_
                refine lv_icmp_lt (tgt := 115) hx hb dX8_worstOf_109 (by decide) (fun c_109 => ?_) (fun c_109 => ?_)
                · skip
                  have nc_109 : (pcN (hsF sm rr t 64) 64) < le := (nI_ltI (a := pcN (hsF sm rr t 64) 64) (b := le) (by omega) (by omega)).mp c_109
                  refine lv_iload hx hb dX8_worstOf_115 (lv_at hl 0 rfl) ?_
                  refine lv_istore (lv' := [(6, .int (nI (pcN (hsF sm rr t 64) 64))), (11, .int (nI (pcN (hsF sm rr t 64) 64))), (10, .int (nI (pcN (hsF sm rr t 64) 64))), (0, .ref z), (1, .long (lN sm)), (3, .int (nI (pcN sm 64))), (4, .long (lN bm)), (7, .int (nI t)), (8, .long (lN (hsF sm rr t 64)))]) hx hb dX8_worstOf_117 hl (by decide) rfl (fun ls hl => ?_)
                  refine lv_lload hx hb dX8_worstOf_119 (lv_at hl 8 rfl) ?_
                  refine lv_lstore (lv' := [(4, .long (lN (hsF sm rr t 64))), (6, .int (nI (pcN (hsF sm rr t 64) 64))), (11, .int (nI (pcN (hsF sm rr t 64) 64))), (10, .int (nI (pcN (hsF sm rr t 64) 64))), (0, .ref z), (1, .long (lN sm)), (3, .int (nI (pcN sm 64))), (7, .int (nI t)), (8, .long (lN (hsF sm rr t 64)))]) hx hb dX8_worstOf_121 hl (by decide) rfl (fun ls hl => ?_)
                  refine lv_iinc (v := nI (t + 1)) (lv' := [(7, .int (nI (t + 1))), (4, .long (lN (hsF sm rr t 64))), (6, .int (nI (pcN (hsF sm rr t 64) 64))), (11, .int (nI (pcN (hsF sm rr t 64) 64))), (10, .int (nI (pcN (hsF sm rr t 64) 64))), (0, .ref z), (1, .long (lN sm)), (3, .int (nI (pcN sm 64))), (8, .long (lN (hsF sm rr t 64)))]) hx hb dX8_worstOf_123 hl (k := 7) rfl (nI_1 _) (by decide) rfl (fun ls hl => ?_)
                  refine lv_goto (tgt := 14) hx hb dX8_worstOf_126 (by decide) ?_
                  exact ih_14  (t + 1) (hsF sm rr t 64) (pcN (hsF sm rr t 64) 64) (by omega) (by first | exact Nat.zero_le _ | omega) (by first | (subst eb; subst el; simp [wsF, moreW, c_20, nc_20, c_33, nc_33, c_91, nc_91, c_109, nc_109]; done) | (subst eb; subst el; simp [wsF, moreW, c_20, nc_20, c_33, nc_33, c_91, nc_91, c_109, nc_109]; omega)) (by first | (subst eb; subst el; simp [wsF, moreW, c_20, nc_20, c_33, nc_33, c_91, nc_91, c_109, nc_109]; done) | (subst eb; subst el; simp [wsF, moreW, c_20, nc_20, c_33, nc_33, c_91, nc_91, c_109, nc_109]; omega)) _ (lv_sub hl [5, 6, 7, 1, 2, 0] rfl)
                · skip
                  have nc_109 : ¬ (pcN (hsF sm rr t 64) 64) < le := (not_congr (nI_ltI (a := pcN (hsF sm rr t 64) 64) (b := le) (by omega) (by omega))).mp c_109
                  refine lv_goto (tgt := 123) hx hb dX8_worstOf_112 (by decide) ?_
                  refine lv_iinc (v := nI (t + 1)) (lv' := [(7, .int (nI (t + 1))), (11, .int (nI (pcN (hsF sm rr t 64) 64))), (10, .int (nI (pcN (hsF sm rr t 64) 64))), (0, .ref z), (1, .long (lN sm)), (3, .int (nI (pcN sm 64))), (4, .long (lN bm)), (6, .int (nI le)), (8, .long (lN (hsF sm rr t 64)))]) hx hb dX8_worstOf_123 hl (k := 7) rfl (nI_1 _) (by decide) rfl (fun ls hl => ?_)
                  refine lv_goto (tgt := 14) hx hb dX8_worstOf_126 (by decide) ?_
                  exact ih_14  (t + 1) bm le (by omega) (by first | exact Nat.zero_le _ | omega) (by first | (subst eb; subst el; simp [wsF, moreW, c_20, nc_20, c_33, nc_33, c_91, nc_91, c_109, nc_109]; done) | (subst eb; subst el; simp [wsF, moreW, c_20, nc_20, c_33, nc_33, c_91, nc_91, c_109, nc_109]; omega)) (by first | (subst eb; subst el; simp [wsF, moreW, c_20, nc_20, c_33, nc_33, c_91, nc_91, c_109, nc_109]; done) | (subst eb; subst el; simp [wsF, moreW, c_20, nc_20, c_33, nc_33, c_91, nc_91, c_109, nc_109]; omega)) _ (lv_sub hl [3, 4, 5, 6, 7, 0] rfl)
            · skip
              have nc_33 : ¬ 64 ≤ k := (not_congr (nI_leI (a := 64) (b := k) (by omega) (by omega))).mp c_33
              refine lv_lload_n hx hb dX8_worstOf_36 rfl (lv_at hl 1 rfl) ?_
              refine lv_iload hx hb dX8_worstOf_37 (lv_at hl 7 rfl) ?_
              refine lv_lshr hx hb dX8_worstOf_39 rfl ?_
              refine lv_lconst (v := 1) hx hb dX8_worstOf_40 (by decide) ?_
              refine lv_land hx hb dX8_worstOf_41 ?_
              refine lv_topl (fun nv_10 ev_10 => ?_)
              obtain rfl : nv_10 = lN (if sm.testBit k then 1 else 0) := ev_10.trans (lx_bit (by omega))
              refine lv_lconst (v := 1) hx hb dX8_worstOf_42 (by decide) ?_
              refine W.lcmp hx hb dX8_worstOf_43 ?_
              refine lv_if_ne (tgt := 72) hx hb dX8_worstOf_44 (by decide) (fun c_44 => ?_) (fun c_44 => ?_)
              · skip
                have c_44b : sm.testBit k = false := by cases hz : sm.testBit k with | false => rfl | true => exact absurd (lx_ne.mpr hz) c_44
                refine lv_iinc (v := nI (k + 1)) (lv' := [(10, .int (nI (k + 1))), (0, .ref z), (1, .long (lN sm)), (3, .int (nI (pcN sm 64))), (4, .long (lN bm)), (6, .int (nI le)), (7, .int (nI t)), (8, .long (lN hm))]) hx hb dX8_worstOf_72 hl (k := 7) rfl (nI_1 _) (by decide) rfl (fun ls hl => ?_)
                refine lv_goto (tgt := 29) hx hb dX8_worstOf_75 (by decide) ?_
                exact ih_29  (k + 1) hm (by omega) (by first | exact Nat.zero_le _ | omega) (by subst eh; simp [hsF, c_20, nc_20, c_33, nc_33, c_44, c_44b]) _ (lv_sub hl [1, 2, 3, 4, 5, 6, 7, 0] rfl)
              · skip
                have c_44b : sm.testBit k = true := lx_ne.mp c_44
                refine lv_aload_n hx hb dX8_worstOf_47 rfl (lv_at hl 0 rfl) ?_
                refine va_get (D := D) (ci := 9) (v := .ref a15) (C := RX8) (T := TX8) (N := 24) hx hb hts hi_X8 hown hK.1 hP 0 rfl rfl 23 (by decide) hw_f60 (fun _ h9 => h9) rfl dX8_worstOf_48 ?_
                refine lv_iload hx hb dX8_worstOf_51 (lv_at hl 7 rfl) ?_
                refine va_iald hx hb hK.1 hP 1 0 rfl rfl (vp_in_nI (by omega) (by omega)) dX8_worstOf_53 ?_
                refine lv_topi (fun nv_11 ev_11 => ?_)
                obtain rfl : nv_11 = (nF rr) k := by rw [ev_11, nI_clamp (by omega)]
                refine lv_topi (fun nv_12 ev_12 => ?_)
                obtain rfl : nv_12 = nI (rr k) := ev_12.trans (rfl)
                refine lv_iload hx hb dX8_worstOf_54 (lv_at hl 5 rfl) ?_
                refine lv_ishr hx hb dX8_worstOf_56 ?_
                refine lv_iconst (v := 1) hx hb dX8_worstOf_57 (by decide) ?_
                refine lv_iand hx hb dX8_worstOf_58 ?_
                refine lv_topi (fun nv_13 ev_13 => ?_)
                obtain rfl : nv_13 = k01 ((rr k).testBit t) := ev_13.trans (hx_k01 (by have := hrr k; omega) (by omega))
                refine lv_iconst (v := 1) hx hb dX8_worstOf_59 (by decide) ?_
                refine lv_icmp_ne (tgt := 72) hx hb dX8_worstOf_60 (by decide) (fun c_60 => ?_) (fun c_60 => ?_)
                · skip
                  have c_60b : (rr k).testBit t = false := by cases hz : (rr k).testBit t with | false => rfl | true => exact absurd (by rw [hz]; rfl) c_60
                  refine lv_iinc (v := nI (k + 1)) (lv' := [(10, .int (nI (k + 1))), (0, .ref z), (1, .long (lN sm)), (3, .int (nI (pcN sm 64))), (4, .long (lN bm)), (6, .int (nI le)), (7, .int (nI t)), (8, .long (lN hm))]) hx hb dX8_worstOf_72 hl (k := 7) rfl (nI_1 _) (by decide) rfl (fun ls hl => ?_)
                  refine lv_goto (tgt := 29) hx hb dX8_worstOf_75 (by decide) ?_
                  exact ih_29  (k + 1) hm (by omega) (by first | exact Nat.zero_le _ | omega) (by subst eh; simp [hsF, c_20, nc_20, c_33, nc_33, c_44, c_44b, c_60, c_60b]) _ (lv_sub hl [1, 2, 3, 4, 5, 6, 7, 0] rfl)
                · skip
                  have c_60b : (rr k).testBit t = true := by cases hz : (rr k).testBit t with | true => rfl | false => exact absurd c_60 (by rw [hz]; decide)
                  refine lv_lload hx hb dX8_worstOf_63 (lv_at hl 6 rfl) ?_
                  refine lv_lconst (v := 1) hx hb dX8_worstOf_65 (by decide) ?_
                  refine lv_iload hx hb dX8_worstOf_66 (lv_at hl 7 rfl) ?_
                  refine lv_lshl hx hb dX8_worstOf_68 rfl ?_
                  refine lv_topl (fun nv_14 ev_14 => ?_)
                  obtain rfl : nv_14 = lN (2 ^ k) := ev_14.trans (lx_pow (by omega))
                  refine lv_lor hx hb dX8_worstOf_69 ?_
                  refine lv_topl (fun nv_15 ev_15 => ?_)
                  obtain rfl : nv_15 = lN (hm ||| 2 ^ k) := ev_15.trans (lx_or (by rw [eh]; exact hs_lt64 sm rr t (by omega)) (by omega))
                  refine lv_lstore (lv' := [(8, .long (lN (hm ||| 2 ^ k))), (0, .ref z), (1, .long (lN sm)), (3, .int (nI (pcN sm 64))), (4, .long (lN bm)), (6, .int (nI le)), (7, .int (nI t)), (10, .int (nI k))]) hx hb dX8_worstOf_70 hl (by decide) rfl (fun ls hl => ?_)
                  refine lv_iinc (v := nI (k + 1)) (lv' := [(10, .int (nI (k + 1))), (8, .long (lN (hm ||| 2 ^ k))), (0, .ref z), (1, .long (lN sm)), (3, .int (nI (pcN sm 64))), (4, .long (lN bm)), (6, .int (nI le)), (7, .int (nI t))]) hx hb dX8_worstOf_72 hl (k := 7) rfl (nI_1 _) (by decide) rfl (fun ls hl => ?_)
                  refine lv_goto (tgt := 29) hx hb dX8_worstOf_75 (by decide) ?_
                  exact ih_29  (k + 1) (hm ||| 2 ^ k) (by omega) (by first | exact Nat.zero_le _ | omega) (by subst eh; simp [hsF, c_20, nc_20, c_33, nc_33, c_44, c_44b, c_60, c_60b]) _ (lv_sub hl [2, 3, 4, 5, 6, 7, 1, 0] rfl)
        exact hloop_29 ((64 - 0) + 1) 0 0 (Nat.lt_succ_self _) (by exact Nat.zero_le _) (by rfl) _ (lv_sub hl [2, 3, 4, 5, 6, 7, 1, 0] rfl)
  exact hloop_14 ((T - 0) + 1) 0 0 (pcN sm 64) (Nat.lt_succ_self _) (by exact Nat.zero_le _) (by rfl) (by rfl) _ (lv_sub hl [4, 5, 3, 2, 1, 0] rfl)

set_option maxHeartbeats 4000000 in
set_option maxRecDepth 100000 in
theorem c_X8_wo_10 (l : Launch) (D : va_G) (cI cJ cZ cO : ClassId) (z : Nat) (a0 : Nat) (a1 : Nat) (a2 : Nat) (a3 : Nat) (a4 : Nat) (a5 : Nat) (a6 : Nat) (a7 : Nat) (a8 : Nat) (a9 : Nat) (a10 : Nat) (a11 : Nat) (a12 : Nat) (a13 : Nat) (a14 : Nat) (a15 : Nat) (T : Nat) (P : Nat) (pa : Int32) (kn : Int32) (rn : Nat) (ln : Nat) (th : Int32) (wt : Int32) (rr : Nat → Nat) (sm : Nat) (fq : Nat) (q : Nat) (hT : T ≤ 12) (hs : sm < 2 ^ 64) (hrt : ∀ k, k < 64 → sm.testBit k = true → rr k < 2 ^ T) (hrr : ∀ k, rr k < 4096) (hfu : fq = 12 - 10) (hsp : spN (mCt sm rr) ≤ fq) (hq : q = WN fq (mCt sm rr)) : kR l D (kTY cI cJ cZ cO) yX8_worstOf wsX8_worstOf 3 83 [.ref z, .long (lN sm)] [(z, .inr (9, [.ref a0, .ref a1, .int (nI T), .ref a2, .ref a3, .ref a4, .ref a5, .ref a6, .int (nI P), .int pa, .int kn, .ref a7, .int (nI rn), .ref a8, .ref a9, .int (nI ln), .ref a10, .int th, .ref a11, .ref a12, .int wt, .ref a13, .ref a14, .ref a15])), (a15, .inl (cI, 64, .inl (nF rr)))] (fun rv_ => rv_ = some (.int (nI q))) := by
  refine kEnterR (cc := cX8_worstOf) (maxL := 12) (ret := (some .int)) (by decide) rfl (Nat.le_of_ble_eq_true rfl) ?_
  intro p e s m args below meth c hx hb hr hml hts hown hlk hK hP ls hl
  have hl : lv_has ls 12 [(0, .ref z), (1, .long (lN sm))] := hl
  have hw_f66 := hts (.fieldLink RX8 66 "WhatToReadModel" "topics" "I") (by decide +kernel)
  have hi_X8 : ∀ w ∈ wsX80, w ∈ wsX8_worstOf := by decide +kernel
  have hw_f60 := hts (.fieldLink RX8 60 "WhatToReadModel" "row64" "[I") (by decide +kernel)
  refine lv_lload_n hx hb dX8_worstOf_0 rfl (lv_at hl 1 rfl) ?_
  refine kGoR (va_runS (As := [.long (lN sm)]) (rest := []) ⟨hx, hb, hml, hown, hts⟩ (c_J13_bitCount_95d88 l D cI cJ cZ cO sm (hs)) (va_cwS 1 hts gX8_worstOf_J13_bitCount_95d88 rfl rfl rfl (by decide +kernel) ⟨Nat.le_of_ble_eq_true rfl, Nat.le_of_ble_eq_true rfl⟩) (kPreSR hK (kPc_sub hP [] rfl)) rfl rfl hl.1 rfl (lv_room (Nat.le_of_ble_eq_true rfl)) dX8_worstOf_1 ⟨Nat.le_of_ble_eq_true rfl, Nat.le_of_ble_eq_true rfl⟩) (fun v_1 hv_1 => ?_)
  obtain rfl := hv_1
  refine W.eq (g2 := F0 m 4 ls [.int (nI (pcN sm 64))]) rfl ?_
  refine lv_istore_n (lv' := [(3, .int (nI (pcN sm 64))), (0, .ref z), (1, .long (lN sm))]) hx hb dX8_worstOf_4 rfl hl (by decide) rfl (fun ls hl => ?_)
  refine lv_lconst (v := 0) hx hb dX8_worstOf_5 (by decide) ?_
  refine lv_topl (fun nv_2 ev_2 => ?_)
  obtain rfl : nv_2 = lN 0 := ev_2.trans (rfl)
  refine lv_lstore (lv' := [(4, .long (lN 0)), (3, .int (nI (pcN sm 64))), (0, .ref z), (1, .long (lN sm))]) hx hb dX8_worstOf_6 hl (by decide) rfl (fun ls hl => ?_)
  refine lv_iload_n hx hb dX8_worstOf_8 rfl (lv_at hl 1 rfl) ?_
  refine lv_istore (lv' := [(6, .int (nI (pcN sm 64))), (4, .long (lN 0)), (3, .int (nI (pcN sm 64))), (0, .ref z), (1, .long (lN sm))]) hx hb dX8_worstOf_9 hl (by decide) rfl (fun ls hl => ?_)
  refine lv_iconst (v := 0) hx hb dX8_worstOf_11 (by decide) ?_
  refine lv_istore (lv' := [(7, .int 0), (6, .int (nI (pcN sm 64))), (4, .long (lN 0)), (3, .int (nI (pcN sm 64))), (0, .ref z), (1, .long (lN sm))]) hx hb dX8_worstOf_12 hl (by decide) rfl (fun ls hl => ?_)
  have hloop_14 : ∀ (fu : Nat) (t : Nat) (bm : Nat) (le : Nat), T - t < fu → t ≤ T → bm = (wsF sm rr (pcN sm 64) t).1 → le = (wsF sm rr (pcN sm 64) t).2 → ∀ ls : Array Slot, lv_has ls 12 [(0, .ref z), (1, .long (lN sm)), (3, .int (nI (pcN sm 64))), (4, .long (lN bm)), (6, .int (nI le)), (7, .int (nI t))] → W p l e ({ frames := 3, cells := 0, slots := 0, locals := 83 }) s m args below meth c s.heap [] 0 0 (MQ below (kQr (fun rv_ => rv_ = some (.int (nI q)))) args s 0 0 (fun _ => False)) (F0 m 14 ls []) := by
    intro fu
    induction fu with
    | zero => intro t bm le hmu; exact absurd hmu (Nat.not_lt_zero _)
    | succ fu ih_14 =>
      intro t bm le hmu_14 ht eb el ls hl
      have hal := pcN_le sm 64
      have hmle := hs_le sm rr t
      have hl2 := ws2_le sm rr (pcN sm 64) t
      refine lv_iload hx hb dX8_worstOf_14 (lv_at hl 5 rfl) ?_
      refine lv_aload_n hx hb dX8_worstOf_16 rfl (lv_at hl 0 rfl) ?_
      refine va_get (D := D) (ci := 9) (v := .int (nI T)) (C := RX8) (T := TX8) (N := 24) hx hb hts hi_X8 hown hK.1 hP 0 rfl rfl 2 (by decide) hw_f66 (fun _ h9 => h9) rfl dX8_worstOf_17 ?_
      refine lv_icmp_ge (tgt := 129) hx hb dX8_worstOf_20 (by decide) (fun c_20 => ?_) (fun c_20 => ?_)
      · skip
        have nc_20 : T ≤ t := (nI_leI (a := T) (b := t) (by omega) (by omega)).mp c_20
        have e13 : t = T := by omega
        have hle2 : le ≤ pcN sm 64 := by rw [el]; exact ws2_le sm rr _ t
        obtain ⟨wq, hwq⟩ : ∃ wq, wq = wsF sm rr (pcN sm 64) T := ⟨_, rfl⟩
        rw [e13, ← hwq] at eb el
        have hwe := ws_end hT hrt hwq
        refine lv_iload hx hb dX8_worstOf_129 (lv_at hl 4 rfl) ?_
        refine lv_iload_n hx hb dX8_worstOf_131 rfl (lv_at hl 2 rfl) ?_
        refine lv_icmp_ne (tgt := 137) hx hb dX8_worstOf_132 (by decide) (fun c_132 => ?_) (fun c_132 => ?_)
        · skip
          have nc_132 : ¬ le = (pcN sm 64) := (not_congr (nI_eq (a := le) (b := pcN sm 64) (by omega) (by omega))).mp c_132
          obtain ⟨w1, w2, w3, w4, w5, w6, w7⟩ := hwe.2 (by omega)
          obtain ⟨fd, hfd⟩ : ∃ fd, fq = fd + 1 := ⟨fq - 1, by omega⟩
          obtain ⟨q1, hq1⟩ : ∃ q1, q1 = WN fd (mCt wq.1 rr) := ⟨_, rfl⟩
          obtain ⟨q2, hq2⟩ : ∃ q2, q2 = WN fd (mCt (andn sm wq.1) rr) := ⟨_, rfl⟩
          have hq1l : q1 ≤ fd := by rw [hq1]; exact WN_le _ _
          have hq2l : q2 ≤ fd := by rw [hq2]; exact WN_le _ _
          have hfin0 : q = 1 + max q2 q1 := by rw [hq, hfd, w7 fd, hq1, hq2]
          refine lv_aload_n hx hb dX8_worstOf_137 rfl (lv_at hl 0 rfl) ?_
          refine lv_lload hx hb dX8_worstOf_138 (lv_at hl 3 rfl) ?_
          refine kGoR (va_runV (As := [.long (lN bm)]) (rest := []) ⟨hx, hb, hml, hown, hts⟩ (c_X8_wo_11 l D cI cJ cZ cO z a0 a1 a2 a3 a4 a5 a6 a7 a8 a9 a10 a11 a12 a13 a14 a15 T P pa kn rn ln th wt rr bm fd q1 (by first | assumption | omega | decide) (by rw [eb]; exact w1) (by rw [eb]; exact w2) (hrr) (by omega) (by rw [eb]; omega) (by rw [hq1, eb])) (cwV 1 hts gX8_worstOf_X8_worstOf rfl rfl rfl (by decide +kernel) ⟨Nat.le_of_ble_eq_true rfl, Nat.le_of_ble_eq_true rfl⟩) (kPreVR (ci := 9) (q0 := 0) hK (kPc_sub hP [0, 1] rfl) rfl rfl rfl) rfl rfl hl.1 rfl (lv_room (Nat.le_of_ble_eq_true rfl)) dX8_worstOf_140 ⟨Nat.le_of_ble_eq_true rfl, Nat.le_of_ble_eq_true rfl⟩) (fun v_3 hv_3 => ?_)
          obtain rfl := hv_3
          refine W.eq (g2 := F0 m 143 ls [.int (nI q1)]) rfl ?_
          refine lv_istore (lv' := [(7, .int (nI q1)), (0, .ref z), (1, .long (lN sm)), (3, .int (nI (pcN sm 64))), (4, .long (lN bm)), (6, .int (nI le))]) hx hb dX8_worstOf_143 hl (by decide) rfl (fun ls hl => ?_)
          refine lv_aload_n hx hb dX8_worstOf_145 rfl (lv_at hl 1 rfl) ?_
          refine lv_lload_n hx hb dX8_worstOf_146 rfl (lv_at hl 2 rfl) ?_
          refine lv_lload hx hb dX8_worstOf_147 (lv_at hl 4 rfl) ?_
          refine lv_ldc2 (v := (-1)) hx hb hown (hts (.constantLong RX8 143 (-1)) (by decide +kernel)) dX8_worstOf_149 ?_
          refine lv_lxor hx hb dX8_worstOf_152 ?_
          refine lv_land hx hb dX8_worstOf_153 ?_
          refine lv_topl (fun nv_4 ev_4 => ?_)
          obtain rfl : nv_4 = lN (andn sm bm) := ev_4.trans (lx_andn hs (by rw [eb, hwq]; exact ws1_lt sm rr _ T))
          refine kGoR (va_runV (As := [.long (lN (andn sm bm))]) (rest := []) ⟨hx, hb, hml, hown, hts⟩ (c_X8_wo_11 l D cI cJ cZ cO z a0 a1 a2 a3 a4 a5 a6 a7 a8 a9 a10 a11 a12 a13 a14 a15 T P pa kn rn ln th wt rr (andn sm bm) fd q2 (by first | assumption | omega | decide) (Nat.lt_of_le_of_lt (andn_le _ _) hs) (by rw [eb]; exact w3) (hrr) (by omega) (by rw [eb]; omega) (by rw [hq2, eb])) (cwV 1 hts gX8_worstOf_X8_worstOf rfl rfl rfl (by decide +kernel) ⟨Nat.le_of_ble_eq_true rfl, Nat.le_of_ble_eq_true rfl⟩) (kPreVR (ci := 9) (q0 := 0) hK (kPc_sub hP [0, 1] rfl) rfl rfl rfl) rfl rfl hl.1 rfl (lv_room (Nat.le_of_ble_eq_true rfl)) dX8_worstOf_154 ⟨Nat.le_of_ble_eq_true rfl, Nat.le_of_ble_eq_true rfl⟩) (fun v_5 hv_5 => ?_)
          obtain rfl := hv_5
          refine W.eq (g2 := F0 m 157 ls [.int (nI q2)]) rfl ?_
          refine lv_istore (lv' := [(8, .int (nI q2)), (7, .int (nI q1)), (0, .ref z), (1, .long (lN sm)), (3, .int (nI (pcN sm 64))), (4, .long (lN bm)), (6, .int (nI le))]) hx hb dX8_worstOf_157 hl (by decide) rfl (fun ls hl => ?_)
          refine lv_iconst (v := 1) hx hb dX8_worstOf_159 (by decide) ?_
          refine lv_iload hx hb dX8_worstOf_160 (lv_at hl 1 rfl) ?_
          refine lv_iload hx hb dX8_worstOf_162 (lv_at hl 0 rfl) ?_
          refine lv_icmp_le (tgt := 172) hx hb dX8_worstOf_164 (by decide) (fun c_164 => ?_) (fun c_164 => ?_)
          · skip
            have nc_164 : q1 ≤ q2 := (nI_leI (a := q1) (b := q2) (by omega) (by omega)).mp c_164
            have hfin : (1 : Int32) + nI q2 = nI q := by rw [hfin0, show max q2 q1 = q2 by omega]; exact nI_add 1 _
            refine lv_iload hx hb dX8_worstOf_172 (lv_at hl 0 rfl) ?_
            refine lv_iadd hx hb dX8_worstOf_174 ?_
            exact kRetIr hx hb hr hlk dX8_worstOf_175 (kpi (by first | (rw [hq, hwe.1 (by omega)]; rfl) | (rw [hfin]; done)))
          · skip
            have nc_164 : ¬ q1 ≤ q2 := (not_congr (nI_leI (a := q1) (b := q2) (by omega) (by omega))).mp c_164
            have hfin : (1 : Int32) + nI q1 = nI q := by rw [hfin0, show max q2 q1 = q1 by omega]; exact nI_add 1 _
            refine lv_iload hx hb dX8_worstOf_167 (lv_at hl 1 rfl) ?_
            refine lv_goto (tgt := 174) hx hb dX8_worstOf_169 (by decide) ?_
            refine lv_iadd hx hb dX8_worstOf_174 ?_
            exact kRetIr hx hb hr hlk dX8_worstOf_175 (kpi (by first | (rw [hq, hwe.1 (by omega)]; rfl) | (rw [hfin]; done)))
        · skip
          have nc_132 : le = (pcN sm 64) := (nI_eq (a := le) (b := pcN sm 64) (by omega) (by omega)).mp c_132
          refine lv_iconst (v := 0) hx hb dX8_worstOf_135 (by decide) ?_
          exact kRetIr hx hb hr hlk dX8_worstOf_136 (kpi (by first | (rw [hq, hwe.1 (by omega)]; rfl) | (rw [hfin]; done)))
      · skip
        have nc_20 : ¬ T ≤ t := (not_congr (nI_leI (a := T) (b := t) (by omega) (by omega))).mp c_20
        refine lv_lconst (v := 0) hx hb dX8_worstOf_23 (by decide) ?_
        refine lv_topl (fun nv_6 ev_6 => ?_)
        obtain rfl : nv_6 = lN 0 := ev_6.trans (rfl)
        refine lv_lstore (lv' := [(8, .long (lN 0)), (0, .ref z), (1, .long (lN sm)), (3, .int (nI (pcN sm 64))), (4, .long (lN bm)), (6, .int (nI le)), (7, .int (nI t))]) hx hb dX8_worstOf_24 hl (by decide) rfl (fun ls hl => ?_)
        refine lv_iconst (v := 0) hx hb dX8_worstOf_26 (by decide) ?_
        refine lv_istore (lv' := [(10, .int 0), (8, .long (lN 0)), (0, .ref z), (1, .long (lN sm)), (3, .int (nI (pcN sm 64))), (4, .long (lN bm)), (6, .int (nI le)), (7, .int (nI t))]) hx hb dX8_worstOf_27 hl (by decide) rfl (fun ls hl => ?_)
        have hloop_29 : ∀ (fu : Nat) (k : Nat) (hm : Nat), 64 - k < fu → k ≤ 64 → hm = hsF sm rr t k → ∀ ls : Array Slot, lv_has ls 12 [(0, .ref z), (1, .long (lN sm)), (3, .int (nI (pcN sm 64))), (4, .long (lN bm)), (6, .int (nI le)), (7, .int (nI t)), (8, .long (lN hm)), (10, .int (nI k))] → W p l e ({ frames := 3, cells := 0, slots := 0, locals := 83 }) s m args below meth c s.heap [] 0 0 (MQ below (kQr (fun rv_ => rv_ = some (.int (nI q)))) args s 0 0 (fun _ => False)) (F0 m 29 ls []) := by
          intro fu
          induction fu with
          | zero => intro k hm hmu; exact absurd hmu (Nat.not_lt_zero _)
          | succ fu ih_29 =>
            intro k hm hmu_29 hk eh ls hl
            refine lv_iload hx hb dX8_worstOf_29 (lv_at hl 7 rfl) ?_
            refine lv_bipush (v := 64) hx hb dX8_worstOf_31 (by decide) ?_
            refine lv_icmp_ge (tgt := 78) hx hb dX8_worstOf_33 (by decide) (fun c_33 => ?_) (fun c_33 => ?_)
            · skip
              have nc_33 : 64 ≤ k := (nI_leI (a := 64) (b := k) (by omega) (by omega)).mp c_33
              have e12 : k = 64 := by omega
              rw [show (lN hm : Int64) = lN (hsF sm rr t 64) from by rw [eh, e12]] at hl
              refine lv_lload hx hb dX8_worstOf_78 (lv_at hl 6 rfl) ?_
              refine kGoR (va_runS (As := [.long (lN (hsF sm rr t 64))]) (rest := []) ⟨hx, hb, hml, hown, hts⟩ (c_J13_bitCount_95d88 l D cI cJ cZ cO (hsF sm rr t 64) (hs_lt64 sm rr t (Nat.le_refl _))) (va_cwS 1 hts gX8_worstOf_J13_bitCount_95d88 rfl rfl rfl (by decide +kernel) ⟨Nat.le_of_ble_eq_true rfl, Nat.le_of_ble_eq_true rfl⟩) (kPreSR hK (kPc_sub hP [] rfl)) rfl rfl hl.1 rfl (lv_room (Nat.le_of_ble_eq_true rfl)) dX8_worstOf_80 ⟨Nat.le_of_ble_eq_true rfl, Nat.le_of_ble_eq_true rfl⟩) (fun v_7 hv_7 => ?_)
              obtain rfl := hv_7
              refine W.eq (g2 := F0 m 83 ls [.int (nI (pcN (hsF sm rr t 64) 64))]) rfl ?_
              refine lv_istore (lv' := [(10, .int (nI (pcN (hsF sm rr t 64) 64))), (0, .ref z), (1, .long (lN sm)), (3, .int (nI (pcN sm 64))), (4, .long (lN bm)), (6, .int (nI le)), (7, .int (nI t)), (8, .long (lN (hsF sm rr t 64)))]) hx hb dX8_worstOf_83 hl (by decide) rfl (fun ls hl => ?_)
              refine lv_iload hx hb dX8_worstOf_85 (lv_at hl 0 rfl) ?_
              refine lv_iload_n hx hb dX8_worstOf_87 rfl (lv_at hl 3 rfl) ?_
              refine lv_iload hx hb dX8_worstOf_88 (lv_at hl 0 rfl) ?_
              refine lv_isub hx hb dX8_worstOf_90 ?_
              refine lv_topi (fun nv_8 ev_8 => ?_)
              obtain rfl : nv_8 = nI (pcN sm 64 - pcN (hsF sm rr t 64) 64) := ev_8.trans (pk_sub hmle)
              refine lv_icmp_le (tgt := 99) hx hb dX8_worstOf_91 (by decide) (fun c_91 => ?_) (fun c_91 => ?_)
              · skip
                have nc_91 : (pcN (hsF sm rr t 64) 64) ≤ (pcN sm 64 - pcN (hsF sm rr t 64) 64) := (nI_leI (a := pcN (hsF sm rr t 64) 64) (b := pcN sm 64 - pcN (hsF sm rr t 64) 64) (by omega) (by omega)).mp c_91
                refine lv_iload_n hx hb dX8_worstOf_99 rfl (lv_at hl 3 rfl) ?_
                refine lv_iload hx hb dX8_worstOf_100 (lv_at hl 0 rfl) ?_
                refine lv_isub hx hb dX8_worstOf_102 ?_
                refine lv_topi (fun nv_9 ev_9 => ?_)
                obtain rfl : nv_9 = nI (pcN sm 64 - pcN (hsF sm rr t 64) 64) := ev_9.trans (pk_sub hmle)
                refine lv_istore (lv' := [(11, .int (nI (pcN sm 64 - pcN (hsF sm rr t 64) 64))), (10, .int (nI (pcN (hsF sm rr t 64) 64))), (0, .ref z), (1, .long (lN sm)), (3, .int (nI (pcN sm 64))), (4, .long (lN bm)), (6, .int (nI le)), (7, .int (nI t)), (8, .long (lN (hsF sm rr t 64)))]) hx hb dX8_worstOf_103 hl (by decide) rfl (fun ls hl => ?_)
                refine lv_iload hx hb dX8_worstOf_105 (lv_at hl 0 rfl) ?_
                refine lv_iload hx hb dX8_worstOf_107 (lv_at hl 6 rfl) ?_
                refine lv_icmp_lt (tgt := 115) hx hb dX8_worstOf_109 (by decide) (fun c_109 => ?_) (fun c_109 => ?_)
                · skip
                  have nc_109 : (pcN sm 64 - pcN (hsF sm rr t 64) 64) < le := (nI_ltI (a := pcN sm 64 - pcN (hsF sm rr t 64) 64) (b := le) (by omega) (by omega)).mp c_109
                  refine lv_iload hx hb dX8_worstOf_115 (lv_at hl 0 rfl) ?_
                  refine lv_istore (lv' := [(6, .int (nI (pcN sm 64 - pcN (hsF sm rr t 64) 64))), (11, .int (nI (pcN sm 64 - pcN (hsF sm rr t 64) 64))), (10, .int (nI (pcN (hsF sm rr t 64) 64))), (0, .ref z), (1, .long (lN sm)), (3, .int (nI (pcN sm 64))), (4, .long (lN bm)), (7, .int (nI t)), (8, .long (lN (hsF sm rr t 64)))]) hx hb dX8_worstOf_117 hl (by decide) rfl (fun ls hl => ?_)
                  refine lv_lload hx hb dX8_worstOf_119 (lv_at hl 8 rfl) ?_
                  refine lv_lstore (lv' := [(4, .long (lN (hsF sm rr t 64))), (6, .int (nI (pcN sm 64 - pcN (hsF sm rr t 64) 64))), (11, .int (nI (pcN sm 64 - pcN (hsF sm rr t 64) 64))), (10, .int (nI (pcN (hsF sm rr t 64) 64))), (0, .ref z), (1, .long (lN sm)), (3, .int (nI (pcN sm 64))), (7, .int (nI t)), (8, .long (lN (hsF sm rr t 64)))]) hx hb dX8_worstOf_121 hl (by decide) rfl (fun ls hl => ?_)
                  refine lv_iinc (v := nI (t + 1)) (lv' := [(7, .int (nI (t + 1))), (4, .long (lN (hsF sm rr t 64))), (6, .int (nI (pcN sm 64 - pcN (hsF sm rr t 64) 64))), (11, .int (nI (pcN sm 64 - pcN (hsF sm rr t 64) 64))), (10, .int (nI (pcN (hsF sm rr t 64) 64))), (0, .ref z), (1, .long (lN sm)), (3, .int (nI (pcN sm 64))), (8, .long (lN (hsF sm rr t 64)))]) hx hb dX8_worstOf_123 hl (k := 7) rfl (nI_1 _) (by decide) rfl (fun ls hl => ?_)
                  refine lv_goto (tgt := 14) hx hb dX8_worstOf_126 (by decide) ?_
                  exact ih_14  (t + 1) (hsF sm rr t 64) (pcN sm 64 - pcN (hsF sm rr t 64) 64) (by omega) (by first | exact Nat.zero_le _ | omega) (by first | (subst eb; subst el; simp [wsF, moreW, c_20, nc_20, c_33, nc_33, c_91, nc_91, c_109, nc_109]; done) | (subst eb; subst el; simp [wsF, moreW, c_20, nc_20, c_33, nc_33, c_91, nc_91, c_109, nc_109]; omega)) (by first | (subst eb; subst el; simp [wsF, moreW, c_20, nc_20, c_33, nc_33, c_91, nc_91, c_109, nc_109]; done) | (subst eb; subst el; simp [wsF, moreW, c_20, nc_20, c_33, nc_33, c_91, nc_91, c_109, nc_109]; omega)) _ (lv_sub hl [5, 6, 7, 1, 2, 0] rfl)
                · skip
                  have nc_109 : ¬ (pcN sm 64 - pcN (hsF sm rr t 64) 64) < le := (not_congr (nI_ltI (a := pcN sm 64 - pcN (hsF sm rr t 64) 64) (b := le) (by omega) (by omega))).mp c_109
                  refine lv_goto (tgt := 123) hx hb dX8_worstOf_112 (by decide) ?_
                  refine lv_iinc (v := nI (t + 1)) (lv' := [(7, .int (nI (t + 1))), (11, .int (nI (pcN sm 64 - pcN (hsF sm rr t 64) 64))), (10, .int (nI (pcN (hsF sm rr t 64) 64))), (0, .ref z), (1, .long (lN sm)), (3, .int (nI (pcN sm 64))), (4, .long (lN bm)), (6, .int (nI le)), (8, .long (lN (hsF sm rr t 64)))]) hx hb dX8_worstOf_123 hl (k := 7) rfl (nI_1 _) (by decide) rfl (fun ls hl => ?_)
                  refine lv_goto (tgt := 14) hx hb dX8_worstOf_126 (by decide) ?_
                  exact ih_14  (t + 1) bm le (by omega) (by first | exact Nat.zero_le _ | omega) (by first | (subst eb; subst el; simp [wsF, moreW, c_20, nc_20, c_33, nc_33, c_91, nc_91, c_109, nc_109]; done) | (subst eb; subst el; simp [wsF, moreW, c_20, nc_20, c_33, nc_33, c_91, nc_91, c_109, nc_109]; omega)) (by first | (subst eb; subst el; simp [wsF, moreW, c_20, nc_20, c_33, nc_33, c_91, nc_91, c_109, nc_109]; done) | (subst eb; subst el; simp [wsF, moreW, c_20, nc_20, c_33, nc_33, c_91, nc_91, c_109, nc_109]; omega)) _ (lv_sub hl [3, 4, 5, 6, 7, 0] rfl)
              · skip
                have nc_91 : ¬ (pcN (hsF sm rr t 64) 64) ≤ (pcN sm 64 - pcN (hsF sm rr t 64) 64) := (not_congr (nI_leI (a := pcN (hsF sm rr t 64) 64) (b := pcN sm 64 - pcN (hsF sm rr t 64) 64) (by omega) (by omega))).mp c_91
                refine lv_iload hx hb dX8_worstOf_94 (lv_at hl 0 rfl) ?_
                refine lv_goto (tgt := 103) hx hb dX8_worstOf_96 (by decide) ?_
                refine lv_istore (lv' := [(11, .int (nI (pcN (hsF sm rr t 64) 64))), (10, .int (nI (pcN (hsF sm rr t 64) 64))), (0, .ref z), (1, .long (lN sm)), (3, .int (nI (pcN sm 64))), (4, .long (lN bm)), (6, .int (nI le)), (7, .int (nI t)), (8, .long (lN (hsF sm rr t 64)))]) hx hb dX8_worstOf_103 hl (by decide) rfl (fun ls hl => ?_)
                refine lv_iload hx hb dX8_worstOf_105 (lv_at hl 0 rfl) ?_
                refine lv_iload hx hb dX8_worstOf_107 (lv_at hl 6 rfl) ?_
                refine lv_icmp_lt (tgt := 115) hx hb dX8_worstOf_109 (by decide) (fun c_109 => ?_) (fun c_109 => ?_)
                · skip
                  have nc_109 : (pcN (hsF sm rr t 64) 64) < le := (nI_ltI (a := pcN (hsF sm rr t 64) 64) (b := le) (by omega) (by omega)).mp c_109
                  refine lv_iload hx hb dX8_worstOf_115 (lv_at hl 0 rfl) ?_
                  refine lv_istore (lv' := [(6, .int (nI (pcN (hsF sm rr t 64) 64))), (11, .int (nI (pcN (hsF sm rr t 64) 64))), (10, .int (nI (pcN (hsF sm rr t 64) 64))), (0, .ref z), (1, .long (lN sm)), (3, .int (nI (pcN sm 64))), (4, .long (lN bm)), (7, .int (nI t)), (8, .long (lN (hsF sm rr t 64)))]) hx hb dX8_worstOf_117 hl (by decide) rfl (fun ls hl => ?_)
                  refine lv_lload hx hb dX8_worstOf_119 (lv_at hl 8 rfl) ?_
                  refine lv_lstore (lv' := [(4, .long (lN (hsF sm rr t 64))), (6, .int (nI (pcN (hsF sm rr t 64) 64))), (11, .int (nI (pcN (hsF sm rr t 64) 64))), (10, .int (nI (pcN (hsF sm rr t 64) 64))), (0, .ref z), (1, .long (lN sm)), (3, .int (nI (pcN sm 64))), (7, .int (nI t)), (8, .long (lN (hsF sm rr t 64)))]) hx hb dX8_worstOf_121 hl (by decide) rfl (fun ls hl => ?_)
                  refine lv_iinc (v := nI (t + 1)) (lv' := [(7, .int (nI (t + 1))), (4, .long (lN (hsF sm rr t 64))), (6, .int (nI (pcN (hsF sm rr t 64) 64))), (11, .int (nI (pcN (hsF sm rr t 64) 64))), (10, .int (nI (pcN (hsF sm rr t 64) 64))), (0, .ref z), (1, .long (lN sm)), (3, .int (nI (pcN sm 64))), (8, .long (lN (hsF sm rr t 64)))]) hx hb dX8_worstOf_123 hl (k := 7) rfl (nI_1 _) (by decide) rfl (fun ls hl => ?_)
                  refine lv_goto (tgt := 14) hx hb dX8_worstOf_126 (by decide) ?_
                  exact ih_14  (t + 1) (hsF sm rr t 64) (pcN (hsF sm rr t 64) 64) (by omega) (by first | exact Nat.zero_le _ | omega) (by first | (subst eb; subst el; simp [wsF, moreW, c_20, nc_20, c_33, nc_33, c_91, nc_91, c_109, nc_109]; done) | (subst eb; subst el; simp [wsF, moreW, c_20, nc_20, c_33, nc_33, c_91, nc_91, c_109, nc_109]; omega)) (by first | (subst eb; subst el; simp [wsF, moreW, c_20, nc_20, c_33, nc_33, c_91, nc_91, c_109, nc_109]; done) | (subst eb; subst el; simp [wsF, moreW, c_20, nc_20, c_33, nc_33, c_91, nc_91, c_109, nc_109]; omega)) _ (lv_sub hl [5, 6, 7, 1, 2, 0] rfl)
                · skip
                  have nc_109 : ¬ (pcN (hsF sm rr t 64) 64) < le := (not_congr (nI_ltI (a := pcN (hsF sm rr t 64) 64) (b := le) (by omega) (by omega))).mp c_109
                  refine lv_goto (tgt := 123) hx hb dX8_worstOf_112 (by decide) ?_
                  refine lv_iinc (v := nI (t + 1)) (lv' := [(7, .int (nI (t + 1))), (11, .int (nI (pcN (hsF sm rr t 64) 64))), (10, .int (nI (pcN (hsF sm rr t 64) 64))), (0, .ref z), (1, .long (lN sm)), (3, .int (nI (pcN sm 64))), (4, .long (lN bm)), (6, .int (nI le)), (8, .long (lN (hsF sm rr t 64)))]) hx hb dX8_worstOf_123 hl (k := 7) rfl (nI_1 _) (by decide) rfl (fun ls hl => ?_)
                  refine lv_goto (tgt := 14) hx hb dX8_worstOf_126 (by decide) ?_
                  exact ih_14  (t + 1) bm le (by omega) (by first | exact Nat.zero_le _ | omega) (by first | (subst eb; subst el; simp [wsF, moreW, c_20, nc_20, c_33, nc_33, c_91, nc_91, c_109, nc_109]; done) | (subst eb; subst el; simp [wsF, moreW, c_20, nc_20, c_33, nc_33, c_91, nc_91, c_109, nc_109]; omega)) (by first | (subst eb; subst el; simp [wsF, moreW, c_20, nc_20, c_33, nc_33, c_91, nc_91, c_109, nc_109]; done) | (subst eb; subst el; simp [wsF, moreW, c_20, nc_20, c_33, nc_33, c_91, nc_91, c_109, nc_109]; omega)) _ (lv_sub hl [3, 4, 5, 6, 7, 0] rfl)
            · skip
              have nc_33 : ¬ 64 ≤ k := (not_congr (nI_leI (a := 64) (b := k) (by omega) (by omega))).mp c_33
              refine lv_lload_n hx hb dX8_worstOf_36 rfl (lv_at hl 1 rfl) ?_
              refine lv_iload hx hb dX8_worstOf_37 (lv_at hl 7 rfl) ?_
              refine lv_lshr hx hb dX8_worstOf_39 rfl ?_
              refine lv_lconst (v := 1) hx hb dX8_worstOf_40 (by decide) ?_
              refine lv_land hx hb dX8_worstOf_41 ?_
              refine lv_topl (fun nv_10 ev_10 => ?_)
              obtain rfl : nv_10 = lN (if sm.testBit k then 1 else 0) := ev_10.trans (lx_bit (by omega))
              refine lv_lconst (v := 1) hx hb dX8_worstOf_42 (by decide) ?_
              refine W.lcmp hx hb dX8_worstOf_43 ?_
              refine lv_if_ne (tgt := 72) hx hb dX8_worstOf_44 (by decide) (fun c_44 => ?_) (fun c_44 => ?_)
              · skip
                have c_44b : sm.testBit k = false := by cases hz : sm.testBit k with | false => rfl | true => exact absurd (lx_ne.mpr hz) c_44
                refine lv_iinc (v := nI (k + 1)) (lv' := [(10, .int (nI (k + 1))), (0, .ref z), (1, .long (lN sm)), (3, .int (nI (pcN sm 64))), (4, .long (lN bm)), (6, .int (nI le)), (7, .int (nI t)), (8, .long (lN hm))]) hx hb dX8_worstOf_72 hl (k := 7) rfl (nI_1 _) (by decide) rfl (fun ls hl => ?_)
                refine lv_goto (tgt := 29) hx hb dX8_worstOf_75 (by decide) ?_
                exact ih_29  (k + 1) hm (by omega) (by first | exact Nat.zero_le _ | omega) (by subst eh; simp [hsF, c_20, nc_20, c_33, nc_33, c_44, c_44b]) _ (lv_sub hl [1, 2, 3, 4, 5, 6, 7, 0] rfl)
              · skip
                have c_44b : sm.testBit k = true := lx_ne.mp c_44
                refine lv_aload_n hx hb dX8_worstOf_47 rfl (lv_at hl 0 rfl) ?_
                refine va_get (D := D) (ci := 9) (v := .ref a15) (C := RX8) (T := TX8) (N := 24) hx hb hts hi_X8 hown hK.1 hP 0 rfl rfl 23 (by decide) hw_f60 (fun _ h9 => h9) rfl dX8_worstOf_48 ?_
                refine lv_iload hx hb dX8_worstOf_51 (lv_at hl 7 rfl) ?_
                refine va_iald hx hb hK.1 hP 1 0 rfl rfl (vp_in_nI (by omega) (by omega)) dX8_worstOf_53 ?_
                refine lv_topi (fun nv_11 ev_11 => ?_)
                obtain rfl : nv_11 = (nF rr) k := by rw [ev_11, nI_clamp (by omega)]
                refine lv_topi (fun nv_12 ev_12 => ?_)
                obtain rfl : nv_12 = nI (rr k) := ev_12.trans (rfl)
                refine lv_iload hx hb dX8_worstOf_54 (lv_at hl 5 rfl) ?_
                refine lv_ishr hx hb dX8_worstOf_56 ?_
                refine lv_iconst (v := 1) hx hb dX8_worstOf_57 (by decide) ?_
                refine lv_iand hx hb dX8_worstOf_58 ?_
                refine lv_topi (fun nv_13 ev_13 => ?_)
                obtain rfl : nv_13 = k01 ((rr k).testBit t) := ev_13.trans (hx_k01 (by have := hrr k; omega) (by omega))
                refine lv_iconst (v := 1) hx hb dX8_worstOf_59 (by decide) ?_
                refine lv_icmp_ne (tgt := 72) hx hb dX8_worstOf_60 (by decide) (fun c_60 => ?_) (fun c_60 => ?_)
                · skip
                  have c_60b : (rr k).testBit t = false := by cases hz : (rr k).testBit t with | false => rfl | true => exact absurd (by rw [hz]; rfl) c_60
                  refine lv_iinc (v := nI (k + 1)) (lv' := [(10, .int (nI (k + 1))), (0, .ref z), (1, .long (lN sm)), (3, .int (nI (pcN sm 64))), (4, .long (lN bm)), (6, .int (nI le)), (7, .int (nI t)), (8, .long (lN hm))]) hx hb dX8_worstOf_72 hl (k := 7) rfl (nI_1 _) (by decide) rfl (fun ls hl => ?_)
                  refine lv_goto (tgt := 29) hx hb dX8_worstOf_75 (by decide) ?_
                  exact ih_29  (k + 1) hm (by omega) (by first | exact Nat.zero_le _ | omega) (by subst eh; simp [hsF, c_20, nc_20, c_33, nc_33, c_44, c_44b, c_60, c_60b]) _ (lv_sub hl [1, 2, 3, 4, 5, 6, 7, 0] rfl)
                · skip
                  have c_60b : (rr k).testBit t = true := by cases hz : (rr k).testBit t with | true => rfl | false => exact absurd c_60 (by rw [hz]; decide)
                  refine lv_lload hx hb dX8_worstOf_63 (lv_at hl 6 rfl) ?_
                  refine lv_lconst (v := 1) hx hb dX8_worstOf_65 (by decide) ?_
                  refine lv_iload hx hb dX8_worstOf_66 (lv_at hl 7 rfl) ?_
                  refine lv_lshl hx hb dX8_worstOf_68 rfl ?_
                  refine lv_topl (fun nv_14 ev_14 => ?_)
                  obtain rfl : nv_14 = lN (2 ^ k) := ev_14.trans (lx_pow (by omega))
                  refine lv_lor hx hb dX8_worstOf_69 ?_
                  refine lv_topl (fun nv_15 ev_15 => ?_)
                  obtain rfl : nv_15 = lN (hm ||| 2 ^ k) := ev_15.trans (lx_or (by rw [eh]; exact hs_lt64 sm rr t (by omega)) (by omega))
                  refine lv_lstore (lv' := [(8, .long (lN (hm ||| 2 ^ k))), (0, .ref z), (1, .long (lN sm)), (3, .int (nI (pcN sm 64))), (4, .long (lN bm)), (6, .int (nI le)), (7, .int (nI t)), (10, .int (nI k))]) hx hb dX8_worstOf_70 hl (by decide) rfl (fun ls hl => ?_)
                  refine lv_iinc (v := nI (k + 1)) (lv' := [(10, .int (nI (k + 1))), (8, .long (lN (hm ||| 2 ^ k))), (0, .ref z), (1, .long (lN sm)), (3, .int (nI (pcN sm 64))), (4, .long (lN bm)), (6, .int (nI le)), (7, .int (nI t))]) hx hb dX8_worstOf_72 hl (k := 7) rfl (nI_1 _) (by decide) rfl (fun ls hl => ?_)
                  refine lv_goto (tgt := 29) hx hb dX8_worstOf_75 (by decide) ?_
                  exact ih_29  (k + 1) (hm ||| 2 ^ k) (by omega) (by first | exact Nat.zero_le _ | omega) (by subst eh; simp [hsF, c_20, nc_20, c_33, nc_33, c_44, c_44b, c_60, c_60b]) _ (lv_sub hl [2, 3, 4, 5, 6, 7, 1, 0] rfl)
        exact hloop_29 ((64 - 0) + 1) 0 0 (Nat.lt_succ_self _) (by exact Nat.zero_le _) (by rfl) _ (lv_sub hl [2, 3, 4, 5, 6, 7, 1, 0] rfl)
  exact hloop_14 ((T - 0) + 1) 0 0 (pcN sm 64) (Nat.lt_succ_self _) (by exact Nat.zero_le _) (by rfl) (by rfl) _ (lv_sub hl [4, 5, 3, 2, 1, 0] rfl)

set_option maxHeartbeats 4000000 in
set_option maxRecDepth 100000 in
theorem c_X8_wo_9 (l : Launch) (D : va_G) (cI cJ cZ cO : ClassId) (z : Nat) (a0 : Nat) (a1 : Nat) (a2 : Nat) (a3 : Nat) (a4 : Nat) (a5 : Nat) (a6 : Nat) (a7 : Nat) (a8 : Nat) (a9 : Nat) (a10 : Nat) (a11 : Nat) (a12 : Nat) (a13 : Nat) (a14 : Nat) (a15 : Nat) (T : Nat) (P : Nat) (pa : Int32) (kn : Int32) (rn : Nat) (ln : Nat) (th : Int32) (wt : Int32) (rr : Nat → Nat) (sm : Nat) (fq : Nat) (q : Nat) (hT : T ≤ 12) (hs : sm < 2 ^ 64) (hrt : ∀ k, k < 64 → sm.testBit k = true → rr k < 2 ^ T) (hrr : ∀ k, rr k < 4096) (hfu : fq = 12 - 9) (hsp : spN (mCt sm rr) ≤ fq) (hq : q = WN fq (mCt sm rr)) : kR l D (kTY cI cJ cZ cO) yX8_worstOf wsX8_worstOf 4 114 [.ref z, .long (lN sm)] [(z, .inr (9, [.ref a0, .ref a1, .int (nI T), .ref a2, .ref a3, .ref a4, .ref a5, .ref a6, .int (nI P), .int pa, .int kn, .ref a7, .int (nI rn), .ref a8, .ref a9, .int (nI ln), .ref a10, .int th, .ref a11, .ref a12, .int wt, .ref a13, .ref a14, .ref a15])), (a15, .inl (cI, 64, .inl (nF rr)))] (fun rv_ => rv_ = some (.int (nI q))) := by
  refine kEnterR (cc := cX8_worstOf) (maxL := 12) (ret := (some .int)) (by decide) rfl (Nat.le_of_ble_eq_true rfl) ?_
  intro p e s m args below meth c hx hb hr hml hts hown hlk hK hP ls hl
  have hl : lv_has ls 12 [(0, .ref z), (1, .long (lN sm))] := hl
  have hw_f66 := hts (.fieldLink RX8 66 "WhatToReadModel" "topics" "I") (by decide +kernel)
  have hi_X8 : ∀ w ∈ wsX80, w ∈ wsX8_worstOf := by decide +kernel
  have hw_f60 := hts (.fieldLink RX8 60 "WhatToReadModel" "row64" "[I") (by decide +kernel)
  refine lv_lload_n hx hb dX8_worstOf_0 rfl (lv_at hl 1 rfl) ?_
  refine kGoR (va_runS (As := [.long (lN sm)]) (rest := []) ⟨hx, hb, hml, hown, hts⟩ (c_J13_bitCount_95d88 l D cI cJ cZ cO sm (hs)) (va_cwS 1 hts gX8_worstOf_J13_bitCount_95d88 rfl rfl rfl (by decide +kernel) ⟨Nat.le_of_ble_eq_true rfl, Nat.le_of_ble_eq_true rfl⟩) (kPreSR hK (kPc_sub hP [] rfl)) rfl rfl hl.1 rfl (lv_room (Nat.le_of_ble_eq_true rfl)) dX8_worstOf_1 ⟨Nat.le_of_ble_eq_true rfl, Nat.le_of_ble_eq_true rfl⟩) (fun v_1 hv_1 => ?_)
  obtain rfl := hv_1
  refine W.eq (g2 := F0 m 4 ls [.int (nI (pcN sm 64))]) rfl ?_
  refine lv_istore_n (lv' := [(3, .int (nI (pcN sm 64))), (0, .ref z), (1, .long (lN sm))]) hx hb dX8_worstOf_4 rfl hl (by decide) rfl (fun ls hl => ?_)
  refine lv_lconst (v := 0) hx hb dX8_worstOf_5 (by decide) ?_
  refine lv_topl (fun nv_2 ev_2 => ?_)
  obtain rfl : nv_2 = lN 0 := ev_2.trans (rfl)
  refine lv_lstore (lv' := [(4, .long (lN 0)), (3, .int (nI (pcN sm 64))), (0, .ref z), (1, .long (lN sm))]) hx hb dX8_worstOf_6 hl (by decide) rfl (fun ls hl => ?_)
  refine lv_iload_n hx hb dX8_worstOf_8 rfl (lv_at hl 1 rfl) ?_
  refine lv_istore (lv' := [(6, .int (nI (pcN sm 64))), (4, .long (lN 0)), (3, .int (nI (pcN sm 64))), (0, .ref z), (1, .long (lN sm))]) hx hb dX8_worstOf_9 hl (by decide) rfl (fun ls hl => ?_)
  refine lv_iconst (v := 0) hx hb dX8_worstOf_11 (by decide) ?_
  refine lv_istore (lv' := [(7, .int 0), (6, .int (nI (pcN sm 64))), (4, .long (lN 0)), (3, .int (nI (pcN sm 64))), (0, .ref z), (1, .long (lN sm))]) hx hb dX8_worstOf_12 hl (by decide) rfl (fun ls hl => ?_)
  have hloop_14 : ∀ (fu : Nat) (t : Nat) (bm : Nat) (le : Nat), T - t < fu → t ≤ T → bm = (wsF sm rr (pcN sm 64) t).1 → le = (wsF sm rr (pcN sm 64) t).2 → ∀ ls : Array Slot, lv_has ls 12 [(0, .ref z), (1, .long (lN sm)), (3, .int (nI (pcN sm 64))), (4, .long (lN bm)), (6, .int (nI le)), (7, .int (nI t))] → W p l e ({ frames := 4, cells := 0, slots := 0, locals := 114 }) s m args below meth c s.heap [] 0 0 (MQ below (kQr (fun rv_ => rv_ = some (.int (nI q)))) args s 0 0 (fun _ => False)) (F0 m 14 ls []) := by
    intro fu
    induction fu with
    | zero => intro t bm le hmu; exact absurd hmu (Nat.not_lt_zero _)
    | succ fu ih_14 =>
      intro t bm le hmu_14 ht eb el ls hl
      have hal := pcN_le sm 64
      have hmle := hs_le sm rr t
      have hl2 := ws2_le sm rr (pcN sm 64) t
      refine lv_iload hx hb dX8_worstOf_14 (lv_at hl 5 rfl) ?_
      refine lv_aload_n hx hb dX8_worstOf_16 rfl (lv_at hl 0 rfl) ?_
      refine va_get (D := D) (ci := 9) (v := .int (nI T)) (C := RX8) (T := TX8) (N := 24) hx hb hts hi_X8 hown hK.1 hP 0 rfl rfl 2 (by decide) hw_f66 (fun _ h9 => h9) rfl dX8_worstOf_17 ?_
      refine lv_icmp_ge (tgt := 129) hx hb dX8_worstOf_20 (by decide) (fun c_20 => ?_) (fun c_20 => ?_)
      · skip
        have nc_20 : T ≤ t := (nI_leI (a := T) (b := t) (by omega) (by omega)).mp c_20
        have e13 : t = T := by omega
        have hle2 : le ≤ pcN sm 64 := by rw [el]; exact ws2_le sm rr _ t
        obtain ⟨wq, hwq⟩ : ∃ wq, wq = wsF sm rr (pcN sm 64) T := ⟨_, rfl⟩
        rw [e13, ← hwq] at eb el
        have hwe := ws_end hT hrt hwq
        refine lv_iload hx hb dX8_worstOf_129 (lv_at hl 4 rfl) ?_
        refine lv_iload_n hx hb dX8_worstOf_131 rfl (lv_at hl 2 rfl) ?_
        refine lv_icmp_ne (tgt := 137) hx hb dX8_worstOf_132 (by decide) (fun c_132 => ?_) (fun c_132 => ?_)
        · skip
          have nc_132 : ¬ le = (pcN sm 64) := (not_congr (nI_eq (a := le) (b := pcN sm 64) (by omega) (by omega))).mp c_132
          obtain ⟨w1, w2, w3, w4, w5, w6, w7⟩ := hwe.2 (by omega)
          obtain ⟨fd, hfd⟩ : ∃ fd, fq = fd + 1 := ⟨fq - 1, by omega⟩
          obtain ⟨q1, hq1⟩ : ∃ q1, q1 = WN fd (mCt wq.1 rr) := ⟨_, rfl⟩
          obtain ⟨q2, hq2⟩ : ∃ q2, q2 = WN fd (mCt (andn sm wq.1) rr) := ⟨_, rfl⟩
          have hq1l : q1 ≤ fd := by rw [hq1]; exact WN_le _ _
          have hq2l : q2 ≤ fd := by rw [hq2]; exact WN_le _ _
          have hfin0 : q = 1 + max q2 q1 := by rw [hq, hfd, w7 fd, hq1, hq2]
          refine lv_aload_n hx hb dX8_worstOf_137 rfl (lv_at hl 0 rfl) ?_
          refine lv_lload hx hb dX8_worstOf_138 (lv_at hl 3 rfl) ?_
          refine kGoR (va_runV (As := [.long (lN bm)]) (rest := []) ⟨hx, hb, hml, hown, hts⟩ (c_X8_wo_10 l D cI cJ cZ cO z a0 a1 a2 a3 a4 a5 a6 a7 a8 a9 a10 a11 a12 a13 a14 a15 T P pa kn rn ln th wt rr bm fd q1 (by first | assumption | omega | decide) (by rw [eb]; exact w1) (by rw [eb]; exact w2) (hrr) (by omega) (by rw [eb]; omega) (by rw [hq1, eb])) (cwV 1 hts gX8_worstOf_X8_worstOf rfl rfl rfl (by decide +kernel) ⟨Nat.le_of_ble_eq_true rfl, Nat.le_of_ble_eq_true rfl⟩) (kPreVR (ci := 9) (q0 := 0) hK (kPc_sub hP [0, 1] rfl) rfl rfl rfl) rfl rfl hl.1 rfl (lv_room (Nat.le_of_ble_eq_true rfl)) dX8_worstOf_140 ⟨Nat.le_of_ble_eq_true rfl, Nat.le_of_ble_eq_true rfl⟩) (fun v_3 hv_3 => ?_)
          obtain rfl := hv_3
          refine W.eq (g2 := F0 m 143 ls [.int (nI q1)]) rfl ?_
          refine lv_istore (lv' := [(7, .int (nI q1)), (0, .ref z), (1, .long (lN sm)), (3, .int (nI (pcN sm 64))), (4, .long (lN bm)), (6, .int (nI le))]) hx hb dX8_worstOf_143 hl (by decide) rfl (fun ls hl => ?_)
          refine lv_aload_n hx hb dX8_worstOf_145 rfl (lv_at hl 1 rfl) ?_
          refine lv_lload_n hx hb dX8_worstOf_146 rfl (lv_at hl 2 rfl) ?_
          refine lv_lload hx hb dX8_worstOf_147 (lv_at hl 4 rfl) ?_
          refine lv_ldc2 (v := (-1)) hx hb hown (hts (.constantLong RX8 143 (-1)) (by decide +kernel)) dX8_worstOf_149 ?_
          refine lv_lxor hx hb dX8_worstOf_152 ?_
          refine lv_land hx hb dX8_worstOf_153 ?_
          refine lv_topl (fun nv_4 ev_4 => ?_)
          obtain rfl : nv_4 = lN (andn sm bm) := ev_4.trans (lx_andn hs (by rw [eb, hwq]; exact ws1_lt sm rr _ T))
          refine kGoR (va_runV (As := [.long (lN (andn sm bm))]) (rest := []) ⟨hx, hb, hml, hown, hts⟩ (c_X8_wo_10 l D cI cJ cZ cO z a0 a1 a2 a3 a4 a5 a6 a7 a8 a9 a10 a11 a12 a13 a14 a15 T P pa kn rn ln th wt rr (andn sm bm) fd q2 (by first | assumption | omega | decide) (Nat.lt_of_le_of_lt (andn_le _ _) hs) (by rw [eb]; exact w3) (hrr) (by omega) (by rw [eb]; omega) (by rw [hq2, eb])) (cwV 1 hts gX8_worstOf_X8_worstOf rfl rfl rfl (by decide +kernel) ⟨Nat.le_of_ble_eq_true rfl, Nat.le_of_ble_eq_true rfl⟩) (kPreVR (ci := 9) (q0 := 0) hK (kPc_sub hP [0, 1] rfl) rfl rfl rfl) rfl rfl hl.1 rfl (lv_room (Nat.le_of_ble_eq_true rfl)) dX8_worstOf_154 ⟨Nat.le_of_ble_eq_true rfl, Nat.le_of_ble_eq_true rfl⟩) (fun v_5 hv_5 => ?_)
          obtain rfl := hv_5
          refine W.eq (g2 := F0 m 157 ls [.int (nI q2)]) rfl ?_
          refine lv_istore (lv' := [(8, .int (nI q2)), (7, .int (nI q1)), (0, .ref z), (1, .long (lN sm)), (3, .int (nI (pcN sm 64))), (4, .long (lN bm)), (6, .int (nI le))]) hx hb dX8_worstOf_157 hl (by decide) rfl (fun ls hl => ?_)
          refine lv_iconst (v := 1) hx hb dX8_worstOf_159 (by decide) ?_
          refine lv_iload hx hb dX8_worstOf_160 (lv_at hl 1 rfl) ?_
          refine lv_iload hx hb dX8_worstOf_162 (lv_at hl 0 rfl) ?_
          refine lv_icmp_le (tgt := 172) hx hb dX8_worstOf_164 (by decide) (fun c_164 => ?_) (fun c_164 => ?_)
          · skip
            have nc_164 : q1 ≤ q2 := (nI_leI (a := q1) (b := q2) (by omega) (by omega)).mp c_164
            have hfin : (1 : Int32) + nI q2 = nI q := by rw [hfin0, show max q2 q1 = q2 by omega]; exact nI_add 1 _
            refine lv_iload hx hb dX8_worstOf_172 (lv_at hl 0 rfl) ?_
            refine lv_iadd hx hb dX8_worstOf_174 ?_
            exact kRetIr hx hb hr hlk dX8_worstOf_175 (kpi (by first | (rw [hq, hwe.1 (by omega)]; rfl) | (rw [hfin]; done)))
          · skip
            have nc_164 : ¬ q1 ≤ q2 := (not_congr (nI_leI (a := q1) (b := q2) (by omega) (by omega))).mp c_164
            have hfin : (1 : Int32) + nI q1 = nI q := by rw [hfin0, show max q2 q1 = q1 by omega]; exact nI_add 1 _
            refine lv_iload hx hb dX8_worstOf_167 (lv_at hl 1 rfl) ?_
            refine lv_goto (tgt := 174) hx hb dX8_worstOf_169 (by decide) ?_
            refine lv_iadd hx hb dX8_worstOf_174 ?_
            exact kRetIr hx hb hr hlk dX8_worstOf_175 (kpi (by first | (rw [hq, hwe.1 (by omega)]; rfl) | (rw [hfin]; done)))
        · skip
          have nc_132 : le = (pcN sm 64) := (nI_eq (a := le) (b := pcN sm 64) (by omega) (by omega)).mp c_132
          refine lv_iconst (v := 0) hx hb dX8_worstOf_135 (by decide) ?_
          exact kRetIr hx hb hr hlk dX8_worstOf_136 (kpi (by first | (rw [hq, hwe.1 (by omega)]; rfl) | (rw [hfin]; done)))
      · skip
        have nc_20 : ¬ T ≤ t := (not_congr (nI_leI (a := T) (b := t) (by omega) (by omega))).mp c_20
        refine lv_lconst (v := 0) hx hb dX8_worstOf_23 (by decide) ?_
        refine lv_topl (fun nv_6 ev_6 => ?_)
        obtain rfl : nv_6 = lN 0 := ev_6.trans (rfl)
        refine lv_lstore (lv' := [(8, .long (lN 0)), (0, .ref z), (1, .long (lN sm)), (3, .int (nI (pcN sm 64))), (4, .long (lN bm)), (6, .int (nI le)), (7, .int (nI t))]) hx hb dX8_worstOf_24 hl (by decide) rfl (fun ls hl => ?_)
        refine lv_iconst (v := 0) hx hb dX8_worstOf_26 (by decide) ?_
        refine lv_istore (lv' := [(10, .int 0), (8, .long (lN 0)), (0, .ref z), (1, .long (lN sm)), (3, .int (nI (pcN sm 64))), (4, .long (lN bm)), (6, .int (nI le)), (7, .int (nI t))]) hx hb dX8_worstOf_27 hl (by decide) rfl (fun ls hl => ?_)
        have hloop_29 : ∀ (fu : Nat) (k : Nat) (hm : Nat), 64 - k < fu → k ≤ 64 → hm = hsF sm rr t k → ∀ ls : Array Slot, lv_has ls 12 [(0, .ref z), (1, .long (lN sm)), (3, .int (nI (pcN sm 64))), (4, .long (lN bm)), (6, .int (nI le)), (7, .int (nI t)), (8, .long (lN hm)), (10, .int (nI k))] → W p l e ({ frames := 4, cells := 0, slots := 0, locals := 114 }) s m args below meth c s.heap [] 0 0 (MQ below (kQr (fun rv_ => rv_ = some (.int (nI q)))) args s 0 0 (fun _ => False)) (F0 m 29 ls []) := by
          intro fu
          induction fu with
          | zero => intro k hm hmu; exact absurd hmu (Nat.not_lt_zero _)
          | succ fu ih_29 =>
            intro k hm hmu_29 hk eh ls hl
            refine lv_iload hx hb dX8_worstOf_29 (lv_at hl 7 rfl) ?_
            refine lv_bipush (v := 64) hx hb dX8_worstOf_31 (by decide) ?_
            refine lv_icmp_ge (tgt := 78) hx hb dX8_worstOf_33 (by decide) (fun c_33 => ?_) (fun c_33 => ?_)
            · skip
              have nc_33 : 64 ≤ k := (nI_leI (a := 64) (b := k) (by omega) (by omega)).mp c_33
              have e12 : k = 64 := by omega
              rw [show (lN hm : Int64) = lN (hsF sm rr t 64) from by rw [eh, e12]] at hl
              refine lv_lload hx hb dX8_worstOf_78 (lv_at hl 6 rfl) ?_
              refine kGoR (va_runS (As := [.long (lN (hsF sm rr t 64))]) (rest := []) ⟨hx, hb, hml, hown, hts⟩ (c_J13_bitCount_95d88 l D cI cJ cZ cO (hsF sm rr t 64) (hs_lt64 sm rr t (Nat.le_refl _))) (va_cwS 1 hts gX8_worstOf_J13_bitCount_95d88 rfl rfl rfl (by decide +kernel) ⟨Nat.le_of_ble_eq_true rfl, Nat.le_of_ble_eq_true rfl⟩) (kPreSR hK (kPc_sub hP [] rfl)) rfl rfl hl.1 rfl (lv_room (Nat.le_of_ble_eq_true rfl)) dX8_worstOf_80 ⟨Nat.le_of_ble_eq_true rfl, Nat.le_of_ble_eq_true rfl⟩) (fun v_7 hv_7 => ?_)
              obtain rfl := hv_7
              refine W.eq (g2 := F0 m 83 ls [.int (nI (pcN (hsF sm rr t 64) 64))]) rfl ?_
              refine lv_istore (lv' := [(10, .int (nI (pcN (hsF sm rr t 64) 64))), (0, .ref z), (1, .long (lN sm)), (3, .int (nI (pcN sm 64))), (4, .long (lN bm)), (6, .int (nI le)), (7, .int (nI t)), (8, .long (lN (hsF sm rr t 64)))]) hx hb dX8_worstOf_83 hl (by decide) rfl (fun ls hl => ?_)
              refine lv_iload hx hb dX8_worstOf_85 (lv_at hl 0 rfl) ?_
              refine lv_iload_n hx hb dX8_worstOf_87 rfl (lv_at hl 3 rfl) ?_
              refine lv_iload hx hb dX8_worstOf_88 (lv_at hl 0 rfl) ?_
              refine lv_isub hx hb dX8_worstOf_90 ?_
              refine lv_topi (fun nv_8 ev_8 => ?_)
              obtain rfl : nv_8 = nI (pcN sm 64 - pcN (hsF sm rr t 64) 64) := ev_8.trans (pk_sub hmle)
              refine lv_icmp_le (tgt := 99) hx hb dX8_worstOf_91 (by decide) (fun c_91 => ?_) (fun c_91 => ?_)
              · skip
                have nc_91 : (pcN (hsF sm rr t 64) 64) ≤ (pcN sm 64 - pcN (hsF sm rr t 64) 64) := (nI_leI (a := pcN (hsF sm rr t 64) 64) (b := pcN sm 64 - pcN (hsF sm rr t 64) 64) (by omega) (by omega)).mp c_91
                refine lv_iload_n hx hb dX8_worstOf_99 rfl (lv_at hl 3 rfl) ?_
                refine lv_iload hx hb dX8_worstOf_100 (lv_at hl 0 rfl) ?_
                refine lv_isub hx hb dX8_worstOf_102 ?_
                refine lv_topi (fun nv_9 ev_9 => ?_)
                obtain rfl : nv_9 = nI (pcN sm 64 - pcN (hsF sm rr t 64) 64) := ev_9.trans (pk_sub hmle)
                refine lv_istore (lv' := [(11, .int (nI (pcN sm 64 - pcN (hsF sm rr t 64) 64))), (10, .int (nI (pcN (hsF sm rr t 64) 64))), (0, .ref z), (1, .long (lN sm)), (3, .int (nI (pcN sm 64))), (4, .long (lN bm)), (6, .int (nI le)), (7, .int (nI t)), (8, .long (lN (hsF sm rr t 64)))]) hx hb dX8_worstOf_103 hl (by decide) rfl (fun ls hl => ?_)
                refine lv_iload hx hb dX8_worstOf_105 (lv_at hl 0 rfl) ?_
                refine lv_iload hx hb dX8_worstOf_107 (lv_at hl 6 rfl) ?_
                refine lv_icmp_lt (tgt := 115) hx hb dX8_worstOf_109 (by decide) (fun c_109 => ?_) (fun c_109 => ?_)
                · skip
                  have nc_109 : (pcN sm 64 - pcN (hsF sm rr t 64) 64) < le := (nI_ltI (a := pcN sm 64 - pcN (hsF sm rr t 64) 64) (b := le) (by omega) (by omega)).mp c_109
                  refine lv_iload hx hb dX8_worstOf_115 (lv_at hl 0 rfl) ?_
                  refine lv_istore (lv' := [(6, .int (nI (pcN sm 64 - pcN (hsF sm rr t 64) 64))), (11, .int (nI (pcN sm 64 - pcN (hsF sm rr t 64) 64))), (10, .int (nI (pcN (hsF sm rr t 64) 64))), (0, .ref z), (1, .long (lN sm)), (3, .int (nI (pcN sm 64))), (4, .long (lN bm)), (7, .int (nI t)), (8, .long (lN (hsF sm rr t 64)))]) hx hb dX8_worstOf_117 hl (by decide) rfl (fun ls hl => ?_)
                  refine lv_lload hx hb dX8_worstOf_119 (lv_at hl 8 rfl) ?_
                  refine lv_lstore (lv' := [(4, .long (lN (hsF sm rr t 64))), (6, .int (nI (pcN sm 64 - pcN (hsF sm rr t 64) 64))), (11, .int (nI (pcN sm 64 - pcN (hsF sm rr t 64) 64))), (10, .int (nI (pcN (hsF sm rr t 64) 64))), (0, .ref z), (1, .long (lN sm)), (3, .int (nI (pcN sm 64))), (7, .int (nI t)), (8, .long (lN (hsF sm rr t 64)))]) hx hb dX8_worstOf_121 hl (by decide) rfl (fun ls hl => ?_)
                  refine lv_iinc (v := nI (t + 1)) (lv' := [(7, .int (nI (t + 1))), (4, .long (lN (hsF sm rr t 64))), (6, .int (nI (pcN sm 64 - pcN (hsF sm rr t 64) 64))), (11, .int (nI (pcN sm 64 - pcN (hsF sm rr t 64) 64))), (10, .int (nI (pcN (hsF sm rr t 64) 64))), (0, .ref z), (1, .long (lN sm)), (3, .int (nI (pcN sm 64))), (8, .long (lN (hsF sm rr t 64)))]) hx hb dX8_worstOf_123 hl (k := 7) rfl (nI_1 _) (by decide) rfl (fun ls hl => ?_)
                  refine lv_goto (tgt := 14) hx hb dX8_worstOf_126 (by decide) ?_
                  exact ih_14  (t + 1) (hsF sm rr t 64) (pcN sm 64 - pcN (hsF sm rr t 64) 64) (by omega) (by first | exact Nat.zero_le _ | omega) (by first | (subst eb; subst el; simp [wsF, moreW, c_20, nc_20, c_33, nc_33, c_91, nc_91, c_109, nc_109]; done) | (subst eb; subst el; simp [wsF, moreW, c_20, nc_20, c_33, nc_33, c_91, nc_91, c_109, nc_109]; omega)) (by first | (subst eb; subst el; simp [wsF, moreW, c_20, nc_20, c_33, nc_33, c_91, nc_91, c_109, nc_109]; done) | (subst eb; subst el; simp [wsF, moreW, c_20, nc_20, c_33, nc_33, c_91, nc_91, c_109, nc_109]; omega)) _ (lv_sub hl [5, 6, 7, 1, 2, 0] rfl)
                · skip
                  have nc_109 : ¬ (pcN sm 64 - pcN (hsF sm rr t 64) 64) < le := (not_congr (nI_ltI (a := pcN sm 64 - pcN (hsF sm rr t 64) 64) (b := le) (by omega) (by omega))).mp c_109
                  refine lv_goto (tgt := 123) hx hb dX8_worstOf_112 (by decide) ?_
                  refine lv_iinc (v := nI (t + 1)) (lv' := [(7, .int (nI (t + 1))), (11, .int (nI (pcN sm 64 - pcN (hsF sm rr t 64) 64))), (10, .int (nI (pcN (hsF sm rr t 64) 64))), (0, .ref z), (1, .long (lN sm)), (3, .int (nI (pcN sm 64))), (4, .long (lN bm)), (6, .int (nI le)), (8, .long (lN (hsF sm rr t 64)))]) hx hb dX8_worstOf_123 hl (k := 7) rfl (nI_1 _) (by decide) rfl (fun ls hl => ?_)
                  refine lv_goto (tgt := 14) hx hb dX8_worstOf_126 (by decide) ?_
                  exact ih_14  (t + 1) bm le (by omega) (by first | exact Nat.zero_le _ | omega) (by first | (subst eb; subst el; simp [wsF, moreW, c_20, nc_20, c_33, nc_33, c_91, nc_91, c_109, nc_109]; done) | (subst eb; subst el; simp [wsF, moreW, c_20, nc_20, c_33, nc_33, c_91, nc_91, c_109, nc_109]; omega)) (by first | (subst eb; subst el; simp [wsF, moreW, c_20, nc_20, c_33, nc_33, c_91, nc_91, c_109, nc_109]; done) | (subst eb; subst el; simp [wsF, moreW, c_20, nc_20, c_33, nc_33, c_91, nc_91, c_109, nc_109]; omega)) _ (lv_sub hl [3, 4, 5, 6, 7, 0] rfl)
              · skip
                have nc_91 : ¬ (pcN (hsF sm rr t 64) 64) ≤ (pcN sm 64 - pcN (hsF sm rr t 64) 64) := (not_congr (nI_leI (a := pcN (hsF sm rr t 64) 64) (b := pcN sm 64 - pcN (hsF sm rr t 64) 64) (by omega) (by omega))).mp c_91
                refine lv_iload hx hb dX8_worstOf_94 (lv_at hl 0 rfl) ?_
                refine lv_goto (tgt := 103) hx hb dX8_worstOf_96 (by decide) ?_
                refine lv_istore (lv' := [(11, .int (nI (pcN (hsF sm rr t 64) 64))), (10, .int (nI (pcN (hsF sm rr t 64) 64))), (0, .ref z), (1, .long (lN sm)), (3, .int (nI (pcN sm 64))), (4, .long (lN bm)), (6, .int (nI le)), (7, .int (nI t)), (8, .long (lN (hsF sm rr t 64)))]) hx hb dX8_worstOf_103 hl (by decide) rfl (fun ls hl => ?_)
                refine lv_iload hx hb dX8_worstOf_105 (lv_at hl 0 rfl) ?_
                refine lv_iload hx hb dX8_worstOf_107 (lv_at hl 6 rfl) ?_
                refine lv_icmp_lt (tgt := 115) hx hb dX8_worstOf_109 (by decide) (fun c_109 => ?_) (fun c_109 => ?_)
                · skip
                  have nc_109 : (pcN (hsF sm rr t 64) 64) < le := (nI_ltI (a := pcN (hsF sm rr t 64) 64) (b := le) (by omega) (by omega)).mp c_109
                  refine lv_iload hx hb dX8_worstOf_115 (lv_at hl 0 rfl) ?_
                  refine lv_istore (lv' := [(6, .int (nI (pcN (hsF sm rr t 64) 64))), (11, .int (nI (pcN (hsF sm rr t 64) 64))), (10, .int (nI (pcN (hsF sm rr t 64) 64))), (0, .ref z), (1, .long (lN sm)), (3, .int (nI (pcN sm 64))), (4, .long (lN bm)), (7, .int (nI t)), (8, .long (lN (hsF sm rr t 64)))]) hx hb dX8_worstOf_117 hl (by decide) rfl (fun ls hl => ?_)
                  refine lv_lload hx hb dX8_worstOf_119 (lv_at hl 8 rfl) ?_
                  refine lv_lstore (lv' := [(4, .long (lN (hsF sm rr t 64))), (6, .int (nI (pcN (hsF sm rr t 64) 64))), (11, .int (nI (pcN (hsF sm rr t 64) 64))), (10, .int (nI (pcN (hsF sm rr t 64) 64))), (0, .ref z), (1, .long (lN sm)), (3, .int (nI (pcN sm 64))), (7, .int (nI t)), (8, .long (lN (hsF sm rr t 64)))]) hx hb dX8_worstOf_121 hl (by decide) rfl (fun ls hl => ?_)
                  refine lv_iinc (v := nI (t + 1)) (lv' := [(7, .int (nI (t + 1))), (4, .long (lN (hsF sm rr t 64))), (6, .int (nI (pcN (hsF sm rr t 64) 64))), (11, .int (nI (pcN (hsF sm rr t 64) 64))), (10, .int (nI (pcN (hsF sm rr t 64) 64))), (0, .ref z), (1, .long (lN sm)), (3, .int (nI (pcN sm 64))), (8, .long (lN (hsF sm rr t 64)))]) hx hb dX8_worstOf_123 hl (k := 7) rfl (nI_1 _) (by decide) rfl (fun ls hl => ?_)
                  refine lv_goto (tgt := 14) hx hb dX8_worstOf_126 (by decide) ?_
                  exact ih_14  (t + 1) (hsF sm rr t 64) (pcN (hsF sm rr t 64) 64) (by omega) (by first | exact Nat.zero_le _ | omega) (by first | (subst eb; subst el; simp [wsF, moreW, c_20, nc_20, c_33, nc_33, c_91, nc_91, c_109, nc_109]; done) | (subst eb; subst el; simp [wsF, moreW, c_20, nc_20, c_33, nc_33, c_91, nc_91, c_109, nc_109]; omega)) (by first | (subst eb; subst el; simp [wsF, moreW, c_20, nc_20, c_33, nc_33, c_91, nc_91, c_109, nc_109]; done) | (subst eb; subst el; simp [wsF, moreW, c_20, nc_20, c_33, nc_33, c_91, nc_91, c_109, nc_109]; omega)) _ (lv_sub hl [5, 6, 7, 1, 2, 0] rfl)
                · skip
                  have nc_109 : ¬ (pcN (hsF sm rr t 64) 64) < le := (not_congr (nI_ltI (a := pcN (hsF sm rr t 64) 64) (b := le) (by omega) (by omega))).mp c_109
                  refine lv_goto (tgt := 123) hx hb dX8_worstOf_112 (by decide) ?_
                  refine lv_iinc (v := nI (t + 1)) (lv' := [(7, .int (nI (t + 1))), (11, .int (nI (pcN (hsF sm rr t 64) 64))), (10, .int (nI (pcN (hsF sm rr t 64) 64))), (0, .ref z), (1, .long (lN sm)), (3, .int (nI (pcN sm 64))), (4, .long (lN bm)), (6, .int (nI le)), (8, .long (lN (hsF sm rr t 64)))]) hx hb dX8_worstOf_123 hl (k := 7) rfl (nI_1 _) (by decide) rfl (fun ls hl => ?_)
                  refine lv_goto (tgt := 14) hx hb dX8_worstOf_126 (by decide) ?_
                  exact ih_14  (t + 1) bm le (by omega) (by first | exact Nat.zero_le _ | omega) (by first | (subst eb; subst el; simp [wsF, moreW, c_20, nc_20, c_33, nc_33, c_91, nc_91, c_109, nc_109]; done) | (subst eb; subst el; simp [wsF, moreW, c_20, nc_20, c_33, nc_33, c_91, nc_91, c_109, nc_109]; omega)) (by first | (subst eb; subst el; simp [wsF, moreW, c_20, nc_20, c_33, nc_33, c_91, nc_91, c_109, nc_109]; done) | (subst eb; subst el; simp [wsF, moreW, c_20, nc_20, c_33, nc_33, c_91, nc_91, c_109, nc_109]; omega)) _ (lv_sub hl [3, 4, 5, 6, 7, 0] rfl)
            · skip
              have nc_33 : ¬ 64 ≤ k := (not_congr (nI_leI (a := 64) (b := k) (by omega) (by omega))).mp c_33
              refine lv_lload_n hx hb dX8_worstOf_36 rfl (lv_at hl 1 rfl) ?_
              refine lv_iload hx hb dX8_worstOf_37 (lv_at hl 7 rfl) ?_
              refine lv_lshr hx hb dX8_worstOf_39 rfl ?_
              refine lv_lconst (v := 1) hx hb dX8_worstOf_40 (by decide) ?_
              refine lv_land hx hb dX8_worstOf_41 ?_
              refine lv_topl (fun nv_10 ev_10 => ?_)
              obtain rfl : nv_10 = lN (if sm.testBit k then 1 else 0) := ev_10.trans (lx_bit (by omega))
              refine lv_lconst (v := 1) hx hb dX8_worstOf_42 (by decide) ?_
              refine W.lcmp hx hb dX8_worstOf_43 ?_
              refine lv_if_ne (tgt := 72) hx hb dX8_worstOf_44 (by decide) (fun c_44 => ?_) (fun c_44 => ?_)
              · skip
                have c_44b : sm.testBit k = false := by cases hz : sm.testBit k with | false => rfl | true => exact absurd (lx_ne.mpr hz) c_44
                refine lv_iinc (v := nI (k + 1)) (lv' := [(10, .int (nI (k + 1))), (0, .ref z), (1, .long (lN sm)), (3, .int (nI (pcN sm 64))), (4, .long (lN bm)), (6, .int (nI le)), (7, .int (nI t)), (8, .long (lN hm))]) hx hb dX8_worstOf_72 hl (k := 7) rfl (nI_1 _) (by decide) rfl (fun ls hl => ?_)
                refine lv_goto (tgt := 29) hx hb dX8_worstOf_75 (by decide) ?_
                exact ih_29  (k + 1) hm (by omega) (by first | exact Nat.zero_le _ | omega) (by subst eh; simp [hsF, c_20, nc_20, c_33, nc_33, c_44, c_44b]) _ (lv_sub hl [1, 2, 3, 4, 5, 6, 7, 0] rfl)
              · skip
                have c_44b : sm.testBit k = true := lx_ne.mp c_44
                refine lv_aload_n hx hb dX8_worstOf_47 rfl (lv_at hl 0 rfl) ?_
                refine va_get (D := D) (ci := 9) (v := .ref a15) (C := RX8) (T := TX8) (N := 24) hx hb hts hi_X8 hown hK.1 hP 0 rfl rfl 23 (by decide) hw_f60 (fun _ h9 => h9) rfl dX8_worstOf_48 ?_
                refine lv_iload hx hb dX8_worstOf_51 (lv_at hl 7 rfl) ?_
                refine va_iald hx hb hK.1 hP 1 0 rfl rfl (vp_in_nI (by omega) (by omega)) dX8_worstOf_53 ?_
                refine lv_topi (fun nv_11 ev_11 => ?_)
                obtain rfl : nv_11 = (nF rr) k := by rw [ev_11, nI_clamp (by omega)]
                refine lv_topi (fun nv_12 ev_12 => ?_)
                obtain rfl : nv_12 = nI (rr k) := ev_12.trans (rfl)
                refine lv_iload hx hb dX8_worstOf_54 (lv_at hl 5 rfl) ?_
                refine lv_ishr hx hb dX8_worstOf_56 ?_
                refine lv_iconst (v := 1) hx hb dX8_worstOf_57 (by decide) ?_
                refine lv_iand hx hb dX8_worstOf_58 ?_
                refine lv_topi (fun nv_13 ev_13 => ?_)
                obtain rfl : nv_13 = k01 ((rr k).testBit t) := ev_13.trans (hx_k01 (by have := hrr k; omega) (by omega))
                refine lv_iconst (v := 1) hx hb dX8_worstOf_59 (by decide) ?_
                refine lv_icmp_ne (tgt := 72) hx hb dX8_worstOf_60 (by decide) (fun c_60 => ?_) (fun c_60 => ?_)
                · skip
                  have c_60b : (rr k).testBit t = false := by cases hz : (rr k).testBit t with | false => rfl | true => exact absurd (by rw [hz]; rfl) c_60
                  refine lv_iinc (v := nI (k + 1)) (lv' := [(10, .int (nI (k + 1))), (0, .ref z), (1, .long (lN sm)), (3, .int (nI (pcN sm 64))), (4, .long (lN bm)), (6, .int (nI le)), (7, .int (nI t)), (8, .long (lN hm))]) hx hb dX8_worstOf_72 hl (k := 7) rfl (nI_1 _) (by decide) rfl (fun ls hl => ?_)
                  refine lv_goto (tgt := 29) hx hb dX8_worstOf_75 (by decide) ?_
                  exact ih_29  (k + 1) hm (by omega) (by first | exact Nat.zero_le _ | omega) (by subst eh; simp [hsF, c_20, nc_20, c_33, nc_33, c_44, c_44b, c_60, c_60b]) _ (lv_sub hl [1, 2, 3, 4, 5, 6, 7, 0] rfl)
                · skip
                  have c_60b : (rr k).testBit t = true := by cases hz : (rr k).testBit t with | true => rfl | false => exact absurd c_60 (by rw [hz]; decide)
                  refine lv_lload hx hb dX8_worstOf_63 (lv_at hl 6 rfl) ?_
                  refine lv_lconst (v := 1) hx hb dX8_worstOf_65 (by decide) ?_
                  refine lv_iload hx hb dX8_worstOf_66 (lv_at hl 7 rfl) ?_
                  refine lv_lshl hx hb dX8_worstOf_68 rfl ?_
                  refine lv_topl (fun nv_14 ev_14 => ?_)
                  obtain rfl : nv_14 = lN (2 ^ k) := ev_14.trans (lx_pow (by omega))
                  refine lv_lor hx hb dX8_worstOf_69 ?_
                  refine lv_topl (fun nv_15 ev_15 => ?_)
                  obtain rfl : nv_15 = lN (hm ||| 2 ^ k) := ev_15.trans (lx_or (by rw [eh]; exact hs_lt64 sm rr t (by omega)) (by omega))
                  refine lv_lstore (lv' := [(8, .long (lN (hm ||| 2 ^ k))), (0, .ref z), (1, .long (lN sm)), (3, .int (nI (pcN sm 64))), (4, .long (lN bm)), (6, .int (nI le)), (7, .int (nI t)), (10, .int (nI k))]) hx hb dX8_worstOf_70 hl (by decide) rfl (fun ls hl => ?_)
                  refine lv_iinc (v := nI (k + 1)) (lv' := [(10, .int (nI (k + 1))), (8, .long (lN (hm ||| 2 ^ k))), (0, .ref z), (1, .long (lN sm)), (3, .int (nI (pcN sm 64))), (4, .long (lN bm)), (6, .int (nI le)), (7, .int (nI t))]) hx hb dX8_worstOf_72 hl (k := 7) rfl (nI_1 _) (by decide) rfl (fun ls hl => ?_)
                  refine lv_goto (tgt := 29) hx hb dX8_worstOf_75 (by decide) ?_
                  exact ih_29  (k + 1) (hm ||| 2 ^ k) (by omega) (by first | exact Nat.zero_le _ | omega) (by subst eh; simp [hsF, c_20, nc_20, c_33, nc_33, c_44, c_44b, c_60, c_60b]) _ (lv_sub hl [2, 3, 4, 5, 6, 7, 1, 0] rfl)
        exact hloop_29 ((64 - 0) + 1) 0 0 (Nat.lt_succ_self _) (by exact Nat.zero_le _) (by rfl) _ (lv_sub hl [2, 3, 4, 5, 6, 7, 1, 0] rfl)
  exact hloop_14 ((T - 0) + 1) 0 0 (pcN sm 64) (Nat.lt_succ_self _) (by exact Nat.zero_le _) (by rfl) (by rfl) _ (lv_sub hl [4, 5, 3, 2, 1, 0] rfl)

set_option maxHeartbeats 4000000 in
set_option maxRecDepth 100000 in
theorem c_X8_wo_8 (l : Launch) (D : va_G) (cI cJ cZ cO : ClassId) (z : Nat) (a0 : Nat) (a1 : Nat) (a2 : Nat) (a3 : Nat) (a4 : Nat) (a5 : Nat) (a6 : Nat) (a7 : Nat) (a8 : Nat) (a9 : Nat) (a10 : Nat) (a11 : Nat) (a12 : Nat) (a13 : Nat) (a14 : Nat) (a15 : Nat) (T : Nat) (P : Nat) (pa : Int32) (kn : Int32) (rn : Nat) (ln : Nat) (th : Int32) (wt : Int32) (rr : Nat → Nat) (sm : Nat) (fq : Nat) (q : Nat) (hT : T ≤ 12) (hs : sm < 2 ^ 64) (hrt : ∀ k, k < 64 → sm.testBit k = true → rr k < 2 ^ T) (hrr : ∀ k, rr k < 4096) (hfu : fq = 12 - 8) (hsp : spN (mCt sm rr) ≤ fq) (hq : q = WN fq (mCt sm rr)) : kR l D (kTY cI cJ cZ cO) yX8_worstOf wsX8_worstOf 5 145 [.ref z, .long (lN sm)] [(z, .inr (9, [.ref a0, .ref a1, .int (nI T), .ref a2, .ref a3, .ref a4, .ref a5, .ref a6, .int (nI P), .int pa, .int kn, .ref a7, .int (nI rn), .ref a8, .ref a9, .int (nI ln), .ref a10, .int th, .ref a11, .ref a12, .int wt, .ref a13, .ref a14, .ref a15])), (a15, .inl (cI, 64, .inl (nF rr)))] (fun rv_ => rv_ = some (.int (nI q))) := by
  refine kEnterR (cc := cX8_worstOf) (maxL := 12) (ret := (some .int)) (by decide) rfl (Nat.le_of_ble_eq_true rfl) ?_
  intro p e s m args below meth c hx hb hr hml hts hown hlk hK hP ls hl
  have hl : lv_has ls 12 [(0, .ref z), (1, .long (lN sm))] := hl
  have hw_f66 := hts (.fieldLink RX8 66 "WhatToReadModel" "topics" "I") (by decide +kernel)
  have hi_X8 : ∀ w ∈ wsX80, w ∈ wsX8_worstOf := by decide +kernel
  have hw_f60 := hts (.fieldLink RX8 60 "WhatToReadModel" "row64" "[I") (by decide +kernel)
  refine lv_lload_n hx hb dX8_worstOf_0 rfl (lv_at hl 1 rfl) ?_
  refine kGoR (va_runS (As := [.long (lN sm)]) (rest := []) ⟨hx, hb, hml, hown, hts⟩ (c_J13_bitCount_95d88 l D cI cJ cZ cO sm (hs)) (va_cwS 1 hts gX8_worstOf_J13_bitCount_95d88 rfl rfl rfl (by decide +kernel) ⟨Nat.le_of_ble_eq_true rfl, Nat.le_of_ble_eq_true rfl⟩) (kPreSR hK (kPc_sub hP [] rfl)) rfl rfl hl.1 rfl (lv_room (Nat.le_of_ble_eq_true rfl)) dX8_worstOf_1 ⟨Nat.le_of_ble_eq_true rfl, Nat.le_of_ble_eq_true rfl⟩) (fun v_1 hv_1 => ?_)
  obtain rfl := hv_1
  refine W.eq (g2 := F0 m 4 ls [.int (nI (pcN sm 64))]) rfl ?_
  refine lv_istore_n (lv' := [(3, .int (nI (pcN sm 64))), (0, .ref z), (1, .long (lN sm))]) hx hb dX8_worstOf_4 rfl hl (by decide) rfl (fun ls hl => ?_)
  refine lv_lconst (v := 0) hx hb dX8_worstOf_5 (by decide) ?_
  refine lv_topl (fun nv_2 ev_2 => ?_)
  obtain rfl : nv_2 = lN 0 := ev_2.trans (rfl)
  refine lv_lstore (lv' := [(4, .long (lN 0)), (3, .int (nI (pcN sm 64))), (0, .ref z), (1, .long (lN sm))]) hx hb dX8_worstOf_6 hl (by decide) rfl (fun ls hl => ?_)
  refine lv_iload_n hx hb dX8_worstOf_8 rfl (lv_at hl 1 rfl) ?_
  refine lv_istore (lv' := [(6, .int (nI (pcN sm 64))), (4, .long (lN 0)), (3, .int (nI (pcN sm 64))), (0, .ref z), (1, .long (lN sm))]) hx hb dX8_worstOf_9 hl (by decide) rfl (fun ls hl => ?_)
  refine lv_iconst (v := 0) hx hb dX8_worstOf_11 (by decide) ?_
  refine lv_istore (lv' := [(7, .int 0), (6, .int (nI (pcN sm 64))), (4, .long (lN 0)), (3, .int (nI (pcN sm 64))), (0, .ref z), (1, .long (lN sm))]) hx hb dX8_worstOf_12 hl (by decide) rfl (fun ls hl => ?_)
  have hloop_14 : ∀ (fu : Nat) (t : Nat) (bm : Nat) (le : Nat), T - t < fu → t ≤ T → bm = (wsF sm rr (pcN sm 64) t).1 → le = (wsF sm rr (pcN sm 64) t).2 → ∀ ls : Array Slot, lv_has ls 12 [(0, .ref z), (1, .long (lN sm)), (3, .int (nI (pcN sm 64))), (4, .long (lN bm)), (6, .int (nI le)), (7, .int (nI t))] → W p l e ({ frames := 5, cells := 0, slots := 0, locals := 145 }) s m args below meth c s.heap [] 0 0 (MQ below (kQr (fun rv_ => rv_ = some (.int (nI q)))) args s 0 0 (fun _ => False)) (F0 m 14 ls []) := by
    intro fu
    induction fu with
    | zero => intro t bm le hmu; exact absurd hmu (Nat.not_lt_zero _)
    | succ fu ih_14 =>
      intro t bm le hmu_14 ht eb el ls hl
      have hal := pcN_le sm 64
      have hmle := hs_le sm rr t
      have hl2 := ws2_le sm rr (pcN sm 64) t
      refine lv_iload hx hb dX8_worstOf_14 (lv_at hl 5 rfl) ?_
      refine lv_aload_n hx hb dX8_worstOf_16 rfl (lv_at hl 0 rfl) ?_
      refine va_get (D := D) (ci := 9) (v := .int (nI T)) (C := RX8) (T := TX8) (N := 24) hx hb hts hi_X8 hown hK.1 hP 0 rfl rfl 2 (by decide) hw_f66 (fun _ h9 => h9) rfl dX8_worstOf_17 ?_
      refine lv_icmp_ge (tgt := 129) hx hb dX8_worstOf_20 (by decide) (fun c_20 => ?_) (fun c_20 => ?_)
      · skip
        have nc_20 : T ≤ t := (nI_leI (a := T) (b := t) (by omega) (by omega)).mp c_20
        have e13 : t = T := by omega
        have hle2 : le ≤ pcN sm 64 := by rw [el]; exact ws2_le sm rr _ t
        obtain ⟨wq, hwq⟩ : ∃ wq, wq = wsF sm rr (pcN sm 64) T := ⟨_, rfl⟩
        rw [e13, ← hwq] at eb el
        have hwe := ws_end hT hrt hwq
        refine lv_iload hx hb dX8_worstOf_129 (lv_at hl 4 rfl) ?_
        refine lv_iload_n hx hb dX8_worstOf_131 rfl (lv_at hl 2 rfl) ?_
        refine lv_icmp_ne (tgt := 137) hx hb dX8_worstOf_132 (by decide) (fun c_132 => ?_) (fun c_132 => ?_)
        · skip
          have nc_132 : ¬ le = (pcN sm 64) := (not_congr (nI_eq (a := le) (b := pcN sm 64) (by omega) (by omega))).mp c_132
          obtain ⟨w1, w2, w3, w4, w5, w6, w7⟩ := hwe.2 (by omega)
          obtain ⟨fd, hfd⟩ : ∃ fd, fq = fd + 1 := ⟨fq - 1, by omega⟩
          obtain ⟨q1, hq1⟩ : ∃ q1, q1 = WN fd (mCt wq.1 rr) := ⟨_, rfl⟩
          obtain ⟨q2, hq2⟩ : ∃ q2, q2 = WN fd (mCt (andn sm wq.1) rr) := ⟨_, rfl⟩
          have hq1l : q1 ≤ fd := by rw [hq1]; exact WN_le _ _
          have hq2l : q2 ≤ fd := by rw [hq2]; exact WN_le _ _
          have hfin0 : q = 1 + max q2 q1 := by rw [hq, hfd, w7 fd, hq1, hq2]
          refine lv_aload_n hx hb dX8_worstOf_137 rfl (lv_at hl 0 rfl) ?_
          refine lv_lload hx hb dX8_worstOf_138 (lv_at hl 3 rfl) ?_
          refine kGoR (va_runV (As := [.long (lN bm)]) (rest := []) ⟨hx, hb, hml, hown, hts⟩ (c_X8_wo_9 l D cI cJ cZ cO z a0 a1 a2 a3 a4 a5 a6 a7 a8 a9 a10 a11 a12 a13 a14 a15 T P pa kn rn ln th wt rr bm fd q1 (by first | assumption | omega | decide) (by rw [eb]; exact w1) (by rw [eb]; exact w2) (hrr) (by omega) (by rw [eb]; omega) (by rw [hq1, eb])) (cwV 1 hts gX8_worstOf_X8_worstOf rfl rfl rfl (by decide +kernel) ⟨Nat.le_of_ble_eq_true rfl, Nat.le_of_ble_eq_true rfl⟩) (kPreVR (ci := 9) (q0 := 0) hK (kPc_sub hP [0, 1] rfl) rfl rfl rfl) rfl rfl hl.1 rfl (lv_room (Nat.le_of_ble_eq_true rfl)) dX8_worstOf_140 ⟨Nat.le_of_ble_eq_true rfl, Nat.le_of_ble_eq_true rfl⟩) (fun v_3 hv_3 => ?_)
          obtain rfl := hv_3
          refine W.eq (g2 := F0 m 143 ls [.int (nI q1)]) rfl ?_
          refine lv_istore (lv' := [(7, .int (nI q1)), (0, .ref z), (1, .long (lN sm)), (3, .int (nI (pcN sm 64))), (4, .long (lN bm)), (6, .int (nI le))]) hx hb dX8_worstOf_143 hl (by decide) rfl (fun ls hl => ?_)
          refine lv_aload_n hx hb dX8_worstOf_145 rfl (lv_at hl 1 rfl) ?_
          refine lv_lload_n hx hb dX8_worstOf_146 rfl (lv_at hl 2 rfl) ?_
          refine lv_lload hx hb dX8_worstOf_147 (lv_at hl 4 rfl) ?_
          refine lv_ldc2 (v := (-1)) hx hb hown (hts (.constantLong RX8 143 (-1)) (by decide +kernel)) dX8_worstOf_149 ?_
          refine lv_lxor hx hb dX8_worstOf_152 ?_
          refine lv_land hx hb dX8_worstOf_153 ?_
          refine lv_topl (fun nv_4 ev_4 => ?_)
          obtain rfl : nv_4 = lN (andn sm bm) := ev_4.trans (lx_andn hs (by rw [eb, hwq]; exact ws1_lt sm rr _ T))
          refine kGoR (va_runV (As := [.long (lN (andn sm bm))]) (rest := []) ⟨hx, hb, hml, hown, hts⟩ (c_X8_wo_9 l D cI cJ cZ cO z a0 a1 a2 a3 a4 a5 a6 a7 a8 a9 a10 a11 a12 a13 a14 a15 T P pa kn rn ln th wt rr (andn sm bm) fd q2 (by first | assumption | omega | decide) (Nat.lt_of_le_of_lt (andn_le _ _) hs) (by rw [eb]; exact w3) (hrr) (by omega) (by rw [eb]; omega) (by rw [hq2, eb])) (cwV 1 hts gX8_worstOf_X8_worstOf rfl rfl rfl (by decide +kernel) ⟨Nat.le_of_ble_eq_true rfl, Nat.le_of_ble_eq_true rfl⟩) (kPreVR (ci := 9) (q0 := 0) hK (kPc_sub hP [0, 1] rfl) rfl rfl rfl) rfl rfl hl.1 rfl (lv_room (Nat.le_of_ble_eq_true rfl)) dX8_worstOf_154 ⟨Nat.le_of_ble_eq_true rfl, Nat.le_of_ble_eq_true rfl⟩) (fun v_5 hv_5 => ?_)
          obtain rfl := hv_5
          refine W.eq (g2 := F0 m 157 ls [.int (nI q2)]) rfl ?_
          refine lv_istore (lv' := [(8, .int (nI q2)), (7, .int (nI q1)), (0, .ref z), (1, .long (lN sm)), (3, .int (nI (pcN sm 64))), (4, .long (lN bm)), (6, .int (nI le))]) hx hb dX8_worstOf_157 hl (by decide) rfl (fun ls hl => ?_)
          refine lv_iconst (v := 1) hx hb dX8_worstOf_159 (by decide) ?_
          refine lv_iload hx hb dX8_worstOf_160 (lv_at hl 1 rfl) ?_
          refine lv_iload hx hb dX8_worstOf_162 (lv_at hl 0 rfl) ?_
          refine lv_icmp_le (tgt := 172) hx hb dX8_worstOf_164 (by decide) (fun c_164 => ?_) (fun c_164 => ?_)
          · skip
            have nc_164 : q1 ≤ q2 := (nI_leI (a := q1) (b := q2) (by omega) (by omega)).mp c_164
            have hfin : (1 : Int32) + nI q2 = nI q := by rw [hfin0, show max q2 q1 = q2 by omega]; exact nI_add 1 _
            refine lv_iload hx hb dX8_worstOf_172 (lv_at hl 0 rfl) ?_
            refine lv_iadd hx hb dX8_worstOf_174 ?_
            exact kRetIr hx hb hr hlk dX8_worstOf_175 (kpi (by first | (rw [hq, hwe.1 (by omega)]; rfl) | (rw [hfin]; done)))
          · skip
            have nc_164 : ¬ q1 ≤ q2 := (not_congr (nI_leI (a := q1) (b := q2) (by omega) (by omega))).mp c_164
            have hfin : (1 : Int32) + nI q1 = nI q := by rw [hfin0, show max q2 q1 = q1 by omega]; exact nI_add 1 _
            refine lv_iload hx hb dX8_worstOf_167 (lv_at hl 1 rfl) ?_
            refine lv_goto (tgt := 174) hx hb dX8_worstOf_169 (by decide) ?_
            refine lv_iadd hx hb dX8_worstOf_174 ?_
            exact kRetIr hx hb hr hlk dX8_worstOf_175 (kpi (by first | (rw [hq, hwe.1 (by omega)]; rfl) | (rw [hfin]; done)))
        · skip
          have nc_132 : le = (pcN sm 64) := (nI_eq (a := le) (b := pcN sm 64) (by omega) (by omega)).mp c_132
          refine lv_iconst (v := 0) hx hb dX8_worstOf_135 (by decide) ?_
          exact kRetIr hx hb hr hlk dX8_worstOf_136 (kpi (by first | (rw [hq, hwe.1 (by omega)]; rfl) | (rw [hfin]; done)))
      · skip
        have nc_20 : ¬ T ≤ t := (not_congr (nI_leI (a := T) (b := t) (by omega) (by omega))).mp c_20
        refine lv_lconst (v := 0) hx hb dX8_worstOf_23 (by decide) ?_
        refine lv_topl (fun nv_6 ev_6 => ?_)
        obtain rfl : nv_6 = lN 0 := ev_6.trans (rfl)
        refine lv_lstore (lv' := [(8, .long (lN 0)), (0, .ref z), (1, .long (lN sm)), (3, .int (nI (pcN sm 64))), (4, .long (lN bm)), (6, .int (nI le)), (7, .int (nI t))]) hx hb dX8_worstOf_24 hl (by decide) rfl (fun ls hl => ?_)
        refine lv_iconst (v := 0) hx hb dX8_worstOf_26 (by decide) ?_
        refine lv_istore (lv' := [(10, .int 0), (8, .long (lN 0)), (0, .ref z), (1, .long (lN sm)), (3, .int (nI (pcN sm 64))), (4, .long (lN bm)), (6, .int (nI le)), (7, .int (nI t))]) hx hb dX8_worstOf_27 hl (by decide) rfl (fun ls hl => ?_)
        have hloop_29 : ∀ (fu : Nat) (k : Nat) (hm : Nat), 64 - k < fu → k ≤ 64 → hm = hsF sm rr t k → ∀ ls : Array Slot, lv_has ls 12 [(0, .ref z), (1, .long (lN sm)), (3, .int (nI (pcN sm 64))), (4, .long (lN bm)), (6, .int (nI le)), (7, .int (nI t)), (8, .long (lN hm)), (10, .int (nI k))] → W p l e ({ frames := 5, cells := 0, slots := 0, locals := 145 }) s m args below meth c s.heap [] 0 0 (MQ below (kQr (fun rv_ => rv_ = some (.int (nI q)))) args s 0 0 (fun _ => False)) (F0 m 29 ls []) := by
          intro fu
          induction fu with
          | zero => intro k hm hmu; exact absurd hmu (Nat.not_lt_zero _)
          | succ fu ih_29 =>
            intro k hm hmu_29 hk eh ls hl
            refine lv_iload hx hb dX8_worstOf_29 (lv_at hl 7 rfl) ?_
            refine lv_bipush (v := 64) hx hb dX8_worstOf_31 (by decide) ?_
            refine lv_icmp_ge (tgt := 78) hx hb dX8_worstOf_33 (by decide) (fun c_33 => ?_) (fun c_33 => ?_)
            · skip
              have nc_33 : 64 ≤ k := (nI_leI (a := 64) (b := k) (by omega) (by omega)).mp c_33
              have e12 : k = 64 := by omega
              rw [show (lN hm : Int64) = lN (hsF sm rr t 64) from by rw [eh, e12]] at hl
              refine lv_lload hx hb dX8_worstOf_78 (lv_at hl 6 rfl) ?_
              refine kGoR (va_runS (As := [.long (lN (hsF sm rr t 64))]) (rest := []) ⟨hx, hb, hml, hown, hts⟩ (c_J13_bitCount_95d88 l D cI cJ cZ cO (hsF sm rr t 64) (hs_lt64 sm rr t (Nat.le_refl _))) (va_cwS 1 hts gX8_worstOf_J13_bitCount_95d88 rfl rfl rfl (by decide +kernel) ⟨Nat.le_of_ble_eq_true rfl, Nat.le_of_ble_eq_true rfl⟩) (kPreSR hK (kPc_sub hP [] rfl)) rfl rfl hl.1 rfl (lv_room (Nat.le_of_ble_eq_true rfl)) dX8_worstOf_80 ⟨Nat.le_of_ble_eq_true rfl, Nat.le_of_ble_eq_true rfl⟩) (fun v_7 hv_7 => ?_)
              obtain rfl := hv_7
              refine W.eq (g2 := F0 m 83 ls [.int (nI (pcN (hsF sm rr t 64) 64))]) rfl ?_
              refine lv_istore (lv' := [(10, .int (nI (pcN (hsF sm rr t 64) 64))), (0, .ref z), (1, .long (lN sm)), (3, .int (nI (pcN sm 64))), (4, .long (lN bm)), (6, .int (nI le)), (7, .int (nI t)), (8, .long (lN (hsF sm rr t 64)))]) hx hb dX8_worstOf_83 hl (by decide) rfl (fun ls hl => ?_)
              refine lv_iload hx hb dX8_worstOf_85 (lv_at hl 0 rfl) ?_
              refine lv_iload_n hx hb dX8_worstOf_87 rfl (lv_at hl 3 rfl) ?_
              refine lv_iload hx hb dX8_worstOf_88 (lv_at hl 0 rfl) ?_
              refine lv_isub hx hb dX8_worstOf_90 ?_
              refine lv_topi (fun nv_8 ev_8 => ?_)
              obtain rfl : nv_8 = nI (pcN sm 64 - pcN (hsF sm rr t 64) 64) := ev_8.trans (pk_sub hmle)
              refine lv_icmp_le (tgt := 99) hx hb dX8_worstOf_91 (by decide) (fun c_91 => ?_) (fun c_91 => ?_)
              · skip
                have nc_91 : (pcN (hsF sm rr t 64) 64) ≤ (pcN sm 64 - pcN (hsF sm rr t 64) 64) := (nI_leI (a := pcN (hsF sm rr t 64) 64) (b := pcN sm 64 - pcN (hsF sm rr t 64) 64) (by omega) (by omega)).mp c_91
                refine lv_iload_n hx hb dX8_worstOf_99 rfl (lv_at hl 3 rfl) ?_
                refine lv_iload hx hb dX8_worstOf_100 (lv_at hl 0 rfl) ?_
                refine lv_isub hx hb dX8_worstOf_102 ?_
                refine lv_topi (fun nv_9 ev_9 => ?_)
                obtain rfl : nv_9 = nI (pcN sm 64 - pcN (hsF sm rr t 64) 64) := ev_9.trans (pk_sub hmle)
                refine lv_istore (lv' := [(11, .int (nI (pcN sm 64 - pcN (hsF sm rr t 64) 64))), (10, .int (nI (pcN (hsF sm rr t 64) 64))), (0, .ref z), (1, .long (lN sm)), (3, .int (nI (pcN sm 64))), (4, .long (lN bm)), (6, .int (nI le)), (7, .int (nI t)), (8, .long (lN (hsF sm rr t 64)))]) hx hb dX8_worstOf_103 hl (by decide) rfl (fun ls hl => ?_)
                refine lv_iload hx hb dX8_worstOf_105 (lv_at hl 0 rfl) ?_
                refine lv_iload hx hb dX8_worstOf_107 (lv_at hl 6 rfl) ?_
                refine lv_icmp_lt (tgt := 115) hx hb dX8_worstOf_109 (by decide) (fun c_109 => ?_) (fun c_109 => ?_)
                · skip
                  have nc_109 : (pcN sm 64 - pcN (hsF sm rr t 64) 64) < le := (nI_ltI (a := pcN sm 64 - pcN (hsF sm rr t 64) 64) (b := le) (by omega) (by omega)).mp c_109
                  refine lv_iload hx hb dX8_worstOf_115 (lv_at hl 0 rfl) ?_
                  refine lv_istore (lv' := [(6, .int (nI (pcN sm 64 - pcN (hsF sm rr t 64) 64))), (11, .int (nI (pcN sm 64 - pcN (hsF sm rr t 64) 64))), (10, .int (nI (pcN (hsF sm rr t 64) 64))), (0, .ref z), (1, .long (lN sm)), (3, .int (nI (pcN sm 64))), (4, .long (lN bm)), (7, .int (nI t)), (8, .long (lN (hsF sm rr t 64)))]) hx hb dX8_worstOf_117 hl (by decide) rfl (fun ls hl => ?_)
                  refine lv_lload hx hb dX8_worstOf_119 (lv_at hl 8 rfl) ?_
                  refine lv_lstore (lv' := [(4, .long (lN (hsF sm rr t 64))), (6, .int (nI (pcN sm 64 - pcN (hsF sm rr t 64) 64))), (11, .int (nI (pcN sm 64 - pcN (hsF sm rr t 64) 64))), (10, .int (nI (pcN (hsF sm rr t 64) 64))), (0, .ref z), (1, .long (lN sm)), (3, .int (nI (pcN sm 64))), (7, .int (nI t)), (8, .long (lN (hsF sm rr t 64)))]) hx hb dX8_worstOf_121 hl (by decide) rfl (fun ls hl => ?_)
                  refine lv_iinc (v := nI (t + 1)) (lv' := [(7, .int (nI (t + 1))), (4, .long (lN (hsF sm rr t 64))), (6, .int (nI (pcN sm 64 - pcN (hsF sm rr t 64) 64))), (11, .int (nI (pcN sm 64 - pcN (hsF sm rr t 64) 64))), (10, .int (nI (pcN (hsF sm rr t 64) 64))), (0, .ref z), (1, .long (lN sm)), (3, .int (nI (pcN sm 64))), (8, .long (lN (hsF sm rr t 64)))]) hx hb dX8_worstOf_123 hl (k := 7) rfl (nI_1 _) (by decide) rfl (fun ls hl => ?_)
                  refine lv_goto (tgt := 14) hx hb dX8_worstOf_126 (by decide) ?_
                  exact ih_14  (t + 1) (hsF sm rr t 64) (pcN sm 64 - pcN (hsF sm rr t 64) 64) (by omega) (by first | exact Nat.zero_le _ | omega) (by first | (subst eb; subst el; simp [wsF, moreW, c_20, nc_20, c_33, nc_33, c_91, nc_91, c_109, nc_109]; done) | (subst eb; subst el; simp [wsF, moreW, c_20, nc_20, c_33, nc_33, c_91, nc_91, c_109, nc_109]; omega)) (by first | (subst eb; subst el; simp [wsF, moreW, c_20, nc_20, c_33, nc_33, c_91, nc_91, c_109, nc_109]; done) | (subst eb; subst el; simp [wsF, moreW, c_20, nc_20, c_33, nc_33, c_91, nc_91, c_109, nc_109]; omega)) _ (lv_sub hl [5, 6, 7, 1, 2, 0] rfl)
                · skip
                  have nc_109 : ¬ (pcN sm 64 - pcN (hsF sm rr t 64) 64) < le := (not_congr (nI_ltI (a := pcN sm 64 - pcN (hsF sm rr t 64) 64) (b := le) (by omega) (by omega))).mp c_109
                  refine lv_goto (tgt := 123) hx hb dX8_worstOf_112 (by decide) ?_
                  refine lv_iinc (v := nI (t + 1)) (lv' := [(7, .int (nI (t + 1))), (11, .int (nI (pcN sm 64 - pcN (hsF sm rr t 64) 64))), (10, .int (nI (pcN (hsF sm rr t 64) 64))), (0, .ref z), (1, .long (lN sm)), (3, .int (nI (pcN sm 64))), (4, .long (lN bm)), (6, .int (nI le)), (8, .long (lN (hsF sm rr t 64)))]) hx hb dX8_worstOf_123 hl (k := 7) rfl (nI_1 _) (by decide) rfl (fun ls hl => ?_)
                  refine lv_goto (tgt := 14) hx hb dX8_worstOf_126 (by decide) ?_
                  exact ih_14  (t + 1) bm le (by omega) (by first | exact Nat.zero_le _ | omega) (by first | (subst eb; subst el; simp [wsF, moreW, c_20, nc_20, c_33, nc_33, c_91, nc_91, c_109, nc_109]; done) | (subst eb; subst el; simp [wsF, moreW, c_20, nc_20, c_33, nc_33, c_91, nc_91, c_109, nc_109]; omega)) (by first | (subst eb; subst el; simp [wsF, moreW, c_20, nc_20, c_33, nc_33, c_91, nc_91, c_109, nc_109]; done) | (subst eb; subst el; simp [wsF, moreW, c_20, nc_20, c_33, nc_33, c_91, nc_91, c_109, nc_109]; omega)) _ (lv_sub hl [3, 4, 5, 6, 7, 0] rfl)
              · skip
                have nc_91 : ¬ (pcN (hsF sm rr t 64) 64) ≤ (pcN sm 64 - pcN (hsF sm rr t 64) 64) := (not_congr (nI_leI (a := pcN (hsF sm rr t 64) 64) (b := pcN sm 64 - pcN (hsF sm rr t 64) 64) (by omega) (by omega))).mp c_91
                refine lv_iload hx hb dX8_worstOf_94 (lv_at hl 0 rfl) ?_
                refine lv_goto (tgt := 103) hx hb dX8_worstOf_96 (by decide) ?_
                refine lv_istore (lv' := [(11, .int (nI (pcN (hsF sm rr t 64) 64))), (10, .int (nI (pcN (hsF sm rr t 64) 64))), (0, .ref z), (1, .long (lN sm)), (3, .int (nI (pcN sm 64))), (4, .long (lN bm)), (6, .int (nI le)), (7, .int (nI t)), (8, .long (lN (hsF sm rr t 64)))]) hx hb dX8_worstOf_103 hl (by decide) rfl (fun ls hl => ?_)
                refine lv_iload hx hb dX8_worstOf_105 (lv_at hl 0 rfl) ?_
                refine lv_iload hx hb dX8_worstOf_107 (lv_at hl 6 rfl) ?_
                refine lv_icmp_lt (tgt := 115) hx hb dX8_worstOf_109 (by decide) (fun c_109 => ?_) (fun c_109 => ?_)
                · skip
                  have nc_109 : (pcN (hsF sm rr t 64) 64) < le := (nI_ltI (a := pcN (hsF sm rr t 64) 64) (b := le) (by omega) (by omega)).mp c_109
                  refine lv_iload hx hb dX8_worstOf_115 (lv_at hl 0 rfl) ?_
                  refine lv_istore (lv' := [(6, .int (nI (pcN (hsF sm rr t 64) 64))), (11, .int (nI (pcN (hsF sm rr t 64) 64))), (10, .int (nI (pcN (hsF sm rr t 64) 64))), (0, .ref z), (1, .long (lN sm)), (3, .int (nI (pcN sm 64))), (4, .long (lN bm)), (7, .int (nI t)), (8, .long (lN (hsF sm rr t 64)))]) hx hb dX8_worstOf_117 hl (by decide) rfl (fun ls hl => ?_)
                  refine lv_lload hx hb dX8_worstOf_119 (lv_at hl 8 rfl) ?_
                  refine lv_lstore (lv' := [(4, .long (lN (hsF sm rr t 64))), (6, .int (nI (pcN (hsF sm rr t 64) 64))), (11, .int (nI (pcN (hsF sm rr t 64) 64))), (10, .int (nI (pcN (hsF sm rr t 64) 64))), (0, .ref z), (1, .long (lN sm)), (3, .int (nI (pcN sm 64))), (7, .int (nI t)), (8, .long (lN (hsF sm rr t 64)))]) hx hb dX8_worstOf_121 hl (by decide) rfl (fun ls hl => ?_)
                  refine lv_iinc (v := nI (t + 1)) (lv' := [(7, .int (nI (t + 1))), (4, .long (lN (hsF sm rr t 64))), (6, .int (nI (pcN (hsF sm rr t 64) 64))), (11, .int (nI (pcN (hsF sm rr t 64) 64))), (10, .int (nI (pcN (hsF sm rr t 64) 64))), (0, .ref z), (1, .long (lN sm)), (3, .int (nI (pcN sm 64))), (8, .long (lN (hsF sm rr t 64)))]) hx hb dX8_worstOf_123 hl (k := 7) rfl (nI_1 _) (by decide) rfl (fun ls hl => ?_)
                  refine lv_goto (tgt := 14) hx hb dX8_worstOf_126 (by decide) ?_
                  exact ih_14  (t + 1) (hsF sm rr t 64) (pcN (hsF sm rr t 64) 64) (by omega) (by first | exact Nat.zero_le _ | omega) (by first | (subst eb; subst el; simp [wsF, moreW, c_20, nc_20, c_33, nc_33, c_91, nc_91, c_109, nc_109]; done) | (subst eb; subst el; simp [wsF, moreW, c_20, nc_20, c_33, nc_33, c_91, nc_91, c_109, nc_109]; omega)) (by first | (subst eb; subst el; simp [wsF, moreW, c_20, nc_20, c_33, nc_33, c_91, nc_91, c_109, nc_109]; done) | (subst eb; subst el; simp [wsF, moreW, c_20, nc_20, c_33, nc_33, c_91, nc_91, c_109, nc_109]; omega)) _ (lv_sub hl [5, 6, 7, 1, 2, 0] rfl)
                · skip
                  have nc_109 : ¬ (pcN (hsF sm rr t 64) 64) < le := (not_congr (nI_ltI (a := pcN (hsF sm rr t 64) 64) (b := le) (by omega) (by omega))).mp c_109
                  refine lv_goto (tgt := 123) hx hb dX8_worstOf_112 (by decide) ?_
                  refine lv_iinc (v := nI (t + 1)) (lv' := [(7, .int (nI (t + 1))), (11, .int (nI (pcN (hsF sm rr t 64) 64))), (10, .int (nI (pcN (hsF sm rr t 64) 64))), (0, .ref z), (1, .long (lN sm)), (3, .int (nI (pcN sm 64))), (4, .long (lN bm)), (6, .int (nI le)), (8, .long (lN (hsF sm rr t 64)))]) hx hb dX8_worstOf_123 hl (k := 7) rfl (nI_1 _) (by decide) rfl (fun ls hl => ?_)
                  refine lv_goto (tgt := 14) hx hb dX8_worstOf_126 (by decide) ?_
                  exact ih_14  (t + 1) bm le (by omega) (by first | exact Nat.zero_le _ | omega) (by first | (subst eb; subst el; simp [wsF, moreW, c_20, nc_20, c_33, nc_33, c_91, nc_91, c_109, nc_109]; done) | (subst eb; subst el; simp [wsF, moreW, c_20, nc_20, c_33, nc_33, c_91, nc_91, c_109, nc_109]; omega)) (by first | (subst eb; subst el; simp [wsF, moreW, c_20, nc_20, c_33, nc_33, c_91, nc_91, c_109, nc_109]; done) | (subst eb; subst el; simp [wsF, moreW, c_20, nc_20, c_33, nc_33, c_91, nc_91, c_109, nc_109]; omega)) _ (lv_sub hl [3, 4, 5, 6, 7, 0] rfl)
            · skip
              have nc_33 : ¬ 64 ≤ k := (not_congr (nI_leI (a := 64) (b := k) (by omega) (by omega))).mp c_33
              refine lv_lload_n hx hb dX8_worstOf_36 rfl (lv_at hl 1 rfl) ?_
              refine lv_iload hx hb dX8_worstOf_37 (lv_at hl 7 rfl) ?_
              refine lv_lshr hx hb dX8_worstOf_39 rfl ?_
              refine lv_lconst (v := 1) hx hb dX8_worstOf_40 (by decide) ?_
              refine lv_land hx hb dX8_worstOf_41 ?_
              refine lv_topl (fun nv_10 ev_10 => ?_)
              obtain rfl : nv_10 = lN (if sm.testBit k then 1 else 0) := ev_10.trans (lx_bit (by omega))
              refine lv_lconst (v := 1) hx hb dX8_worstOf_42 (by decide) ?_
              refine W.lcmp hx hb dX8_worstOf_43 ?_
              refine lv_if_ne (tgt := 72) hx hb dX8_worstOf_44 (by decide) (fun c_44 => ?_) (fun c_44 => ?_)
              · skip
                have c_44b : sm.testBit k = false := by cases hz : sm.testBit k with | false => rfl | true => exact absurd (lx_ne.mpr hz) c_44
                refine lv_iinc (v := nI (k + 1)) (lv' := [(10, .int (nI (k + 1))), (0, .ref z), (1, .long (lN sm)), (3, .int (nI (pcN sm 64))), (4, .long (lN bm)), (6, .int (nI le)), (7, .int (nI t)), (8, .long (lN hm))]) hx hb dX8_worstOf_72 hl (k := 7) rfl (nI_1 _) (by decide) rfl (fun ls hl => ?_)
                refine lv_goto (tgt := 29) hx hb dX8_worstOf_75 (by decide) ?_
                exact ih_29  (k + 1) hm (by omega) (by first | exact Nat.zero_le _ | omega) (by subst eh; simp [hsF, c_20, nc_20, c_33, nc_33, c_44, c_44b]) _ (lv_sub hl [1, 2, 3, 4, 5, 6, 7, 0] rfl)
              · skip
                have c_44b : sm.testBit k = true := lx_ne.mp c_44
                refine lv_aload_n hx hb dX8_worstOf_47 rfl (lv_at hl 0 rfl) ?_
                refine va_get (D := D) (ci := 9) (v := .ref a15) (C := RX8) (T := TX8) (N := 24) hx hb hts hi_X8 hown hK.1 hP 0 rfl rfl 23 (by decide) hw_f60 (fun _ h9 => h9) rfl dX8_worstOf_48 ?_
                refine lv_iload hx hb dX8_worstOf_51 (lv_at hl 7 rfl) ?_
                refine va_iald hx hb hK.1 hP 1 0 rfl rfl (vp_in_nI (by omega) (by omega)) dX8_worstOf_53 ?_
                refine lv_topi (fun nv_11 ev_11 => ?_)
                obtain rfl : nv_11 = (nF rr) k := by rw [ev_11, nI_clamp (by omega)]
                refine lv_topi (fun nv_12 ev_12 => ?_)
                obtain rfl : nv_12 = nI (rr k) := ev_12.trans (rfl)
                refine lv_iload hx hb dX8_worstOf_54 (lv_at hl 5 rfl) ?_
                refine lv_ishr hx hb dX8_worstOf_56 ?_
                refine lv_iconst (v := 1) hx hb dX8_worstOf_57 (by decide) ?_
                refine lv_iand hx hb dX8_worstOf_58 ?_
                refine lv_topi (fun nv_13 ev_13 => ?_)
                obtain rfl : nv_13 = k01 ((rr k).testBit t) := ev_13.trans (hx_k01 (by have := hrr k; omega) (by omega))
                refine lv_iconst (v := 1) hx hb dX8_worstOf_59 (by decide) ?_
                refine lv_icmp_ne (tgt := 72) hx hb dX8_worstOf_60 (by decide) (fun c_60 => ?_) (fun c_60 => ?_)
                · skip
                  have c_60b : (rr k).testBit t = false := by cases hz : (rr k).testBit t with | false => rfl | true => exact absurd (by rw [hz]; rfl) c_60
                  refine lv_iinc (v := nI (k + 1)) (lv' := [(10, .int (nI (k + 1))), (0, .ref z), (1, .long (lN sm)), (3, .int (nI (pcN sm 64))), (4, .long (lN bm)), (6, .int (nI le)), (7, .int (nI t)), (8, .long (lN hm))]) hx hb dX8_worstOf_72 hl (k := 7) rfl (nI_1 _) (by decide) rfl (fun ls hl => ?_)
                  refine lv_goto (tgt := 29) hx hb dX8_worstOf_75 (by decide) ?_
                  exact ih_29  (k + 1) hm (by omega) (by first | exact Nat.zero_le _ | omega) (by subst eh; simp [hsF, c_20, nc_20, c_33, nc_33, c_44, c_44b, c_60, c_60b]) _ (lv_sub hl [1, 2, 3, 4, 5, 6, 7, 0] rfl)
                · skip
                  have c_60b : (rr k).testBit t = true := by cases hz : (rr k).testBit t with | true => rfl | false => exact absurd c_60 (by rw [hz]; decide)
                  refine lv_lload hx hb dX8_worstOf_63 (lv_at hl 6 rfl) ?_
                  refine lv_lconst (v := 1) hx hb dX8_worstOf_65 (by decide) ?_
                  refine lv_iload hx hb dX8_worstOf_66 (lv_at hl 7 rfl) ?_
                  refine lv_lshl hx hb dX8_worstOf_68 rfl ?_
                  refine lv_topl (fun nv_14 ev_14 => ?_)
                  obtain rfl : nv_14 = lN (2 ^ k) := ev_14.trans (lx_pow (by omega))
                  refine lv_lor hx hb dX8_worstOf_69 ?_
                  refine lv_topl (fun nv_15 ev_15 => ?_)
                  obtain rfl : nv_15 = lN (hm ||| 2 ^ k) := ev_15.trans (lx_or (by rw [eh]; exact hs_lt64 sm rr t (by omega)) (by omega))
                  refine lv_lstore (lv' := [(8, .long (lN (hm ||| 2 ^ k))), (0, .ref z), (1, .long (lN sm)), (3, .int (nI (pcN sm 64))), (4, .long (lN bm)), (6, .int (nI le)), (7, .int (nI t)), (10, .int (nI k))]) hx hb dX8_worstOf_70 hl (by decide) rfl (fun ls hl => ?_)
                  refine lv_iinc (v := nI (k + 1)) (lv' := [(10, .int (nI (k + 1))), (8, .long (lN (hm ||| 2 ^ k))), (0, .ref z), (1, .long (lN sm)), (3, .int (nI (pcN sm 64))), (4, .long (lN bm)), (6, .int (nI le)), (7, .int (nI t))]) hx hb dX8_worstOf_72 hl (k := 7) rfl (nI_1 _) (by decide) rfl (fun ls hl => ?_)
                  refine lv_goto (tgt := 29) hx hb dX8_worstOf_75 (by decide) ?_
                  exact ih_29  (k + 1) (hm ||| 2 ^ k) (by omega) (by first | exact Nat.zero_le _ | omega) (by subst eh; simp [hsF, c_20, nc_20, c_33, nc_33, c_44, c_44b, c_60, c_60b]) _ (lv_sub hl [2, 3, 4, 5, 6, 7, 1, 0] rfl)
        exact hloop_29 ((64 - 0) + 1) 0 0 (Nat.lt_succ_self _) (by exact Nat.zero_le _) (by rfl) _ (lv_sub hl [2, 3, 4, 5, 6, 7, 1, 0] rfl)
  exact hloop_14 ((T - 0) + 1) 0 0 (pcN sm 64) (Nat.lt_succ_self _) (by exact Nat.zero_le _) (by rfl) (by rfl) _ (lv_sub hl [4, 5, 3, 2, 1, 0] rfl)

set_option maxHeartbeats 4000000 in
set_option maxRecDepth 100000 in
theorem c_X8_wo_7 (l : Launch) (D : va_G) (cI cJ cZ cO : ClassId) (z : Nat) (a0 : Nat) (a1 : Nat) (a2 : Nat) (a3 : Nat) (a4 : Nat) (a5 : Nat) (a6 : Nat) (a7 : Nat) (a8 : Nat) (a9 : Nat) (a10 : Nat) (a11 : Nat) (a12 : Nat) (a13 : Nat) (a14 : Nat) (a15 : Nat) (T : Nat) (P : Nat) (pa : Int32) (kn : Int32) (rn : Nat) (ln : Nat) (th : Int32) (wt : Int32) (rr : Nat → Nat) (sm : Nat) (fq : Nat) (q : Nat) (hT : T ≤ 12) (hs : sm < 2 ^ 64) (hrt : ∀ k, k < 64 → sm.testBit k = true → rr k < 2 ^ T) (hrr : ∀ k, rr k < 4096) (hfu : fq = 12 - 7) (hsp : spN (mCt sm rr) ≤ fq) (hq : q = WN fq (mCt sm rr)) : kR l D (kTY cI cJ cZ cO) yX8_worstOf wsX8_worstOf 6 176 [.ref z, .long (lN sm)] [(z, .inr (9, [.ref a0, .ref a1, .int (nI T), .ref a2, .ref a3, .ref a4, .ref a5, .ref a6, .int (nI P), .int pa, .int kn, .ref a7, .int (nI rn), .ref a8, .ref a9, .int (nI ln), .ref a10, .int th, .ref a11, .ref a12, .int wt, .ref a13, .ref a14, .ref a15])), (a15, .inl (cI, 64, .inl (nF rr)))] (fun rv_ => rv_ = some (.int (nI q))) := by
  refine kEnterR (cc := cX8_worstOf) (maxL := 12) (ret := (some .int)) (by decide) rfl (Nat.le_of_ble_eq_true rfl) ?_
  intro p e s m args below meth c hx hb hr hml hts hown hlk hK hP ls hl
  have hl : lv_has ls 12 [(0, .ref z), (1, .long (lN sm))] := hl
  have hw_f66 := hts (.fieldLink RX8 66 "WhatToReadModel" "topics" "I") (by decide +kernel)
  have hi_X8 : ∀ w ∈ wsX80, w ∈ wsX8_worstOf := by decide +kernel
  have hw_f60 := hts (.fieldLink RX8 60 "WhatToReadModel" "row64" "[I") (by decide +kernel)
  refine lv_lload_n hx hb dX8_worstOf_0 rfl (lv_at hl 1 rfl) ?_
  refine kGoR (va_runS (As := [.long (lN sm)]) (rest := []) ⟨hx, hb, hml, hown, hts⟩ (c_J13_bitCount_95d88 l D cI cJ cZ cO sm (hs)) (va_cwS 1 hts gX8_worstOf_J13_bitCount_95d88 rfl rfl rfl (by decide +kernel) ⟨Nat.le_of_ble_eq_true rfl, Nat.le_of_ble_eq_true rfl⟩) (kPreSR hK (kPc_sub hP [] rfl)) rfl rfl hl.1 rfl (lv_room (Nat.le_of_ble_eq_true rfl)) dX8_worstOf_1 ⟨Nat.le_of_ble_eq_true rfl, Nat.le_of_ble_eq_true rfl⟩) (fun v_1 hv_1 => ?_)
  obtain rfl := hv_1
  refine W.eq (g2 := F0 m 4 ls [.int (nI (pcN sm 64))]) rfl ?_
  refine lv_istore_n (lv' := [(3, .int (nI (pcN sm 64))), (0, .ref z), (1, .long (lN sm))]) hx hb dX8_worstOf_4 rfl hl (by decide) rfl (fun ls hl => ?_)
  refine lv_lconst (v := 0) hx hb dX8_worstOf_5 (by decide) ?_
  refine lv_topl (fun nv_2 ev_2 => ?_)
  obtain rfl : nv_2 = lN 0 := ev_2.trans (rfl)
  refine lv_lstore (lv' := [(4, .long (lN 0)), (3, .int (nI (pcN sm 64))), (0, .ref z), (1, .long (lN sm))]) hx hb dX8_worstOf_6 hl (by decide) rfl (fun ls hl => ?_)
  refine lv_iload_n hx hb dX8_worstOf_8 rfl (lv_at hl 1 rfl) ?_
  refine lv_istore (lv' := [(6, .int (nI (pcN sm 64))), (4, .long (lN 0)), (3, .int (nI (pcN sm 64))), (0, .ref z), (1, .long (lN sm))]) hx hb dX8_worstOf_9 hl (by decide) rfl (fun ls hl => ?_)
  refine lv_iconst (v := 0) hx hb dX8_worstOf_11 (by decide) ?_
  refine lv_istore (lv' := [(7, .int 0), (6, .int (nI (pcN sm 64))), (4, .long (lN 0)), (3, .int (nI (pcN sm 64))), (0, .ref z), (1, .long (lN sm))]) hx hb dX8_worstOf_12 hl (by decide) rfl (fun ls hl => ?_)
  have hloop_14 : ∀ (fu : Nat) (t : Nat) (bm : Nat) (le : Nat), T - t < fu → t ≤ T → bm = (wsF sm rr (pcN sm 64) t).1 → le = (wsF sm rr (pcN sm 64) t).2 → ∀ ls : Array Slot, lv_has ls 12 [(0, .ref z), (1, .long (lN sm)), (3, .int (nI (pcN sm 64))), (4, .long (lN bm)), (6, .int (nI le)), (7, .int (nI t))] → W p l e ({ frames := 6, cells := 0, slots := 0, locals := 176 }) s m args below meth c s.heap [] 0 0 (MQ below (kQr (fun rv_ => rv_ = some (.int (nI q)))) args s 0 0 (fun _ => False)) (F0 m 14 ls []) := by
    intro fu
    induction fu with
    | zero => intro t bm le hmu; exact absurd hmu (Nat.not_lt_zero _)
    | succ fu ih_14 =>
      intro t bm le hmu_14 ht eb el ls hl
      have hal := pcN_le sm 64
      have hmle := hs_le sm rr t
      have hl2 := ws2_le sm rr (pcN sm 64) t
      refine lv_iload hx hb dX8_worstOf_14 (lv_at hl 5 rfl) ?_
      refine lv_aload_n hx hb dX8_worstOf_16 rfl (lv_at hl 0 rfl) ?_
      refine va_get (D := D) (ci := 9) (v := .int (nI T)) (C := RX8) (T := TX8) (N := 24) hx hb hts hi_X8 hown hK.1 hP 0 rfl rfl 2 (by decide) hw_f66 (fun _ h9 => h9) rfl dX8_worstOf_17 ?_
      refine lv_icmp_ge (tgt := 129) hx hb dX8_worstOf_20 (by decide) (fun c_20 => ?_) (fun c_20 => ?_)
      · skip
        have nc_20 : T ≤ t := (nI_leI (a := T) (b := t) (by omega) (by omega)).mp c_20
        have e13 : t = T := by omega
        have hle2 : le ≤ pcN sm 64 := by rw [el]; exact ws2_le sm rr _ t
        obtain ⟨wq, hwq⟩ : ∃ wq, wq = wsF sm rr (pcN sm 64) T := ⟨_, rfl⟩
        rw [e13, ← hwq] at eb el
        have hwe := ws_end hT hrt hwq
        refine lv_iload hx hb dX8_worstOf_129 (lv_at hl 4 rfl) ?_
        refine lv_iload_n hx hb dX8_worstOf_131 rfl (lv_at hl 2 rfl) ?_
        refine lv_icmp_ne (tgt := 137) hx hb dX8_worstOf_132 (by decide) (fun c_132 => ?_) (fun c_132 => ?_)
        · skip
          have nc_132 : ¬ le = (pcN sm 64) := (not_congr (nI_eq (a := le) (b := pcN sm 64) (by omega) (by omega))).mp c_132
          obtain ⟨w1, w2, w3, w4, w5, w6, w7⟩ := hwe.2 (by omega)
          obtain ⟨fd, hfd⟩ : ∃ fd, fq = fd + 1 := ⟨fq - 1, by omega⟩
          obtain ⟨q1, hq1⟩ : ∃ q1, q1 = WN fd (mCt wq.1 rr) := ⟨_, rfl⟩
          obtain ⟨q2, hq2⟩ : ∃ q2, q2 = WN fd (mCt (andn sm wq.1) rr) := ⟨_, rfl⟩
          have hq1l : q1 ≤ fd := by rw [hq1]; exact WN_le _ _
          have hq2l : q2 ≤ fd := by rw [hq2]; exact WN_le _ _
          have hfin0 : q = 1 + max q2 q1 := by rw [hq, hfd, w7 fd, hq1, hq2]
          refine lv_aload_n hx hb dX8_worstOf_137 rfl (lv_at hl 0 rfl) ?_
          refine lv_lload hx hb dX8_worstOf_138 (lv_at hl 3 rfl) ?_
          refine kGoR (va_runV (As := [.long (lN bm)]) (rest := []) ⟨hx, hb, hml, hown, hts⟩ (c_X8_wo_8 l D cI cJ cZ cO z a0 a1 a2 a3 a4 a5 a6 a7 a8 a9 a10 a11 a12 a13 a14 a15 T P pa kn rn ln th wt rr bm fd q1 (by first | assumption | omega | decide) (by rw [eb]; exact w1) (by rw [eb]; exact w2) (hrr) (by omega) (by rw [eb]; omega) (by rw [hq1, eb])) (cwV 1 hts gX8_worstOf_X8_worstOf rfl rfl rfl (by decide +kernel) ⟨Nat.le_of_ble_eq_true rfl, Nat.le_of_ble_eq_true rfl⟩) (kPreVR (ci := 9) (q0 := 0) hK (kPc_sub hP [0, 1] rfl) rfl rfl rfl) rfl rfl hl.1 rfl (lv_room (Nat.le_of_ble_eq_true rfl)) dX8_worstOf_140 ⟨Nat.le_of_ble_eq_true rfl, Nat.le_of_ble_eq_true rfl⟩) (fun v_3 hv_3 => ?_)
          obtain rfl := hv_3
          refine W.eq (g2 := F0 m 143 ls [.int (nI q1)]) rfl ?_
          refine lv_istore (lv' := [(7, .int (nI q1)), (0, .ref z), (1, .long (lN sm)), (3, .int (nI (pcN sm 64))), (4, .long (lN bm)), (6, .int (nI le))]) hx hb dX8_worstOf_143 hl (by decide) rfl (fun ls hl => ?_)
          refine lv_aload_n hx hb dX8_worstOf_145 rfl (lv_at hl 1 rfl) ?_
          refine lv_lload_n hx hb dX8_worstOf_146 rfl (lv_at hl 2 rfl) ?_
          refine lv_lload hx hb dX8_worstOf_147 (lv_at hl 4 rfl) ?_
          refine lv_ldc2 (v := (-1)) hx hb hown (hts (.constantLong RX8 143 (-1)) (by decide +kernel)) dX8_worstOf_149 ?_
          refine lv_lxor hx hb dX8_worstOf_152 ?_
          refine lv_land hx hb dX8_worstOf_153 ?_
          refine lv_topl (fun nv_4 ev_4 => ?_)
          obtain rfl : nv_4 = lN (andn sm bm) := ev_4.trans (lx_andn hs (by rw [eb, hwq]; exact ws1_lt sm rr _ T))
          refine kGoR (va_runV (As := [.long (lN (andn sm bm))]) (rest := []) ⟨hx, hb, hml, hown, hts⟩ (c_X8_wo_8 l D cI cJ cZ cO z a0 a1 a2 a3 a4 a5 a6 a7 a8 a9 a10 a11 a12 a13 a14 a15 T P pa kn rn ln th wt rr (andn sm bm) fd q2 (by first | assumption | omega | decide) (Nat.lt_of_le_of_lt (andn_le _ _) hs) (by rw [eb]; exact w3) (hrr) (by omega) (by rw [eb]; omega) (by rw [hq2, eb])) (cwV 1 hts gX8_worstOf_X8_worstOf rfl rfl rfl (by decide +kernel) ⟨Nat.le_of_ble_eq_true rfl, Nat.le_of_ble_eq_true rfl⟩) (kPreVR (ci := 9) (q0 := 0) hK (kPc_sub hP [0, 1] rfl) rfl rfl rfl) rfl rfl hl.1 rfl (lv_room (Nat.le_of_ble_eq_true rfl)) dX8_worstOf_154 ⟨Nat.le_of_ble_eq_true rfl, Nat.le_of_ble_eq_true rfl⟩) (fun v_5 hv_5 => ?_)
          obtain rfl := hv_5
          refine W.eq (g2 := F0 m 157 ls [.int (nI q2)]) rfl ?_
          refine lv_istore (lv' := [(8, .int (nI q2)), (7, .int (nI q1)), (0, .ref z), (1, .long (lN sm)), (3, .int (nI (pcN sm 64))), (4, .long (lN bm)), (6, .int (nI le))]) hx hb dX8_worstOf_157 hl (by decide) rfl (fun ls hl => ?_)
          refine lv_iconst (v := 1) hx hb dX8_worstOf_159 (by decide) ?_
          refine lv_iload hx hb dX8_worstOf_160 (lv_at hl 1 rfl) ?_
          refine lv_iload hx hb dX8_worstOf_162 (lv_at hl 0 rfl) ?_
          refine lv_icmp_le (tgt := 172) hx hb dX8_worstOf_164 (by decide) (fun c_164 => ?_) (fun c_164 => ?_)
          · skip
            have nc_164 : q1 ≤ q2 := (nI_leI (a := q1) (b := q2) (by omega) (by omega)).mp c_164
            have hfin : (1 : Int32) + nI q2 = nI q := by rw [hfin0, show max q2 q1 = q2 by omega]; exact nI_add 1 _
            refine lv_iload hx hb dX8_worstOf_172 (lv_at hl 0 rfl) ?_
            refine lv_iadd hx hb dX8_worstOf_174 ?_
            exact kRetIr hx hb hr hlk dX8_worstOf_175 (kpi (by first | (rw [hq, hwe.1 (by omega)]; rfl) | (rw [hfin]; done)))
          · skip
            have nc_164 : ¬ q1 ≤ q2 := (not_congr (nI_leI (a := q1) (b := q2) (by omega) (by omega))).mp c_164
            have hfin : (1 : Int32) + nI q1 = nI q := by rw [hfin0, show max q2 q1 = q1 by omega]; exact nI_add 1 _
            refine lv_iload hx hb dX8_worstOf_167 (lv_at hl 1 rfl) ?_
            refine lv_goto (tgt := 174) hx hb dX8_worstOf_169 (by decide) ?_
            refine lv_iadd hx hb dX8_worstOf_174 ?_
            exact kRetIr hx hb hr hlk dX8_worstOf_175 (kpi (by first | (rw [hq, hwe.1 (by omega)]; rfl) | (rw [hfin]; done)))
        · skip
          have nc_132 : le = (pcN sm 64) := (nI_eq (a := le) (b := pcN sm 64) (by omega) (by omega)).mp c_132
          refine lv_iconst (v := 0) hx hb dX8_worstOf_135 (by decide) ?_
          exact kRetIr hx hb hr hlk dX8_worstOf_136 (kpi (by first | (rw [hq, hwe.1 (by omega)]; rfl) | (rw [hfin]; done)))
      · skip
        have nc_20 : ¬ T ≤ t := (not_congr (nI_leI (a := T) (b := t) (by omega) (by omega))).mp c_20
        refine lv_lconst (v := 0) hx hb dX8_worstOf_23 (by decide) ?_
        refine lv_topl (fun nv_6 ev_6 => ?_)
        obtain rfl : nv_6 = lN 0 := ev_6.trans (rfl)
        refine lv_lstore (lv' := [(8, .long (lN 0)), (0, .ref z), (1, .long (lN sm)), (3, .int (nI (pcN sm 64))), (4, .long (lN bm)), (6, .int (nI le)), (7, .int (nI t))]) hx hb dX8_worstOf_24 hl (by decide) rfl (fun ls hl => ?_)
        refine lv_iconst (v := 0) hx hb dX8_worstOf_26 (by decide) ?_
        refine lv_istore (lv' := [(10, .int 0), (8, .long (lN 0)), (0, .ref z), (1, .long (lN sm)), (3, .int (nI (pcN sm 64))), (4, .long (lN bm)), (6, .int (nI le)), (7, .int (nI t))]) hx hb dX8_worstOf_27 hl (by decide) rfl (fun ls hl => ?_)
        have hloop_29 : ∀ (fu : Nat) (k : Nat) (hm : Nat), 64 - k < fu → k ≤ 64 → hm = hsF sm rr t k → ∀ ls : Array Slot, lv_has ls 12 [(0, .ref z), (1, .long (lN sm)), (3, .int (nI (pcN sm 64))), (4, .long (lN bm)), (6, .int (nI le)), (7, .int (nI t)), (8, .long (lN hm)), (10, .int (nI k))] → W p l e ({ frames := 6, cells := 0, slots := 0, locals := 176 }) s m args below meth c s.heap [] 0 0 (MQ below (kQr (fun rv_ => rv_ = some (.int (nI q)))) args s 0 0 (fun _ => False)) (F0 m 29 ls []) := by
          intro fu
          induction fu with
          | zero => intro k hm hmu; exact absurd hmu (Nat.not_lt_zero _)
          | succ fu ih_29 =>
            intro k hm hmu_29 hk eh ls hl
            refine lv_iload hx hb dX8_worstOf_29 (lv_at hl 7 rfl) ?_
            refine lv_bipush (v := 64) hx hb dX8_worstOf_31 (by decide) ?_
            refine lv_icmp_ge (tgt := 78) hx hb dX8_worstOf_33 (by decide) (fun c_33 => ?_) (fun c_33 => ?_)
            · skip
              have nc_33 : 64 ≤ k := (nI_leI (a := 64) (b := k) (by omega) (by omega)).mp c_33
              have e12 : k = 64 := by omega
              rw [show (lN hm : Int64) = lN (hsF sm rr t 64) from by rw [eh, e12]] at hl
              refine lv_lload hx hb dX8_worstOf_78 (lv_at hl 6 rfl) ?_
              refine kGoR (va_runS (As := [.long (lN (hsF sm rr t 64))]) (rest := []) ⟨hx, hb, hml, hown, hts⟩ (c_J13_bitCount_95d88 l D cI cJ cZ cO (hsF sm rr t 64) (hs_lt64 sm rr t (Nat.le_refl _))) (va_cwS 1 hts gX8_worstOf_J13_bitCount_95d88 rfl rfl rfl (by decide +kernel) ⟨Nat.le_of_ble_eq_true rfl, Nat.le_of_ble_eq_true rfl⟩) (kPreSR hK (kPc_sub hP [] rfl)) rfl rfl hl.1 rfl (lv_room (Nat.le_of_ble_eq_true rfl)) dX8_worstOf_80 ⟨Nat.le_of_ble_eq_true rfl, Nat.le_of_ble_eq_true rfl⟩) (fun v_7 hv_7 => ?_)
              obtain rfl := hv_7
              refine W.eq (g2 := F0 m 83 ls [.int (nI (pcN (hsF sm rr t 64) 64))]) rfl ?_
              refine lv_istore (lv' := [(10, .int (nI (pcN (hsF sm rr t 64) 64))), (0, .ref z), (1, .long (lN sm)), (3, .int (nI (pcN sm 64))), (4, .long (lN bm)), (6, .int (nI le)), (7, .int (nI t)), (8, .long (lN (hsF sm rr t 64)))]) hx hb dX8_worstOf_83 hl (by decide) rfl (fun ls hl => ?_)
              refine lv_iload hx hb dX8_worstOf_85 (lv_at hl 0 rfl) ?_
              refine lv_iload_n hx hb dX8_worstOf_87 rfl (lv_at hl 3 rfl) ?_
              refine lv_iload hx hb dX8_worstOf_88 (lv_at hl 0 rfl) ?_
              refine lv_isub hx hb dX8_worstOf_90 ?_
              refine lv_topi (fun nv_8 ev_8 => ?_)
              obtain rfl : nv_8 = nI (pcN sm 64 - pcN (hsF sm rr t 64) 64) := ev_8.trans (pk_sub hmle)
              refine lv_icmp_le (tgt := 99) hx hb dX8_worstOf_91 (by decide) (fun c_91 => ?_) (fun c_91 => ?_)
              · skip
                have nc_91 : (pcN (hsF sm rr t 64) 64) ≤ (pcN sm 64 - pcN (hsF sm rr t 64) 64) := (nI_leI (a := pcN (hsF sm rr t 64) 64) (b := pcN sm 64 - pcN (hsF sm rr t 64) 64) (by omega) (by omega)).mp c_91
                refine lv_iload_n hx hb dX8_worstOf_99 rfl (lv_at hl 3 rfl) ?_
                refine lv_iload hx hb dX8_worstOf_100 (lv_at hl 0 rfl) ?_
                refine lv_isub hx hb dX8_worstOf_102 ?_
                refine lv_topi (fun nv_9 ev_9 => ?_)
                obtain rfl : nv_9 = nI (pcN sm 64 - pcN (hsF sm rr t 64) 64) := ev_9.trans (pk_sub hmle)
                refine lv_istore (lv' := [(11, .int (nI (pcN sm 64 - pcN (hsF sm rr t 64) 64))), (10, .int (nI (pcN (hsF sm rr t 64) 64))), (0, .ref z), (1, .long (lN sm)), (3, .int (nI (pcN sm 64))), (4, .long (lN bm)), (6, .int (nI le)), (7, .int (nI t)), (8, .long (lN (hsF sm rr t 64)))]) hx hb dX8_worstOf_103 hl (by decide) rfl (fun ls hl => ?_)
                refine lv_iload hx hb dX8_worstOf_105 (lv_at hl 0 rfl) ?_
                refine lv_iload hx hb dX8_worstOf_107 (lv_at hl 6 rfl) ?_
                refine lv_icmp_lt (tgt := 115) hx hb dX8_worstOf_109 (by decide) (fun c_109 => ?_) (fun c_109 => ?_)
                · skip
                  have nc_109 : (pcN sm 64 - pcN (hsF sm rr t 64) 64) < le := (nI_ltI (a := pcN sm 64 - pcN (hsF sm rr t 64) 64) (b := le) (by omega) (by omega)).mp c_109
                  refine lv_iload hx hb dX8_worstOf_115 (lv_at hl 0 rfl) ?_
                  refine lv_istore (lv' := [(6, .int (nI (pcN sm 64 - pcN (hsF sm rr t 64) 64))), (11, .int (nI (pcN sm 64 - pcN (hsF sm rr t 64) 64))), (10, .int (nI (pcN (hsF sm rr t 64) 64))), (0, .ref z), (1, .long (lN sm)), (3, .int (nI (pcN sm 64))), (4, .long (lN bm)), (7, .int (nI t)), (8, .long (lN (hsF sm rr t 64)))]) hx hb dX8_worstOf_117 hl (by decide) rfl (fun ls hl => ?_)
                  refine lv_lload hx hb dX8_worstOf_119 (lv_at hl 8 rfl) ?_
                  refine lv_lstore (lv' := [(4, .long (lN (hsF sm rr t 64))), (6, .int (nI (pcN sm 64 - pcN (hsF sm rr t 64) 64))), (11, .int (nI (pcN sm 64 - pcN (hsF sm rr t 64) 64))), (10, .int (nI (pcN (hsF sm rr t 64) 64))), (0, .ref z), (1, .long (lN sm)), (3, .int (nI (pcN sm 64))), (7, .int (nI t)), (8, .long (lN (hsF sm rr t 64)))]) hx hb dX8_worstOf_121 hl (by decide) rfl (fun ls hl => ?_)
                  refine lv_iinc (v := nI (t + 1)) (lv' := [(7, .int (nI (t + 1))), (4, .long (lN (hsF sm rr t 64))), (6, .int (nI (pcN sm 64 - pcN (hsF sm rr t 64) 64))), (11, .int (nI (pcN sm 64 - pcN (hsF sm rr t 64) 64))), (10, .int (nI (pcN (hsF sm rr t 64) 64))), (0, .ref z), (1, .long (lN sm)), (3, .int (nI (pcN sm 64))), (8, .long (lN (hsF sm rr t 64)))]) hx hb dX8_worstOf_123 hl (k := 7) rfl (nI_1 _) (by decide) rfl (fun ls hl => ?_)
                  refine lv_goto (tgt := 14) hx hb dX8_worstOf_126 (by decide) ?_
                  exact ih_14  (t + 1) (hsF sm rr t 64) (pcN sm 64 - pcN (hsF sm rr t 64) 64) (by omega) (by first | exact Nat.zero_le _ | omega) (by first | (subst eb; subst el; simp [wsF, moreW, c_20, nc_20, c_33, nc_33, c_91, nc_91, c_109, nc_109]; done) | (subst eb; subst el; simp [wsF, moreW, c_20, nc_20, c_33, nc_33, c_91, nc_91, c_109, nc_109]; omega)) (by first | (subst eb; subst el; simp [wsF, moreW, c_20, nc_20, c_33, nc_33, c_91, nc_91, c_109, nc_109]; done) | (subst eb; subst el; simp [wsF, moreW, c_20, nc_20, c_33, nc_33, c_91, nc_91, c_109, nc_109]; omega)) _ (lv_sub hl [5, 6, 7, 1, 2, 0] rfl)
                · skip
                  have nc_109 : ¬ (pcN sm 64 - pcN (hsF sm rr t 64) 64) < le := (not_congr (nI_ltI (a := pcN sm 64 - pcN (hsF sm rr t 64) 64) (b := le) (by omega) (by omega))).mp c_109
                  refine lv_goto (tgt := 123) hx hb dX8_worstOf_112 (by decide) ?_
                  refine lv_iinc (v := nI (t + 1)) (lv' := [(7, .int (nI (t + 1))), (11, .int (nI (pcN sm 64 - pcN (hsF sm rr t 64) 64))), (10, .int (nI (pcN (hsF sm rr t 64) 64))), (0, .ref z), (1, .long (lN sm)), (3, .int (nI (pcN sm 64))), (4, .long (lN bm)), (6, .int (nI le)), (8, .long (lN (hsF sm rr t 64)))]) hx hb dX8_worstOf_123 hl (k := 7) rfl (nI_1 _) (by decide) rfl (fun ls hl => ?_)
                  refine lv_goto (tgt := 14) hx hb dX8_worstOf_126 (by decide) ?_
                  exact ih_14  (t + 1) bm le (by omega) (by first | exact Nat.zero_le _ | omega) (by first | (subst eb; subst el; simp [wsF, moreW, c_20, nc_20, c_33, nc_33, c_91, nc_91, c_109, nc_109]; done) | (subst eb; subst el; simp [wsF, moreW, c_20, nc_20, c_33, nc_33, c_91, nc_91, c_109, nc_109]; omega)) (by first | (subst eb; subst el; simp [wsF, moreW, c_20, nc_20, c_33, nc_33, c_91, nc_91, c_109, nc_109]; done) | (subst eb; subst el; simp [wsF, moreW, c_20, nc_20, c_33, nc_33, c_91, nc_91, c_109, nc_109]; omega)) _ (lv_sub hl [3, 4, 5, 6, 7, 0] rfl)
              · skip
                have nc_91 : ¬ (pcN (hsF sm rr t 64) 64) ≤ (pcN sm 64 - pcN (hsF sm rr t 64) 64) := (not_congr (nI_leI (a := pcN (hsF sm rr t 64) 64) (b := pcN sm 64 - pcN (hsF sm rr t 64) 64) (by omega) (by omega))).mp c_91
                refine lv_iload hx hb dX8_worstOf_94 (lv_at hl 0 rfl) ?_
                refine lv_goto (tgt := 103) hx hb dX8_worstOf_96 (by decide) ?_
                refine lv_istore (lv' := [(11, .int (nI (pcN (hsF sm rr t 64) 64))), (10, .int (nI (pcN (hsF sm rr t 64) 64))), (0, .ref z), (1, .long (lN sm)), (3, .int (nI (pcN sm 64))), (4, .long (lN bm)), (6, .int (nI le)), (7, .int (nI t)), (8, .long (lN (hsF sm rr t 64)))]) hx hb dX8_worstOf_103 hl (by decide) rfl (fun ls hl => ?_)
                refine lv_iload hx hb dX8_worstOf_105 (lv_at hl 0 rfl) ?_
                refine lv_iload hx hb dX8_worstOf_107 (lv_at hl 6 rfl) ?_
                refine lv_icmp_lt (tgt := 115) hx hb dX8_worstOf_109 (by decide) (fun c_109 => ?_) (fun c_109 => ?_)
                · skip
                  have nc_109 : (pcN (hsF sm rr t 64) 64) < le := (nI_ltI (a := pcN (hsF sm rr t 64) 64) (b := le) (by omega) (by omega)).mp c_109
                  refine lv_iload hx hb dX8_worstOf_115 (lv_at hl 0 rfl) ?_
                  refine lv_istore (lv' := [(6, .int (nI (pcN (hsF sm rr t 64) 64))), (11, .int (nI (pcN (hsF sm rr t 64) 64))), (10, .int (nI (pcN (hsF sm rr t 64) 64))), (0, .ref z), (1, .long (lN sm)), (3, .int (nI (pcN sm 64))), (4, .long (lN bm)), (7, .int (nI t)), (8, .long (lN (hsF sm rr t 64)))]) hx hb dX8_worstOf_117 hl (by decide) rfl (fun ls hl => ?_)
                  refine lv_lload hx hb dX8_worstOf_119 (lv_at hl 8 rfl) ?_
                  refine lv_lstore (lv' := [(4, .long (lN (hsF sm rr t 64))), (6, .int (nI (pcN (hsF sm rr t 64) 64))), (11, .int (nI (pcN (hsF sm rr t 64) 64))), (10, .int (nI (pcN (hsF sm rr t 64) 64))), (0, .ref z), (1, .long (lN sm)), (3, .int (nI (pcN sm 64))), (7, .int (nI t)), (8, .long (lN (hsF sm rr t 64)))]) hx hb dX8_worstOf_121 hl (by decide) rfl (fun ls hl => ?_)
                  refine lv_iinc (v := nI (t + 1)) (lv' := [(7, .int (nI (t + 1))), (4, .long (lN (hsF sm rr t 64))), (6, .int (nI (pcN (hsF sm rr t 64) 64))), (11, .int (nI (pcN (hsF sm rr t 64) 64))), (10, .int (nI (pcN (hsF sm rr t 64) 64))), (0, .ref z), (1, .long (lN sm)), (3, .int (nI (pcN sm 64))), (8, .long (lN (hsF sm rr t 64)))]) hx hb dX8_worstOf_123 hl (k := 7) rfl (nI_1 _) (by decide) rfl (fun ls hl => ?_)
                  refine lv_goto (tgt := 14) hx hb dX8_worstOf_126 (by decide) ?_
                  exact ih_14  (t + 1) (hsF sm rr t 64) (pcN (hsF sm rr t 64) 64) (by omega) (by first | exact Nat.zero_le _ | omega) (by first | (subst eb; subst el; simp [wsF, moreW, c_20, nc_20, c_33, nc_33, c_91, nc_91, c_109, nc_109]; done) | (subst eb; subst el; simp [wsF, moreW, c_20, nc_20, c_33, nc_33, c_91, nc_91, c_109, nc_109]; omega)) (by first | (subst eb; subst el; simp [wsF, moreW, c_20, nc_20, c_33, nc_33, c_91, nc_91, c_109, nc_109]; done) | (subst eb; subst el; simp [wsF, moreW, c_20, nc_20, c_33, nc_33, c_91, nc_91, c_109, nc_109]; omega)) _ (lv_sub hl [5, 6, 7, 1, 2, 0] rfl)
                · skip
                  have nc_109 : ¬ (pcN (hsF sm rr t 64) 64) < le := (not_congr (nI_ltI (a := pcN (hsF sm rr t 64) 64) (b := le) (by omega) (by omega))).mp c_109
                  refine lv_goto (tgt := 123) hx hb dX8_worstOf_112 (by decide) ?_
                  refine lv_iinc (v := nI (t + 1)) (lv' := [(7, .int (nI (t + 1))), (11, .int (nI (pcN (hsF sm rr t 64) 64))), (10, .int (nI (pcN (hsF sm rr t 64) 64))), (0, .ref z), (1, .long (lN sm)), (3, .int (nI (pcN sm 64))), (4, .long (lN bm)), (6, .int (nI le)), (8, .long (lN (hsF sm rr t 64)))]) hx hb dX8_worstOf_123 hl (k := 7) rfl (nI_1 _) (by decide) rfl (fun ls hl => ?_)
                  refine lv_goto (tgt := 14) hx hb dX8_worstOf_126 (by decide) ?_
                  exact ih_14  (t + 1) bm le (by omega) (by first | exact Nat.zero_le _ | omega) (by first | (subst eb; subst el; simp [wsF, moreW, c_20, nc_20, c_33, nc_33, c_91, nc_91, c_109, nc_109]; done) | (subst eb; subst el; simp [wsF, moreW, c_20, nc_20, c_33, nc_33, c_91, nc_91, c_109, nc_109]; omega)) (by first | (subst eb; subst el; simp [wsF, moreW, c_20, nc_20, c_33, nc_33, c_91, nc_91, c_109, nc_109]; done) | (subst eb; subst el; simp [wsF, moreW, c_20, nc_20, c_33, nc_33, c_91, nc_91, c_109, nc_109]; omega)) _ (lv_sub hl [3, 4, 5, 6, 7, 0] rfl)
            · skip
              have nc_33 : ¬ 64 ≤ k := (not_congr (nI_leI (a := 64) (b := k) (by omega) (by omega))).mp c_33
              refine lv_lload_n hx hb dX8_worstOf_36 rfl (lv_at hl 1 rfl) ?_
              refine lv_iload hx hb dX8_worstOf_37 (lv_at hl 7 rfl) ?_
              refine lv_lshr hx hb dX8_worstOf_39 rfl ?_
              refine lv_lconst (v := 1) hx hb dX8_worstOf_40 (by decide) ?_
              refine lv_land hx hb dX8_worstOf_41 ?_
              refine lv_topl (fun nv_10 ev_10 => ?_)
              obtain rfl : nv_10 = lN (if sm.testBit k then 1 else 0) := ev_10.trans (lx_bit (by omega))
              refine lv_lconst (v := 1) hx hb dX8_worstOf_42 (by decide) ?_
              refine W.lcmp hx hb dX8_worstOf_43 ?_
              refine lv_if_ne (tgt := 72) hx hb dX8_worstOf_44 (by decide) (fun c_44 => ?_) (fun c_44 => ?_)
              · skip
                have c_44b : sm.testBit k = false := by cases hz : sm.testBit k with | false => rfl | true => exact absurd (lx_ne.mpr hz) c_44
                refine lv_iinc (v := nI (k + 1)) (lv' := [(10, .int (nI (k + 1))), (0, .ref z), (1, .long (lN sm)), (3, .int (nI (pcN sm 64))), (4, .long (lN bm)), (6, .int (nI le)), (7, .int (nI t)), (8, .long (lN hm))]) hx hb dX8_worstOf_72 hl (k := 7) rfl (nI_1 _) (by decide) rfl (fun ls hl => ?_)
                refine lv_goto (tgt := 29) hx hb dX8_worstOf_75 (by decide) ?_
                exact ih_29  (k + 1) hm (by omega) (by first | exact Nat.zero_le _ | omega) (by subst eh; simp [hsF, c_20, nc_20, c_33, nc_33, c_44, c_44b]) _ (lv_sub hl [1, 2, 3, 4, 5, 6, 7, 0] rfl)
              · skip
                have c_44b : sm.testBit k = true := lx_ne.mp c_44
                refine lv_aload_n hx hb dX8_worstOf_47 rfl (lv_at hl 0 rfl) ?_
                refine va_get (D := D) (ci := 9) (v := .ref a15) (C := RX8) (T := TX8) (N := 24) hx hb hts hi_X8 hown hK.1 hP 0 rfl rfl 23 (by decide) hw_f60 (fun _ h9 => h9) rfl dX8_worstOf_48 ?_
                refine lv_iload hx hb dX8_worstOf_51 (lv_at hl 7 rfl) ?_
                refine va_iald hx hb hK.1 hP 1 0 rfl rfl (vp_in_nI (by omega) (by omega)) dX8_worstOf_53 ?_
                refine lv_topi (fun nv_11 ev_11 => ?_)
                obtain rfl : nv_11 = (nF rr) k := by rw [ev_11, nI_clamp (by omega)]
                refine lv_topi (fun nv_12 ev_12 => ?_)
                obtain rfl : nv_12 = nI (rr k) := ev_12.trans (rfl)
                refine lv_iload hx hb dX8_worstOf_54 (lv_at hl 5 rfl) ?_
                refine lv_ishr hx hb dX8_worstOf_56 ?_
                refine lv_iconst (v := 1) hx hb dX8_worstOf_57 (by decide) ?_
                refine lv_iand hx hb dX8_worstOf_58 ?_
                refine lv_topi (fun nv_13 ev_13 => ?_)
                obtain rfl : nv_13 = k01 ((rr k).testBit t) := ev_13.trans (hx_k01 (by have := hrr k; omega) (by omega))
                refine lv_iconst (v := 1) hx hb dX8_worstOf_59 (by decide) ?_
                refine lv_icmp_ne (tgt := 72) hx hb dX8_worstOf_60 (by decide) (fun c_60 => ?_) (fun c_60 => ?_)
                · skip
                  have c_60b : (rr k).testBit t = false := by cases hz : (rr k).testBit t with | false => rfl | true => exact absurd (by rw [hz]; rfl) c_60
                  refine lv_iinc (v := nI (k + 1)) (lv' := [(10, .int (nI (k + 1))), (0, .ref z), (1, .long (lN sm)), (3, .int (nI (pcN sm 64))), (4, .long (lN bm)), (6, .int (nI le)), (7, .int (nI t)), (8, .long (lN hm))]) hx hb dX8_worstOf_72 hl (k := 7) rfl (nI_1 _) (by decide) rfl (fun ls hl => ?_)
                  refine lv_goto (tgt := 29) hx hb dX8_worstOf_75 (by decide) ?_
                  exact ih_29  (k + 1) hm (by omega) (by first | exact Nat.zero_le _ | omega) (by subst eh; simp [hsF, c_20, nc_20, c_33, nc_33, c_44, c_44b, c_60, c_60b]) _ (lv_sub hl [1, 2, 3, 4, 5, 6, 7, 0] rfl)
                · skip
                  have c_60b : (rr k).testBit t = true := by cases hz : (rr k).testBit t with | true => rfl | false => exact absurd c_60 (by rw [hz]; decide)
                  refine lv_lload hx hb dX8_worstOf_63 (lv_at hl 6 rfl) ?_
                  refine lv_lconst (v := 1) hx hb dX8_worstOf_65 (by decide) ?_
                  refine lv_iload hx hb dX8_worstOf_66 (lv_at hl 7 rfl) ?_
                  refine lv_lshl hx hb dX8_worstOf_68 rfl ?_
                  refine lv_topl (fun nv_14 ev_14 => ?_)
                  obtain rfl : nv_14 = lN (2 ^ k) := ev_14.trans (lx_pow (by omega))
                  refine lv_lor hx hb dX8_worstOf_69 ?_
                  refine lv_topl (fun nv_15 ev_15 => ?_)
                  obtain rfl : nv_15 = lN (hm ||| 2 ^ k) := ev_15.trans (lx_or (by rw [eh]; exact hs_lt64 sm rr t (by omega)) (by omega))
                  refine lv_lstore (lv' := [(8, .long (lN (hm ||| 2 ^ k))), (0, .ref z), (1, .long (lN sm)), (3, .int (nI (pcN sm 64))), (4, .long (lN bm)), (6, .int (nI le)), (7, .int (nI t)), (10, .int (nI k))]) hx hb dX8_worstOf_70 hl (by decide) rfl (fun ls hl => ?_)
                  refine lv_iinc (v := nI (k + 1)) (lv' := [(10, .int (nI (k + 1))), (8, .long (lN (hm ||| 2 ^ k))), (0, .ref z), (1, .long (lN sm)), (3, .int (nI (pcN sm 64))), (4, .long (lN bm)), (6, .int (nI le)), (7, .int (nI t))]) hx hb dX8_worstOf_72 hl (k := 7) rfl (nI_1 _) (by decide) rfl (fun ls hl => ?_)
                  refine lv_goto (tgt := 29) hx hb dX8_worstOf_75 (by decide) ?_
                  exact ih_29  (k + 1) (hm ||| 2 ^ k) (by omega) (by first | exact Nat.zero_le _ | omega) (by subst eh; simp [hsF, c_20, nc_20, c_33, nc_33, c_44, c_44b, c_60, c_60b]) _ (lv_sub hl [2, 3, 4, 5, 6, 7, 1, 0] rfl)
        exact hloop_29 ((64 - 0) + 1) 0 0 (Nat.lt_succ_self _) (by exact Nat.zero_le _) (by rfl) _ (lv_sub hl [2, 3, 4, 5, 6, 7, 1, 0] rfl)
  exact hloop_14 ((T - 0) + 1) 0 0 (pcN sm 64) (Nat.lt_succ_self _) (by exact Nat.zero_le _) (by rfl) (by rfl) _ (lv_sub hl [4, 5, 3, 2, 1, 0] rfl)

set_option maxHeartbeats 4000000 in
set_option maxRecDepth 100000 in
theorem c_X8_wo_6 (l : Launch) (D : va_G) (cI cJ cZ cO : ClassId) (z : Nat) (a0 : Nat) (a1 : Nat) (a2 : Nat) (a3 : Nat) (a4 : Nat) (a5 : Nat) (a6 : Nat) (a7 : Nat) (a8 : Nat) (a9 : Nat) (a10 : Nat) (a11 : Nat) (a12 : Nat) (a13 : Nat) (a14 : Nat) (a15 : Nat) (T : Nat) (P : Nat) (pa : Int32) (kn : Int32) (rn : Nat) (ln : Nat) (th : Int32) (wt : Int32) (rr : Nat → Nat) (sm : Nat) (fq : Nat) (q : Nat) (hT : T ≤ 12) (hs : sm < 2 ^ 64) (hrt : ∀ k, k < 64 → sm.testBit k = true → rr k < 2 ^ T) (hrr : ∀ k, rr k < 4096) (hfu : fq = 12 - 6) (hsp : spN (mCt sm rr) ≤ fq) (hq : q = WN fq (mCt sm rr)) : kR l D (kTY cI cJ cZ cO) yX8_worstOf wsX8_worstOf 7 207 [.ref z, .long (lN sm)] [(z, .inr (9, [.ref a0, .ref a1, .int (nI T), .ref a2, .ref a3, .ref a4, .ref a5, .ref a6, .int (nI P), .int pa, .int kn, .ref a7, .int (nI rn), .ref a8, .ref a9, .int (nI ln), .ref a10, .int th, .ref a11, .ref a12, .int wt, .ref a13, .ref a14, .ref a15])), (a15, .inl (cI, 64, .inl (nF rr)))] (fun rv_ => rv_ = some (.int (nI q))) := by
  refine kEnterR (cc := cX8_worstOf) (maxL := 12) (ret := (some .int)) (by decide) rfl (Nat.le_of_ble_eq_true rfl) ?_
  intro p e s m args below meth c hx hb hr hml hts hown hlk hK hP ls hl
  have hl : lv_has ls 12 [(0, .ref z), (1, .long (lN sm))] := hl
  have hw_f66 := hts (.fieldLink RX8 66 "WhatToReadModel" "topics" "I") (by decide +kernel)
  have hi_X8 : ∀ w ∈ wsX80, w ∈ wsX8_worstOf := by decide +kernel
  have hw_f60 := hts (.fieldLink RX8 60 "WhatToReadModel" "row64" "[I") (by decide +kernel)
  refine lv_lload_n hx hb dX8_worstOf_0 rfl (lv_at hl 1 rfl) ?_
  refine kGoR (va_runS (As := [.long (lN sm)]) (rest := []) ⟨hx, hb, hml, hown, hts⟩ (c_J13_bitCount_95d88 l D cI cJ cZ cO sm (hs)) (va_cwS 1 hts gX8_worstOf_J13_bitCount_95d88 rfl rfl rfl (by decide +kernel) ⟨Nat.le_of_ble_eq_true rfl, Nat.le_of_ble_eq_true rfl⟩) (kPreSR hK (kPc_sub hP [] rfl)) rfl rfl hl.1 rfl (lv_room (Nat.le_of_ble_eq_true rfl)) dX8_worstOf_1 ⟨Nat.le_of_ble_eq_true rfl, Nat.le_of_ble_eq_true rfl⟩) (fun v_1 hv_1 => ?_)
  obtain rfl := hv_1
  refine W.eq (g2 := F0 m 4 ls [.int (nI (pcN sm 64))]) rfl ?_
  refine lv_istore_n (lv' := [(3, .int (nI (pcN sm 64))), (0, .ref z), (1, .long (lN sm))]) hx hb dX8_worstOf_4 rfl hl (by decide) rfl (fun ls hl => ?_)
  refine lv_lconst (v := 0) hx hb dX8_worstOf_5 (by decide) ?_
  refine lv_topl (fun nv_2 ev_2 => ?_)
  obtain rfl : nv_2 = lN 0 := ev_2.trans (rfl)
  refine lv_lstore (lv' := [(4, .long (lN 0)), (3, .int (nI (pcN sm 64))), (0, .ref z), (1, .long (lN sm))]) hx hb dX8_worstOf_6 hl (by decide) rfl (fun ls hl => ?_)
  refine lv_iload_n hx hb dX8_worstOf_8 rfl (lv_at hl 1 rfl) ?_
  refine lv_istore (lv' := [(6, .int (nI (pcN sm 64))), (4, .long (lN 0)), (3, .int (nI (pcN sm 64))), (0, .ref z), (1, .long (lN sm))]) hx hb dX8_worstOf_9 hl (by decide) rfl (fun ls hl => ?_)
  refine lv_iconst (v := 0) hx hb dX8_worstOf_11 (by decide) ?_
  refine lv_istore (lv' := [(7, .int 0), (6, .int (nI (pcN sm 64))), (4, .long (lN 0)), (3, .int (nI (pcN sm 64))), (0, .ref z), (1, .long (lN sm))]) hx hb dX8_worstOf_12 hl (by decide) rfl (fun ls hl => ?_)
  have hloop_14 : ∀ (fu : Nat) (t : Nat) (bm : Nat) (le : Nat), T - t < fu → t ≤ T → bm = (wsF sm rr (pcN sm 64) t).1 → le = (wsF sm rr (pcN sm 64) t).2 → ∀ ls : Array Slot, lv_has ls 12 [(0, .ref z), (1, .long (lN sm)), (3, .int (nI (pcN sm 64))), (4, .long (lN bm)), (6, .int (nI le)), (7, .int (nI t))] → W p l e ({ frames := 7, cells := 0, slots := 0, locals := 207 }) s m args below meth c s.heap [] 0 0 (MQ below (kQr (fun rv_ => rv_ = some (.int (nI q)))) args s 0 0 (fun _ => False)) (F0 m 14 ls []) := by
    intro fu
    induction fu with
    | zero => intro t bm le hmu; exact absurd hmu (Nat.not_lt_zero _)
    | succ fu ih_14 =>
      intro t bm le hmu_14 ht eb el ls hl
      have hal := pcN_le sm 64
      have hmle := hs_le sm rr t
      have hl2 := ws2_le sm rr (pcN sm 64) t
      refine lv_iload hx hb dX8_worstOf_14 (lv_at hl 5 rfl) ?_
      refine lv_aload_n hx hb dX8_worstOf_16 rfl (lv_at hl 0 rfl) ?_
      refine va_get (D := D) (ci := 9) (v := .int (nI T)) (C := RX8) (T := TX8) (N := 24) hx hb hts hi_X8 hown hK.1 hP 0 rfl rfl 2 (by decide) hw_f66 (fun _ h9 => h9) rfl dX8_worstOf_17 ?_
      refine lv_icmp_ge (tgt := 129) hx hb dX8_worstOf_20 (by decide) (fun c_20 => ?_) (fun c_20 => ?_)
      · skip
        have nc_20 : T ≤ t := (nI_leI (a := T) (b := t) (by omega) (by omega)).mp c_20
        have e13 : t = T := by omega
        have hle2 : le ≤ pcN sm 64 := by rw [el]; exact ws2_le sm rr _ t
        obtain ⟨wq, hwq⟩ : ∃ wq, wq = wsF sm rr (pcN sm 64) T := ⟨_, rfl⟩
        rw [e13, ← hwq] at eb el
        have hwe := ws_end hT hrt hwq
        refine lv_iload hx hb dX8_worstOf_129 (lv_at hl 4 rfl) ?_
        refine lv_iload_n hx hb dX8_worstOf_131 rfl (lv_at hl 2 rfl) ?_
        refine lv_icmp_ne (tgt := 137) hx hb dX8_worstOf_132 (by decide) (fun c_132 => ?_) (fun c_132 => ?_)
        · skip
          have nc_132 : ¬ le = (pcN sm 64) := (not_congr (nI_eq (a := le) (b := pcN sm 64) (by omega) (by omega))).mp c_132
          obtain ⟨w1, w2, w3, w4, w5, w6, w7⟩ := hwe.2 (by omega)
          obtain ⟨fd, hfd⟩ : ∃ fd, fq = fd + 1 := ⟨fq - 1, by omega⟩
          obtain ⟨q1, hq1⟩ : ∃ q1, q1 = WN fd (mCt wq.1 rr) := ⟨_, rfl⟩
          obtain ⟨q2, hq2⟩ : ∃ q2, q2 = WN fd (mCt (andn sm wq.1) rr) := ⟨_, rfl⟩
          have hq1l : q1 ≤ fd := by rw [hq1]; exact WN_le _ _
          have hq2l : q2 ≤ fd := by rw [hq2]; exact WN_le _ _
          have hfin0 : q = 1 + max q2 q1 := by rw [hq, hfd, w7 fd, hq1, hq2]
          refine lv_aload_n hx hb dX8_worstOf_137 rfl (lv_at hl 0 rfl) ?_
          refine lv_lload hx hb dX8_worstOf_138 (lv_at hl 3 rfl) ?_
          refine kGoR (va_runV (As := [.long (lN bm)]) (rest := []) ⟨hx, hb, hml, hown, hts⟩ (c_X8_wo_7 l D cI cJ cZ cO z a0 a1 a2 a3 a4 a5 a6 a7 a8 a9 a10 a11 a12 a13 a14 a15 T P pa kn rn ln th wt rr bm fd q1 (by first | assumption | omega | decide) (by rw [eb]; exact w1) (by rw [eb]; exact w2) (hrr) (by omega) (by rw [eb]; omega) (by rw [hq1, eb])) (cwV 1 hts gX8_worstOf_X8_worstOf rfl rfl rfl (by decide +kernel) ⟨Nat.le_of_ble_eq_true rfl, Nat.le_of_ble_eq_true rfl⟩) (kPreVR (ci := 9) (q0 := 0) hK (kPc_sub hP [0, 1] rfl) rfl rfl rfl) rfl rfl hl.1 rfl (lv_room (Nat.le_of_ble_eq_true rfl)) dX8_worstOf_140 ⟨Nat.le_of_ble_eq_true rfl, Nat.le_of_ble_eq_true rfl⟩) (fun v_3 hv_3 => ?_)
          obtain rfl := hv_3
          refine W.eq (g2 := F0 m 143 ls [.int (nI q1)]) rfl ?_
          refine lv_istore (lv' := [(7, .int (nI q1)), (0, .ref z), (1, .long (lN sm)), (3, .int (nI (pcN sm 64))), (4, .long (lN bm)), (6, .int (nI le))]) hx hb dX8_worstOf_143 hl (by decide) rfl (fun ls hl => ?_)
          refine lv_aload_n hx hb dX8_worstOf_145 rfl (lv_at hl 1 rfl) ?_
          refine lv_lload_n hx hb dX8_worstOf_146 rfl (lv_at hl 2 rfl) ?_
          refine lv_lload hx hb dX8_worstOf_147 (lv_at hl 4 rfl) ?_
          refine lv_ldc2 (v := (-1)) hx hb hown (hts (.constantLong RX8 143 (-1)) (by decide +kernel)) dX8_worstOf_149 ?_
          refine lv_lxor hx hb dX8_worstOf_152 ?_
          refine lv_land hx hb dX8_worstOf_153 ?_
          refine lv_topl (fun nv_4 ev_4 => ?_)
          obtain rfl : nv_4 = lN (andn sm bm) := ev_4.trans (lx_andn hs (by rw [eb, hwq]; exact ws1_lt sm rr _ T))
          refine kGoR (va_runV (As := [.long (lN (andn sm bm))]) (rest := []) ⟨hx, hb, hml, hown, hts⟩ (c_X8_wo_7 l D cI cJ cZ cO z a0 a1 a2 a3 a4 a5 a6 a7 a8 a9 a10 a11 a12 a13 a14 a15 T P pa kn rn ln th wt rr (andn sm bm) fd q2 (by first | assumption | omega | decide) (Nat.lt_of_le_of_lt (andn_le _ _) hs) (by rw [eb]; exact w3) (hrr) (by omega) (by rw [eb]; omega) (by rw [hq2, eb])) (cwV 1 hts gX8_worstOf_X8_worstOf rfl rfl rfl (by decide +kernel) ⟨Nat.le_of_ble_eq_true rfl, Nat.le_of_ble_eq_true rfl⟩) (kPreVR (ci := 9) (q0 := 0) hK (kPc_sub hP [0, 1] rfl) rfl rfl rfl) rfl rfl hl.1 rfl (lv_room (Nat.le_of_ble_eq_true rfl)) dX8_worstOf_154 ⟨Nat.le_of_ble_eq_true rfl, Nat.le_of_ble_eq_true rfl⟩) (fun v_5 hv_5 => ?_)
          obtain rfl := hv_5
          refine W.eq (g2 := F0 m 157 ls [.int (nI q2)]) rfl ?_
          refine lv_istore (lv' := [(8, .int (nI q2)), (7, .int (nI q1)), (0, .ref z), (1, .long (lN sm)), (3, .int (nI (pcN sm 64))), (4, .long (lN bm)), (6, .int (nI le))]) hx hb dX8_worstOf_157 hl (by decide) rfl (fun ls hl => ?_)
          refine lv_iconst (v := 1) hx hb dX8_worstOf_159 (by decide) ?_
          refine lv_iload hx hb dX8_worstOf_160 (lv_at hl 1 rfl) ?_
          refine lv_iload hx hb dX8_worstOf_162 (lv_at hl 0 rfl) ?_
          refine lv_icmp_le (tgt := 172) hx hb dX8_worstOf_164 (by decide) (fun c_164 => ?_) (fun c_164 => ?_)
          · skip
            have nc_164 : q1 ≤ q2 := (nI_leI (a := q1) (b := q2) (by omega) (by omega)).mp c_164
            have hfin : (1 : Int32) + nI q2 = nI q := by rw [hfin0, show max q2 q1 = q2 by omega]; exact nI_add 1 _
            refine lv_iload hx hb dX8_worstOf_172 (lv_at hl 0 rfl) ?_
            refine lv_iadd hx hb dX8_worstOf_174 ?_
            exact kRetIr hx hb hr hlk dX8_worstOf_175 (kpi (by first | (rw [hq, hwe.1 (by omega)]; rfl) | (rw [hfin]; done)))
          · skip
            have nc_164 : ¬ q1 ≤ q2 := (not_congr (nI_leI (a := q1) (b := q2) (by omega) (by omega))).mp c_164
            have hfin : (1 : Int32) + nI q1 = nI q := by rw [hfin0, show max q2 q1 = q1 by omega]; exact nI_add 1 _
            refine lv_iload hx hb dX8_worstOf_167 (lv_at hl 1 rfl) ?_
            refine lv_goto (tgt := 174) hx hb dX8_worstOf_169 (by decide) ?_
            refine lv_iadd hx hb dX8_worstOf_174 ?_
            exact kRetIr hx hb hr hlk dX8_worstOf_175 (kpi (by first | (rw [hq, hwe.1 (by omega)]; rfl) | (rw [hfin]; done)))
        · skip
          have nc_132 : le = (pcN sm 64) := (nI_eq (a := le) (b := pcN sm 64) (by omega) (by omega)).mp c_132
          refine lv_iconst (v := 0) hx hb dX8_worstOf_135 (by decide) ?_
          exact kRetIr hx hb hr hlk dX8_worstOf_136 (kpi (by first | (rw [hq, hwe.1 (by omega)]; rfl) | (rw [hfin]; done)))
      · skip
        have nc_20 : ¬ T ≤ t := (not_congr (nI_leI (a := T) (b := t) (by omega) (by omega))).mp c_20
        refine lv_lconst (v := 0) hx hb dX8_worstOf_23 (by decide) ?_
        refine lv_topl (fun nv_6 ev_6 => ?_)
        obtain rfl : nv_6 = lN 0 := ev_6.trans (rfl)
        refine lv_lstore (lv' := [(8, .long (lN 0)), (0, .ref z), (1, .long (lN sm)), (3, .int (nI (pcN sm 64))), (4, .long (lN bm)), (6, .int (nI le)), (7, .int (nI t))]) hx hb dX8_worstOf_24 hl (by decide) rfl (fun ls hl => ?_)
        refine lv_iconst (v := 0) hx hb dX8_worstOf_26 (by decide) ?_
        refine lv_istore (lv' := [(10, .int 0), (8, .long (lN 0)), (0, .ref z), (1, .long (lN sm)), (3, .int (nI (pcN sm 64))), (4, .long (lN bm)), (6, .int (nI le)), (7, .int (nI t))]) hx hb dX8_worstOf_27 hl (by decide) rfl (fun ls hl => ?_)
        have hloop_29 : ∀ (fu : Nat) (k : Nat) (hm : Nat), 64 - k < fu → k ≤ 64 → hm = hsF sm rr t k → ∀ ls : Array Slot, lv_has ls 12 [(0, .ref z), (1, .long (lN sm)), (3, .int (nI (pcN sm 64))), (4, .long (lN bm)), (6, .int (nI le)), (7, .int (nI t)), (8, .long (lN hm)), (10, .int (nI k))] → W p l e ({ frames := 7, cells := 0, slots := 0, locals := 207 }) s m args below meth c s.heap [] 0 0 (MQ below (kQr (fun rv_ => rv_ = some (.int (nI q)))) args s 0 0 (fun _ => False)) (F0 m 29 ls []) := by
          intro fu
          induction fu with
          | zero => intro k hm hmu; exact absurd hmu (Nat.not_lt_zero _)
          | succ fu ih_29 =>
            intro k hm hmu_29 hk eh ls hl
            refine lv_iload hx hb dX8_worstOf_29 (lv_at hl 7 rfl) ?_
            refine lv_bipush (v := 64) hx hb dX8_worstOf_31 (by decide) ?_
            refine lv_icmp_ge (tgt := 78) hx hb dX8_worstOf_33 (by decide) (fun c_33 => ?_) (fun c_33 => ?_)
            · skip
              have nc_33 : 64 ≤ k := (nI_leI (a := 64) (b := k) (by omega) (by omega)).mp c_33
              have e12 : k = 64 := by omega
              rw [show (lN hm : Int64) = lN (hsF sm rr t 64) from by rw [eh, e12]] at hl
              refine lv_lload hx hb dX8_worstOf_78 (lv_at hl 6 rfl) ?_
              refine kGoR (va_runS (As := [.long (lN (hsF sm rr t 64))]) (rest := []) ⟨hx, hb, hml, hown, hts⟩ (c_J13_bitCount_95d88 l D cI cJ cZ cO (hsF sm rr t 64) (hs_lt64 sm rr t (Nat.le_refl _))) (va_cwS 1 hts gX8_worstOf_J13_bitCount_95d88 rfl rfl rfl (by decide +kernel) ⟨Nat.le_of_ble_eq_true rfl, Nat.le_of_ble_eq_true rfl⟩) (kPreSR hK (kPc_sub hP [] rfl)) rfl rfl hl.1 rfl (lv_room (Nat.le_of_ble_eq_true rfl)) dX8_worstOf_80 ⟨Nat.le_of_ble_eq_true rfl, Nat.le_of_ble_eq_true rfl⟩) (fun v_7 hv_7 => ?_)
              obtain rfl := hv_7
              refine W.eq (g2 := F0 m 83 ls [.int (nI (pcN (hsF sm rr t 64) 64))]) rfl ?_
              refine lv_istore (lv' := [(10, .int (nI (pcN (hsF sm rr t 64) 64))), (0, .ref z), (1, .long (lN sm)), (3, .int (nI (pcN sm 64))), (4, .long (lN bm)), (6, .int (nI le)), (7, .int (nI t)), (8, .long (lN (hsF sm rr t 64)))]) hx hb dX8_worstOf_83 hl (by decide) rfl (fun ls hl => ?_)
              refine lv_iload hx hb dX8_worstOf_85 (lv_at hl 0 rfl) ?_
              refine lv_iload_n hx hb dX8_worstOf_87 rfl (lv_at hl 3 rfl) ?_
              refine lv_iload hx hb dX8_worstOf_88 (lv_at hl 0 rfl) ?_
              refine lv_isub hx hb dX8_worstOf_90 ?_
              refine lv_topi (fun nv_8 ev_8 => ?_)
              obtain rfl : nv_8 = nI (pcN sm 64 - pcN (hsF sm rr t 64) 64) := ev_8.trans (pk_sub hmle)
              refine lv_icmp_le (tgt := 99) hx hb dX8_worstOf_91 (by decide) (fun c_91 => ?_) (fun c_91 => ?_)
              · skip
                have nc_91 : (pcN (hsF sm rr t 64) 64) ≤ (pcN sm 64 - pcN (hsF sm rr t 64) 64) := (nI_leI (a := pcN (hsF sm rr t 64) 64) (b := pcN sm 64 - pcN (hsF sm rr t 64) 64) (by omega) (by omega)).mp c_91
                refine lv_iload_n hx hb dX8_worstOf_99 rfl (lv_at hl 3 rfl) ?_
                refine lv_iload hx hb dX8_worstOf_100 (lv_at hl 0 rfl) ?_
                refine lv_isub hx hb dX8_worstOf_102 ?_
                refine lv_topi (fun nv_9 ev_9 => ?_)
                obtain rfl : nv_9 = nI (pcN sm 64 - pcN (hsF sm rr t 64) 64) := ev_9.trans (pk_sub hmle)
                refine lv_istore (lv' := [(11, .int (nI (pcN sm 64 - pcN (hsF sm rr t 64) 64))), (10, .int (nI (pcN (hsF sm rr t 64) 64))), (0, .ref z), (1, .long (lN sm)), (3, .int (nI (pcN sm 64))), (4, .long (lN bm)), (6, .int (nI le)), (7, .int (nI t)), (8, .long (lN (hsF sm rr t 64)))]) hx hb dX8_worstOf_103 hl (by decide) rfl (fun ls hl => ?_)
                refine lv_iload hx hb dX8_worstOf_105 (lv_at hl 0 rfl) ?_
                refine lv_iload hx hb dX8_worstOf_107 (lv_at hl 6 rfl) ?_
                refine lv_icmp_lt (tgt := 115) hx hb dX8_worstOf_109 (by decide) (fun c_109 => ?_) (fun c_109 => ?_)
                · skip
                  have nc_109 : (pcN sm 64 - pcN (hsF sm rr t 64) 64) < le := (nI_ltI (a := pcN sm 64 - pcN (hsF sm rr t 64) 64) (b := le) (by omega) (by omega)).mp c_109
                  refine lv_iload hx hb dX8_worstOf_115 (lv_at hl 0 rfl) ?_
                  refine lv_istore (lv' := [(6, .int (nI (pcN sm 64 - pcN (hsF sm rr t 64) 64))), (11, .int (nI (pcN sm 64 - pcN (hsF sm rr t 64) 64))), (10, .int (nI (pcN (hsF sm rr t 64) 64))), (0, .ref z), (1, .long (lN sm)), (3, .int (nI (pcN sm 64))), (4, .long (lN bm)), (7, .int (nI t)), (8, .long (lN (hsF sm rr t 64)))]) hx hb dX8_worstOf_117 hl (by decide) rfl (fun ls hl => ?_)
                  refine lv_lload hx hb dX8_worstOf_119 (lv_at hl 8 rfl) ?_
                  refine lv_lstore (lv' := [(4, .long (lN (hsF sm rr t 64))), (6, .int (nI (pcN sm 64 - pcN (hsF sm rr t 64) 64))), (11, .int (nI (pcN sm 64 - pcN (hsF sm rr t 64) 64))), (10, .int (nI (pcN (hsF sm rr t 64) 64))), (0, .ref z), (1, .long (lN sm)), (3, .int (nI (pcN sm 64))), (7, .int (nI t)), (8, .long (lN (hsF sm rr t 64)))]) hx hb dX8_worstOf_121 hl (by decide) rfl (fun ls hl => ?_)
                  refine lv_iinc (v := nI (t + 1)) (lv' := [(7, .int (nI (t + 1))), (4, .long (lN (hsF sm rr t 64))), (6, .int (nI (pcN sm 64 - pcN (hsF sm rr t 64) 64))), (11, .int (nI (pcN sm 64 - pcN (hsF sm rr t 64) 64))), (10, .int (nI (pcN (hsF sm rr t 64) 64))), (0, .ref z), (1, .long (lN sm)), (3, .int (nI (pcN sm 64))), (8, .long (lN (hsF sm rr t 64)))]) hx hb dX8_worstOf_123 hl (k := 7) rfl (nI_1 _) (by decide) rfl (fun ls hl => ?_)
                  refine lv_goto (tgt := 14) hx hb dX8_worstOf_126 (by decide) ?_
                  exact ih_14  (t + 1) (hsF sm rr t 64) (pcN sm 64 - pcN (hsF sm rr t 64) 64) (by omega) (by first | exact Nat.zero_le _ | omega) (by first | (subst eb; subst el; simp [wsF, moreW, c_20, nc_20, c_33, nc_33, c_91, nc_91, c_109, nc_109]; done) | (subst eb; subst el; simp [wsF, moreW, c_20, nc_20, c_33, nc_33, c_91, nc_91, c_109, nc_109]; omega)) (by first | (subst eb; subst el; simp [wsF, moreW, c_20, nc_20, c_33, nc_33, c_91, nc_91, c_109, nc_109]; done) | (subst eb; subst el; simp [wsF, moreW, c_20, nc_20, c_33, nc_33, c_91, nc_91, c_109, nc_109]; omega)) _ (lv_sub hl [5, 6, 7, 1, 2, 0] rfl)
                · skip
                  have nc_109 : ¬ (pcN sm 64 - pcN (hsF sm rr t 64) 64) < le := (not_congr (nI_ltI (a := pcN sm 64 - pcN (hsF sm rr t 64) 64) (b := le) (by omega) (by omega))).mp c_109
                  refine lv_goto (tgt := 123) hx hb dX8_worstOf_112 (by decide) ?_
                  refine lv_iinc (v := nI (t + 1)) (lv' := [(7, .int (nI (t + 1))), (11, .int (nI (pcN sm 64 - pcN (hsF sm rr t 64) 64))), (10, .int (nI (pcN (hsF sm rr t 64) 64))), (0, .ref z), (1, .long (lN sm)), (3, .int (nI (pcN sm 64))), (4, .long (lN bm)), (6, .int (nI le)), (8, .long (lN (hsF sm rr t 64)))]) hx hb dX8_worstOf_123 hl (k := 7) rfl (nI_1 _) (by decide) rfl (fun ls hl => ?_)
                  refine lv_goto (tgt := 14) hx hb dX8_worstOf_126 (by decide) ?_
                  exact ih_14  (t + 1) bm le (by omega) (by first | exact Nat.zero_le _ | omega) (by first | (subst eb; subst el; simp [wsF, moreW, c_20, nc_20, c_33, nc_33, c_91, nc_91, c_109, nc_109]; done) | (subst eb; subst el; simp [wsF, moreW, c_20, nc_20, c_33, nc_33, c_91, nc_91, c_109, nc_109]; omega)) (by first | (subst eb; subst el; simp [wsF, moreW, c_20, nc_20, c_33, nc_33, c_91, nc_91, c_109, nc_109]; done) | (subst eb; subst el; simp [wsF, moreW, c_20, nc_20, c_33, nc_33, c_91, nc_91, c_109, nc_109]; omega)) _ (lv_sub hl [3, 4, 5, 6, 7, 0] rfl)
              · skip
                have nc_91 : ¬ (pcN (hsF sm rr t 64) 64) ≤ (pcN sm 64 - pcN (hsF sm rr t 64) 64) := (not_congr (nI_leI (a := pcN (hsF sm rr t 64) 64) (b := pcN sm 64 - pcN (hsF sm rr t 64) 64) (by omega) (by omega))).mp c_91
                refine lv_iload hx hb dX8_worstOf_94 (lv_at hl 0 rfl) ?_
                refine lv_goto (tgt := 103) hx hb dX8_worstOf_96 (by decide) ?_
                refine lv_istore (lv' := [(11, .int (nI (pcN (hsF sm rr t 64) 64))), (10, .int (nI (pcN (hsF sm rr t 64) 64))), (0, .ref z), (1, .long (lN sm)), (3, .int (nI (pcN sm 64))), (4, .long (lN bm)), (6, .int (nI le)), (7, .int (nI t)), (8, .long (lN (hsF sm rr t 64)))]) hx hb dX8_worstOf_103 hl (by decide) rfl (fun ls hl => ?_)
                refine lv_iload hx hb dX8_worstOf_105 (lv_at hl 0 rfl) ?_
                refine lv_iload hx hb dX8_worstOf_107 (lv_at hl 6 rfl) ?_
                refine lv_icmp_lt (tgt := 115) hx hb dX8_worstOf_109 (by decide) (fun c_109 => ?_) (fun c_109 => ?_)
                · skip
                  have nc_109 : (pcN (hsF sm rr t 64) 64) < le := (nI_ltI (a := pcN (hsF sm rr t 64) 64) (b := le) (by omega) (by omega)).mp c_109
                  refine lv_iload hx hb dX8_worstOf_115 (lv_at hl 0 rfl) ?_
                  refine lv_istore (lv' := [(6, .int (nI (pcN (hsF sm rr t 64) 64))), (11, .int (nI (pcN (hsF sm rr t 64) 64))), (10, .int (nI (pcN (hsF sm rr t 64) 64))), (0, .ref z), (1, .long (lN sm)), (3, .int (nI (pcN sm 64))), (4, .long (lN bm)), (7, .int (nI t)), (8, .long (lN (hsF sm rr t 64)))]) hx hb dX8_worstOf_117 hl (by decide) rfl (fun ls hl => ?_)
                  refine lv_lload hx hb dX8_worstOf_119 (lv_at hl 8 rfl) ?_
                  refine lv_lstore (lv' := [(4, .long (lN (hsF sm rr t 64))), (6, .int (nI (pcN (hsF sm rr t 64) 64))), (11, .int (nI (pcN (hsF sm rr t 64) 64))), (10, .int (nI (pcN (hsF sm rr t 64) 64))), (0, .ref z), (1, .long (lN sm)), (3, .int (nI (pcN sm 64))), (7, .int (nI t)), (8, .long (lN (hsF sm rr t 64)))]) hx hb dX8_worstOf_121 hl (by decide) rfl (fun ls hl => ?_)
                  refine lv_iinc (v := nI (t + 1)) (lv' := [(7, .int (nI (t + 1))), (4, .long (lN (hsF sm rr t 64))), (6, .int (nI (pcN (hsF sm rr t 64) 64))), (11, .int (nI (pcN (hsF sm rr t 64) 64))), (10, .int (nI (pcN (hsF sm rr t 64) 64))), (0, .ref z), (1, .long (lN sm)), (3, .int (nI (pcN sm 64))), (8, .long (lN (hsF sm rr t 64)))]) hx hb dX8_worstOf_123 hl (k := 7) rfl (nI_1 _) (by decide) rfl (fun ls hl => ?_)
                  refine lv_goto (tgt := 14) hx hb dX8_worstOf_126 (by decide) ?_
                  exact ih_14  (t + 1) (hsF sm rr t 64) (pcN (hsF sm rr t 64) 64) (by omega) (by first | exact Nat.zero_le _ | omega) (by first | (subst eb; subst el; simp [wsF, moreW, c_20, nc_20, c_33, nc_33, c_91, nc_91, c_109, nc_109]; done) | (subst eb; subst el; simp [wsF, moreW, c_20, nc_20, c_33, nc_33, c_91, nc_91, c_109, nc_109]; omega)) (by first | (subst eb; subst el; simp [wsF, moreW, c_20, nc_20, c_33, nc_33, c_91, nc_91, c_109, nc_109]; done) | (subst eb; subst el; simp [wsF, moreW, c_20, nc_20, c_33, nc_33, c_91, nc_91, c_109, nc_109]; omega)) _ (lv_sub hl [5, 6, 7, 1, 2, 0] rfl)
                · skip
                  have nc_109 : ¬ (pcN (hsF sm rr t 64) 64) < le := (not_congr (nI_ltI (a := pcN (hsF sm rr t 64) 64) (b := le) (by omega) (by omega))).mp c_109
                  refine lv_goto (tgt := 123) hx hb dX8_worstOf_112 (by decide) ?_
                  refine lv_iinc (v := nI (t + 1)) (lv' := [(7, .int (nI (t + 1))), (11, .int (nI (pcN (hsF sm rr t 64) 64))), (10, .int (nI (pcN (hsF sm rr t 64) 64))), (0, .ref z), (1, .long (lN sm)), (3, .int (nI (pcN sm 64))), (4, .long (lN bm)), (6, .int (nI le)), (8, .long (lN (hsF sm rr t 64)))]) hx hb dX8_worstOf_123 hl (k := 7) rfl (nI_1 _) (by decide) rfl (fun ls hl => ?_)
                  refine lv_goto (tgt := 14) hx hb dX8_worstOf_126 (by decide) ?_
                  exact ih_14  (t + 1) bm le (by omega) (by first | exact Nat.zero_le _ | omega) (by first | (subst eb; subst el; simp [wsF, moreW, c_20, nc_20, c_33, nc_33, c_91, nc_91, c_109, nc_109]; done) | (subst eb; subst el; simp [wsF, moreW, c_20, nc_20, c_33, nc_33, c_91, nc_91, c_109, nc_109]; omega)) (by first | (subst eb; subst el; simp [wsF, moreW, c_20, nc_20, c_33, nc_33, c_91, nc_91, c_109, nc_109]; done) | (subst eb; subst el; simp [wsF, moreW, c_20, nc_20, c_33, nc_33, c_91, nc_91, c_109, nc_109]; omega)) _ (lv_sub hl [3, 4, 5, 6, 7, 0] rfl)
            · skip
              have nc_33 : ¬ 64 ≤ k := (not_congr (nI_leI (a := 64) (b := k) (by omega) (by omega))).mp c_33
              refine lv_lload_n hx hb dX8_worstOf_36 rfl (lv_at hl 1 rfl) ?_
              refine lv_iload hx hb dX8_worstOf_37 (lv_at hl 7 rfl) ?_
              refine lv_lshr hx hb dX8_worstOf_39 rfl ?_
              refine lv_lconst (v := 1) hx hb dX8_worstOf_40 (by decide) ?_
              refine lv_land hx hb dX8_worstOf_41 ?_
              refine lv_topl (fun nv_10 ev_10 => ?_)
              obtain rfl : nv_10 = lN (if sm.testBit k then 1 else 0) := ev_10.trans (lx_bit (by omega))
              refine lv_lconst (v := 1) hx hb dX8_worstOf_42 (by decide) ?_
              refine W.lcmp hx hb dX8_worstOf_43 ?_
              refine lv_if_ne (tgt := 72) hx hb dX8_worstOf_44 (by decide) (fun c_44 => ?_) (fun c_44 => ?_)
              · skip
                have c_44b : sm.testBit k = false := by cases hz : sm.testBit k with | false => rfl | true => exact absurd (lx_ne.mpr hz) c_44
                refine lv_iinc (v := nI (k + 1)) (lv' := [(10, .int (nI (k + 1))), (0, .ref z), (1, .long (lN sm)), (3, .int (nI (pcN sm 64))), (4, .long (lN bm)), (6, .int (nI le)), (7, .int (nI t)), (8, .long (lN hm))]) hx hb dX8_worstOf_72 hl (k := 7) rfl (nI_1 _) (by decide) rfl (fun ls hl => ?_)
                refine lv_goto (tgt := 29) hx hb dX8_worstOf_75 (by decide) ?_
                exact ih_29  (k + 1) hm (by omega) (by first | exact Nat.zero_le _ | omega) (by subst eh; simp [hsF, c_20, nc_20, c_33, nc_33, c_44, c_44b]) _ (lv_sub hl [1, 2, 3, 4, 5, 6, 7, 0] rfl)
              · skip
                have c_44b : sm.testBit k = true := lx_ne.mp c_44
                refine lv_aload_n hx hb dX8_worstOf_47 rfl (lv_at hl 0 rfl) ?_
                refine va_get (D := D) (ci := 9) (v := .ref a15) (C := RX8) (T := TX8) (N := 24) hx hb hts hi_X8 hown hK.1 hP 0 rfl rfl 23 (by decide) hw_f60 (fun _ h9 => h9) rfl dX8_worstOf_48 ?_
                refine lv_iload hx hb dX8_worstOf_51 (lv_at hl 7 rfl) ?_
                refine va_iald hx hb hK.1 hP 1 0 rfl rfl (vp_in_nI (by omega) (by omega)) dX8_worstOf_53 ?_
                refine lv_topi (fun nv_11 ev_11 => ?_)
                obtain rfl : nv_11 = (nF rr) k := by rw [ev_11, nI_clamp (by omega)]
                refine lv_topi (fun nv_12 ev_12 => ?_)
                obtain rfl : nv_12 = nI (rr k) := ev_12.trans (rfl)
                refine lv_iload hx hb dX8_worstOf_54 (lv_at hl 5 rfl) ?_
                refine lv_ishr hx hb dX8_worstOf_56 ?_
                refine lv_iconst (v := 1) hx hb dX8_worstOf_57 (by decide) ?_
                refine lv_iand hx hb dX8_worstOf_58 ?_
                refine lv_topi (fun nv_13 ev_13 => ?_)
                obtain rfl : nv_13 = k01 ((rr k).testBit t) := ev_13.trans (hx_k01 (by have := hrr k; omega) (by omega))
                refine lv_iconst (v := 1) hx hb dX8_worstOf_59 (by decide) ?_
                refine lv_icmp_ne (tgt := 72) hx hb dX8_worstOf_60 (by decide) (fun c_60 => ?_) (fun c_60 => ?_)
                · skip
                  have c_60b : (rr k).testBit t = false := by cases hz : (rr k).testBit t with | false => rfl | true => exact absurd (by rw [hz]; rfl) c_60
                  refine lv_iinc (v := nI (k + 1)) (lv' := [(10, .int (nI (k + 1))), (0, .ref z), (1, .long (lN sm)), (3, .int (nI (pcN sm 64))), (4, .long (lN bm)), (6, .int (nI le)), (7, .int (nI t)), (8, .long (lN hm))]) hx hb dX8_worstOf_72 hl (k := 7) rfl (nI_1 _) (by decide) rfl (fun ls hl => ?_)
                  refine lv_goto (tgt := 29) hx hb dX8_worstOf_75 (by decide) ?_
                  exact ih_29  (k + 1) hm (by omega) (by first | exact Nat.zero_le _ | omega) (by subst eh; simp [hsF, c_20, nc_20, c_33, nc_33, c_44, c_44b, c_60, c_60b]) _ (lv_sub hl [1, 2, 3, 4, 5, 6, 7, 0] rfl)
                · skip
                  have c_60b : (rr k).testBit t = true := by cases hz : (rr k).testBit t with | true => rfl | false => exact absurd c_60 (by rw [hz]; decide)
                  refine lv_lload hx hb dX8_worstOf_63 (lv_at hl 6 rfl) ?_
                  refine lv_lconst (v := 1) hx hb dX8_worstOf_65 (by decide) ?_
                  refine lv_iload hx hb dX8_worstOf_66 (lv_at hl 7 rfl) ?_
                  refine lv_lshl hx hb dX8_worstOf_68 rfl ?_
                  refine lv_topl (fun nv_14 ev_14 => ?_)
                  obtain rfl : nv_14 = lN (2 ^ k) := ev_14.trans (lx_pow (by omega))
                  refine lv_lor hx hb dX8_worstOf_69 ?_
                  refine lv_topl (fun nv_15 ev_15 => ?_)
                  obtain rfl : nv_15 = lN (hm ||| 2 ^ k) := ev_15.trans (lx_or (by rw [eh]; exact hs_lt64 sm rr t (by omega)) (by omega))
                  refine lv_lstore (lv' := [(8, .long (lN (hm ||| 2 ^ k))), (0, .ref z), (1, .long (lN sm)), (3, .int (nI (pcN sm 64))), (4, .long (lN bm)), (6, .int (nI le)), (7, .int (nI t)), (10, .int (nI k))]) hx hb dX8_worstOf_70 hl (by decide) rfl (fun ls hl => ?_)
                  refine lv_iinc (v := nI (k + 1)) (lv' := [(10, .int (nI (k + 1))), (8, .long (lN (hm ||| 2 ^ k))), (0, .ref z), (1, .long (lN sm)), (3, .int (nI (pcN sm 64))), (4, .long (lN bm)), (6, .int (nI le)), (7, .int (nI t))]) hx hb dX8_worstOf_72 hl (k := 7) rfl (nI_1 _) (by decide) rfl (fun ls hl => ?_)
                  refine lv_goto (tgt := 29) hx hb dX8_worstOf_75 (by decide) ?_
                  exact ih_29  (k + 1) (hm ||| 2 ^ k) (by omega) (by first | exact Nat.zero_le _ | omega) (by subst eh; simp [hsF, c_20, nc_20, c_33, nc_33, c_44, c_44b, c_60, c_60b]) _ (lv_sub hl [2, 3, 4, 5, 6, 7, 1, 0] rfl)
        exact hloop_29 ((64 - 0) + 1) 0 0 (Nat.lt_succ_self _) (by exact Nat.zero_le _) (by rfl) _ (lv_sub hl [2, 3, 4, 5, 6, 7, 1, 0] rfl)
  exact hloop_14 ((T - 0) + 1) 0 0 (pcN sm 64) (Nat.lt_succ_self _) (by exact Nat.zero_le _) (by rfl) (by rfl) _ (lv_sub hl [4, 5, 3, 2, 1, 0] rfl)

set_option maxHeartbeats 4000000 in
set_option maxRecDepth 100000 in
theorem c_X8_wo_5 (l : Launch) (D : va_G) (cI cJ cZ cO : ClassId) (z : Nat) (a0 : Nat) (a1 : Nat) (a2 : Nat) (a3 : Nat) (a4 : Nat) (a5 : Nat) (a6 : Nat) (a7 : Nat) (a8 : Nat) (a9 : Nat) (a10 : Nat) (a11 : Nat) (a12 : Nat) (a13 : Nat) (a14 : Nat) (a15 : Nat) (T : Nat) (P : Nat) (pa : Int32) (kn : Int32) (rn : Nat) (ln : Nat) (th : Int32) (wt : Int32) (rr : Nat → Nat) (sm : Nat) (fq : Nat) (q : Nat) (hT : T ≤ 12) (hs : sm < 2 ^ 64) (hrt : ∀ k, k < 64 → sm.testBit k = true → rr k < 2 ^ T) (hrr : ∀ k, rr k < 4096) (hfu : fq = 12 - 5) (hsp : spN (mCt sm rr) ≤ fq) (hq : q = WN fq (mCt sm rr)) : kR l D (kTY cI cJ cZ cO) yX8_worstOf wsX8_worstOf 8 238 [.ref z, .long (lN sm)] [(z, .inr (9, [.ref a0, .ref a1, .int (nI T), .ref a2, .ref a3, .ref a4, .ref a5, .ref a6, .int (nI P), .int pa, .int kn, .ref a7, .int (nI rn), .ref a8, .ref a9, .int (nI ln), .ref a10, .int th, .ref a11, .ref a12, .int wt, .ref a13, .ref a14, .ref a15])), (a15, .inl (cI, 64, .inl (nF rr)))] (fun rv_ => rv_ = some (.int (nI q))) := by
  refine kEnterR (cc := cX8_worstOf) (maxL := 12) (ret := (some .int)) (by decide) rfl (Nat.le_of_ble_eq_true rfl) ?_
  intro p e s m args below meth c hx hb hr hml hts hown hlk hK hP ls hl
  have hl : lv_has ls 12 [(0, .ref z), (1, .long (lN sm))] := hl
  have hw_f66 := hts (.fieldLink RX8 66 "WhatToReadModel" "topics" "I") (by decide +kernel)
  have hi_X8 : ∀ w ∈ wsX80, w ∈ wsX8_worstOf := by decide +kernel
  have hw_f60 := hts (.fieldLink RX8 60 "WhatToReadModel" "row64" "[I") (by decide +kernel)
  refine lv_lload_n hx hb dX8_worstOf_0 rfl (lv_at hl 1 rfl) ?_
  refine kGoR (va_runS (As := [.long (lN sm)]) (rest := []) ⟨hx, hb, hml, hown, hts⟩ (c_J13_bitCount_95d88 l D cI cJ cZ cO sm (hs)) (va_cwS 1 hts gX8_worstOf_J13_bitCount_95d88 rfl rfl rfl (by decide +kernel) ⟨Nat.le_of_ble_eq_true rfl, Nat.le_of_ble_eq_true rfl⟩) (kPreSR hK (kPc_sub hP [] rfl)) rfl rfl hl.1 rfl (lv_room (Nat.le_of_ble_eq_true rfl)) dX8_worstOf_1 ⟨Nat.le_of_ble_eq_true rfl, Nat.le_of_ble_eq_true rfl⟩) (fun v_1 hv_1 => ?_)
  obtain rfl := hv_1
  refine W.eq (g2 := F0 m 4 ls [.int (nI (pcN sm 64))]) rfl ?_
  refine lv_istore_n (lv' := [(3, .int (nI (pcN sm 64))), (0, .ref z), (1, .long (lN sm))]) hx hb dX8_worstOf_4 rfl hl (by decide) rfl (fun ls hl => ?_)
  refine lv_lconst (v := 0) hx hb dX8_worstOf_5 (by decide) ?_
  refine lv_topl (fun nv_2 ev_2 => ?_)
  obtain rfl : nv_2 = lN 0 := ev_2.trans (rfl)
  refine lv_lstore (lv' := [(4, .long (lN 0)), (3, .int (nI (pcN sm 64))), (0, .ref z), (1, .long (lN sm))]) hx hb dX8_worstOf_6 hl (by decide) rfl (fun ls hl => ?_)
  refine lv_iload_n hx hb dX8_worstOf_8 rfl (lv_at hl 1 rfl) ?_
  refine lv_istore (lv' := [(6, .int (nI (pcN sm 64))), (4, .long (lN 0)), (3, .int (nI (pcN sm 64))), (0, .ref z), (1, .long (lN sm))]) hx hb dX8_worstOf_9 hl (by decide) rfl (fun ls hl => ?_)
  refine lv_iconst (v := 0) hx hb dX8_worstOf_11 (by decide) ?_
  refine lv_istore (lv' := [(7, .int 0), (6, .int (nI (pcN sm 64))), (4, .long (lN 0)), (3, .int (nI (pcN sm 64))), (0, .ref z), (1, .long (lN sm))]) hx hb dX8_worstOf_12 hl (by decide) rfl (fun ls hl => ?_)
  have hloop_14 : ∀ (fu : Nat) (t : Nat) (bm : Nat) (le : Nat), T - t < fu → t ≤ T → bm = (wsF sm rr (pcN sm 64) t).1 → le = (wsF sm rr (pcN sm 64) t).2 → ∀ ls : Array Slot, lv_has ls 12 [(0, .ref z), (1, .long (lN sm)), (3, .int (nI (pcN sm 64))), (4, .long (lN bm)), (6, .int (nI le)), (7, .int (nI t))] → W p l e ({ frames := 8, cells := 0, slots := 0, locals := 238 }) s m args below meth c s.heap [] 0 0 (MQ below (kQr (fun rv_ => rv_ = some (.int (nI q)))) args s 0 0 (fun _ => False)) (F0 m 14 ls []) := by
    intro fu
    induction fu with
    | zero => intro t bm le hmu; exact absurd hmu (Nat.not_lt_zero _)
    | succ fu ih_14 =>
      intro t bm le hmu_14 ht eb el ls hl
      have hal := pcN_le sm 64
      have hmle := hs_le sm rr t
      have hl2 := ws2_le sm rr (pcN sm 64) t
      refine lv_iload hx hb dX8_worstOf_14 (lv_at hl 5 rfl) ?_
      refine lv_aload_n hx hb dX8_worstOf_16 rfl (lv_at hl 0 rfl) ?_
      refine va_get (D := D) (ci := 9) (v := .int (nI T)) (C := RX8) (T := TX8) (N := 24) hx hb hts hi_X8 hown hK.1 hP 0 rfl rfl 2 (by decide) hw_f66 (fun _ h9 => h9) rfl dX8_worstOf_17 ?_
      refine lv_icmp_ge (tgt := 129) hx hb dX8_worstOf_20 (by decide) (fun c_20 => ?_) (fun c_20 => ?_)
      · skip
        have nc_20 : T ≤ t := (nI_leI (a := T) (b := t) (by omega) (by omega)).mp c_20
        have e13 : t = T := by omega
        have hle2 : le ≤ pcN sm 64 := by rw [el]; exact ws2_le sm rr _ t
        obtain ⟨wq, hwq⟩ : ∃ wq, wq = wsF sm rr (pcN sm 64) T := ⟨_, rfl⟩
        rw [e13, ← hwq] at eb el
        have hwe := ws_end hT hrt hwq
        refine lv_iload hx hb dX8_worstOf_129 (lv_at hl 4 rfl) ?_
        refine lv_iload_n hx hb dX8_worstOf_131 rfl (lv_at hl 2 rfl) ?_
        refine lv_icmp_ne (tgt := 137) hx hb dX8_worstOf_132 (by decide) (fun c_132 => ?_) (fun c_132 => ?_)
        · skip
          have nc_132 : ¬ le = (pcN sm 64) := (not_congr (nI_eq (a := le) (b := pcN sm 64) (by omega) (by omega))).mp c_132
          obtain ⟨w1, w2, w3, w4, w5, w6, w7⟩ := hwe.2 (by omega)
          obtain ⟨fd, hfd⟩ : ∃ fd, fq = fd + 1 := ⟨fq - 1, by omega⟩
          obtain ⟨q1, hq1⟩ : ∃ q1, q1 = WN fd (mCt wq.1 rr) := ⟨_, rfl⟩
          obtain ⟨q2, hq2⟩ : ∃ q2, q2 = WN fd (mCt (andn sm wq.1) rr) := ⟨_, rfl⟩
          have hq1l : q1 ≤ fd := by rw [hq1]; exact WN_le _ _
          have hq2l : q2 ≤ fd := by rw [hq2]; exact WN_le _ _
          have hfin0 : q = 1 + max q2 q1 := by rw [hq, hfd, w7 fd, hq1, hq2]
          refine lv_aload_n hx hb dX8_worstOf_137 rfl (lv_at hl 0 rfl) ?_
          refine lv_lload hx hb dX8_worstOf_138 (lv_at hl 3 rfl) ?_
          refine kGoR (va_runV (As := [.long (lN bm)]) (rest := []) ⟨hx, hb, hml, hown, hts⟩ (c_X8_wo_6 l D cI cJ cZ cO z a0 a1 a2 a3 a4 a5 a6 a7 a8 a9 a10 a11 a12 a13 a14 a15 T P pa kn rn ln th wt rr bm fd q1 (by first | assumption | omega | decide) (by rw [eb]; exact w1) (by rw [eb]; exact w2) (hrr) (by omega) (by rw [eb]; omega) (by rw [hq1, eb])) (cwV 1 hts gX8_worstOf_X8_worstOf rfl rfl rfl (by decide +kernel) ⟨Nat.le_of_ble_eq_true rfl, Nat.le_of_ble_eq_true rfl⟩) (kPreVR (ci := 9) (q0 := 0) hK (kPc_sub hP [0, 1] rfl) rfl rfl rfl) rfl rfl hl.1 rfl (lv_room (Nat.le_of_ble_eq_true rfl)) dX8_worstOf_140 ⟨Nat.le_of_ble_eq_true rfl, Nat.le_of_ble_eq_true rfl⟩) (fun v_3 hv_3 => ?_)
          obtain rfl := hv_3
          refine W.eq (g2 := F0 m 143 ls [.int (nI q1)]) rfl ?_
          refine lv_istore (lv' := [(7, .int (nI q1)), (0, .ref z), (1, .long (lN sm)), (3, .int (nI (pcN sm 64))), (4, .long (lN bm)), (6, .int (nI le))]) hx hb dX8_worstOf_143 hl (by decide) rfl (fun ls hl => ?_)
          refine lv_aload_n hx hb dX8_worstOf_145 rfl (lv_at hl 1 rfl) ?_
          refine lv_lload_n hx hb dX8_worstOf_146 rfl (lv_at hl 2 rfl) ?_
          refine lv_lload hx hb dX8_worstOf_147 (lv_at hl 4 rfl) ?_
          refine lv_ldc2 (v := (-1)) hx hb hown (hts (.constantLong RX8 143 (-1)) (by decide +kernel)) dX8_worstOf_149 ?_
          refine lv_lxor hx hb dX8_worstOf_152 ?_
          refine lv_land hx hb dX8_worstOf_153 ?_
          refine lv_topl (fun nv_4 ev_4 => ?_)
          obtain rfl : nv_4 = lN (andn sm bm) := ev_4.trans (lx_andn hs (by rw [eb, hwq]; exact ws1_lt sm rr _ T))
          refine kGoR (va_runV (As := [.long (lN (andn sm bm))]) (rest := []) ⟨hx, hb, hml, hown, hts⟩ (c_X8_wo_6 l D cI cJ cZ cO z a0 a1 a2 a3 a4 a5 a6 a7 a8 a9 a10 a11 a12 a13 a14 a15 T P pa kn rn ln th wt rr (andn sm bm) fd q2 (by first | assumption | omega | decide) (Nat.lt_of_le_of_lt (andn_le _ _) hs) (by rw [eb]; exact w3) (hrr) (by omega) (by rw [eb]; omega) (by rw [hq2, eb])) (cwV 1 hts gX8_worstOf_X8_worstOf rfl rfl rfl (by decide +kernel) ⟨Nat.le_of_ble_eq_true rfl, Nat.le_of_ble_eq_true rfl⟩) (kPreVR (ci := 9) (q0 := 0) hK (kPc_sub hP [0, 1] rfl) rfl rfl rfl) rfl rfl hl.1 rfl (lv_room (Nat.le_of_ble_eq_true rfl)) dX8_worstOf_154 ⟨Nat.le_of_ble_eq_true rfl, Nat.le_of_ble_eq_true rfl⟩) (fun v_5 hv_5 => ?_)
          obtain rfl := hv_5
          refine W.eq (g2 := F0 m 157 ls [.int (nI q2)]) rfl ?_
          refine lv_istore (lv' := [(8, .int (nI q2)), (7, .int (nI q1)), (0, .ref z), (1, .long (lN sm)), (3, .int (nI (pcN sm 64))), (4, .long (lN bm)), (6, .int (nI le))]) hx hb dX8_worstOf_157 hl (by decide) rfl (fun ls hl => ?_)
          refine lv_iconst (v := 1) hx hb dX8_worstOf_159 (by decide) ?_
          refine lv_iload hx hb dX8_worstOf_160 (lv_at hl 1 rfl) ?_
          refine lv_iload hx hb dX8_worstOf_162 (lv_at hl 0 rfl) ?_
          refine lv_icmp_le (tgt := 172) hx hb dX8_worstOf_164 (by decide) (fun c_164 => ?_) (fun c_164 => ?_)
          · skip
            have nc_164 : q1 ≤ q2 := (nI_leI (a := q1) (b := q2) (by omega) (by omega)).mp c_164
            have hfin : (1 : Int32) + nI q2 = nI q := by rw [hfin0, show max q2 q1 = q2 by omega]; exact nI_add 1 _
            refine lv_iload hx hb dX8_worstOf_172 (lv_at hl 0 rfl) ?_
            refine lv_iadd hx hb dX8_worstOf_174 ?_
            exact kRetIr hx hb hr hlk dX8_worstOf_175 (kpi (by first | (rw [hq, hwe.1 (by omega)]; rfl) | (rw [hfin]; done)))
          · skip
            have nc_164 : ¬ q1 ≤ q2 := (not_congr (nI_leI (a := q1) (b := q2) (by omega) (by omega))).mp c_164
            have hfin : (1 : Int32) + nI q1 = nI q := by rw [hfin0, show max q2 q1 = q1 by omega]; exact nI_add 1 _
            refine lv_iload hx hb dX8_worstOf_167 (lv_at hl 1 rfl) ?_
            refine lv_goto (tgt := 174) hx hb dX8_worstOf_169 (by decide) ?_
            refine lv_iadd hx hb dX8_worstOf_174 ?_
            exact kRetIr hx hb hr hlk dX8_worstOf_175 (kpi (by first | (rw [hq, hwe.1 (by omega)]; rfl) | (rw [hfin]; done)))
        · skip
          have nc_132 : le = (pcN sm 64) := (nI_eq (a := le) (b := pcN sm 64) (by omega) (by omega)).mp c_132
          refine lv_iconst (v := 0) hx hb dX8_worstOf_135 (by decide) ?_
          exact kRetIr hx hb hr hlk dX8_worstOf_136 (kpi (by first | (rw [hq, hwe.1 (by omega)]; rfl) | (rw [hfin]; done)))
      · skip
        have nc_20 : ¬ T ≤ t := (not_congr (nI_leI (a := T) (b := t) (by omega) (by omega))).mp c_20
        refine lv_lconst (v := 0) hx hb dX8_worstOf_23 (by decide) ?_
        refine lv_topl (fun nv_6 ev_6 => ?_)
        obtain rfl : nv_6 = lN 0 := ev_6.trans (rfl)
        refine lv_lstore (lv' := [(8, .long (lN 0)), (0, .ref z), (1, .long (lN sm)), (3, .int (nI (pcN sm 64))), (4, .long (lN bm)), (6, .int (nI le)), (7, .int (nI t))]) hx hb dX8_worstOf_24 hl (by decide) rfl (fun ls hl => ?_)
        refine lv_iconst (v := 0) hx hb dX8_worstOf_26 (by decide) ?_
        refine lv_istore (lv' := [(10, .int 0), (8, .long (lN 0)), (0, .ref z), (1, .long (lN sm)), (3, .int (nI (pcN sm 64))), (4, .long (lN bm)), (6, .int (nI le)), (7, .int (nI t))]) hx hb dX8_worstOf_27 hl (by decide) rfl (fun ls hl => ?_)
        have hloop_29 : ∀ (fu : Nat) (k : Nat) (hm : Nat), 64 - k < fu → k ≤ 64 → hm = hsF sm rr t k → ∀ ls : Array Slot, lv_has ls 12 [(0, .ref z), (1, .long (lN sm)), (3, .int (nI (pcN sm 64))), (4, .long (lN bm)), (6, .int (nI le)), (7, .int (nI t)), (8, .long (lN hm)), (10, .int (nI k))] → W p l e ({ frames := 8, cells := 0, slots := 0, locals := 238 }) s m args below meth c s.heap [] 0 0 (MQ below (kQr (fun rv_ => rv_ = some (.int (nI q)))) args s 0 0 (fun _ => False)) (F0 m 29 ls []) := by
          intro fu
          induction fu with
          | zero => intro k hm hmu; exact absurd hmu (Nat.not_lt_zero _)
          | succ fu ih_29 =>
            intro k hm hmu_29 hk eh ls hl
            refine lv_iload hx hb dX8_worstOf_29 (lv_at hl 7 rfl) ?_
            refine lv_bipush (v := 64) hx hb dX8_worstOf_31 (by decide) ?_
            refine lv_icmp_ge (tgt := 78) hx hb dX8_worstOf_33 (by decide) (fun c_33 => ?_) (fun c_33 => ?_)
            · skip
              have nc_33 : 64 ≤ k := (nI_leI (a := 64) (b := k) (by omega) (by omega)).mp c_33
              have e12 : k = 64 := by omega
              rw [show (lN hm : Int64) = lN (hsF sm rr t 64) from by rw [eh, e12]] at hl
              refine lv_lload hx hb dX8_worstOf_78 (lv_at hl 6 rfl) ?_
              refine kGoR (va_runS (As := [.long (lN (hsF sm rr t 64))]) (rest := []) ⟨hx, hb, hml, hown, hts⟩ (c_J13_bitCount_95d88 l D cI cJ cZ cO (hsF sm rr t 64) (hs_lt64 sm rr t (Nat.le_refl _))) (va_cwS 1 hts gX8_worstOf_J13_bitCount_95d88 rfl rfl rfl (by decide +kernel) ⟨Nat.le_of_ble_eq_true rfl, Nat.le_of_ble_eq_true rfl⟩) (kPreSR hK (kPc_sub hP [] rfl)) rfl rfl hl.1 rfl (lv_room (Nat.le_of_ble_eq_true rfl)) dX8_worstOf_80 ⟨Nat.le_of_ble_eq_true rfl, Nat.le_of_ble_eq_true rfl⟩) (fun v_7 hv_7 => ?_)
              obtain rfl := hv_7
              refine W.eq (g2 := F0 m 83 ls [.int (nI (pcN (hsF sm rr t 64) 64))]) rfl ?_
              refine lv_istore (lv' := [(10, .int (nI (pcN (hsF sm rr t 64) 64))), (0, .ref z), (1, .long (lN sm)), (3, .int (nI (pcN sm 64))), (4, .long (lN bm)), (6, .int (nI le)), (7, .int (nI t)), (8, .long (lN (hsF sm rr t 64)))]) hx hb dX8_worstOf_83 hl (by decide) rfl (fun ls hl => ?_)
              refine lv_iload hx hb dX8_worstOf_85 (lv_at hl 0 rfl) ?_
              refine lv_iload_n hx hb dX8_worstOf_87 rfl (lv_at hl 3 rfl) ?_
              refine lv_iload hx hb dX8_worstOf_88 (lv_at hl 0 rfl) ?_
              refine lv_isub hx hb dX8_worstOf_90 ?_
              refine lv_topi (fun nv_8 ev_8 => ?_)
              obtain rfl : nv_8 = nI (pcN sm 64 - pcN (hsF sm rr t 64) 64) := ev_8.trans (pk_sub hmle)
              refine lv_icmp_le (tgt := 99) hx hb dX8_worstOf_91 (by decide) (fun c_91 => ?_) (fun c_91 => ?_)
              · skip
                have nc_91 : (pcN (hsF sm rr t 64) 64) ≤ (pcN sm 64 - pcN (hsF sm rr t 64) 64) := (nI_leI (a := pcN (hsF sm rr t 64) 64) (b := pcN sm 64 - pcN (hsF sm rr t 64) 64) (by omega) (by omega)).mp c_91
                refine lv_iload_n hx hb dX8_worstOf_99 rfl (lv_at hl 3 rfl) ?_
                refine lv_iload hx hb dX8_worstOf_100 (lv_at hl 0 rfl) ?_
                refine lv_isub hx hb dX8_worstOf_102 ?_
                refine lv_topi (fun nv_9 ev_9 => ?_)
                obtain rfl : nv_9 = nI (pcN sm 64 - pcN (hsF sm rr t 64) 64) := ev_9.trans (pk_sub hmle)
                refine lv_istore (lv' := [(11, .int (nI (pcN sm 64 - pcN (hsF sm rr t 64) 64))), (10, .int (nI (pcN (hsF sm rr t 64) 64))), (0, .ref z), (1, .long (lN sm)), (3, .int (nI (pcN sm 64))), (4, .long (lN bm)), (6, .int (nI le)), (7, .int (nI t)), (8, .long (lN (hsF sm rr t 64)))]) hx hb dX8_worstOf_103 hl (by decide) rfl (fun ls hl => ?_)
                refine lv_iload hx hb dX8_worstOf_105 (lv_at hl 0 rfl) ?_
                refine lv_iload hx hb dX8_worstOf_107 (lv_at hl 6 rfl) ?_
                refine lv_icmp_lt (tgt := 115) hx hb dX8_worstOf_109 (by decide) (fun c_109 => ?_) (fun c_109 => ?_)
                · skip
                  have nc_109 : (pcN sm 64 - pcN (hsF sm rr t 64) 64) < le := (nI_ltI (a := pcN sm 64 - pcN (hsF sm rr t 64) 64) (b := le) (by omega) (by omega)).mp c_109
                  refine lv_iload hx hb dX8_worstOf_115 (lv_at hl 0 rfl) ?_
                  refine lv_istore (lv' := [(6, .int (nI (pcN sm 64 - pcN (hsF sm rr t 64) 64))), (11, .int (nI (pcN sm 64 - pcN (hsF sm rr t 64) 64))), (10, .int (nI (pcN (hsF sm rr t 64) 64))), (0, .ref z), (1, .long (lN sm)), (3, .int (nI (pcN sm 64))), (4, .long (lN bm)), (7, .int (nI t)), (8, .long (lN (hsF sm rr t 64)))]) hx hb dX8_worstOf_117 hl (by decide) rfl (fun ls hl => ?_)
                  refine lv_lload hx hb dX8_worstOf_119 (lv_at hl 8 rfl) ?_
                  refine lv_lstore (lv' := [(4, .long (lN (hsF sm rr t 64))), (6, .int (nI (pcN sm 64 - pcN (hsF sm rr t 64) 64))), (11, .int (nI (pcN sm 64 - pcN (hsF sm rr t 64) 64))), (10, .int (nI (pcN (hsF sm rr t 64) 64))), (0, .ref z), (1, .long (lN sm)), (3, .int (nI (pcN sm 64))), (7, .int (nI t)), (8, .long (lN (hsF sm rr t 64)))]) hx hb dX8_worstOf_121 hl (by decide) rfl (fun ls hl => ?_)
                  refine lv_iinc (v := nI (t + 1)) (lv' := [(7, .int (nI (t + 1))), (4, .long (lN (hsF sm rr t 64))), (6, .int (nI (pcN sm 64 - pcN (hsF sm rr t 64) 64))), (11, .int (nI (pcN sm 64 - pcN (hsF sm rr t 64) 64))), (10, .int (nI (pcN (hsF sm rr t 64) 64))), (0, .ref z), (1, .long (lN sm)), (3, .int (nI (pcN sm 64))), (8, .long (lN (hsF sm rr t 64)))]) hx hb dX8_worstOf_123 hl (k := 7) rfl (nI_1 _) (by decide) rfl (fun ls hl => ?_)
                  refine lv_goto (tgt := 14) hx hb dX8_worstOf_126 (by decide) ?_
                  exact ih_14  (t + 1) (hsF sm rr t 64) (pcN sm 64 - pcN (hsF sm rr t 64) 64) (by omega) (by first | exact Nat.zero_le _ | omega) (by first | (subst eb; subst el; simp [wsF, moreW, c_20, nc_20, c_33, nc_33, c_91, nc_91, c_109, nc_109]; done) | (subst eb; subst el; simp [wsF, moreW, c_20, nc_20, c_33, nc_33, c_91, nc_91, c_109, nc_109]; omega)) (by first | (subst eb; subst el; simp [wsF, moreW, c_20, nc_20, c_33, nc_33, c_91, nc_91, c_109, nc_109]; done) | (subst eb; subst el; simp [wsF, moreW, c_20, nc_20, c_33, nc_33, c_91, nc_91, c_109, nc_109]; omega)) _ (lv_sub hl [5, 6, 7, 1, 2, 0] rfl)
                · skip
                  have nc_109 : ¬ (pcN sm 64 - pcN (hsF sm rr t 64) 64) < le := (not_congr (nI_ltI (a := pcN sm 64 - pcN (hsF sm rr t 64) 64) (b := le) (by omega) (by omega))).mp c_109
                  refine lv_goto (tgt := 123) hx hb dX8_worstOf_112 (by decide) ?_
                  refine lv_iinc (v := nI (t + 1)) (lv' := [(7, .int (nI (t + 1))), (11, .int (nI (pcN sm 64 - pcN (hsF sm rr t 64) 64))), (10, .int (nI (pcN (hsF sm rr t 64) 64))), (0, .ref z), (1, .long (lN sm)), (3, .int (nI (pcN sm 64))), (4, .long (lN bm)), (6, .int (nI le)), (8, .long (lN (hsF sm rr t 64)))]) hx hb dX8_worstOf_123 hl (k := 7) rfl (nI_1 _) (by decide) rfl (fun ls hl => ?_)
                  refine lv_goto (tgt := 14) hx hb dX8_worstOf_126 (by decide) ?_
                  exact ih_14  (t + 1) bm le (by omega) (by first | exact Nat.zero_le _ | omega) (by first | (subst eb; subst el; simp [wsF, moreW, c_20, nc_20, c_33, nc_33, c_91, nc_91, c_109, nc_109]; done) | (subst eb; subst el; simp [wsF, moreW, c_20, nc_20, c_33, nc_33, c_91, nc_91, c_109, nc_109]; omega)) (by first | (subst eb; subst el; simp [wsF, moreW, c_20, nc_20, c_33, nc_33, c_91, nc_91, c_109, nc_109]; done) | (subst eb; subst el; simp [wsF, moreW, c_20, nc_20, c_33, nc_33, c_91, nc_91, c_109, nc_109]; omega)) _ (lv_sub hl [3, 4, 5, 6, 7, 0] rfl)
              · skip
                have nc_91 : ¬ (pcN (hsF sm rr t 64) 64) ≤ (pcN sm 64 - pcN (hsF sm rr t 64) 64) := (not_congr (nI_leI (a := pcN (hsF sm rr t 64) 64) (b := pcN sm 64 - pcN (hsF sm rr t 64) 64) (by omega) (by omega))).mp c_91
                refine lv_iload hx hb dX8_worstOf_94 (lv_at hl 0 rfl) ?_
                refine lv_goto (tgt := 103) hx hb dX8_worstOf_96 (by decide) ?_
                refine lv_istore (lv' := [(11, .int (nI (pcN (hsF sm rr t 64) 64))), (10, .int (nI (pcN (hsF sm rr t 64) 64))), (0, .ref z), (1, .long (lN sm)), (3, .int (nI (pcN sm 64))), (4, .long (lN bm)), (6, .int (nI le)), (7, .int (nI t)), (8, .long (lN (hsF sm rr t 64)))]) hx hb dX8_worstOf_103 hl (by decide) rfl (fun ls hl => ?_)
                refine lv_iload hx hb dX8_worstOf_105 (lv_at hl 0 rfl) ?_
                refine lv_iload hx hb dX8_worstOf_107 (lv_at hl 6 rfl) ?_
                refine lv_icmp_lt (tgt := 115) hx hb dX8_worstOf_109 (by decide) (fun c_109 => ?_) (fun c_109 => ?_)
                · skip
                  have nc_109 : (pcN (hsF sm rr t 64) 64) < le := (nI_ltI (a := pcN (hsF sm rr t 64) 64) (b := le) (by omega) (by omega)).mp c_109
                  refine lv_iload hx hb dX8_worstOf_115 (lv_at hl 0 rfl) ?_
                  refine lv_istore (lv' := [(6, .int (nI (pcN (hsF sm rr t 64) 64))), (11, .int (nI (pcN (hsF sm rr t 64) 64))), (10, .int (nI (pcN (hsF sm rr t 64) 64))), (0, .ref z), (1, .long (lN sm)), (3, .int (nI (pcN sm 64))), (4, .long (lN bm)), (7, .int (nI t)), (8, .long (lN (hsF sm rr t 64)))]) hx hb dX8_worstOf_117 hl (by decide) rfl (fun ls hl => ?_)
                  refine lv_lload hx hb dX8_worstOf_119 (lv_at hl 8 rfl) ?_
                  refine lv_lstore (lv' := [(4, .long (lN (hsF sm rr t 64))), (6, .int (nI (pcN (hsF sm rr t 64) 64))), (11, .int (nI (pcN (hsF sm rr t 64) 64))), (10, .int (nI (pcN (hsF sm rr t 64) 64))), (0, .ref z), (1, .long (lN sm)), (3, .int (nI (pcN sm 64))), (7, .int (nI t)), (8, .long (lN (hsF sm rr t 64)))]) hx hb dX8_worstOf_121 hl (by decide) rfl (fun ls hl => ?_)
                  refine lv_iinc (v := nI (t + 1)) (lv' := [(7, .int (nI (t + 1))), (4, .long (lN (hsF sm rr t 64))), (6, .int (nI (pcN (hsF sm rr t 64) 64))), (11, .int (nI (pcN (hsF sm rr t 64) 64))), (10, .int (nI (pcN (hsF sm rr t 64) 64))), (0, .ref z), (1, .long (lN sm)), (3, .int (nI (pcN sm 64))), (8, .long (lN (hsF sm rr t 64)))]) hx hb dX8_worstOf_123 hl (k := 7) rfl (nI_1 _) (by decide) rfl (fun ls hl => ?_)
                  refine lv_goto (tgt := 14) hx hb dX8_worstOf_126 (by decide) ?_
                  exact ih_14  (t + 1) (hsF sm rr t 64) (pcN (hsF sm rr t 64) 64) (by omega) (by first | exact Nat.zero_le _ | omega) (by first | (subst eb; subst el; simp [wsF, moreW, c_20, nc_20, c_33, nc_33, c_91, nc_91, c_109, nc_109]; done) | (subst eb; subst el; simp [wsF, moreW, c_20, nc_20, c_33, nc_33, c_91, nc_91, c_109, nc_109]; omega)) (by first | (subst eb; subst el; simp [wsF, moreW, c_20, nc_20, c_33, nc_33, c_91, nc_91, c_109, nc_109]; done) | (subst eb; subst el; simp [wsF, moreW, c_20, nc_20, c_33, nc_33, c_91, nc_91, c_109, nc_109]; omega)) _ (lv_sub hl [5, 6, 7, 1, 2, 0] rfl)
                · skip
                  have nc_109 : ¬ (pcN (hsF sm rr t 64) 64) < le := (not_congr (nI_ltI (a := pcN (hsF sm rr t 64) 64) (b := le) (by omega) (by omega))).mp c_109
                  refine lv_goto (tgt := 123) hx hb dX8_worstOf_112 (by decide) ?_
                  refine lv_iinc (v := nI (t + 1)) (lv' := [(7, .int (nI (t + 1))), (11, .int (nI (pcN (hsF sm rr t 64) 64))), (10, .int (nI (pcN (hsF sm rr t 64) 64))), (0, .ref z), (1, .long (lN sm)), (3, .int (nI (pcN sm 64))), (4, .long (lN bm)), (6, .int (nI le)), (8, .long (lN (hsF sm rr t 64)))]) hx hb dX8_worstOf_123 hl (k := 7) rfl (nI_1 _) (by decide) rfl (fun ls hl => ?_)
                  refine lv_goto (tgt := 14) hx hb dX8_worstOf_126 (by decide) ?_
                  exact ih_14  (t + 1) bm le (by omega) (by first | exact Nat.zero_le _ | omega) (by first | (subst eb; subst el; simp [wsF, moreW, c_20, nc_20, c_33, nc_33, c_91, nc_91, c_109, nc_109]; done) | (subst eb; subst el; simp [wsF, moreW, c_20, nc_20, c_33, nc_33, c_91, nc_91, c_109, nc_109]; omega)) (by first | (subst eb; subst el; simp [wsF, moreW, c_20, nc_20, c_33, nc_33, c_91, nc_91, c_109, nc_109]; done) | (subst eb; subst el; simp [wsF, moreW, c_20, nc_20, c_33, nc_33, c_91, nc_91, c_109, nc_109]; omega)) _ (lv_sub hl [3, 4, 5, 6, 7, 0] rfl)
            · skip
              have nc_33 : ¬ 64 ≤ k := (not_congr (nI_leI (a := 64) (b := k) (by omega) (by omega))).mp c_33
              refine lv_lload_n hx hb dX8_worstOf_36 rfl (lv_at hl 1 rfl) ?_
              refine lv_iload hx hb dX8_worstOf_37 (lv_at hl 7 rfl) ?_
              refine lv_lshr hx hb dX8_worstOf_39 rfl ?_
              refine lv_lconst (v := 1) hx hb dX8_worstOf_40 (by decide) ?_
              refine lv_land hx hb dX8_worstOf_41 ?_
              refine lv_topl (fun nv_10 ev_10 => ?_)
              obtain rfl : nv_10 = lN (if sm.testBit k then 1 else 0) := ev_10.trans (lx_bit (by omega))
              refine lv_lconst (v := 1) hx hb dX8_worstOf_42 (by decide) ?_
              refine W.lcmp hx hb dX8_worstOf_43 ?_
              refine lv_if_ne (tgt := 72) hx hb dX8_worstOf_44 (by decide) (fun c_44 => ?_) (fun c_44 => ?_)
              · skip
                have c_44b : sm.testBit k = false := by cases hz : sm.testBit k with | false => rfl | true => exact absurd (lx_ne.mpr hz) c_44
                refine lv_iinc (v := nI (k + 1)) (lv' := [(10, .int (nI (k + 1))), (0, .ref z), (1, .long (lN sm)), (3, .int (nI (pcN sm 64))), (4, .long (lN bm)), (6, .int (nI le)), (7, .int (nI t)), (8, .long (lN hm))]) hx hb dX8_worstOf_72 hl (k := 7) rfl (nI_1 _) (by decide) rfl (fun ls hl => ?_)
                refine lv_goto (tgt := 29) hx hb dX8_worstOf_75 (by decide) ?_
                exact ih_29  (k + 1) hm (by omega) (by first | exact Nat.zero_le _ | omega) (by subst eh; simp [hsF, c_20, nc_20, c_33, nc_33, c_44, c_44b]) _ (lv_sub hl [1, 2, 3, 4, 5, 6, 7, 0] rfl)
              · skip
                have c_44b : sm.testBit k = true := lx_ne.mp c_44
                refine lv_aload_n hx hb dX8_worstOf_47 rfl (lv_at hl 0 rfl) ?_
                refine va_get (D := D) (ci := 9) (v := .ref a15) (C := RX8) (T := TX8) (N := 24) hx hb hts hi_X8 hown hK.1 hP 0 rfl rfl 23 (by decide) hw_f60 (fun _ h9 => h9) rfl dX8_worstOf_48 ?_
                refine lv_iload hx hb dX8_worstOf_51 (lv_at hl 7 rfl) ?_
                refine va_iald hx hb hK.1 hP 1 0 rfl rfl (vp_in_nI (by omega) (by omega)) dX8_worstOf_53 ?_
                refine lv_topi (fun nv_11 ev_11 => ?_)
                obtain rfl : nv_11 = (nF rr) k := by rw [ev_11, nI_clamp (by omega)]
                refine lv_topi (fun nv_12 ev_12 => ?_)
                obtain rfl : nv_12 = nI (rr k) := ev_12.trans (rfl)
                refine lv_iload hx hb dX8_worstOf_54 (lv_at hl 5 rfl) ?_
                refine lv_ishr hx hb dX8_worstOf_56 ?_
                refine lv_iconst (v := 1) hx hb dX8_worstOf_57 (by decide) ?_
                refine lv_iand hx hb dX8_worstOf_58 ?_
                refine lv_topi (fun nv_13 ev_13 => ?_)
                obtain rfl : nv_13 = k01 ((rr k).testBit t) := ev_13.trans (hx_k01 (by have := hrr k; omega) (by omega))
                refine lv_iconst (v := 1) hx hb dX8_worstOf_59 (by decide) ?_
                refine lv_icmp_ne (tgt := 72) hx hb dX8_worstOf_60 (by decide) (fun c_60 => ?_) (fun c_60 => ?_)
                · skip
                  have c_60b : (rr k).testBit t = false := by cases hz : (rr k).testBit t with | false => rfl | true => exact absurd (by rw [hz]; rfl) c_60
                  refine lv_iinc (v := nI (k + 1)) (lv' := [(10, .int (nI (k + 1))), (0, .ref z), (1, .long (lN sm)), (3, .int (nI (pcN sm 64))), (4, .long (lN bm)), (6, .int (nI le)), (7, .int (nI t)), (8, .long (lN hm))]) hx hb dX8_worstOf_72 hl (k := 7) rfl (nI_1 _) (by decide) rfl (fun ls hl => ?_)
                  refine lv_goto (tgt := 29) hx hb dX8_worstOf_75 (by decide) ?_
                  exact ih_29  (k + 1) hm (by omega) (by first | exact Nat.zero_le _ | omega) (by subst eh; simp [hsF, c_20, nc_20, c_33, nc_33, c_44, c_44b, c_60, c_60b]) _ (lv_sub hl [1, 2, 3, 4, 5, 6, 7, 0] rfl)
                · skip
                  have c_60b : (rr k).testBit t = true := by cases hz : (rr k).testBit t with | true => rfl | false => exact absurd c_60 (by rw [hz]; decide)
                  refine lv_lload hx hb dX8_worstOf_63 (lv_at hl 6 rfl) ?_
                  refine lv_lconst (v := 1) hx hb dX8_worstOf_65 (by decide) ?_
                  refine lv_iload hx hb dX8_worstOf_66 (lv_at hl 7 rfl) ?_
                  refine lv_lshl hx hb dX8_worstOf_68 rfl ?_
                  refine lv_topl (fun nv_14 ev_14 => ?_)
                  obtain rfl : nv_14 = lN (2 ^ k) := ev_14.trans (lx_pow (by omega))
                  refine lv_lor hx hb dX8_worstOf_69 ?_
                  refine lv_topl (fun nv_15 ev_15 => ?_)
                  obtain rfl : nv_15 = lN (hm ||| 2 ^ k) := ev_15.trans (lx_or (by rw [eh]; exact hs_lt64 sm rr t (by omega)) (by omega))
                  refine lv_lstore (lv' := [(8, .long (lN (hm ||| 2 ^ k))), (0, .ref z), (1, .long (lN sm)), (3, .int (nI (pcN sm 64))), (4, .long (lN bm)), (6, .int (nI le)), (7, .int (nI t)), (10, .int (nI k))]) hx hb dX8_worstOf_70 hl (by decide) rfl (fun ls hl => ?_)
                  refine lv_iinc (v := nI (k + 1)) (lv' := [(10, .int (nI (k + 1))), (8, .long (lN (hm ||| 2 ^ k))), (0, .ref z), (1, .long (lN sm)), (3, .int (nI (pcN sm 64))), (4, .long (lN bm)), (6, .int (nI le)), (7, .int (nI t))]) hx hb dX8_worstOf_72 hl (k := 7) rfl (nI_1 _) (by decide) rfl (fun ls hl => ?_)
                  refine lv_goto (tgt := 29) hx hb dX8_worstOf_75 (by decide) ?_
                  exact ih_29  (k + 1) (hm ||| 2 ^ k) (by omega) (by first | exact Nat.zero_le _ | omega) (by subst eh; simp [hsF, c_20, nc_20, c_33, nc_33, c_44, c_44b, c_60, c_60b]) _ (lv_sub hl [2, 3, 4, 5, 6, 7, 1, 0] rfl)
        exact hloop_29 ((64 - 0) + 1) 0 0 (Nat.lt_succ_self _) (by exact Nat.zero_le _) (by rfl) _ (lv_sub hl [2, 3, 4, 5, 6, 7, 1, 0] rfl)
  exact hloop_14 ((T - 0) + 1) 0 0 (pcN sm 64) (Nat.lt_succ_self _) (by exact Nat.zero_le _) (by rfl) (by rfl) _ (lv_sub hl [4, 5, 3, 2, 1, 0] rfl)

set_option maxHeartbeats 4000000 in
set_option maxRecDepth 100000 in
theorem c_X8_wo_4 (l : Launch) (D : va_G) (cI cJ cZ cO : ClassId) (z : Nat) (a0 : Nat) (a1 : Nat) (a2 : Nat) (a3 : Nat) (a4 : Nat) (a5 : Nat) (a6 : Nat) (a7 : Nat) (a8 : Nat) (a9 : Nat) (a10 : Nat) (a11 : Nat) (a12 : Nat) (a13 : Nat) (a14 : Nat) (a15 : Nat) (T : Nat) (P : Nat) (pa : Int32) (kn : Int32) (rn : Nat) (ln : Nat) (th : Int32) (wt : Int32) (rr : Nat → Nat) (sm : Nat) (fq : Nat) (q : Nat) (hT : T ≤ 12) (hs : sm < 2 ^ 64) (hrt : ∀ k, k < 64 → sm.testBit k = true → rr k < 2 ^ T) (hrr : ∀ k, rr k < 4096) (hfu : fq = 12 - 4) (hsp : spN (mCt sm rr) ≤ fq) (hq : q = WN fq (mCt sm rr)) : kR l D (kTY cI cJ cZ cO) yX8_worstOf wsX8_worstOf 9 269 [.ref z, .long (lN sm)] [(z, .inr (9, [.ref a0, .ref a1, .int (nI T), .ref a2, .ref a3, .ref a4, .ref a5, .ref a6, .int (nI P), .int pa, .int kn, .ref a7, .int (nI rn), .ref a8, .ref a9, .int (nI ln), .ref a10, .int th, .ref a11, .ref a12, .int wt, .ref a13, .ref a14, .ref a15])), (a15, .inl (cI, 64, .inl (nF rr)))] (fun rv_ => rv_ = some (.int (nI q))) := by
  refine kEnterR (cc := cX8_worstOf) (maxL := 12) (ret := (some .int)) (by decide) rfl (Nat.le_of_ble_eq_true rfl) ?_
  intro p e s m args below meth c hx hb hr hml hts hown hlk hK hP ls hl
  have hl : lv_has ls 12 [(0, .ref z), (1, .long (lN sm))] := hl
  have hw_f66 := hts (.fieldLink RX8 66 "WhatToReadModel" "topics" "I") (by decide +kernel)
  have hi_X8 : ∀ w ∈ wsX80, w ∈ wsX8_worstOf := by decide +kernel
  have hw_f60 := hts (.fieldLink RX8 60 "WhatToReadModel" "row64" "[I") (by decide +kernel)
  refine lv_lload_n hx hb dX8_worstOf_0 rfl (lv_at hl 1 rfl) ?_
  refine kGoR (va_runS (As := [.long (lN sm)]) (rest := []) ⟨hx, hb, hml, hown, hts⟩ (c_J13_bitCount_95d88 l D cI cJ cZ cO sm (hs)) (va_cwS 1 hts gX8_worstOf_J13_bitCount_95d88 rfl rfl rfl (by decide +kernel) ⟨Nat.le_of_ble_eq_true rfl, Nat.le_of_ble_eq_true rfl⟩) (kPreSR hK (kPc_sub hP [] rfl)) rfl rfl hl.1 rfl (lv_room (Nat.le_of_ble_eq_true rfl)) dX8_worstOf_1 ⟨Nat.le_of_ble_eq_true rfl, Nat.le_of_ble_eq_true rfl⟩) (fun v_1 hv_1 => ?_)
  obtain rfl := hv_1
  refine W.eq (g2 := F0 m 4 ls [.int (nI (pcN sm 64))]) rfl ?_
  refine lv_istore_n (lv' := [(3, .int (nI (pcN sm 64))), (0, .ref z), (1, .long (lN sm))]) hx hb dX8_worstOf_4 rfl hl (by decide) rfl (fun ls hl => ?_)
  refine lv_lconst (v := 0) hx hb dX8_worstOf_5 (by decide) ?_
  refine lv_topl (fun nv_2 ev_2 => ?_)
  obtain rfl : nv_2 = lN 0 := ev_2.trans (rfl)
  refine lv_lstore (lv' := [(4, .long (lN 0)), (3, .int (nI (pcN sm 64))), (0, .ref z), (1, .long (lN sm))]) hx hb dX8_worstOf_6 hl (by decide) rfl (fun ls hl => ?_)
  refine lv_iload_n hx hb dX8_worstOf_8 rfl (lv_at hl 1 rfl) ?_
  refine lv_istore (lv' := [(6, .int (nI (pcN sm 64))), (4, .long (lN 0)), (3, .int (nI (pcN sm 64))), (0, .ref z), (1, .long (lN sm))]) hx hb dX8_worstOf_9 hl (by decide) rfl (fun ls hl => ?_)
  refine lv_iconst (v := 0) hx hb dX8_worstOf_11 (by decide) ?_
  refine lv_istore (lv' := [(7, .int 0), (6, .int (nI (pcN sm 64))), (4, .long (lN 0)), (3, .int (nI (pcN sm 64))), (0, .ref z), (1, .long (lN sm))]) hx hb dX8_worstOf_12 hl (by decide) rfl (fun ls hl => ?_)
  have hloop_14 : ∀ (fu : Nat) (t : Nat) (bm : Nat) (le : Nat), T - t < fu → t ≤ T → bm = (wsF sm rr (pcN sm 64) t).1 → le = (wsF sm rr (pcN sm 64) t).2 → ∀ ls : Array Slot, lv_has ls 12 [(0, .ref z), (1, .long (lN sm)), (3, .int (nI (pcN sm 64))), (4, .long (lN bm)), (6, .int (nI le)), (7, .int (nI t))] → W p l e ({ frames := 9, cells := 0, slots := 0, locals := 269 }) s m args below meth c s.heap [] 0 0 (MQ below (kQr (fun rv_ => rv_ = some (.int (nI q)))) args s 0 0 (fun _ => False)) (F0 m 14 ls []) := by
    intro fu
    induction fu with
    | zero => intro t bm le hmu; exact absurd hmu (Nat.not_lt_zero _)
    | succ fu ih_14 =>
      intro t bm le hmu_14 ht eb el ls hl
      have hal := pcN_le sm 64
      have hmle := hs_le sm rr t
      have hl2 := ws2_le sm rr (pcN sm 64) t
      refine lv_iload hx hb dX8_worstOf_14 (lv_at hl 5 rfl) ?_
      refine lv_aload_n hx hb dX8_worstOf_16 rfl (lv_at hl 0 rfl) ?_
      refine va_get (D := D) (ci := 9) (v := .int (nI T)) (C := RX8) (T := TX8) (N := 24) hx hb hts hi_X8 hown hK.1 hP 0 rfl rfl 2 (by decide) hw_f66 (fun _ h9 => h9) rfl dX8_worstOf_17 ?_
      refine lv_icmp_ge (tgt := 129) hx hb dX8_worstOf_20 (by decide) (fun c_20 => ?_) (fun c_20 => ?_)
      · skip
        have nc_20 : T ≤ t := (nI_leI (a := T) (b := t) (by omega) (by omega)).mp c_20
        have e13 : t = T := by omega
        have hle2 : le ≤ pcN sm 64 := by rw [el]; exact ws2_le sm rr _ t
        obtain ⟨wq, hwq⟩ : ∃ wq, wq = wsF sm rr (pcN sm 64) T := ⟨_, rfl⟩
        rw [e13, ← hwq] at eb el
        have hwe := ws_end hT hrt hwq
        refine lv_iload hx hb dX8_worstOf_129 (lv_at hl 4 rfl) ?_
        refine lv_iload_n hx hb dX8_worstOf_131 rfl (lv_at hl 2 rfl) ?_
        refine lv_icmp_ne (tgt := 137) hx hb dX8_worstOf_132 (by decide) (fun c_132 => ?_) (fun c_132 => ?_)
        · skip
          have nc_132 : ¬ le = (pcN sm 64) := (not_congr (nI_eq (a := le) (b := pcN sm 64) (by omega) (by omega))).mp c_132
          obtain ⟨w1, w2, w3, w4, w5, w6, w7⟩ := hwe.2 (by omega)
          obtain ⟨fd, hfd⟩ : ∃ fd, fq = fd + 1 := ⟨fq - 1, by omega⟩
          obtain ⟨q1, hq1⟩ : ∃ q1, q1 = WN fd (mCt wq.1 rr) := ⟨_, rfl⟩
          obtain ⟨q2, hq2⟩ : ∃ q2, q2 = WN fd (mCt (andn sm wq.1) rr) := ⟨_, rfl⟩
          have hq1l : q1 ≤ fd := by rw [hq1]; exact WN_le _ _
          have hq2l : q2 ≤ fd := by rw [hq2]; exact WN_le _ _
          have hfin0 : q = 1 + max q2 q1 := by rw [hq, hfd, w7 fd, hq1, hq2]
          refine lv_aload_n hx hb dX8_worstOf_137 rfl (lv_at hl 0 rfl) ?_
          refine lv_lload hx hb dX8_worstOf_138 (lv_at hl 3 rfl) ?_
          refine kGoR (va_runV (As := [.long (lN bm)]) (rest := []) ⟨hx, hb, hml, hown, hts⟩ (c_X8_wo_5 l D cI cJ cZ cO z a0 a1 a2 a3 a4 a5 a6 a7 a8 a9 a10 a11 a12 a13 a14 a15 T P pa kn rn ln th wt rr bm fd q1 (by first | assumption | omega | decide) (by rw [eb]; exact w1) (by rw [eb]; exact w2) (hrr) (by omega) (by rw [eb]; omega) (by rw [hq1, eb])) (cwV 1 hts gX8_worstOf_X8_worstOf rfl rfl rfl (by decide +kernel) ⟨Nat.le_of_ble_eq_true rfl, Nat.le_of_ble_eq_true rfl⟩) (kPreVR (ci := 9) (q0 := 0) hK (kPc_sub hP [0, 1] rfl) rfl rfl rfl) rfl rfl hl.1 rfl (lv_room (Nat.le_of_ble_eq_true rfl)) dX8_worstOf_140 ⟨Nat.le_of_ble_eq_true rfl, Nat.le_of_ble_eq_true rfl⟩) (fun v_3 hv_3 => ?_)
          obtain rfl := hv_3
          refine W.eq (g2 := F0 m 143 ls [.int (nI q1)]) rfl ?_
          refine lv_istore (lv' := [(7, .int (nI q1)), (0, .ref z), (1, .long (lN sm)), (3, .int (nI (pcN sm 64))), (4, .long (lN bm)), (6, .int (nI le))]) hx hb dX8_worstOf_143 hl (by decide) rfl (fun ls hl => ?_)
          refine lv_aload_n hx hb dX8_worstOf_145 rfl (lv_at hl 1 rfl) ?_
          refine lv_lload_n hx hb dX8_worstOf_146 rfl (lv_at hl 2 rfl) ?_
          refine lv_lload hx hb dX8_worstOf_147 (lv_at hl 4 rfl) ?_
          refine lv_ldc2 (v := (-1)) hx hb hown (hts (.constantLong RX8 143 (-1)) (by decide +kernel)) dX8_worstOf_149 ?_
          refine lv_lxor hx hb dX8_worstOf_152 ?_
          refine lv_land hx hb dX8_worstOf_153 ?_
          refine lv_topl (fun nv_4 ev_4 => ?_)
          obtain rfl : nv_4 = lN (andn sm bm) := ev_4.trans (lx_andn hs (by rw [eb, hwq]; exact ws1_lt sm rr _ T))
          refine kGoR (va_runV (As := [.long (lN (andn sm bm))]) (rest := []) ⟨hx, hb, hml, hown, hts⟩ (c_X8_wo_5 l D cI cJ cZ cO z a0 a1 a2 a3 a4 a5 a6 a7 a8 a9 a10 a11 a12 a13 a14 a15 T P pa kn rn ln th wt rr (andn sm bm) fd q2 (by first | assumption | omega | decide) (Nat.lt_of_le_of_lt (andn_le _ _) hs) (by rw [eb]; exact w3) (hrr) (by omega) (by rw [eb]; omega) (by rw [hq2, eb])) (cwV 1 hts gX8_worstOf_X8_worstOf rfl rfl rfl (by decide +kernel) ⟨Nat.le_of_ble_eq_true rfl, Nat.le_of_ble_eq_true rfl⟩) (kPreVR (ci := 9) (q0 := 0) hK (kPc_sub hP [0, 1] rfl) rfl rfl rfl) rfl rfl hl.1 rfl (lv_room (Nat.le_of_ble_eq_true rfl)) dX8_worstOf_154 ⟨Nat.le_of_ble_eq_true rfl, Nat.le_of_ble_eq_true rfl⟩) (fun v_5 hv_5 => ?_)
          obtain rfl := hv_5
          refine W.eq (g2 := F0 m 157 ls [.int (nI q2)]) rfl ?_
          refine lv_istore (lv' := [(8, .int (nI q2)), (7, .int (nI q1)), (0, .ref z), (1, .long (lN sm)), (3, .int (nI (pcN sm 64))), (4, .long (lN bm)), (6, .int (nI le))]) hx hb dX8_worstOf_157 hl (by decide) rfl (fun ls hl => ?_)
          refine lv_iconst (v := 1) hx hb dX8_worstOf_159 (by decide) ?_
          refine lv_iload hx hb dX8_worstOf_160 (lv_at hl 1 rfl) ?_
          refine lv_iload hx hb dX8_worstOf_162 (lv_at hl 0 rfl) ?_
          refine lv_icmp_le (tgt := 172) hx hb dX8_worstOf_164 (by decide) (fun c_164 => ?_) (fun c_164 => ?_)
          · skip
            have nc_164 : q1 ≤ q2 := (nI_leI (a := q1) (b := q2) (by omega) (by omega)).mp c_164
            have hfin : (1 : Int32) + nI q2 = nI q := by rw [hfin0, show max q2 q1 = q2 by omega]; exact nI_add 1 _
            refine lv_iload hx hb dX8_worstOf_172 (lv_at hl 0 rfl) ?_
            refine lv_iadd hx hb dX8_worstOf_174 ?_
            exact kRetIr hx hb hr hlk dX8_worstOf_175 (kpi (by first | (rw [hq, hwe.1 (by omega)]; rfl) | (rw [hfin]; done)))
          · skip
            have nc_164 : ¬ q1 ≤ q2 := (not_congr (nI_leI (a := q1) (b := q2) (by omega) (by omega))).mp c_164
            have hfin : (1 : Int32) + nI q1 = nI q := by rw [hfin0, show max q2 q1 = q1 by omega]; exact nI_add 1 _
            refine lv_iload hx hb dX8_worstOf_167 (lv_at hl 1 rfl) ?_
            refine lv_goto (tgt := 174) hx hb dX8_worstOf_169 (by decide) ?_
            refine lv_iadd hx hb dX8_worstOf_174 ?_
            exact kRetIr hx hb hr hlk dX8_worstOf_175 (kpi (by first | (rw [hq, hwe.1 (by omega)]; rfl) | (rw [hfin]; done)))
        · skip
          have nc_132 : le = (pcN sm 64) := (nI_eq (a := le) (b := pcN sm 64) (by omega) (by omega)).mp c_132
          refine lv_iconst (v := 0) hx hb dX8_worstOf_135 (by decide) ?_
          exact kRetIr hx hb hr hlk dX8_worstOf_136 (kpi (by first | (rw [hq, hwe.1 (by omega)]; rfl) | (rw [hfin]; done)))
      · skip
        have nc_20 : ¬ T ≤ t := (not_congr (nI_leI (a := T) (b := t) (by omega) (by omega))).mp c_20
        refine lv_lconst (v := 0) hx hb dX8_worstOf_23 (by decide) ?_
        refine lv_topl (fun nv_6 ev_6 => ?_)
        obtain rfl : nv_6 = lN 0 := ev_6.trans (rfl)
        refine lv_lstore (lv' := [(8, .long (lN 0)), (0, .ref z), (1, .long (lN sm)), (3, .int (nI (pcN sm 64))), (4, .long (lN bm)), (6, .int (nI le)), (7, .int (nI t))]) hx hb dX8_worstOf_24 hl (by decide) rfl (fun ls hl => ?_)
        refine lv_iconst (v := 0) hx hb dX8_worstOf_26 (by decide) ?_
        refine lv_istore (lv' := [(10, .int 0), (8, .long (lN 0)), (0, .ref z), (1, .long (lN sm)), (3, .int (nI (pcN sm 64))), (4, .long (lN bm)), (6, .int (nI le)), (7, .int (nI t))]) hx hb dX8_worstOf_27 hl (by decide) rfl (fun ls hl => ?_)
        have hloop_29 : ∀ (fu : Nat) (k : Nat) (hm : Nat), 64 - k < fu → k ≤ 64 → hm = hsF sm rr t k → ∀ ls : Array Slot, lv_has ls 12 [(0, .ref z), (1, .long (lN sm)), (3, .int (nI (pcN sm 64))), (4, .long (lN bm)), (6, .int (nI le)), (7, .int (nI t)), (8, .long (lN hm)), (10, .int (nI k))] → W p l e ({ frames := 9, cells := 0, slots := 0, locals := 269 }) s m args below meth c s.heap [] 0 0 (MQ below (kQr (fun rv_ => rv_ = some (.int (nI q)))) args s 0 0 (fun _ => False)) (F0 m 29 ls []) := by
          intro fu
          induction fu with
          | zero => intro k hm hmu; exact absurd hmu (Nat.not_lt_zero _)
          | succ fu ih_29 =>
            intro k hm hmu_29 hk eh ls hl
            refine lv_iload hx hb dX8_worstOf_29 (lv_at hl 7 rfl) ?_
            refine lv_bipush (v := 64) hx hb dX8_worstOf_31 (by decide) ?_
            refine lv_icmp_ge (tgt := 78) hx hb dX8_worstOf_33 (by decide) (fun c_33 => ?_) (fun c_33 => ?_)
            · skip
              have nc_33 : 64 ≤ k := (nI_leI (a := 64) (b := k) (by omega) (by omega)).mp c_33
              have e12 : k = 64 := by omega
              rw [show (lN hm : Int64) = lN (hsF sm rr t 64) from by rw [eh, e12]] at hl
              refine lv_lload hx hb dX8_worstOf_78 (lv_at hl 6 rfl) ?_
              refine kGoR (va_runS (As := [.long (lN (hsF sm rr t 64))]) (rest := []) ⟨hx, hb, hml, hown, hts⟩ (c_J13_bitCount_95d88 l D cI cJ cZ cO (hsF sm rr t 64) (hs_lt64 sm rr t (Nat.le_refl _))) (va_cwS 1 hts gX8_worstOf_J13_bitCount_95d88 rfl rfl rfl (by decide +kernel) ⟨Nat.le_of_ble_eq_true rfl, Nat.le_of_ble_eq_true rfl⟩) (kPreSR hK (kPc_sub hP [] rfl)) rfl rfl hl.1 rfl (lv_room (Nat.le_of_ble_eq_true rfl)) dX8_worstOf_80 ⟨Nat.le_of_ble_eq_true rfl, Nat.le_of_ble_eq_true rfl⟩) (fun v_7 hv_7 => ?_)
              obtain rfl := hv_7
              refine W.eq (g2 := F0 m 83 ls [.int (nI (pcN (hsF sm rr t 64) 64))]) rfl ?_
              refine lv_istore (lv' := [(10, .int (nI (pcN (hsF sm rr t 64) 64))), (0, .ref z), (1, .long (lN sm)), (3, .int (nI (pcN sm 64))), (4, .long (lN bm)), (6, .int (nI le)), (7, .int (nI t)), (8, .long (lN (hsF sm rr t 64)))]) hx hb dX8_worstOf_83 hl (by decide) rfl (fun ls hl => ?_)
              refine lv_iload hx hb dX8_worstOf_85 (lv_at hl 0 rfl) ?_
              refine lv_iload_n hx hb dX8_worstOf_87 rfl (lv_at hl 3 rfl) ?_
              refine lv_iload hx hb dX8_worstOf_88 (lv_at hl 0 rfl) ?_
              refine lv_isub hx hb dX8_worstOf_90 ?_
              refine lv_topi (fun nv_8 ev_8 => ?_)
              obtain rfl : nv_8 = nI (pcN sm 64 - pcN (hsF sm rr t 64) 64) := ev_8.trans (pk_sub hmle)
              refine lv_icmp_le (tgt := 99) hx hb dX8_worstOf_91 (by decide) (fun c_91 => ?_) (fun c_91 => ?_)
              · skip
                have nc_91 : (pcN (hsF sm rr t 64) 64) ≤ (pcN sm 64 - pcN (hsF sm rr t 64) 64) := (nI_leI (a := pcN (hsF sm rr t 64) 64) (b := pcN sm 64 - pcN (hsF sm rr t 64) 64) (by omega) (by omega)).mp c_91
                refine lv_iload_n hx hb dX8_worstOf_99 rfl (lv_at hl 3 rfl) ?_
                refine lv_iload hx hb dX8_worstOf_100 (lv_at hl 0 rfl) ?_
                refine lv_isub hx hb dX8_worstOf_102 ?_
                refine lv_topi (fun nv_9 ev_9 => ?_)
                obtain rfl : nv_9 = nI (pcN sm 64 - pcN (hsF sm rr t 64) 64) := ev_9.trans (pk_sub hmle)
                refine lv_istore (lv' := [(11, .int (nI (pcN sm 64 - pcN (hsF sm rr t 64) 64))), (10, .int (nI (pcN (hsF sm rr t 64) 64))), (0, .ref z), (1, .long (lN sm)), (3, .int (nI (pcN sm 64))), (4, .long (lN bm)), (6, .int (nI le)), (7, .int (nI t)), (8, .long (lN (hsF sm rr t 64)))]) hx hb dX8_worstOf_103 hl (by decide) rfl (fun ls hl => ?_)
                refine lv_iload hx hb dX8_worstOf_105 (lv_at hl 0 rfl) ?_
                refine lv_iload hx hb dX8_worstOf_107 (lv_at hl 6 rfl) ?_
                refine lv_icmp_lt (tgt := 115) hx hb dX8_worstOf_109 (by decide) (fun c_109 => ?_) (fun c_109 => ?_)
                · skip
                  have nc_109 : (pcN sm 64 - pcN (hsF sm rr t 64) 64) < le := (nI_ltI (a := pcN sm 64 - pcN (hsF sm rr t 64) 64) (b := le) (by omega) (by omega)).mp c_109
                  refine lv_iload hx hb dX8_worstOf_115 (lv_at hl 0 rfl) ?_
                  refine lv_istore (lv' := [(6, .int (nI (pcN sm 64 - pcN (hsF sm rr t 64) 64))), (11, .int (nI (pcN sm 64 - pcN (hsF sm rr t 64) 64))), (10, .int (nI (pcN (hsF sm rr t 64) 64))), (0, .ref z), (1, .long (lN sm)), (3, .int (nI (pcN sm 64))), (4, .long (lN bm)), (7, .int (nI t)), (8, .long (lN (hsF sm rr t 64)))]) hx hb dX8_worstOf_117 hl (by decide) rfl (fun ls hl => ?_)
                  refine lv_lload hx hb dX8_worstOf_119 (lv_at hl 8 rfl) ?_
                  refine lv_lstore (lv' := [(4, .long (lN (hsF sm rr t 64))), (6, .int (nI (pcN sm 64 - pcN (hsF sm rr t 64) 64))), (11, .int (nI (pcN sm 64 - pcN (hsF sm rr t 64) 64))), (10, .int (nI (pcN (hsF sm rr t 64) 64))), (0, .ref z), (1, .long (lN sm)), (3, .int (nI (pcN sm 64))), (7, .int (nI t)), (8, .long (lN (hsF sm rr t 64)))]) hx hb dX8_worstOf_121 hl (by decide) rfl (fun ls hl => ?_)
                  refine lv_iinc (v := nI (t + 1)) (lv' := [(7, .int (nI (t + 1))), (4, .long (lN (hsF sm rr t 64))), (6, .int (nI (pcN sm 64 - pcN (hsF sm rr t 64) 64))), (11, .int (nI (pcN sm 64 - pcN (hsF sm rr t 64) 64))), (10, .int (nI (pcN (hsF sm rr t 64) 64))), (0, .ref z), (1, .long (lN sm)), (3, .int (nI (pcN sm 64))), (8, .long (lN (hsF sm rr t 64)))]) hx hb dX8_worstOf_123 hl (k := 7) rfl (nI_1 _) (by decide) rfl (fun ls hl => ?_)
                  refine lv_goto (tgt := 14) hx hb dX8_worstOf_126 (by decide) ?_
                  exact ih_14  (t + 1) (hsF sm rr t 64) (pcN sm 64 - pcN (hsF sm rr t 64) 64) (by omega) (by first | exact Nat.zero_le _ | omega) (by first | (subst eb; subst el; simp [wsF, moreW, c_20, nc_20, c_33, nc_33, c_91, nc_91, c_109, nc_109]; done) | (subst eb; subst el; simp [wsF, moreW, c_20, nc_20, c_33, nc_33, c_91, nc_91, c_109, nc_109]; omega)) (by first | (subst eb; subst el; simp [wsF, moreW, c_20, nc_20, c_33, nc_33, c_91, nc_91, c_109, nc_109]; done) | (subst eb; subst el; simp [wsF, moreW, c_20, nc_20, c_33, nc_33, c_91, nc_91, c_109, nc_109]; omega)) _ (lv_sub hl [5, 6, 7, 1, 2, 0] rfl)
                · skip
                  have nc_109 : ¬ (pcN sm 64 - pcN (hsF sm rr t 64) 64) < le := (not_congr (nI_ltI (a := pcN sm 64 - pcN (hsF sm rr t 64) 64) (b := le) (by omega) (by omega))).mp c_109
                  refine lv_goto (tgt := 123) hx hb dX8_worstOf_112 (by decide) ?_
                  refine lv_iinc (v := nI (t + 1)) (lv' := [(7, .int (nI (t + 1))), (11, .int (nI (pcN sm 64 - pcN (hsF sm rr t 64) 64))), (10, .int (nI (pcN (hsF sm rr t 64) 64))), (0, .ref z), (1, .long (lN sm)), (3, .int (nI (pcN sm 64))), (4, .long (lN bm)), (6, .int (nI le)), (8, .long (lN (hsF sm rr t 64)))]) hx hb dX8_worstOf_123 hl (k := 7) rfl (nI_1 _) (by decide) rfl (fun ls hl => ?_)
                  refine lv_goto (tgt := 14) hx hb dX8_worstOf_126 (by decide) ?_
                  exact ih_14  (t + 1) bm le (by omega) (by first | exact Nat.zero_le _ | omega) (by first | (subst eb; subst el; simp [wsF, moreW, c_20, nc_20, c_33, nc_33, c_91, nc_91, c_109, nc_109]; done) | (subst eb; subst el; simp [wsF, moreW, c_20, nc_20, c_33, nc_33, c_91, nc_91, c_109, nc_109]; omega)) (by first | (subst eb; subst el; simp [wsF, moreW, c_20, nc_20, c_33, nc_33, c_91, nc_91, c_109, nc_109]; done) | (subst eb; subst el; simp [wsF, moreW, c_20, nc_20, c_33, nc_33, c_91, nc_91, c_109, nc_109]; omega)) _ (lv_sub hl [3, 4, 5, 6, 7, 0] rfl)
              · skip
                have nc_91 : ¬ (pcN (hsF sm rr t 64) 64) ≤ (pcN sm 64 - pcN (hsF sm rr t 64) 64) := (not_congr (nI_leI (a := pcN (hsF sm rr t 64) 64) (b := pcN sm 64 - pcN (hsF sm rr t 64) 64) (by omega) (by omega))).mp c_91
                refine lv_iload hx hb dX8_worstOf_94 (lv_at hl 0 rfl) ?_
                refine lv_goto (tgt := 103) hx hb dX8_worstOf_96 (by decide) ?_
                refine lv_istore (lv' := [(11, .int (nI (pcN (hsF sm rr t 64) 64))), (10, .int (nI (pcN (hsF sm rr t 64) 64))), (0, .ref z), (1, .long (lN sm)), (3, .int (nI (pcN sm 64))), (4, .long (lN bm)), (6, .int (nI le)), (7, .int (nI t)), (8, .long (lN (hsF sm rr t 64)))]) hx hb dX8_worstOf_103 hl (by decide) rfl (fun ls hl => ?_)
                refine lv_iload hx hb dX8_worstOf_105 (lv_at hl 0 rfl) ?_
                refine lv_iload hx hb dX8_worstOf_107 (lv_at hl 6 rfl) ?_
                refine lv_icmp_lt (tgt := 115) hx hb dX8_worstOf_109 (by decide) (fun c_109 => ?_) (fun c_109 => ?_)
                · skip
                  have nc_109 : (pcN (hsF sm rr t 64) 64) < le := (nI_ltI (a := pcN (hsF sm rr t 64) 64) (b := le) (by omega) (by omega)).mp c_109
                  refine lv_iload hx hb dX8_worstOf_115 (lv_at hl 0 rfl) ?_
                  refine lv_istore (lv' := [(6, .int (nI (pcN (hsF sm rr t 64) 64))), (11, .int (nI (pcN (hsF sm rr t 64) 64))), (10, .int (nI (pcN (hsF sm rr t 64) 64))), (0, .ref z), (1, .long (lN sm)), (3, .int (nI (pcN sm 64))), (4, .long (lN bm)), (7, .int (nI t)), (8, .long (lN (hsF sm rr t 64)))]) hx hb dX8_worstOf_117 hl (by decide) rfl (fun ls hl => ?_)
                  refine lv_lload hx hb dX8_worstOf_119 (lv_at hl 8 rfl) ?_
                  refine lv_lstore (lv' := [(4, .long (lN (hsF sm rr t 64))), (6, .int (nI (pcN (hsF sm rr t 64) 64))), (11, .int (nI (pcN (hsF sm rr t 64) 64))), (10, .int (nI (pcN (hsF sm rr t 64) 64))), (0, .ref z), (1, .long (lN sm)), (3, .int (nI (pcN sm 64))), (7, .int (nI t)), (8, .long (lN (hsF sm rr t 64)))]) hx hb dX8_worstOf_121 hl (by decide) rfl (fun ls hl => ?_)
                  refine lv_iinc (v := nI (t + 1)) (lv' := [(7, .int (nI (t + 1))), (4, .long (lN (hsF sm rr t 64))), (6, .int (nI (pcN (hsF sm rr t 64) 64))), (11, .int (nI (pcN (hsF sm rr t 64) 64))), (10, .int (nI (pcN (hsF sm rr t 64) 64))), (0, .ref z), (1, .long (lN sm)), (3, .int (nI (pcN sm 64))), (8, .long (lN (hsF sm rr t 64)))]) hx hb dX8_worstOf_123 hl (k := 7) rfl (nI_1 _) (by decide) rfl (fun ls hl => ?_)
                  refine lv_goto (tgt := 14) hx hb dX8_worstOf_126 (by decide) ?_
                  exact ih_14  (t + 1) (hsF sm rr t 64) (pcN (hsF sm rr t 64) 64) (by omega) (by first | exact Nat.zero_le _ | omega) (by first | (subst eb; subst el; simp [wsF, moreW, c_20, nc_20, c_33, nc_33, c_91, nc_91, c_109, nc_109]; done) | (subst eb; subst el; simp [wsF, moreW, c_20, nc_20, c_33, nc_33, c_91, nc_91, c_109, nc_109]; omega)) (by first | (subst eb; subst el; simp [wsF, moreW, c_20, nc_20, c_33, nc_33, c_91, nc_91, c_109, nc_109]; done) | (subst eb; subst el; simp [wsF, moreW, c_20, nc_20, c_33, nc_33, c_91, nc_91, c_109, nc_109]; omega)) _ (lv_sub hl [5, 6, 7, 1, 2, 0] rfl)
                · skip
                  have nc_109 : ¬ (pcN (hsF sm rr t 64) 64) < le := (not_congr (nI_ltI (a := pcN (hsF sm rr t 64) 64) (b := le) (by omega) (by omega))).mp c_109
                  refine lv_goto (tgt := 123) hx hb dX8_worstOf_112 (by decide) ?_
                  refine lv_iinc (v := nI (t + 1)) (lv' := [(7, .int (nI (t + 1))), (11, .int (nI (pcN (hsF sm rr t 64) 64))), (10, .int (nI (pcN (hsF sm rr t 64) 64))), (0, .ref z), (1, .long (lN sm)), (3, .int (nI (pcN sm 64))), (4, .long (lN bm)), (6, .int (nI le)), (8, .long (lN (hsF sm rr t 64)))]) hx hb dX8_worstOf_123 hl (k := 7) rfl (nI_1 _) (by decide) rfl (fun ls hl => ?_)
                  refine lv_goto (tgt := 14) hx hb dX8_worstOf_126 (by decide) ?_
                  exact ih_14  (t + 1) bm le (by omega) (by first | exact Nat.zero_le _ | omega) (by first | (subst eb; subst el; simp [wsF, moreW, c_20, nc_20, c_33, nc_33, c_91, nc_91, c_109, nc_109]; done) | (subst eb; subst el; simp [wsF, moreW, c_20, nc_20, c_33, nc_33, c_91, nc_91, c_109, nc_109]; omega)) (by first | (subst eb; subst el; simp [wsF, moreW, c_20, nc_20, c_33, nc_33, c_91, nc_91, c_109, nc_109]; done) | (subst eb; subst el; simp [wsF, moreW, c_20, nc_20, c_33, nc_33, c_91, nc_91, c_109, nc_109]; omega)) _ (lv_sub hl [3, 4, 5, 6, 7, 0] rfl)
            · skip
              have nc_33 : ¬ 64 ≤ k := (not_congr (nI_leI (a := 64) (b := k) (by omega) (by omega))).mp c_33
              refine lv_lload_n hx hb dX8_worstOf_36 rfl (lv_at hl 1 rfl) ?_
              refine lv_iload hx hb dX8_worstOf_37 (lv_at hl 7 rfl) ?_
              refine lv_lshr hx hb dX8_worstOf_39 rfl ?_
              refine lv_lconst (v := 1) hx hb dX8_worstOf_40 (by decide) ?_
              refine lv_land hx hb dX8_worstOf_41 ?_
              refine lv_topl (fun nv_10 ev_10 => ?_)
              obtain rfl : nv_10 = lN (if sm.testBit k then 1 else 0) := ev_10.trans (lx_bit (by omega))
              refine lv_lconst (v := 1) hx hb dX8_worstOf_42 (by decide) ?_
              refine W.lcmp hx hb dX8_worstOf_43 ?_
              refine lv_if_ne (tgt := 72) hx hb dX8_worstOf_44 (by decide) (fun c_44 => ?_) (fun c_44 => ?_)
              · skip
                have c_44b : sm.testBit k = false := by cases hz : sm.testBit k with | false => rfl | true => exact absurd (lx_ne.mpr hz) c_44
                refine lv_iinc (v := nI (k + 1)) (lv' := [(10, .int (nI (k + 1))), (0, .ref z), (1, .long (lN sm)), (3, .int (nI (pcN sm 64))), (4, .long (lN bm)), (6, .int (nI le)), (7, .int (nI t)), (8, .long (lN hm))]) hx hb dX8_worstOf_72 hl (k := 7) rfl (nI_1 _) (by decide) rfl (fun ls hl => ?_)
                refine lv_goto (tgt := 29) hx hb dX8_worstOf_75 (by decide) ?_
                exact ih_29  (k + 1) hm (by omega) (by first | exact Nat.zero_le _ | omega) (by subst eh; simp [hsF, c_20, nc_20, c_33, nc_33, c_44, c_44b]) _ (lv_sub hl [1, 2, 3, 4, 5, 6, 7, 0] rfl)
              · skip
                have c_44b : sm.testBit k = true := lx_ne.mp c_44
                refine lv_aload_n hx hb dX8_worstOf_47 rfl (lv_at hl 0 rfl) ?_
                refine va_get (D := D) (ci := 9) (v := .ref a15) (C := RX8) (T := TX8) (N := 24) hx hb hts hi_X8 hown hK.1 hP 0 rfl rfl 23 (by decide) hw_f60 (fun _ h9 => h9) rfl dX8_worstOf_48 ?_
                refine lv_iload hx hb dX8_worstOf_51 (lv_at hl 7 rfl) ?_
                refine va_iald hx hb hK.1 hP 1 0 rfl rfl (vp_in_nI (by omega) (by omega)) dX8_worstOf_53 ?_
                refine lv_topi (fun nv_11 ev_11 => ?_)
                obtain rfl : nv_11 = (nF rr) k := by rw [ev_11, nI_clamp (by omega)]
                refine lv_topi (fun nv_12 ev_12 => ?_)
                obtain rfl : nv_12 = nI (rr k) := ev_12.trans (rfl)
                refine lv_iload hx hb dX8_worstOf_54 (lv_at hl 5 rfl) ?_
                refine lv_ishr hx hb dX8_worstOf_56 ?_
                refine lv_iconst (v := 1) hx hb dX8_worstOf_57 (by decide) ?_
                refine lv_iand hx hb dX8_worstOf_58 ?_
                refine lv_topi (fun nv_13 ev_13 => ?_)
                obtain rfl : nv_13 = k01 ((rr k).testBit t) := ev_13.trans (hx_k01 (by have := hrr k; omega) (by omega))
                refine lv_iconst (v := 1) hx hb dX8_worstOf_59 (by decide) ?_
                refine lv_icmp_ne (tgt := 72) hx hb dX8_worstOf_60 (by decide) (fun c_60 => ?_) (fun c_60 => ?_)
                · skip
                  have c_60b : (rr k).testBit t = false := by cases hz : (rr k).testBit t with | false => rfl | true => exact absurd (by rw [hz]; rfl) c_60
                  refine lv_iinc (v := nI (k + 1)) (lv' := [(10, .int (nI (k + 1))), (0, .ref z), (1, .long (lN sm)), (3, .int (nI (pcN sm 64))), (4, .long (lN bm)), (6, .int (nI le)), (7, .int (nI t)), (8, .long (lN hm))]) hx hb dX8_worstOf_72 hl (k := 7) rfl (nI_1 _) (by decide) rfl (fun ls hl => ?_)
                  refine lv_goto (tgt := 29) hx hb dX8_worstOf_75 (by decide) ?_
                  exact ih_29  (k + 1) hm (by omega) (by first | exact Nat.zero_le _ | omega) (by subst eh; simp [hsF, c_20, nc_20, c_33, nc_33, c_44, c_44b, c_60, c_60b]) _ (lv_sub hl [1, 2, 3, 4, 5, 6, 7, 0] rfl)
                · skip
                  have c_60b : (rr k).testBit t = true := by cases hz : (rr k).testBit t with | true => rfl | false => exact absurd c_60 (by rw [hz]; decide)
                  refine lv_lload hx hb dX8_worstOf_63 (lv_at hl 6 rfl) ?_
                  refine lv_lconst (v := 1) hx hb dX8_worstOf_65 (by decide) ?_
                  refine lv_iload hx hb dX8_worstOf_66 (lv_at hl 7 rfl) ?_
                  refine lv_lshl hx hb dX8_worstOf_68 rfl ?_
                  refine lv_topl (fun nv_14 ev_14 => ?_)
                  obtain rfl : nv_14 = lN (2 ^ k) := ev_14.trans (lx_pow (by omega))
                  refine lv_lor hx hb dX8_worstOf_69 ?_
                  refine lv_topl (fun nv_15 ev_15 => ?_)
                  obtain rfl : nv_15 = lN (hm ||| 2 ^ k) := ev_15.trans (lx_or (by rw [eh]; exact hs_lt64 sm rr t (by omega)) (by omega))
                  refine lv_lstore (lv' := [(8, .long (lN (hm ||| 2 ^ k))), (0, .ref z), (1, .long (lN sm)), (3, .int (nI (pcN sm 64))), (4, .long (lN bm)), (6, .int (nI le)), (7, .int (nI t)), (10, .int (nI k))]) hx hb dX8_worstOf_70 hl (by decide) rfl (fun ls hl => ?_)
                  refine lv_iinc (v := nI (k + 1)) (lv' := [(10, .int (nI (k + 1))), (8, .long (lN (hm ||| 2 ^ k))), (0, .ref z), (1, .long (lN sm)), (3, .int (nI (pcN sm 64))), (4, .long (lN bm)), (6, .int (nI le)), (7, .int (nI t))]) hx hb dX8_worstOf_72 hl (k := 7) rfl (nI_1 _) (by decide) rfl (fun ls hl => ?_)
                  refine lv_goto (tgt := 29) hx hb dX8_worstOf_75 (by decide) ?_
                  exact ih_29  (k + 1) (hm ||| 2 ^ k) (by omega) (by first | exact Nat.zero_le _ | omega) (by subst eh; simp [hsF, c_20, nc_20, c_33, nc_33, c_44, c_44b, c_60, c_60b]) _ (lv_sub hl [2, 3, 4, 5, 6, 7, 1, 0] rfl)
        exact hloop_29 ((64 - 0) + 1) 0 0 (Nat.lt_succ_self _) (by exact Nat.zero_le _) (by rfl) _ (lv_sub hl [2, 3, 4, 5, 6, 7, 1, 0] rfl)
  exact hloop_14 ((T - 0) + 1) 0 0 (pcN sm 64) (Nat.lt_succ_self _) (by exact Nat.zero_le _) (by rfl) (by rfl) _ (lv_sub hl [4, 5, 3, 2, 1, 0] rfl)

set_option maxHeartbeats 4000000 in
set_option maxRecDepth 100000 in
theorem c_X8_wo_3 (l : Launch) (D : va_G) (cI cJ cZ cO : ClassId) (z : Nat) (a0 : Nat) (a1 : Nat) (a2 : Nat) (a3 : Nat) (a4 : Nat) (a5 : Nat) (a6 : Nat) (a7 : Nat) (a8 : Nat) (a9 : Nat) (a10 : Nat) (a11 : Nat) (a12 : Nat) (a13 : Nat) (a14 : Nat) (a15 : Nat) (T : Nat) (P : Nat) (pa : Int32) (kn : Int32) (rn : Nat) (ln : Nat) (th : Int32) (wt : Int32) (rr : Nat → Nat) (sm : Nat) (fq : Nat) (q : Nat) (hT : T ≤ 12) (hs : sm < 2 ^ 64) (hrt : ∀ k, k < 64 → sm.testBit k = true → rr k < 2 ^ T) (hrr : ∀ k, rr k < 4096) (hfu : fq = 12 - 3) (hsp : spN (mCt sm rr) ≤ fq) (hq : q = WN fq (mCt sm rr)) : kR l D (kTY cI cJ cZ cO) yX8_worstOf wsX8_worstOf 10 300 [.ref z, .long (lN sm)] [(z, .inr (9, [.ref a0, .ref a1, .int (nI T), .ref a2, .ref a3, .ref a4, .ref a5, .ref a6, .int (nI P), .int pa, .int kn, .ref a7, .int (nI rn), .ref a8, .ref a9, .int (nI ln), .ref a10, .int th, .ref a11, .ref a12, .int wt, .ref a13, .ref a14, .ref a15])), (a15, .inl (cI, 64, .inl (nF rr)))] (fun rv_ => rv_ = some (.int (nI q))) := by
  refine kEnterR (cc := cX8_worstOf) (maxL := 12) (ret := (some .int)) (by decide) rfl (Nat.le_of_ble_eq_true rfl) ?_
  intro p e s m args below meth c hx hb hr hml hts hown hlk hK hP ls hl
  have hl : lv_has ls 12 [(0, .ref z), (1, .long (lN sm))] := hl
  have hw_f66 := hts (.fieldLink RX8 66 "WhatToReadModel" "topics" "I") (by decide +kernel)
  have hi_X8 : ∀ w ∈ wsX80, w ∈ wsX8_worstOf := by decide +kernel
  have hw_f60 := hts (.fieldLink RX8 60 "WhatToReadModel" "row64" "[I") (by decide +kernel)
  refine lv_lload_n hx hb dX8_worstOf_0 rfl (lv_at hl 1 rfl) ?_
  refine kGoR (va_runS (As := [.long (lN sm)]) (rest := []) ⟨hx, hb, hml, hown, hts⟩ (c_J13_bitCount_95d88 l D cI cJ cZ cO sm (hs)) (va_cwS 1 hts gX8_worstOf_J13_bitCount_95d88 rfl rfl rfl (by decide +kernel) ⟨Nat.le_of_ble_eq_true rfl, Nat.le_of_ble_eq_true rfl⟩) (kPreSR hK (kPc_sub hP [] rfl)) rfl rfl hl.1 rfl (lv_room (Nat.le_of_ble_eq_true rfl)) dX8_worstOf_1 ⟨Nat.le_of_ble_eq_true rfl, Nat.le_of_ble_eq_true rfl⟩) (fun v_1 hv_1 => ?_)
  obtain rfl := hv_1
  refine W.eq (g2 := F0 m 4 ls [.int (nI (pcN sm 64))]) rfl ?_
  refine lv_istore_n (lv' := [(3, .int (nI (pcN sm 64))), (0, .ref z), (1, .long (lN sm))]) hx hb dX8_worstOf_4 rfl hl (by decide) rfl (fun ls hl => ?_)
  refine lv_lconst (v := 0) hx hb dX8_worstOf_5 (by decide) ?_
  refine lv_topl (fun nv_2 ev_2 => ?_)
  obtain rfl : nv_2 = lN 0 := ev_2.trans (rfl)
  refine lv_lstore (lv' := [(4, .long (lN 0)), (3, .int (nI (pcN sm 64))), (0, .ref z), (1, .long (lN sm))]) hx hb dX8_worstOf_6 hl (by decide) rfl (fun ls hl => ?_)
  refine lv_iload_n hx hb dX8_worstOf_8 rfl (lv_at hl 1 rfl) ?_
  refine lv_istore (lv' := [(6, .int (nI (pcN sm 64))), (4, .long (lN 0)), (3, .int (nI (pcN sm 64))), (0, .ref z), (1, .long (lN sm))]) hx hb dX8_worstOf_9 hl (by decide) rfl (fun ls hl => ?_)
  refine lv_iconst (v := 0) hx hb dX8_worstOf_11 (by decide) ?_
  refine lv_istore (lv' := [(7, .int 0), (6, .int (nI (pcN sm 64))), (4, .long (lN 0)), (3, .int (nI (pcN sm 64))), (0, .ref z), (1, .long (lN sm))]) hx hb dX8_worstOf_12 hl (by decide) rfl (fun ls hl => ?_)
  have hloop_14 : ∀ (fu : Nat) (t : Nat) (bm : Nat) (le : Nat), T - t < fu → t ≤ T → bm = (wsF sm rr (pcN sm 64) t).1 → le = (wsF sm rr (pcN sm 64) t).2 → ∀ ls : Array Slot, lv_has ls 12 [(0, .ref z), (1, .long (lN sm)), (3, .int (nI (pcN sm 64))), (4, .long (lN bm)), (6, .int (nI le)), (7, .int (nI t))] → W p l e ({ frames := 10, cells := 0, slots := 0, locals := 300 }) s m args below meth c s.heap [] 0 0 (MQ below (kQr (fun rv_ => rv_ = some (.int (nI q)))) args s 0 0 (fun _ => False)) (F0 m 14 ls []) := by
    intro fu
    induction fu with
    | zero => intro t bm le hmu; exact absurd hmu (Nat.not_lt_zero _)
    | succ fu ih_14 =>
      intro t bm le hmu_14 ht eb el ls hl
      have hal := pcN_le sm 64
      have hmle := hs_le sm rr t
      have hl2 := ws2_le sm rr (pcN sm 64) t
      refine lv_iload hx hb dX8_worstOf_14 (lv_at hl 5 rfl) ?_
      refine lv_aload_n hx hb dX8_worstOf_16 rfl (lv_at hl 0 rfl) ?_
      refine va_get (D := D) (ci := 9) (v := .int (nI T)) (C := RX8) (T := TX8) (N := 24) hx hb hts hi_X8 hown hK.1 hP 0 rfl rfl 2 (by decide) hw_f66 (fun _ h9 => h9) rfl dX8_worstOf_17 ?_
      refine lv_icmp_ge (tgt := 129) hx hb dX8_worstOf_20 (by decide) (fun c_20 => ?_) (fun c_20 => ?_)
      · skip
        have nc_20 : T ≤ t := (nI_leI (a := T) (b := t) (by omega) (by omega)).mp c_20
        have e13 : t = T := by omega
        have hle2 : le ≤ pcN sm 64 := by rw [el]; exact ws2_le sm rr _ t
        obtain ⟨wq, hwq⟩ : ∃ wq, wq = wsF sm rr (pcN sm 64) T := ⟨_, rfl⟩
        rw [e13, ← hwq] at eb el
        have hwe := ws_end hT hrt hwq
        refine lv_iload hx hb dX8_worstOf_129 (lv_at hl 4 rfl) ?_
        refine lv_iload_n hx hb dX8_worstOf_131 rfl (lv_at hl 2 rfl) ?_
        refine lv_icmp_ne (tgt := 137) hx hb dX8_worstOf_132 (by decide) (fun c_132 => ?_) (fun c_132 => ?_)
        · skip
          have nc_132 : ¬ le = (pcN sm 64) := (not_congr (nI_eq (a := le) (b := pcN sm 64) (by omega) (by omega))).mp c_132
          obtain ⟨w1, w2, w3, w4, w5, w6, w7⟩ := hwe.2 (by omega)
          obtain ⟨fd, hfd⟩ : ∃ fd, fq = fd + 1 := ⟨fq - 1, by omega⟩
          obtain ⟨q1, hq1⟩ : ∃ q1, q1 = WN fd (mCt wq.1 rr) := ⟨_, rfl⟩
          obtain ⟨q2, hq2⟩ : ∃ q2, q2 = WN fd (mCt (andn sm wq.1) rr) := ⟨_, rfl⟩
          have hq1l : q1 ≤ fd := by rw [hq1]; exact WN_le _ _
          have hq2l : q2 ≤ fd := by rw [hq2]; exact WN_le _ _
          have hfin0 : q = 1 + max q2 q1 := by rw [hq, hfd, w7 fd, hq1, hq2]
          refine lv_aload_n hx hb dX8_worstOf_137 rfl (lv_at hl 0 rfl) ?_
          refine lv_lload hx hb dX8_worstOf_138 (lv_at hl 3 rfl) ?_
          refine kGoR (va_runV (As := [.long (lN bm)]) (rest := []) ⟨hx, hb, hml, hown, hts⟩ (c_X8_wo_4 l D cI cJ cZ cO z a0 a1 a2 a3 a4 a5 a6 a7 a8 a9 a10 a11 a12 a13 a14 a15 T P pa kn rn ln th wt rr bm fd q1 (by first | assumption | omega | decide) (by rw [eb]; exact w1) (by rw [eb]; exact w2) (hrr) (by omega) (by rw [eb]; omega) (by rw [hq1, eb])) (cwV 1 hts gX8_worstOf_X8_worstOf rfl rfl rfl (by decide +kernel) ⟨Nat.le_of_ble_eq_true rfl, Nat.le_of_ble_eq_true rfl⟩) (kPreVR (ci := 9) (q0 := 0) hK (kPc_sub hP [0, 1] rfl) rfl rfl rfl) rfl rfl hl.1 rfl (lv_room (Nat.le_of_ble_eq_true rfl)) dX8_worstOf_140 ⟨Nat.le_of_ble_eq_true rfl, Nat.le_of_ble_eq_true rfl⟩) (fun v_3 hv_3 => ?_)
          obtain rfl := hv_3
          refine W.eq (g2 := F0 m 143 ls [.int (nI q1)]) rfl ?_
          refine lv_istore (lv' := [(7, .int (nI q1)), (0, .ref z), (1, .long (lN sm)), (3, .int (nI (pcN sm 64))), (4, .long (lN bm)), (6, .int (nI le))]) hx hb dX8_worstOf_143 hl (by decide) rfl (fun ls hl => ?_)
          refine lv_aload_n hx hb dX8_worstOf_145 rfl (lv_at hl 1 rfl) ?_
          refine lv_lload_n hx hb dX8_worstOf_146 rfl (lv_at hl 2 rfl) ?_
          refine lv_lload hx hb dX8_worstOf_147 (lv_at hl 4 rfl) ?_
          refine lv_ldc2 (v := (-1)) hx hb hown (hts (.constantLong RX8 143 (-1)) (by decide +kernel)) dX8_worstOf_149 ?_
          refine lv_lxor hx hb dX8_worstOf_152 ?_
          refine lv_land hx hb dX8_worstOf_153 ?_
          refine lv_topl (fun nv_4 ev_4 => ?_)
          obtain rfl : nv_4 = lN (andn sm bm) := ev_4.trans (lx_andn hs (by rw [eb, hwq]; exact ws1_lt sm rr _ T))
          refine kGoR (va_runV (As := [.long (lN (andn sm bm))]) (rest := []) ⟨hx, hb, hml, hown, hts⟩ (c_X8_wo_4 l D cI cJ cZ cO z a0 a1 a2 a3 a4 a5 a6 a7 a8 a9 a10 a11 a12 a13 a14 a15 T P pa kn rn ln th wt rr (andn sm bm) fd q2 (by first | assumption | omega | decide) (Nat.lt_of_le_of_lt (andn_le _ _) hs) (by rw [eb]; exact w3) (hrr) (by omega) (by rw [eb]; omega) (by rw [hq2, eb])) (cwV 1 hts gX8_worstOf_X8_worstOf rfl rfl rfl (by decide +kernel) ⟨Nat.le_of_ble_eq_true rfl, Nat.le_of_ble_eq_true rfl⟩) (kPreVR (ci := 9) (q0 := 0) hK (kPc_sub hP [0, 1] rfl) rfl rfl rfl) rfl rfl hl.1 rfl (lv_room (Nat.le_of_ble_eq_true rfl)) dX8_worstOf_154 ⟨Nat.le_of_ble_eq_true rfl, Nat.le_of_ble_eq_true rfl⟩) (fun v_5 hv_5 => ?_)
          obtain rfl := hv_5
          refine W.eq (g2 := F0 m 157 ls [.int (nI q2)]) rfl ?_
          refine lv_istore (lv' := [(8, .int (nI q2)), (7, .int (nI q1)), (0, .ref z), (1, .long (lN sm)), (3, .int (nI (pcN sm 64))), (4, .long (lN bm)), (6, .int (nI le))]) hx hb dX8_worstOf_157 hl (by decide) rfl (fun ls hl => ?_)
          refine lv_iconst (v := 1) hx hb dX8_worstOf_159 (by decide) ?_
          refine lv_iload hx hb dX8_worstOf_160 (lv_at hl 1 rfl) ?_
          refine lv_iload hx hb dX8_worstOf_162 (lv_at hl 0 rfl) ?_
          refine lv_icmp_le (tgt := 172) hx hb dX8_worstOf_164 (by decide) (fun c_164 => ?_) (fun c_164 => ?_)
          · skip
            have nc_164 : q1 ≤ q2 := (nI_leI (a := q1) (b := q2) (by omega) (by omega)).mp c_164
            have hfin : (1 : Int32) + nI q2 = nI q := by rw [hfin0, show max q2 q1 = q2 by omega]; exact nI_add 1 _
            refine lv_iload hx hb dX8_worstOf_172 (lv_at hl 0 rfl) ?_
            refine lv_iadd hx hb dX8_worstOf_174 ?_
            exact kRetIr hx hb hr hlk dX8_worstOf_175 (kpi (by first | (rw [hq, hwe.1 (by omega)]; rfl) | (rw [hfin]; done)))
          · skip
            have nc_164 : ¬ q1 ≤ q2 := (not_congr (nI_leI (a := q1) (b := q2) (by omega) (by omega))).mp c_164
            have hfin : (1 : Int32) + nI q1 = nI q := by rw [hfin0, show max q2 q1 = q1 by omega]; exact nI_add 1 _
            refine lv_iload hx hb dX8_worstOf_167 (lv_at hl 1 rfl) ?_
            refine lv_goto (tgt := 174) hx hb dX8_worstOf_169 (by decide) ?_
            refine lv_iadd hx hb dX8_worstOf_174 ?_
            exact kRetIr hx hb hr hlk dX8_worstOf_175 (kpi (by first | (rw [hq, hwe.1 (by omega)]; rfl) | (rw [hfin]; done)))
        · skip
          have nc_132 : le = (pcN sm 64) := (nI_eq (a := le) (b := pcN sm 64) (by omega) (by omega)).mp c_132
          refine lv_iconst (v := 0) hx hb dX8_worstOf_135 (by decide) ?_
          exact kRetIr hx hb hr hlk dX8_worstOf_136 (kpi (by first | (rw [hq, hwe.1 (by omega)]; rfl) | (rw [hfin]; done)))
      · skip
        have nc_20 : ¬ T ≤ t := (not_congr (nI_leI (a := T) (b := t) (by omega) (by omega))).mp c_20
        refine lv_lconst (v := 0) hx hb dX8_worstOf_23 (by decide) ?_
        refine lv_topl (fun nv_6 ev_6 => ?_)
        obtain rfl : nv_6 = lN 0 := ev_6.trans (rfl)
        refine lv_lstore (lv' := [(8, .long (lN 0)), (0, .ref z), (1, .long (lN sm)), (3, .int (nI (pcN sm 64))), (4, .long (lN bm)), (6, .int (nI le)), (7, .int (nI t))]) hx hb dX8_worstOf_24 hl (by decide) rfl (fun ls hl => ?_)
        refine lv_iconst (v := 0) hx hb dX8_worstOf_26 (by decide) ?_
        refine lv_istore (lv' := [(10, .int 0), (8, .long (lN 0)), (0, .ref z), (1, .long (lN sm)), (3, .int (nI (pcN sm 64))), (4, .long (lN bm)), (6, .int (nI le)), (7, .int (nI t))]) hx hb dX8_worstOf_27 hl (by decide) rfl (fun ls hl => ?_)
        have hloop_29 : ∀ (fu : Nat) (k : Nat) (hm : Nat), 64 - k < fu → k ≤ 64 → hm = hsF sm rr t k → ∀ ls : Array Slot, lv_has ls 12 [(0, .ref z), (1, .long (lN sm)), (3, .int (nI (pcN sm 64))), (4, .long (lN bm)), (6, .int (nI le)), (7, .int (nI t)), (8, .long (lN hm)), (10, .int (nI k))] → W p l e ({ frames := 10, cells := 0, slots := 0, locals := 300 }) s m args below meth c s.heap [] 0 0 (MQ below (kQr (fun rv_ => rv_ = some (.int (nI q)))) args s 0 0 (fun _ => False)) (F0 m 29 ls []) := by
          intro fu
          induction fu with
          | zero => intro k hm hmu; exact absurd hmu (Nat.not_lt_zero _)
          | succ fu ih_29 =>
            intro k hm hmu_29 hk eh ls hl
            refine lv_iload hx hb dX8_worstOf_29 (lv_at hl 7 rfl) ?_
            refine lv_bipush (v := 64) hx hb dX8_worstOf_31 (by decide) ?_
            refine lv_icmp_ge (tgt := 78) hx hb dX8_worstOf_33 (by decide) (fun c_33 => ?_) (fun c_33 => ?_)
            · skip
              have nc_33 : 64 ≤ k := (nI_leI (a := 64) (b := k) (by omega) (by omega)).mp c_33
              have e12 : k = 64 := by omega
              rw [show (lN hm : Int64) = lN (hsF sm rr t 64) from by rw [eh, e12]] at hl
              refine lv_lload hx hb dX8_worstOf_78 (lv_at hl 6 rfl) ?_
              refine kGoR (va_runS (As := [.long (lN (hsF sm rr t 64))]) (rest := []) ⟨hx, hb, hml, hown, hts⟩ (c_J13_bitCount_95d88 l D cI cJ cZ cO (hsF sm rr t 64) (hs_lt64 sm rr t (Nat.le_refl _))) (va_cwS 1 hts gX8_worstOf_J13_bitCount_95d88 rfl rfl rfl (by decide +kernel) ⟨Nat.le_of_ble_eq_true rfl, Nat.le_of_ble_eq_true rfl⟩) (kPreSR hK (kPc_sub hP [] rfl)) rfl rfl hl.1 rfl (lv_room (Nat.le_of_ble_eq_true rfl)) dX8_worstOf_80 ⟨Nat.le_of_ble_eq_true rfl, Nat.le_of_ble_eq_true rfl⟩) (fun v_7 hv_7 => ?_)
              obtain rfl := hv_7
              refine W.eq (g2 := F0 m 83 ls [.int (nI (pcN (hsF sm rr t 64) 64))]) rfl ?_
              refine lv_istore (lv' := [(10, .int (nI (pcN (hsF sm rr t 64) 64))), (0, .ref z), (1, .long (lN sm)), (3, .int (nI (pcN sm 64))), (4, .long (lN bm)), (6, .int (nI le)), (7, .int (nI t)), (8, .long (lN (hsF sm rr t 64)))]) hx hb dX8_worstOf_83 hl (by decide) rfl (fun ls hl => ?_)
              refine lv_iload hx hb dX8_worstOf_85 (lv_at hl 0 rfl) ?_
              refine lv_iload_n hx hb dX8_worstOf_87 rfl (lv_at hl 3 rfl) ?_
              refine lv_iload hx hb dX8_worstOf_88 (lv_at hl 0 rfl) ?_
              refine lv_isub hx hb dX8_worstOf_90 ?_
              refine lv_topi (fun nv_8 ev_8 => ?_)
              obtain rfl : nv_8 = nI (pcN sm 64 - pcN (hsF sm rr t 64) 64) := ev_8.trans (pk_sub hmle)
              refine lv_icmp_le (tgt := 99) hx hb dX8_worstOf_91 (by decide) (fun c_91 => ?_) (fun c_91 => ?_)
              · skip
                have nc_91 : (pcN (hsF sm rr t 64) 64) ≤ (pcN sm 64 - pcN (hsF sm rr t 64) 64) := (nI_leI (a := pcN (hsF sm rr t 64) 64) (b := pcN sm 64 - pcN (hsF sm rr t 64) 64) (by omega) (by omega)).mp c_91
                refine lv_iload_n hx hb dX8_worstOf_99 rfl (lv_at hl 3 rfl) ?_
                refine lv_iload hx hb dX8_worstOf_100 (lv_at hl 0 rfl) ?_
                refine lv_isub hx hb dX8_worstOf_102 ?_
                refine lv_topi (fun nv_9 ev_9 => ?_)
                obtain rfl : nv_9 = nI (pcN sm 64 - pcN (hsF sm rr t 64) 64) := ev_9.trans (pk_sub hmle)
                refine lv_istore (lv' := [(11, .int (nI (pcN sm 64 - pcN (hsF sm rr t 64) 64))), (10, .int (nI (pcN (hsF sm rr t 64) 64))), (0, .ref z), (1, .long (lN sm)), (3, .int (nI (pcN sm 64))), (4, .long (lN bm)), (6, .int (nI le)), (7, .int (nI t)), (8, .long (lN (hsF sm rr t 64)))]) hx hb dX8_worstOf_103 hl (by decide) rfl (fun ls hl => ?_)
                refine lv_iload hx hb dX8_worstOf_105 (lv_at hl 0 rfl) ?_
                refine lv_iload hx hb dX8_worstOf_107 (lv_at hl 6 rfl) ?_
                refine lv_icmp_lt (tgt := 115) hx hb dX8_worstOf_109 (by decide) (fun c_109 => ?_) (fun c_109 => ?_)
                · skip
                  have nc_109 : (pcN sm 64 - pcN (hsF sm rr t 64) 64) < le := (nI_ltI (a := pcN sm 64 - pcN (hsF sm rr t 64) 64) (b := le) (by omega) (by omega)).mp c_109
                  refine lv_iload hx hb dX8_worstOf_115 (lv_at hl 0 rfl) ?_
                  refine lv_istore (lv' := [(6, .int (nI (pcN sm 64 - pcN (hsF sm rr t 64) 64))), (11, .int (nI (pcN sm 64 - pcN (hsF sm rr t 64) 64))), (10, .int (nI (pcN (hsF sm rr t 64) 64))), (0, .ref z), (1, .long (lN sm)), (3, .int (nI (pcN sm 64))), (4, .long (lN bm)), (7, .int (nI t)), (8, .long (lN (hsF sm rr t 64)))]) hx hb dX8_worstOf_117 hl (by decide) rfl (fun ls hl => ?_)
                  refine lv_lload hx hb dX8_worstOf_119 (lv_at hl 8 rfl) ?_
                  refine lv_lstore (lv' := [(4, .long (lN (hsF sm rr t 64))), (6, .int (nI (pcN sm 64 - pcN (hsF sm rr t 64) 64))), (11, .int (nI (pcN sm 64 - pcN (hsF sm rr t 64) 64))), (10, .int (nI (pcN (hsF sm rr t 64) 64))), (0, .ref z), (1, .long (lN sm)), (3, .int (nI (pcN sm 64))), (7, .int (nI t)), (8, .long (lN (hsF sm rr t 64)))]) hx hb dX8_worstOf_121 hl (by decide) rfl (fun ls hl => ?_)
                  refine lv_iinc (v := nI (t + 1)) (lv' := [(7, .int (nI (t + 1))), (4, .long (lN (hsF sm rr t 64))), (6, .int (nI (pcN sm 64 - pcN (hsF sm rr t 64) 64))), (11, .int (nI (pcN sm 64 - pcN (hsF sm rr t 64) 64))), (10, .int (nI (pcN (hsF sm rr t 64) 64))), (0, .ref z), (1, .long (lN sm)), (3, .int (nI (pcN sm 64))), (8, .long (lN (hsF sm rr t 64)))]) hx hb dX8_worstOf_123 hl (k := 7) rfl (nI_1 _) (by decide) rfl (fun ls hl => ?_)
                  refine lv_goto (tgt := 14) hx hb dX8_worstOf_126 (by decide) ?_
                  exact ih_14  (t + 1) (hsF sm rr t 64) (pcN sm 64 - pcN (hsF sm rr t 64) 64) (by omega) (by first | exact Nat.zero_le _ | omega) (by first | (subst eb; subst el; simp [wsF, moreW, c_20, nc_20, c_33, nc_33, c_91, nc_91, c_109, nc_109]; done) | (subst eb; subst el; simp [wsF, moreW, c_20, nc_20, c_33, nc_33, c_91, nc_91, c_109, nc_109]; omega)) (by first | (subst eb; subst el; simp [wsF, moreW, c_20, nc_20, c_33, nc_33, c_91, nc_91, c_109, nc_109]; done) | (subst eb; subst el; simp [wsF, moreW, c_20, nc_20, c_33, nc_33, c_91, nc_91, c_109, nc_109]; omega)) _ (lv_sub hl [5, 6, 7, 1, 2, 0] rfl)
                · skip
                  have nc_109 : ¬ (pcN sm 64 - pcN (hsF sm rr t 64) 64) < le := (not_congr (nI_ltI (a := pcN sm 64 - pcN (hsF sm rr t 64) 64) (b := le) (by omega) (by omega))).mp c_109
                  refine lv_goto (tgt := 123) hx hb dX8_worstOf_112 (by decide) ?_
                  refine lv_iinc (v := nI (t + 1)) (lv' := [(7, .int (nI (t + 1))), (11, .int (nI (pcN sm 64 - pcN (hsF sm rr t 64) 64))), (10, .int (nI (pcN (hsF sm rr t 64) 64))), (0, .ref z), (1, .long (lN sm)), (3, .int (nI (pcN sm 64))), (4, .long (lN bm)), (6, .int (nI le)), (8, .long (lN (hsF sm rr t 64)))]) hx hb dX8_worstOf_123 hl (k := 7) rfl (nI_1 _) (by decide) rfl (fun ls hl => ?_)
                  refine lv_goto (tgt := 14) hx hb dX8_worstOf_126 (by decide) ?_
                  exact ih_14  (t + 1) bm le (by omega) (by first | exact Nat.zero_le _ | omega) (by first | (subst eb; subst el; simp [wsF, moreW, c_20, nc_20, c_33, nc_33, c_91, nc_91, c_109, nc_109]; done) | (subst eb; subst el; simp [wsF, moreW, c_20, nc_20, c_33, nc_33, c_91, nc_91, c_109, nc_109]; omega)) (by first | (subst eb; subst el; simp [wsF, moreW, c_20, nc_20, c_33, nc_33, c_91, nc_91, c_109, nc_109]; done) | (subst eb; subst el; simp [wsF, moreW, c_20, nc_20, c_33, nc_33, c_91, nc_91, c_109, nc_109]; omega)) _ (lv_sub hl [3, 4, 5, 6, 7, 0] rfl)
              · skip
                have nc_91 : ¬ (pcN (hsF sm rr t 64) 64) ≤ (pcN sm 64 - pcN (hsF sm rr t 64) 64) := (not_congr (nI_leI (a := pcN (hsF sm rr t 64) 64) (b := pcN sm 64 - pcN (hsF sm rr t 64) 64) (by omega) (by omega))).mp c_91
                refine lv_iload hx hb dX8_worstOf_94 (lv_at hl 0 rfl) ?_
                refine lv_goto (tgt := 103) hx hb dX8_worstOf_96 (by decide) ?_
                refine lv_istore (lv' := [(11, .int (nI (pcN (hsF sm rr t 64) 64))), (10, .int (nI (pcN (hsF sm rr t 64) 64))), (0, .ref z), (1, .long (lN sm)), (3, .int (nI (pcN sm 64))), (4, .long (lN bm)), (6, .int (nI le)), (7, .int (nI t)), (8, .long (lN (hsF sm rr t 64)))]) hx hb dX8_worstOf_103 hl (by decide) rfl (fun ls hl => ?_)
                refine lv_iload hx hb dX8_worstOf_105 (lv_at hl 0 rfl) ?_
                refine lv_iload hx hb dX8_worstOf_107 (lv_at hl 6 rfl) ?_
                refine lv_icmp_lt (tgt := 115) hx hb dX8_worstOf_109 (by decide) (fun c_109 => ?_) (fun c_109 => ?_)
                · skip
                  have nc_109 : (pcN (hsF sm rr t 64) 64) < le := (nI_ltI (a := pcN (hsF sm rr t 64) 64) (b := le) (by omega) (by omega)).mp c_109
                  refine lv_iload hx hb dX8_worstOf_115 (lv_at hl 0 rfl) ?_
                  refine lv_istore (lv' := [(6, .int (nI (pcN (hsF sm rr t 64) 64))), (11, .int (nI (pcN (hsF sm rr t 64) 64))), (10, .int (nI (pcN (hsF sm rr t 64) 64))), (0, .ref z), (1, .long (lN sm)), (3, .int (nI (pcN sm 64))), (4, .long (lN bm)), (7, .int (nI t)), (8, .long (lN (hsF sm rr t 64)))]) hx hb dX8_worstOf_117 hl (by decide) rfl (fun ls hl => ?_)
                  refine lv_lload hx hb dX8_worstOf_119 (lv_at hl 8 rfl) ?_
                  refine lv_lstore (lv' := [(4, .long (lN (hsF sm rr t 64))), (6, .int (nI (pcN (hsF sm rr t 64) 64))), (11, .int (nI (pcN (hsF sm rr t 64) 64))), (10, .int (nI (pcN (hsF sm rr t 64) 64))), (0, .ref z), (1, .long (lN sm)), (3, .int (nI (pcN sm 64))), (7, .int (nI t)), (8, .long (lN (hsF sm rr t 64)))]) hx hb dX8_worstOf_121 hl (by decide) rfl (fun ls hl => ?_)
                  refine lv_iinc (v := nI (t + 1)) (lv' := [(7, .int (nI (t + 1))), (4, .long (lN (hsF sm rr t 64))), (6, .int (nI (pcN (hsF sm rr t 64) 64))), (11, .int (nI (pcN (hsF sm rr t 64) 64))), (10, .int (nI (pcN (hsF sm rr t 64) 64))), (0, .ref z), (1, .long (lN sm)), (3, .int (nI (pcN sm 64))), (8, .long (lN (hsF sm rr t 64)))]) hx hb dX8_worstOf_123 hl (k := 7) rfl (nI_1 _) (by decide) rfl (fun ls hl => ?_)
                  refine lv_goto (tgt := 14) hx hb dX8_worstOf_126 (by decide) ?_
                  exact ih_14  (t + 1) (hsF sm rr t 64) (pcN (hsF sm rr t 64) 64) (by omega) (by first | exact Nat.zero_le _ | omega) (by first | (subst eb; subst el; simp [wsF, moreW, c_20, nc_20, c_33, nc_33, c_91, nc_91, c_109, nc_109]; done) | (subst eb; subst el; simp [wsF, moreW, c_20, nc_20, c_33, nc_33, c_91, nc_91, c_109, nc_109]; omega)) (by first | (subst eb; subst el; simp [wsF, moreW, c_20, nc_20, c_33, nc_33, c_91, nc_91, c_109, nc_109]; done) | (subst eb; subst el; simp [wsF, moreW, c_20, nc_20, c_33, nc_33, c_91, nc_91, c_109, nc_109]; omega)) _ (lv_sub hl [5, 6, 7, 1, 2, 0] rfl)
                · skip
                  have nc_109 : ¬ (pcN (hsF sm rr t 64) 64) < le := (not_congr (nI_ltI (a := pcN (hsF sm rr t 64) 64) (b := le) (by omega) (by omega))).mp c_109
                  refine lv_goto (tgt := 123) hx hb dX8_worstOf_112 (by decide) ?_
                  refine lv_iinc (v := nI (t + 1)) (lv' := [(7, .int (nI (t + 1))), (11, .int (nI (pcN (hsF sm rr t 64) 64))), (10, .int (nI (pcN (hsF sm rr t 64) 64))), (0, .ref z), (1, .long (lN sm)), (3, .int (nI (pcN sm 64))), (4, .long (lN bm)), (6, .int (nI le)), (8, .long (lN (hsF sm rr t 64)))]) hx hb dX8_worstOf_123 hl (k := 7) rfl (nI_1 _) (by decide) rfl (fun ls hl => ?_)
                  refine lv_goto (tgt := 14) hx hb dX8_worstOf_126 (by decide) ?_
                  exact ih_14  (t + 1) bm le (by omega) (by first | exact Nat.zero_le _ | omega) (by first | (subst eb; subst el; simp [wsF, moreW, c_20, nc_20, c_33, nc_33, c_91, nc_91, c_109, nc_109]; done) | (subst eb; subst el; simp [wsF, moreW, c_20, nc_20, c_33, nc_33, c_91, nc_91, c_109, nc_109]; omega)) (by first | (subst eb; subst el; simp [wsF, moreW, c_20, nc_20, c_33, nc_33, c_91, nc_91, c_109, nc_109]; done) | (subst eb; subst el; simp [wsF, moreW, c_20, nc_20, c_33, nc_33, c_91, nc_91, c_109, nc_109]; omega)) _ (lv_sub hl [3, 4, 5, 6, 7, 0] rfl)
            · skip
              have nc_33 : ¬ 64 ≤ k := (not_congr (nI_leI (a := 64) (b := k) (by omega) (by omega))).mp c_33
              refine lv_lload_n hx hb dX8_worstOf_36 rfl (lv_at hl 1 rfl) ?_
              refine lv_iload hx hb dX8_worstOf_37 (lv_at hl 7 rfl) ?_
              refine lv_lshr hx hb dX8_worstOf_39 rfl ?_
              refine lv_lconst (v := 1) hx hb dX8_worstOf_40 (by decide) ?_
              refine lv_land hx hb dX8_worstOf_41 ?_
              refine lv_topl (fun nv_10 ev_10 => ?_)
              obtain rfl : nv_10 = lN (if sm.testBit k then 1 else 0) := ev_10.trans (lx_bit (by omega))
              refine lv_lconst (v := 1) hx hb dX8_worstOf_42 (by decide) ?_
              refine W.lcmp hx hb dX8_worstOf_43 ?_
              refine lv_if_ne (tgt := 72) hx hb dX8_worstOf_44 (by decide) (fun c_44 => ?_) (fun c_44 => ?_)
              · skip
                have c_44b : sm.testBit k = false := by cases hz : sm.testBit k with | false => rfl | true => exact absurd (lx_ne.mpr hz) c_44
                refine lv_iinc (v := nI (k + 1)) (lv' := [(10, .int (nI (k + 1))), (0, .ref z), (1, .long (lN sm)), (3, .int (nI (pcN sm 64))), (4, .long (lN bm)), (6, .int (nI le)), (7, .int (nI t)), (8, .long (lN hm))]) hx hb dX8_worstOf_72 hl (k := 7) rfl (nI_1 _) (by decide) rfl (fun ls hl => ?_)
                refine lv_goto (tgt := 29) hx hb dX8_worstOf_75 (by decide) ?_
                exact ih_29  (k + 1) hm (by omega) (by first | exact Nat.zero_le _ | omega) (by subst eh; simp [hsF, c_20, nc_20, c_33, nc_33, c_44, c_44b]) _ (lv_sub hl [1, 2, 3, 4, 5, 6, 7, 0] rfl)
              · skip
                have c_44b : sm.testBit k = true := lx_ne.mp c_44
                refine lv_aload_n hx hb dX8_worstOf_47 rfl (lv_at hl 0 rfl) ?_
                refine va_get (D := D) (ci := 9) (v := .ref a15) (C := RX8) (T := TX8) (N := 24) hx hb hts hi_X8 hown hK.1 hP 0 rfl rfl 23 (by decide) hw_f60 (fun _ h9 => h9) rfl dX8_worstOf_48 ?_
                refine lv_iload hx hb dX8_worstOf_51 (lv_at hl 7 rfl) ?_
                refine va_iald hx hb hK.1 hP 1 0 rfl rfl (vp_in_nI (by omega) (by omega)) dX8_worstOf_53 ?_
                refine lv_topi (fun nv_11 ev_11 => ?_)
                obtain rfl : nv_11 = (nF rr) k := by rw [ev_11, nI_clamp (by omega)]
                refine lv_topi (fun nv_12 ev_12 => ?_)
                obtain rfl : nv_12 = nI (rr k) := ev_12.trans (rfl)
                refine lv_iload hx hb dX8_worstOf_54 (lv_at hl 5 rfl) ?_
                refine lv_ishr hx hb dX8_worstOf_56 ?_
                refine lv_iconst (v := 1) hx hb dX8_worstOf_57 (by decide) ?_
                refine lv_iand hx hb dX8_worstOf_58 ?_
                refine lv_topi (fun nv_13 ev_13 => ?_)
                obtain rfl : nv_13 = k01 ((rr k).testBit t) := ev_13.trans (hx_k01 (by have := hrr k; omega) (by omega))
                refine lv_iconst (v := 1) hx hb dX8_worstOf_59 (by decide) ?_
                refine lv_icmp_ne (tgt := 72) hx hb dX8_worstOf_60 (by decide) (fun c_60 => ?_) (fun c_60 => ?_)
                · skip
                  have c_60b : (rr k).testBit t = false := by cases hz : (rr k).testBit t with | false => rfl | true => exact absurd (by rw [hz]; rfl) c_60
                  refine lv_iinc (v := nI (k + 1)) (lv' := [(10, .int (nI (k + 1))), (0, .ref z), (1, .long (lN sm)), (3, .int (nI (pcN sm 64))), (4, .long (lN bm)), (6, .int (nI le)), (7, .int (nI t)), (8, .long (lN hm))]) hx hb dX8_worstOf_72 hl (k := 7) rfl (nI_1 _) (by decide) rfl (fun ls hl => ?_)
                  refine lv_goto (tgt := 29) hx hb dX8_worstOf_75 (by decide) ?_
                  exact ih_29  (k + 1) hm (by omega) (by first | exact Nat.zero_le _ | omega) (by subst eh; simp [hsF, c_20, nc_20, c_33, nc_33, c_44, c_44b, c_60, c_60b]) _ (lv_sub hl [1, 2, 3, 4, 5, 6, 7, 0] rfl)
                · skip
                  have c_60b : (rr k).testBit t = true := by cases hz : (rr k).testBit t with | true => rfl | false => exact absurd c_60 (by rw [hz]; decide)
                  refine lv_lload hx hb dX8_worstOf_63 (lv_at hl 6 rfl) ?_
                  refine lv_lconst (v := 1) hx hb dX8_worstOf_65 (by decide) ?_
                  refine lv_iload hx hb dX8_worstOf_66 (lv_at hl 7 rfl) ?_
                  refine lv_lshl hx hb dX8_worstOf_68 rfl ?_
                  refine lv_topl (fun nv_14 ev_14 => ?_)
                  obtain rfl : nv_14 = lN (2 ^ k) := ev_14.trans (lx_pow (by omega))
                  refine lv_lor hx hb dX8_worstOf_69 ?_
                  refine lv_topl (fun nv_15 ev_15 => ?_)
                  obtain rfl : nv_15 = lN (hm ||| 2 ^ k) := ev_15.trans (lx_or (by rw [eh]; exact hs_lt64 sm rr t (by omega)) (by omega))
                  refine lv_lstore (lv' := [(8, .long (lN (hm ||| 2 ^ k))), (0, .ref z), (1, .long (lN sm)), (3, .int (nI (pcN sm 64))), (4, .long (lN bm)), (6, .int (nI le)), (7, .int (nI t)), (10, .int (nI k))]) hx hb dX8_worstOf_70 hl (by decide) rfl (fun ls hl => ?_)
                  refine lv_iinc (v := nI (k + 1)) (lv' := [(10, .int (nI (k + 1))), (8, .long (lN (hm ||| 2 ^ k))), (0, .ref z), (1, .long (lN sm)), (3, .int (nI (pcN sm 64))), (4, .long (lN bm)), (6, .int (nI le)), (7, .int (nI t))]) hx hb dX8_worstOf_72 hl (k := 7) rfl (nI_1 _) (by decide) rfl (fun ls hl => ?_)
                  refine lv_goto (tgt := 29) hx hb dX8_worstOf_75 (by decide) ?_
                  exact ih_29  (k + 1) (hm ||| 2 ^ k) (by omega) (by first | exact Nat.zero_le _ | omega) (by subst eh; simp [hsF, c_20, nc_20, c_33, nc_33, c_44, c_44b, c_60, c_60b]) _ (lv_sub hl [2, 3, 4, 5, 6, 7, 1, 0] rfl)
        exact hloop_29 ((64 - 0) + 1) 0 0 (Nat.lt_succ_self _) (by exact Nat.zero_le _) (by rfl) _ (lv_sub hl [2, 3, 4, 5, 6, 7, 1, 0] rfl)
  exact hloop_14 ((T - 0) + 1) 0 0 (pcN sm 64) (Nat.lt_succ_self _) (by exact Nat.zero_le _) (by rfl) (by rfl) _ (lv_sub hl [4, 5, 3, 2, 1, 0] rfl)

set_option maxHeartbeats 4000000 in
set_option maxRecDepth 100000 in
theorem c_X8_wo_2 (l : Launch) (D : va_G) (cI cJ cZ cO : ClassId) (z : Nat) (a0 : Nat) (a1 : Nat) (a2 : Nat) (a3 : Nat) (a4 : Nat) (a5 : Nat) (a6 : Nat) (a7 : Nat) (a8 : Nat) (a9 : Nat) (a10 : Nat) (a11 : Nat) (a12 : Nat) (a13 : Nat) (a14 : Nat) (a15 : Nat) (T : Nat) (P : Nat) (pa : Int32) (kn : Int32) (rn : Nat) (ln : Nat) (th : Int32) (wt : Int32) (rr : Nat → Nat) (sm : Nat) (fq : Nat) (q : Nat) (hT : T ≤ 12) (hs : sm < 2 ^ 64) (hrt : ∀ k, k < 64 → sm.testBit k = true → rr k < 2 ^ T) (hrr : ∀ k, rr k < 4096) (hfu : fq = 12 - 2) (hsp : spN (mCt sm rr) ≤ fq) (hq : q = WN fq (mCt sm rr)) : kR l D (kTY cI cJ cZ cO) yX8_worstOf wsX8_worstOf 11 331 [.ref z, .long (lN sm)] [(z, .inr (9, [.ref a0, .ref a1, .int (nI T), .ref a2, .ref a3, .ref a4, .ref a5, .ref a6, .int (nI P), .int pa, .int kn, .ref a7, .int (nI rn), .ref a8, .ref a9, .int (nI ln), .ref a10, .int th, .ref a11, .ref a12, .int wt, .ref a13, .ref a14, .ref a15])), (a15, .inl (cI, 64, .inl (nF rr)))] (fun rv_ => rv_ = some (.int (nI q))) := by
  refine kEnterR (cc := cX8_worstOf) (maxL := 12) (ret := (some .int)) (by decide) rfl (Nat.le_of_ble_eq_true rfl) ?_
  intro p e s m args below meth c hx hb hr hml hts hown hlk hK hP ls hl
  have hl : lv_has ls 12 [(0, .ref z), (1, .long (lN sm))] := hl
  have hw_f66 := hts (.fieldLink RX8 66 "WhatToReadModel" "topics" "I") (by decide +kernel)
  have hi_X8 : ∀ w ∈ wsX80, w ∈ wsX8_worstOf := by decide +kernel
  have hw_f60 := hts (.fieldLink RX8 60 "WhatToReadModel" "row64" "[I") (by decide +kernel)
  refine lv_lload_n hx hb dX8_worstOf_0 rfl (lv_at hl 1 rfl) ?_
  refine kGoR (va_runS (As := [.long (lN sm)]) (rest := []) ⟨hx, hb, hml, hown, hts⟩ (c_J13_bitCount_95d88 l D cI cJ cZ cO sm (hs)) (va_cwS 1 hts gX8_worstOf_J13_bitCount_95d88 rfl rfl rfl (by decide +kernel) ⟨Nat.le_of_ble_eq_true rfl, Nat.le_of_ble_eq_true rfl⟩) (kPreSR hK (kPc_sub hP [] rfl)) rfl rfl hl.1 rfl (lv_room (Nat.le_of_ble_eq_true rfl)) dX8_worstOf_1 ⟨Nat.le_of_ble_eq_true rfl, Nat.le_of_ble_eq_true rfl⟩) (fun v_1 hv_1 => ?_)
  obtain rfl := hv_1
  refine W.eq (g2 := F0 m 4 ls [.int (nI (pcN sm 64))]) rfl ?_
  refine lv_istore_n (lv' := [(3, .int (nI (pcN sm 64))), (0, .ref z), (1, .long (lN sm))]) hx hb dX8_worstOf_4 rfl hl (by decide) rfl (fun ls hl => ?_)
  refine lv_lconst (v := 0) hx hb dX8_worstOf_5 (by decide) ?_
  refine lv_topl (fun nv_2 ev_2 => ?_)
  obtain rfl : nv_2 = lN 0 := ev_2.trans (rfl)
  refine lv_lstore (lv' := [(4, .long (lN 0)), (3, .int (nI (pcN sm 64))), (0, .ref z), (1, .long (lN sm))]) hx hb dX8_worstOf_6 hl (by decide) rfl (fun ls hl => ?_)
  refine lv_iload_n hx hb dX8_worstOf_8 rfl (lv_at hl 1 rfl) ?_
  refine lv_istore (lv' := [(6, .int (nI (pcN sm 64))), (4, .long (lN 0)), (3, .int (nI (pcN sm 64))), (0, .ref z), (1, .long (lN sm))]) hx hb dX8_worstOf_9 hl (by decide) rfl (fun ls hl => ?_)
  refine lv_iconst (v := 0) hx hb dX8_worstOf_11 (by decide) ?_
  refine lv_istore (lv' := [(7, .int 0), (6, .int (nI (pcN sm 64))), (4, .long (lN 0)), (3, .int (nI (pcN sm 64))), (0, .ref z), (1, .long (lN sm))]) hx hb dX8_worstOf_12 hl (by decide) rfl (fun ls hl => ?_)
  have hloop_14 : ∀ (fu : Nat) (t : Nat) (bm : Nat) (le : Nat), T - t < fu → t ≤ T → bm = (wsF sm rr (pcN sm 64) t).1 → le = (wsF sm rr (pcN sm 64) t).2 → ∀ ls : Array Slot, lv_has ls 12 [(0, .ref z), (1, .long (lN sm)), (3, .int (nI (pcN sm 64))), (4, .long (lN bm)), (6, .int (nI le)), (7, .int (nI t))] → W p l e ({ frames := 11, cells := 0, slots := 0, locals := 331 }) s m args below meth c s.heap [] 0 0 (MQ below (kQr (fun rv_ => rv_ = some (.int (nI q)))) args s 0 0 (fun _ => False)) (F0 m 14 ls []) := by
    intro fu
    induction fu with
    | zero => intro t bm le hmu; exact absurd hmu (Nat.not_lt_zero _)
    | succ fu ih_14 =>
      intro t bm le hmu_14 ht eb el ls hl
      have hal := pcN_le sm 64
      have hmle := hs_le sm rr t
      have hl2 := ws2_le sm rr (pcN sm 64) t
      refine lv_iload hx hb dX8_worstOf_14 (lv_at hl 5 rfl) ?_
      refine lv_aload_n hx hb dX8_worstOf_16 rfl (lv_at hl 0 rfl) ?_
      refine va_get (D := D) (ci := 9) (v := .int (nI T)) (C := RX8) (T := TX8) (N := 24) hx hb hts hi_X8 hown hK.1 hP 0 rfl rfl 2 (by decide) hw_f66 (fun _ h9 => h9) rfl dX8_worstOf_17 ?_
      refine lv_icmp_ge (tgt := 129) hx hb dX8_worstOf_20 (by decide) (fun c_20 => ?_) (fun c_20 => ?_)
      · skip
        have nc_20 : T ≤ t := (nI_leI (a := T) (b := t) (by omega) (by omega)).mp c_20
        have e13 : t = T := by omega
        have hle2 : le ≤ pcN sm 64 := by rw [el]; exact ws2_le sm rr _ t
        obtain ⟨wq, hwq⟩ : ∃ wq, wq = wsF sm rr (pcN sm 64) T := ⟨_, rfl⟩
        rw [e13, ← hwq] at eb el
        have hwe := ws_end hT hrt hwq
        refine lv_iload hx hb dX8_worstOf_129 (lv_at hl 4 rfl) ?_
        refine lv_iload_n hx hb dX8_worstOf_131 rfl (lv_at hl 2 rfl) ?_
        refine lv_icmp_ne (tgt := 137) hx hb dX8_worstOf_132 (by decide) (fun c_132 => ?_) (fun c_132 => ?_)
        · skip
          have nc_132 : ¬ le = (pcN sm 64) := (not_congr (nI_eq (a := le) (b := pcN sm 64) (by omega) (by omega))).mp c_132
          obtain ⟨w1, w2, w3, w4, w5, w6, w7⟩ := hwe.2 (by omega)
          obtain ⟨fd, hfd⟩ : ∃ fd, fq = fd + 1 := ⟨fq - 1, by omega⟩
          obtain ⟨q1, hq1⟩ : ∃ q1, q1 = WN fd (mCt wq.1 rr) := ⟨_, rfl⟩
          obtain ⟨q2, hq2⟩ : ∃ q2, q2 = WN fd (mCt (andn sm wq.1) rr) := ⟨_, rfl⟩
          have hq1l : q1 ≤ fd := by rw [hq1]; exact WN_le _ _
          have hq2l : q2 ≤ fd := by rw [hq2]; exact WN_le _ _
          have hfin0 : q = 1 + max q2 q1 := by rw [hq, hfd, w7 fd, hq1, hq2]
          refine lv_aload_n hx hb dX8_worstOf_137 rfl (lv_at hl 0 rfl) ?_
          refine lv_lload hx hb dX8_worstOf_138 (lv_at hl 3 rfl) ?_
          refine kGoR (va_runV (As := [.long (lN bm)]) (rest := []) ⟨hx, hb, hml, hown, hts⟩ (c_X8_wo_3 l D cI cJ cZ cO z a0 a1 a2 a3 a4 a5 a6 a7 a8 a9 a10 a11 a12 a13 a14 a15 T P pa kn rn ln th wt rr bm fd q1 (by first | assumption | omega | decide) (by rw [eb]; exact w1) (by rw [eb]; exact w2) (hrr) (by omega) (by rw [eb]; omega) (by rw [hq1, eb])) (cwV 1 hts gX8_worstOf_X8_worstOf rfl rfl rfl (by decide +kernel) ⟨Nat.le_of_ble_eq_true rfl, Nat.le_of_ble_eq_true rfl⟩) (kPreVR (ci := 9) (q0 := 0) hK (kPc_sub hP [0, 1] rfl) rfl rfl rfl) rfl rfl hl.1 rfl (lv_room (Nat.le_of_ble_eq_true rfl)) dX8_worstOf_140 ⟨Nat.le_of_ble_eq_true rfl, Nat.le_of_ble_eq_true rfl⟩) (fun v_3 hv_3 => ?_)
          obtain rfl := hv_3
          refine W.eq (g2 := F0 m 143 ls [.int (nI q1)]) rfl ?_
          refine lv_istore (lv' := [(7, .int (nI q1)), (0, .ref z), (1, .long (lN sm)), (3, .int (nI (pcN sm 64))), (4, .long (lN bm)), (6, .int (nI le))]) hx hb dX8_worstOf_143 hl (by decide) rfl (fun ls hl => ?_)
          refine lv_aload_n hx hb dX8_worstOf_145 rfl (lv_at hl 1 rfl) ?_
          refine lv_lload_n hx hb dX8_worstOf_146 rfl (lv_at hl 2 rfl) ?_
          refine lv_lload hx hb dX8_worstOf_147 (lv_at hl 4 rfl) ?_
          refine lv_ldc2 (v := (-1)) hx hb hown (hts (.constantLong RX8 143 (-1)) (by decide +kernel)) dX8_worstOf_149 ?_
          refine lv_lxor hx hb dX8_worstOf_152 ?_
          refine lv_land hx hb dX8_worstOf_153 ?_
          refine lv_topl (fun nv_4 ev_4 => ?_)
          obtain rfl : nv_4 = lN (andn sm bm) := ev_4.trans (lx_andn hs (by rw [eb, hwq]; exact ws1_lt sm rr _ T))
          refine kGoR (va_runV (As := [.long (lN (andn sm bm))]) (rest := []) ⟨hx, hb, hml, hown, hts⟩ (c_X8_wo_3 l D cI cJ cZ cO z a0 a1 a2 a3 a4 a5 a6 a7 a8 a9 a10 a11 a12 a13 a14 a15 T P pa kn rn ln th wt rr (andn sm bm) fd q2 (by first | assumption | omega | decide) (Nat.lt_of_le_of_lt (andn_le _ _) hs) (by rw [eb]; exact w3) (hrr) (by omega) (by rw [eb]; omega) (by rw [hq2, eb])) (cwV 1 hts gX8_worstOf_X8_worstOf rfl rfl rfl (by decide +kernel) ⟨Nat.le_of_ble_eq_true rfl, Nat.le_of_ble_eq_true rfl⟩) (kPreVR (ci := 9) (q0 := 0) hK (kPc_sub hP [0, 1] rfl) rfl rfl rfl) rfl rfl hl.1 rfl (lv_room (Nat.le_of_ble_eq_true rfl)) dX8_worstOf_154 ⟨Nat.le_of_ble_eq_true rfl, Nat.le_of_ble_eq_true rfl⟩) (fun v_5 hv_5 => ?_)
          obtain rfl := hv_5
          refine W.eq (g2 := F0 m 157 ls [.int (nI q2)]) rfl ?_
          refine lv_istore (lv' := [(8, .int (nI q2)), (7, .int (nI q1)), (0, .ref z), (1, .long (lN sm)), (3, .int (nI (pcN sm 64))), (4, .long (lN bm)), (6, .int (nI le))]) hx hb dX8_worstOf_157 hl (by decide) rfl (fun ls hl => ?_)
          refine lv_iconst (v := 1) hx hb dX8_worstOf_159 (by decide) ?_
          refine lv_iload hx hb dX8_worstOf_160 (lv_at hl 1 rfl) ?_
          refine lv_iload hx hb dX8_worstOf_162 (lv_at hl 0 rfl) ?_
          refine lv_icmp_le (tgt := 172) hx hb dX8_worstOf_164 (by decide) (fun c_164 => ?_) (fun c_164 => ?_)
          · skip
            have nc_164 : q1 ≤ q2 := (nI_leI (a := q1) (b := q2) (by omega) (by omega)).mp c_164
            have hfin : (1 : Int32) + nI q2 = nI q := by rw [hfin0, show max q2 q1 = q2 by omega]; exact nI_add 1 _
            refine lv_iload hx hb dX8_worstOf_172 (lv_at hl 0 rfl) ?_
            refine lv_iadd hx hb dX8_worstOf_174 ?_
            exact kRetIr hx hb hr hlk dX8_worstOf_175 (kpi (by first | (rw [hq, hwe.1 (by omega)]; rfl) | (rw [hfin]; done)))
          · skip
            have nc_164 : ¬ q1 ≤ q2 := (not_congr (nI_leI (a := q1) (b := q2) (by omega) (by omega))).mp c_164
            have hfin : (1 : Int32) + nI q1 = nI q := by rw [hfin0, show max q2 q1 = q1 by omega]; exact nI_add 1 _
            refine lv_iload hx hb dX8_worstOf_167 (lv_at hl 1 rfl) ?_
            refine lv_goto (tgt := 174) hx hb dX8_worstOf_169 (by decide) ?_
            refine lv_iadd hx hb dX8_worstOf_174 ?_
            exact kRetIr hx hb hr hlk dX8_worstOf_175 (kpi (by first | (rw [hq, hwe.1 (by omega)]; rfl) | (rw [hfin]; done)))
        · skip
          have nc_132 : le = (pcN sm 64) := (nI_eq (a := le) (b := pcN sm 64) (by omega) (by omega)).mp c_132
          refine lv_iconst (v := 0) hx hb dX8_worstOf_135 (by decide) ?_
          exact kRetIr hx hb hr hlk dX8_worstOf_136 (kpi (by first | (rw [hq, hwe.1 (by omega)]; rfl) | (rw [hfin]; done)))
      · skip
        have nc_20 : ¬ T ≤ t := (not_congr (nI_leI (a := T) (b := t) (by omega) (by omega))).mp c_20
        refine lv_lconst (v := 0) hx hb dX8_worstOf_23 (by decide) ?_
        refine lv_topl (fun nv_6 ev_6 => ?_)
        obtain rfl : nv_6 = lN 0 := ev_6.trans (rfl)
        refine lv_lstore (lv' := [(8, .long (lN 0)), (0, .ref z), (1, .long (lN sm)), (3, .int (nI (pcN sm 64))), (4, .long (lN bm)), (6, .int (nI le)), (7, .int (nI t))]) hx hb dX8_worstOf_24 hl (by decide) rfl (fun ls hl => ?_)
        refine lv_iconst (v := 0) hx hb dX8_worstOf_26 (by decide) ?_
        refine lv_istore (lv' := [(10, .int 0), (8, .long (lN 0)), (0, .ref z), (1, .long (lN sm)), (3, .int (nI (pcN sm 64))), (4, .long (lN bm)), (6, .int (nI le)), (7, .int (nI t))]) hx hb dX8_worstOf_27 hl (by decide) rfl (fun ls hl => ?_)
        have hloop_29 : ∀ (fu : Nat) (k : Nat) (hm : Nat), 64 - k < fu → k ≤ 64 → hm = hsF sm rr t k → ∀ ls : Array Slot, lv_has ls 12 [(0, .ref z), (1, .long (lN sm)), (3, .int (nI (pcN sm 64))), (4, .long (lN bm)), (6, .int (nI le)), (7, .int (nI t)), (8, .long (lN hm)), (10, .int (nI k))] → W p l e ({ frames := 11, cells := 0, slots := 0, locals := 331 }) s m args below meth c s.heap [] 0 0 (MQ below (kQr (fun rv_ => rv_ = some (.int (nI q)))) args s 0 0 (fun _ => False)) (F0 m 29 ls []) := by
          intro fu
          induction fu with
          | zero => intro k hm hmu; exact absurd hmu (Nat.not_lt_zero _)
          | succ fu ih_29 =>
            intro k hm hmu_29 hk eh ls hl
            refine lv_iload hx hb dX8_worstOf_29 (lv_at hl 7 rfl) ?_
            refine lv_bipush (v := 64) hx hb dX8_worstOf_31 (by decide) ?_
            refine lv_icmp_ge (tgt := 78) hx hb dX8_worstOf_33 (by decide) (fun c_33 => ?_) (fun c_33 => ?_)
            · skip
              have nc_33 : 64 ≤ k := (nI_leI (a := 64) (b := k) (by omega) (by omega)).mp c_33
              have e12 : k = 64 := by omega
              rw [show (lN hm : Int64) = lN (hsF sm rr t 64) from by rw [eh, e12]] at hl
              refine lv_lload hx hb dX8_worstOf_78 (lv_at hl 6 rfl) ?_
              refine kGoR (va_runS (As := [.long (lN (hsF sm rr t 64))]) (rest := []) ⟨hx, hb, hml, hown, hts⟩ (c_J13_bitCount_95d88 l D cI cJ cZ cO (hsF sm rr t 64) (hs_lt64 sm rr t (Nat.le_refl _))) (va_cwS 1 hts gX8_worstOf_J13_bitCount_95d88 rfl rfl rfl (by decide +kernel) ⟨Nat.le_of_ble_eq_true rfl, Nat.le_of_ble_eq_true rfl⟩) (kPreSR hK (kPc_sub hP [] rfl)) rfl rfl hl.1 rfl (lv_room (Nat.le_of_ble_eq_true rfl)) dX8_worstOf_80 ⟨Nat.le_of_ble_eq_true rfl, Nat.le_of_ble_eq_true rfl⟩) (fun v_7 hv_7 => ?_)
              obtain rfl := hv_7
              refine W.eq (g2 := F0 m 83 ls [.int (nI (pcN (hsF sm rr t 64) 64))]) rfl ?_
              refine lv_istore (lv' := [(10, .int (nI (pcN (hsF sm rr t 64) 64))), (0, .ref z), (1, .long (lN sm)), (3, .int (nI (pcN sm 64))), (4, .long (lN bm)), (6, .int (nI le)), (7, .int (nI t)), (8, .long (lN (hsF sm rr t 64)))]) hx hb dX8_worstOf_83 hl (by decide) rfl (fun ls hl => ?_)
              refine lv_iload hx hb dX8_worstOf_85 (lv_at hl 0 rfl) ?_
              refine lv_iload_n hx hb dX8_worstOf_87 rfl (lv_at hl 3 rfl) ?_
              refine lv_iload hx hb dX8_worstOf_88 (lv_at hl 0 rfl) ?_
              refine lv_isub hx hb dX8_worstOf_90 ?_
              refine lv_topi (fun nv_8 ev_8 => ?_)
              obtain rfl : nv_8 = nI (pcN sm 64 - pcN (hsF sm rr t 64) 64) := ev_8.trans (pk_sub hmle)
              refine lv_icmp_le (tgt := 99) hx hb dX8_worstOf_91 (by decide) (fun c_91 => ?_) (fun c_91 => ?_)
              · skip
                have nc_91 : (pcN (hsF sm rr t 64) 64) ≤ (pcN sm 64 - pcN (hsF sm rr t 64) 64) := (nI_leI (a := pcN (hsF sm rr t 64) 64) (b := pcN sm 64 - pcN (hsF sm rr t 64) 64) (by omega) (by omega)).mp c_91
                refine lv_iload_n hx hb dX8_worstOf_99 rfl (lv_at hl 3 rfl) ?_
                refine lv_iload hx hb dX8_worstOf_100 (lv_at hl 0 rfl) ?_
                refine lv_isub hx hb dX8_worstOf_102 ?_
                refine lv_topi (fun nv_9 ev_9 => ?_)
                obtain rfl : nv_9 = nI (pcN sm 64 - pcN (hsF sm rr t 64) 64) := ev_9.trans (pk_sub hmle)
                refine lv_istore (lv' := [(11, .int (nI (pcN sm 64 - pcN (hsF sm rr t 64) 64))), (10, .int (nI (pcN (hsF sm rr t 64) 64))), (0, .ref z), (1, .long (lN sm)), (3, .int (nI (pcN sm 64))), (4, .long (lN bm)), (6, .int (nI le)), (7, .int (nI t)), (8, .long (lN (hsF sm rr t 64)))]) hx hb dX8_worstOf_103 hl (by decide) rfl (fun ls hl => ?_)
                refine lv_iload hx hb dX8_worstOf_105 (lv_at hl 0 rfl) ?_
                refine lv_iload hx hb dX8_worstOf_107 (lv_at hl 6 rfl) ?_
                refine lv_icmp_lt (tgt := 115) hx hb dX8_worstOf_109 (by decide) (fun c_109 => ?_) (fun c_109 => ?_)
                · skip
                  have nc_109 : (pcN sm 64 - pcN (hsF sm rr t 64) 64) < le := (nI_ltI (a := pcN sm 64 - pcN (hsF sm rr t 64) 64) (b := le) (by omega) (by omega)).mp c_109
                  refine lv_iload hx hb dX8_worstOf_115 (lv_at hl 0 rfl) ?_
                  refine lv_istore (lv' := [(6, .int (nI (pcN sm 64 - pcN (hsF sm rr t 64) 64))), (11, .int (nI (pcN sm 64 - pcN (hsF sm rr t 64) 64))), (10, .int (nI (pcN (hsF sm rr t 64) 64))), (0, .ref z), (1, .long (lN sm)), (3, .int (nI (pcN sm 64))), (4, .long (lN bm)), (7, .int (nI t)), (8, .long (lN (hsF sm rr t 64)))]) hx hb dX8_worstOf_117 hl (by decide) rfl (fun ls hl => ?_)
                  refine lv_lload hx hb dX8_worstOf_119 (lv_at hl 8 rfl) ?_
                  refine lv_lstore (lv' := [(4, .long (lN (hsF sm rr t 64))), (6, .int (nI (pcN sm 64 - pcN (hsF sm rr t 64) 64))), (11, .int (nI (pcN sm 64 - pcN (hsF sm rr t 64) 64))), (10, .int (nI (pcN (hsF sm rr t 64) 64))), (0, .ref z), (1, .long (lN sm)), (3, .int (nI (pcN sm 64))), (7, .int (nI t)), (8, .long (lN (hsF sm rr t 64)))]) hx hb dX8_worstOf_121 hl (by decide) rfl (fun ls hl => ?_)
                  refine lv_iinc (v := nI (t + 1)) (lv' := [(7, .int (nI (t + 1))), (4, .long (lN (hsF sm rr t 64))), (6, .int (nI (pcN sm 64 - pcN (hsF sm rr t 64) 64))), (11, .int (nI (pcN sm 64 - pcN (hsF sm rr t 64) 64))), (10, .int (nI (pcN (hsF sm rr t 64) 64))), (0, .ref z), (1, .long (lN sm)), (3, .int (nI (pcN sm 64))), (8, .long (lN (hsF sm rr t 64)))]) hx hb dX8_worstOf_123 hl (k := 7) rfl (nI_1 _) (by decide) rfl (fun ls hl => ?_)
                  refine lv_goto (tgt := 14) hx hb dX8_worstOf_126 (by decide) ?_
                  exact ih_14  (t + 1) (hsF sm rr t 64) (pcN sm 64 - pcN (hsF sm rr t 64) 64) (by omega) (by first | exact Nat.zero_le _ | omega) (by first | (subst eb; subst el; simp [wsF, moreW, c_20, nc_20, c_33, nc_33, c_91, nc_91, c_109, nc_109]; done) | (subst eb; subst el; simp [wsF, moreW, c_20, nc_20, c_33, nc_33, c_91, nc_91, c_109, nc_109]; omega)) (by first | (subst eb; subst el; simp [wsF, moreW, c_20, nc_20, c_33, nc_33, c_91, nc_91, c_109, nc_109]; done) | (subst eb; subst el; simp [wsF, moreW, c_20, nc_20, c_33, nc_33, c_91, nc_91, c_109, nc_109]; omega)) _ (lv_sub hl [5, 6, 7, 1, 2, 0] rfl)
                · skip
                  have nc_109 : ¬ (pcN sm 64 - pcN (hsF sm rr t 64) 64) < le := (not_congr (nI_ltI (a := pcN sm 64 - pcN (hsF sm rr t 64) 64) (b := le) (by omega) (by omega))).mp c_109
                  refine lv_goto (tgt := 123) hx hb dX8_worstOf_112 (by decide) ?_
                  refine lv_iinc (v := nI (t + 1)) (lv' := [(7, .int (nI (t + 1))), (11, .int (nI (pcN sm 64 - pcN (hsF sm rr t 64) 64))), (10, .int (nI (pcN (hsF sm rr t 64) 64))), (0, .ref z), (1, .long (lN sm)), (3, .int (nI (pcN sm 64))), (4, .long (lN bm)), (6, .int (nI le)), (8, .long (lN (hsF sm rr t 64)))]) hx hb dX8_worstOf_123 hl (k := 7) rfl (nI_1 _) (by decide) rfl (fun ls hl => ?_)
                  refine lv_goto (tgt := 14) hx hb dX8_worstOf_126 (by decide) ?_
                  exact ih_14  (t + 1) bm le (by omega) (by first | exact Nat.zero_le _ | omega) (by first | (subst eb; subst el; simp [wsF, moreW, c_20, nc_20, c_33, nc_33, c_91, nc_91, c_109, nc_109]; done) | (subst eb; subst el; simp [wsF, moreW, c_20, nc_20, c_33, nc_33, c_91, nc_91, c_109, nc_109]; omega)) (by first | (subst eb; subst el; simp [wsF, moreW, c_20, nc_20, c_33, nc_33, c_91, nc_91, c_109, nc_109]; done) | (subst eb; subst el; simp [wsF, moreW, c_20, nc_20, c_33, nc_33, c_91, nc_91, c_109, nc_109]; omega)) _ (lv_sub hl [3, 4, 5, 6, 7, 0] rfl)
              · skip
                have nc_91 : ¬ (pcN (hsF sm rr t 64) 64) ≤ (pcN sm 64 - pcN (hsF sm rr t 64) 64) := (not_congr (nI_leI (a := pcN (hsF sm rr t 64) 64) (b := pcN sm 64 - pcN (hsF sm rr t 64) 64) (by omega) (by omega))).mp c_91
                refine lv_iload hx hb dX8_worstOf_94 (lv_at hl 0 rfl) ?_
                refine lv_goto (tgt := 103) hx hb dX8_worstOf_96 (by decide) ?_
                refine lv_istore (lv' := [(11, .int (nI (pcN (hsF sm rr t 64) 64))), (10, .int (nI (pcN (hsF sm rr t 64) 64))), (0, .ref z), (1, .long (lN sm)), (3, .int (nI (pcN sm 64))), (4, .long (lN bm)), (6, .int (nI le)), (7, .int (nI t)), (8, .long (lN (hsF sm rr t 64)))]) hx hb dX8_worstOf_103 hl (by decide) rfl (fun ls hl => ?_)
                refine lv_iload hx hb dX8_worstOf_105 (lv_at hl 0 rfl) ?_
                refine lv_iload hx hb dX8_worstOf_107 (lv_at hl 6 rfl) ?_
                refine lv_icmp_lt (tgt := 115) hx hb dX8_worstOf_109 (by decide) (fun c_109 => ?_) (fun c_109 => ?_)
                · skip
                  have nc_109 : (pcN (hsF sm rr t 64) 64) < le := (nI_ltI (a := pcN (hsF sm rr t 64) 64) (b := le) (by omega) (by omega)).mp c_109
                  refine lv_iload hx hb dX8_worstOf_115 (lv_at hl 0 rfl) ?_
                  refine lv_istore (lv' := [(6, .int (nI (pcN (hsF sm rr t 64) 64))), (11, .int (nI (pcN (hsF sm rr t 64) 64))), (10, .int (nI (pcN (hsF sm rr t 64) 64))), (0, .ref z), (1, .long (lN sm)), (3, .int (nI (pcN sm 64))), (4, .long (lN bm)), (7, .int (nI t)), (8, .long (lN (hsF sm rr t 64)))]) hx hb dX8_worstOf_117 hl (by decide) rfl (fun ls hl => ?_)
                  refine lv_lload hx hb dX8_worstOf_119 (lv_at hl 8 rfl) ?_
                  refine lv_lstore (lv' := [(4, .long (lN (hsF sm rr t 64))), (6, .int (nI (pcN (hsF sm rr t 64) 64))), (11, .int (nI (pcN (hsF sm rr t 64) 64))), (10, .int (nI (pcN (hsF sm rr t 64) 64))), (0, .ref z), (1, .long (lN sm)), (3, .int (nI (pcN sm 64))), (7, .int (nI t)), (8, .long (lN (hsF sm rr t 64)))]) hx hb dX8_worstOf_121 hl (by decide) rfl (fun ls hl => ?_)
                  refine lv_iinc (v := nI (t + 1)) (lv' := [(7, .int (nI (t + 1))), (4, .long (lN (hsF sm rr t 64))), (6, .int (nI (pcN (hsF sm rr t 64) 64))), (11, .int (nI (pcN (hsF sm rr t 64) 64))), (10, .int (nI (pcN (hsF sm rr t 64) 64))), (0, .ref z), (1, .long (lN sm)), (3, .int (nI (pcN sm 64))), (8, .long (lN (hsF sm rr t 64)))]) hx hb dX8_worstOf_123 hl (k := 7) rfl (nI_1 _) (by decide) rfl (fun ls hl => ?_)
                  refine lv_goto (tgt := 14) hx hb dX8_worstOf_126 (by decide) ?_
                  exact ih_14  (t + 1) (hsF sm rr t 64) (pcN (hsF sm rr t 64) 64) (by omega) (by first | exact Nat.zero_le _ | omega) (by first | (subst eb; subst el; simp [wsF, moreW, c_20, nc_20, c_33, nc_33, c_91, nc_91, c_109, nc_109]; done) | (subst eb; subst el; simp [wsF, moreW, c_20, nc_20, c_33, nc_33, c_91, nc_91, c_109, nc_109]; omega)) (by first | (subst eb; subst el; simp [wsF, moreW, c_20, nc_20, c_33, nc_33, c_91, nc_91, c_109, nc_109]; done) | (subst eb; subst el; simp [wsF, moreW, c_20, nc_20, c_33, nc_33, c_91, nc_91, c_109, nc_109]; omega)) _ (lv_sub hl [5, 6, 7, 1, 2, 0] rfl)
                · skip
                  have nc_109 : ¬ (pcN (hsF sm rr t 64) 64) < le := (not_congr (nI_ltI (a := pcN (hsF sm rr t 64) 64) (b := le) (by omega) (by omega))).mp c_109
                  refine lv_goto (tgt := 123) hx hb dX8_worstOf_112 (by decide) ?_
                  refine lv_iinc (v := nI (t + 1)) (lv' := [(7, .int (nI (t + 1))), (11, .int (nI (pcN (hsF sm rr t 64) 64))), (10, .int (nI (pcN (hsF sm rr t 64) 64))), (0, .ref z), (1, .long (lN sm)), (3, .int (nI (pcN sm 64))), (4, .long (lN bm)), (6, .int (nI le)), (8, .long (lN (hsF sm rr t 64)))]) hx hb dX8_worstOf_123 hl (k := 7) rfl (nI_1 _) (by decide) rfl (fun ls hl => ?_)
                  refine lv_goto (tgt := 14) hx hb dX8_worstOf_126 (by decide) ?_
                  exact ih_14  (t + 1) bm le (by omega) (by first | exact Nat.zero_le _ | omega) (by first | (subst eb; subst el; simp [wsF, moreW, c_20, nc_20, c_33, nc_33, c_91, nc_91, c_109, nc_109]; done) | (subst eb; subst el; simp [wsF, moreW, c_20, nc_20, c_33, nc_33, c_91, nc_91, c_109, nc_109]; omega)) (by first | (subst eb; subst el; simp [wsF, moreW, c_20, nc_20, c_33, nc_33, c_91, nc_91, c_109, nc_109]; done) | (subst eb; subst el; simp [wsF, moreW, c_20, nc_20, c_33, nc_33, c_91, nc_91, c_109, nc_109]; omega)) _ (lv_sub hl [3, 4, 5, 6, 7, 0] rfl)
            · skip
              have nc_33 : ¬ 64 ≤ k := (not_congr (nI_leI (a := 64) (b := k) (by omega) (by omega))).mp c_33
              refine lv_lload_n hx hb dX8_worstOf_36 rfl (lv_at hl 1 rfl) ?_
              refine lv_iload hx hb dX8_worstOf_37 (lv_at hl 7 rfl) ?_
              refine lv_lshr hx hb dX8_worstOf_39 rfl ?_
              refine lv_lconst (v := 1) hx hb dX8_worstOf_40 (by decide) ?_
              refine lv_land hx hb dX8_worstOf_41 ?_
              refine lv_topl (fun nv_10 ev_10 => ?_)
              obtain rfl : nv_10 = lN (if sm.testBit k then 1 else 0) := ev_10.trans (lx_bit (by omega))
              refine lv_lconst (v := 1) hx hb dX8_worstOf_42 (by decide) ?_
              refine W.lcmp hx hb dX8_worstOf_43 ?_
              refine lv_if_ne (tgt := 72) hx hb dX8_worstOf_44 (by decide) (fun c_44 => ?_) (fun c_44 => ?_)
              · skip
                have c_44b : sm.testBit k = false := by cases hz : sm.testBit k with | false => rfl | true => exact absurd (lx_ne.mpr hz) c_44
                refine lv_iinc (v := nI (k + 1)) (lv' := [(10, .int (nI (k + 1))), (0, .ref z), (1, .long (lN sm)), (3, .int (nI (pcN sm 64))), (4, .long (lN bm)), (6, .int (nI le)), (7, .int (nI t)), (8, .long (lN hm))]) hx hb dX8_worstOf_72 hl (k := 7) rfl (nI_1 _) (by decide) rfl (fun ls hl => ?_)
                refine lv_goto (tgt := 29) hx hb dX8_worstOf_75 (by decide) ?_
                exact ih_29  (k + 1) hm (by omega) (by first | exact Nat.zero_le _ | omega) (by subst eh; simp [hsF, c_20, nc_20, c_33, nc_33, c_44, c_44b]) _ (lv_sub hl [1, 2, 3, 4, 5, 6, 7, 0] rfl)
              · skip
                have c_44b : sm.testBit k = true := lx_ne.mp c_44
                refine lv_aload_n hx hb dX8_worstOf_47 rfl (lv_at hl 0 rfl) ?_
                refine va_get (D := D) (ci := 9) (v := .ref a15) (C := RX8) (T := TX8) (N := 24) hx hb hts hi_X8 hown hK.1 hP 0 rfl rfl 23 (by decide) hw_f60 (fun _ h9 => h9) rfl dX8_worstOf_48 ?_
                refine lv_iload hx hb dX8_worstOf_51 (lv_at hl 7 rfl) ?_
                refine va_iald hx hb hK.1 hP 1 0 rfl rfl (vp_in_nI (by omega) (by omega)) dX8_worstOf_53 ?_
                refine lv_topi (fun nv_11 ev_11 => ?_)
                obtain rfl : nv_11 = (nF rr) k := by rw [ev_11, nI_clamp (by omega)]
                refine lv_topi (fun nv_12 ev_12 => ?_)
                obtain rfl : nv_12 = nI (rr k) := ev_12.trans (rfl)
                refine lv_iload hx hb dX8_worstOf_54 (lv_at hl 5 rfl) ?_
                refine lv_ishr hx hb dX8_worstOf_56 ?_
                refine lv_iconst (v := 1) hx hb dX8_worstOf_57 (by decide) ?_
                refine lv_iand hx hb dX8_worstOf_58 ?_
                refine lv_topi (fun nv_13 ev_13 => ?_)
                obtain rfl : nv_13 = k01 ((rr k).testBit t) := ev_13.trans (hx_k01 (by have := hrr k; omega) (by omega))
                refine lv_iconst (v := 1) hx hb dX8_worstOf_59 (by decide) ?_
                refine lv_icmp_ne (tgt := 72) hx hb dX8_worstOf_60 (by decide) (fun c_60 => ?_) (fun c_60 => ?_)
                · skip
                  have c_60b : (rr k).testBit t = false := by cases hz : (rr k).testBit t with | false => rfl | true => exact absurd (by rw [hz]; rfl) c_60
                  refine lv_iinc (v := nI (k + 1)) (lv' := [(10, .int (nI (k + 1))), (0, .ref z), (1, .long (lN sm)), (3, .int (nI (pcN sm 64))), (4, .long (lN bm)), (6, .int (nI le)), (7, .int (nI t)), (8, .long (lN hm))]) hx hb dX8_worstOf_72 hl (k := 7) rfl (nI_1 _) (by decide) rfl (fun ls hl => ?_)
                  refine lv_goto (tgt := 29) hx hb dX8_worstOf_75 (by decide) ?_
                  exact ih_29  (k + 1) hm (by omega) (by first | exact Nat.zero_le _ | omega) (by subst eh; simp [hsF, c_20, nc_20, c_33, nc_33, c_44, c_44b, c_60, c_60b]) _ (lv_sub hl [1, 2, 3, 4, 5, 6, 7, 0] rfl)
                · skip
                  have c_60b : (rr k).testBit t = true := by cases hz : (rr k).testBit t with | true => rfl | false => exact absurd c_60 (by rw [hz]; decide)
                  refine lv_lload hx hb dX8_worstOf_63 (lv_at hl 6 rfl) ?_
                  refine lv_lconst (v := 1) hx hb dX8_worstOf_65 (by decide) ?_
                  refine lv_iload hx hb dX8_worstOf_66 (lv_at hl 7 rfl) ?_
                  refine lv_lshl hx hb dX8_worstOf_68 rfl ?_
                  refine lv_topl (fun nv_14 ev_14 => ?_)
                  obtain rfl : nv_14 = lN (2 ^ k) := ev_14.trans (lx_pow (by omega))
                  refine lv_lor hx hb dX8_worstOf_69 ?_
                  refine lv_topl (fun nv_15 ev_15 => ?_)
                  obtain rfl : nv_15 = lN (hm ||| 2 ^ k) := ev_15.trans (lx_or (by rw [eh]; exact hs_lt64 sm rr t (by omega)) (by omega))
                  refine lv_lstore (lv' := [(8, .long (lN (hm ||| 2 ^ k))), (0, .ref z), (1, .long (lN sm)), (3, .int (nI (pcN sm 64))), (4, .long (lN bm)), (6, .int (nI le)), (7, .int (nI t)), (10, .int (nI k))]) hx hb dX8_worstOf_70 hl (by decide) rfl (fun ls hl => ?_)
                  refine lv_iinc (v := nI (k + 1)) (lv' := [(10, .int (nI (k + 1))), (8, .long (lN (hm ||| 2 ^ k))), (0, .ref z), (1, .long (lN sm)), (3, .int (nI (pcN sm 64))), (4, .long (lN bm)), (6, .int (nI le)), (7, .int (nI t))]) hx hb dX8_worstOf_72 hl (k := 7) rfl (nI_1 _) (by decide) rfl (fun ls hl => ?_)
                  refine lv_goto (tgt := 29) hx hb dX8_worstOf_75 (by decide) ?_
                  exact ih_29  (k + 1) (hm ||| 2 ^ k) (by omega) (by first | exact Nat.zero_le _ | omega) (by subst eh; simp [hsF, c_20, nc_20, c_33, nc_33, c_44, c_44b, c_60, c_60b]) _ (lv_sub hl [2, 3, 4, 5, 6, 7, 1, 0] rfl)
        exact hloop_29 ((64 - 0) + 1) 0 0 (Nat.lt_succ_self _) (by exact Nat.zero_le _) (by rfl) _ (lv_sub hl [2, 3, 4, 5, 6, 7, 1, 0] rfl)
  exact hloop_14 ((T - 0) + 1) 0 0 (pcN sm 64) (Nat.lt_succ_self _) (by exact Nat.zero_le _) (by rfl) (by rfl) _ (lv_sub hl [4, 5, 3, 2, 1, 0] rfl)

set_option maxHeartbeats 4000000 in
set_option maxRecDepth 100000 in
theorem c_X8_wo_1 (l : Launch) (D : va_G) (cI cJ cZ cO : ClassId) (z : Nat) (a0 : Nat) (a1 : Nat) (a2 : Nat) (a3 : Nat) (a4 : Nat) (a5 : Nat) (a6 : Nat) (a7 : Nat) (a8 : Nat) (a9 : Nat) (a10 : Nat) (a11 : Nat) (a12 : Nat) (a13 : Nat) (a14 : Nat) (a15 : Nat) (T : Nat) (P : Nat) (pa : Int32) (kn : Int32) (rn : Nat) (ln : Nat) (th : Int32) (wt : Int32) (rr : Nat → Nat) (sm : Nat) (fq : Nat) (q : Nat) (hT : T ≤ 12) (hs : sm < 2 ^ 64) (hrt : ∀ k, k < 64 → sm.testBit k = true → rr k < 2 ^ T) (hrr : ∀ k, rr k < 4096) (hfu : fq = 12 - 1) (hsp : spN (mCt sm rr) ≤ fq) (hq : q = WN fq (mCt sm rr)) : kR l D (kTY cI cJ cZ cO) yX8_worstOf wsX8_worstOf 12 362 [.ref z, .long (lN sm)] [(z, .inr (9, [.ref a0, .ref a1, .int (nI T), .ref a2, .ref a3, .ref a4, .ref a5, .ref a6, .int (nI P), .int pa, .int kn, .ref a7, .int (nI rn), .ref a8, .ref a9, .int (nI ln), .ref a10, .int th, .ref a11, .ref a12, .int wt, .ref a13, .ref a14, .ref a15])), (a15, .inl (cI, 64, .inl (nF rr)))] (fun rv_ => rv_ = some (.int (nI q))) := by
  refine kEnterR (cc := cX8_worstOf) (maxL := 12) (ret := (some .int)) (by decide) rfl (Nat.le_of_ble_eq_true rfl) ?_
  intro p e s m args below meth c hx hb hr hml hts hown hlk hK hP ls hl
  have hl : lv_has ls 12 [(0, .ref z), (1, .long (lN sm))] := hl
  have hw_f66 := hts (.fieldLink RX8 66 "WhatToReadModel" "topics" "I") (by decide +kernel)
  have hi_X8 : ∀ w ∈ wsX80, w ∈ wsX8_worstOf := by decide +kernel
  have hw_f60 := hts (.fieldLink RX8 60 "WhatToReadModel" "row64" "[I") (by decide +kernel)
  refine lv_lload_n hx hb dX8_worstOf_0 rfl (lv_at hl 1 rfl) ?_
  refine kGoR (va_runS (As := [.long (lN sm)]) (rest := []) ⟨hx, hb, hml, hown, hts⟩ (c_J13_bitCount_95d88 l D cI cJ cZ cO sm (hs)) (va_cwS 1 hts gX8_worstOf_J13_bitCount_95d88 rfl rfl rfl (by decide +kernel) ⟨Nat.le_of_ble_eq_true rfl, Nat.le_of_ble_eq_true rfl⟩) (kPreSR hK (kPc_sub hP [] rfl)) rfl rfl hl.1 rfl (lv_room (Nat.le_of_ble_eq_true rfl)) dX8_worstOf_1 ⟨Nat.le_of_ble_eq_true rfl, Nat.le_of_ble_eq_true rfl⟩) (fun v_1 hv_1 => ?_)
  obtain rfl := hv_1
  refine W.eq (g2 := F0 m 4 ls [.int (nI (pcN sm 64))]) rfl ?_
  refine lv_istore_n (lv' := [(3, .int (nI (pcN sm 64))), (0, .ref z), (1, .long (lN sm))]) hx hb dX8_worstOf_4 rfl hl (by decide) rfl (fun ls hl => ?_)
  refine lv_lconst (v := 0) hx hb dX8_worstOf_5 (by decide) ?_
  refine lv_topl (fun nv_2 ev_2 => ?_)
  obtain rfl : nv_2 = lN 0 := ev_2.trans (rfl)
  refine lv_lstore (lv' := [(4, .long (lN 0)), (3, .int (nI (pcN sm 64))), (0, .ref z), (1, .long (lN sm))]) hx hb dX8_worstOf_6 hl (by decide) rfl (fun ls hl => ?_)
  refine lv_iload_n hx hb dX8_worstOf_8 rfl (lv_at hl 1 rfl) ?_
  refine lv_istore (lv' := [(6, .int (nI (pcN sm 64))), (4, .long (lN 0)), (3, .int (nI (pcN sm 64))), (0, .ref z), (1, .long (lN sm))]) hx hb dX8_worstOf_9 hl (by decide) rfl (fun ls hl => ?_)
  refine lv_iconst (v := 0) hx hb dX8_worstOf_11 (by decide) ?_
  refine lv_istore (lv' := [(7, .int 0), (6, .int (nI (pcN sm 64))), (4, .long (lN 0)), (3, .int (nI (pcN sm 64))), (0, .ref z), (1, .long (lN sm))]) hx hb dX8_worstOf_12 hl (by decide) rfl (fun ls hl => ?_)
  have hloop_14 : ∀ (fu : Nat) (t : Nat) (bm : Nat) (le : Nat), T - t < fu → t ≤ T → bm = (wsF sm rr (pcN sm 64) t).1 → le = (wsF sm rr (pcN sm 64) t).2 → ∀ ls : Array Slot, lv_has ls 12 [(0, .ref z), (1, .long (lN sm)), (3, .int (nI (pcN sm 64))), (4, .long (lN bm)), (6, .int (nI le)), (7, .int (nI t))] → W p l e ({ frames := 12, cells := 0, slots := 0, locals := 362 }) s m args below meth c s.heap [] 0 0 (MQ below (kQr (fun rv_ => rv_ = some (.int (nI q)))) args s 0 0 (fun _ => False)) (F0 m 14 ls []) := by
    intro fu
    induction fu with
    | zero => intro t bm le hmu; exact absurd hmu (Nat.not_lt_zero _)
    | succ fu ih_14 =>
      intro t bm le hmu_14 ht eb el ls hl
      have hal := pcN_le sm 64
      have hmle := hs_le sm rr t
      have hl2 := ws2_le sm rr (pcN sm 64) t
      refine lv_iload hx hb dX8_worstOf_14 (lv_at hl 5 rfl) ?_
      refine lv_aload_n hx hb dX8_worstOf_16 rfl (lv_at hl 0 rfl) ?_
      refine va_get (D := D) (ci := 9) (v := .int (nI T)) (C := RX8) (T := TX8) (N := 24) hx hb hts hi_X8 hown hK.1 hP 0 rfl rfl 2 (by decide) hw_f66 (fun _ h9 => h9) rfl dX8_worstOf_17 ?_
      refine lv_icmp_ge (tgt := 129) hx hb dX8_worstOf_20 (by decide) (fun c_20 => ?_) (fun c_20 => ?_)
      · skip
        have nc_20 : T ≤ t := (nI_leI (a := T) (b := t) (by omega) (by omega)).mp c_20
        have e13 : t = T := by omega
        have hle2 : le ≤ pcN sm 64 := by rw [el]; exact ws2_le sm rr _ t
        obtain ⟨wq, hwq⟩ : ∃ wq, wq = wsF sm rr (pcN sm 64) T := ⟨_, rfl⟩
        rw [e13, ← hwq] at eb el
        have hwe := ws_end hT hrt hwq
        refine lv_iload hx hb dX8_worstOf_129 (lv_at hl 4 rfl) ?_
        refine lv_iload_n hx hb dX8_worstOf_131 rfl (lv_at hl 2 rfl) ?_
        refine lv_icmp_ne (tgt := 137) hx hb dX8_worstOf_132 (by decide) (fun c_132 => ?_) (fun c_132 => ?_)
        · skip
          have nc_132 : ¬ le = (pcN sm 64) := (not_congr (nI_eq (a := le) (b := pcN sm 64) (by omega) (by omega))).mp c_132
          obtain ⟨w1, w2, w3, w4, w5, w6, w7⟩ := hwe.2 (by omega)
          obtain ⟨fd, hfd⟩ : ∃ fd, fq = fd + 1 := ⟨fq - 1, by omega⟩
          obtain ⟨q1, hq1⟩ : ∃ q1, q1 = WN fd (mCt wq.1 rr) := ⟨_, rfl⟩
          obtain ⟨q2, hq2⟩ : ∃ q2, q2 = WN fd (mCt (andn sm wq.1) rr) := ⟨_, rfl⟩
          have hq1l : q1 ≤ fd := by rw [hq1]; exact WN_le _ _
          have hq2l : q2 ≤ fd := by rw [hq2]; exact WN_le _ _
          have hfin0 : q = 1 + max q2 q1 := by rw [hq, hfd, w7 fd, hq1, hq2]
          refine lv_aload_n hx hb dX8_worstOf_137 rfl (lv_at hl 0 rfl) ?_
          refine lv_lload hx hb dX8_worstOf_138 (lv_at hl 3 rfl) ?_
          refine kGoR (va_runV (As := [.long (lN bm)]) (rest := []) ⟨hx, hb, hml, hown, hts⟩ (c_X8_wo_2 l D cI cJ cZ cO z a0 a1 a2 a3 a4 a5 a6 a7 a8 a9 a10 a11 a12 a13 a14 a15 T P pa kn rn ln th wt rr bm fd q1 (by first | assumption | omega | decide) (by rw [eb]; exact w1) (by rw [eb]; exact w2) (hrr) (by omega) (by rw [eb]; omega) (by rw [hq1, eb])) (cwV 1 hts gX8_worstOf_X8_worstOf rfl rfl rfl (by decide +kernel) ⟨Nat.le_of_ble_eq_true rfl, Nat.le_of_ble_eq_true rfl⟩) (kPreVR (ci := 9) (q0 := 0) hK (kPc_sub hP [0, 1] rfl) rfl rfl rfl) rfl rfl hl.1 rfl (lv_room (Nat.le_of_ble_eq_true rfl)) dX8_worstOf_140 ⟨Nat.le_of_ble_eq_true rfl, Nat.le_of_ble_eq_true rfl⟩) (fun v_3 hv_3 => ?_)
          obtain rfl := hv_3
          refine W.eq (g2 := F0 m 143 ls [.int (nI q1)]) rfl ?_
          refine lv_istore (lv' := [(7, .int (nI q1)), (0, .ref z), (1, .long (lN sm)), (3, .int (nI (pcN sm 64))), (4, .long (lN bm)), (6, .int (nI le))]) hx hb dX8_worstOf_143 hl (by decide) rfl (fun ls hl => ?_)
          refine lv_aload_n hx hb dX8_worstOf_145 rfl (lv_at hl 1 rfl) ?_
          refine lv_lload_n hx hb dX8_worstOf_146 rfl (lv_at hl 2 rfl) ?_
          refine lv_lload hx hb dX8_worstOf_147 (lv_at hl 4 rfl) ?_
          refine lv_ldc2 (v := (-1)) hx hb hown (hts (.constantLong RX8 143 (-1)) (by decide +kernel)) dX8_worstOf_149 ?_
          refine lv_lxor hx hb dX8_worstOf_152 ?_
          refine lv_land hx hb dX8_worstOf_153 ?_
          refine lv_topl (fun nv_4 ev_4 => ?_)
          obtain rfl : nv_4 = lN (andn sm bm) := ev_4.trans (lx_andn hs (by rw [eb, hwq]; exact ws1_lt sm rr _ T))
          refine kGoR (va_runV (As := [.long (lN (andn sm bm))]) (rest := []) ⟨hx, hb, hml, hown, hts⟩ (c_X8_wo_2 l D cI cJ cZ cO z a0 a1 a2 a3 a4 a5 a6 a7 a8 a9 a10 a11 a12 a13 a14 a15 T P pa kn rn ln th wt rr (andn sm bm) fd q2 (by first | assumption | omega | decide) (Nat.lt_of_le_of_lt (andn_le _ _) hs) (by rw [eb]; exact w3) (hrr) (by omega) (by rw [eb]; omega) (by rw [hq2, eb])) (cwV 1 hts gX8_worstOf_X8_worstOf rfl rfl rfl (by decide +kernel) ⟨Nat.le_of_ble_eq_true rfl, Nat.le_of_ble_eq_true rfl⟩) (kPreVR (ci := 9) (q0 := 0) hK (kPc_sub hP [0, 1] rfl) rfl rfl rfl) rfl rfl hl.1 rfl (lv_room (Nat.le_of_ble_eq_true rfl)) dX8_worstOf_154 ⟨Nat.le_of_ble_eq_true rfl, Nat.le_of_ble_eq_true rfl⟩) (fun v_5 hv_5 => ?_)
          obtain rfl := hv_5
          refine W.eq (g2 := F0 m 157 ls [.int (nI q2)]) rfl ?_
          refine lv_istore (lv' := [(8, .int (nI q2)), (7, .int (nI q1)), (0, .ref z), (1, .long (lN sm)), (3, .int (nI (pcN sm 64))), (4, .long (lN bm)), (6, .int (nI le))]) hx hb dX8_worstOf_157 hl (by decide) rfl (fun ls hl => ?_)
          refine lv_iconst (v := 1) hx hb dX8_worstOf_159 (by decide) ?_
          refine lv_iload hx hb dX8_worstOf_160 (lv_at hl 1 rfl) ?_
          refine lv_iload hx hb dX8_worstOf_162 (lv_at hl 0 rfl) ?_
          refine lv_icmp_le (tgt := 172) hx hb dX8_worstOf_164 (by decide) (fun c_164 => ?_) (fun c_164 => ?_)
          · skip
            have nc_164 : q1 ≤ q2 := (nI_leI (a := q1) (b := q2) (by omega) (by omega)).mp c_164
            have hfin : (1 : Int32) + nI q2 = nI q := by rw [hfin0, show max q2 q1 = q2 by omega]; exact nI_add 1 _
            refine lv_iload hx hb dX8_worstOf_172 (lv_at hl 0 rfl) ?_
            refine lv_iadd hx hb dX8_worstOf_174 ?_
            exact kRetIr hx hb hr hlk dX8_worstOf_175 (kpi (by first | (rw [hq, hwe.1 (by omega)]; rfl) | (rw [hfin]; done)))
          · skip
            have nc_164 : ¬ q1 ≤ q2 := (not_congr (nI_leI (a := q1) (b := q2) (by omega) (by omega))).mp c_164
            have hfin : (1 : Int32) + nI q1 = nI q := by rw [hfin0, show max q2 q1 = q1 by omega]; exact nI_add 1 _
            refine lv_iload hx hb dX8_worstOf_167 (lv_at hl 1 rfl) ?_
            refine lv_goto (tgt := 174) hx hb dX8_worstOf_169 (by decide) ?_
            refine lv_iadd hx hb dX8_worstOf_174 ?_
            exact kRetIr hx hb hr hlk dX8_worstOf_175 (kpi (by first | (rw [hq, hwe.1 (by omega)]; rfl) | (rw [hfin]; done)))
        · skip
          have nc_132 : le = (pcN sm 64) := (nI_eq (a := le) (b := pcN sm 64) (by omega) (by omega)).mp c_132
          refine lv_iconst (v := 0) hx hb dX8_worstOf_135 (by decide) ?_
          exact kRetIr hx hb hr hlk dX8_worstOf_136 (kpi (by first | (rw [hq, hwe.1 (by omega)]; rfl) | (rw [hfin]; done)))
      · skip
        have nc_20 : ¬ T ≤ t := (not_congr (nI_leI (a := T) (b := t) (by omega) (by omega))).mp c_20
        refine lv_lconst (v := 0) hx hb dX8_worstOf_23 (by decide) ?_
        refine lv_topl (fun nv_6 ev_6 => ?_)
        obtain rfl : nv_6 = lN 0 := ev_6.trans (rfl)
        refine lv_lstore (lv' := [(8, .long (lN 0)), (0, .ref z), (1, .long (lN sm)), (3, .int (nI (pcN sm 64))), (4, .long (lN bm)), (6, .int (nI le)), (7, .int (nI t))]) hx hb dX8_worstOf_24 hl (by decide) rfl (fun ls hl => ?_)
        refine lv_iconst (v := 0) hx hb dX8_worstOf_26 (by decide) ?_
        refine lv_istore (lv' := [(10, .int 0), (8, .long (lN 0)), (0, .ref z), (1, .long (lN sm)), (3, .int (nI (pcN sm 64))), (4, .long (lN bm)), (6, .int (nI le)), (7, .int (nI t))]) hx hb dX8_worstOf_27 hl (by decide) rfl (fun ls hl => ?_)
        have hloop_29 : ∀ (fu : Nat) (k : Nat) (hm : Nat), 64 - k < fu → k ≤ 64 → hm = hsF sm rr t k → ∀ ls : Array Slot, lv_has ls 12 [(0, .ref z), (1, .long (lN sm)), (3, .int (nI (pcN sm 64))), (4, .long (lN bm)), (6, .int (nI le)), (7, .int (nI t)), (8, .long (lN hm)), (10, .int (nI k))] → W p l e ({ frames := 12, cells := 0, slots := 0, locals := 362 }) s m args below meth c s.heap [] 0 0 (MQ below (kQr (fun rv_ => rv_ = some (.int (nI q)))) args s 0 0 (fun _ => False)) (F0 m 29 ls []) := by
          intro fu
          induction fu with
          | zero => intro k hm hmu; exact absurd hmu (Nat.not_lt_zero _)
          | succ fu ih_29 =>
            intro k hm hmu_29 hk eh ls hl
            refine lv_iload hx hb dX8_worstOf_29 (lv_at hl 7 rfl) ?_
            refine lv_bipush (v := 64) hx hb dX8_worstOf_31 (by decide) ?_
            refine lv_icmp_ge (tgt := 78) hx hb dX8_worstOf_33 (by decide) (fun c_33 => ?_) (fun c_33 => ?_)
            · skip
              have nc_33 : 64 ≤ k := (nI_leI (a := 64) (b := k) (by omega) (by omega)).mp c_33
              have e12 : k = 64 := by omega
              rw [show (lN hm : Int64) = lN (hsF sm rr t 64) from by rw [eh, e12]] at hl
              refine lv_lload hx hb dX8_worstOf_78 (lv_at hl 6 rfl) ?_
              refine kGoR (va_runS (As := [.long (lN (hsF sm rr t 64))]) (rest := []) ⟨hx, hb, hml, hown, hts⟩ (c_J13_bitCount_95d88 l D cI cJ cZ cO (hsF sm rr t 64) (hs_lt64 sm rr t (Nat.le_refl _))) (va_cwS 1 hts gX8_worstOf_J13_bitCount_95d88 rfl rfl rfl (by decide +kernel) ⟨Nat.le_of_ble_eq_true rfl, Nat.le_of_ble_eq_true rfl⟩) (kPreSR hK (kPc_sub hP [] rfl)) rfl rfl hl.1 rfl (lv_room (Nat.le_of_ble_eq_true rfl)) dX8_worstOf_80 ⟨Nat.le_of_ble_eq_true rfl, Nat.le_of_ble_eq_true rfl⟩) (fun v_7 hv_7 => ?_)
              obtain rfl := hv_7
              refine W.eq (g2 := F0 m 83 ls [.int (nI (pcN (hsF sm rr t 64) 64))]) rfl ?_
              refine lv_istore (lv' := [(10, .int (nI (pcN (hsF sm rr t 64) 64))), (0, .ref z), (1, .long (lN sm)), (3, .int (nI (pcN sm 64))), (4, .long (lN bm)), (6, .int (nI le)), (7, .int (nI t)), (8, .long (lN (hsF sm rr t 64)))]) hx hb dX8_worstOf_83 hl (by decide) rfl (fun ls hl => ?_)
              refine lv_iload hx hb dX8_worstOf_85 (lv_at hl 0 rfl) ?_
              refine lv_iload_n hx hb dX8_worstOf_87 rfl (lv_at hl 3 rfl) ?_
              refine lv_iload hx hb dX8_worstOf_88 (lv_at hl 0 rfl) ?_
              refine lv_isub hx hb dX8_worstOf_90 ?_
              refine lv_topi (fun nv_8 ev_8 => ?_)
              obtain rfl : nv_8 = nI (pcN sm 64 - pcN (hsF sm rr t 64) 64) := ev_8.trans (pk_sub hmle)
              refine lv_icmp_le (tgt := 99) hx hb dX8_worstOf_91 (by decide) (fun c_91 => ?_) (fun c_91 => ?_)
              · skip
                have nc_91 : (pcN (hsF sm rr t 64) 64) ≤ (pcN sm 64 - pcN (hsF sm rr t 64) 64) := (nI_leI (a := pcN (hsF sm rr t 64) 64) (b := pcN sm 64 - pcN (hsF sm rr t 64) 64) (by omega) (by omega)).mp c_91
                refine lv_iload_n hx hb dX8_worstOf_99 rfl (lv_at hl 3 rfl) ?_
                refine lv_iload hx hb dX8_worstOf_100 (lv_at hl 0 rfl) ?_
                refine lv_isub hx hb dX8_worstOf_102 ?_
                refine lv_topi (fun nv_9 ev_9 => ?_)
                obtain rfl : nv_9 = nI (pcN sm 64 - pcN (hsF sm rr t 64) 64) := ev_9.trans (pk_sub hmle)
                refine lv_istore (lv' := [(11, .int (nI (pcN sm 64 - pcN (hsF sm rr t 64) 64))), (10, .int (nI (pcN (hsF sm rr t 64) 64))), (0, .ref z), (1, .long (lN sm)), (3, .int (nI (pcN sm 64))), (4, .long (lN bm)), (6, .int (nI le)), (7, .int (nI t)), (8, .long (lN (hsF sm rr t 64)))]) hx hb dX8_worstOf_103 hl (by decide) rfl (fun ls hl => ?_)
                refine lv_iload hx hb dX8_worstOf_105 (lv_at hl 0 rfl) ?_
                refine lv_iload hx hb dX8_worstOf_107 (lv_at hl 6 rfl) ?_
                refine lv_icmp_lt (tgt := 115) hx hb dX8_worstOf_109 (by decide) (fun c_109 => ?_) (fun c_109 => ?_)
                · skip
                  have nc_109 : (pcN sm 64 - pcN (hsF sm rr t 64) 64) < le := (nI_ltI (a := pcN sm 64 - pcN (hsF sm rr t 64) 64) (b := le) (by omega) (by omega)).mp c_109
                  refine lv_iload hx hb dX8_worstOf_115 (lv_at hl 0 rfl) ?_
                  refine lv_istore (lv' := [(6, .int (nI (pcN sm 64 - pcN (hsF sm rr t 64) 64))), (11, .int (nI (pcN sm 64 - pcN (hsF sm rr t 64) 64))), (10, .int (nI (pcN (hsF sm rr t 64) 64))), (0, .ref z), (1, .long (lN sm)), (3, .int (nI (pcN sm 64))), (4, .long (lN bm)), (7, .int (nI t)), (8, .long (lN (hsF sm rr t 64)))]) hx hb dX8_worstOf_117 hl (by decide) rfl (fun ls hl => ?_)
                  refine lv_lload hx hb dX8_worstOf_119 (lv_at hl 8 rfl) ?_
                  refine lv_lstore (lv' := [(4, .long (lN (hsF sm rr t 64))), (6, .int (nI (pcN sm 64 - pcN (hsF sm rr t 64) 64))), (11, .int (nI (pcN sm 64 - pcN (hsF sm rr t 64) 64))), (10, .int (nI (pcN (hsF sm rr t 64) 64))), (0, .ref z), (1, .long (lN sm)), (3, .int (nI (pcN sm 64))), (7, .int (nI t)), (8, .long (lN (hsF sm rr t 64)))]) hx hb dX8_worstOf_121 hl (by decide) rfl (fun ls hl => ?_)
                  refine lv_iinc (v := nI (t + 1)) (lv' := [(7, .int (nI (t + 1))), (4, .long (lN (hsF sm rr t 64))), (6, .int (nI (pcN sm 64 - pcN (hsF sm rr t 64) 64))), (11, .int (nI (pcN sm 64 - pcN (hsF sm rr t 64) 64))), (10, .int (nI (pcN (hsF sm rr t 64) 64))), (0, .ref z), (1, .long (lN sm)), (3, .int (nI (pcN sm 64))), (8, .long (lN (hsF sm rr t 64)))]) hx hb dX8_worstOf_123 hl (k := 7) rfl (nI_1 _) (by decide) rfl (fun ls hl => ?_)
                  refine lv_goto (tgt := 14) hx hb dX8_worstOf_126 (by decide) ?_
                  exact ih_14  (t + 1) (hsF sm rr t 64) (pcN sm 64 - pcN (hsF sm rr t 64) 64) (by omega) (by first | exact Nat.zero_le _ | omega) (by first | (subst eb; subst el; simp [wsF, moreW, c_20, nc_20, c_33, nc_33, c_91, nc_91, c_109, nc_109]; done) | (subst eb; subst el; simp [wsF, moreW, c_20, nc_20, c_33, nc_33, c_91, nc_91, c_109, nc_109]; omega)) (by first | (subst eb; subst el; simp [wsF, moreW, c_20, nc_20, c_33, nc_33, c_91, nc_91, c_109, nc_109]; done) | (subst eb; subst el; simp [wsF, moreW, c_20, nc_20, c_33, nc_33, c_91, nc_91, c_109, nc_109]; omega)) _ (lv_sub hl [5, 6, 7, 1, 2, 0] rfl)
                · skip
                  have nc_109 : ¬ (pcN sm 64 - pcN (hsF sm rr t 64) 64) < le := (not_congr (nI_ltI (a := pcN sm 64 - pcN (hsF sm rr t 64) 64) (b := le) (by omega) (by omega))).mp c_109
                  refine lv_goto (tgt := 123) hx hb dX8_worstOf_112 (by decide) ?_
                  refine lv_iinc (v := nI (t + 1)) (lv' := [(7, .int (nI (t + 1))), (11, .int (nI (pcN sm 64 - pcN (hsF sm rr t 64) 64))), (10, .int (nI (pcN (hsF sm rr t 64) 64))), (0, .ref z), (1, .long (lN sm)), (3, .int (nI (pcN sm 64))), (4, .long (lN bm)), (6, .int (nI le)), (8, .long (lN (hsF sm rr t 64)))]) hx hb dX8_worstOf_123 hl (k := 7) rfl (nI_1 _) (by decide) rfl (fun ls hl => ?_)
                  refine lv_goto (tgt := 14) hx hb dX8_worstOf_126 (by decide) ?_
                  exact ih_14  (t + 1) bm le (by omega) (by first | exact Nat.zero_le _ | omega) (by first | (subst eb; subst el; simp [wsF, moreW, c_20, nc_20, c_33, nc_33, c_91, nc_91, c_109, nc_109]; done) | (subst eb; subst el; simp [wsF, moreW, c_20, nc_20, c_33, nc_33, c_91, nc_91, c_109, nc_109]; omega)) (by first | (subst eb; subst el; simp [wsF, moreW, c_20, nc_20, c_33, nc_33, c_91, nc_91, c_109, nc_109]; done) | (subst eb; subst el; simp [wsF, moreW, c_20, nc_20, c_33, nc_33, c_91, nc_91, c_109, nc_109]; omega)) _ (lv_sub hl [3, 4, 5, 6, 7, 0] rfl)
              · skip
                have nc_91 : ¬ (pcN (hsF sm rr t 64) 64) ≤ (pcN sm 64 - pcN (hsF sm rr t 64) 64) := (not_congr (nI_leI (a := pcN (hsF sm rr t 64) 64) (b := pcN sm 64 - pcN (hsF sm rr t 64) 64) (by omega) (by omega))).mp c_91
                refine lv_iload hx hb dX8_worstOf_94 (lv_at hl 0 rfl) ?_
                refine lv_goto (tgt := 103) hx hb dX8_worstOf_96 (by decide) ?_
                refine lv_istore (lv' := [(11, .int (nI (pcN (hsF sm rr t 64) 64))), (10, .int (nI (pcN (hsF sm rr t 64) 64))), (0, .ref z), (1, .long (lN sm)), (3, .int (nI (pcN sm 64))), (4, .long (lN bm)), (6, .int (nI le)), (7, .int (nI t)), (8, .long (lN (hsF sm rr t 64)))]) hx hb dX8_worstOf_103 hl (by decide) rfl (fun ls hl => ?_)
                refine lv_iload hx hb dX8_worstOf_105 (lv_at hl 0 rfl) ?_
                refine lv_iload hx hb dX8_worstOf_107 (lv_at hl 6 rfl) ?_
                refine lv_icmp_lt (tgt := 115) hx hb dX8_worstOf_109 (by decide) (fun c_109 => ?_) (fun c_109 => ?_)
                · skip
                  have nc_109 : (pcN (hsF sm rr t 64) 64) < le := (nI_ltI (a := pcN (hsF sm rr t 64) 64) (b := le) (by omega) (by omega)).mp c_109
                  refine lv_iload hx hb dX8_worstOf_115 (lv_at hl 0 rfl) ?_
                  refine lv_istore (lv' := [(6, .int (nI (pcN (hsF sm rr t 64) 64))), (11, .int (nI (pcN (hsF sm rr t 64) 64))), (10, .int (nI (pcN (hsF sm rr t 64) 64))), (0, .ref z), (1, .long (lN sm)), (3, .int (nI (pcN sm 64))), (4, .long (lN bm)), (7, .int (nI t)), (8, .long (lN (hsF sm rr t 64)))]) hx hb dX8_worstOf_117 hl (by decide) rfl (fun ls hl => ?_)
                  refine lv_lload hx hb dX8_worstOf_119 (lv_at hl 8 rfl) ?_
                  refine lv_lstore (lv' := [(4, .long (lN (hsF sm rr t 64))), (6, .int (nI (pcN (hsF sm rr t 64) 64))), (11, .int (nI (pcN (hsF sm rr t 64) 64))), (10, .int (nI (pcN (hsF sm rr t 64) 64))), (0, .ref z), (1, .long (lN sm)), (3, .int (nI (pcN sm 64))), (7, .int (nI t)), (8, .long (lN (hsF sm rr t 64)))]) hx hb dX8_worstOf_121 hl (by decide) rfl (fun ls hl => ?_)
                  refine lv_iinc (v := nI (t + 1)) (lv' := [(7, .int (nI (t + 1))), (4, .long (lN (hsF sm rr t 64))), (6, .int (nI (pcN (hsF sm rr t 64) 64))), (11, .int (nI (pcN (hsF sm rr t 64) 64))), (10, .int (nI (pcN (hsF sm rr t 64) 64))), (0, .ref z), (1, .long (lN sm)), (3, .int (nI (pcN sm 64))), (8, .long (lN (hsF sm rr t 64)))]) hx hb dX8_worstOf_123 hl (k := 7) rfl (nI_1 _) (by decide) rfl (fun ls hl => ?_)
                  refine lv_goto (tgt := 14) hx hb dX8_worstOf_126 (by decide) ?_
                  exact ih_14  (t + 1) (hsF sm rr t 64) (pcN (hsF sm rr t 64) 64) (by omega) (by first | exact Nat.zero_le _ | omega) (by first | (subst eb; subst el; simp [wsF, moreW, c_20, nc_20, c_33, nc_33, c_91, nc_91, c_109, nc_109]; done) | (subst eb; subst el; simp [wsF, moreW, c_20, nc_20, c_33, nc_33, c_91, nc_91, c_109, nc_109]; omega)) (by first | (subst eb; subst el; simp [wsF, moreW, c_20, nc_20, c_33, nc_33, c_91, nc_91, c_109, nc_109]; done) | (subst eb; subst el; simp [wsF, moreW, c_20, nc_20, c_33, nc_33, c_91, nc_91, c_109, nc_109]; omega)) _ (lv_sub hl [5, 6, 7, 1, 2, 0] rfl)
                · skip
                  have nc_109 : ¬ (pcN (hsF sm rr t 64) 64) < le := (not_congr (nI_ltI (a := pcN (hsF sm rr t 64) 64) (b := le) (by omega) (by omega))).mp c_109
                  refine lv_goto (tgt := 123) hx hb dX8_worstOf_112 (by decide) ?_
                  refine lv_iinc (v := nI (t + 1)) (lv' := [(7, .int (nI (t + 1))), (11, .int (nI (pcN (hsF sm rr t 64) 64))), (10, .int (nI (pcN (hsF sm rr t 64) 64))), (0, .ref z), (1, .long (lN sm)), (3, .int (nI (pcN sm 64))), (4, .long (lN bm)), (6, .int (nI le)), (8, .long (lN (hsF sm rr t 64)))]) hx hb dX8_worstOf_123 hl (k := 7) rfl (nI_1 _) (by decide) rfl (fun ls hl => ?_)
                  refine lv_goto (tgt := 14) hx hb dX8_worstOf_126 (by decide) ?_
                  exact ih_14  (t + 1) bm le (by omega) (by first | exact Nat.zero_le _ | omega) (by first | (subst eb; subst el; simp [wsF, moreW, c_20, nc_20, c_33, nc_33, c_91, nc_91, c_109, nc_109]; done) | (subst eb; subst el; simp [wsF, moreW, c_20, nc_20, c_33, nc_33, c_91, nc_91, c_109, nc_109]; omega)) (by first | (subst eb; subst el; simp [wsF, moreW, c_20, nc_20, c_33, nc_33, c_91, nc_91, c_109, nc_109]; done) | (subst eb; subst el; simp [wsF, moreW, c_20, nc_20, c_33, nc_33, c_91, nc_91, c_109, nc_109]; omega)) _ (lv_sub hl [3, 4, 5, 6, 7, 0] rfl)
            · skip
              have nc_33 : ¬ 64 ≤ k := (not_congr (nI_leI (a := 64) (b := k) (by omega) (by omega))).mp c_33
              refine lv_lload_n hx hb dX8_worstOf_36 rfl (lv_at hl 1 rfl) ?_
              refine lv_iload hx hb dX8_worstOf_37 (lv_at hl 7 rfl) ?_
              refine lv_lshr hx hb dX8_worstOf_39 rfl ?_
              refine lv_lconst (v := 1) hx hb dX8_worstOf_40 (by decide) ?_
              refine lv_land hx hb dX8_worstOf_41 ?_
              refine lv_topl (fun nv_10 ev_10 => ?_)
              obtain rfl : nv_10 = lN (if sm.testBit k then 1 else 0) := ev_10.trans (lx_bit (by omega))
              refine lv_lconst (v := 1) hx hb dX8_worstOf_42 (by decide) ?_
              refine W.lcmp hx hb dX8_worstOf_43 ?_
              refine lv_if_ne (tgt := 72) hx hb dX8_worstOf_44 (by decide) (fun c_44 => ?_) (fun c_44 => ?_)
              · skip
                have c_44b : sm.testBit k = false := by cases hz : sm.testBit k with | false => rfl | true => exact absurd (lx_ne.mpr hz) c_44
                refine lv_iinc (v := nI (k + 1)) (lv' := [(10, .int (nI (k + 1))), (0, .ref z), (1, .long (lN sm)), (3, .int (nI (pcN sm 64))), (4, .long (lN bm)), (6, .int (nI le)), (7, .int (nI t)), (8, .long (lN hm))]) hx hb dX8_worstOf_72 hl (k := 7) rfl (nI_1 _) (by decide) rfl (fun ls hl => ?_)
                refine lv_goto (tgt := 29) hx hb dX8_worstOf_75 (by decide) ?_
                exact ih_29  (k + 1) hm (by omega) (by first | exact Nat.zero_le _ | omega) (by subst eh; simp [hsF, c_20, nc_20, c_33, nc_33, c_44, c_44b]) _ (lv_sub hl [1, 2, 3, 4, 5, 6, 7, 0] rfl)
              · skip
                have c_44b : sm.testBit k = true := lx_ne.mp c_44
                refine lv_aload_n hx hb dX8_worstOf_47 rfl (lv_at hl 0 rfl) ?_
                refine va_get (D := D) (ci := 9) (v := .ref a15) (C := RX8) (T := TX8) (N := 24) hx hb hts hi_X8 hown hK.1 hP 0 rfl rfl 23 (by decide) hw_f60 (fun _ h9 => h9) rfl dX8_worstOf_48 ?_
                refine lv_iload hx hb dX8_worstOf_51 (lv_at hl 7 rfl) ?_
                refine va_iald hx hb hK.1 hP 1 0 rfl rfl (vp_in_nI (by omega) (by omega)) dX8_worstOf_53 ?_
                refine lv_topi (fun nv_11 ev_11 => ?_)
                obtain rfl : nv_11 = (nF rr) k := by rw [ev_11, nI_clamp (by omega)]
                refine lv_topi (fun nv_12 ev_12 => ?_)
                obtain rfl : nv_12 = nI (rr k) := ev_12.trans (rfl)
                refine lv_iload hx hb dX8_worstOf_54 (lv_at hl 5 rfl) ?_
                refine lv_ishr hx hb dX8_worstOf_56 ?_
                refine lv_iconst (v := 1) hx hb dX8_worstOf_57 (by decide) ?_
                refine lv_iand hx hb dX8_worstOf_58 ?_
                refine lv_topi (fun nv_13 ev_13 => ?_)
                obtain rfl : nv_13 = k01 ((rr k).testBit t) := ev_13.trans (hx_k01 (by have := hrr k; omega) (by omega))
                refine lv_iconst (v := 1) hx hb dX8_worstOf_59 (by decide) ?_
                refine lv_icmp_ne (tgt := 72) hx hb dX8_worstOf_60 (by decide) (fun c_60 => ?_) (fun c_60 => ?_)
                · skip
                  have c_60b : (rr k).testBit t = false := by cases hz : (rr k).testBit t with | false => rfl | true => exact absurd (by rw [hz]; rfl) c_60
                  refine lv_iinc (v := nI (k + 1)) (lv' := [(10, .int (nI (k + 1))), (0, .ref z), (1, .long (lN sm)), (3, .int (nI (pcN sm 64))), (4, .long (lN bm)), (6, .int (nI le)), (7, .int (nI t)), (8, .long (lN hm))]) hx hb dX8_worstOf_72 hl (k := 7) rfl (nI_1 _) (by decide) rfl (fun ls hl => ?_)
                  refine lv_goto (tgt := 29) hx hb dX8_worstOf_75 (by decide) ?_
                  exact ih_29  (k + 1) hm (by omega) (by first | exact Nat.zero_le _ | omega) (by subst eh; simp [hsF, c_20, nc_20, c_33, nc_33, c_44, c_44b, c_60, c_60b]) _ (lv_sub hl [1, 2, 3, 4, 5, 6, 7, 0] rfl)
                · skip
                  have c_60b : (rr k).testBit t = true := by cases hz : (rr k).testBit t with | true => rfl | false => exact absurd c_60 (by rw [hz]; decide)
                  refine lv_lload hx hb dX8_worstOf_63 (lv_at hl 6 rfl) ?_
                  refine lv_lconst (v := 1) hx hb dX8_worstOf_65 (by decide) ?_
                  refine lv_iload hx hb dX8_worstOf_66 (lv_at hl 7 rfl) ?_
                  refine lv_lshl hx hb dX8_worstOf_68 rfl ?_
                  refine lv_topl (fun nv_14 ev_14 => ?_)
                  obtain rfl : nv_14 = lN (2 ^ k) := ev_14.trans (lx_pow (by omega))
                  refine lv_lor hx hb dX8_worstOf_69 ?_
                  refine lv_topl (fun nv_15 ev_15 => ?_)
                  obtain rfl : nv_15 = lN (hm ||| 2 ^ k) := ev_15.trans (lx_or (by rw [eh]; exact hs_lt64 sm rr t (by omega)) (by omega))
                  refine lv_lstore (lv' := [(8, .long (lN (hm ||| 2 ^ k))), (0, .ref z), (1, .long (lN sm)), (3, .int (nI (pcN sm 64))), (4, .long (lN bm)), (6, .int (nI le)), (7, .int (nI t)), (10, .int (nI k))]) hx hb dX8_worstOf_70 hl (by decide) rfl (fun ls hl => ?_)
                  refine lv_iinc (v := nI (k + 1)) (lv' := [(10, .int (nI (k + 1))), (8, .long (lN (hm ||| 2 ^ k))), (0, .ref z), (1, .long (lN sm)), (3, .int (nI (pcN sm 64))), (4, .long (lN bm)), (6, .int (nI le)), (7, .int (nI t))]) hx hb dX8_worstOf_72 hl (k := 7) rfl (nI_1 _) (by decide) rfl (fun ls hl => ?_)
                  refine lv_goto (tgt := 29) hx hb dX8_worstOf_75 (by decide) ?_
                  exact ih_29  (k + 1) (hm ||| 2 ^ k) (by omega) (by first | exact Nat.zero_le _ | omega) (by subst eh; simp [hsF, c_20, nc_20, c_33, nc_33, c_44, c_44b, c_60, c_60b]) _ (lv_sub hl [2, 3, 4, 5, 6, 7, 1, 0] rfl)
        exact hloop_29 ((64 - 0) + 1) 0 0 (Nat.lt_succ_self _) (by exact Nat.zero_le _) (by rfl) _ (lv_sub hl [2, 3, 4, 5, 6, 7, 1, 0] rfl)
  exact hloop_14 ((T - 0) + 1) 0 0 (pcN sm 64) (Nat.lt_succ_self _) (by exact Nat.zero_le _) (by rfl) (by rfl) _ (lv_sub hl [4, 5, 3, 2, 1, 0] rfl)

set_option maxHeartbeats 4000000 in
set_option maxRecDepth 100000 in
theorem c_X8_wo_0 (l : Launch) (D : va_G) (cI cJ cZ cO : ClassId) (z : Nat) (a0 : Nat) (a1 : Nat) (a2 : Nat) (a3 : Nat) (a4 : Nat) (a5 : Nat) (a6 : Nat) (a7 : Nat) (a8 : Nat) (a9 : Nat) (a10 : Nat) (a11 : Nat) (a12 : Nat) (a13 : Nat) (a14 : Nat) (a15 : Nat) (T : Nat) (P : Nat) (pa : Int32) (kn : Int32) (rn : Nat) (ln : Nat) (th : Int32) (wt : Int32) (rr : Nat → Nat) (sm : Nat) (fq : Nat) (q : Nat) (hT : T ≤ 12) (hs : sm < 2 ^ 64) (hrt : ∀ k, k < 64 → sm.testBit k = true → rr k < 2 ^ T) (hrr : ∀ k, rr k < 4096) (hfu : fq = 12 - 0) (hsp : spN (mCt sm rr) ≤ fq) (hq : q = WN fq (mCt sm rr)) : kR l D (kTY cI cJ cZ cO) yX8_worstOf wsX8_worstOf 13 393 [.ref z, .long (lN sm)] [(z, .inr (9, [.ref a0, .ref a1, .int (nI T), .ref a2, .ref a3, .ref a4, .ref a5, .ref a6, .int (nI P), .int pa, .int kn, .ref a7, .int (nI rn), .ref a8, .ref a9, .int (nI ln), .ref a10, .int th, .ref a11, .ref a12, .int wt, .ref a13, .ref a14, .ref a15])), (a15, .inl (cI, 64, .inl (nF rr)))] (fun rv_ => rv_ = some (.int (nI q))) := by
  refine kEnterR (cc := cX8_worstOf) (maxL := 12) (ret := (some .int)) (by decide) rfl (Nat.le_of_ble_eq_true rfl) ?_
  intro p e s m args below meth c hx hb hr hml hts hown hlk hK hP ls hl
  have hl : lv_has ls 12 [(0, .ref z), (1, .long (lN sm))] := hl
  have hw_f66 := hts (.fieldLink RX8 66 "WhatToReadModel" "topics" "I") (by decide +kernel)
  have hi_X8 : ∀ w ∈ wsX80, w ∈ wsX8_worstOf := by decide +kernel
  have hw_f60 := hts (.fieldLink RX8 60 "WhatToReadModel" "row64" "[I") (by decide +kernel)
  refine lv_lload_n hx hb dX8_worstOf_0 rfl (lv_at hl 1 rfl) ?_
  refine kGoR (va_runS (As := [.long (lN sm)]) (rest := []) ⟨hx, hb, hml, hown, hts⟩ (c_J13_bitCount_95d88 l D cI cJ cZ cO sm (hs)) (va_cwS 1 hts gX8_worstOf_J13_bitCount_95d88 rfl rfl rfl (by decide +kernel) ⟨Nat.le_of_ble_eq_true rfl, Nat.le_of_ble_eq_true rfl⟩) (kPreSR hK (kPc_sub hP [] rfl)) rfl rfl hl.1 rfl (lv_room (Nat.le_of_ble_eq_true rfl)) dX8_worstOf_1 ⟨Nat.le_of_ble_eq_true rfl, Nat.le_of_ble_eq_true rfl⟩) (fun v_1 hv_1 => ?_)
  obtain rfl := hv_1
  refine W.eq (g2 := F0 m 4 ls [.int (nI (pcN sm 64))]) rfl ?_
  refine lv_istore_n (lv' := [(3, .int (nI (pcN sm 64))), (0, .ref z), (1, .long (lN sm))]) hx hb dX8_worstOf_4 rfl hl (by decide) rfl (fun ls hl => ?_)
  refine lv_lconst (v := 0) hx hb dX8_worstOf_5 (by decide) ?_
  refine lv_topl (fun nv_2 ev_2 => ?_)
  obtain rfl : nv_2 = lN 0 := ev_2.trans (rfl)
  refine lv_lstore (lv' := [(4, .long (lN 0)), (3, .int (nI (pcN sm 64))), (0, .ref z), (1, .long (lN sm))]) hx hb dX8_worstOf_6 hl (by decide) rfl (fun ls hl => ?_)
  refine lv_iload_n hx hb dX8_worstOf_8 rfl (lv_at hl 1 rfl) ?_
  refine lv_istore (lv' := [(6, .int (nI (pcN sm 64))), (4, .long (lN 0)), (3, .int (nI (pcN sm 64))), (0, .ref z), (1, .long (lN sm))]) hx hb dX8_worstOf_9 hl (by decide) rfl (fun ls hl => ?_)
  refine lv_iconst (v := 0) hx hb dX8_worstOf_11 (by decide) ?_
  refine lv_istore (lv' := [(7, .int 0), (6, .int (nI (pcN sm 64))), (4, .long (lN 0)), (3, .int (nI (pcN sm 64))), (0, .ref z), (1, .long (lN sm))]) hx hb dX8_worstOf_12 hl (by decide) rfl (fun ls hl => ?_)
  have hloop_14 : ∀ (fu : Nat) (t : Nat) (bm : Nat) (le : Nat), T - t < fu → t ≤ T → bm = (wsF sm rr (pcN sm 64) t).1 → le = (wsF sm rr (pcN sm 64) t).2 → ∀ ls : Array Slot, lv_has ls 12 [(0, .ref z), (1, .long (lN sm)), (3, .int (nI (pcN sm 64))), (4, .long (lN bm)), (6, .int (nI le)), (7, .int (nI t))] → W p l e ({ frames := 13, cells := 0, slots := 0, locals := 393 }) s m args below meth c s.heap [] 0 0 (MQ below (kQr (fun rv_ => rv_ = some (.int (nI q)))) args s 0 0 (fun _ => False)) (F0 m 14 ls []) := by
    intro fu
    induction fu with
    | zero => intro t bm le hmu; exact absurd hmu (Nat.not_lt_zero _)
    | succ fu ih_14 =>
      intro t bm le hmu_14 ht eb el ls hl
      have hal := pcN_le sm 64
      have hmle := hs_le sm rr t
      have hl2 := ws2_le sm rr (pcN sm 64) t
      refine lv_iload hx hb dX8_worstOf_14 (lv_at hl 5 rfl) ?_
      refine lv_aload_n hx hb dX8_worstOf_16 rfl (lv_at hl 0 rfl) ?_
      refine va_get (D := D) (ci := 9) (v := .int (nI T)) (C := RX8) (T := TX8) (N := 24) hx hb hts hi_X8 hown hK.1 hP 0 rfl rfl 2 (by decide) hw_f66 (fun _ h9 => h9) rfl dX8_worstOf_17 ?_
      refine lv_icmp_ge (tgt := 129) hx hb dX8_worstOf_20 (by decide) (fun c_20 => ?_) (fun c_20 => ?_)
      · skip
        have nc_20 : T ≤ t := (nI_leI (a := T) (b := t) (by omega) (by omega)).mp c_20
        have e13 : t = T := by omega
        have hle2 : le ≤ pcN sm 64 := by rw [el]; exact ws2_le sm rr _ t
        obtain ⟨wq, hwq⟩ : ∃ wq, wq = wsF sm rr (pcN sm 64) T := ⟨_, rfl⟩
        rw [e13, ← hwq] at eb el
        have hwe := ws_end hT hrt hwq
        refine lv_iload hx hb dX8_worstOf_129 (lv_at hl 4 rfl) ?_
        refine lv_iload_n hx hb dX8_worstOf_131 rfl (lv_at hl 2 rfl) ?_
        refine lv_icmp_ne (tgt := 137) hx hb dX8_worstOf_132 (by decide) (fun c_132 => ?_) (fun c_132 => ?_)
        · skip
          have nc_132 : ¬ le = (pcN sm 64) := (not_congr (nI_eq (a := le) (b := pcN sm 64) (by omega) (by omega))).mp c_132
          obtain ⟨w1, w2, w3, w4, w5, w6, w7⟩ := hwe.2 (by omega)
          obtain ⟨fd, hfd⟩ : ∃ fd, fq = fd + 1 := ⟨fq - 1, by omega⟩
          obtain ⟨q1, hq1⟩ : ∃ q1, q1 = WN fd (mCt wq.1 rr) := ⟨_, rfl⟩
          obtain ⟨q2, hq2⟩ : ∃ q2, q2 = WN fd (mCt (andn sm wq.1) rr) := ⟨_, rfl⟩
          have hq1l : q1 ≤ fd := by rw [hq1]; exact WN_le _ _
          have hq2l : q2 ≤ fd := by rw [hq2]; exact WN_le _ _
          have hfin0 : q = 1 + max q2 q1 := by rw [hq, hfd, w7 fd, hq1, hq2]
          refine lv_aload_n hx hb dX8_worstOf_137 rfl (lv_at hl 0 rfl) ?_
          refine lv_lload hx hb dX8_worstOf_138 (lv_at hl 3 rfl) ?_
          refine kGoR (va_runV (As := [.long (lN bm)]) (rest := []) ⟨hx, hb, hml, hown, hts⟩ (c_X8_wo_1 l D cI cJ cZ cO z a0 a1 a2 a3 a4 a5 a6 a7 a8 a9 a10 a11 a12 a13 a14 a15 T P pa kn rn ln th wt rr bm fd q1 (by first | assumption | omega | decide) (by rw [eb]; exact w1) (by rw [eb]; exact w2) (hrr) (by omega) (by rw [eb]; omega) (by rw [hq1, eb])) (cwV 1 hts gX8_worstOf_X8_worstOf rfl rfl rfl (by decide +kernel) ⟨Nat.le_of_ble_eq_true rfl, Nat.le_of_ble_eq_true rfl⟩) (kPreVR (ci := 9) (q0 := 0) hK (kPc_sub hP [0, 1] rfl) rfl rfl rfl) rfl rfl hl.1 rfl (lv_room (Nat.le_of_ble_eq_true rfl)) dX8_worstOf_140 ⟨Nat.le_of_ble_eq_true rfl, Nat.le_of_ble_eq_true rfl⟩) (fun v_3 hv_3 => ?_)
          obtain rfl := hv_3
          refine W.eq (g2 := F0 m 143 ls [.int (nI q1)]) rfl ?_
          refine lv_istore (lv' := [(7, .int (nI q1)), (0, .ref z), (1, .long (lN sm)), (3, .int (nI (pcN sm 64))), (4, .long (lN bm)), (6, .int (nI le))]) hx hb dX8_worstOf_143 hl (by decide) rfl (fun ls hl => ?_)
          refine lv_aload_n hx hb dX8_worstOf_145 rfl (lv_at hl 1 rfl) ?_
          refine lv_lload_n hx hb dX8_worstOf_146 rfl (lv_at hl 2 rfl) ?_
          refine lv_lload hx hb dX8_worstOf_147 (lv_at hl 4 rfl) ?_
          refine lv_ldc2 (v := (-1)) hx hb hown (hts (.constantLong RX8 143 (-1)) (by decide +kernel)) dX8_worstOf_149 ?_
          refine lv_lxor hx hb dX8_worstOf_152 ?_
          refine lv_land hx hb dX8_worstOf_153 ?_
          refine lv_topl (fun nv_4 ev_4 => ?_)
          obtain rfl : nv_4 = lN (andn sm bm) := ev_4.trans (lx_andn hs (by rw [eb, hwq]; exact ws1_lt sm rr _ T))
          refine kGoR (va_runV (As := [.long (lN (andn sm bm))]) (rest := []) ⟨hx, hb, hml, hown, hts⟩ (c_X8_wo_1 l D cI cJ cZ cO z a0 a1 a2 a3 a4 a5 a6 a7 a8 a9 a10 a11 a12 a13 a14 a15 T P pa kn rn ln th wt rr (andn sm bm) fd q2 (by first | assumption | omega | decide) (Nat.lt_of_le_of_lt (andn_le _ _) hs) (by rw [eb]; exact w3) (hrr) (by omega) (by rw [eb]; omega) (by rw [hq2, eb])) (cwV 1 hts gX8_worstOf_X8_worstOf rfl rfl rfl (by decide +kernel) ⟨Nat.le_of_ble_eq_true rfl, Nat.le_of_ble_eq_true rfl⟩) (kPreVR (ci := 9) (q0 := 0) hK (kPc_sub hP [0, 1] rfl) rfl rfl rfl) rfl rfl hl.1 rfl (lv_room (Nat.le_of_ble_eq_true rfl)) dX8_worstOf_154 ⟨Nat.le_of_ble_eq_true rfl, Nat.le_of_ble_eq_true rfl⟩) (fun v_5 hv_5 => ?_)
          obtain rfl := hv_5
          refine W.eq (g2 := F0 m 157 ls [.int (nI q2)]) rfl ?_
          refine lv_istore (lv' := [(8, .int (nI q2)), (7, .int (nI q1)), (0, .ref z), (1, .long (lN sm)), (3, .int (nI (pcN sm 64))), (4, .long (lN bm)), (6, .int (nI le))]) hx hb dX8_worstOf_157 hl (by decide) rfl (fun ls hl => ?_)
          refine lv_iconst (v := 1) hx hb dX8_worstOf_159 (by decide) ?_
          refine lv_iload hx hb dX8_worstOf_160 (lv_at hl 1 rfl) ?_
          refine lv_iload hx hb dX8_worstOf_162 (lv_at hl 0 rfl) ?_
          refine lv_icmp_le (tgt := 172) hx hb dX8_worstOf_164 (by decide) (fun c_164 => ?_) (fun c_164 => ?_)
          · skip
            have nc_164 : q1 ≤ q2 := (nI_leI (a := q1) (b := q2) (by omega) (by omega)).mp c_164
            have hfin : (1 : Int32) + nI q2 = nI q := by rw [hfin0, show max q2 q1 = q2 by omega]; exact nI_add 1 _
            refine lv_iload hx hb dX8_worstOf_172 (lv_at hl 0 rfl) ?_
            refine lv_iadd hx hb dX8_worstOf_174 ?_
            exact kRetIr hx hb hr hlk dX8_worstOf_175 (kpi (by first | (rw [hq, hwe.1 (by omega)]; rfl) | (rw [hfin]; done)))
          · skip
            have nc_164 : ¬ q1 ≤ q2 := (not_congr (nI_leI (a := q1) (b := q2) (by omega) (by omega))).mp c_164
            have hfin : (1 : Int32) + nI q1 = nI q := by rw [hfin0, show max q2 q1 = q1 by omega]; exact nI_add 1 _
            refine lv_iload hx hb dX8_worstOf_167 (lv_at hl 1 rfl) ?_
            refine lv_goto (tgt := 174) hx hb dX8_worstOf_169 (by decide) ?_
            refine lv_iadd hx hb dX8_worstOf_174 ?_
            exact kRetIr hx hb hr hlk dX8_worstOf_175 (kpi (by first | (rw [hq, hwe.1 (by omega)]; rfl) | (rw [hfin]; done)))
        · skip
          have nc_132 : le = (pcN sm 64) := (nI_eq (a := le) (b := pcN sm 64) (by omega) (by omega)).mp c_132
          refine lv_iconst (v := 0) hx hb dX8_worstOf_135 (by decide) ?_
          exact kRetIr hx hb hr hlk dX8_worstOf_136 (kpi (by first | (rw [hq, hwe.1 (by omega)]; rfl) | (rw [hfin]; done)))
      · skip
        have nc_20 : ¬ T ≤ t := (not_congr (nI_leI (a := T) (b := t) (by omega) (by omega))).mp c_20
        refine lv_lconst (v := 0) hx hb dX8_worstOf_23 (by decide) ?_
        refine lv_topl (fun nv_6 ev_6 => ?_)
        obtain rfl : nv_6 = lN 0 := ev_6.trans (rfl)
        refine lv_lstore (lv' := [(8, .long (lN 0)), (0, .ref z), (1, .long (lN sm)), (3, .int (nI (pcN sm 64))), (4, .long (lN bm)), (6, .int (nI le)), (7, .int (nI t))]) hx hb dX8_worstOf_24 hl (by decide) rfl (fun ls hl => ?_)
        refine lv_iconst (v := 0) hx hb dX8_worstOf_26 (by decide) ?_
        refine lv_istore (lv' := [(10, .int 0), (8, .long (lN 0)), (0, .ref z), (1, .long (lN sm)), (3, .int (nI (pcN sm 64))), (4, .long (lN bm)), (6, .int (nI le)), (7, .int (nI t))]) hx hb dX8_worstOf_27 hl (by decide) rfl (fun ls hl => ?_)
        have hloop_29 : ∀ (fu : Nat) (k : Nat) (hm : Nat), 64 - k < fu → k ≤ 64 → hm = hsF sm rr t k → ∀ ls : Array Slot, lv_has ls 12 [(0, .ref z), (1, .long (lN sm)), (3, .int (nI (pcN sm 64))), (4, .long (lN bm)), (6, .int (nI le)), (7, .int (nI t)), (8, .long (lN hm)), (10, .int (nI k))] → W p l e ({ frames := 13, cells := 0, slots := 0, locals := 393 }) s m args below meth c s.heap [] 0 0 (MQ below (kQr (fun rv_ => rv_ = some (.int (nI q)))) args s 0 0 (fun _ => False)) (F0 m 29 ls []) := by
          intro fu
          induction fu with
          | zero => intro k hm hmu; exact absurd hmu (Nat.not_lt_zero _)
          | succ fu ih_29 =>
            intro k hm hmu_29 hk eh ls hl
            refine lv_iload hx hb dX8_worstOf_29 (lv_at hl 7 rfl) ?_
            refine lv_bipush (v := 64) hx hb dX8_worstOf_31 (by decide) ?_
            refine lv_icmp_ge (tgt := 78) hx hb dX8_worstOf_33 (by decide) (fun c_33 => ?_) (fun c_33 => ?_)
            · skip
              have nc_33 : 64 ≤ k := (nI_leI (a := 64) (b := k) (by omega) (by omega)).mp c_33
              have e12 : k = 64 := by omega
              rw [show (lN hm : Int64) = lN (hsF sm rr t 64) from by rw [eh, e12]] at hl
              refine lv_lload hx hb dX8_worstOf_78 (lv_at hl 6 rfl) ?_
              refine kGoR (va_runS (As := [.long (lN (hsF sm rr t 64))]) (rest := []) ⟨hx, hb, hml, hown, hts⟩ (c_J13_bitCount_95d88 l D cI cJ cZ cO (hsF sm rr t 64) (hs_lt64 sm rr t (Nat.le_refl _))) (va_cwS 1 hts gX8_worstOf_J13_bitCount_95d88 rfl rfl rfl (by decide +kernel) ⟨Nat.le_of_ble_eq_true rfl, Nat.le_of_ble_eq_true rfl⟩) (kPreSR hK (kPc_sub hP [] rfl)) rfl rfl hl.1 rfl (lv_room (Nat.le_of_ble_eq_true rfl)) dX8_worstOf_80 ⟨Nat.le_of_ble_eq_true rfl, Nat.le_of_ble_eq_true rfl⟩) (fun v_7 hv_7 => ?_)
              obtain rfl := hv_7
              refine W.eq (g2 := F0 m 83 ls [.int (nI (pcN (hsF sm rr t 64) 64))]) rfl ?_
              refine lv_istore (lv' := [(10, .int (nI (pcN (hsF sm rr t 64) 64))), (0, .ref z), (1, .long (lN sm)), (3, .int (nI (pcN sm 64))), (4, .long (lN bm)), (6, .int (nI le)), (7, .int (nI t)), (8, .long (lN (hsF sm rr t 64)))]) hx hb dX8_worstOf_83 hl (by decide) rfl (fun ls hl => ?_)
              refine lv_iload hx hb dX8_worstOf_85 (lv_at hl 0 rfl) ?_
              refine lv_iload_n hx hb dX8_worstOf_87 rfl (lv_at hl 3 rfl) ?_
              refine lv_iload hx hb dX8_worstOf_88 (lv_at hl 0 rfl) ?_
              refine lv_isub hx hb dX8_worstOf_90 ?_
              refine lv_topi (fun nv_8 ev_8 => ?_)
              obtain rfl : nv_8 = nI (pcN sm 64 - pcN (hsF sm rr t 64) 64) := ev_8.trans (pk_sub hmle)
              refine lv_icmp_le (tgt := 99) hx hb dX8_worstOf_91 (by decide) (fun c_91 => ?_) (fun c_91 => ?_)
              · skip
                have nc_91 : (pcN (hsF sm rr t 64) 64) ≤ (pcN sm 64 - pcN (hsF sm rr t 64) 64) := (nI_leI (a := pcN (hsF sm rr t 64) 64) (b := pcN sm 64 - pcN (hsF sm rr t 64) 64) (by omega) (by omega)).mp c_91
                refine lv_iload_n hx hb dX8_worstOf_99 rfl (lv_at hl 3 rfl) ?_
                refine lv_iload hx hb dX8_worstOf_100 (lv_at hl 0 rfl) ?_
                refine lv_isub hx hb dX8_worstOf_102 ?_
                refine lv_topi (fun nv_9 ev_9 => ?_)
                obtain rfl : nv_9 = nI (pcN sm 64 - pcN (hsF sm rr t 64) 64) := ev_9.trans (pk_sub hmle)
                refine lv_istore (lv' := [(11, .int (nI (pcN sm 64 - pcN (hsF sm rr t 64) 64))), (10, .int (nI (pcN (hsF sm rr t 64) 64))), (0, .ref z), (1, .long (lN sm)), (3, .int (nI (pcN sm 64))), (4, .long (lN bm)), (6, .int (nI le)), (7, .int (nI t)), (8, .long (lN (hsF sm rr t 64)))]) hx hb dX8_worstOf_103 hl (by decide) rfl (fun ls hl => ?_)
                refine lv_iload hx hb dX8_worstOf_105 (lv_at hl 0 rfl) ?_
                refine lv_iload hx hb dX8_worstOf_107 (lv_at hl 6 rfl) ?_
                refine lv_icmp_lt (tgt := 115) hx hb dX8_worstOf_109 (by decide) (fun c_109 => ?_) (fun c_109 => ?_)
                · skip
                  have nc_109 : (pcN sm 64 - pcN (hsF sm rr t 64) 64) < le := (nI_ltI (a := pcN sm 64 - pcN (hsF sm rr t 64) 64) (b := le) (by omega) (by omega)).mp c_109
                  refine lv_iload hx hb dX8_worstOf_115 (lv_at hl 0 rfl) ?_
                  refine lv_istore (lv' := [(6, .int (nI (pcN sm 64 - pcN (hsF sm rr t 64) 64))), (11, .int (nI (pcN sm 64 - pcN (hsF sm rr t 64) 64))), (10, .int (nI (pcN (hsF sm rr t 64) 64))), (0, .ref z), (1, .long (lN sm)), (3, .int (nI (pcN sm 64))), (4, .long (lN bm)), (7, .int (nI t)), (8, .long (lN (hsF sm rr t 64)))]) hx hb dX8_worstOf_117 hl (by decide) rfl (fun ls hl => ?_)
                  refine lv_lload hx hb dX8_worstOf_119 (lv_at hl 8 rfl) ?_
                  refine lv_lstore (lv' := [(4, .long (lN (hsF sm rr t 64))), (6, .int (nI (pcN sm 64 - pcN (hsF sm rr t 64) 64))), (11, .int (nI (pcN sm 64 - pcN (hsF sm rr t 64) 64))), (10, .int (nI (pcN (hsF sm rr t 64) 64))), (0, .ref z), (1, .long (lN sm)), (3, .int (nI (pcN sm 64))), (7, .int (nI t)), (8, .long (lN (hsF sm rr t 64)))]) hx hb dX8_worstOf_121 hl (by decide) rfl (fun ls hl => ?_)
                  refine lv_iinc (v := nI (t + 1)) (lv' := [(7, .int (nI (t + 1))), (4, .long (lN (hsF sm rr t 64))), (6, .int (nI (pcN sm 64 - pcN (hsF sm rr t 64) 64))), (11, .int (nI (pcN sm 64 - pcN (hsF sm rr t 64) 64))), (10, .int (nI (pcN (hsF sm rr t 64) 64))), (0, .ref z), (1, .long (lN sm)), (3, .int (nI (pcN sm 64))), (8, .long (lN (hsF sm rr t 64)))]) hx hb dX8_worstOf_123 hl (k := 7) rfl (nI_1 _) (by decide) rfl (fun ls hl => ?_)
                  refine lv_goto (tgt := 14) hx hb dX8_worstOf_126 (by decide) ?_
                  exact ih_14  (t + 1) (hsF sm rr t 64) (pcN sm 64 - pcN (hsF sm rr t 64) 64) (by omega) (by first | exact Nat.zero_le _ | omega) (by first | (subst eb; subst el; simp [wsF, moreW, c_20, nc_20, c_33, nc_33, c_91, nc_91, c_109, nc_109]; done) | (subst eb; subst el; simp [wsF, moreW, c_20, nc_20, c_33, nc_33, c_91, nc_91, c_109, nc_109]; omega)) (by first | (subst eb; subst el; simp [wsF, moreW, c_20, nc_20, c_33, nc_33, c_91, nc_91, c_109, nc_109]; done) | (subst eb; subst el; simp [wsF, moreW, c_20, nc_20, c_33, nc_33, c_91, nc_91, c_109, nc_109]; omega)) _ (lv_sub hl [5, 6, 7, 1, 2, 0] rfl)
                · skip
                  have nc_109 : ¬ (pcN sm 64 - pcN (hsF sm rr t 64) 64) < le := (not_congr (nI_ltI (a := pcN sm 64 - pcN (hsF sm rr t 64) 64) (b := le) (by omega) (by omega))).mp c_109
                  refine lv_goto (tgt := 123) hx hb dX8_worstOf_112 (by decide) ?_
                  refine lv_iinc (v := nI (t + 1)) (lv' := [(7, .int (nI (t + 1))), (11, .int (nI (pcN sm 64 - pcN (hsF sm rr t 64) 64))), (10, .int (nI (pcN (hsF sm rr t 64) 64))), (0, .ref z), (1, .long (lN sm)), (3, .int (nI (pcN sm 64))), (4, .long (lN bm)), (6, .int (nI le)), (8, .long (lN (hsF sm rr t 64)))]) hx hb dX8_worstOf_123 hl (k := 7) rfl (nI_1 _) (by decide) rfl (fun ls hl => ?_)
                  refine lv_goto (tgt := 14) hx hb dX8_worstOf_126 (by decide) ?_
                  exact ih_14  (t + 1) bm le (by omega) (by first | exact Nat.zero_le _ | omega) (by first | (subst eb; subst el; simp [wsF, moreW, c_20, nc_20, c_33, nc_33, c_91, nc_91, c_109, nc_109]; done) | (subst eb; subst el; simp [wsF, moreW, c_20, nc_20, c_33, nc_33, c_91, nc_91, c_109, nc_109]; omega)) (by first | (subst eb; subst el; simp [wsF, moreW, c_20, nc_20, c_33, nc_33, c_91, nc_91, c_109, nc_109]; done) | (subst eb; subst el; simp [wsF, moreW, c_20, nc_20, c_33, nc_33, c_91, nc_91, c_109, nc_109]; omega)) _ (lv_sub hl [3, 4, 5, 6, 7, 0] rfl)
              · skip
                have nc_91 : ¬ (pcN (hsF sm rr t 64) 64) ≤ (pcN sm 64 - pcN (hsF sm rr t 64) 64) := (not_congr (nI_leI (a := pcN (hsF sm rr t 64) 64) (b := pcN sm 64 - pcN (hsF sm rr t 64) 64) (by omega) (by omega))).mp c_91
                refine lv_iload hx hb dX8_worstOf_94 (lv_at hl 0 rfl) ?_
                refine lv_goto (tgt := 103) hx hb dX8_worstOf_96 (by decide) ?_
                refine lv_istore (lv' := [(11, .int (nI (pcN (hsF sm rr t 64) 64))), (10, .int (nI (pcN (hsF sm rr t 64) 64))), (0, .ref z), (1, .long (lN sm)), (3, .int (nI (pcN sm 64))), (4, .long (lN bm)), (6, .int (nI le)), (7, .int (nI t)), (8, .long (lN (hsF sm rr t 64)))]) hx hb dX8_worstOf_103 hl (by decide) rfl (fun ls hl => ?_)
                refine lv_iload hx hb dX8_worstOf_105 (lv_at hl 0 rfl) ?_
                refine lv_iload hx hb dX8_worstOf_107 (lv_at hl 6 rfl) ?_
                refine lv_icmp_lt (tgt := 115) hx hb dX8_worstOf_109 (by decide) (fun c_109 => ?_) (fun c_109 => ?_)
                · skip
                  have nc_109 : (pcN (hsF sm rr t 64) 64) < le := (nI_ltI (a := pcN (hsF sm rr t 64) 64) (b := le) (by omega) (by omega)).mp c_109
                  refine lv_iload hx hb dX8_worstOf_115 (lv_at hl 0 rfl) ?_
                  refine lv_istore (lv' := [(6, .int (nI (pcN (hsF sm rr t 64) 64))), (11, .int (nI (pcN (hsF sm rr t 64) 64))), (10, .int (nI (pcN (hsF sm rr t 64) 64))), (0, .ref z), (1, .long (lN sm)), (3, .int (nI (pcN sm 64))), (4, .long (lN bm)), (7, .int (nI t)), (8, .long (lN (hsF sm rr t 64)))]) hx hb dX8_worstOf_117 hl (by decide) rfl (fun ls hl => ?_)
                  refine lv_lload hx hb dX8_worstOf_119 (lv_at hl 8 rfl) ?_
                  refine lv_lstore (lv' := [(4, .long (lN (hsF sm rr t 64))), (6, .int (nI (pcN (hsF sm rr t 64) 64))), (11, .int (nI (pcN (hsF sm rr t 64) 64))), (10, .int (nI (pcN (hsF sm rr t 64) 64))), (0, .ref z), (1, .long (lN sm)), (3, .int (nI (pcN sm 64))), (7, .int (nI t)), (8, .long (lN (hsF sm rr t 64)))]) hx hb dX8_worstOf_121 hl (by decide) rfl (fun ls hl => ?_)
                  refine lv_iinc (v := nI (t + 1)) (lv' := [(7, .int (nI (t + 1))), (4, .long (lN (hsF sm rr t 64))), (6, .int (nI (pcN (hsF sm rr t 64) 64))), (11, .int (nI (pcN (hsF sm rr t 64) 64))), (10, .int (nI (pcN (hsF sm rr t 64) 64))), (0, .ref z), (1, .long (lN sm)), (3, .int (nI (pcN sm 64))), (8, .long (lN (hsF sm rr t 64)))]) hx hb dX8_worstOf_123 hl (k := 7) rfl (nI_1 _) (by decide) rfl (fun ls hl => ?_)
                  refine lv_goto (tgt := 14) hx hb dX8_worstOf_126 (by decide) ?_
                  exact ih_14  (t + 1) (hsF sm rr t 64) (pcN (hsF sm rr t 64) 64) (by omega) (by first | exact Nat.zero_le _ | omega) (by first | (subst eb; subst el; simp [wsF, moreW, c_20, nc_20, c_33, nc_33, c_91, nc_91, c_109, nc_109]; done) | (subst eb; subst el; simp [wsF, moreW, c_20, nc_20, c_33, nc_33, c_91, nc_91, c_109, nc_109]; omega)) (by first | (subst eb; subst el; simp [wsF, moreW, c_20, nc_20, c_33, nc_33, c_91, nc_91, c_109, nc_109]; done) | (subst eb; subst el; simp [wsF, moreW, c_20, nc_20, c_33, nc_33, c_91, nc_91, c_109, nc_109]; omega)) _ (lv_sub hl [5, 6, 7, 1, 2, 0] rfl)
                · skip
                  have nc_109 : ¬ (pcN (hsF sm rr t 64) 64) < le := (not_congr (nI_ltI (a := pcN (hsF sm rr t 64) 64) (b := le) (by omega) (by omega))).mp c_109
                  refine lv_goto (tgt := 123) hx hb dX8_worstOf_112 (by decide) ?_
                  refine lv_iinc (v := nI (t + 1)) (lv' := [(7, .int (nI (t + 1))), (11, .int (nI (pcN (hsF sm rr t 64) 64))), (10, .int (nI (pcN (hsF sm rr t 64) 64))), (0, .ref z), (1, .long (lN sm)), (3, .int (nI (pcN sm 64))), (4, .long (lN bm)), (6, .int (nI le)), (8, .long (lN (hsF sm rr t 64)))]) hx hb dX8_worstOf_123 hl (k := 7) rfl (nI_1 _) (by decide) rfl (fun ls hl => ?_)
                  refine lv_goto (tgt := 14) hx hb dX8_worstOf_126 (by decide) ?_
                  exact ih_14  (t + 1) bm le (by omega) (by first | exact Nat.zero_le _ | omega) (by first | (subst eb; subst el; simp [wsF, moreW, c_20, nc_20, c_33, nc_33, c_91, nc_91, c_109, nc_109]; done) | (subst eb; subst el; simp [wsF, moreW, c_20, nc_20, c_33, nc_33, c_91, nc_91, c_109, nc_109]; omega)) (by first | (subst eb; subst el; simp [wsF, moreW, c_20, nc_20, c_33, nc_33, c_91, nc_91, c_109, nc_109]; done) | (subst eb; subst el; simp [wsF, moreW, c_20, nc_20, c_33, nc_33, c_91, nc_91, c_109, nc_109]; omega)) _ (lv_sub hl [3, 4, 5, 6, 7, 0] rfl)
            · skip
              have nc_33 : ¬ 64 ≤ k := (not_congr (nI_leI (a := 64) (b := k) (by omega) (by omega))).mp c_33
              refine lv_lload_n hx hb dX8_worstOf_36 rfl (lv_at hl 1 rfl) ?_
              refine lv_iload hx hb dX8_worstOf_37 (lv_at hl 7 rfl) ?_
              refine lv_lshr hx hb dX8_worstOf_39 rfl ?_
              refine lv_lconst (v := 1) hx hb dX8_worstOf_40 (by decide) ?_
              refine lv_land hx hb dX8_worstOf_41 ?_
              refine lv_topl (fun nv_10 ev_10 => ?_)
              obtain rfl : nv_10 = lN (if sm.testBit k then 1 else 0) := ev_10.trans (lx_bit (by omega))
              refine lv_lconst (v := 1) hx hb dX8_worstOf_42 (by decide) ?_
              refine W.lcmp hx hb dX8_worstOf_43 ?_
              refine lv_if_ne (tgt := 72) hx hb dX8_worstOf_44 (by decide) (fun c_44 => ?_) (fun c_44 => ?_)
              · skip
                have c_44b : sm.testBit k = false := by cases hz : sm.testBit k with | false => rfl | true => exact absurd (lx_ne.mpr hz) c_44
                refine lv_iinc (v := nI (k + 1)) (lv' := [(10, .int (nI (k + 1))), (0, .ref z), (1, .long (lN sm)), (3, .int (nI (pcN sm 64))), (4, .long (lN bm)), (6, .int (nI le)), (7, .int (nI t)), (8, .long (lN hm))]) hx hb dX8_worstOf_72 hl (k := 7) rfl (nI_1 _) (by decide) rfl (fun ls hl => ?_)
                refine lv_goto (tgt := 29) hx hb dX8_worstOf_75 (by decide) ?_
                exact ih_29  (k + 1) hm (by omega) (by first | exact Nat.zero_le _ | omega) (by subst eh; simp [hsF, c_20, nc_20, c_33, nc_33, c_44, c_44b]) _ (lv_sub hl [1, 2, 3, 4, 5, 6, 7, 0] rfl)
              · skip
                have c_44b : sm.testBit k = true := lx_ne.mp c_44
                refine lv_aload_n hx hb dX8_worstOf_47 rfl (lv_at hl 0 rfl) ?_
                refine va_get (D := D) (ci := 9) (v := .ref a15) (C := RX8) (T := TX8) (N := 24) hx hb hts hi_X8 hown hK.1 hP 0 rfl rfl 23 (by decide) hw_f60 (fun _ h9 => h9) rfl dX8_worstOf_48 ?_
                refine lv_iload hx hb dX8_worstOf_51 (lv_at hl 7 rfl) ?_
                refine va_iald hx hb hK.1 hP 1 0 rfl rfl (vp_in_nI (by omega) (by omega)) dX8_worstOf_53 ?_
                refine lv_topi (fun nv_11 ev_11 => ?_)
                obtain rfl : nv_11 = (nF rr) k := by rw [ev_11, nI_clamp (by omega)]
                refine lv_topi (fun nv_12 ev_12 => ?_)
                obtain rfl : nv_12 = nI (rr k) := ev_12.trans (rfl)
                refine lv_iload hx hb dX8_worstOf_54 (lv_at hl 5 rfl) ?_
                refine lv_ishr hx hb dX8_worstOf_56 ?_
                refine lv_iconst (v := 1) hx hb dX8_worstOf_57 (by decide) ?_
                refine lv_iand hx hb dX8_worstOf_58 ?_
                refine lv_topi (fun nv_13 ev_13 => ?_)
                obtain rfl : nv_13 = k01 ((rr k).testBit t) := ev_13.trans (hx_k01 (by have := hrr k; omega) (by omega))
                refine lv_iconst (v := 1) hx hb dX8_worstOf_59 (by decide) ?_
                refine lv_icmp_ne (tgt := 72) hx hb dX8_worstOf_60 (by decide) (fun c_60 => ?_) (fun c_60 => ?_)
                · skip
                  have c_60b : (rr k).testBit t = false := by cases hz : (rr k).testBit t with | false => rfl | true => exact absurd (by rw [hz]; rfl) c_60
                  refine lv_iinc (v := nI (k + 1)) (lv' := [(10, .int (nI (k + 1))), (0, .ref z), (1, .long (lN sm)), (3, .int (nI (pcN sm 64))), (4, .long (lN bm)), (6, .int (nI le)), (7, .int (nI t)), (8, .long (lN hm))]) hx hb dX8_worstOf_72 hl (k := 7) rfl (nI_1 _) (by decide) rfl (fun ls hl => ?_)
                  refine lv_goto (tgt := 29) hx hb dX8_worstOf_75 (by decide) ?_
                  exact ih_29  (k + 1) hm (by omega) (by first | exact Nat.zero_le _ | omega) (by subst eh; simp [hsF, c_20, nc_20, c_33, nc_33, c_44, c_44b, c_60, c_60b]) _ (lv_sub hl [1, 2, 3, 4, 5, 6, 7, 0] rfl)
                · skip
                  have c_60b : (rr k).testBit t = true := by cases hz : (rr k).testBit t with | true => rfl | false => exact absurd c_60 (by rw [hz]; decide)
                  refine lv_lload hx hb dX8_worstOf_63 (lv_at hl 6 rfl) ?_
                  refine lv_lconst (v := 1) hx hb dX8_worstOf_65 (by decide) ?_
                  refine lv_iload hx hb dX8_worstOf_66 (lv_at hl 7 rfl) ?_
                  refine lv_lshl hx hb dX8_worstOf_68 rfl ?_
                  refine lv_topl (fun nv_14 ev_14 => ?_)
                  obtain rfl : nv_14 = lN (2 ^ k) := ev_14.trans (lx_pow (by omega))
                  refine lv_lor hx hb dX8_worstOf_69 ?_
                  refine lv_topl (fun nv_15 ev_15 => ?_)
                  obtain rfl : nv_15 = lN (hm ||| 2 ^ k) := ev_15.trans (lx_or (by rw [eh]; exact hs_lt64 sm rr t (by omega)) (by omega))
                  refine lv_lstore (lv' := [(8, .long (lN (hm ||| 2 ^ k))), (0, .ref z), (1, .long (lN sm)), (3, .int (nI (pcN sm 64))), (4, .long (lN bm)), (6, .int (nI le)), (7, .int (nI t)), (10, .int (nI k))]) hx hb dX8_worstOf_70 hl (by decide) rfl (fun ls hl => ?_)
                  refine lv_iinc (v := nI (k + 1)) (lv' := [(10, .int (nI (k + 1))), (8, .long (lN (hm ||| 2 ^ k))), (0, .ref z), (1, .long (lN sm)), (3, .int (nI (pcN sm 64))), (4, .long (lN bm)), (6, .int (nI le)), (7, .int (nI t))]) hx hb dX8_worstOf_72 hl (k := 7) rfl (nI_1 _) (by decide) rfl (fun ls hl => ?_)
                  refine lv_goto (tgt := 29) hx hb dX8_worstOf_75 (by decide) ?_
                  exact ih_29  (k + 1) (hm ||| 2 ^ k) (by omega) (by first | exact Nat.zero_le _ | omega) (by subst eh; simp [hsF, c_20, nc_20, c_33, nc_33, c_44, c_44b, c_60, c_60b]) _ (lv_sub hl [2, 3, 4, 5, 6, 7, 1, 0] rfl)
        exact hloop_29 ((64 - 0) + 1) 0 0 (Nat.lt_succ_self _) (by exact Nat.zero_le _) (by rfl) _ (lv_sub hl [2, 3, 4, 5, 6, 7, 1, 0] rfl)
  exact hloop_14 ((T - 0) + 1) 0 0 (pcN sm 64) (Nat.lt_succ_self _) (by exact Nat.zero_le _) (by rfl) (by rfl) _ (lv_sub hl [4, 5, 3, 2, 1, 0] rfl)
