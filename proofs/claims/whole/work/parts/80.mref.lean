/-! ===== the reference: way and most where they refuse ===== -/
theorem k01_of_f {b : Bool} (h : b = false) : k01 b = 0 := by rw [h]; rfl

set_option maxHeartbeats 4000000 in
set_option maxRecDepth 100000 in
theorem c_X8_way_b (l : Launch) (D : va_G) (cI cJ cZ cO : ClassId) (z : Nat) (a0 : Nat) (a1 : Nat) (a2 : Nat) (a3 : Nat) (a4 : Nat) (a5 : Nat) (a6 : Nat) (a7 : Nat) (a8 : Nat) (a9 : Nat) (a10 : Nat) (a11 : Nat) (a12 : Nat) (a13 : Nat) (a14 : Nat) (a15 : Nat) (T : Nat) (P : Nat) (pa : Int32) (rn : Nat) (ln : Nat) (th : Int32) (wt : Int32) (K : Nat) (im : Nat → Int32) (ne : Nat → Int32) (ei : Nat → Int32) (gi : Nat → Int32) (sk : Nat → Int32) (pg : Nat → Int32) (ro : Nat → Int32) (co : Nat → Int32) (st : Nat → Int32) (wi : Int32) (hno : areB T wi = false) : kC l D (kTY cI cJ cZ cO) yX8_way wsX8_way 4 96 0 0 [.ref z, .int wi] [(z, .inr (9, [.ref a0, .ref a1, .int (nI T), .ref a2, .ref a3, .ref a4, .ref a5, .ref a6, .int (nI P), .int pa, .int (nI K), .ref a7, .int (nI rn), .ref a8, .ref a9, .int (nI ln), .ref a10, .int th, .ref a11, .ref a12, .int wt, .ref a13, .ref a14, .ref a15])), (a1, .inl (cI, 12, .inl im)), (a2, .inl (cI, 14, .inl ne)), (a3, .inl (cI, 14, .inl ei)), (a4, .inl (cI, 14, .inl gi)), (a5, .inl (cI, 14, .inl sk)), (a6, .inl (cI, 14, .inl pg)), (a7, .inl (cI, 12, .inl ro)), (a11, .inl (cI, 4096, .inl co)), (a12, .inl (cI, 4096, .inl st))] (fun rv_ rw_ => rv_ = some (.int (-1)) ∧ rw_ = [(z, .inr (9, [.ref a0, .ref a1, .int (nI T), .ref a2, .ref a3, .ref a4, .ref a5, .ref a6, .int (nI P), .int pa, .int (nI K), .ref a7, .int (nI rn), .ref a8, .ref a9, .int (nI ln), .ref a10, .int 0, .ref a11, .ref a12, .int wt, .ref a13, .ref a14, .ref a15])), (a1, .inl (cI, 12, .inl im)), (a2, .inl (cI, 14, .inl ne)), (a3, .inl (cI, 14, .inl ei)), (a4, .inl (cI, 14, .inl gi)), (a5, .inl (cI, 14, .inl sk)), (a6, .inl (cI, 14, .inl pg)), (a7, .inl (cI, 12, .inl ro)), (a11, .inl (cI, 4096, .inl co)), (a12, .inl (cI, 4096, .inl st))]) := by
  refine kEnter (cc := cX8_way) (maxL := 6) (ret := (some .int)) (by decide) rfl (Nat.le_of_ble_eq_true rfl) ?_
  intro p e s m args below meth c hx hb hr hml hts hown hlk hnm hK hP hD hS hA ls hl
  have hl : lv_has ls 6 [(0, .ref z), (1, .int wi)] := hl
  have hw_f63 := hts (.fieldLink RX8 63 "WhatToReadModel" "thrown" "I") (by decide +kernel)
  have hi_X8 : ∀ w ∈ wsX80, w ∈ wsX8_way := by decide +kernel
  refine lv_aload_n hx hb dX8_way_0 rfl (lv_at hl 0 rfl) ?_
  refine lv_iconst (v := 0) hx hb dX8_way_1 (by decide) ?_
  refine va_put (D := D) (ci := 9) (v := .int 0) (ty := .int) (C := RX8) (T := TX8) (N := 24) hx hb hts hi_X8 tyX8 tyX8_ok nmX8 hown hK.1 hP hD hS 0 rfl rfl 17 (by decide) hw_f63 (fun _ h9 => h9) rfl (by decide +kernel) rfl rfl (Nat.le_of_ble_eq_true rfl) dX8_way_2 (fun H locs hP hD hS => ?_)
  have hP : va_P D vwCl [(z, .inr (9, [.ref a0, .ref a1, .int (nI T), .ref a2, .ref a3, .ref a4, .ref a5, .ref a6, .int (nI P), .int pa, .int (nI K), .ref a7, .int (nI rn), .ref a8, .ref a9, .int (nI ln), .ref a10, .int 0, .ref a11, .ref a12, .int wt, .ref a13, .ref a14, .ref a15])), (a1, .inl (cI, 12, .inl im)), (a2, .inl (cI, 14, .inl ne)), (a3, .inl (cI, 14, .inl ei)), (a4, .inl (cI, 14, .inl gi)), (a5, .inl (cI, 14, .inl sk)), (a6, .inl (cI, 14, .inl pg)), (a7, .inl (cI, 12, .inl ro)), (a11, .inl (cI, 4096, .inl co)), (a12, .inl (cI, 4096, .inl st))] H := hP
  have hD : va_D _ [(z, .inr (9, [.ref a0, .ref a1, .int (nI T), .ref a2, .ref a3, .ref a4, .ref a5, .ref a6, .int (nI P), .int pa, .int (nI K), .ref a7, .int (nI rn), .ref a8, .ref a9, .int (nI ln), .ref a10, .int 0, .ref a11, .ref a12, .int wt, .ref a13, .ref a14, .ref a15])), (a1, .inl (cI, 12, .inl im)), (a2, .inl (cI, 14, .inl ne)), (a3, .inl (cI, 14, .inl ei)), (a4, .inl (cI, 14, .inl gi)), (a5, .inl (cI, 14, .inl sk)), (a6, .inl (cI, 14, .inl pg)), (a7, .inl (cI, 12, .inl ro)), (a11, .inl (cI, 4096, .inl co)), (a12, .inl (cI, 4096, .inl st))] := hD
  refine lv_aload_n hx hb dX8_way_5 rfl (lv_at hl 0 rfl) ?_
  refine lv_iload_n hx hb dX8_way_6 rfl (lv_at hl 1 rfl) ?_
  refine kGoR (va_runV (As := [.int wi]) (rest := []) ⟨hx, hb, hml, hown, hts⟩ (c_X8_areBits l D cI cJ cZ cO z a0 a1 a2 a3 a4 a5 a6 a7 a8 a9 a10 a11 a12 a13 a14 a15 T P pa (nI K) rn ln 0 wt wi ) (cwV 1 hts gX8_way_X8_areBits rfl rfl rfl (by decide +kernel) ⟨Nat.le_of_ble_eq_true rfl, Nat.le_of_ble_eq_true rfl⟩) (kPreVR (ci := 9) (q0 := 0) hK (kPc_sub hP [0] rfl) rfl rfl rfl) rfl rfl hl.1 rfl (lv_room (Nat.le_of_ble_eq_true rfl)) dX8_way_7 ⟨Nat.le_of_ble_eq_true rfl, Nat.le_of_ble_eq_true rfl⟩) (fun v_1 hv_1 => ?_)
  obtain rfl := hv_1
  refine W.eq (g2 := F0 m 10 ls [.int (k01 (areB T wi))]) rfl ?_
  refine lv_if_ne (tgt := 15) hx hb dX8_way_10 (by decide) (fun c_10 => ?_) (fun c_10 => ?_)
  · exact absurd (k01_of_f hno) c_10
  · skip
    refine lv_iconst (v := (-1)) hx hb dX8_way_13 (by decide) ?_
    exact kRetI hx hb hr hlk dX8_way_14 hP hD hS (Nat.le_of_ble_eq_true rfl) (Nat.le_of_ble_eq_true rfl) ⟨rfl, rfl⟩

set_option maxHeartbeats 4000000 in
set_option maxRecDepth 100000 in
theorem c_X8_most_b (l : Launch) (D : va_G) (cI cJ cZ cO : ClassId) (z : Nat) (a0 : Nat) (a1 : Nat) (a2 : Nat) (a3 : Nat) (a4 : Nat) (a5 : Nat) (a6 : Nat) (a7 : Nat) (a8 : Nat) (a9 : Nat) (a10 : Nat) (a11 : Nat) (a12 : Nat) (a13 : Nat) (a14 : Nat) (a15 : Nat) (T : Nat) (P : Nat) (pa : Int32) (rn : Nat) (ln : Nat) (th : Int32) (wt : Int32) (K : Nat) (im : Nat → Int32) (ne : Nat → Int32) (ei : Nat → Int32) (gi : Nat → Int32) (sk : Nat → Int32) (pg : Nat → Int32) (wo : Nat → Int32) (ro : Nat → Int32) (co : Nat → Int32) (st : Nat → Int32) (go : Nat → Int32) (mi : Int32) (hno : withinB mi 0 10000 = false) : kC l D (kTY cI cJ cZ cO) yX8_most wsX8_most 3 68 0 0 [.ref z, .int mi] [(z, .inr (9, [.ref a0, .ref a1, .int (nI T), .ref a2, .ref a3, .ref a4, .ref a5, .ref a6, .int (nI P), .int pa, .int (nI K), .ref a7, .int (nI rn), .ref a8, .ref a9, .int (nI ln), .ref a10, .int th, .ref a11, .ref a12, .int wt, .ref a13, .ref a14, .ref a15])), (a1, .inl (cI, 12, .inl im)), (a2, .inl (cI, 14, .inl ne)), (a3, .inl (cI, 14, .inl ei)), (a4, .inl (cI, 14, .inl gi)), (a5, .inl (cI, 14, .inl sk)), (a6, .inl (cI, 14, .inl pg)), (a0, .inl (cI, 12, .inl wo)), (a7, .inl (cI, 12, .inl ro)), (a11, .inl (cI, 4096, .inl co)), (a12, .inl (cI, 4096, .inl st)), (a13, .inl (cZ, 4096, .inl go))] (fun rv_ rw_ => rv_ = some (.int (-1)) ∧ rw_ = [(z, .inr (9, [.ref a0, .ref a1, .int (nI T), .ref a2, .ref a3, .ref a4, .ref a5, .ref a6, .int (nI P), .int pa, .int (nI K), .ref a7, .int (nI rn), .ref a8, .ref a9, .int (nI ln), .ref a10, .int 0, .ref a11, .ref a12, .int wt, .ref a13, .ref a14, .ref a15])), (a1, .inl (cI, 12, .inl im)), (a2, .inl (cI, 14, .inl ne)), (a3, .inl (cI, 14, .inl ei)), (a4, .inl (cI, 14, .inl gi)), (a5, .inl (cI, 14, .inl sk)), (a6, .inl (cI, 14, .inl pg)), (a0, .inl (cI, 12, .inl wo)), (a7, .inl (cI, 12, .inl ro)), (a11, .inl (cI, 4096, .inl co)), (a12, .inl (cI, 4096, .inl st)), (a13, .inl (cZ, 4096, .inl go))]) := by
  refine kEnter (cc := cX8_most) (maxL := 9) (ret := (some .int)) (by decide) rfl (Nat.le_of_ble_eq_true rfl) ?_
  intro p e s m args below meth c hx hb hr hml hts hown hlk hnm hK hP hD hS hA ls hl
  have hl : lv_has ls 9 [(0, .ref z), (1, .int mi)] := hl
  have hw_f63 := hts (.fieldLink RX8 63 "WhatToReadModel" "thrown" "I") (by decide +kernel)
  have hi_X8 : ∀ w ∈ wsX80, w ∈ wsX8_most := by decide +kernel
  refine lv_aload_n hx hb dX8_most_0 rfl (lv_at hl 0 rfl) ?_
  refine lv_iconst (v := 0) hx hb dX8_most_1 (by decide) ?_
  refine va_put (D := D) (ci := 9) (v := .int 0) (ty := .int) (C := RX8) (T := TX8) (N := 24) hx hb hts hi_X8 tyX8 tyX8_ok nmX8 hown hK.1 hP hD hS 0 rfl rfl 17 (by decide) hw_f63 (fun _ h9 => h9) rfl (by decide +kernel) rfl rfl (Nat.le_of_ble_eq_true rfl) dX8_most_2 (fun H locs hP hD hS => ?_)
  have hP : va_P D vwCl [(z, .inr (9, [.ref a0, .ref a1, .int (nI T), .ref a2, .ref a3, .ref a4, .ref a5, .ref a6, .int (nI P), .int pa, .int (nI K), .ref a7, .int (nI rn), .ref a8, .ref a9, .int (nI ln), .ref a10, .int 0, .ref a11, .ref a12, .int wt, .ref a13, .ref a14, .ref a15])), (a1, .inl (cI, 12, .inl im)), (a2, .inl (cI, 14, .inl ne)), (a3, .inl (cI, 14, .inl ei)), (a4, .inl (cI, 14, .inl gi)), (a5, .inl (cI, 14, .inl sk)), (a6, .inl (cI, 14, .inl pg)), (a0, .inl (cI, 12, .inl wo)), (a7, .inl (cI, 12, .inl ro)), (a11, .inl (cI, 4096, .inl co)), (a12, .inl (cI, 4096, .inl st)), (a13, .inl (cZ, 4096, .inl go))] H := hP
  have hD : va_D _ [(z, .inr (9, [.ref a0, .ref a1, .int (nI T), .ref a2, .ref a3, .ref a4, .ref a5, .ref a6, .int (nI P), .int pa, .int (nI K), .ref a7, .int (nI rn), .ref a8, .ref a9, .int (nI ln), .ref a10, .int 0, .ref a11, .ref a12, .int wt, .ref a13, .ref a14, .ref a15])), (a1, .inl (cI, 12, .inl im)), (a2, .inl (cI, 14, .inl ne)), (a3, .inl (cI, 14, .inl ei)), (a4, .inl (cI, 14, .inl gi)), (a5, .inl (cI, 14, .inl sk)), (a6, .inl (cI, 14, .inl pg)), (a0, .inl (cI, 12, .inl wo)), (a7, .inl (cI, 12, .inl ro)), (a11, .inl (cI, 4096, .inl co)), (a12, .inl (cI, 4096, .inl st)), (a13, .inl (cZ, 4096, .inl go))] := hD
  refine lv_iload_n hx hb dX8_most_5 rfl (lv_at hl 1 rfl) ?_
  refine lv_iconst (v := 0) hx hb dX8_most_6 (by decide) ?_
  refine lv_sipush (v := 10000) hx hb dX8_most_7 (by decide) ?_
  refine kGoR (va_runS (As := [.int mi, .int 0, .int 10000]) (rest := []) ⟨hx, hb, hml, hown, hts⟩ (c_X8_in l D cI cJ cZ cO mi 0 10000 ) (va_cwS 3 hts gX8_most_X8_in rfl rfl rfl (by decide +kernel) ⟨Nat.le_of_ble_eq_true rfl, Nat.le_of_ble_eq_true rfl⟩) (kPreSR hK (kPc_sub hP [] rfl)) rfl rfl hl.1 rfl (lv_room (Nat.le_of_ble_eq_true rfl)) dX8_most_10 ⟨Nat.le_of_ble_eq_true rfl, Nat.le_of_ble_eq_true rfl⟩) (fun v_1 hv_1 => ?_)
  obtain rfl := hv_1
  refine W.eq (g2 := F0 m 13 ls [.int (k01 (withinB mi 0 10000))]) rfl ?_
  refine lv_if_ne (tgt := 18) hx hb dX8_most_13 (by decide) (fun c_13 => ?_) (fun c_13 => ?_)
  · exact absurd (k01_of_f hno) c_13
  · skip
    refine lv_iconst (v := (-1)) hx hb dX8_most_16 (by decide) ?_
    exact kRetI hx hb hr hlk dX8_most_17 hP hD hS (Nat.le_of_ble_eq_true rfl) (Nat.le_of_ble_eq_true rfl) ⟨rfl, rfl⟩
