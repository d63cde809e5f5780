/-! ===== the class: its constructors ===== -/
set_option maxHeartbeats 4000000 in
set_option maxRecDepth 100000 in
theorem c_Jxa1e45_init_da8c8 (l : Launch) (D : va_G) (cI cJ cZ cO : ClassId) (la : Nat) : kC l D (kTY cI cJ cZ cO) yJxa1e45_init_da8c8 wsJxa1e45_init_da8c8 1 12 0 0 [.ref la] [(la, .inr (0, [.int 0, .null, .int 0]))] (fun rv_ rw_ => rv_ = none ∧ rw_ = [(la, .inr (0, [.int 0, .null, .int 0]))]) := by
  refine kEnter (cc := cJxa1e45_init_da8c8) (maxL := 1) (ret := none) (by decide) rfl (Nat.le_of_ble_eq_true rfl) ?_
  intro p e s m args below meth c hx hb hr hml hts hown hlk hnm hK hP hD hS hA ls hl
  have hl : lv_has ls 1 [(0, .ref la)] := hl
  have hw_m1 := hts (.methodLink RJxa1e45 1 objectInit) (by decide +kernel)
  have hw_io := hts (.instanceMethod objectInit) (by decide +kernel)
  have hw_co := hts (.code objectInit ⟨#[0xb1]⟩ 1 none) (by decide +kernel)
  refine lv_aload_n hx hb dJxa1e45_init_da8c8_0 rfl (lv_at hl 0 rfl) ?_
  refine W.objInit hx hb hown hw_m1 hw_io hw_co rfl (by rw [hml]; exact hl.1) rfl dJxa1e45_init_da8c8_1 (Nat.le_of_ble_eq_true rfl) (Nat.le_of_ble_eq_true rfl) ?_
  refine W.eq (g2 := F0 m 4 ls []) rfl ?_
  exact kRetV hx hb hr hlk dJxa1e45_init_da8c8_4 hP hD hS (Nat.le_of_ble_eq_true rfl) (Nat.le_of_ble_eq_true rfl) ⟨rfl, rfl⟩

set_option maxHeartbeats 4000000 in
set_option maxRecDepth 100000 in
theorem c_Jxc12de_init_da8c8 (l : Launch) (D : va_G) (cI cJ cZ cO : ClassId) (la : Nat) : kC l D (kTY cI cJ cZ cO) yJxc12de_init_da8c8 wsJxc12de_init_da8c8 2 32 0 0 [.ref la] [(la, .inr (0, [.int 0, .null, .int 0]))] (fun rv_ rw_ => rv_ = none ∧ rw_ = [(la, .inr (0, [.int 0, .null, .int 0]))]) := by
  refine kEnter (cc := cJxc12de_init_da8c8) (maxL := 1) (ret := none) (by decide) rfl (Nat.le_of_ble_eq_true rfl) ?_
  intro p e s m args below meth c hx hb hr hml hts hown hlk hnm hK hP hD hS hA ls hl
  have hl : lv_has ls 1 [(0, .ref la)] := hl
  have hw_iJxa1e45 := hts (.initialized RJxa1e45) (by decide +kernel)
  have hw_m1 := hts (.methodLink RJxc12de 1 yJxa1e45_init_da8c8) (by decide +kernel)
  have hw_im_Jxa1e45_init_da8c8 := hts (.instanceMethod yJxa1e45_init_da8c8) (by decide +kernel)
  have hw_f7 := hts (.fieldLink RJxc12de 7 "java/util/AbstractList" "modCount" "I") (by decide +kernel)
  have hi_Jx4a65c : ∀ w ∈ wsJx4a65c0, w ∈ wsJxc12de_init_da8c8 := by decide +kernel
  refine lv_aload_n hx hb dJxc12de_init_da8c8_0 rfl (lv_at hl 0 rfl) ?_
  refine kGo (wc := [(la, .inr (0, [.int 0, .null, .int 0]))]) (wr := []) (va_runI (As := []) (rest := []) ⟨hx, hb, hml, hown, hts⟩ (c_Jxa1e45_init_da8c8 l D cI cJ cZ cO la  _) (cwI 0 hts gJxc12de_init_da8c8_Jxa1e45_init_da8c8 rfl rfl rfl hw_iJxa1e45 hw_m1 hw_im_Jxa1e45_init_da8c8 rfl (by decide +kernel) ⟨Nat.le_of_ble_eq_true rfl, Nat.le_of_ble_eq_true rfl⟩) (kPreS hK (kPc_sub hP [0] rfl) ((hD.sub [0] (by decide) rfl).weaken (fun _ _ _ _ => trivial))) rfl rfl hl.1 rfl (lv_room (Nat.le_of_ble_eq_true rfl)) dJxc12de_init_da8c8_1 ⟨Nat.le_of_ble_eq_true rfl, Nat.le_of_ble_eq_true rfl⟩) hP hD hS hA [0] [] rfl rfl (by decide) (by decide) (fun v_1 w_1 H locs hv_1 hP hD hS => ?_)
  obtain ⟨rfl, rfl⟩ := hv_1
  have hP : va_P D vwCl [(la, .inr (0, [.int 0, .null, .int 0]))] H := hP.sub [0] rfl
  have hD : va_D _ [(la, .inr (0, [.int 0, .null, .int 0]))] := hD.sub [0] (by decide) rfl
  refine W.eq (g2 := F0 m 4 ls []) rfl ?_
  refine lv_aload_n hx hb dJxc12de_init_da8c8_4 rfl (lv_at hl 0 rfl) ?_
  refine lv_iconst (v := 0) hx hb dJxc12de_init_da8c8_5 (by decide) ?_
  refine va_put (D := D) (ci := 0) (v := .int 0) (ty := .int) (C := RJx4a65c) (T := TJx4a65c) (N := 3) hx hb hts hi_Jx4a65c tyJx4a65c tyJx4a65c_ok nmJx4a65c hown hK.1 hP hD hS 0 rfl rfl 0 (by decide) hw_f7 (fun _ h9 => h9) rfl (by decide +kernel) rfl rfl (Nat.le_of_ble_eq_true rfl) dJxc12de_init_da8c8_6 (fun H locs hP hD hS => ?_)
  have hP : va_P D vwCl [(la, .inr (0, [.int 0, .null, .int 0]))] H := hP
  have hD : va_D _ [(la, .inr (0, [.int 0, .null, .int 0]))] := hD
  exact kRetV hx hb hr hlk dJxc12de_init_da8c8_9 hP hD hS (Nat.le_of_ble_eq_true rfl) (Nat.le_of_ble_eq_true rfl) ⟨rfl, rfl⟩

set_option maxHeartbeats 4000000 in
set_option maxRecDepth 100000 in
theorem c_Jx4a65c_init_da8c8 (l : Launch) (D : va_G) (cI cJ cZ cO : ClassId) (e0 : Nat) (mi : Nat) (la : Nat) : kCx l D (kTY cI cJ cZ cO) e0 mi yJx4a65c_init_da8c8 wsJx4a65c_init_da8c8 3 52 0 0 [.ref la] [(la, .inr (0, [.int 0, .null, .int 0]))] (fun rv_ rw_ => rv_ = none ∧ rw_ = [(la, .inr (0, [.int 0, .ref e0, .int 0]))]) := by
  refine kEnterX (cc := cJx4a65c_init_da8c8) (maxL := 1) (ret := none) (by decide) rfl (Nat.le_of_ble_eq_true rfl) ?_
  intro p e s m args below meth c hx hb hr hml hts hown hlk hnm hK hX hP hD hS hA ls hl
  have hl : lv_has ls 1 [(0, .ref la)] := hl
  have hw_iJxc12de := hts (.initialized RJxc12de) (by decide +kernel)
  have hw_m1 := hts (.methodLink RJx4a65c 1 yJxc12de_init_da8c8) (by decide +kernel)
  have hw_im_Jxc12de_init_da8c8 := hts (.instanceMethod yJxc12de_init_da8c8) (by decide +kernel)
  have hw_z39 := hts (.fieldLink RJx4a65c 39 "java/util/ArrayList" "DEFAULTCAPACITY_EMPTY_ELEMENTDATA" "[Ljava/lang/Object;") (by decide +kernel)
  have hw_f9 := hts (.fieldLink RJx4a65c 9 "java/util/ArrayList" "elementData" "[Ljava/lang/Object;") (by decide +kernel)
  have hi_Jx4a65c : ∀ w ∈ wsJx4a65c0, w ∈ wsJx4a65c_init_da8c8 := by decide +kernel
  refine lv_aload_n hx hb dJx4a65c_init_da8c8_0 rfl (lv_at hl 0 rfl) ?_
  refine kGo (wc := [(la, .inr (0, [.int 0, .null, .int 0]))]) (wr := []) (va_runI (As := []) (rest := []) ⟨hx, hb, hml, hown, hts⟩ (c_Jxc12de_init_da8c8 l D cI cJ cZ cO la  _) (cwI 0 hts gJx4a65c_init_da8c8_Jxc12de_init_da8c8 rfl rfl rfl hw_iJxc12de hw_m1 hw_im_Jxc12de_init_da8c8 rfl (by decide +kernel) ⟨Nat.le_of_ble_eq_true rfl, Nat.le_of_ble_eq_true rfl⟩) (kPreS hK (kPc_sub hP [0] rfl) ((hD.sub [0] (by decide) rfl).weaken (fun _ _ _ _ => trivial))) rfl rfl hl.1 rfl (lv_room (Nat.le_of_ble_eq_true rfl)) dJx4a65c_init_da8c8_1 ⟨Nat.le_of_ble_eq_true rfl, Nat.le_of_ble_eq_true rfl⟩) hP hD hS hA [0] [] rfl rfl (by decide) (by decide) (fun v_1 w_1 H locs hv_1 hP hD hS => ?_)
  obtain ⟨rfl, rfl⟩ := hv_1
  have hP : va_P D vwCl [(la, .inr (0, [.int 0, .null, .int 0]))] H := hP.sub [0] rfl
  have hD : va_D _ [(la, .inr (0, [.int 0, .null, .int 0]))] := hD.sub [0] (by decide) rfl
  refine W.eq (g2 := F0 m 4 ls []) rfl ?_
  refine lv_aload_n hx hb dJx4a65c_init_da8c8_4 rfl (lv_at hl 0 rfl) ?_
  refine va_gets hx hb hX.1 hS hown hw_z39 (fun _ h9 => h9) dJx4a65c_init_da8c8_5 ?_
  refine va_put (D := D) (ci := 0) (v := .ref e0) (ty := .array (.object "java/lang/Object")) (C := RJx4a65c) (T := TJx4a65c) (N := 3) hx hb hts hi_Jx4a65c tyJx4a65c tyJx4a65c_ok nmJx4a65c hown hK.1 hP hD hS 0 rfl rfl 1 (by decide) hw_f9 (fun _ h9 => h9) rfl (by decide +kernel) rfl rfl (Nat.le_of_ble_eq_true rfl) dJx4a65c_init_da8c8_8 (fun H locs hP hD hS => ?_)
  have hP : va_P D vwCl [(la, .inr (0, [.int 0, .ref e0, .int 0]))] H := hP
  have hD : va_D _ [(la, .inr (0, [.int 0, .ref e0, .int 0]))] := hD
  exact kRetV hx hb hr hlk dJx4a65c_init_da8c8_11 hP hD hS (Nat.le_of_ble_eq_true rfl) (Nat.le_of_ble_eq_true rfl) ⟨rfl, rfl⟩

set_option maxHeartbeats 4000000 in
set_option maxRecDepth 100000 in
theorem c_X3_init (l : Launch) (D : va_G) (cI cJ cZ cO : ClassId) (e0 : Nat) (mi : Nat) (h0 : Nat) : kCx l D (kTY cI cJ cZ cO) e0 mi yX3_init wsX3_init 4 72 1 3 [.ref h0] [(h0, .inr (4, [.null, .int 0]))] (fun rv_ rw_ => ∃ q_5 : Nat, rv_ = none ∧ rw_ = [(h0, .inr (4, [.ref q_5, .int 2])), (q_5, .inr (0, [.int 0, .ref e0, .int 0]))]) := by
  refine kEnterX (cc := cX3_init) (maxL := 1) (ret := none) (by decide) rfl (Nat.le_of_ble_eq_true rfl) ?_
  intro p e s m args below meth c hx hb hr hml hts hown hlk hnm hK hX hP hD hS hA ls hl
  have hl : lv_has ls 1 [(0, .ref h0)] := hl
  have hw_m3 := hts (.methodLink RX3 3 objectInit) (by decide +kernel)
  have hw_io := hts (.instanceMethod objectInit) (by decide +kernel)
  have hw_co := hts (.code objectInit ⟨#[0xb1]⟩ 1 none) (by decide +kernel)
  have hw_c9 := hts (.classLink RX3 9 RJx4a65c) (by decide +kernel)
  have hw_nJx4a65c := hts (.instantiable RJx4a65c 3) (by decide +kernel)
  have hw_iJx4a65c := hts (.initialized RJx4a65c) (by decide +kernel)
  have hi_Jx4a65c : ∀ w ∈ wsJx4a65c0, w ∈ wsX3_init := by decide +kernel
  have hw_m11 := hts (.methodLink RX3 11 yJx4a65c_init_da8c8) (by decide +kernel)
  have hw_im_Jx4a65c_init_da8c8 := hts (.instanceMethod yJx4a65c_init_da8c8) (by decide +kernel)
  have hw_f12 := hts (.fieldLink RX3 12 "WhatToRead$Shelf" "pieces" "Ljava/util/List;") (by decide +kernel)
  have hi_X3 : ∀ w ∈ wsX30, w ∈ wsX3_init := by decide +kernel
  have hw_f18 := hts (.fieldLink RX3 18 "WhatToRead$Shelf" "pace" "I") (by decide +kernel)
  refine lv_aload_n hx hb dX3_init_0 rfl (lv_at hl 0 rfl) ?_
  refine W.objInit hx hb hown hw_m3 hw_io hw_co rfl (by rw [hml]; exact hl.1) rfl dX3_init_1 (Nat.le_of_ble_eq_true rfl) (Nat.le_of_ble_eq_true rfl) ?_
  refine W.eq (g2 := F0 m 4 ls []) rfl ?_
  refine lv_aload_n hx hb dX3_init_4 rfl (lv_at hl 0 rfl) ?_
  -- new java/util/ArrayList
  refine va_new (ci := 0) (fs := [.int 0, .null, .int 0]) (C := RJx4a65c) (T := TJx4a65c) (N := 3) hx hb hts hi_Jx4a65c tyJx4a65c tyJx4a65c_ok hown hw_c9 hw_nJx4a65c hw_iJx4a65c hK.1 hP hD hS hA rfl (fun j hj => by rcases (show j = 0 ∨ j = 1 ∨ j = 2 by omega) with rfl | rfl | rfl <;> rfl) (Nat.le_of_ble_eq_true rfl) (Nat.le_of_ble_eq_true rfl) dX3_init_5 (fun q_5 H hP hD hS => ?_)
  have hP : va_P D vwCl [(h0, .inr (4, [.null, .int 0])), (q_5, .inr (0, [.int 0, .null, .int 0]))] H := hP
  have hD : va_D _ [(h0, .inr (4, [.null, .int 0])), (q_5, .inr (0, [.int 0, .null, .int 0]))] := hD
  refine lv_dup hx hb dX3_init_8 rfl ?_
  refine kGo (wc := [(q_5, .inr (0, [.int 0, .null, .int 0]))]) (wr := [(h0, .inr (4, [.null, .int 0]))]) (va_runI (As := []) (rest := [.ref q_5, .ref h0]) ⟨hx, hb, hml, hown, hts⟩ (c_Jx4a65c_init_da8c8 l D cI cJ cZ cO e0 mi q_5  _) (cwI 0 hts gX3_init_Jx4a65c_init_da8c8 rfl rfl rfl hw_iJx4a65c hw_m11 hw_im_Jx4a65c_init_da8c8 rfl (by decide +kernel) ⟨Nat.le_of_ble_eq_true rfl, Nat.le_of_ble_eq_true rfl⟩) (kPreSX hK hX hS (kFree hD hS hA [1] rfl) (kPc_sub hP [1] rfl) ((hD.sub [1] (by decide) rfl).weaken (fun _ _ _ _ => trivial))) rfl rfl hl.1 rfl (lv_room (Nat.le_of_ble_eq_true rfl)) dX3_init_9 ⟨Nat.le_of_ble_eq_true rfl, Nat.le_of_ble_eq_true rfl⟩) hP hD hS hA [1] [0] rfl rfl (by decide) (by decide) (fun v_2 w_2 H locs hv_2 hP hD hS => ?_)
  obtain ⟨rfl, rfl⟩ := hv_2
  have hP : va_P D vwCl [(h0, .inr (4, [.null, .int 0])), (q_5, .inr (0, [.int 0, .ref e0, .int 0]))] H := hP.sub [0, 1] rfl
  have hD : va_D _ [(h0, .inr (4, [.null, .int 0])), (q_5, .inr (0, [.int 0, .ref e0, .int 0]))] := hD.sub [0, 1] (by decide) rfl
  refine W.eq (g2 := F0 m 12 ls [.ref q_5, .ref h0]) rfl ?_
  refine va_putF (D := D) (ci := 4) (v := .ref q_5) (ty := .object "java/util/List") (C := RX3) (T := TX3) (N := 2) hx hb hts hi_X3 tyX3 tyX3_ok nmX3 hown hK.1 hP hD hS 0 rfl rfl 0 (by decide) hw_f12 (fun _ h9 => h9) rfl hnm rfl (by decide +kernel) rfl rfl (Nat.le_of_ble_eq_true rfl) dX3_init_12 (fun H locs hP hD hS => ?_)
  have hP : va_P D vwCl [(h0, .inr (4, [.ref q_5, .int 0])), (q_5, .inr (0, [.int 0, .ref e0, .int 0]))] H := hP
  have hD : va_D _ [(h0, .inr (4, [.ref q_5, .int 0])), (q_5, .inr (0, [.int 0, .ref e0, .int 0]))] := hD
  refine lv_aload_n hx hb dX3_init_15 rfl (lv_at hl 0 rfl) ?_
  refine lv_iconst (v := 2) hx hb dX3_init_16 (by decide) ?_
  refine va_put (D := D) (ci := 4) (v := .int 2) (ty := .int) (C := RX3) (T := TX3) (N := 2) hx hb hts hi_X3 tyX3 tyX3_ok nmX3 hown hK.1 hP hD hS 0 rfl rfl 1 (by decide) hw_f18 (fun _ h9 => h9) rfl (by decide +kernel) rfl rfl (Nat.le_of_ble_eq_true rfl) dX3_init_17 (fun H locs hP hD hS => ?_)
  have hP : va_P D vwCl [(h0, .inr (4, [.ref q_5, .int 2])), (q_5, .inr (0, [.int 0, .ref e0, .int 0]))] H := hP
  have hD : va_D _ [(h0, .inr (4, [.ref q_5, .int 2])), (q_5, .inr (0, [.int 0, .ref e0, .int 0]))] := hD
  exact kRetV hx hb hr hlk dX3_init_20 hP hD hS (Nat.le_of_ble_eq_true rfl) (Nat.le_of_ble_eq_true rfl) ⟨q_5, rfl, rfl⟩
