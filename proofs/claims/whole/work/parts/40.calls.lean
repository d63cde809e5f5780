/-! ===== the class: its calls ===== -/
def askF (cl : Nat → Int32) (sf : Nat → Int32) : Nat → (Nat → Int32) × Nat
  | 0 => (upd sf 0 0, 1)
  | t + 1 => addF (askF cl sf t).1 (askF cl sf t).2 (1 <<< (nI t &&& 31)) (implF cl (nI t)) (askF cl sf t).2
theorem askF_le (cl sf : Nat → Int32) : ∀ t, (askF cl sf t).2 ≤ 2 ^ t
  | 0 => Nat.le_refl _
  | t + 1 => by
    have h := askF_le cl sf t
    have := addF_le (askF cl sf t).1 (askF cl sf t).2 (1 <<< (nI t &&& 31)) (implF cl (nI t)) (askF cl sf t).2
    show (addF _ _ _ _ _).2 ≤ _
    rw [Nat.pow_succ]
    omega
theorem kpow11 {t : Nat} (h : t < 12) : 2 ^ t ≤ 2048 := by
  have := Nat.pow_le_pow_right (n := 2) (by decide) (show t ≤ 11 by omega)
  exact this
def rchC (ne ei gv : Nat → Int32) (n : Nat) (kn : Int32) : Nat → Int32
  | 0 => kn
  | j + 1 => readF ne ei gv (rchC ne ei gv n kn j) n
def cnt6 (x a b c d e f : Int32) : Int32 := if x = 0 then a else if x = 1 then b else if x = 2 then c else if x = 3 then d else if x = 4 then e else if x = 5 then f else -1

set_option maxHeartbeats 4000000 in
set_option maxRecDepth 100000 in
theorem c_X4_add_a (l : Launch) (D : va_G) (cI cJ cZ cO : ClassId) (h0 : Nat) (h1 : Nat) (h2 : Nat) (T : Nat) (wo : Nat → Int32) (cl : Nat → Int32) (w : Int32) (b : Int32) (hT : T < 12) : kC l D (kTY cI cJ cZ cO) yX4_add wsX4_add 1 23 0 0 [.ref h0, .int w, .int b] [(h0, .inr (5, [.ref h1, .ref h2, .int (nI T)])), (h1, .inl (cI, 12, .inl wo)), (h2, .inl (cI, 12, .inl cl))] (fun rv_ rw_ => rv_ = some (.int (nI T)) ∧ rw_ = [(h0, .inr (5, [.ref h1, .ref h2, .int (nI (T + 1))])), (h1, .inl (cI, 12, .inl (upd wo T w))), (h2, .inl (cI, 12, .inl (upd cl T ((1 <<< (nI T &&& 31)) ||| closF cl b 12))))]) := by
  refine kEnter (cc := cX4_add) (maxL := 4) (ret := (some .int)) (by decide) rfl (Nat.le_of_ble_eq_true rfl) ?_
  intro p e s m args below meth c hx hb hr hml hts hown hlk hnm hK hP hD hS hA ls hl
  have hl : lv_has ls 4 [(0, .ref h0), (1, .int w), (2, .int b)] := hl
  have hw_f18 := hts (.fieldLink RX4 18 "WhatToRead$Topics" "count" "I") (by decide +kernel)
  have hi_X4 : ∀ w ∈ wsX40, w ∈ wsX4_add := by decide +kernel
  have hw_f9 := hts (.fieldLink RX4 9 "WhatToRead$Topics" "worths" "[I") (by decide +kernel)
  have hw_f15 := hts (.fieldLink RX4 15 "WhatToRead$Topics" "closures" "[I") (by decide +kernel)
  refine lv_aload_n hx hb dX4_add_0 rfl (lv_at hl 0 rfl) ?_
  refine va_get (D := D) (ci := 5) (v := .int (nI T)) (C := RX4) (T := TX4) (N := 3) hx hb hts hi_X4 hown hK.1 hP 0 rfl rfl 2 (by decide) hw_f18 (fun _ h9 => h9) rfl dX4_add_1 ?_
  refine lv_istore_n (lv' := [(3, .int (nI T)), (0, .ref h0), (1, .int w), (2, .int b)]) hx hb dX4_add_4 rfl hl (by decide) rfl (fun ls hl => ?_)
  refine lv_iload_n hx hb dX4_add_5 rfl (lv_at hl 0 rfl) ?_
  refine lv_aload_n hx hb dX4_add_6 rfl (lv_at hl 1 rfl) ?_
  refine va_get (D := D) (ci := 5) (v := .ref h1) (C := RX4) (T := TX4) (N := 3) hx hb hts hi_X4 hown hK.1 hP 0 rfl rfl 0 (by decide) hw_f9 (fun _ h9 => h9) rfl dX4_add_7 ?_
  refine va_alen (v := 12) hx hb hK.1 hP 1 0 rfl rfl rfl dX4_add_10 ?_
  refine lv_icmp_ge (tgt := 23) hx hb dX4_add_11 (by decide) (fun c_11 => ?_) (fun c_11 => ?_)
  · exact absurd c_11 ((not_congr (nI_leI (a := 12) (b := T) (by omega) (by omega))).mpr (by omega))
  · skip
    refine lv_iload_n hx hb dX4_add_14 rfl (lv_at hl 0 rfl) ?_
    refine lv_aload_n hx hb dX4_add_15 rfl (lv_at hl 1 rfl) ?_
    refine va_get (D := D) (ci := 5) (v := .ref h2) (C := RX4) (T := TX4) (N := 3) hx hb hts hi_X4 hown hK.1 hP 0 rfl rfl 1 (by decide) hw_f15 (fun _ h9 => h9) rfl dX4_add_16 ?_
    refine va_alen (v := 12) hx hb hK.1 hP 2 0 rfl rfl rfl dX4_add_19 ?_
    refine lv_icmp_lt (tgt := 25) hx hb dX4_add_20 (by decide) (fun c_20 => ?_) (fun c_20 => ?_)
    · skip
      refine lv_aload_n hx hb dX4_add_25 rfl (lv_at hl 1 rfl) ?_
      refine va_get (D := D) (ci := 5) (v := .ref h1) (C := RX4) (T := TX4) (N := 3) hx hb hts hi_X4 hown hK.1 hP 0 rfl rfl 0 (by decide) hw_f9 (fun _ h9 => h9) rfl dX4_add_26 ?_
      refine lv_iload_n hx hb dX4_add_29 rfl (lv_at hl 0 rfl) ?_
      refine lv_iload_n hx hb dX4_add_30 rfl (lv_at hl 2 rfl) ?_
      refine va_iast hx hb hK.1 hP hD hS 1 0 rfl rfl (vp_in_nI (by omega) (by omega)) dX4_add_31 (fun H locs hP hD hS => ?_)
      rw [nI_clamp (by omega)] at hP hD
      have hP : va_P D vwCl [(h0, .inr (5, [.ref h1, .ref h2, .int (nI T)])), (h1, .inl (cI, 12, .inl (upd wo T w))), (h2, .inl (cI, 12, .inl cl))] H := hP
      have hD : va_D _ [(h0, .inr (5, [.ref h1, .ref h2, .int (nI T)])), (h1, .inl (cI, 12, .inl (upd wo T w))), (h2, .inl (cI, 12, .inl cl))] := hD
      refine lv_aload_n hx hb dX4_add_32 rfl (lv_at hl 1 rfl) ?_
      refine va_get (D := D) (ci := 5) (v := .ref h2) (C := RX4) (T := TX4) (N := 3) hx hb hts hi_X4 hown hK.1 hP 0 rfl rfl 1 (by decide) hw_f15 (fun _ h9 => h9) rfl dX4_add_33 ?_
      refine lv_iload_n hx hb dX4_add_36 rfl (lv_at hl 0 rfl) ?_
      refine lv_iconst (v := 1) hx hb dX4_add_37 (by decide) ?_
      refine lv_iload_n hx hb dX4_add_38 rfl (lv_at hl 0 rfl) ?_
      refine lv_ishl hx hb dX4_add_39 ?_
      refine lv_aload_n hx hb dX4_add_40 rfl (lv_at hl 1 rfl) ?_
      refine lv_iload_n hx hb dX4_add_41 rfl (lv_at hl 3 rfl) ?_
      refine kGoR (va_runV (As := [.int b]) (rest := [.int (1 <<< ((nI T) &&& 31)), .int (nI T), .ref h2]) ⟨hx, hb, hml, hown, hts⟩ (c_X4_closure l D cI cJ cZ cO h0 h1 h2 (nI T) (upd wo T w) cl b ) (cwV 1 hts gX4_add_X4_closure rfl rfl rfl (by decide +kernel) ⟨Nat.le_of_ble_eq_true rfl, Nat.le_of_ble_eq_true rfl⟩) (kPreVR (ci := 5) (q0 := 0) hK (kPc_sub hP [0, 1, 2] rfl) rfl rfl rfl) rfl rfl hl.1 rfl (lv_room (Nat.le_of_ble_eq_true rfl)) dX4_add_42 ⟨Nat.le_of_ble_eq_true rfl, Nat.le_of_ble_eq_true rfl⟩) (fun v_1 hv_1 => ?_)
      obtain rfl := hv_1
      refine W.eq (g2 := F0 m 45 ls [.int (closF cl b 12), .int (1 <<< ((nI T) &&& 31)), .int (nI T), .ref h2]) rfl ?_
      refine lv_ior hx hb dX4_add_45 ?_
      refine va_iast hx hb hK.1 hP hD hS 2 0 rfl rfl (vp_in_nI (by omega) (by omega)) dX4_add_46 (fun H locs hP hD hS => ?_)
      rw [nI_clamp (by omega)] at hP hD
      have hP : va_P D vwCl [(h0, .inr (5, [.ref h1, .ref h2, .int (nI T)])), (h1, .inl (cI, 12, .inl (upd wo T w))), (h2, .inl (cI, 12, .inl (upd cl T ((1 <<< ((nI T) &&& 31)) ||| (closF cl b 12)))))] H := hP
      have hD : va_D _ [(h0, .inr (5, [.ref h1, .ref h2, .int (nI T)])), (h1, .inl (cI, 12, .inl (upd wo T w))), (h2, .inl (cI, 12, .inl (upd cl T ((1 <<< ((nI T) &&& 31)) ||| (closF cl b 12)))))] := hD
      refine lv_aload_n hx hb dX4_add_47 rfl (lv_at hl 1 rfl) ?_
      refine lv_dup hx hb dX4_add_48 rfl ?_
      refine va_get (D := D) (ci := 5) (v := .int (nI T)) (C := RX4) (T := TX4) (N := 3) hx hb hts hi_X4 hown hK.1 hP 0 rfl rfl 2 (by decide) hw_f18 (fun _ h9 => h9) rfl dX4_add_49 ?_
      refine lv_iconst (v := 1) hx hb dX4_add_52 (by decide) ?_
      refine lv_iadd hx hb dX4_add_53 ?_
      refine lv_topi (fun nv_2 ev_2 => ?_)
      obtain rfl : nv_2 = nI (T + 1) := ev_2.trans (nI_1 T)
      refine va_put (D := D) (ci := 5) (v := .int (nI (T + 1))) (ty := .int) (C := RX4) (T := TX4) (N := 3) hx hb hts hi_X4 tyX4 tyX4_ok nmX4 hown hK.1 hP hD hS 0 rfl rfl 2 (by decide) hw_f18 (fun _ h9 => h9) rfl (by decide +kernel) rfl rfl (Nat.le_of_ble_eq_true rfl) dX4_add_54 (fun H locs hP hD hS => ?_)
      have hP : va_P D vwCl [(h0, .inr (5, [.ref h1, .ref h2, .int (nI (T + 1))])), (h1, .inl (cI, 12, .inl (upd wo T w))), (h2, .inl (cI, 12, .inl (upd cl T ((1 <<< ((nI T) &&& 31)) ||| (closF cl b 12)))))] H := hP
      have hD : va_D _ [(h0, .inr (5, [.ref h1, .ref h2, .int (nI (T + 1))])), (h1, .inl (cI, 12, .inl (upd wo T w))), (h2, .inl (cI, 12, .inl (upd cl T ((1 <<< ((nI T) &&& 31)) ||| (closF cl b 12)))))] := hD
      refine lv_iload_n hx hb dX4_add_57 rfl (lv_at hl 0 rfl) ?_
      have ew_0 : (upd cl T ((1 <<< ((nI T) &&& 31)) ||| (closF cl b 12)) : Nat → Int32) = upd cl T ((1 <<< (nI T &&& 31)) ||| closF cl b 12) := by first | rfl | (rw [ex, e12]; done) | (rw [em, e12]; done) | (rw [ey, e12]; done) | (rw [e12]; done) | (simp [c_11, c_20]; done) | (simp_all []; done)
      exact kRetI hx hb hr hlk dX4_add_58 hP hD hS (Nat.le_of_ble_eq_true rfl) (Nat.le_of_ble_eq_true rfl) ⟨rfl, (kw1 (fun (z_0 : Nat → Int32) => ([(h0, .inr (5, [.ref h1, .ref h2, .int (nI (T + 1))])), (h1, .inl (cI, 12, .inl (upd wo T w))), (h2, .inl (cI, 12, .inl z_0))] : va_W)) ew_0)⟩
    · exact absurd ((nI_ltI (a := T) (b := 12) (by omega) (by omega)).mpr hT) c_20

set_option maxHeartbeats 4000000 in
set_option maxRecDepth 100000 in
theorem c_X4_add_b (l : Launch) (D : va_G) (cI cJ cZ cO : ClassId) (h0 : Nat) (h1 : Nat) (h2 : Nat) (T : Nat) (wo : Nat → Int32) (cl : Nat → Int32) (w : Int32) (b : Int32) (hT : T = 12) : kC l D (kTY cI cJ cZ cO) yX4_add wsX4_add 1 23 0 0 [.ref h0, .int w, .int b] [(h0, .inr (5, [.ref h1, .ref h2, .int (nI T)])), (h1, .inl (cI, 12, .inl wo)), (h2, .inl (cI, 12, .inl cl))] (fun rv_ rw_ => rv_ = some (.int (-1)) ∧ rw_ = [(h0, .inr (5, [.ref h1, .ref h2, .int (nI T)])), (h1, .inl (cI, 12, .inl wo)), (h2, .inl (cI, 12, .inl cl))]) := by
  refine kEnter (cc := cX4_add) (maxL := 4) (ret := (some .int)) (by decide) rfl (Nat.le_of_ble_eq_true rfl) ?_
  intro p e s m args below meth c hx hb hr hml hts hown hlk hnm hK hP hD hS hA ls hl
  have hl : lv_has ls 4 [(0, .ref h0), (1, .int w), (2, .int b)] := hl
  have hw_f18 := hts (.fieldLink RX4 18 "WhatToRead$Topics" "count" "I") (by decide +kernel)
  have hi_X4 : ∀ w ∈ wsX40, w ∈ wsX4_add := by decide +kernel
  have hw_f9 := hts (.fieldLink RX4 9 "WhatToRead$Topics" "worths" "[I") (by decide +kernel)
  refine lv_aload_n hx hb dX4_add_0 rfl (lv_at hl 0 rfl) ?_
  refine va_get (D := D) (ci := 5) (v := .int (nI T)) (C := RX4) (T := TX4) (N := 3) hx hb hts hi_X4 hown hK.1 hP 0 rfl rfl 2 (by decide) hw_f18 (fun _ h9 => h9) rfl dX4_add_1 ?_
  refine lv_istore_n (lv' := [(3, .int (nI T)), (0, .ref h0), (1, .int w), (2, .int b)]) hx hb dX4_add_4 rfl hl (by decide) rfl (fun ls hl => ?_)
  refine lv_iload_n hx hb dX4_add_5 rfl (lv_at hl 0 rfl) ?_
  refine lv_aload_n hx hb dX4_add_6 rfl (lv_at hl 1 rfl) ?_
  refine va_get (D := D) (ci := 5) (v := .ref h1) (C := RX4) (T := TX4) (N := 3) hx hb hts hi_X4 hown hK.1 hP 0 rfl rfl 0 (by decide) hw_f9 (fun _ h9 => h9) rfl dX4_add_7 ?_
  refine va_alen (v := 12) hx hb hK.1 hP 1 0 rfl rfl rfl dX4_add_10 ?_
  refine lv_icmp_ge (tgt := 23) hx hb dX4_add_11 (by decide) (fun c_11 => ?_) (fun c_11 => ?_)
  · skip
    refine lv_iconst (v := (-1)) hx hb dX4_add_23 (by decide) ?_
    exact kRetI hx hb hr hlk dX4_add_24 hP hD hS (Nat.le_of_ble_eq_true rfl) (Nat.le_of_ble_eq_true rfl) ⟨rfl, rfl⟩
  · exact absurd ((nI_leI (a := 12) (b := T) (by omega) (by omega)).mpr (by omega)) c_11

set_option maxHeartbeats 4000000 in
set_option maxRecDepth 100000 in
theorem c_X7_topic_a (l : Launch) (D : va_G) (cI cJ cZ cO : ClassId) (o : Nat) (t0 : Nat) (h0 : Nat) (w0 : Nat) (r0 : Nat) (k0 : Nat) (s0 : Nat) (kn : Int32) (t1 : Nat) (t2 : Nat) (T : Nat) (wo : Nat → Int32) (cl : Nat → Int32) (s1 : Nat) (s2 : Nat) (ns : Nat) (an : Int32) (sf : Nat → Int32) (sg : Nat → Int32) (w : Int32) (b : Int32) (hT : T < 12) (hns : ns ≤ 2048) : kC l D (kTY cI cJ cZ cO) yX7_topic wsX7_topic 2 46 0 0 [.ref o, .int w, .int b] [(o, .inr (8, [.ref t0, .ref h0, .ref w0, .ref r0, .ref k0, .ref s0, .int kn])), (t0, .inr (5, [.ref t1, .ref t2, .int (nI T)])), (t1, .inl (cI, 12, .inl wo)), (t2, .inl (cI, 12, .inl cl)), (s0, .inr (1, [.ref s1, .ref s2, .int (nI ns), .int an])), (s1, .inl (cI, 4096, .inl sf)), (s2, .inl (cI, 64, .inl sg))] (fun rv_ rw_ => rv_ = some (.int (if withinB w 0 9 && haveB (nI T) b then nI T else -1)) ∧ rw_ = [(o, .inr (8, [.ref t0, .ref h0, .ref w0, .ref r0, .ref k0, .ref s0, .int kn])), (t0, .inr (5, [.ref t1, .ref t2, .int (nI (if withinB w 0 9 && haveB (nI T) b then T + 1 else T))])), (t1, .inl (cI, 12, .inl (if withinB w 0 9 && haveB (nI T) b then upd wo T w else wo))), (t2, .inl (cI, 12, .inl (if withinB w 0 9 && haveB (nI T) b then upd cl T ((1 <<< (nI T &&& 31)) ||| closF cl b 12) else cl))), (s0, .inr (1, [.ref s1, .ref s2, .int (nI (if withinB w 0 9 && haveB (nI T) b then (addF sf ns (1 <<< (nI T &&& 31)) (implF (upd cl T ((1 <<< (nI T &&& 31)) ||| closF cl b 12)) (nI T)) ns).2 else ns)), .int an])), (s1, .inl (cI, 4096, .inl (if withinB w 0 9 && haveB (nI T) b then (addF sf ns (1 <<< (nI T &&& 31)) (implF (upd cl T ((1 <<< (nI T &&& 31)) ||| closF cl b 12)) (nI T)) ns).1 else sf))), (s2, .inl (cI, 64, .inl sg))]) := by
  refine kEnter (cc := cX7_topic) (maxL := 4) (ret := (some .int)) (by decide) rfl (Nat.le_of_ble_eq_true rfl) ?_
  intro p e s m args below meth c hx hb hr hml hts hown hlk hnm hK hP hD hS hA ls hl
  have hl : lv_has ls 4 [(0, .ref o), (1, .int w), (2, .int b)] := hl
  have hw_f12 := hts (.fieldLink RX7 12 "WhatToRead" "topics" "LWhatToRead$Topics;") (by decide +kernel)
  have hi_X7 : ∀ w ∈ wsX70, w ∈ wsX7_topic := by decide +kernel
  have hw_f47 := hts (.fieldLink RX7 47 "WhatToRead" "asking" "LWhatToRead$Asking;") (by decide +kernel)
  refine lv_iload_n hx hb dX7_topic_0 rfl (lv_at hl 1 rfl) ?_
  refine lv_iconst (v := 0) hx hb dX7_topic_1 (by decide) ?_
  refine lv_bipush (v := 9) hx hb dX7_topic_2 (by decide) ?_
  refine kGoR (va_runS (As := [.int w, .int 0, .int 9]) (rest := []) ⟨hx, hb, hml, hown, hts⟩ (c_X7_isWithin l D cI cJ cZ cO w 0 9 ) (va_cwS 3 hts gX7_topic_X7_isWithin rfl rfl rfl (by decide +kernel) ⟨Nat.le_of_ble_eq_true rfl, Nat.le_of_ble_eq_true rfl⟩) (kPreSR hK (kPc_sub hP [] rfl)) rfl rfl hl.1 rfl (lv_room (Nat.le_of_ble_eq_true rfl)) dX7_topic_4 ⟨Nat.le_of_ble_eq_true rfl, Nat.le_of_ble_eq_true rfl⟩) (fun v_1 hv_1 => ?_)
  obtain rfl := hv_1
  refine W.eq (g2 := F0 m 7 ls [.int (k01 (withinB w 0 9))]) rfl ?_
  refine lv_if_eq (tgt := 21) hx hb dX7_topic_7 (by decide) (fun c_7 => ?_) (fun c_7 => ?_)
  · skip
    have c_7 := k01_z c_7
    refine lv_iconst (v := (-1)) hx hb dX7_topic_21 (by decide) ?_
    have ew_0 : (nI T : Int32) = nI (if withinB w 0 9 && haveB (nI T) b then T + 1 else T) := by simp [c_7]
    have ew_1 : (wo : Nat → Int32) = if withinB w 0 9 && haveB (nI T) b then upd wo T w else wo := by simp [c_7]
    have ew_2 : (cl : Nat → Int32) = if withinB w 0 9 && haveB (nI T) b then upd cl T ((1 <<< (nI T &&& 31)) ||| closF cl b 12) else cl := by simp [c_7]
    have ew_3 : (nI ns : Int32) = nI (if withinB w 0 9 && haveB (nI T) b then (addF sf ns (1 <<< (nI T &&& 31)) (implF (upd cl T ((1 <<< (nI T &&& 31)) ||| closF cl b 12)) (nI T)) ns).2 else ns) := by simp [c_7]
    have ew_4 : (sf : Nat → Int32) = if withinB w 0 9 && haveB (nI T) b then (addF sf ns (1 <<< (nI T &&& 31)) (implF (upd cl T ((1 <<< (nI T &&& 31)) ||| closF cl b 12)) (nI T)) ns).1 else sf := by simp [c_7]
    exact kRetI hx hb hr hlk dX7_topic_22 hP hD hS (Nat.le_of_ble_eq_true rfl) (Nat.le_of_ble_eq_true rfl) ⟨(kpi (by first | rfl | (simp [c_7]; done))), (kw5 (fun (z_0 : Int32) (z_1 : Nat → Int32) (z_2 : Nat → Int32) (z_3 : Int32) (z_4 : Nat → Int32) => ([(o, .inr (8, [.ref t0, .ref h0, .ref w0, .ref r0, .ref k0, .ref s0, .int kn])), (t0, .inr (5, [.ref t1, .ref t2, .int z_0])), (t1, .inl (cI, 12, .inl z_1)), (t2, .inl (cI, 12, .inl z_2)), (s0, .inr (1, [.ref s1, .ref s2, .int z_3, .int an])), (s1, .inl (cI, 4096, .inl z_4)), (s2, .inl (cI, 64, .inl sg))] : va_W)) ew_0 ew_1 ew_2 ew_3 ew_4)⟩
  · skip
    have c_7 := k01_n c_7
    refine lv_aload_n hx hb dX7_topic_10 rfl (lv_at hl 0 rfl) ?_
    refine va_get (D := D) (ci := 8) (v := .ref t0) (C := RX7) (T := TX7) (N := 7) hx hb hts hi_X7 hown hK.1 hP 0 rfl rfl 0 (by decide) hw_f12 (fun _ h9 => h9) rfl dX7_topic_11 ?_
    refine lv_iload_n hx hb dX7_topic_14 rfl (lv_at hl 2 rfl) ?_
    refine kGoR (va_runV (As := [.int b]) (rest := []) ⟨hx, hb, hml, hown, hts⟩ (c_X4_haveAll l D cI cJ cZ cO t0 t1 t2 (nI T) wo cl b ) (cwV 1 hts gX7_topic_X4_haveAll rfl rfl rfl (by decide +kernel) ⟨Nat.le_of_ble_eq_true rfl, Nat.le_of_ble_eq_true rfl⟩) (kPreVR (ci := 5) (q0 := 0) hK (kPc_sub hP [1, 2, 3] rfl) rfl rfl rfl) rfl rfl hl.1 rfl (lv_room (Nat.le_of_ble_eq_true rfl)) dX7_topic_15 ⟨Nat.le_of_ble_eq_true rfl, Nat.le_of_ble_eq_true rfl⟩) (fun v_2 hv_2 => ?_)
    obtain rfl := hv_2
    refine W.eq (g2 := F0 m 18 ls [.int (k01 (haveB (nI T) b))]) rfl ?_
    refine lv_if_ne (tgt := 23) hx hb dX7_topic_18 (by decide) (fun c_18 => ?_) (fun c_18 => ?_)
    · skip
      have c_18 := k01_n c_18
      refine lv_aload_n hx hb dX7_topic_23 rfl (lv_at hl 0 rfl) ?_
      refine va_get (D := D) (ci := 8) (v := .ref t0) (C := RX7) (T := TX7) (N := 7) hx hb hts hi_X7 hown hK.1 hP 0 rfl rfl 0 (by decide) hw_f12 (fun _ h9 => h9) rfl dX7_topic_24 ?_
      refine lv_iload_n hx hb dX7_topic_27 rfl (lv_at hl 1 rfl) ?_
      refine lv_iload_n hx hb dX7_topic_28 rfl (lv_at hl 2 rfl) ?_
      refine kGo (wc := [(t0, .inr (5, [.ref t1, .ref t2, .int (nI T)])), (t1, .inl (cI, 12, .inl wo)), (t2, .inl (cI, 12, .inl cl))]) (wr := [(o, .inr (8, [.ref t0, .ref h0, .ref w0, .ref r0, .ref k0, .ref s0, .int kn])), (s0, .inr (1, [.ref s1, .ref s2, .int (nI ns), .int an])), (s1, .inl (cI, 4096, .inl sf)), (s2, .inl (cI, 64, .inl sg))]) (va_runV (As := [.int w, .int b]) (rest := []) ⟨hx, hb, hml, hown, hts⟩ (c_X4_add_a l D cI cJ cZ cO t0 t1 t2 T wo cl w b (by first | assumption | omega | decide) _) (cwV 2 hts gX7_topic_X4_add rfl rfl rfl (by decide +kernel) ⟨Nat.le_of_ble_eq_true rfl, Nat.le_of_ble_eq_true rfl⟩) (kPreV (ci := 5) (q0 := 0) hK (kPc_sub hP [1, 2, 3] rfl) ((hD.sub [1, 2, 3] (by decide) rfl).weaken (fun _ _ _ _ => trivial)) rfl rfl rfl) rfl rfl hl.1 rfl (lv_room (Nat.le_of_ble_eq_true rfl)) dX7_topic_29 ⟨Nat.le_of_ble_eq_true rfl, Nat.le_of_ble_eq_true rfl⟩) hP hD hS hA [1, 2, 3] [0, 4, 5, 6] rfl rfl (by decide) (by decide) (fun v_3 w_3 H locs hv_3 hP hD hS => ?_)
      obtain ⟨rfl, rfl⟩ := hv_3
      have hP : va_P D vwCl [(o, .inr (8, [.ref t0, .ref h0, .ref w0, .ref r0, .ref k0, .ref s0, .int kn])), (t0, .inr (5, [.ref t1, .ref t2, .int (nI (T + 1))])), (t1, .inl (cI, 12, .inl (upd wo T w))), (t2, .inl (cI, 12, .inl (upd cl T ((1 <<< (nI T &&& 31)) ||| closF cl b 12)))), (s0, .inr (1, [.ref s1, .ref s2, .int (nI ns), .int an])), (s1, .inl (cI, 4096, .inl sf)), (s2, .inl (cI, 64, .inl sg))] H := hP.sub [0, 4, 5, 6, 1, 2, 3] rfl
      have hD : va_D _ [(o, .inr (8, [.ref t0, .ref h0, .ref w0, .ref r0, .ref k0, .ref s0, .int kn])), (t0, .inr (5, [.ref t1, .ref t2, .int (nI (T + 1))])), (t1, .inl (cI, 12, .inl (upd wo T w))), (t2, .inl (cI, 12, .inl (upd cl T ((1 <<< (nI T &&& 31)) ||| closF cl b 12)))), (s0, .inr (1, [.ref s1, .ref s2, .int (nI ns), .int an])), (s1, .inl (cI, 4096, .inl sf)), (s2, .inl (cI, 64, .inl sg))] := hD.sub [0, 4, 5, 6, 1, 2, 3] (by decide) rfl
      refine W.eq (g2 := F0 m 32 ls [.int (nI T)]) rfl ?_
      refine lv_istore_n (lv' := [(3, .int (nI T)), (0, .ref o), (1, .int w), (2, .int b)]) hx hb dX7_topic_32 rfl hl (by decide) rfl (fun ls hl => ?_)
      refine lv_iload_n hx hb dX7_topic_33 rfl (lv_at hl 0 rfl) ?_
      refine lv_iconst (v := (-1)) hx hb dX7_topic_34 (by decide) ?_
      refine lv_icmp_eq (tgt := 54) hx hb dX7_topic_35 (by decide) (fun c_35 => ?_) (fun c_35 => ?_)
      · exact absurd c_35 (by intro q; exact absurd (show nI T < 0 from (by rw [q]; decide)) (nI_pos (by omega)))
      · skip
        refine lv_aload_n hx hb dX7_topic_38 rfl (lv_at hl 1 rfl) ?_
        refine va_get (D := D) (ci := 8) (v := .ref s0) (C := RX7) (T := TX7) (N := 7) hx hb hts hi_X7 hown hK.1 hP 0 rfl rfl 5 (by decide) hw_f47 (fun _ h9 => h9) rfl dX7_topic_39 ?_
        refine lv_iload_n hx hb dX7_topic_42 rfl (lv_at hl 0 rfl) ?_
        refine lv_aload_n hx hb dX7_topic_43 rfl (lv_at hl 1 rfl) ?_
        refine va_get (D := D) (ci := 8) (v := .ref t0) (C := RX7) (T := TX7) (N := 7) hx hb hts hi_X7 hown hK.1 hP 0 rfl rfl 0 (by decide) hw_f12 (fun _ h9 => h9) rfl dX7_topic_44 ?_
        refine lv_iload_n hx hb dX7_topic_47 rfl (lv_at hl 0 rfl) ?_
        refine kGoR (va_runV (As := [.int (nI T)]) (rest := [.int (nI T), .ref s0]) ⟨hx, hb, hml, hown, hts⟩ (c_X4_impliedBy l D cI cJ cZ cO t0 t1 t2 (nI (T + 1)) (upd wo T w) (upd cl T ((1 <<< (nI T &&& 31)) ||| closF cl b 12)) (nI T) ) (cwV 1 hts gX7_topic_X4_impliedBy rfl rfl rfl (by decide +kernel) ⟨Nat.le_of_ble_eq_true rfl, Nat.le_of_ble_eq_true rfl⟩) (kPreVR (ci := 5) (q0 := 0) hK (kPc_sub hP [1, 2, 3] rfl) rfl rfl rfl) rfl rfl hl.1 rfl (lv_room (Nat.le_of_ble_eq_true rfl)) dX7_topic_48 ⟨Nat.le_of_ble_eq_true rfl, Nat.le_of_ble_eq_true rfl⟩) (fun v_4 hv_4 => ?_)
        obtain rfl := hv_4
        refine W.eq (g2 := F0 m 51 ls [.int (implF (upd cl T ((1 <<< (nI T &&& 31)) ||| closF cl b 12)) (nI T)), .int (nI T), .ref s0]) rfl ?_
        refine kGo (wc := [(s0, .inr (1, [.ref s1, .ref s2, .int (nI ns), .int an])), (s1, .inl (cI, 4096, .inl sf)), (s2, .inl (cI, 64, .inl sg))]) (wr := [(o, .inr (8, [.ref t0, .ref h0, .ref w0, .ref r0, .ref k0, .ref s0, .int kn])), (t0, .inr (5, [.ref t1, .ref t2, .int (nI (T + 1))])), (t1, .inl (cI, 12, .inl (upd wo T w))), (t2, .inl (cI, 12, .inl (upd cl T ((1 <<< (nI T &&& 31)) ||| closF cl b 12))))]) (va_runV (As := [.int (nI T), .int (implF (upd cl T ((1 <<< (nI T &&& 31)) ||| closF cl b 12)) (nI T))]) (rest := []) ⟨hx, hb, hml, hown, hts⟩ (c_X0_addTopic l D cI cJ cZ cO s0 s1 s2 ns an sf sg (nI T) (implF (upd cl T ((1 <<< (nI T &&& 31)) ||| closF cl b 12)) (nI T)) (by first | assumption | omega | decide) _) (cwV 2 hts gX7_topic_X0_addTopic rfl rfl rfl (by decide +kernel) ⟨Nat.le_of_ble_eq_true rfl, Nat.le_of_ble_eq_true rfl⟩) (kPreV (ci := 1) (q0 := 0) hK (kPc_sub hP [4, 5, 6] rfl) ((hD.sub [4, 5, 6] (by decide) rfl).weaken (fun _ _ _ _ => trivial)) rfl rfl rfl) rfl rfl hl.1 rfl (lv_room (Nat.le_of_ble_eq_true rfl)) dX7_topic_51 ⟨Nat.le_of_ble_eq_true rfl, Nat.le_of_ble_eq_true rfl⟩) hP hD hS hA [4, 5, 6] [0, 1, 2, 3] rfl rfl (by decide) (by decide) (fun v_5 w_5 H locs hv_5 hP hD hS => ?_)
        obtain ⟨rfl, rfl⟩ := hv_5
        have hP : va_P D vwCl [(o, .inr (8, [.ref t0, .ref h0, .ref w0, .ref r0, .ref k0, .ref s0, .int kn])), (t0, .inr (5, [.ref t1, .ref t2, .int (nI (T + 1))])), (t1, .inl (cI, 12, .inl (upd wo T w))), (t2, .inl (cI, 12, .inl (upd cl T ((1 <<< (nI T &&& 31)) ||| closF cl b 12)))), (s0, .inr (1, [.ref s1, .ref s2, .int (nI (addF sf ns (1 <<< ((nI T) &&& 31)) (implF (upd cl T ((1 <<< (nI T &&& 31)) ||| closF cl b 12)) (nI T)) ns).2), .int an])), (s1, .inl (cI, 4096, .inl ((addF sf ns (1 <<< ((nI T) &&& 31)) (implF (upd cl T ((1 <<< (nI T &&& 31)) ||| closF cl b 12)) (nI T)) ns).1))), (s2, .inl (cI, 64, .inl sg))] H := hP.sub [0, 1, 2, 3, 4, 5, 6] rfl
        have hD : va_D _ [(o, .inr (8, [.ref t0, .ref h0, .ref w0, .ref r0, .ref k0, .ref s0, .int kn])), (t0, .inr (5, [.ref t1, .ref t2, .int (nI (T + 1))])), (t1, .inl (cI, 12, .inl (upd wo T w))), (t2, .inl (cI, 12, .inl (upd cl T ((1 <<< (nI T &&& 31)) ||| closF cl b 12)))), (s0, .inr (1, [.ref s1, .ref s2, .int (nI (addF sf ns (1 <<< ((nI T) &&& 31)) (implF (upd cl T ((1 <<< (nI T &&& 31)) ||| closF cl b 12)) (nI T)) ns).2), .int an])), (s1, .inl (cI, 4096, .inl ((addF sf ns (1 <<< ((nI T) &&& 31)) (implF (upd cl T ((1 <<< (nI T &&& 31)) ||| closF cl b 12)) (nI T)) ns).1))), (s2, .inl (cI, 64, .inl sg))] := hD.sub [0, 1, 2, 3, 4, 5, 6] (by decide) rfl
        refine W.eq (g2 := F0 m 54 ls []) rfl ?_
        refine lv_iload_n hx hb dX7_topic_54 rfl (lv_at hl 0 rfl) ?_
        have ew_0 : (nI (T + 1) : Int32) = nI (if withinB w 0 9 && haveB (nI T) b then T + 1 else T) := by simp [c_7, c_18, c_35]
        have ew_1 : (upd wo T w : Nat → Int32) = if withinB w 0 9 && haveB (nI T) b then upd wo T w else wo := by simp [c_7, c_18, c_35]
        have ew_2 : (upd cl T ((1 <<< (nI T &&& 31)) ||| closF cl b 12) : Nat → Int32) = if withinB w 0 9 && haveB (nI T) b then upd cl T ((1 <<< (nI T &&& 31)) ||| closF cl b 12) else cl := by simp [c_7, c_18, c_35]
        have ew_3 : (nI (addF sf ns (1 <<< ((nI T) &&& 31)) (implF (upd cl T ((1 <<< (nI T &&& 31)) ||| closF cl b 12)) (nI T)) ns).2 : Int32) = nI (if withinB w 0 9 && haveB (nI T) b then (addF sf ns (1 <<< (nI T &&& 31)) (implF (upd cl T ((1 <<< (nI T &&& 31)) ||| closF cl b 12)) (nI T)) ns).2 else ns) := by simp [c_7, c_18, c_35]
        have ew_4 : ((addF sf ns (1 <<< ((nI T) &&& 31)) (implF (upd cl T ((1 <<< (nI T &&& 31)) ||| closF cl b 12)) (nI T)) ns).1 : Nat → Int32) = if withinB w 0 9 && haveB (nI T) b then (addF sf ns (1 <<< (nI T &&& 31)) (implF (upd cl T ((1 <<< (nI T &&& 31)) ||| closF cl b 12)) (nI T)) ns).1 else sf := by simp [c_7, c_18, c_35]
        exact kRetI hx hb hr hlk dX7_topic_55 hP hD hS (Nat.le_of_ble_eq_true rfl) (Nat.le_of_ble_eq_true rfl) ⟨(kpi (by first | rfl | (simp [c_7, c_18, c_35]; done))), (kw5 (fun (z_0 : Int32) (z_1 : Nat → Int32) (z_2 : Nat → Int32) (z_3 : Int32) (z_4 : Nat → Int32) => ([(o, .inr (8, [.ref t0, .ref h0, .ref w0, .ref r0, .ref k0, .ref s0, .int kn])), (t0, .inr (5, [.ref t1, .ref t2, .int z_0])), (t1, .inl (cI, 12, .inl z_1)), (t2, .inl (cI, 12, .inl z_2)), (s0, .inr (1, [.ref s1, .ref s2, .int z_3, .int an])), (s1, .inl (cI, 4096, .inl z_4)), (s2, .inl (cI, 64, .inl sg))] : va_W)) ew_0 ew_1 ew_2 ew_3 ew_4)⟩
    · skip
      have c_18 := k01_z c_18
      refine lv_iconst (v := (-1)) hx hb dX7_topic_21 (by decide) ?_
      have ew_0 : (nI T : Int32) = nI (if withinB w 0 9 && haveB (nI T) b then T + 1 else T) := by simp [c_7, c_18]
      have ew_1 : (wo : Nat → Int32) = if withinB w 0 9 && haveB (nI T) b then upd wo T w else wo := by simp [c_7, c_18]
      have ew_2 : (cl : Nat → Int32) = if withinB w 0 9 && haveB (nI T) b then upd cl T ((1 <<< (nI T &&& 31)) ||| closF cl b 12) else cl := by simp [c_7, c_18]
      have ew_3 : (nI ns : Int32) = nI (if withinB w 0 9 && haveB (nI T) b then (addF sf ns (1 <<< (nI T &&& 31)) (implF (upd cl T ((1 <<< (nI T &&& 31)) ||| closF cl b 12)) (nI T)) ns).2 else ns) := by simp [c_7, c_18]
      have ew_4 : (sf : Nat → Int32) = if withinB w 0 9 && haveB (nI T) b then (addF sf ns (1 <<< (nI T &&& 31)) (implF (upd cl T ((1 <<< (nI T &&& 31)) ||| closF cl b 12)) (nI T)) ns).1 else sf := by simp [c_7, c_18]
      exact kRetI hx hb hr hlk dX7_topic_22 hP hD hS (Nat.le_of_ble_eq_true rfl) (Nat.le_of_ble_eq_true rfl) ⟨(kpi (by first | rfl | (simp [c_7, c_18]; done))), (kw5 (fun (z_0 : Int32) (z_1 : Nat → Int32) (z_2 : Nat → Int32) (z_3 : Int32) (z_4 : Nat → Int32) => ([(o, .inr (8, [.ref t0, .ref h0, .ref w0, .ref r0, .ref k0, .ref s0, .int kn])), (t0, .inr (5, [.ref t1, .ref t2, .int z_0])), (t1, .inl (cI, 12, .inl z_1)), (t2, .inl (cI, 12, .inl z_2)), (s0, .inr (1, [.ref s1, .ref s2, .int z_3, .int an])), (s1, .inl (cI, 4096, .inl z_4)), (s2, .inl (cI, 64, .inl sg))] : va_W)) ew_0 ew_1 ew_2 ew_3 ew_4)⟩

set_option maxHeartbeats 4000000 in
set_option maxRecDepth 100000 in
theorem c_X7_topic_b (l : Launch) (D : va_G) (cI cJ cZ cO : ClassId) (o : Nat) (t0 : Nat) (h0 : Nat) (w0 : Nat) (r0 : Nat) (k0 : Nat) (s0 : Nat) (kn : Int32) (t1 : Nat) (t2 : Nat) (T : Nat) (wo : Nat → Int32) (cl : Nat → Int32) (s1 : Nat) (s2 : Nat) (ns : Nat) (an : Int32) (sf : Nat → Int32) (sg : Nat → Int32) (w : Int32) (b : Int32) (hT : T = 12) (hns : ns ≤ 4096) : kC l D (kTY cI cJ cZ cO) yX7_topic wsX7_topic 2 46 0 0 [.ref o, .int w, .int b] [(o, .inr (8, [.ref t0, .ref h0, .ref w0, .ref r0, .ref k0, .ref s0, .int kn])), (t0, .inr (5, [.ref t1, .ref t2, .int (nI T)])), (t1, .inl (cI, 12, .inl wo)), (t2, .inl (cI, 12, .inl cl)), (s0, .inr (1, [.ref s1, .ref s2, .int (nI ns), .int an])), (s1, .inl (cI, 4096, .inl sf)), (s2, .inl (cI, 64, .inl sg))] (fun rv_ rw_ => rv_ = some (.int (-1)) ∧ rw_ = [(o, .inr (8, [.ref t0, .ref h0, .ref w0, .ref r0, .ref k0, .ref s0, .int kn])), (t0, .inr (5, [.ref t1, .ref t2, .int (nI T)])), (t1, .inl (cI, 12, .inl wo)), (t2, .inl (cI, 12, .inl cl)), (s0, .inr (1, [.ref s1, .ref s2, .int (nI ns), .int an])), (s1, .inl (cI, 4096, .inl sf)), (s2, .inl (cI, 64, .inl sg))]) := by
  refine kEnter (cc := cX7_topic) (maxL := 4) (ret := (some .int)) (by decide) rfl (Nat.le_of_ble_eq_true rfl) ?_
  intro p e s m args below meth c hx hb hr hml hts hown hlk hnm hK hP hD hS hA ls hl
  have hl : lv_has ls 4 [(0, .ref o), (1, .int w), (2, .int b)] := hl
  have hw_f12 := hts (.fieldLink RX7 12 "WhatToRead" "topics" "LWhatToRead$Topics;") (by decide +kernel)
  have hi_X7 : ∀ w ∈ wsX70, w ∈ wsX7_topic := by decide +kernel
  refine lv_iload_n hx hb dX7_topic_0 rfl (lv_at hl 1 rfl) ?_
  refine lv_iconst (v := 0) hx hb dX7_topic_1 (by decide) ?_
  refine lv_bipush (v := 9) hx hb dX7_topic_2 (by decide) ?_
  refine kGoR (va_runS (As := [.int w, .int 0, .int 9]) (rest := []) ⟨hx, hb, hml, hown, hts⟩ (c_X7_isWithin l D cI cJ cZ cO w 0 9 ) (va_cwS 3 hts gX7_topic_X7_isWithin rfl rfl rfl (by decide +kernel) ⟨Nat.le_of_ble_eq_true rfl, Nat.le_of_ble_eq_true rfl⟩) (kPreSR hK (kPc_sub hP [] rfl)) rfl rfl hl.1 rfl (lv_room (Nat.le_of_ble_eq_true rfl)) dX7_topic_4 ⟨Nat.le_of_ble_eq_true rfl, Nat.le_of_ble_eq_true rfl⟩) (fun v_1 hv_1 => ?_)
  obtain rfl := hv_1
  refine W.eq (g2 := F0 m 7 ls [.int (k01 (withinB w 0 9))]) rfl ?_
  refine lv_if_eq (tgt := 21) hx hb dX7_topic_7 (by decide) (fun c_7 => ?_) (fun c_7 => ?_)
  · skip
    have c_7 := k01_z c_7
    refine lv_iconst (v := (-1)) hx hb dX7_topic_21 (by decide) ?_
    exact kRetI hx hb hr hlk dX7_topic_22 hP hD hS (Nat.le_of_ble_eq_true rfl) (Nat.le_of_ble_eq_true rfl) ⟨rfl, rfl⟩
  · skip
    have c_7 := k01_n c_7
    refine lv_aload_n hx hb dX7_topic_10 rfl (lv_at hl 0 rfl) ?_
    refine va_get (D := D) (ci := 8) (v := .ref t0) (C := RX7) (T := TX7) (N := 7) hx hb hts hi_X7 hown hK.1 hP 0 rfl rfl 0 (by decide) hw_f12 (fun _ h9 => h9) rfl dX7_topic_11 ?_
    refine lv_iload_n hx hb dX7_topic_14 rfl (lv_at hl 2 rfl) ?_
    refine kGoR (va_runV (As := [.int b]) (rest := []) ⟨hx, hb, hml, hown, hts⟩ (c_X4_haveAll l D cI cJ cZ cO t0 t1 t2 (nI T) wo cl b ) (cwV 1 hts gX7_topic_X4_haveAll rfl rfl rfl (by decide +kernel) ⟨Nat.le_of_ble_eq_true rfl, Nat.le_of_ble_eq_true rfl⟩) (kPreVR (ci := 5) (q0 := 0) hK (kPc_sub hP [1, 2, 3] rfl) rfl rfl rfl) rfl rfl hl.1 rfl (lv_room (Nat.le_of_ble_eq_true rfl)) dX7_topic_15 ⟨Nat.le_of_ble_eq_true rfl, Nat.le_of_ble_eq_true rfl⟩) (fun v_2 hv_2 => ?_)
    obtain rfl := hv_2
    refine W.eq (g2 := F0 m 18 ls [.int (k01 (haveB (nI T) b))]) rfl ?_
    refine lv_if_ne (tgt := 23) hx hb dX7_topic_18 (by decide) (fun c_18 => ?_) (fun c_18 => ?_)
    · skip
      have c_18 := k01_n c_18
      refine lv_aload_n hx hb dX7_topic_23 rfl (lv_at hl 0 rfl) ?_
      refine va_get (D := D) (ci := 8) (v := .ref t0) (C := RX7) (T := TX7) (N := 7) hx hb hts hi_X7 hown hK.1 hP 0 rfl rfl 0 (by decide) hw_f12 (fun _ h9 => h9) rfl dX7_topic_24 ?_
      refine lv_iload_n hx hb dX7_topic_27 rfl (lv_at hl 1 rfl) ?_
      refine lv_iload_n hx hb dX7_topic_28 rfl (lv_at hl 2 rfl) ?_
      refine kGo (wc := [(t0, .inr (5, [.ref t1, .ref t2, .int (nI T)])), (t1, .inl (cI, 12, .inl wo)), (t2, .inl (cI, 12, .inl cl))]) (wr := [(o, .inr (8, [.ref t0, .ref h0, .ref w0, .ref r0, .ref k0, .ref s0, .int kn])), (s0, .inr (1, [.ref s1, .ref s2, .int (nI ns), .int an])), (s1, .inl (cI, 4096, .inl sf)), (s2, .inl (cI, 64, .inl sg))]) (va_runV (As := [.int w, .int b]) (rest := []) ⟨hx, hb, hml, hown, hts⟩ (c_X4_add_b l D cI cJ cZ cO t0 t1 t2 T wo cl w b (by first | assumption | omega | decide) _) (cwV 2 hts gX7_topic_X4_add rfl rfl rfl (by decide +kernel) ⟨Nat.le_of_ble_eq_true rfl, Nat.le_of_ble_eq_true rfl⟩) (kPreV (ci := 5) (q0 := 0) hK (kPc_sub hP [1, 2, 3] rfl) ((hD.sub [1, 2, 3] (by decide) rfl).weaken (fun _ _ _ _ => trivial)) rfl rfl rfl) rfl rfl hl.1 rfl (lv_room (Nat.le_of_ble_eq_true rfl)) dX7_topic_29 ⟨Nat.le_of_ble_eq_true rfl, Nat.le_of_ble_eq_true rfl⟩) hP hD hS hA [1, 2, 3] [0, 4, 5, 6] rfl rfl (by decide) (by decide) (fun v_3 w_3 H locs hv_3 hP hD hS => ?_)
      obtain ⟨rfl, rfl⟩ := hv_3
      have hP : va_P D vwCl [(o, .inr (8, [.ref t0, .ref h0, .ref w0, .ref r0, .ref k0, .ref s0, .int kn])), (t0, .inr (5, [.ref t1, .ref t2, .int (nI T)])), (t1, .inl (cI, 12, .inl wo)), (t2, .inl (cI, 12, .inl cl)), (s0, .inr (1, [.ref s1, .ref s2, .int (nI ns), .int an])), (s1, .inl (cI, 4096, .inl sf)), (s2, .inl (cI, 64, .inl sg))] H := hP.sub [0, 4, 5, 6, 1, 2, 3] rfl
      have hD : va_D _ [(o, .inr (8, [.ref t0, .ref h0, .ref w0, .ref r0, .ref k0, .ref s0, .int kn])), (t0, .inr (5, [.ref t1, .ref t2, .int (nI T)])), (t1, .inl (cI, 12, .inl wo)), (t2, .inl (cI, 12, .inl cl)), (s0, .inr (1, [.ref s1, .ref s2, .int (nI ns), .int an])), (s1, .inl (cI, 4096, .inl sf)), (s2, .inl (cI, 64, .inl sg))] := hD.sub [0, 4, 5, 6, 1, 2, 3] (by decide) rfl
      refine W.eq (g2 := F0 m 32 ls [.int (-1)]) rfl ?_
      refine lv_istore_n (lv' := [(3, .int (-1)), (0, .ref o), (1, .int w), (2, .int b)]) hx hb dX7_topic_32 rfl hl (by decide) rfl (fun ls hl => ?_)
      refine lv_iload_n hx hb dX7_topic_33 rfl (lv_at hl 0 rfl) ?_
      refine lv_iconst (v := (-1)) hx hb dX7_topic_34 (by decide) ?_
      refine lv_icmp_eq (tgt := 54) hx hb dX7_topic_35 (by decide) (fun c_35 => ?_) (fun c_35 => ?_)
      · skip
        refine lv_iload_n hx hb dX7_topic_54 rfl (lv_at hl 0 rfl) ?_
        exact kRetI hx hb hr hlk dX7_topic_55 hP hD hS (Nat.le_of_ble_eq_true rfl) (Nat.le_of_ble_eq_true rfl) ⟨rfl, rfl⟩
      · exact absurd (by decide) c_35
    · skip
      have c_18 := k01_z c_18
      refine lv_iconst (v := (-1)) hx hb dX7_topic_21 (by decide) ?_
      exact kRetI hx hb hr hlk dX7_topic_22 hP hD hS (Nat.le_of_ble_eq_true rfl) (Nat.le_of_ble_eq_true rfl) ⟨rfl, rfl⟩

set_option maxHeartbeats 4000000 in
set_option maxRecDepth 100000 in
theorem c_X7_know (l : Launch) (D : va_G) (cI cJ cZ cO : ClassId) (o : Nat) (t0 : Nat) (h0 : Nat) (w0 : Nat) (r0 : Nat) (k0 : Nat) (s0 : Nat) (kn : Int32) (t1 : Nat) (t2 : Nat) (T : Nat) (wo : Nat → Int32) (cl : Nat → Int32) (b : Int32) : kC l D (kTY cI cJ cZ cO) yX7_know wsX7_know 1 23 0 0 [.ref o, .int b] [(o, .inr (8, [.ref t0, .ref h0, .ref w0, .ref r0, .ref k0, .ref s0, .int kn])), (t0, .inr (5, [.ref t1, .ref t2, .int (nI T)])), (t1, .inl (cI, 12, .inl wo)), (t2, .inl (cI, 12, .inl cl))] (fun rv_ rw_ => rv_ = some (.int (if haveB (nI T) b then closF cl b 12 else -1)) ∧ rw_ = [(o, .inr (8, [.ref t0, .ref h0, .ref w0, .ref r0, .ref k0, .ref s0, .int (if haveB (nI T) b then closF cl b 12 else kn)])), (t0, .inr (5, [.ref t1, .ref t2, .int (nI T)])), (t1, .inl (cI, 12, .inl wo)), (t2, .inl (cI, 12, .inl cl))]) := by
  refine kEnter (cc := cX7_know) (maxL := 2) (ret := (some .int)) (by decide) rfl (Nat.le_of_ble_eq_true rfl) ?_
  intro p e s m args below meth c hx hb hr hml hts hown hlk hnm hK hP hD hS hA ls hl
  have hl : lv_has ls 2 [(0, .ref o), (1, .int b)] := hl
  have hw_f12 := hts (.fieldLink RX7 12 "WhatToRead" "topics" "LWhatToRead$Topics;") (by decide +kernel)
  have hi_X7 : ∀ w ∈ wsX70, w ∈ wsX7_know := by decide +kernel
  have hw_f51 := hts (.fieldLink RX7 51 "WhatToRead" "known" "I") (by decide +kernel)
  refine lv_aload_n hx hb dX7_know_0 rfl (lv_at hl 0 rfl) ?_
  refine va_get (D := D) (ci := 8) (v := .ref t0) (C := RX7) (T := TX7) (N := 7) hx hb hts hi_X7 hown hK.1 hP 0 rfl rfl 0 (by decide) hw_f12 (fun _ h9 => h9) rfl dX7_know_1 ?_
  refine lv_iload_n hx hb dX7_know_4 rfl (lv_at hl 1 rfl) ?_
  refine kGoR (va_runV (As := [.int b]) (rest := []) ⟨hx, hb, hml, hown, hts⟩ (c_X4_haveAll l D cI cJ cZ cO t0 t1 t2 (nI T) wo cl b ) (cwV 1 hts gX7_know_X4_haveAll rfl rfl rfl (by decide +kernel) ⟨Nat.le_of_ble_eq_true rfl, Nat.le_of_ble_eq_true rfl⟩) (kPreVR (ci := 5) (q0 := 0) hK (kPc_sub hP [1, 2, 3] rfl) rfl rfl rfl) rfl rfl hl.1 rfl (lv_room (Nat.le_of_ble_eq_true rfl)) dX7_know_5 ⟨Nat.le_of_ble_eq_true rfl, Nat.le_of_ble_eq_true rfl⟩) (fun v_1 hv_1 => ?_)
  obtain rfl := hv_1
  refine W.eq (g2 := F0 m 8 ls [.int (k01 (haveB (nI T) b))]) rfl ?_
  refine lv_if_ne (tgt := 13) hx hb dX7_know_8 (by decide) (fun c_8 => ?_) (fun c_8 => ?_)
  · skip
    have c_8 := k01_n c_8
    refine lv_aload_n hx hb dX7_know_13 rfl (lv_at hl 0 rfl) ?_
    refine lv_aload_n hx hb dX7_know_14 rfl (lv_at hl 0 rfl) ?_
    refine va_get (D := D) (ci := 8) (v := .ref t0) (C := RX7) (T := TX7) (N := 7) hx hb hts hi_X7 hown hK.1 hP 0 rfl rfl 0 (by decide) hw_f12 (fun _ h9 => h9) rfl dX7_know_15 ?_
    refine lv_iload_n hx hb dX7_know_18 rfl (lv_at hl 1 rfl) ?_
    refine kGoR (va_runV (As := [.int b]) (rest := [.ref o]) ⟨hx, hb, hml, hown, hts⟩ (c_X4_closure l D cI cJ cZ cO t0 t1 t2 (nI T) wo cl b ) (cwV 1 hts gX7_know_X4_closure rfl rfl rfl (by decide +kernel) ⟨Nat.le_of_ble_eq_true rfl, Nat.le_of_ble_eq_true rfl⟩) (kPreVR (ci := 5) (q0 := 0) hK (kPc_sub hP [1, 2, 3] rfl) rfl rfl rfl) rfl rfl hl.1 rfl (lv_room (Nat.le_of_ble_eq_true rfl)) dX7_know_19 ⟨Nat.le_of_ble_eq_true rfl, Nat.le_of_ble_eq_true rfl⟩) (fun v_2 hv_2 => ?_)
    obtain rfl := hv_2
    refine W.eq (g2 := F0 m 22 ls [.int (closF cl b 12), .ref o]) rfl ?_
    refine va_put (D := D) (ci := 8) (v := .int (closF cl b 12)) (ty := .int) (C := RX7) (T := TX7) (N := 7) hx hb hts hi_X7 tyX7 tyX7_ok nmX7 hown hK.1 hP hD hS 0 rfl rfl 6 (by decide) hw_f51 (fun _ h9 => h9) rfl (by decide +kernel) rfl rfl (Nat.le_of_ble_eq_true rfl) dX7_know_22 (fun H locs hP hD hS => ?_)
    have hP : va_P D vwCl [(o, .inr (8, [.ref t0, .ref h0, .ref w0, .ref r0, .ref k0, .ref s0, .int (closF cl b 12)])), (t0, .inr (5, [.ref t1, .ref t2, .int (nI T)])), (t1, .inl (cI, 12, .inl wo)), (t2, .inl (cI, 12, .inl cl))] H := hP
    have hD : va_D _ [(o, .inr (8, [.ref t0, .ref h0, .ref w0, .ref r0, .ref k0, .ref s0, .int (closF cl b 12)])), (t0, .inr (5, [.ref t1, .ref t2, .int (nI T)])), (t1, .inl (cI, 12, .inl wo)), (t2, .inl (cI, 12, .inl cl))] := hD
    refine lv_aload_n hx hb dX7_know_25 rfl (lv_at hl 0 rfl) ?_
    refine va_get (D := D) (ci := 8) (v := .int (closF cl b 12)) (C := RX7) (T := TX7) (N := 7) hx hb hts hi_X7 hown hK.1 hP 0 rfl rfl 6 (by decide) hw_f51 (fun _ h9 => h9) rfl dX7_know_26 ?_
    have ew_0 : (closF cl b 12 : Int32) = if haveB (nI T) b then closF cl b 12 else kn := by simp [c_8]
    exact kRetI hx hb hr hlk dX7_know_29 hP hD hS (Nat.le_of_ble_eq_true rfl) (Nat.le_of_ble_eq_true rfl) ⟨(kpi (by simp [c_8])), (kw1 (fun (z_0 : Int32) => ([(o, .inr (8, [.ref t0, .ref h0, .ref w0, .ref r0, .ref k0, .ref s0, .int z_0])), (t0, .inr (5, [.ref t1, .ref t2, .int (nI T)])), (t1, .inl (cI, 12, .inl wo)), (t2, .inl (cI, 12, .inl cl))] : va_W)) ew_0)⟩
  · skip
    have c_8 := k01_z c_8
    refine lv_iconst (v := (-1)) hx hb dX7_know_11 (by decide) ?_
    have ew_0 : (kn : Int32) = if haveB (nI T) b then closF cl b 12 else kn := by simp [c_8]
    exact kRetI hx hb hr hlk dX7_know_12 hP hD hS (Nat.le_of_ble_eq_true rfl) (Nat.le_of_ble_eq_true rfl) ⟨(kpi (by simp [c_8])), (kw1 (fun (z_0 : Int32) => ([(o, .inr (8, [.ref t0, .ref h0, .ref w0, .ref r0, .ref k0, .ref s0, .int z_0])), (t0, .inr (5, [.ref t1, .ref t2, .int (nI T)])), (t1, .inl (cI, 12, .inl wo)), (t2, .inl (cI, 12, .inl cl))] : va_W)) ew_0)⟩

set_option maxHeartbeats 4000000 in
set_option maxRecDepth 100000 in
theorem c_X7_with (l : Launch) (D : va_G) (cI cJ cZ cO : ClassId) (o : Nat) (t0 : Nat) (h0 : Nat) (w0 : Nat) (r0 : Nat) (k0 : Nat) (s0 : Nat) (kn : Int32) (t1 : Nat) (t2 : Nat) (T : Nat) (wo : Nat → Int32) (cl : Nat → Int32) (b : Int32) : kR l D (kTY cI cJ cZ cO) yX7_with wsX7_with 1 23 [.ref o, .int b] [(o, .inr (8, [.ref t0, .ref h0, .ref w0, .ref r0, .ref k0, .ref s0, .int kn])), (t0, .inr (5, [.ref t1, .ref t2, .int (nI T)])), (t1, .inl (cI, 12, .inl wo)), (t2, .inl (cI, 12, .inl cl))] (fun rv_ => rv_ = some (.int (if haveB (nI T) b then closF cl b 12 else -1))) := by
  refine kEnterR (cc := cX7_with) (maxL := 2) (ret := (some .int)) (by decide) rfl (Nat.le_of_ble_eq_true rfl) ?_
  intro p e s m args below meth c hx hb hr hml hts hown hlk hK hP ls hl
  have hl : lv_has ls 2 [(0, .ref o), (1, .int b)] := hl
  have hw_f12 := hts (.fieldLink RX7 12 "WhatToRead" "topics" "LWhatToRead$Topics;") (by decide +kernel)
  have hi_X7 : ∀ w ∈ wsX70, w ∈ wsX7_with := by decide +kernel
  refine lv_aload_n hx hb dX7_with_0 rfl (lv_at hl 0 rfl) ?_
  refine va_get (D := D) (ci := 8) (v := .ref t0) (C := RX7) (T := TX7) (N := 7) hx hb hts hi_X7 hown hK.1 hP 0 rfl rfl 0 (by decide) hw_f12 (fun _ h9 => h9) rfl dX7_with_1 ?_
  refine lv_iload_n hx hb dX7_with_4 rfl (lv_at hl 1 rfl) ?_
  refine kGoR (va_runV (As := [.int b]) (rest := []) ⟨hx, hb, hml, hown, hts⟩ (c_X4_haveAll l D cI cJ cZ cO t0 t1 t2 (nI T) wo cl b ) (cwV 1 hts gX7_with_X4_haveAll rfl rfl rfl (by decide +kernel) ⟨Nat.le_of_ble_eq_true rfl, Nat.le_of_ble_eq_true rfl⟩) (kPreVR (ci := 5) (q0 := 0) hK (kPc_sub hP [1, 2, 3] rfl) rfl rfl rfl) rfl rfl hl.1 rfl (lv_room (Nat.le_of_ble_eq_true rfl)) dX7_with_5 ⟨Nat.le_of_ble_eq_true rfl, Nat.le_of_ble_eq_true rfl⟩) (fun v_1 hv_1 => ?_)
  obtain rfl := hv_1
  refine W.eq (g2 := F0 m 8 ls [.int (k01 (haveB (nI T) b))]) rfl ?_
  refine lv_if_eq (tgt := 22) hx hb dX7_with_8 (by decide) (fun c_8 => ?_) (fun c_8 => ?_)
  · skip
    have c_8 := k01_z c_8
    refine lv_iconst (v := (-1)) hx hb dX7_with_22 (by decide) ?_
    exact kRetIr hx hb hr hlk dX7_with_23 (kpi (by simp [c_8]))
  · skip
    have c_8 := k01_n c_8
    refine lv_aload_n hx hb dX7_with_11 rfl (lv_at hl 0 rfl) ?_
    refine va_get (D := D) (ci := 8) (v := .ref t0) (C := RX7) (T := TX7) (N := 7) hx hb hts hi_X7 hown hK.1 hP 0 rfl rfl 0 (by decide) hw_f12 (fun _ h9 => h9) rfl dX7_with_12 ?_
    refine lv_iload_n hx hb dX7_with_15 rfl (lv_at hl 1 rfl) ?_
    refine kGoR (va_runV (As := [.int b]) (rest := []) ⟨hx, hb, hml, hown, hts⟩ (c_X4_closure l D cI cJ cZ cO t0 t1 t2 (nI T) wo cl b ) (cwV 1 hts gX7_with_X4_closure rfl rfl rfl (by decide +kernel) ⟨Nat.le_of_ble_eq_true rfl, Nat.le_of_ble_eq_true rfl⟩) (kPreVR (ci := 5) (q0 := 0) hK (kPc_sub hP [1, 2, 3] rfl) rfl rfl rfl) rfl rfl hl.1 rfl (lv_room (Nat.le_of_ble_eq_true rfl)) dX7_with_16 ⟨Nat.le_of_ble_eq_true rfl, Nat.le_of_ble_eq_true rfl⟩) (fun v_2 hv_2 => ?_)
    obtain rfl := hv_2
    refine W.eq (g2 := F0 m 19 ls [.int (closF cl b 12)]) rfl ?_
    refine lv_goto (tgt := 23) hx hb dX7_with_19 (by decide) ?_
    exact kRetIr hx hb hr hlk dX7_with_23 (kpi (by simp [c_8]))

set_option maxHeartbeats 4000000 in
set_option maxRecDepth 100000 in
theorem c_X7_step (l : Launch) (D : va_G) (cI cJ cZ cO : ClassId) (o : Nat) (t0 : Nat) (h0 : Nat) (w0 : Nat) (r0 : Nat) (k0 : Nat) (s0 : Nat) (kn : Int32) (r1 : Nat) (rn : Nat) (rf : Nat → Int32) (i : Int32) : kR l D (kTY cI cJ cZ cO) yX7_step wsX7_step 1 21 [.ref o, .int i] [(o, .inr (8, [.ref t0, .ref h0, .ref w0, .ref r0, .ref k0, .ref s0, .int kn])), (r0, .inr (3, [.ref r1, .int (nI rn)])), (r1, .inl (cI, 12, .inl rf))] (fun rv_ => rv_ = some (.int (rowAt rf (nI rn) i))) := by
  refine kEnterR (cc := cX7_step) (maxL := 2) (ret := (some .int)) (by decide) rfl (Nat.le_of_ble_eq_true rfl) ?_
  intro p e s m args below meth c hx hb hr hml hts hown hlk hK hP ls hl
  have hl : lv_has ls 2 [(0, .ref o), (1, .int i)] := hl
  have hw_f33 := hts (.fieldLink RX7 33 "WhatToRead" "row" "LWhatToRead$Row;") (by decide +kernel)
  have hi_X7 : ∀ w ∈ wsX70, w ∈ wsX7_step := by decide +kernel
  refine lv_aload_n hx hb dX7_step_0 rfl (lv_at hl 0 rfl) ?_
  refine va_get (D := D) (ci := 8) (v := .ref r0) (C := RX7) (T := TX7) (N := 7) hx hb hts hi_X7 hown hK.1 hP 0 rfl rfl 3 (by decide) hw_f33 (fun _ h9 => h9) rfl dX7_step_1 ?_
  refine lv_iload_n hx hb dX7_step_4 rfl (lv_at hl 1 rfl) ?_
  refine kGoR (va_runV (As := [.int i]) (rest := []) ⟨hx, hb, hml, hown, hts⟩ (c_X2_at l D cI cJ cZ cO r0 r1 (nI rn) rf i ) (cwV 1 hts gX7_step_X2_at rfl rfl rfl (by decide +kernel) ⟨Nat.le_of_ble_eq_true rfl, Nat.le_of_ble_eq_true rfl⟩) (kPreVR (ci := 3) (q0 := 0) hK (kPc_sub hP [1, 2] rfl) rfl rfl rfl) rfl rfl hl.1 rfl (lv_room (Nat.le_of_ble_eq_true rfl)) dX7_step_5 ⟨Nat.le_of_ble_eq_true rfl, Nat.le_of_ble_eq_true rfl⟩) (fun v_1 hv_1 => ?_)
  obtain rfl := hv_1
  refine W.eq (g2 := F0 m 8 ls [.int (rowAt rf (nI rn) i)]) rfl ?_
  exact kRetIr hx hb hr hlk dX7_step_8 rfl

set_option maxHeartbeats 4000000 in
set_option maxRecDepth 100000 in
theorem c_X7_laid (l : Launch) (D : va_G) (cI cJ cZ cO : ClassId) (o : Nat) (t0 : Nat) (h0 : Nat) (w0 : Nat) (r0 : Nat) (k0 : Nat) (s0 : Nat) (kn : Int32) (k1 : Nat) (k2 : Nat) (k3 : Nat) (k4 : Nat) (ln : Nat) (lf : Nat → Int32) (i : Int32) : kR l D (kTY cI cJ cZ cO) yX7_laid wsX7_laid 2 42 [.ref o, .int i] [(o, .inr (8, [.ref t0, .ref h0, .ref w0, .ref r0, .ref k0, .ref s0, .int kn])), (k0, .inr (7, [.ref k1, .ref k2, .ref k3])), (k2, .inr (3, [.ref k4, .int (nI ln)])), (k4, .inl (cI, 12, .inl lf))] (fun rv_ => rv_ = some (.int (rowAt lf (nI ln) i))) := by
  refine kEnterR (cc := cX7_laid) (maxL := 2) (ret := (some .int)) (by decide) rfl (Nat.le_of_ble_eq_true rfl) ?_
  intro p e s m args below meth c hx hb hr hml hts hown hlk hK hP ls hl
  have hl : lv_has ls 2 [(0, .ref o), (1, .int i)] := hl
  have hw_f40 := hts (.fieldLink RX7 40 "WhatToRead" "weeks" "LWhatToRead$Weeks;") (by decide +kernel)
  have hi_X7 : ∀ w ∈ wsX70, w ∈ wsX7_laid := by decide +kernel
  refine lv_aload_n hx hb dX7_laid_0 rfl (lv_at hl 0 rfl) ?_
  refine va_get (D := D) (ci := 8) (v := .ref k0) (C := RX7) (T := TX7) (N := 7) hx hb hts hi_X7 hown hK.1 hP 0 rfl rfl 4 (by decide) hw_f40 (fun _ h9 => h9) rfl dX7_laid_1 ?_
  refine lv_iload_n hx hb dX7_laid_4 rfl (lv_at hl 1 rfl) ?_
  refine kGoR (va_runV (As := [.int i]) (rest := []) ⟨hx, hb, hml, hown, hts⟩ (c_X6_weekOf l D cI cJ cZ cO k0 k1 k2 k3 k4 ln lf i ) (cwV 1 hts gX7_laid_X6_weekOf rfl rfl rfl (by decide +kernel) ⟨Nat.le_of_ble_eq_true rfl, Nat.le_of_ble_eq_true rfl⟩) (kPreVR (ci := 7) (q0 := 0) hK (kPc_sub hP [1, 2, 3] rfl) rfl rfl rfl) rfl rfl hl.1 rfl (lv_room (Nat.le_of_ble_eq_true rfl)) dX7_laid_5 ⟨Nat.le_of_ble_eq_true rfl, Nat.le_of_ble_eq_true rfl⟩) (fun v_1 hv_1 => ?_)
  obtain rfl := hv_1
  refine W.eq (g2 := F0 m 8 ls [.int (rowAt lf (nI ln) i)]) rfl ?_
  exact kRetIr hx hb hr hlk dX7_laid_8 rfl

set_option maxHeartbeats 4000000 in
set_option maxRecDepth 100000 in
theorem c_X7_states (l : Launch) (D : va_G) (cI cJ cZ cO : ClassId) (o : Nat) (t0 : Nat) (h0 : Nat) (w0 : Nat) (r0 : Nat) (k0 : Nat) (s0 : Nat) (kn : Int32) (s1 : Nat) (s2 : Nat) (ns : Nat) (an : Int32) (sf : Nat → Int32) (sg : Nat → Int32) : kR l D (kTY cI cJ cZ cO) yX7_states wsX7_states 1 20 [.ref o] [(o, .inr (8, [.ref t0, .ref h0, .ref w0, .ref r0, .ref k0, .ref s0, .int kn])), (s0, .inr (1, [.ref s1, .ref s2, .int (nI ns), .int an])), (s1, .inl (cI, 4096, .inl sf)), (s2, .inl (cI, 64, .inl sg))] (fun rv_ => rv_ = some (.int (nI ns))) := by
  refine kEnterR (cc := cX7_states) (maxL := 1) (ret := (some .int)) (by decide) rfl (Nat.le_of_ble_eq_true rfl) ?_
  intro p e s m args below meth c hx hb hr hml hts hown hlk hK hP ls hl
  have hl : lv_has ls 1 [(0, .ref o)] := hl
  have hw_f47 := hts (.fieldLink RX7 47 "WhatToRead" "asking" "LWhatToRead$Asking;") (by decide +kernel)
  have hi_X7 : ∀ w ∈ wsX70, w ∈ wsX7_states := by decide +kernel
  refine lv_aload_n hx hb dX7_states_0 rfl (lv_at hl 0 rfl) ?_
  refine va_get (D := D) (ci := 8) (v := .ref s0) (C := RX7) (T := TX7) (N := 7) hx hb hts hi_X7 hown hK.1 hP 0 rfl rfl 5 (by decide) hw_f47 (fun _ h9 => h9) rfl dX7_states_1 ?_
  refine kGoR (va_runV (As := []) (rest := []) ⟨hx, hb, hml, hown, hts⟩ (c_X0_size l D cI cJ cZ cO s0 s1 s2 ns an sf sg ) (cwV 0 hts gX7_states_X0_size rfl rfl rfl (by decide +kernel) ⟨Nat.le_of_ble_eq_true rfl, Nat.le_of_ble_eq_true rfl⟩) (kPreVR (ci := 1) (q0 := 0) hK (kPc_sub hP [1, 2, 3] rfl) rfl rfl rfl) rfl rfl hl.1 rfl (lv_room (Nat.le_of_ble_eq_true rfl)) dX7_states_4 ⟨Nat.le_of_ble_eq_true rfl, Nat.le_of_ble_eq_true rfl⟩) (fun v_1 hv_1 => ?_)
  obtain rfl := hv_1
  refine W.eq (g2 := F0 m 7 ls [.int (nI ns)]) rfl ?_
  exact kRetIr hx hb hr hlk dX7_states_7 rfl

set_option maxHeartbeats 4000000 in
set_option maxRecDepth 100000 in
theorem c_X7_question (l : Launch) (D : va_G) (cI cJ cZ cO : ClassId) (o : Nat) (t0 : Nat) (h0 : Nat) (w0 : Nat) (r0 : Nat) (k0 : Nat) (s0 : Nat) (kn : Int32) (s1 : Nat) (s2 : Nat) (ns : Nat) (an : Int32) (sf : Nat → Int32) (sg : Nat → Int32) (hns : ns ≤ 4096) : kR l D (kTY cI cJ cZ cO) yX7_question wsX7_question 4 93 [.ref o] [(o, .inr (8, [.ref t0, .ref h0, .ref w0, .ref r0, .ref k0, .ref s0, .int kn])), (s0, .inr (1, [.ref s1, .ref s2, .int (nI ns), .int an])), (s1, .inl (cI, 4096, .inl sf)), (s2, .inl (cI, 64, .inl sg))] (fun rv_ => rv_ = some (.int ((bestF sf 0 ns 12).1))) := by
  refine kEnterR (cc := cX7_question) (maxL := 1) (ret := (some .int)) (by decide) rfl (Nat.le_of_ble_eq_true rfl) ?_
  intro p e s m args below meth c hx hb hr hml hts hown hlk hK hP ls hl
  have hl : lv_has ls 1 [(0, .ref o)] := hl
  have hw_f47 := hts (.fieldLink RX7 47 "WhatToRead" "asking" "LWhatToRead$Asking;") (by decide +kernel)
  have hi_X7 : ∀ w ∈ wsX70, w ∈ wsX7_question := by decide +kernel
  refine lv_aload_n hx hb dX7_question_0 rfl (lv_at hl 0 rfl) ?_
  refine va_get (D := D) (ci := 8) (v := .ref s0) (C := RX7) (T := TX7) (N := 7) hx hb hts hi_X7 hown hK.1 hP 0 rfl rfl 5 (by decide) hw_f47 (fun _ h9 => h9) rfl dX7_question_1 ?_
  refine kGoR (va_runV (As := []) (rest := []) ⟨hx, hb, hml, hown, hts⟩ (c_X0_nextQuestion l D cI cJ cZ cO s0 s1 s2 ns an sf sg (by first | assumption | omega | decide)) (cwV 0 hts gX7_question_X0_nextQuestion rfl rfl rfl (by decide +kernel) ⟨Nat.le_of_ble_eq_true rfl, Nat.le_of_ble_eq_true rfl⟩) (kPreVR (ci := 1) (q0 := 0) hK (kPc_sub hP [1, 2, 3] rfl) rfl rfl rfl) rfl rfl hl.1 rfl (lv_room (Nat.le_of_ble_eq_true rfl)) dX7_question_4 ⟨Nat.le_of_ble_eq_true rfl, Nat.le_of_ble_eq_true rfl⟩) (fun v_1 hv_1 => ?_)
  obtain rfl := hv_1
  refine W.eq (g2 := F0 m 7 ls [.int ((bestF sf 0 ns 12).1)]) rfl ?_
  exact kRetIr hx hb hr hlk dX7_question_7 rfl

set_option maxHeartbeats 4000000 in
set_option maxRecDepth 100000 in
theorem c_X7_settle (l : Launch) (D : va_G) (cI cJ cZ cO : ClassId) (o : Nat) (t0 : Nat) (h0 : Nat) (w0 : Nat) (r0 : Nat) (k0 : Nat) (s0 : Nat) (kn : Int32) (s1 : Nat) (s2 : Nat) (ns : Nat) (an : Int32) (sf : Nat → Int32) (sg : Nat → Int32) (hns : ns ≤ 4096) : kC l D (kTY cI cJ cZ cO) yX7_settle wsX7_settle 1 22 0 0 [.ref o] [(o, .inr (8, [.ref t0, .ref h0, .ref w0, .ref r0, .ref k0, .ref s0, .int kn])), (s0, .inr (1, [.ref s1, .ref s2, .int (nI ns), .int an])), (s1, .inl (cI, 4096, .inl sf)), (s2, .inl (cI, 64, .inl sg))] (fun rv_ rw_ => rv_ = some (.int (comF sf ns)) ∧ rw_ = [(o, .inr (8, [.ref t0, .ref h0, .ref w0, .ref r0, .ref k0, .ref s0, .int (comF sf ns)])), (s0, .inr (1, [.ref s1, .ref s2, .int (nI ns), .int an])), (s1, .inl (cI, 4096, .inl sf)), (s2, .inl (cI, 64, .inl sg))]) := by
  refine kEnter (cc := cX7_settle) (maxL := 1) (ret := (some .int)) (by decide) rfl (Nat.le_of_ble_eq_true rfl) ?_
  intro p e s m args below meth c hx hb hr hml hts hown hlk hnm hK hP hD hS hA ls hl
  have hl : lv_has ls 1 [(0, .ref o)] := hl
  have hw_f47 := hts (.fieldLink RX7 47 "WhatToRead" "asking" "LWhatToRead$Asking;") (by decide +kernel)
  have hi_X7 : ∀ w ∈ wsX70, w ∈ wsX7_settle := by decide +kernel
  have hw_f51 := hts (.fieldLink RX7 51 "WhatToRead" "known" "I") (by decide +kernel)
  refine lv_aload_n hx hb dX7_settle_0 rfl (lv_at hl 0 rfl) ?_
  refine lv_aload_n hx hb dX7_settle_1 rfl (lv_at hl 0 rfl) ?_
  refine va_get (D := D) (ci := 8) (v := .ref s0) (C := RX7) (T := TX7) (N := 7) hx hb hts hi_X7 hown hK.1 hP 0 rfl rfl 5 (by decide) hw_f47 (fun _ h9 => h9) rfl dX7_settle_2 ?_
  refine kGoR (va_runV (As := []) (rest := [.ref o]) ⟨hx, hb, hml, hown, hts⟩ (c_X0_inCommon l D cI cJ cZ cO s0 s1 s2 ns an sf sg (by first | assumption | omega | decide)) (cwV 0 hts gX7_settle_X0_inCommon rfl rfl rfl (by decide +kernel) ⟨Nat.le_of_ble_eq_true rfl, Nat.le_of_ble_eq_true rfl⟩) (kPreVR (ci := 1) (q0 := 0) hK (kPc_sub hP [1, 2, 3] rfl) rfl rfl rfl) rfl rfl hl.1 rfl (lv_room (Nat.le_of_ble_eq_true rfl)) dX7_settle_5 ⟨Nat.le_of_ble_eq_true rfl, Nat.le_of_ble_eq_true rfl⟩) (fun v_1 hv_1 => ?_)
  obtain rfl := hv_1
  refine W.eq (g2 := F0 m 8 ls [.int (comF sf ns), .ref o]) rfl ?_
  refine va_put (D := D) (ci := 8) (v := .int (comF sf ns)) (ty := .int) (C := RX7) (T := TX7) (N := 7) hx hb hts hi_X7 tyX7 tyX7_ok nmX7 hown hK.1 hP hD hS 0 rfl rfl 6 (by decide) hw_f51 (fun _ h9 => h9) rfl (by decide +kernel) rfl rfl (Nat.le_of_ble_eq_true rfl) dX7_settle_8 (fun H locs hP hD hS => ?_)
  have hP : va_P D vwCl [(o, .inr (8, [.ref t0, .ref h0, .ref w0, .ref r0, .ref k0, .ref s0, .int (comF sf ns)])), (s0, .inr (1, [.ref s1, .ref s2, .int (nI ns), .int an])), (s1, .inl (cI, 4096, .inl sf)), (s2, .inl (cI, 64, .inl sg))] H := hP
  have hD : va_D _ [(o, .inr (8, [.ref t0, .ref h0, .ref w0, .ref r0, .ref k0, .ref s0, .int (comF sf ns)])), (s0, .inr (1, [.ref s1, .ref s2, .int (nI ns), .int an])), (s1, .inl (cI, 4096, .inl sf)), (s2, .inl (cI, 64, .inl sg))] := hD
  refine lv_aload_n hx hb dX7_settle_11 rfl (lv_at hl 0 rfl) ?_
  refine va_get (D := D) (ci := 8) (v := .int (comF sf ns)) (C := RX7) (T := TX7) (N := 7) hx hb hts hi_X7 hown hK.1 hP 0 rfl rfl 6 (by decide) hw_f51 (fun _ h9 => h9) rfl dX7_settle_12 ?_
  exact kRetI hx hb hr hlk dX7_settle_15 hP hD hS (Nat.le_of_ble_eq_true rfl) (Nat.le_of_ble_eq_true rfl) ⟨rfl, rfl⟩

set_option maxHeartbeats 4000000 in
set_option maxRecDepth 100000 in
theorem c_X7_answer (l : Launch) (D : va_G) (cI cJ cZ cO : ClassId) (o : Nat) (t0 : Nat) (h0 : Nat) (w0 : Nat) (r0 : Nat) (k0 : Nat) (s0 : Nat) (kn : Int32) (t1 : Nat) (t2 : Nat) (T : Nat) (wo : Nat → Int32) (cl : Nat → Int32) (s1 : Nat) (s2 : Nat) (ns : Nat) (an : Int32) (sf : Nat → Int32) (sg : Nat → Int32) (t : Int32) (is : Bool) (hns : ns ≤ 4096) : kC l D (kTY cI cJ cZ cO) yX7_answer wsX7_answer 3 70 0 0 [.ref o, .int t, .int (k01 is)] [(o, .inr (8, [.ref t0, .ref h0, .ref w0, .ref r0, .ref k0, .ref s0, .int kn])), (t0, .inr (5, [.ref t1, .ref t2, .int (nI T)])), (t1, .inl (cI, 12, .inl wo)), (t2, .inl (cI, 12, .inl cl)), (s0, .inr (1, [.ref s1, .ref s2, .int (nI ns), .int an])), (s1, .inl (cI, 4096, .inl sf)), (s2, .inl (cI, 64, .inl sg))] (fun rv_ rw_ => rv_ = some (.int (if withinB t 0 (nI T - 1) then (if accB sf ns an t is then nI (keepF sf t is ns).2 else -1) else -1)) ∧ rw_ = [(o, .inr (8, [.ref t0, .ref h0, .ref w0, .ref r0, .ref k0, .ref s0, .int kn])), (t0, .inr (5, [.ref t1, .ref t2, .int (nI T)])), (t1, .inl (cI, 12, .inl wo)), (t2, .inl (cI, 12, .inl cl)), (s0, .inr (1, [.ref s1, .ref s2, .int (if withinB t 0 (nI T - 1) then (if accB sf ns an t is then nI (keepF sf t is ns).2 else nI ns) else nI ns), .int (if withinB t 0 (nI T - 1) then (if accB sf ns an t is then an ||| (1 <<< (t &&& 31)) else an) else an)])), (s1, .inl (cI, 4096, .inl (if withinB t 0 (nI T - 1) then (if accB sf ns an t is then (keepF sf t is ns).1 else sf) else sf))), (s2, .inl (cI, 64, .inl sg))]) := by
  refine kEnter (cc := cX7_answer) (maxL := 3) (ret := (some .int)) (by decide) rfl (Nat.le_of_ble_eq_true rfl) ?_
  intro p e s m args below meth c hx hb hr hml hts hown hlk hnm hK hP hD hS hA ls hl
  have hl : lv_has ls 3 [(0, .ref o), (1, .int t), (2, .int (k01 is))] := hl
  have hw_f12 := hts (.fieldLink RX7 12 "WhatToRead" "topics" "LWhatToRead$Topics;") (by decide +kernel)
  have hi_X7 : ∀ w ∈ wsX70, w ∈ wsX7_answer := by decide +kernel
  have hw_f47 := hts (.fieldLink RX7 47 "WhatToRead" "asking" "LWhatToRead$Asking;") (by decide +kernel)
  refine lv_iload_n hx hb dX7_answer_0 rfl (lv_at hl 1 rfl) ?_
  refine lv_iconst (v := 0) hx hb dX7_answer_1 (by decide) ?_
  refine lv_aload_n hx hb dX7_answer_2 rfl (lv_at hl 0 rfl) ?_
  refine va_get (D := D) (ci := 8) (v := .ref t0) (C := RX7) (T := TX7) (N := 7) hx hb hts hi_X7 hown hK.1 hP 0 rfl rfl 0 (by decide) hw_f12 (fun _ h9 => h9) rfl dX7_answer_3 ?_
  refine kGoR (va_runV (As := []) (rest := [.int 0, .int t]) ⟨hx, hb, hml, hown, hts⟩ (c_X4_size l D cI cJ cZ cO t0 t1 t2 (nI T) wo cl ) (cwV 0 hts gX7_answer_X4_size rfl rfl rfl (by decide +kernel) ⟨Nat.le_of_ble_eq_true rfl, Nat.le_of_ble_eq_true rfl⟩) (kPreVR (ci := 5) (q0 := 0) hK (kPc_sub hP [1, 2, 3] rfl) rfl rfl rfl) rfl rfl hl.1 rfl (lv_room (Nat.le_of_ble_eq_true rfl)) dX7_answer_6 ⟨Nat.le_of_ble_eq_true rfl, Nat.le_of_ble_eq_true rfl⟩) (fun v_1 hv_1 => ?_)
  obtain rfl := hv_1
  refine W.eq (g2 := F0 m 9 ls [.int (nI T), .int 0, .int t]) rfl ?_
  refine lv_iconst (v := 1) hx hb dX7_answer_9 (by decide) ?_
  refine lv_isub hx hb dX7_answer_10 ?_
  refine kGoR (va_runS (As := [.int t, .int 0, .int ((nI T) - 1)]) (rest := []) ⟨hx, hb, hml, hown, hts⟩ (c_X7_isWithin l D cI cJ cZ cO t 0 ((nI T) - 1) ) (va_cwS 3 hts gX7_answer_X7_isWithin rfl rfl rfl (by decide +kernel) ⟨Nat.le_of_ble_eq_true rfl, Nat.le_of_ble_eq_true rfl⟩) (kPreSR hK (kPc_sub hP [] rfl)) rfl rfl hl.1 rfl (lv_room (Nat.le_of_ble_eq_true rfl)) dX7_answer_11 ⟨Nat.le_of_ble_eq_true rfl, Nat.le_of_ble_eq_true rfl⟩) (fun v_2 hv_2 => ?_)
  obtain rfl := hv_2
  refine W.eq (g2 := F0 m 14 ls [.int (k01 (withinB t 0 ((nI T) - 1)))]) rfl ?_
  refine lv_if_eq (tgt := 29) hx hb dX7_answer_14 (by decide) (fun c_14 => ?_) (fun c_14 => ?_)
  · skip
    have c_14 := k01_z c_14
    refine lv_iconst (v := (-1)) hx hb dX7_answer_29 (by decide) ?_
    have ew_0 : (nI ns : Int32) = if withinB t 0 (nI T - 1) then (if accB sf ns an t is then nI (keepF sf t is ns).2 else nI ns) else nI ns := by simp [c_14]
    have ew_1 : (an : Int32) = if withinB t 0 (nI T - 1) then (if accB sf ns an t is then an ||| (1 <<< (t &&& 31)) else an) else an := by simp [c_14]
    have ew_2 : (sf : Nat → Int32) = if withinB t 0 (nI T - 1) then (if accB sf ns an t is then (keepF sf t is ns).1 else sf) else sf := by simp [c_14]
    exact kRetI hx hb hr hlk dX7_answer_30 hP hD hS (Nat.le_of_ble_eq_true rfl) (Nat.le_of_ble_eq_true rfl) ⟨(kpi (by simp [c_14])), (kw3 (fun (z_0 : Int32) (z_1 : Int32) (z_2 : Nat → Int32) => ([(o, .inr (8, [.ref t0, .ref h0, .ref w0, .ref r0, .ref k0, .ref s0, .int kn])), (t0, .inr (5, [.ref t1, .ref t2, .int (nI T)])), (t1, .inl (cI, 12, .inl wo)), (t2, .inl (cI, 12, .inl cl)), (s0, .inr (1, [.ref s1, .ref s2, .int z_0, .int z_1])), (s1, .inl (cI, 4096, .inl z_2)), (s2, .inl (cI, 64, .inl sg))] : va_W)) ew_0 ew_1 ew_2)⟩
  · skip
    have c_14 := k01_n c_14
    refine lv_aload_n hx hb dX7_answer_17 rfl (lv_at hl 0 rfl) ?_
    refine va_get (D := D) (ci := 8) (v := .ref s0) (C := RX7) (T := TX7) (N := 7) hx hb hts hi_X7 hown hK.1 hP 0 rfl rfl 5 (by decide) hw_f47 (fun _ h9 => h9) rfl dX7_answer_18 ?_
    refine lv_iload_n hx hb dX7_answer_21 rfl (lv_at hl 1 rfl) ?_
    refine lv_iload_n hx hb dX7_answer_22 rfl (lv_at hl 2 rfl) ?_
    refine kGo (wc := [(s0, .inr (1, [.ref s1, .ref s2, .int (nI ns), .int an])), (s1, .inl (cI, 4096, .inl sf)), (s2, .inl (cI, 64, .inl sg))]) (wr := [(o, .inr (8, [.ref t0, .ref h0, .ref w0, .ref r0, .ref k0, .ref s0, .int kn])), (t0, .inr (5, [.ref t1, .ref t2, .int (nI T)])), (t1, .inl (cI, 12, .inl wo)), (t2, .inl (cI, 12, .inl cl))]) (va_runV (As := [.int t, .int (k01 is)]) (rest := []) ⟨hx, hb, hml, hown, hts⟩ (c_X0_accept l D cI cJ cZ cO s0 s1 s2 ns an sf sg t is (by first | assumption | omega | decide) _) (cwV 2 hts gX7_answer_X0_accept rfl rfl rfl (by decide +kernel) ⟨Nat.le_of_ble_eq_true rfl, Nat.le_of_ble_eq_true rfl⟩) (kPreV (ci := 1) (q0 := 0) hK (kPc_sub hP [4, 5, 6] rfl) ((hD.sub [4, 5, 6] (by decide) rfl).weaken (fun _ _ _ _ => trivial)) rfl rfl rfl) rfl rfl hl.1 rfl (lv_room (Nat.le_of_ble_eq_true rfl)) dX7_answer_23 ⟨Nat.le_of_ble_eq_true rfl, Nat.le_of_ble_eq_true rfl⟩) hP hD hS hA [4, 5, 6] [0, 1, 2, 3] rfl rfl (by decide) (by decide) (fun v_3 w_3 H locs hv_3 hP hD hS => ?_)
    obtain ⟨rfl, rfl⟩ := hv_3
    have hP : va_P D vwCl [(o, .inr (8, [.ref t0, .ref h0, .ref w0, .ref r0, .ref k0, .ref s0, .int kn])), (t0, .inr (5, [.ref t1, .ref t2, .int (nI T)])), (t1, .inl (cI, 12, .inl wo)), (t2, .inl (cI, 12, .inl cl)), (s0, .inr (1, [.ref s1, .ref s2, .int (if accB sf ns an t is then nI (keepF sf t is ns).2 else nI ns), .int (if accB sf ns an t is then an ||| (1 <<< (t &&& 31)) else an)])), (s1, .inl (cI, 4096, .inl (if accB sf ns an t is then (keepF sf t is ns).1 else sf))), (s2, .inl (cI, 64, .inl sg))] H := hP.sub [0, 1, 2, 3, 4, 5, 6] rfl
    have hD : va_D _ [(o, .inr (8, [.ref t0, .ref h0, .ref w0, .ref r0, .ref k0, .ref s0, .int kn])), (t0, .inr (5, [.ref t1, .ref t2, .int (nI T)])), (t1, .inl (cI, 12, .inl wo)), (t2, .inl (cI, 12, .inl cl)), (s0, .inr (1, [.ref s1, .ref s2, .int (if accB sf ns an t is then nI (keepF sf t is ns).2 else nI ns), .int (if accB sf ns an t is then an ||| (1 <<< (t &&& 31)) else an)])), (s1, .inl (cI, 4096, .inl (if accB sf ns an t is then (keepF sf t is ns).1 else sf))), (s2, .inl (cI, 64, .inl sg))] := hD.sub [0, 1, 2, 3, 4, 5, 6] (by decide) rfl
    refine W.eq (g2 := F0 m 26 ls [.int (if accB sf ns an t is then nI (keepF sf t is ns).2 else -1)]) rfl ?_
    refine lv_goto (tgt := 30) hx hb dX7_answer_26 (by decide) ?_
    have ew_0 : (if accB sf ns an t is then nI (keepF sf t is ns).2 else nI ns : Int32) = if withinB t 0 (nI T - 1) then (if accB sf ns an t is then nI (keepF sf t is ns).2 else nI ns) else nI ns := by simp [c_14]
    have ew_1 : (if accB sf ns an t is then an ||| (1 <<< (t &&& 31)) else an : Int32) = if withinB t 0 (nI T - 1) then (if accB sf ns an t is then an ||| (1 <<< (t &&& 31)) else an) else an := by simp [c_14]
    have ew_2 : (if accB sf ns an t is then (keepF sf t is ns).1 else sf : Nat → Int32) = if withinB t 0 (nI T - 1) then (if accB sf ns an t is then (keepF sf t is ns).1 else sf) else sf := by simp [c_14]
    exact kRetI hx hb hr hlk dX7_answer_30 hP hD hS (Nat.le_of_ble_eq_true rfl) (Nat.le_of_ble_eq_true rfl) ⟨(kpi (by simp [c_14])), (kw3 (fun (z_0 : Int32) (z_1 : Int32) (z_2 : Nat → Int32) => ([(o, .inr (8, [.ref t0, .ref h0, .ref w0, .ref r0, .ref k0, .ref s0, .int kn])), (t0, .inr (5, [.ref t1, .ref t2, .int (nI T)])), (t1, .inl (cI, 12, .inl wo)), (t2, .inl (cI, 12, .inl cl)), (s0, .inr (1, [.ref s1, .ref s2, .int z_0, .int z_1])), (s1, .inl (cI, 4096, .inl z_2)), (s2, .inl (cI, 64, .inl sg))] : va_W)) ew_0 ew_1 ew_2)⟩

set_option maxHeartbeats 4000000 in
set_option maxRecDepth 100000 in
theorem c_X7_ask (l : Launch) (D : va_G) (cI cJ cZ cO : ClassId) (o : Nat) (t0 : Nat) (h0 : Nat) (w0 : Nat) (r0 : Nat) (k0 : Nat) (s0 : Nat) (kn : Int32) (t1 : Nat) (t2 : Nat) (T : Nat) (wo : Nat → Int32) (cl : Nat → Int32) (s1 : Nat) (s2 : Nat) (ns : Nat) (an : Int32) (sf : Nat → Int32) (sg : Nat → Int32) (hT : T ≤ 12) : kC l D (kTY cI cJ cZ cO) yX7_ask wsX7_ask 2 45 0 0 [.ref o] [(o, .inr (8, [.ref t0, .ref h0, .ref w0, .ref r0, .ref k0, .ref s0, .int kn])), (t0, .inr (5, [.ref t1, .ref t2, .int (nI T)])), (t1, .inl (cI, 12, .inl wo)), (t2, .inl (cI, 12, .inl cl)), (s0, .inr (1, [.ref s1, .ref s2, .int (nI ns), .int an])), (s1, .inl (cI, 4096, .inl sf)), (s2, .inl (cI, 64, .inl sg))] (fun rv_ rw_ => rv_ = some (.int (nI (askF cl sf T).2)) ∧ rw_ = [(o, .inr (8, [.ref t0, .ref h0, .ref w0, .ref r0, .ref k0, .ref s0, .int kn])), (t0, .inr (5, [.ref t1, .ref t2, .int (nI T)])), (t1, .inl (cI, 12, .inl wo)), (t2, .inl (cI, 12, .inl cl)), (s0, .inr (1, [.ref s1, .ref s2, .int (nI (askF cl sf T).2), .int 0])), (s1, .inl (cI, 4096, .inl ((askF cl sf T).1))), (s2, .inl (cI, 64, .inl sg))]) := by
  refine kEnter (cc := cX7_ask) (maxL := 2) (ret := (some .int)) (by decide) rfl (Nat.le_of_ble_eq_true rfl) ?_
  intro p e s m args below meth c hx hb hr hml hts hown hlk hnm hK hP hD hS hA ls hl
  have hl : lv_has ls 2 [(0, .ref o)] := hl
  have hw_f47 := hts (.fieldLink RX7 47 "WhatToRead" "asking" "LWhatToRead$Asking;") (by decide +kernel)
  have hi_X7 : ∀ w ∈ wsX70, w ∈ wsX7_ask := by decide +kernel
  have hw_f12 := hts (.fieldLink RX7 12 "WhatToRead" "topics" "LWhatToRead$Topics;") (by decide +kernel)
  refine lv_aload_n hx hb dX7_ask_0 rfl (lv_at hl 0 rfl) ?_
  refine va_get (D := D) (ci := 8) (v := .ref s0) (C := RX7) (T := TX7) (N := 7) hx hb hts hi_X7 hown hK.1 hP 0 rfl rfl 5 (by decide) hw_f47 (fun _ h9 => h9) rfl dX7_ask_1 ?_
  refine kGo (wc := [(s0, .inr (1, [.ref s1, .ref s2, .int (nI ns), .int an])), (s1, .inl (cI, 4096, .inl sf)), (s2, .inl (cI, 64, .inl sg))]) (wr := [(o, .inr (8, [.ref t0, .ref h0, .ref w0, .ref r0, .ref k0, .ref s0, .int kn])), (t0, .inr (5, [.ref t1, .ref t2, .int (nI T)])), (t1, .inl (cI, 12, .inl wo)), (t2, .inl (cI, 12, .inl cl))]) (va_runV (As := []) (rest := []) ⟨hx, hb, hml, hown, hts⟩ (c_X0_startAnew l D cI cJ cZ cO s0 s1 s2 ns an sf sg  _) (cwV 0 hts gX7_ask_X0_startAnew rfl rfl rfl (by decide +kernel) ⟨Nat.le_of_ble_eq_true rfl, Nat.le_of_ble_eq_true rfl⟩) (kPreV (ci := 1) (q0 := 0) hK (kPc_sub hP [4, 5, 6] rfl) ((hD.sub [4, 5, 6] (by decide) rfl).weaken (fun _ _ _ _ => trivial)) rfl rfl rfl) rfl rfl hl.1 rfl (lv_room (Nat.le_of_ble_eq_true rfl)) dX7_ask_4 ⟨Nat.le_of_ble_eq_true rfl, Nat.le_of_ble_eq_true rfl⟩) hP hD hS hA [4, 5, 6] [0, 1, 2, 3] rfl rfl (by decide) (by decide) (fun v_1 w_1 H locs hv_1 hP hD hS => ?_)
  obtain ⟨rfl, rfl⟩ := hv_1
  have hP : va_P D vwCl [(o, .inr (8, [.ref t0, .ref h0, .ref w0, .ref r0, .ref k0, .ref s0, .int kn])), (t0, .inr (5, [.ref t1, .ref t2, .int (nI T)])), (t1, .inl (cI, 12, .inl wo)), (t2, .inl (cI, 12, .inl cl)), (s0, .inr (1, [.ref s1, .ref s2, .int 1, .int 0])), (s1, .inl (cI, 4096, .inl (upd sf 0 0))), (s2, .inl (cI, 64, .inl sg))] H := hP.sub [0, 1, 2, 3, 4, 5, 6] rfl
  have hD : va_D _ [(o, .inr (8, [.ref t0, .ref h0, .ref w0, .ref r0, .ref k0, .ref s0, .int kn])), (t0, .inr (5, [.ref t1, .ref t2, .int (nI T)])), (t1, .inl (cI, 12, .inl wo)), (t2, .inl (cI, 12, .inl cl)), (s0, .inr (1, [.ref s1, .ref s2, .int 1, .int 0])), (s1, .inl (cI, 4096, .inl (upd sf 0 0))), (s2, .inl (cI, 64, .inl sg))] := hD.sub [0, 1, 2, 3, 4, 5, 6] (by decide) rfl
  refine W.eq (g2 := F0 m 7 ls []) rfl ?_
  refine lv_iconst (v := 0) hx hb dX7_ask_7 (by decide) ?_
  refine lv_istore_n (lv' := [(1, .int 0), (0, .ref o)]) hx hb dX7_ask_8 rfl hl (by decide) rfl (fun ls hl => ?_)
  have hloop_9 : ∀ (fu : Nat) (t : Nat) (mm : Nat) (x : Nat → Int32), T - t < fu → t ≤ T → mm = (askF cl sf t).2 → x = (askF cl sf t).1 → ∀ (H : Heap) (locs : List Loc), va_P D vwCl [(o, .inr (8, [.ref t0, .ref h0, .ref w0, .ref r0, .ref k0, .ref s0, .int kn])), (t0, .inr (5, [.ref t1, .ref t2, .int (nI T)])), (t1, .inl (cI, 12, .inl wo)), (t2, .inl (cI, 12, .inl cl)), (s0, .inr (1, [.ref s1, .ref s2, .int (nI mm), .int 0])), (s1, .inl (cI, 4096, .inl x)), (s2, .inl (cI, 64, .inl sg))] H → va_D (va_A [(o, .inr (8, [.ref t0, .ref h0, .ref w0, .ref r0, .ref k0, .ref s0, .int kn])), (t0, .inr (5, [.ref t1, .ref t2, .int (nI T)])), (t1, .inl (cI, 12, .inl wo)), (t2, .inl (cI, 12, .inl cl)), (s0, .inr (1, [.ref s1, .ref s2, .int (nI ns), .int an])), (s1, .inl (cI, 4096, .inl sf)), (s2, .inl (cI, 64, .inl sg))] s.heap.size) [(o, .inr (8, [.ref t0, .ref h0, .ref w0, .ref r0, .ref k0, .ref s0, .int kn])), (t0, .inr (5, [.ref t1, .ref t2, .int (nI T)])), (t1, .inl (cI, 12, .inl wo)), (t2, .inl (cI, 12, .inl cl)), (s0, .inr (1, [.ref s1, .ref s2, .int (nI mm), .int 0])), (s1, .inl (cI, 4096, .inl x)), (s2, .inl (cI, 64, .inl sg))] → va_S (va_A [(o, .inr (8, [.ref t0, .ref h0, .ref w0, .ref r0, .ref k0, .ref s0, .int kn])), (t0, .inr (5, [.ref t1, .ref t2, .int (nI T)])), (t1, .inl (cI, 12, .inl wo)), (t2, .inl (cI, 12, .inl cl)), (s0, .inr (1, [.ref s1, .ref s2, .int (nI ns), .int an])), (s1, .inl (cI, 4096, .inl sf)), (s2, .inl (cI, 64, .inl sg))] s.heap.size) s.heap H locs → ∀ ls : Array Slot, lv_has ls 2 [(0, .ref o), (1, .int (nI t))] → W p l e ({ frames := 2, cells := 0, slots := 0, locals := 45 }) s m args below meth c H locs 0 0 (MQ below (kQ D [(o, .inr (8, [.ref t0, .ref h0, .ref w0, .ref r0, .ref k0, .ref s0, .int kn])), (t0, .inr (5, [.ref t1, .ref t2, .int (nI T)])), (t1, .inl (cI, 12, .inl wo)), (t2, .inl (cI, 12, .inl cl)), (s0, .inr (1, [.ref s1, .ref s2, .int (nI ns), .int an])), (s1, .inl (cI, 4096, .inl sf)), (s2, .inl (cI, 64, .inl sg))] s.heap.size (fun rv_ rw_ => rv_ = some (.int (nI (askF cl sf T).2)) ∧ rw_ = [(o, .inr (8, [.ref t0, .ref h0, .ref w0, .ref r0, .ref k0, .ref s0, .int kn])), (t0, .inr (5, [.ref t1, .ref t2, .int (nI T)])), (t1, .inl (cI, 12, .inl wo)), (t2, .inl (cI, 12, .inl cl)), (s0, .inr (1, [.ref s1, .ref s2, .int (nI (askF cl sf T).2), .int 0])), (s1, .inl (cI, 4096, .inl ((askF cl sf T).1))), (s2, .inl (cI, 64, .inl sg))])) args s 0 0 (va_A [(o, .inr (8, [.ref t0, .ref h0, .ref w0, .ref r0, .ref k0, .ref s0, .int kn])), (t0, .inr (5, [.ref t1, .ref t2, .int (nI T)])), (t1, .inl (cI, 12, .inl wo)), (t2, .inl (cI, 12, .inl cl)), (s0, .inr (1, [.ref s1, .ref s2, .int (nI ns), .int an])), (s1, .inl (cI, 4096, .inl sf)), (s2, .inl (cI, 64, .inl sg))] s.heap.size)) (F0 m 9 ls []) := by
    intro fu
    induction fu with
    | zero => intro t mm x hmu; exact absurd hmu (Nat.not_lt_zero _)
    | succ fu ih_9 =>
      intro t mm x hmu_9 ht em ex H locs hP hD hS ls hl
      refine lv_iload_n hx hb dX7_ask_9 rfl (lv_at hl 1 rfl) ?_
      refine lv_aload_n hx hb dX7_ask_10 rfl (lv_at hl 0 rfl) ?_
      refine va_get (D := D) (ci := 8) (v := .ref t0) (C := RX7) (T := TX7) (N := 7) hx hb hts hi_X7 hown hK.1 hP 0 rfl rfl 0 (by decide) hw_f12 (fun _ h9 => h9) rfl dX7_ask_11 ?_
      refine kGoR (va_runV (As := []) (rest := [.int (nI t)]) ⟨hx, hb, hml, hown, hts⟩ (c_X4_size l D cI cJ cZ cO t0 t1 t2 (nI T) wo cl ) (cwV 0 hts gX7_ask_X4_size rfl rfl rfl (by decide +kernel) ⟨Nat.le_of_ble_eq_true rfl, Nat.le_of_ble_eq_true rfl⟩) (kPreVR (ci := 5) (q0 := 0) hK (kPc_sub hP [1, 2, 3] rfl) rfl rfl rfl) rfl rfl hl.1 rfl (lv_room (Nat.le_of_ble_eq_true rfl)) dX7_ask_14 ⟨Nat.le_of_ble_eq_true rfl, Nat.le_of_ble_eq_true rfl⟩) (fun v_2 hv_2 => ?_)
      obtain rfl := hv_2
      refine W.eq (g2 := F0 m 17 ls [.int (nI T), .int (nI t)]) rfl ?_
      refine lv_icmp_ge (tgt := 42) hx hb dX7_ask_17 (by decide) (fun c_17 => ?_) (fun c_17 => ?_)
      · skip
        have nc_17 : T ≤ t := (nI_leI (a := T) (b := t) (by omega) (by omega)).mp c_17
        have e12 : t = T := by omega
        refine lv_aload_n hx hb dX7_ask_42 rfl (lv_at hl 0 rfl) ?_
        refine va_get (D := D) (ci := 8) (v := .ref s0) (C := RX7) (T := TX7) (N := 7) hx hb hts hi_X7 hown hK.1 hP 0 rfl rfl 5 (by decide) hw_f47 (fun _ h9 => h9) rfl dX7_ask_43 ?_
        refine kGoR (va_runV (As := []) (rest := []) ⟨hx, hb, hml, hown, hts⟩ (c_X0_size l D cI cJ cZ cO s0 s1 s2 mm 0 x sg ) (cwV 0 hts gX7_ask_X0_size rfl rfl rfl (by decide +kernel) ⟨Nat.le_of_ble_eq_true rfl, Nat.le_of_ble_eq_true rfl⟩) (kPreVR (ci := 1) (q0 := 0) hK (kPc_sub hP [4, 5, 6] rfl) rfl rfl rfl) rfl rfl hl.1 rfl (lv_room (Nat.le_of_ble_eq_true rfl)) dX7_ask_46 ⟨Nat.le_of_ble_eq_true rfl, Nat.le_of_ble_eq_true rfl⟩) (fun v_3 hv_3 => ?_)
        obtain rfl := hv_3
        refine W.eq (g2 := F0 m 49 ls [.int (nI mm)]) rfl ?_
        have ew_0 : (nI mm : Int32) = nI (askF cl sf T).2 := by first | rfl | (rw [ex, e12]; done) | (rw [em, e12]; done) | (rw [ey, e12]; done) | (rw [e12]; done) | (simp [ht, em, ex, c_17, nc_17]; done) | (simp_all []; done)
        have ew_1 : (x : Nat → Int32) = (askF cl sf T).1 := by first | rfl | (rw [ex, e12]; done) | (rw [em, e12]; done) | (rw [ey, e12]; done) | (rw [e12]; done) | (simp [ht, em, ex, c_17, nc_17]; done) | (simp_all []; done)
        exact kRetI hx hb hr hlk dX7_ask_49 hP hD hS (Nat.le_of_ble_eq_true rfl) (Nat.le_of_ble_eq_true rfl) ⟨(kpi (by rw [em, e12])), (kw2 (fun (z_0 : Int32) (z_1 : Nat → Int32) => ([(o, .inr (8, [.ref t0, .ref h0, .ref w0, .ref r0, .ref k0, .ref s0, .int kn])), (t0, .inr (5, [.ref t1, .ref t2, .int (nI T)])), (t1, .inl (cI, 12, .inl wo)), (t2, .inl (cI, 12, .inl cl)), (s0, .inr (1, [.ref s1, .ref s2, .int z_0, .int 0])), (s1, .inl (cI, 4096, .inl z_1)), (s2, .inl (cI, 64, .inl sg))] : va_W)) ew_0 ew_1)⟩
      · skip
        have nc_17 : ¬ T ≤ t := (not_congr (nI_leI (a := T) (b := t) (by omega) (by omega))).mp c_17
        have hq1 := askF_le cl sf t
        have hq2 := kpow11 (t := t) (by omega)
        have hq3 : mm ≤ 2048 := by omega
        refine lv_aload_n hx hb dX7_ask_20 rfl (lv_at hl 0 rfl) ?_
        refine va_get (D := D) (ci := 8) (v := .ref s0) (C := RX7) (T := TX7) (N := 7) hx hb hts hi_X7 hown hK.1 hP 0 rfl rfl 5 (by decide) hw_f47 (fun _ h9 => h9) rfl dX7_ask_21 ?_
        refine lv_iload_n hx hb dX7_ask_24 rfl (lv_at hl 1 rfl) ?_
        refine lv_aload_n hx hb dX7_ask_25 rfl (lv_at hl 0 rfl) ?_
        refine va_get (D := D) (ci := 8) (v := .ref t0) (C := RX7) (T := TX7) (N := 7) hx hb hts hi_X7 hown hK.1 hP 0 rfl rfl 0 (by decide) hw_f12 (fun _ h9 => h9) rfl dX7_ask_26 ?_
        refine lv_iload_n hx hb dX7_ask_29 rfl (lv_at hl 1 rfl) ?_
        refine kGoR (va_runV (As := [.int (nI t)]) (rest := [.int (nI t), .ref s0]) ⟨hx, hb, hml, hown, hts⟩ (c_X4_impliedBy l D cI cJ cZ cO t0 t1 t2 (nI T) wo cl (nI t) ) (cwV 1 hts gX7_ask_X4_impliedBy rfl rfl rfl (by decide +kernel) ⟨Nat.le_of_ble_eq_true rfl, Nat.le_of_ble_eq_true rfl⟩) (kPreVR (ci := 5) (q0 := 0) hK (kPc_sub hP [1, 2, 3] rfl) rfl rfl rfl) rfl rfl hl.1 rfl (lv_room (Nat.le_of_ble_eq_true rfl)) dX7_ask_30 ⟨Nat.le_of_ble_eq_true rfl, Nat.le_of_ble_eq_true rfl⟩) (fun v_4 hv_4 => ?_)
        obtain rfl := hv_4
        refine W.eq (g2 := F0 m 33 ls [.int (implF cl (nI t)), .int (nI t), .ref s0]) rfl ?_
        refine kGo (wc := [(s0, .inr (1, [.ref s1, .ref s2, .int (nI mm), .int 0])), (s1, .inl (cI, 4096, .inl x)), (s2, .inl (cI, 64, .inl sg))]) (wr := [(o, .inr (8, [.ref t0, .ref h0, .ref w0, .ref r0, .ref k0, .ref s0, .int kn])), (t0, .inr (5, [.ref t1, .ref t2, .int (nI T)])), (t1, .inl (cI, 12, .inl wo)), (t2, .inl (cI, 12, .inl cl))]) (va_runV (As := [.int (nI t), .int (implF cl (nI t))]) (rest := []) ⟨hx, hb, hml, hown, hts⟩ (c_X0_addTopic l D cI cJ cZ cO s0 s1 s2 mm 0 x sg (nI t) (implF cl (nI t)) (by first | assumption | omega | decide) _) (cwV 2 hts gX7_ask_X0_addTopic rfl rfl rfl (by decide +kernel) ⟨Nat.le_of_ble_eq_true rfl, Nat.le_of_ble_eq_true rfl⟩) (kPreV (ci := 1) (q0 := 0) hK (kPc_sub hP [4, 5, 6] rfl) ((hD.sub [4, 5, 6] (by decide) rfl).weaken (fun _ _ _ _ => trivial)) rfl rfl rfl) rfl rfl hl.1 rfl (lv_room (Nat.le_of_ble_eq_true rfl)) dX7_ask_33 ⟨Nat.le_of_ble_eq_true rfl, Nat.le_of_ble_eq_true rfl⟩) hP hD hS hA [4, 5, 6] [0, 1, 2, 3] rfl rfl (by decide) (by decide) (fun v_5 w_5 H locs hv_5 hP hD hS => ?_)
        obtain ⟨rfl, rfl⟩ := hv_5
        have hP : va_P D vwCl [(o, .inr (8, [.ref t0, .ref h0, .ref w0, .ref r0, .ref k0, .ref s0, .int kn])), (t0, .inr (5, [.ref t1, .ref t2, .int (nI T)])), (t1, .inl (cI, 12, .inl wo)), (t2, .inl (cI, 12, .inl cl)), (s0, .inr (1, [.ref s1, .ref s2, .int (nI (addF x mm (1 <<< ((nI t) &&& 31)) (implF cl (nI t)) mm).2), .int 0])), (s1, .inl (cI, 4096, .inl ((addF x mm (1 <<< ((nI t) &&& 31)) (implF cl (nI t)) mm).1))), (s2, .inl (cI, 64, .inl sg))] H := hP.sub [0, 1, 2, 3, 4, 5, 6] rfl
        have hD : va_D _ [(o, .inr (8, [.ref t0, .ref h0, .ref w0, .ref r0, .ref k0, .ref s0, .int kn])), (t0, .inr (5, [.ref t1, .ref t2, .int (nI T)])), (t1, .inl (cI, 12, .inl wo)), (t2, .inl (cI, 12, .inl cl)), (s0, .inr (1, [.ref s1, .ref s2, .int (nI (addF x mm (1 <<< ((nI t) &&& 31)) (implF cl (nI t)) mm).2), .int 0])), (s1, .inl (cI, 4096, .inl ((addF x mm (1 <<< ((nI t) &&& 31)) (implF cl (nI t)) mm).1))), (s2, .inl (cI, 64, .inl sg))] := hD.sub [0, 1, 2, 3, 4, 5, 6] (by decide) rfl
        refine W.eq (g2 := F0 m 36 ls []) rfl ?_
        refine lv_iinc (v := nI (t + 1)) (lv' := [(1, .int (nI (t + 1))), (0, .ref o)]) hx hb dX7_ask_36 hl (k := 1) rfl (nI_1 _) (by decide) rfl (fun ls hl => ?_)
        refine lv_goto (tgt := 9) hx hb dX7_ask_39 (by decide) ?_
        exact ih_9  (t + 1) ((addF x mm (1 <<< ((nI t) &&& 31)) (implF cl (nI t)) mm).2) ((addF x mm (1 <<< ((nI t) &&& 31)) (implF cl (nI t)) mm).1) (by omega) (by first | omega | assumption | exact Nat.zero_le _) (by subst em; subst ex; rfl) (by subst em; subst ex; rfl) _ _ hP hD hS _ (lv_sub hl [1, 0] rfl)
  exact hloop_9 ((T - 0) + 1) 0 1 (upd sf 0 0) (Nat.lt_succ_self _) (by exact Nat.zero_le _) (by rfl) (by rfl) _ _ hP hD hS _ (lv_sub hl [1, 0] rfl)

set_option maxHeartbeats 4000000 in
set_option maxRecDepth 100000 in
theorem c_X7_week (l : Launch) (D : va_G) (cI cJ cZ cO : ClassId) (o : Nat) (t0 : Nat) (h0 : Nat) (w0 : Nat) (r0 : Nat) (k0 : Nat) (s0 : Nat) (kn : Int32) (k1 : Nat) (k2 : Nat) (k3 : Nat) (mi : Nat → Int32) (w : Int32) (x : Int32) : kC l D (kTY cI cJ cZ cO) yX7_week wsX7_week 1 22 0 0 [.ref o, .int w, .int x] [(o, .inr (8, [.ref t0, .ref h0, .ref w0, .ref r0, .ref k0, .ref s0, .int kn])), (k0, .inr (7, [.ref k1, .ref k2, .ref k3])), (k1, .inl (cI, 52, .inl mi))] (fun rv_ rw_ => rv_ = some (.int (k01 (withinB w 0 51 && withinB x 0 3000))) ∧ rw_ = [(o, .inr (8, [.ref t0, .ref h0, .ref w0, .ref r0, .ref k0, .ref s0, .int kn])), (k0, .inr (7, [.ref k1, .ref k2, .ref k3])), (k1, .inl (cI, 52, .inl (if withinB w 0 51 && withinB x 0 3000 then (if ¬ w < 0 ∧ ¬ 52 ≤ w then upd mi w.toNatClampNeg x else mi) else mi)))]) := by
  refine kEnter (cc := cX7_week) (maxL := 3) (ret := (some .boolean)) (by decide) rfl (Nat.le_of_ble_eq_true rfl) ?_
  intro p e s m args below meth c hx hb hr hml hts hown hlk hnm hK hP hD hS hA ls hl
  have hl : lv_has ls 3 [(0, .ref o), (1, .int w), (2, .int x)] := hl
  have hw_f40 := hts (.fieldLink RX7 40 "WhatToRead" "weeks" "LWhatToRead$Weeks;") (by decide +kernel)
  have hi_X7 : ∀ w ∈ wsX70, w ∈ wsX7_week := by decide +kernel
  refine lv_iload_n hx hb dX7_week_0 rfl (lv_at hl 1 rfl) ?_
  refine lv_iconst (v := 0) hx hb dX7_week_1 (by decide) ?_
  refine lv_bipush (v := 51) hx hb dX7_week_2 (by decide) ?_
  refine kGoR (va_runS (As := [.int w, .int 0, .int 51]) (rest := []) ⟨hx, hb, hml, hown, hts⟩ (c_X7_isWithin l D cI cJ cZ cO w 0 51 ) (va_cwS 3 hts gX7_week_X7_isWithin rfl rfl rfl (by decide +kernel) ⟨Nat.le_of_ble_eq_true rfl, Nat.le_of_ble_eq_true rfl⟩) (kPreSR hK (kPc_sub hP [] rfl)) rfl rfl hl.1 rfl (lv_room (Nat.le_of_ble_eq_true rfl)) dX7_week_4 ⟨Nat.le_of_ble_eq_true rfl, Nat.le_of_ble_eq_true rfl⟩) (fun v_1 hv_1 => ?_)
  obtain rfl := hv_1
  refine W.eq (g2 := F0 m 7 ls [.int (k01 (withinB w 0 51))]) rfl ?_
  refine lv_if_eq (tgt := 21) hx hb dX7_week_7 (by decide) (fun c_7 => ?_) (fun c_7 => ?_)
  · skip
    have c_7 := k01_z c_7
    refine lv_iconst (v := 0) hx hb dX7_week_21 (by decide) ?_
    have ew_0 : (mi : Nat → Int32) = if withinB w 0 51 && withinB x 0 3000 then (if ¬ w < 0 ∧ ¬ 52 ≤ w then upd mi w.toNatClampNeg x else mi) else mi := by simp [c_7]
    exact kRetZ (withinB w 0 51 && withinB x 0 3000) (by simp [k01, c_7]) hx hb hr hlk dX7_week_22 hP hD hS (Nat.le_of_ble_eq_true rfl) (Nat.le_of_ble_eq_true rfl) ⟨rfl, (kw1 (fun (z_0 : Nat → Int32) => ([(o, .inr (8, [.ref t0, .ref h0, .ref w0, .ref r0, .ref k0, .ref s0, .int kn])), (k0, .inr (7, [.ref k1, .ref k2, .ref k3])), (k1, .inl (cI, 52, .inl z_0))] : va_W)) ew_0)⟩
  · skip
    have c_7 := k01_n c_7
    refine lv_iload_n hx hb dX7_week_10 rfl (lv_at hl 2 rfl) ?_
    refine lv_iconst (v := 0) hx hb dX7_week_11 (by decide) ?_
    refine lv_sipush (v := 3000) hx hb dX7_week_12 (by decide) ?_
    refine kGoR (va_runS (As := [.int x, .int 0, .int 3000]) (rest := []) ⟨hx, hb, hml, hown, hts⟩ (c_X7_isWithin l D cI cJ cZ cO x 0 3000 ) (va_cwS 3 hts gX7_week_X7_isWithin rfl rfl rfl (by decide +kernel) ⟨Nat.le_of_ble_eq_true rfl, Nat.le_of_ble_eq_true rfl⟩) (kPreSR hK (kPc_sub hP [] rfl)) rfl rfl hl.1 rfl (lv_room (Nat.le_of_ble_eq_true rfl)) dX7_week_15 ⟨Nat.le_of_ble_eq_true rfl, Nat.le_of_ble_eq_true rfl⟩) (fun v_2 hv_2 => ?_)
    obtain rfl := hv_2
    refine W.eq (g2 := F0 m 18 ls [.int (k01 (withinB x 0 3000))]) rfl ?_
    refine lv_if_ne (tgt := 23) hx hb dX7_week_18 (by decide) (fun c_18 => ?_) (fun c_18 => ?_)
    · skip
      have c_18 := k01_n c_18
      refine lv_aload_n hx hb dX7_week_23 rfl (lv_at hl 0 rfl) ?_
      refine va_get (D := D) (ci := 8) (v := .ref k0) (C := RX7) (T := TX7) (N := 7) hx hb hts hi_X7 hown hK.1 hP 0 rfl rfl 4 (by decide) hw_f40 (fun _ h9 => h9) rfl dX7_week_24 ?_
      refine lv_iload_n hx hb dX7_week_27 rfl (lv_at hl 1 rfl) ?_
      refine lv_iload_n hx hb dX7_week_28 rfl (lv_at hl 2 rfl) ?_
      refine kGo (wc := [(k0, .inr (7, [.ref k1, .ref k2, .ref k3])), (k1, .inl (cI, 52, .inl mi))]) (wr := [(o, .inr (8, [.ref t0, .ref h0, .ref w0, .ref r0, .ref k0, .ref s0, .int kn]))]) (va_runV (As := [.int w, .int x]) (rest := []) ⟨hx, hb, hml, hown, hts⟩ (c_X6_change l D cI cJ cZ cO k0 k1 k2 k3 mi w x  _) (cwV 2 hts gX7_week_X6_change rfl rfl rfl (by decide +kernel) ⟨Nat.le_of_ble_eq_true rfl, Nat.le_of_ble_eq_true rfl⟩) (kPreV (ci := 7) (q0 := 0) hK (kPc_sub hP [1, 2] rfl) ((hD.sub [1, 2] (by decide) rfl).weaken (fun _ _ _ _ => trivial)) rfl rfl rfl) rfl rfl hl.1 rfl (lv_room (Nat.le_of_ble_eq_true rfl)) dX7_week_29 ⟨Nat.le_of_ble_eq_true rfl, Nat.le_of_ble_eq_true rfl⟩) hP hD hS hA [1, 2] [0] rfl rfl (by decide) (by decide) (fun v_3 w_3 H locs hv_3 hP hD hS => ?_)
      obtain ⟨rfl, rfl⟩ := hv_3
      have hP : va_P D vwCl [(o, .inr (8, [.ref t0, .ref h0, .ref w0, .ref r0, .ref k0, .ref s0, .int kn])), (k0, .inr (7, [.ref k1, .ref k2, .ref k3])), (k1, .inl (cI, 52, .inl (if ¬ w < 0 ∧ ¬ 52 ≤ w then upd mi w.toNatClampNeg x else mi)))] H := hP.sub [0, 1, 2] rfl
      have hD : va_D _ [(o, .inr (8, [.ref t0, .ref h0, .ref w0, .ref r0, .ref k0, .ref s0, .int kn])), (k0, .inr (7, [.ref k1, .ref k2, .ref k3])), (k1, .inl (cI, 52, .inl (if ¬ w < 0 ∧ ¬ 52 ≤ w then upd mi w.toNatClampNeg x else mi)))] := hD.sub [0, 1, 2] (by decide) rfl
      refine W.eq (g2 := F0 m 32 ls []) rfl ?_
      refine lv_iconst (v := 1) hx hb dX7_week_32 (by decide) ?_
      have ew_0 : (if ¬ w < 0 ∧ ¬ 52 ≤ w then upd mi w.toNatClampNeg x else mi : Nat → Int32) = if withinB w 0 51 && withinB x 0 3000 then (if ¬ w < 0 ∧ ¬ 52 ≤ w then upd mi w.toNatClampNeg x else mi) else mi := by simp [c_7, c_18]
      exact kRetZ (withinB w 0 51 && withinB x 0 3000) (by simp [k01, c_7, c_18]) hx hb hr hlk dX7_week_33 hP hD hS (Nat.le_of_ble_eq_true rfl) (Nat.le_of_ble_eq_true rfl) ⟨rfl, (kw1 (fun (z_0 : Nat → Int32) => ([(o, .inr (8, [.ref t0, .ref h0, .ref w0, .ref r0, .ref k0, .ref s0, .int kn])), (k0, .inr (7, [.ref k1, .ref k2, .ref k3])), (k1, .inl (cI, 52, .inl z_0))] : va_W)) ew_0)⟩
    · skip
      have c_18 := k01_z c_18
      refine lv_iconst (v := 0) hx hb dX7_week_21 (by decide) ?_
      have ew_0 : (mi : Nat → Int32) = if withinB w 0 51 && withinB x 0 3000 then (if ¬ w < 0 ∧ ¬ 52 ≤ w then upd mi w.toNatClampNeg x else mi) else mi := by simp [c_7, c_18]
      exact kRetZ (withinB w 0 51 && withinB x 0 3000) (by simp [k01, c_7, c_18]) hx hb hr hlk dX7_week_22 hP hD hS (Nat.le_of_ble_eq_true rfl) (Nat.le_of_ble_eq_true rfl) ⟨rfl, (kw1 (fun (z_0 : Nat → Int32) => ([(o, .inr (8, [.ref t0, .ref h0, .ref w0, .ref r0, .ref k0, .ref s0, .int kn])), (k0, .inr (7, [.ref k1, .ref k2, .ref k3])), (k1, .inl (cI, 52, .inl z_0))] : va_W)) ew_0)⟩

set_option maxHeartbeats 4000000 in
set_option maxRecDepth 100000 in
theorem c_X7_pace (l : Launch) (D : va_G) (cI cJ cZ cO : ClassId) (o : Nat) (t0 : Nat) (h0 : Nat) (w0 : Nat) (r0 : Nat) (k0 : Nat) (s0 : Nat) (kn : Int32) (la : Nat) (ea : Nat) (pc : Int32) (mo : Int32) (n : Nat) (al : Nat → Option Nat) (cap : Nat) (LP : List Nat) (pf : Nat → va_E) (ad : Nat → Nat) (ne : Nat → Int32) (ei : Nat → Int32) (gv : Nat → Int32) (sk : Nat → Int32) (pg : Nat → Int32) (v : Int32) (hn : n ≤ 14) (hH : shH cO n ea cap al LP pf) (hE : shE n al LP pf ad ne ei gv sk pg) : kC l D (kTY cI cJ cZ cO) yX7_pace wsX7_pace 1 22 0 0 [.ref o, .int v] ([(o, .inr (8, [.ref t0, .ref h0, .ref w0, .ref r0, .ref k0, .ref s0, .int kn])), (h0, .inr (4, [.ref la, .int pc])), (la, .inr (0, [.int mo, .ref ea, .int (nI n)]))] ++ va_pl LP pf) (fun rv_ rw_ => rv_ = some (.int (if withinB v 1 10 then pc else -1)) ∧ rw_ = ([(o, .inr (8, [.ref t0, .ref h0, .ref w0, .ref r0, .ref k0, .ref s0, .int kn])), (h0, .inr (4, [.ref la, .int (if withinB v 1 10 then v else pc)])), (la, .inr (0, [.int mo, .ref ea, .int (nI n)]))] ++ va_pl LP pf)) := by
  refine kEnter (cc := cX7_pace) (maxL := 2) (ret := (some .int)) (by decide) rfl (Nat.le_of_ble_eq_true rfl) ?_
  intro p e s m args below meth c hx hb hr hml hts hown hlk hnm hK hP hD hS hA ls hl
  have hl : lv_has ls 2 [(0, .ref o), (1, .int v)] := hl
  have hw_f19 := hts (.fieldLink RX7 19 "WhatToRead" "shelf" "LWhatToRead$Shelf;") (by decide +kernel)
  have hi_X7 : ∀ w ∈ wsX70, w ∈ wsX7_pace := by decide +kernel
  refine lv_iload_n hx hb dX7_pace_0 rfl (lv_at hl 1 rfl) ?_
  refine lv_iconst (v := 1) hx hb dX7_pace_1 (by decide) ?_
  refine lv_bipush (v := 10) hx hb dX7_pace_2 (by decide) ?_
  refine kGoR (va_runS (As := [.int v, .int 1, .int 10]) (rest := []) ⟨hx, hb, hml, hown, hts⟩ (c_X7_isWithin l D cI cJ cZ cO v 1 10 ) (va_cwS 3 hts gX7_pace_X7_isWithin rfl rfl rfl (by decide +kernel) ⟨Nat.le_of_ble_eq_true rfl, Nat.le_of_ble_eq_true rfl⟩) (kPreSR hK (kPc_sub hP [] rfl)) rfl rfl hl.1 rfl (lv_room (Nat.le_of_ble_eq_true rfl)) dX7_pace_4 ⟨Nat.le_of_ble_eq_true rfl, Nat.le_of_ble_eq_true rfl⟩) (fun v_1 hv_1 => ?_)
  obtain rfl := hv_1
  refine W.eq (g2 := F0 m 7 ls [.int (k01 (withinB v 1 10))]) rfl ?_
  refine lv_if_eq (tgt := 21) hx hb dX7_pace_7 (by decide) (fun c_7 => ?_) (fun c_7 => ?_)
  · skip
    have c_7 := k01_z c_7
    refine lv_iconst (v := (-1)) hx hb dX7_pace_21 (by decide) ?_
    have ew_0 : (pc : Int32) = if withinB v 1 10 then v else pc := by simp [c_7]
    exact kRetI hx hb hr hlk dX7_pace_22 hP hD hS (Nat.le_of_ble_eq_true rfl) (Nat.le_of_ble_eq_true rfl) ⟨(kpi (by simp [c_7])), (kw1 (fun (z_0 : Int32) => (([(o, .inr (8, [.ref t0, .ref h0, .ref w0, .ref r0, .ref k0, .ref s0, .int kn])), (h0, .inr (4, [.ref la, .int z_0])), (la, .inr (0, [.int mo, .ref ea, .int (nI n)]))] ++ va_pl LP pf) : va_W)) ew_0)⟩
  · skip
    have c_7 := k01_n c_7
    refine lv_aload_n hx hb dX7_pace_10 rfl (lv_at hl 0 rfl) ?_
    refine va_get (D := D) (ci := 8) (v := .ref h0) (C := RX7) (T := TX7) (N := 7) hx hb hts hi_X7 hown hK.1 hP 0 rfl rfl 1 (by decide) hw_f19 (fun _ h9 => h9) rfl dX7_pace_11 ?_
    refine lv_iload_n hx hb dX7_pace_14 rfl (lv_at hl 1 rfl) ?_
    refine kGoP (cx := [(h0, .inr (4, [.ref la, .int pc])), (la, .inr (0, [.int mo, .ref ea, .int (nI n)]))]) (wr := [(o, .inr (8, [.ref t0, .ref h0, .ref w0, .ref r0, .ref k0, .ref s0, .int kn]))]) (va_runV (As := [.int v]) (rest := []) ⟨hx, hb, hml, hown, hts⟩ (c_X3_changePace l D cI cJ cZ cO h0 la ea pc mo n al cap LP pf ad ne ei gv sk pg v (by first | assumption | omega | decide) (by first | assumption | omega | decide) (by first | assumption | omega | decide) _) (cwV 1 hts gX7_pace_X3_changePace rfl rfl rfl (by decide +kernel) ⟨Nat.le_of_ble_eq_true rfl, Nat.le_of_ble_eq_true rfl⟩) (kPreV (ci := 4) (q0 := 0) hK (hP.part [1, 2] rfl) ((hD.part [1, 2] (by decide) rfl).weaken (fun _ _ _ _ => trivial)) rfl rfl rfl) rfl rfl hl.1 rfl (lv_room (Nat.le_of_ble_eq_true rfl)) dX7_pace_15 ⟨Nat.le_of_ble_eq_true rfl, Nat.le_of_ble_eq_true rfl⟩) hP hD hS hA [1, 2] [0] rfl rfl (by decide) (by decide) (fun v_2 w_2 H locs hv_2 hP hS => ?_)
    obtain ⟨rfl, rfl⟩ := hv_2
    obtain ⟨hP, hD⟩ := hP _ _ rfl
    have hP : va_P D vwCl ([(o, .inr (8, [.ref t0, .ref h0, .ref w0, .ref r0, .ref k0, .ref s0, .int kn])), (h0, .inr (4, [.ref la, .int v])), (la, .inr (0, [.int mo, .ref ea, .int (nI n)]))] ++ va_pl LP pf) H := hP.part [0, 1, 2] rfl
    have hD : va_D _ ([(o, .inr (8, [.ref t0, .ref h0, .ref w0, .ref r0, .ref k0, .ref s0, .int kn])), (h0, .inr (4, [.ref la, .int v])), (la, .inr (0, [.int mo, .ref ea, .int (nI n)]))] ++ va_pl LP pf) := hD.part [0, 1, 2] (by decide) rfl
    refine W.eq (g2 := F0 m 18 ls [.int pc]) rfl ?_
    refine lv_goto (tgt := 22) hx hb dX7_pace_18 (by decide) ?_
    have ew_0 : (v : Int32) = if withinB v 1 10 then v else pc := by simp [c_7]
    exact kRetI hx hb hr hlk dX7_pace_22 hP hD hS (Nat.le_of_ble_eq_true rfl) (Nat.le_of_ble_eq_true rfl) ⟨(kpi (by simp [c_7])), (kw1 (fun (z_0 : Int32) => (([(o, .inr (8, [.ref t0, .ref h0, .ref w0, .ref r0, .ref k0, .ref s0, .int kn])), (h0, .inr (4, [.ref la, .int z_0])), (la, .inr (0, [.int mo, .ref ea, .int (nI n)]))] ++ va_pl LP pf) : va_W)) ew_0)⟩

set_option maxHeartbeats 4000000 in
set_option maxRecDepth 100000 in
theorem c_X7_minutes_a (l : Launch) (D : va_G) (cI cJ cZ cO : ClassId) (o : Nat) (t0 : Nat) (h0 : Nat) (w0 : Nat) (r0 : Nat) (k0 : Nat) (s0 : Nat) (kn : Int32) (la : Nat) (ea : Nat) (pc : Int32) (mo : Int32) (n : Nat) (al : Nat → Option Nat) (cap : Nat) (LP : List Nat) (pf : Nat → va_E) (ad : Nat → Nat) (ne : Nat → Int32) (ei : Nat → Int32) (gv : Nat → Int32) (sk : Nat → Int32) (pg : Nat → Int32) (k : Nat) (hn : n ≤ 14) (hH : shH cO n ea cap al LP pf) (hE : shE n al LP pf ad ne ei gv sk pg) (hk : k < 2 * n) : kR l D (kTY cI cJ cZ cO) yX7_minutes wsX7_minutes 5 108 [.ref o, .int (nI k)] ([(o, .inr (8, [.ref t0, .ref h0, .ref w0, .ref r0, .ref k0, .ref s0, .int kn])), (h0, .inr (4, [.ref la, .int pc])), (la, .inr (0, [.int mo, .ref ea, .int (nI n)]))] ++ va_pl LP pf) (fun rv_ => rv_ = some (.int (timeF (pg (k / 2)) pc (decide (nI k &&& 1 = 1))))) := by
  refine kEnterR (cc := cX7_minutes) (maxL := 2) (ret := (some .int)) (by decide) rfl (Nat.le_of_ble_eq_true rfl) ?_
  intro p e s m args below meth c hx hb hr hml hts hown hlk hK hP ls hl
  have hl : lv_has ls 2 [(0, .ref o), (1, .int (nI k))] := hl
  have hw_f19 := hts (.fieldLink RX7 19 "WhatToRead" "shelf" "LWhatToRead$Shelf;") (by decide +kernel)
  have hi_X7 : ∀ w ∈ wsX70, w ∈ wsX7_minutes := by decide +kernel
  refine lv_aload_n hx hb dX7_minutes_0 rfl (lv_at hl 0 rfl) ?_
  refine va_get (D := D) (ci := 8) (v := .ref h0) (C := RX7) (T := TX7) (N := 7) hx hb hts hi_X7 hown hK.1 hP 0 rfl rfl 1 (by decide) hw_f19 (fun _ h9 => h9) rfl dX7_minutes_1 ?_
  refine lv_iload_n hx hb dX7_minutes_4 rfl (lv_at hl 1 rfl) ?_
  refine kGoR (va_runV (As := [.int (nI k)]) (rest := []) ⟨hx, hb, hml, hown, hts⟩ (c_X3_minutesOf_a l D cI cJ cZ cO h0 la ea pc mo n al cap LP pf ad ne ei gv sk pg k (by first | assumption | omega | decide) (by first | assumption | omega | decide) (by first | assumption | omega | decide) (by first | assumption | omega | decide)) (cwV 1 hts gX7_minutes_X3_minutesOf rfl rfl rfl (by decide +kernel) ⟨Nat.le_of_ble_eq_true rfl, Nat.le_of_ble_eq_true rfl⟩) (kPreVR (ci := 4) (q0 := 0) hK (hP.part [1, 2] rfl) rfl rfl rfl) rfl rfl hl.1 rfl (lv_room (Nat.le_of_ble_eq_true rfl)) dX7_minutes_5 ⟨Nat.le_of_ble_eq_true rfl, Nat.le_of_ble_eq_true rfl⟩) (fun v_1 hv_1 => ?_)
  obtain rfl := hv_1
  refine W.eq (g2 := F0 m 8 ls [.int (timeF (pg (k / 2)) pc (decide (nI k &&& 1 = 1)))]) rfl ?_
  exact kRetIr hx hb hr hlk dX7_minutes_8 rfl

set_option maxHeartbeats 4000000 in
set_option maxRecDepth 100000 in
theorem c_X7_minutes_b (l : Launch) (D : va_G) (cI cJ cZ cO : ClassId) (o : Nat) (t0 : Nat) (h0 : Nat) (w0 : Nat) (r0 : Nat) (k0 : Nat) (s0 : Nat) (kn : Int32) (la : Nat) (ea : Nat) (pc : Int32) (mo : Int32) (n : Nat) (al : Nat → Option Nat) (cap : Nat) (LP : List Nat) (pf : Nat → va_E) (ad : Nat → Nat) (ne : Nat → Int32) (ei : Nat → Int32) (gv : Nat → Int32) (sk : Nat → Int32) (pg : Nat → Int32) (x : Int32) (hn : n ≤ 14) (hH : shH cO n ea cap al LP pf) (hE : shE n al LP pf ad ne ei gv sk pg) (hs : x >>> (1 &&& 31) < 0 ∨ nI n ≤ x >>> (1 &&& 31)) : kR l D (kTY cI cJ cZ cO) yX7_minutes wsX7_minutes 5 108 [.ref o, .int x] ([(o, .inr (8, [.ref t0, .ref h0, .ref w0, .ref r0, .ref k0, .ref s0, .int kn])), (h0, .inr (4, [.ref la, .int pc])), (la, .inr (0, [.int mo, .ref ea, .int (nI n)]))] ++ va_pl LP pf) (fun rv_ => rv_ = some (.int (-1))) := by
  refine kEnterR (cc := cX7_minutes) (maxL := 2) (ret := (some .int)) (by decide) rfl (Nat.le_of_ble_eq_true rfl) ?_
  intro p e s m args below meth c hx hb hr hml hts hown hlk hK hP ls hl
  have hl : lv_has ls 2 [(0, .ref o), (1, .int x)] := hl
  have hw_f19 := hts (.fieldLink RX7 19 "WhatToRead" "shelf" "LWhatToRead$Shelf;") (by decide +kernel)
  have hi_X7 : ∀ w ∈ wsX70, w ∈ wsX7_minutes := by decide +kernel
  refine lv_aload_n hx hb dX7_minutes_0 rfl (lv_at hl 0 rfl) ?_
  refine va_get (D := D) (ci := 8) (v := .ref h0) (C := RX7) (T := TX7) (N := 7) hx hb hts hi_X7 hown hK.1 hP 0 rfl rfl 1 (by decide) hw_f19 (fun _ h9 => h9) rfl dX7_minutes_1 ?_
  refine lv_iload_n hx hb dX7_minutes_4 rfl (lv_at hl 1 rfl) ?_
  refine kGoR (va_runV (As := [.int x]) (rest := []) ⟨hx, hb, hml, hown, hts⟩ (c_X3_minutesOf_b l D cI cJ cZ cO h0 la ea pc mo n al cap LP pf ad ne ei gv sk pg x (by first | assumption | omega | decide) (by first | assumption | omega | decide) (by first | assumption | omega | decide) (by first | assumption | omega | decide)) (cwV 1 hts gX7_minutes_X3_minutesOf rfl rfl rfl (by decide +kernel) ⟨Nat.le_of_ble_eq_true rfl, Nat.le_of_ble_eq_true rfl⟩) (kPreVR (ci := 4) (q0 := 0) hK (hP.part [1, 2] rfl) rfl rfl rfl) rfl rfl hl.1 rfl (lv_room (Nat.le_of_ble_eq_true rfl)) dX7_minutes_5 ⟨Nat.le_of_ble_eq_true rfl, Nat.le_of_ble_eq_true rfl⟩) (fun v_1 hv_1 => ?_)
  obtain rfl := hv_1
  refine W.eq (g2 := F0 m 8 ls [.int (-1)]) rfl ?_
  exact kRetIr hx hb hr hlk dX7_minutes_8 rfl

set_option maxHeartbeats 4000000 in
set_option maxRecDepth 100000 in
theorem c_X7_can_a (l : Launch) (D : va_G) (cI cJ cZ cO : ClassId) (o : Nat) (t0 : Nat) (h0 : Nat) (w0 : Nat) (r0 : Nat) (k0 : Nat) (s0 : Nat) (kn : Int32) (la : Nat) (ea : Nat) (pc : Int32) (mo : Int32) (n : Nat) (al : Nat → Option Nat) (cap : Nat) (LP : List Nat) (pf : Nat → va_E) (ad : Nat → Nat) (ne : Nat → Int32) (ei : Nat → Int32) (gv : Nat → Int32) (sk : Nat → Int32) (pg : Nat → Int32) (k : Nat) (hn : n ≤ 14) (hH : shH cO n ea cap al LP pf) (hE : shE n al LP pf ad ne ei gv sk pg) (hk : k < 2 * n) : kR l D (kTY cI cJ cZ cO) yX7_can wsX7_can 4 86 [.ref o, .int (nI k)] ([(o, .inr (8, [.ref t0, .ref h0, .ref w0, .ref r0, .ref k0, .ref s0, .int kn])), (h0, .inr (4, [.ref la, .int pc])), (la, .inr (0, [.int mo, .ref ea, .int (nI n)]))] ++ va_pl LP pf) (fun rv_ => rv_ = some (.int (k01 (openB (ne (k / 2)) (ei (k / 2)) kn)))) := by
  refine kEnterR (cc := cX7_can) (maxL := 3) (ret := (some .int)) (by decide) rfl (Nat.le_of_ble_eq_true rfl) ?_
  intro p e s m args below meth c hx hb hr hml hts hown hlk hK hP ls hl
  have hl : lv_has ls 3 [(0, .ref o), (1, .int (nI k))] := hl
  have hw_f19 := hts (.fieldLink RX7 19 "WhatToRead" "shelf" "LWhatToRead$Shelf;") (by decide +kernel)
  have hi_X7 : ∀ w ∈ wsX70, w ∈ wsX7_can := by decide +kernel
  have hw_f51 := hts (.fieldLink RX7 51 "WhatToRead" "known" "I") (by decide +kernel)
  refine lv_aload_n hx hb dX7_can_0 rfl (lv_at hl 0 rfl) ?_
  refine va_get (D := D) (ci := 8) (v := .ref h0) (C := RX7) (T := TX7) (N := 7) hx hb hts hi_X7 hown hK.1 hP 0 rfl rfl 1 (by decide) hw_f19 (fun _ h9 => h9) rfl dX7_can_1 ?_
  refine lv_iload_n hx hb dX7_can_4 rfl (lv_at hl 1 rfl) ?_
  refine kGoR (va_runV (As := [.int (nI k)]) (rest := []) ⟨hx, hb, hml, hown, hts⟩ (c_X3_pieceOf_a l D cI cJ cZ cO h0 la ea pc mo n al cap LP pf ad ne ei gv sk pg k (by first | assumption | omega | decide) (by first | assumption | omega | decide) (by first | assumption | omega | decide) (by first | assumption | omega | decide)) (cwV 1 hts gX7_can_X3_pieceOf rfl rfl rfl (by decide +kernel) ⟨Nat.le_of_ble_eq_true rfl, Nat.le_of_ble_eq_true rfl⟩) (kPreVR (ci := 4) (q0 := 0) hK (hP.part [1, 2] rfl) rfl rfl rfl) rfl rfl hl.1 rfl (lv_room (Nat.le_of_ble_eq_true rfl)) dX7_can_5 ⟨Nat.le_of_ble_eq_true rfl, Nat.le_of_ble_eq_true rfl⟩) (fun v_1 hv_1 => ?_)
  obtain rfl := hv_1
  refine W.eq (g2 := F0 m 8 ls [.ref (ad (k / 2))]) rfl ?_
  refine lv_astore_n (lv' := [(2, .ref (ad (k / 2))), (0, .ref o), (1, .int (nI k))]) hx hb dX7_can_8 rfl hl (by decide) rfl (fun ls hl => ?_)
  refine lv_aload_n hx hb dX7_can_9 rfl (lv_at hl 0 rfl) ?_
  refine lv_ifnonnull (tgt := 15) hx hb dX7_can_10 (by decide) ?_
  refine lv_aload_n hx hb dX7_can_15 rfl (lv_at hl 0 rfl) ?_
  refine lv_aload_n hx hb dX7_can_16 rfl (lv_at hl 1 rfl) ?_
  refine va_get (D := D) (ci := 8) (v := .int kn) (C := RX7) (T := TX7) (N := 7) hx hb hts hi_X7 hown hK.1 hP 0 rfl rfl 6 (by decide) hw_f51 (fun _ h9 => h9) rfl dX7_can_17 ?_
  refine kGoR (va_runV (As := [.int kn]) (rest := []) ⟨hx, hb, hml, hown, hts⟩ (c_X1_isOpenTo l D cI cJ cZ cO (ad (k / 2)) (ne (k / 2)) (ei (k / 2)) (gv (k / 2)) (sk (k / 2)) (pg (k / 2)) kn) (cwV 1 hts gX7_can_X1_isOpenTo rfl rfl rfl (by decide +kernel) ⟨Nat.le_of_ble_eq_true rfl, Nat.le_of_ble_eq_true rfl⟩) (kPreVR (ci := 2) (q0 := 0) hK (kPiece hP (hE (k / 2) (by omega)).2.1 (hE (k / 2) (by omega)).2.2) rfl rfl rfl) rfl rfl hl.1 rfl (lv_room (Nat.le_of_ble_eq_true rfl)) dX7_can_20 ⟨Nat.le_of_ble_eq_true rfl, Nat.le_of_ble_eq_true rfl⟩) (fun v_p hv_p => ?_)
  obtain rfl := hv_p
  refine W.eq (g2 := F0 m 23 ls [.int (k01 (openB (ne (k / 2)) (ei (k / 2)) kn))]) rfl ?_
  refine lv_if_eq (tgt := 30) hx hb dX7_can_23 (by decide) (fun c_23 => ?_) (fun c_23 => ?_)
  · skip
    have c_23 := k01_z c_23
    refine lv_iconst (v := 0) hx hb dX7_can_30 (by decide) ?_
    exact kRetIr hx hb hr hlk dX7_can_31 (kpi (by simp [k01, c_23]))
  · skip
    have c_23 := k01_n c_23
    refine lv_iconst (v := 1) hx hb dX7_can_26 (by decide) ?_
    refine lv_goto (tgt := 31) hx hb dX7_can_27 (by decide) ?_
    exact kRetIr hx hb hr hlk dX7_can_31 (kpi (by simp [k01, c_23]))

set_option maxHeartbeats 4000000 in
set_option maxRecDepth 100000 in
theorem c_X7_can_b (l : Launch) (D : va_G) (cI cJ cZ cO : ClassId) (o : Nat) (t0 : Nat) (h0 : Nat) (w0 : Nat) (r0 : Nat) (k0 : Nat) (s0 : Nat) (kn : Int32) (la : Nat) (ea : Nat) (pc : Int32) (mo : Int32) (n : Nat) (al : Nat → Option Nat) (cap : Nat) (LP : List Nat) (pf : Nat → va_E) (ad : Nat → Nat) (ne : Nat → Int32) (ei : Nat → Int32) (gv : Nat → Int32) (sk : Nat → Int32) (pg : Nat → Int32) (x : Int32) (hn : n ≤ 14) (hH : shH cO n ea cap al LP pf) (hE : shE n al LP pf ad ne ei gv sk pg) (hs : x >>> (1 &&& 31) < 0 ∨ nI n ≤ x >>> (1 &&& 31)) : kR l D (kTY cI cJ cZ cO) yX7_can wsX7_can 4 86 [.ref o, .int x] ([(o, .inr (8, [.ref t0, .ref h0, .ref w0, .ref r0, .ref k0, .ref s0, .int kn])), (h0, .inr (4, [.ref la, .int pc])), (la, .inr (0, [.int mo, .ref ea, .int (nI n)]))] ++ va_pl LP pf) (fun rv_ => rv_ = some (.int (-1))) := by
  refine kEnterR (cc := cX7_can) (maxL := 3) (ret := (some .int)) (by decide) rfl (Nat.le_of_ble_eq_true rfl) ?_
  intro p e s m args below meth c hx hb hr hml hts hown hlk hK hP ls hl
  have hl : lv_has ls 3 [(0, .ref o), (1, .int x)] := hl
  have hw_f19 := hts (.fieldLink RX7 19 "WhatToRead" "shelf" "LWhatToRead$Shelf;") (by decide +kernel)
  have hi_X7 : ∀ w ∈ wsX70, w ∈ wsX7_can := by decide +kernel
  refine lv_aload_n hx hb dX7_can_0 rfl (lv_at hl 0 rfl) ?_
  refine va_get (D := D) (ci := 8) (v := .ref h0) (C := RX7) (T := TX7) (N := 7) hx hb hts hi_X7 hown hK.1 hP 0 rfl rfl 1 (by decide) hw_f19 (fun _ h9 => h9) rfl dX7_can_1 ?_
  refine lv_iload_n hx hb dX7_can_4 rfl (lv_at hl 1 rfl) ?_
  refine kGoR (va_runV (As := [.int x]) (rest := []) ⟨hx, hb, hml, hown, hts⟩ (c_X3_pieceOf_b l D cI cJ cZ cO h0 la ea pc mo n al cap LP pf ad ne ei gv sk pg x (by first | assumption | omega | decide) (by first | assumption | omega | decide) (by first | assumption | omega | decide) (by first | assumption | omega | decide)) (cwV 1 hts gX7_can_X3_pieceOf rfl rfl rfl (by decide +kernel) ⟨Nat.le_of_ble_eq_true rfl, Nat.le_of_ble_eq_true rfl⟩) (kPreVR (ci := 4) (q0 := 0) hK (hP.part [1, 2] rfl) rfl rfl rfl) rfl rfl hl.1 rfl (lv_room (Nat.le_of_ble_eq_true rfl)) dX7_can_5 ⟨Nat.le_of_ble_eq_true rfl, Nat.le_of_ble_eq_true rfl⟩) (fun v_1 hv_1 => ?_)
  obtain rfl := hv_1
  refine W.eq (g2 := F0 m 8 ls [.null]) rfl ?_
  refine kAstoreN_n (lv' := [(2, .null), (0, .ref o), (1, .int x)]) hx hb dX7_can_8 rfl hl (by decide) rfl (fun ls hl => ?_)
  refine kAloadN_n hx hb dX7_can_9 rfl (lv_at hl 0 rfl) ?_
  refine kIfnonnullN hx hb dX7_can_10 ?_
  refine lv_iconst (v := (-1)) hx hb dX7_can_13 (by decide) ?_
  exact kRetIr hx hb hr hlk dX7_can_14 rfl

set_option maxHeartbeats 4000000 in
set_option maxRecDepth 100000 in
theorem c_X7_done_a (l : Launch) (D : va_G) (cI cJ cZ cO : ClassId) (o : Nat) (t0 : Nat) (h0 : Nat) (w0 : Nat) (r0 : Nat) (k0 : Nat) (s0 : Nat) (kn : Int32) (la : Nat) (ea : Nat) (pc : Int32) (mo : Int32) (n : Nat) (al : Nat → Option Nat) (cap : Nat) (LP : List Nat) (pf : Nat → va_E) (ad : Nat → Nat) (ne : Nat → Int32) (ei : Nat → Int32) (gv : Nat → Int32) (sk : Nat → Int32) (pg : Nat → Int32) (k : Nat) (hn : n ≤ 14) (hH : shH cO n ea cap al LP pf) (hE : shE n al LP pf ad ne ei gv sk pg) (hk : k < 2 * n) : kC l D (kTY cI cJ cZ cO) yX7_done wsX7_done 4 86 0 0 [.ref o, .int (nI k)] ([(o, .inr (8, [.ref t0, .ref h0, .ref w0, .ref r0, .ref k0, .ref s0, .int kn])), (h0, .inr (4, [.ref la, .int pc])), (la, .inr (0, [.int mo, .ref ea, .int (nI n)]))] ++ va_pl LP pf) (fun rv_ rw_ => rv_ = some (.int (if openB (ne (k / 2)) (ei (k / 2)) kn then kn ||| (if decide (nI k &&& 1 = 1) then sk (k / 2) else gv (k / 2)) else -1)) ∧ rw_ = ([(o, .inr (8, [.ref t0, .ref h0, .ref w0, .ref r0, .ref k0, .ref s0, .int (if openB (ne (k / 2)) (ei (k / 2)) kn then kn ||| (if decide (nI k &&& 1 = 1) then sk (k / 2) else gv (k / 2)) else kn)])), (h0, .inr (4, [.ref la, .int pc])), (la, .inr (0, [.int mo, .ref ea, .int (nI n)]))] ++ va_pl LP pf)) := by
  refine kEnter (cc := cX7_done) (maxL := 3) (ret := (some .int)) (by decide) rfl (Nat.le_of_ble_eq_true rfl) ?_
  intro p e s m args below meth c hx hb hr hml hts hown hlk hnm hK hP hD hS hA ls hl
  have hl : lv_has ls 3 [(0, .ref o), (1, .int (nI k))] := hl
  have hw_f19 := hts (.fieldLink RX7 19 "WhatToRead" "shelf" "LWhatToRead$Shelf;") (by decide +kernel)
  have hi_X7 : ∀ w ∈ wsX70, w ∈ wsX7_done := by decide +kernel
  have hw_f51 := hts (.fieldLink RX7 51 "WhatToRead" "known" "I") (by decide +kernel)
  refine lv_aload_n hx hb dX7_done_0 rfl (lv_at hl 0 rfl) ?_
  refine va_get (D := D) (ci := 8) (v := .ref h0) (C := RX7) (T := TX7) (N := 7) hx hb hts hi_X7 hown hK.1 hP 0 rfl rfl 1 (by decide) hw_f19 (fun _ h9 => h9) rfl dX7_done_1 ?_
  refine lv_iload_n hx hb dX7_done_4 rfl (lv_at hl 1 rfl) ?_
  refine kGoR (va_runV (As := [.int (nI k)]) (rest := []) ⟨hx, hb, hml, hown, hts⟩ (c_X3_pieceOf_a l D cI cJ cZ cO h0 la ea pc mo n al cap LP pf ad ne ei gv sk pg k (by first | assumption | omega | decide) (by first | assumption | omega | decide) (by first | assumption | omega | decide) (by first | assumption | omega | decide)) (cwV 1 hts gX7_done_X3_pieceOf rfl rfl rfl (by decide +kernel) ⟨Nat.le_of_ble_eq_true rfl, Nat.le_of_ble_eq_true rfl⟩) (kPreVR (ci := 4) (q0 := 0) hK (hP.part [1, 2] rfl) rfl rfl rfl) rfl rfl hl.1 rfl (lv_room (Nat.le_of_ble_eq_true rfl)) dX7_done_5 ⟨Nat.le_of_ble_eq_true rfl, Nat.le_of_ble_eq_true rfl⟩) (fun v_1 hv_1 => ?_)
  obtain rfl := hv_1
  refine W.eq (g2 := F0 m 8 ls [.ref (ad (k / 2))]) rfl ?_
  refine lv_astore_n (lv' := [(2, .ref (ad (k / 2))), (0, .ref o), (1, .int (nI k))]) hx hb dX7_done_8 rfl hl (by decide) rfl (fun ls hl => ?_)
  refine lv_aload_n hx hb dX7_done_9 rfl (lv_at hl 0 rfl) ?_
  refine lv_ifnull hx hb dX7_done_10 ?_
  refine lv_aload_n hx hb dX7_done_13 rfl (lv_at hl 0 rfl) ?_
  refine lv_aload_n hx hb dX7_done_14 rfl (lv_at hl 1 rfl) ?_
  refine va_get (D := D) (ci := 8) (v := .int kn) (C := RX7) (T := TX7) (N := 7) hx hb hts hi_X7 hown hK.1 hP 0 rfl rfl 6 (by decide) hw_f51 (fun _ h9 => h9) rfl dX7_done_15 ?_
  refine kGoR (va_runV (As := [.int kn]) (rest := []) ⟨hx, hb, hml, hown, hts⟩ (c_X1_isOpenTo l D cI cJ cZ cO (ad (k / 2)) (ne (k / 2)) (ei (k / 2)) (gv (k / 2)) (sk (k / 2)) (pg (k / 2)) kn) (cwV 1 hts gX7_done_X1_isOpenTo rfl rfl rfl (by decide +kernel) ⟨Nat.le_of_ble_eq_true rfl, Nat.le_of_ble_eq_true rfl⟩) (kPreVR (ci := 2) (q0 := 0) hK (kPiece hP (hE (k / 2) (by omega)).2.1 (hE (k / 2) (by omega)).2.2) rfl rfl rfl) rfl rfl hl.1 rfl (lv_room (Nat.le_of_ble_eq_true rfl)) dX7_done_18 ⟨Nat.le_of_ble_eq_true rfl, Nat.le_of_ble_eq_true rfl⟩) (fun v_p hv_p => ?_)
  obtain rfl := hv_p
  refine W.eq (g2 := F0 m 21 ls [.int (k01 (openB (ne (k / 2)) (ei (k / 2)) kn))]) rfl ?_
  refine lv_if_ne (tgt := 26) hx hb dX7_done_21 (by decide) (fun c_21 => ?_) (fun c_21 => ?_)
  · skip
    have c_21 := k01_n c_21
    refine lv_aload_n hx hb dX7_done_26 rfl (lv_at hl 1 rfl) ?_
    refine lv_dup hx hb dX7_done_27 rfl ?_
    refine va_get (D := D) (ci := 8) (v := .int kn) (C := RX7) (T := TX7) (N := 7) hx hb hts hi_X7 hown hK.1 hP 0 rfl rfl 6 (by decide) hw_f51 (fun _ h9 => h9) rfl dX7_done_28 ?_
    refine lv_aload_n hx hb dX7_done_31 rfl (lv_at hl 0 rfl) ?_
    refine lv_iload_n hx hb dX7_done_32 rfl (lv_at hl 2 rfl) ?_
    refine kGoR (va_runS (As := [.int (nI k)]) (rest := [.ref (ad (k / 2)), .int kn, .ref o]) ⟨hx, hb, hml, hown, hts⟩ (c_X7_isSkimmed l D cI cJ cZ cO (nI k) ) (va_cwS 1 hts gX7_done_X7_isSkimmed rfl rfl rfl (by decide +kernel) ⟨Nat.le_of_ble_eq_true rfl, Nat.le_of_ble_eq_true rfl⟩) (kPreSR hK (kPc_sub hP [] rfl)) rfl rfl hl.1 rfl (lv_room (Nat.le_of_ble_eq_true rfl)) dX7_done_33 ⟨Nat.le_of_ble_eq_true rfl, Nat.le_of_ble_eq_true rfl⟩) (fun v_2 hv_2 => ?_)
    obtain rfl := hv_2
    refine W.eq (g2 := F0 m 36 ls [.int (k01 (decide ((nI k) &&& 1 = 1))), .ref (ad (k / 2)), .int kn, .ref o]) rfl ?_
    refine kGoR (va_runV (As := [.int (k01 (decide ((nI k) &&& 1 = 1)))]) (rest := [.int kn, .ref o]) ⟨hx, hb, hml, hown, hts⟩ (c_X1_brings l D cI cJ cZ cO (ad (k / 2)) (ne (k / 2)) (ei (k / 2)) (gv (k / 2)) (sk (k / 2)) (pg (k / 2)) (decide ((nI k) &&& 1 = 1))) (cwV 1 hts gX7_done_X1_brings rfl rfl rfl (by decide +kernel) ⟨Nat.le_of_ble_eq_true rfl, Nat.le_of_ble_eq_true rfl⟩) (kPreVR (ci := 2) (q0 := 0) hK (kPiece hP (hE (k / 2) (by omega)).2.1 (hE (k / 2) (by omega)).2.2) rfl rfl rfl) rfl rfl hl.1 rfl (lv_room (Nat.le_of_ble_eq_true rfl)) dX7_done_36 ⟨Nat.le_of_ble_eq_true rfl, Nat.le_of_ble_eq_true rfl⟩) (fun v_p hv_p => ?_)
    obtain rfl := hv_p
    refine W.eq (g2 := F0 m 39 ls [.int (if (decide ((nI k) &&& 1 = 1)) then (sk (k / 2)) else (gv (k / 2))), .int kn, .ref o]) rfl ?_
    refine lv_ior hx hb dX7_done_39 ?_
    refine va_put (D := D) (ci := 8) (v := .int (kn ||| (if (decide ((nI k) &&& 1 = 1)) then (sk (k / 2)) else (gv (k / 2))))) (ty := .int) (C := RX7) (T := TX7) (N := 7) hx hb hts hi_X7 tyX7 tyX7_ok nmX7 hown hK.1 hP hD hS 0 rfl rfl 6 (by decide) hw_f51 (fun _ h9 => h9) rfl (by decide +kernel) rfl rfl (Nat.le_of_ble_eq_true rfl) dX7_done_40 (fun H locs hP hD hS => ?_)
    have hP : va_P D vwCl ([(o, .inr (8, [.ref t0, .ref h0, .ref w0, .ref r0, .ref k0, .ref s0, .int (kn ||| (if (decide ((nI k) &&& 1 = 1)) then (sk (k / 2)) else (gv (k / 2))))])), (h0, .inr (4, [.ref la, .int pc])), (la, .inr (0, [.int mo, .ref ea, .int (nI n)]))] ++ va_pl LP pf) H := hP
    have hD : va_D _ ([(o, .inr (8, [.ref t0, .ref h0, .ref w0, .ref r0, .ref k0, .ref s0, .int (kn ||| (if (decide ((nI k) &&& 1 = 1)) then (sk (k / 2)) else (gv (k / 2))))])), (h0, .inr (4, [.ref la, .int pc])), (la, .inr (0, [.int mo, .ref ea, .int (nI n)]))] ++ va_pl LP pf) := hD
    refine lv_aload_n hx hb dX7_done_43 rfl (lv_at hl 1 rfl) ?_
    refine va_get (D := D) (ci := 8) (v := .int (kn ||| (if (decide ((nI k) &&& 1 = 1)) then (sk (k / 2)) else (gv (k / 2))))) (C := RX7) (T := TX7) (N := 7) hx hb hts hi_X7 hown hK.1 hP 0 rfl rfl 6 (by decide) hw_f51 (fun _ h9 => h9) rfl dX7_done_44 ?_
    have ew_0 : (kn ||| (if (decide ((nI k) &&& 1 = 1)) then (sk (k / 2)) else (gv (k / 2))) : Int32) = if openB (ne (k / 2)) (ei (k / 2)) kn then kn ||| (if decide (nI k &&& 1 = 1) then sk (k / 2) else gv (k / 2)) else kn := by simp [c_21]
    exact kRetI hx hb hr hlk dX7_done_47 hP hD hS (Nat.le_of_ble_eq_true rfl) (Nat.le_of_ble_eq_true rfl) ⟨(kpi (by simp [c_21])), (kw1 (fun (z_0 : Int32) => (([(o, .inr (8, [.ref t0, .ref h0, .ref w0, .ref r0, .ref k0, .ref s0, .int z_0])), (h0, .inr (4, [.ref la, .int pc])), (la, .inr (0, [.int mo, .ref ea, .int (nI n)]))] ++ va_pl LP pf) : va_W)) ew_0)⟩
  · skip
    have c_21 := k01_z c_21
    refine lv_iconst (v := (-1)) hx hb dX7_done_24 (by decide) ?_
    have ew_0 : (kn : Int32) = if openB (ne (k / 2)) (ei (k / 2)) kn then kn ||| (if decide (nI k &&& 1 = 1) then sk (k / 2) else gv (k / 2)) else kn := by simp [c_21]
    exact kRetI hx hb hr hlk dX7_done_25 hP hD hS (Nat.le_of_ble_eq_true rfl) (Nat.le_of_ble_eq_true rfl) ⟨(kpi (by simp [c_21])), (kw1 (fun (z_0 : Int32) => (([(o, .inr (8, [.ref t0, .ref h0, .ref w0, .ref r0, .ref k0, .ref s0, .int z_0])), (h0, .inr (4, [.ref la, .int pc])), (la, .inr (0, [.int mo, .ref ea, .int (nI n)]))] ++ va_pl LP pf) : va_W)) ew_0)⟩

set_option maxHeartbeats 4000000 in
set_option maxRecDepth 100000 in
theorem c_X7_done_b (l : Launch) (D : va_G) (cI cJ cZ cO : ClassId) (o : Nat) (t0 : Nat) (h0 : Nat) (w0 : Nat) (r0 : Nat) (k0 : Nat) (s0 : Nat) (kn : Int32) (la : Nat) (ea : Nat) (pc : Int32) (mo : Int32) (n : Nat) (al : Nat → Option Nat) (cap : Nat) (LP : List Nat) (pf : Nat → va_E) (ad : Nat → Nat) (ne : Nat → Int32) (ei : Nat → Int32) (gv : Nat → Int32) (sk : Nat → Int32) (pg : Nat → Int32) (x : Int32) (hn : n ≤ 14) (hH : shH cO n ea cap al LP pf) (hE : shE n al LP pf ad ne ei gv sk pg) (hs : x >>> (1 &&& 31) < 0 ∨ nI n ≤ x >>> (1 &&& 31)) : kC l D (kTY cI cJ cZ cO) yX7_done wsX7_done 4 86 0 0 [.ref o, .int x] ([(o, .inr (8, [.ref t0, .ref h0, .ref w0, .ref r0, .ref k0, .ref s0, .int kn])), (h0, .inr (4, [.ref la, .int pc])), (la, .inr (0, [.int mo, .ref ea, .int (nI n)]))] ++ va_pl LP pf) (fun rv_ rw_ => rv_ = some (.int (-1)) ∧ rw_ = ([(o, .inr (8, [.ref t0, .ref h0, .ref w0, .ref r0, .ref k0, .ref s0, .int kn])), (h0, .inr (4, [.ref la, .int pc])), (la, .inr (0, [.int mo, .ref ea, .int (nI n)]))] ++ va_pl LP pf)) := by
  refine kEnter (cc := cX7_done) (maxL := 3) (ret := (some .int)) (by decide) rfl (Nat.le_of_ble_eq_true rfl) ?_
  intro p e s m args below meth c hx hb hr hml hts hown hlk hnm hK hP hD hS hA ls hl
  have hl : lv_has ls 3 [(0, .ref o), (1, .int x)] := hl
  have hw_f19 := hts (.fieldLink RX7 19 "WhatToRead" "shelf" "LWhatToRead$Shelf;") (by decide +kernel)
  have hi_X7 : ∀ w ∈ wsX70, w ∈ wsX7_done := by decide +kernel
  refine lv_aload_n hx hb dX7_done_0 rfl (lv_at hl 0 rfl) ?_
  refine va_get (D := D) (ci := 8) (v := .ref h0) (C := RX7) (T := TX7) (N := 7) hx hb hts hi_X7 hown hK.1 hP 0 rfl rfl 1 (by decide) hw_f19 (fun _ h9 => h9) rfl dX7_done_1 ?_
  refine lv_iload_n hx hb dX7_done_4 rfl (lv_at hl 1 rfl) ?_
  refine kGoR (va_runV (As := [.int x]) (rest := []) ⟨hx, hb, hml, hown, hts⟩ (c_X3_pieceOf_b l D cI cJ cZ cO h0 la ea pc mo n al cap LP pf ad ne ei gv sk pg x (by first | assumption | omega | decide) (by first | assumption | omega | decide) (by first | assumption | omega | decide) (by first | assumption | omega | decide)) (cwV 1 hts gX7_done_X3_pieceOf rfl rfl rfl (by decide +kernel) ⟨Nat.le_of_ble_eq_true rfl, Nat.le_of_ble_eq_true rfl⟩) (kPreVR (ci := 4) (q0 := 0) hK (hP.part [1, 2] rfl) rfl rfl rfl) rfl rfl hl.1 rfl (lv_room (Nat.le_of_ble_eq_true rfl)) dX7_done_5 ⟨Nat.le_of_ble_eq_true rfl, Nat.le_of_ble_eq_true rfl⟩) (fun v_1 hv_1 => ?_)
  obtain rfl := hv_1
  refine W.eq (g2 := F0 m 8 ls [.null]) rfl ?_
  refine kAstoreN_n (lv' := [(2, .null), (0, .ref o), (1, .int x)]) hx hb dX7_done_8 rfl hl (by decide) rfl (fun ls hl => ?_)
  refine kAloadN_n hx hb dX7_done_9 rfl (lv_at hl 0 rfl) ?_
  refine kIfnullN (tgt := 24) hx hb dX7_done_10 (by decide) ?_
  refine lv_iconst (v := (-1)) hx hb dX7_done_24 (by decide) ?_
  exact kRetI hx hb hr hlk dX7_done_25 hP hD hS (Nat.le_of_ble_eq_true rfl) (Nat.le_of_ble_eq_true rfl) ⟨rfl, rfl⟩

set_option maxHeartbeats 4000000 in
set_option maxRecDepth 100000 in
theorem c_X7_count (l : Launch) (D : va_G) (cI cJ cZ cO : ClassId) (o : Nat) (t0 : Nat) (h0 : Nat) (w0 : Nat) (r0 : Nat) (k0 : Nat) (s0 : Nat) (kn : Int32) (t1 : Nat) (t2 : Nat) (T : Nat) (wo : Nat → Int32) (cl : Nat → Int32) (la : Nat) (ea : Nat) (pc : Int32) (mo : Int32) (n : Nat) (al : Nat → Option Nat) (cap : Nat) (LP : List Nat) (pf : Nat → va_E) (ad : Nat → Nat) (ne : Nat → Int32) (ei : Nat → Int32) (gv : Nat → Int32) (sk : Nat → Int32) (pg : Nat → Int32) (r1 : Nat) (rn : Nat) (rf : Nat → Int32) (x : Int32) (hn : n ≤ 14) (hH : shH cO n ea cap al LP pf) (hE : shE n al LP pf ad ne ei gv sk pg) : kR l D (kTY cI cJ cZ cO) yX7_count wsX7_count 2 40 [.ref o, .int x] ([(o, .inr (8, [.ref t0, .ref h0, .ref w0, .ref r0, .ref k0, .ref s0, .int kn])), (t0, .inr (5, [.ref t1, .ref t2, .int (nI T)])), (t1, .inl (cI, 12, .inl wo)), (t2, .inl (cI, 12, .inl cl)), (r0, .inr (3, [.ref r1, .int (nI rn)])), (r1, .inl (cI, 12, .inl rf)), (h0, .inr (4, [.ref la, .int pc])), (la, .inr (0, [.int mo, .ref ea, .int (nI n)]))] ++ va_pl LP pf) (fun rv_ => rv_ = some (.int (cnt6 x (nI T) (nI n) kn pc (worthF wo kn 12) (nI rn)))) := by
  refine kEnterR (cc := cX7_count) (maxL := 2) (ret := (some .int)) (by decide) rfl (Nat.le_of_ble_eq_true rfl) ?_
  intro p e s m args below meth c hx hb hr hml hts hown hlk hK hP ls hl
  have hl : lv_has ls 2 [(0, .ref o), (1, .int x)] := hl
  have hw_f12 := hts (.fieldLink RX7 12 "WhatToRead" "topics" "LWhatToRead$Topics;") (by decide +kernel)
  have hi_X7 : ∀ w ∈ wsX70, w ∈ wsX7_count := by decide +kernel
  have hw_f19 := hts (.fieldLink RX7 19 "WhatToRead" "shelf" "LWhatToRead$Shelf;") (by decide +kernel)
  have hw_f51 := hts (.fieldLink RX7 51 "WhatToRead" "known" "I") (by decide +kernel)
  have hw_f33 := hts (.fieldLink RX7 33 "WhatToRead" "row" "LWhatToRead$Row;") (by decide +kernel)
  refine lv_iload_n hx hb dX7_count_0 rfl (lv_at hl 1 rfl) ?_
  rcases ksw6 x with ⟨c_1_o, c_1_0, c_1_1, c_1_2, c_1_3, c_1_4, c_1_5⟩ | c_1 | c_1 | c_1 | c_1 | c_1 | c_1
  · skip
    refine lv_tableOut (tgt := 89) hx hb dX7_count_1 c_1_o (by decide) ?_
    refine lv_iconst (v := (-1)) hx hb dX7_count_89 (by decide) ?_
    exact kRetIr hx hb hr hlk dX7_count_90 (kpi (by simp [cnt6, c_1_0, c_1_1, c_1_2, c_1_3, c_1_4, c_1_5]))
  · skip
    refine lv_tableIn (off := 39) (tgt := 40) hx hb dX7_count_1 (by rw [c_1]; decide) (by rw [c_1]; decide) (by rw [c_1]; rfl) (by decide) ?_
    refine lv_aload_n hx hb dX7_count_40 rfl (lv_at hl 0 rfl) ?_
    refine va_get (D := D) (ci := 8) (v := .ref t0) (C := RX7) (T := TX7) (N := 7) hx hb hts hi_X7 hown hK.1 hP 0 rfl rfl 0 (by decide) hw_f12 (fun _ h9 => h9) rfl dX7_count_41 ?_
    refine kGoR (va_runV (As := []) (rest := []) ⟨hx, hb, hml, hown, hts⟩ (c_X4_size l D cI cJ cZ cO t0 t1 t2 (nI T) wo cl ) (cwV 0 hts gX7_count_X4_size rfl rfl rfl (by decide +kernel) ⟨Nat.le_of_ble_eq_true rfl, Nat.le_of_ble_eq_true rfl⟩) (kPreVR (ci := 5) (q0 := 0) hK (kPl_sub hP [1, 2, 3] rfl) rfl rfl rfl) rfl rfl hl.1 rfl (lv_room (Nat.le_of_ble_eq_true rfl)) dX7_count_44 ⟨Nat.le_of_ble_eq_true rfl, Nat.le_of_ble_eq_true rfl⟩) (fun v_1 hv_1 => ?_)
    obtain rfl := hv_1
    refine W.eq (g2 := F0 m 47 ls [.int (nI T)]) rfl ?_
    exact kRetIr hx hb hr hlk dX7_count_47 (kpi (by simp [cnt6, c_1]))
  · skip
    refine lv_tableIn (off := 47) (tgt := 48) hx hb dX7_count_1 (by rw [c_1]; decide) (by rw [c_1]; decide) (by rw [c_1]; rfl) (by decide) ?_
    refine lv_aload_n hx hb dX7_count_48 rfl (lv_at hl 0 rfl) ?_
    refine va_get (D := D) (ci := 8) (v := .ref h0) (C := RX7) (T := TX7) (N := 7) hx hb hts hi_X7 hown hK.1 hP 0 rfl rfl 1 (by decide) hw_f19 (fun _ h9 => h9) rfl dX7_count_49 ?_
    refine kGoR (va_runV (As := []) (rest := []) ⟨hx, hb, hml, hown, hts⟩ (c_X3_size l D cI cJ cZ cO h0 la ea pc mo n al cap LP pf ad ne ei gv sk pg (by first | assumption | omega | decide) (by first | assumption | omega | decide) (by first | assumption | omega | decide)) (cwV 0 hts gX7_count_X3_size rfl rfl rfl (by decide +kernel) ⟨Nat.le_of_ble_eq_true rfl, Nat.le_of_ble_eq_true rfl⟩) (kPreVR (ci := 4) (q0 := 0) hK (hP.part [6, 7] rfl) rfl rfl rfl) rfl rfl hl.1 rfl (lv_room (Nat.le_of_ble_eq_true rfl)) dX7_count_52 ⟨Nat.le_of_ble_eq_true rfl, Nat.le_of_ble_eq_true rfl⟩) (fun v_2 hv_2 => ?_)
    obtain rfl := hv_2
    refine W.eq (g2 := F0 m 55 ls [.int (nI n)]) rfl ?_
    exact kRetIr hx hb hr hlk dX7_count_55 (kpi (by simp [cnt6, c_1]))
  · skip
    refine lv_tableIn (off := 55) (tgt := 56) hx hb dX7_count_1 (by rw [c_1]; decide) (by rw [c_1]; decide) (by rw [c_1]; rfl) (by decide) ?_
    refine lv_aload_n hx hb dX7_count_56 rfl (lv_at hl 0 rfl) ?_
    refine va_get (D := D) (ci := 8) (v := .int kn) (C := RX7) (T := TX7) (N := 7) hx hb hts hi_X7 hown hK.1 hP 0 rfl rfl 6 (by decide) hw_f51 (fun _ h9 => h9) rfl dX7_count_57 ?_
    exact kRetIr hx hb hr hlk dX7_count_60 (kpi (by simp [cnt6, c_1]))
  · skip
    refine lv_tableIn (off := 60) (tgt := 61) hx hb dX7_count_1 (by rw [c_1]; decide) (by rw [c_1]; decide) (by rw [c_1]; rfl) (by decide) ?_
    refine lv_aload_n hx hb dX7_count_61 rfl (lv_at hl 0 rfl) ?_
    refine va_get (D := D) (ci := 8) (v := .ref h0) (C := RX7) (T := TX7) (N := 7) hx hb hts hi_X7 hown hK.1 hP 0 rfl rfl 1 (by decide) hw_f19 (fun _ h9 => h9) rfl dX7_count_62 ?_
    refine kGoR (va_runV (As := []) (rest := []) ⟨hx, hb, hml, hown, hts⟩ (c_X3_currentPace l D cI cJ cZ cO h0 la ea pc mo n al cap LP pf ad ne ei gv sk pg (by first | assumption | omega | decide) (by first | assumption | omega | decide) (by first | assumption | omega | decide)) (cwV 0 hts gX7_count_X3_currentPace rfl rfl rfl (by decide +kernel) ⟨Nat.le_of_ble_eq_true rfl, Nat.le_of_ble_eq_true rfl⟩) (kPreVR (ci := 4) (q0 := 0) hK (hP.part [6, 7] rfl) rfl rfl rfl) rfl rfl hl.1 rfl (lv_room (Nat.le_of_ble_eq_true rfl)) dX7_count_65 ⟨Nat.le_of_ble_eq_true rfl, Nat.le_of_ble_eq_true rfl⟩) (fun v_3 hv_3 => ?_)
    obtain rfl := hv_3
    refine W.eq (g2 := F0 m 68 ls [.int pc]) rfl ?_
    exact kRetIr hx hb hr hlk dX7_count_68 (kpi (by simp [cnt6, c_1]))
  · skip
    refine lv_tableIn (off := 68) (tgt := 69) hx hb dX7_count_1 (by rw [c_1]; decide) (by rw [c_1]; decide) (by rw [c_1]; rfl) (by decide) ?_
    refine lv_aload_n hx hb dX7_count_69 rfl (lv_at hl 0 rfl) ?_
    refine va_get (D := D) (ci := 8) (v := .ref t0) (C := RX7) (T := TX7) (N := 7) hx hb hts hi_X7 hown hK.1 hP 0 rfl rfl 0 (by decide) hw_f12 (fun _ h9 => h9) rfl dX7_count_70 ?_
    refine lv_aload_n hx hb dX7_count_73 rfl (lv_at hl 0 rfl) ?_
    refine va_get (D := D) (ci := 8) (v := .int kn) (C := RX7) (T := TX7) (N := 7) hx hb hts hi_X7 hown hK.1 hP 0 rfl rfl 6 (by decide) hw_f51 (fun _ h9 => h9) rfl dX7_count_74 ?_
    refine kGoR (va_runV (As := [.int kn]) (rest := []) ⟨hx, hb, hml, hown, hts⟩ (c_X4_worthOf l D cI cJ cZ cO t0 t1 t2 (nI T) wo cl kn ) (cwV 1 hts gX7_count_X4_worthOf rfl rfl rfl (by decide +kernel) ⟨Nat.le_of_ble_eq_true rfl, Nat.le_of_ble_eq_true rfl⟩) (kPreVR (ci := 5) (q0 := 0) hK (kPl_sub hP [1, 2, 3] rfl) rfl rfl rfl) rfl rfl hl.1 rfl (lv_room (Nat.le_of_ble_eq_true rfl)) dX7_count_77 ⟨Nat.le_of_ble_eq_true rfl, Nat.le_of_ble_eq_true rfl⟩) (fun v_4 hv_4 => ?_)
    obtain rfl := hv_4
    refine W.eq (g2 := F0 m 80 ls [.int (worthF wo kn 12)]) rfl ?_
    exact kRetIr hx hb hr hlk dX7_count_80 (kpi (by simp [cnt6, c_1]))
  · skip
    refine lv_tableIn (off := 80) (tgt := 81) hx hb dX7_count_1 (by rw [c_1]; decide) (by rw [c_1]; decide) (by rw [c_1]; rfl) (by decide) ?_
    refine lv_aload_n hx hb dX7_count_81 rfl (lv_at hl 0 rfl) ?_
    refine va_get (D := D) (ci := 8) (v := .ref r0) (C := RX7) (T := TX7) (N := 7) hx hb hts hi_X7 hown hK.1 hP 0 rfl rfl 3 (by decide) hw_f33 (fun _ h9 => h9) rfl dX7_count_82 ?_
    refine kGoR (va_runV (As := []) (rest := []) ⟨hx, hb, hml, hown, hts⟩ (c_X2_size l D cI cJ cZ cO r0 r1 (nI rn) rf ) (cwV 0 hts gX7_count_X2_size rfl rfl rfl (by decide +kernel) ⟨Nat.le_of_ble_eq_true rfl, Nat.le_of_ble_eq_true rfl⟩) (kPreVR (ci := 3) (q0 := 0) hK (kPl_sub hP [4, 5] rfl) rfl rfl rfl) rfl rfl hl.1 rfl (lv_room (Nat.le_of_ble_eq_true rfl)) dX7_count_85 ⟨Nat.le_of_ble_eq_true rfl, Nat.le_of_ble_eq_true rfl⟩) (fun v_5 hv_5 => ?_)
    obtain rfl := hv_5
    refine W.eq (g2 := F0 m 88 ls [.int (nI rn)]) rfl ?_
    exact kRetIr hx hb hr hlk dX7_count_88 (kpi (by simp [cnt6, c_1]))

set_option maxHeartbeats 4000000 in
set_option maxRecDepth 100000 in
theorem c_X7_reach (l : Launch) (D : va_G) (cI cJ cZ cO : ClassId) (o : Nat) (t0 : Nat) (h0 : Nat) (w0 : Nat) (r0 : Nat) (k0 : Nat) (s0 : Nat) (kn : Int32) (la : Nat) (ea : Nat) (pc : Int32) (mo : Int32) (n : Nat) (al : Nat → Option Nat) (cap : Nat) (LP : List Nat) (pf : Nat → va_E) (ad : Nat → Nat) (ne : Nat → Int32) (ei : Nat → Int32) (gv : Nat → Int32) (sk : Nat → Int32) (pg : Nat → Int32) (hn : n ≤ 14) (hH : shH cO n ea cap al LP pf) (hE : shE n al LP pf ad ne ei gv sk pg) : kR l D (kTY cI cJ cZ cO) yX7_reach wsX7_reach 4 88 [.ref o] ([(o, .inr (8, [.ref t0, .ref h0, .ref w0, .ref r0, .ref k0, .ref s0, .int kn])), (h0, .inr (4, [.ref la, .int pc])), (la, .inr (0, [.int mo, .ref ea, .int (nI n)]))] ++ va_pl LP pf) (fun rv_ => rv_ = some (.int (rchC ne ei gv n kn 12))) := by
  refine kEnterR (cc := cX7_reach) (maxL := 3) (ret := (some .int)) (by decide) rfl (Nat.le_of_ble_eq_true rfl) ?_
  intro p e s m args below meth c hx hb hr hml hts hown hlk hK hP ls hl
  have hl : lv_has ls 3 [(0, .ref o)] := hl
  have hw_f51 := hts (.fieldLink RX7 51 "WhatToRead" "known" "I") (by decide +kernel)
  have hi_X7 : ∀ w ∈ wsX70, w ∈ wsX7_reach := by decide +kernel
  have hw_f19 := hts (.fieldLink RX7 19 "WhatToRead" "shelf" "LWhatToRead$Shelf;") (by decide +kernel)
  refine lv_aload_n hx hb dX7_reach_0 rfl (lv_at hl 0 rfl) ?_
  refine va_get (D := D) (ci := 8) (v := .int kn) (C := RX7) (T := TX7) (N := 7) hx hb hts hi_X7 hown hK.1 hP 0 rfl rfl 6 (by decide) hw_f51 (fun _ h9 => h9) rfl dX7_reach_1 ?_
  refine lv_istore_n (lv' := [(1, .int kn), (0, .ref o)]) hx hb dX7_reach_4 rfl hl (by decide) rfl (fun ls hl => ?_)
  refine lv_iconst (v := 0) hx hb dX7_reach_5 (by decide) ?_
  refine lv_istore_n (lv' := [(2, .int 0), (1, .int kn), (0, .ref o)]) hx hb dX7_reach_6 rfl hl (by decide) rfl (fun ls hl => ?_)
  have hloop_7 : ∀ (fu : Nat) (j : Nat) (x : Int32), 12 - j < fu → j ≤ 12 → x = rchC ne ei gv n kn j → ∀ ls : Array Slot, lv_has ls 3 [(0, .ref o), (1, .int x), (2, .int (nI j))] → W p l e ({ frames := 4, cells := 0, slots := 0, locals := 88 }) s m args below meth c s.heap [] 0 0 (MQ below (kQr (fun rv_ => rv_ = some (.int (rchC ne ei gv n kn 12)))) args s 0 0 (fun _ => False)) (F0 m 7 ls []) := by
    intro fu
    induction fu with
    | zero => intro j x hmu; exact absurd hmu (Nat.not_lt_zero _)
    | succ fu ih_7 =>
      intro j x hmu_7 hj ex ls hl
      refine lv_iload_n hx hb dX7_reach_7 rfl (lv_at hl 2 rfl) ?_
      refine lv_bipush (v := 12) hx hb dX7_reach_8 (by decide) ?_
      refine lv_icmp_ge (tgt := 28) hx hb dX7_reach_10 (by decide) (fun c_10 => ?_) (fun c_10 => ?_)
      · skip
        have nc_10 : 12 ≤ j := (nI_leI (a := 12) (b := j) (by omega) (by omega)).mp c_10
        have e12 : j = 12 := by omega
        refine lv_iload_n hx hb dX7_reach_28 rfl (lv_at hl 1 rfl) ?_
        exact kRetIr hx hb hr hlk dX7_reach_29 (kpi (by rw [ex, e12]))
      · skip
        have nc_10 : ¬ 12 ≤ j := (not_congr (nI_leI (a := 12) (b := j) (by omega) (by omega))).mp c_10
        refine lv_aload_n hx hb dX7_reach_13 rfl (lv_at hl 0 rfl) ?_
        refine va_get (D := D) (ci := 8) (v := .ref h0) (C := RX7) (T := TX7) (N := 7) hx hb hts hi_X7 hown hK.1 hP 0 rfl rfl 1 (by decide) hw_f19 (fun _ h9 => h9) rfl dX7_reach_14 ?_
        refine lv_iload_n hx hb dX7_reach_17 rfl (lv_at hl 1 rfl) ?_
        refine kGoR (va_runV (As := [.int x]) (rest := []) ⟨hx, hb, hml, hown, hts⟩ (c_X3_readAllOpenTo l D cI cJ cZ cO h0 la ea pc mo n al cap LP pf ad ne ei gv sk pg x (by first | assumption | omega | decide) (by first | assumption | omega | decide) (by first | assumption | omega | decide)) (cwV 1 hts gX7_reach_X3_readAllOpenTo rfl rfl rfl (by decide +kernel) ⟨Nat.le_of_ble_eq_true rfl, Nat.le_of_ble_eq_true rfl⟩) (kPreVR (ci := 4) (q0 := 0) hK (hP.part [1, 2] rfl) rfl rfl rfl) rfl rfl hl.1 rfl (lv_room (Nat.le_of_ble_eq_true rfl)) dX7_reach_18 ⟨Nat.le_of_ble_eq_true rfl, Nat.le_of_ble_eq_true rfl⟩) (fun v_1 hv_1 => ?_)
        obtain rfl := hv_1
        refine W.eq (g2 := F0 m 21 ls [.int (readF ne ei gv x n)]) rfl ?_
        refine lv_istore_n (lv' := [(1, .int (readF ne ei gv x n)), (0, .ref o), (2, .int (nI j))]) hx hb dX7_reach_21 rfl hl (by decide) rfl (fun ls hl => ?_)
        refine lv_iinc (v := nI (j + 1)) (lv' := [(2, .int (nI (j + 1))), (1, .int (readF ne ei gv x n)), (0, .ref o)]) hx hb dX7_reach_22 hl (k := 2) rfl (nI_1 _) (by decide) rfl (fun ls hl => ?_)
        refine lv_goto (tgt := 7) hx hb dX7_reach_25 (by decide) ?_
        exact ih_7  (j + 1) (readF ne ei gv x n) (by omega) (by first | omega | assumption | exact Nat.zero_le _) (by rw [ex]; rfl) _ (lv_sub hl [2, 1, 0] rfl)
  exact hloop_7 ((12 - 0) + 1) 0 kn (Nat.lt_succ_self _) (by first | omega | assumption | exact Nat.zero_le _) (by rfl) _ (lv_sub hl [2, 1, 0] rfl)

set_option maxHeartbeats 4000000 in
set_option maxRecDepth 100000 in
theorem c_X7_gaps (l : Launch) (D : va_G) (cI cJ cZ cO : ClassId) (o : Nat) (t0 : Nat) (h0 : Nat) (w0 : Nat) (r0 : Nat) (k0 : Nat) (s0 : Nat) (kn : Int32) (la : Nat) (ea : Nat) (pc : Int32) (mo : Int32) (n : Nat) (al : Nat → Option Nat) (cap : Nat) (LP : List Nat) (pf : Nat → va_E) (ad : Nat → Nat) (ne : Nat → Int32) (ei : Nat → Int32) (gv : Nat → Int32) (sk : Nat → Int32) (pg : Nat → Int32) (hn : n ≤ 14) (hH : shH cO n ea cap al LP pf) (hE : shE n al LP pf ad ne ei gv sk pg) : kR l D (kTY cI cJ cZ cO) yX7_gaps wsX7_gaps 4 86 [.ref o] ([(o, .inr (8, [.ref t0, .ref h0, .ref w0, .ref r0, .ref k0, .ref s0, .int kn])), (h0, .inr (4, [.ref la, .int pc])), (la, .inr (0, [.int mo, .ref ea, .int (nI n)]))] ++ va_pl LP pf) (fun rv_ => rv_ = some (.int ((neededF ne n &&& (neededF gv n ^^^ (-1))) &&& (kn ^^^ (-1))))) := by
  refine kEnterR (cc := cX7_gaps) (maxL := 1) (ret := (some .int)) (by decide) rfl (Nat.le_of_ble_eq_true rfl) ?_
  intro p e s m args below meth c hx hb hr hml hts hown hlk hK hP ls hl
  have hl : lv_has ls 1 [(0, .ref o)] := hl
  have hw_f19 := hts (.fieldLink RX7 19 "WhatToRead" "shelf" "LWhatToRead$Shelf;") (by decide +kernel)
  have hi_X7 : ∀ w ∈ wsX70, w ∈ wsX7_gaps := by decide +kernel
  have hw_f51 := hts (.fieldLink RX7 51 "WhatToRead" "known" "I") (by decide +kernel)
  refine lv_aload_n hx hb dX7_gaps_0 rfl (lv_at hl 0 rfl) ?_
  refine va_get (D := D) (ci := 8) (v := .ref h0) (C := RX7) (T := TX7) (N := 7) hx hb hts hi_X7 hown hK.1 hP 0 rfl rfl 1 (by decide) hw_f19 (fun _ h9 => h9) rfl dX7_gaps_1 ?_
  refine kGoR (va_runV (As := []) (rest := []) ⟨hx, hb, hml, hown, hts⟩ (c_X3_allNeeded l D cI cJ cZ cO h0 la ea pc mo n al cap LP pf ad ne ei gv sk pg (by first | assumption | omega | decide) (by first | assumption | omega | decide) (by first | assumption | omega | decide)) (cwV 0 hts gX7_gaps_X3_allNeeded rfl rfl rfl (by decide +kernel) ⟨Nat.le_of_ble_eq_true rfl, Nat.le_of_ble_eq_true rfl⟩) (kPreVR (ci := 4) (q0 := 0) hK (hP.part [1, 2] rfl) rfl rfl rfl) rfl rfl hl.1 rfl (lv_room (Nat.le_of_ble_eq_true rfl)) dX7_gaps_4 ⟨Nat.le_of_ble_eq_true rfl, Nat.le_of_ble_eq_true rfl⟩) (fun v_1 hv_1 => ?_)
  obtain rfl := hv_1
  refine W.eq (g2 := F0 m 7 ls [.int (neededF ne n)]) rfl ?_
  refine lv_aload_n hx hb dX7_gaps_7 rfl (lv_at hl 0 rfl) ?_
  refine va_get (D := D) (ci := 8) (v := .ref h0) (C := RX7) (T := TX7) (N := 7) hx hb hts hi_X7 hown hK.1 hP 0 rfl rfl 1 (by decide) hw_f19 (fun _ h9 => h9) rfl dX7_gaps_8 ?_
  refine kGoR (va_runV (As := []) (rest := [.int (neededF ne n)]) ⟨hx, hb, hml, hown, hts⟩ (c_X3_allGiven l D cI cJ cZ cO h0 la ea pc mo n al cap LP pf ad ne ei gv sk pg (by first | assumption | omega | decide) (by first | assumption | omega | decide) (by first | assumption | omega | decide)) (cwV 0 hts gX7_gaps_X3_allGiven rfl rfl rfl (by decide +kernel) ⟨Nat.le_of_ble_eq_true rfl, Nat.le_of_ble_eq_true rfl⟩) (kPreVR (ci := 4) (q0 := 0) hK (hP.part [1, 2] rfl) rfl rfl rfl) rfl rfl hl.1 rfl (lv_room (Nat.le_of_ble_eq_true rfl)) dX7_gaps_11 ⟨Nat.le_of_ble_eq_true rfl, Nat.le_of_ble_eq_true rfl⟩) (fun v_2 hv_2 => ?_)
  obtain rfl := hv_2
  refine W.eq (g2 := F0 m 14 ls [.int (neededF gv n), .int (neededF ne n)]) rfl ?_
  refine lv_iconst (v := (-1)) hx hb dX7_gaps_14 (by decide) ?_
  refine lv_ixor hx hb dX7_gaps_15 ?_
  refine lv_iand hx hb dX7_gaps_16 ?_
  refine lv_aload_n hx hb dX7_gaps_17 rfl (lv_at hl 0 rfl) ?_
  refine va_get (D := D) (ci := 8) (v := .int kn) (C := RX7) (T := TX7) (N := 7) hx hb hts hi_X7 hown hK.1 hP 0 rfl rfl 6 (by decide) hw_f51 (fun _ h9 => h9) rfl dX7_gaps_18 ?_
  refine lv_iconst (v := (-1)) hx hb dX7_gaps_21 (by decide) ?_
  refine lv_ixor hx hb dX7_gaps_22 ?_
  refine lv_iand hx hb dX7_gaps_23 ?_
  exact kRetIr hx hb hr hlk dX7_gaps_24 (kpi (by first | rfl | (rw [ex, e12]; done) | (rw [em, e12]; done) | (rw [ey, e12]; done) | (rw [e12]; done) | (simp []; done) | (simp_all []; done)))

set_option maxHeartbeats 4000000 in
set_option maxRecDepth 100000 in
theorem c_X7_lay_a (l : Launch) (D : va_G) (cI cJ cZ cO : ClassId) (o : Nat) (t0 : Nat) (h0 : Nat) (w0 : Nat) (r0 : Nat) (k0 : Nat) (s0 : Nat) (kn : Int32) (k1 : Nat) (k2 : Nat) (k3 : Nat) (k4 : Nat) (k5 : Nat) (mi : Nat → Int32) (ln : Nat) (lf : Nat → Int32) (dn : Int32) (df : Nat → Int32) (r1 : Nat) (rn : Nat) (rf : Nat → Int32) (la : Nat) (ea : Nat) (pc : Int32) (mo : Int32) (n : Nat) (al : Nat → Option Nat) (cap : Nat) (LP : List Nat) (pf : Nat → va_E) (ad : Nat → Nat) (ne : Nat → Int32) (ei : Nat → Int32) (gv : Nat → Int32) (sk : Nat → Int32) (pg : Nat → Int32) (F : Nat) (hn : n ≤ 14) (hH : shH cO n ea cap al LP pf) (hE : shE n al LP pf ad ne ei gv sk pg) (hF : F < 52) (hrn : rn ≤ 12) : kC l D (kTY cI cJ cZ cO) yX7_lay wsX7_lay 6 135 0 0 [.ref o, .int (nI F)] ([(o, .inr (8, [.ref t0, .ref h0, .ref w0, .ref r0, .ref k0, .ref s0, .int kn])), (k0, .inr (7, [.ref k1, .ref k2, .ref k3])), (k1, .inl (cI, 52, .inl mi)), (k2, .inr (3, [.ref k4, .int (nI ln)])), (k4, .inl (cI, 12, .inl lf)), (k3, .inr (3, [.ref k5, .int dn])), (k5, .inl (cI, 12, .inl df)), (r0, .inr (3, [.ref r1, .int (nI rn)])), (r1, .inl (cI, 12, .inl rf)), (h0, .inr (4, [.ref la, .int pc])), (la, .inr (0, [.int mo, .ref ea, .int (nI n)]))] ++ va_pl LP pf) (fun rv_ rw_ => ∃ dn2 : Int32, ∃ df2 : Nat → Int32, rv_ = some (.int (layR (layS mi (fun z => minF n pg pc (rf z)) F df rn))) ∧ rw_ = ([(o, .inr (8, [.ref t0, .ref h0, .ref w0, .ref r0, .ref k0, .ref s0, .int kn])), (k0, .inr (7, [.ref k1, .ref k2, .ref k3])), (k1, .inl (cI, 52, .inl mi)), (k2, .inr (3, [.ref k4, .int (nI (layN (layS mi (fun z => minF n pg pc (rf z)) F df rn) rn ln))])), (k4, .inl (cI, 12, .inl (layA (layS mi (fun z => minF n pg pc (rf z)) F df rn) rn lf))), (k3, .inr (3, [.ref k5, .int dn2])), (k5, .inl (cI, 12, .inl df2)), (r0, .inr (3, [.ref r1, .int (nI rn)])), (r1, .inl (cI, 12, .inl rf)), (h0, .inr (4, [.ref la, .int pc])), (la, .inr (0, [.int mo, .ref ea, .int (nI n)]))] ++ va_pl LP pf)) := by
  refine kEnter (cc := cX7_lay) (maxL := 2) (ret := (some .int)) (by decide) rfl (Nat.le_of_ble_eq_true rfl) ?_
  intro p e s m args below meth c hx hb hr hml hts hown hlk hnm hK hP hD hS hA ls hl
  have hl : lv_has ls 2 [(0, .ref o), (1, .int (nI F))] := hl
  have hw_f40 := hts (.fieldLink RX7 40 "WhatToRead" "weeks" "LWhatToRead$Weeks;") (by decide +kernel)
  have hi_X7 : ∀ w ∈ wsX70, w ∈ wsX7_lay := by decide +kernel
  have hw_f33 := hts (.fieldLink RX7 33 "WhatToRead" "row" "LWhatToRead$Row;") (by decide +kernel)
  have hw_f19 := hts (.fieldLink RX7 19 "WhatToRead" "shelf" "LWhatToRead$Shelf;") (by decide +kernel)
  refine lv_aload_n hx hb dX7_lay_0 rfl (lv_at hl 0 rfl) ?_
  refine va_get (D := D) (ci := 8) (v := .ref k0) (C := RX7) (T := TX7) (N := 7) hx hb hts hi_X7 hown hK.1 hP 0 rfl rfl 4 (by decide) hw_f40 (fun _ h9 => h9) rfl dX7_lay_1 ?_
  refine lv_aload_n hx hb dX7_lay_4 rfl (lv_at hl 0 rfl) ?_
  refine va_get (D := D) (ci := 8) (v := .ref r0) (C := RX7) (T := TX7) (N := 7) hx hb hts hi_X7 hown hK.1 hP 0 rfl rfl 3 (by decide) hw_f33 (fun _ h9 => h9) rfl dX7_lay_5 ?_
  refine lv_aload_n hx hb dX7_lay_8 rfl (lv_at hl 0 rfl) ?_
  refine va_get (D := D) (ci := 8) (v := .ref h0) (C := RX7) (T := TX7) (N := 7) hx hb hts hi_X7 hown hK.1 hP 0 rfl rfl 1 (by decide) hw_f19 (fun _ h9 => h9) rfl dX7_lay_9 ?_
  refine lv_iload_n hx hb dX7_lay_12 rfl (lv_at hl 1 rfl) ?_
  refine kGoP (cx := [(k0, .inr (7, [.ref k1, .ref k2, .ref k3])), (k1, .inl (cI, 52, .inl mi)), (k2, .inr (3, [.ref k4, .int (nI ln)])), (k4, .inl (cI, 12, .inl lf)), (k3, .inr (3, [.ref k5, .int dn])), (k5, .inl (cI, 12, .inl df)), (r0, .inr (3, [.ref r1, .int (nI rn)])), (r1, .inl (cI, 12, .inl rf)), (h0, .inr (4, [.ref la, .int pc])), (la, .inr (0, [.int mo, .ref ea, .int (nI n)]))]) (wr := [(o, .inr (8, [.ref t0, .ref h0, .ref w0, .ref r0, .ref k0, .ref s0, .int kn]))]) (va_runV (As := [.ref r0, .ref h0, .int (nI F)]) (rest := []) ⟨hx, hb, hml, hown, hts⟩ (c_X6_layRow_a l D cI cJ cZ cO k0 k1 k2 k3 k4 k5 mi ln lf dn df r0 r1 rn rf h0 la ea pc mo n al cap LP pf ad ne ei gv sk pg F (by first | assumption | omega | decide) (by first | assumption | omega | decide) (by first | assumption | omega | decide) (by first | assumption | omega | decide) (by first | assumption | omega | decide) _) (cwV 3 hts gX7_lay_X6_layRow rfl rfl rfl (by decide +kernel) ⟨Nat.le_of_ble_eq_true rfl, Nat.le_of_ble_eq_true rfl⟩) (kPreV (ci := 7) (q0 := 0) hK (hP.part [1, 2, 3, 4, 5, 6, 7, 8, 9, 10] rfl) ((hD.part [1, 2, 3, 4, 5, 6, 7, 8, 9, 10] (by decide) rfl).weaken (fun _ _ _ _ => trivial)) rfl rfl rfl) rfl rfl hl.1 rfl (lv_room (Nat.le_of_ble_eq_true rfl)) dX7_lay_13 ⟨Nat.le_of_ble_eq_true rfl, Nat.le_of_ble_eq_true rfl⟩) hP hD hS hA [1, 2, 3, 4, 5, 6, 7, 8, 9, 10] [0] rfl rfl (by decide) (by decide) (fun v_1 w_1 H locs hv_1 hP hS => ?_)
  obtain ⟨dn2_13, df2_13, rfl, rfl⟩ := hv_1
  obtain ⟨hP, hD⟩ := hP _ _ rfl
  have hP : va_P D vwCl ([(o, .inr (8, [.ref t0, .ref h0, .ref w0, .ref r0, .ref k0, .ref s0, .int kn])), (k0, .inr (7, [.ref k1, .ref k2, .ref k3])), (k1, .inl (cI, 52, .inl mi)), (k2, .inr (3, [.ref k4, .int (nI (layN (layS mi (fun z => minF n pg pc (rf z)) F df rn) rn ln))])), (k4, .inl (cI, 12, .inl (layA (layS mi (fun z => minF n pg pc (rf z)) F df rn) rn lf))), (k3, .inr (3, [.ref k5, .int dn2_13])), (k5, .inl (cI, 12, .inl df2_13)), (r0, .inr (3, [.ref r1, .int (nI rn)])), (r1, .inl (cI, 12, .inl rf)), (h0, .inr (4, [.ref la, .int pc])), (la, .inr (0, [.int mo, .ref ea, .int (nI n)]))] ++ va_pl LP pf) H := hP.part [0, 1, 2, 3, 4, 5, 6, 7, 8, 9, 10] rfl
  have hD : va_D _ ([(o, .inr (8, [.ref t0, .ref h0, .ref w0, .ref r0, .ref k0, .ref s0, .int kn])), (k0, .inr (7, [.ref k1, .ref k2, .ref k3])), (k1, .inl (cI, 52, .inl mi)), (k2, .inr (3, [.ref k4, .int (nI (layN (layS mi (fun z => minF n pg pc (rf z)) F df rn) rn ln))])), (k4, .inl (cI, 12, .inl (layA (layS mi (fun z => minF n pg pc (rf z)) F df rn) rn lf))), (k3, .inr (3, [.ref k5, .int dn2_13])), (k5, .inl (cI, 12, .inl df2_13)), (r0, .inr (3, [.ref r1, .int (nI rn)])), (r1, .inl (cI, 12, .inl rf)), (h0, .inr (4, [.ref la, .int pc])), (la, .inr (0, [.int mo, .ref ea, .int (nI n)]))] ++ va_pl LP pf) := hD.part [0, 1, 2, 3, 4, 5, 6, 7, 8, 9, 10] (by decide) rfl
  refine W.eq (g2 := F0 m 16 ls [.int (layR (layS mi (fun z => minF n pg pc (rf z)) F df rn))]) rfl ?_
  exact kRetI hx hb hr hlk dX7_lay_16 hP hD hS (Nat.le_of_ble_eq_true rfl) (Nat.le_of_ble_eq_true rfl) ⟨dn2_13, df2_13, rfl, rfl⟩

set_option maxHeartbeats 4000000 in
set_option maxRecDepth 100000 in
theorem c_X7_lay_b (l : Launch) (D : va_G) (cI cJ cZ cO : ClassId) (o : Nat) (t0 : Nat) (h0 : Nat) (w0 : Nat) (r0 : Nat) (k0 : Nat) (s0 : Nat) (kn : Int32) (k1 : Nat) (k2 : Nat) (k3 : Nat) (k4 : Nat) (k5 : Nat) (mi : Nat → Int32) (ln : Nat) (lf : Nat → Int32) (dn : Int32) (df : Nat → Int32) (r1 : Nat) (rn : Nat) (rf : Nat → Int32) (la : Nat) (ea : Nat) (pc : Int32) (mo : Int32) (n : Nat) (al : Nat → Option Nat) (cap : Nat) (LP : List Nat) (pf : Nat → va_E) (ad : Nat → Nat) (ne : Nat → Int32) (ei : Nat → Int32) (gv : Nat → Int32) (sk : Nat → Int32) (pg : Nat → Int32) (x : Int32) (hn : n ≤ 14) (hH : shH cO n ea cap al LP pf) (hE : shE n al LP pf ad ne ei gv sk pg) (hx1 : x < 0 ∨ 52 ≤ x) : kC l D (kTY cI cJ cZ cO) yX7_lay wsX7_lay 6 135 0 0 [.ref o, .int x] ([(o, .inr (8, [.ref t0, .ref h0, .ref w0, .ref r0, .ref k0, .ref s0, .int kn])), (k0, .inr (7, [.ref k1, .ref k2, .ref k3])), (k1, .inl (cI, 52, .inl mi)), (k2, .inr (3, [.ref k4, .int (nI ln)])), (k4, .inl (cI, 12, .inl lf)), (k3, .inr (3, [.ref k5, .int dn])), (k5, .inl (cI, 12, .inl df)), (r0, .inr (3, [.ref r1, .int (nI rn)])), (r1, .inl (cI, 12, .inl rf)), (h0, .inr (4, [.ref la, .int pc])), (la, .inr (0, [.int mo, .ref ea, .int (nI n)]))] ++ va_pl LP pf) (fun rv_ rw_ => rv_ = some (.int (-1)) ∧ rw_ = ([(o, .inr (8, [.ref t0, .ref h0, .ref w0, .ref r0, .ref k0, .ref s0, .int kn])), (k0, .inr (7, [.ref k1, .ref k2, .ref k3])), (k1, .inl (cI, 52, .inl mi)), (k2, .inr (3, [.ref k4, .int (nI ln)])), (k4, .inl (cI, 12, .inl lf)), (k3, .inr (3, [.ref k5, .int dn])), (k5, .inl (cI, 12, .inl df)), (r0, .inr (3, [.ref r1, .int (nI rn)])), (r1, .inl (cI, 12, .inl rf)), (h0, .inr (4, [.ref la, .int pc])), (la, .inr (0, [.int mo, .ref ea, .int (nI n)]))] ++ va_pl LP pf)) := by
  refine kEnter (cc := cX7_lay) (maxL := 2) (ret := (some .int)) (by decide) rfl (Nat.le_of_ble_eq_true rfl) ?_
  intro p e s m args below meth c hx hb hr hml hts hown hlk hnm hK hP hD hS hA ls hl
  have hl : lv_has ls 2 [(0, .ref o), (1, .int x)] := hl
  have hw_f40 := hts (.fieldLink RX7 40 "WhatToRead" "weeks" "LWhatToRead$Weeks;") (by decide +kernel)
  have hi_X7 : ∀ w ∈ wsX70, w ∈ wsX7_lay := by decide +kernel
  have hw_f33 := hts (.fieldLink RX7 33 "WhatToRead" "row" "LWhatToRead$Row;") (by decide +kernel)
  have hw_f19 := hts (.fieldLink RX7 19 "WhatToRead" "shelf" "LWhatToRead$Shelf;") (by decide +kernel)
  refine lv_aload_n hx hb dX7_lay_0 rfl (lv_at hl 0 rfl) ?_
  refine va_get (D := D) (ci := 8) (v := .ref k0) (C := RX7) (T := TX7) (N := 7) hx hb hts hi_X7 hown hK.1 hP 0 rfl rfl 4 (by decide) hw_f40 (fun _ h9 => h9) rfl dX7_lay_1 ?_
  refine lv_aload_n hx hb dX7_lay_4 rfl (lv_at hl 0 rfl) ?_
  refine va_get (D := D) (ci := 8) (v := .ref r0) (C := RX7) (T := TX7) (N := 7) hx hb hts hi_X7 hown hK.1 hP 0 rfl rfl 3 (by decide) hw_f33 (fun _ h9 => h9) rfl dX7_lay_5 ?_
  refine lv_aload_n hx hb dX7_lay_8 rfl (lv_at hl 0 rfl) ?_
  refine va_get (D := D) (ci := 8) (v := .ref h0) (C := RX7) (T := TX7) (N := 7) hx hb hts hi_X7 hown hK.1 hP 0 rfl rfl 1 (by decide) hw_f19 (fun _ h9 => h9) rfl dX7_lay_9 ?_
  refine lv_iload_n hx hb dX7_lay_12 rfl (lv_at hl 1 rfl) ?_
  refine kGoP (cx := [(k0, .inr (7, [.ref k1, .ref k2, .ref k3])), (k1, .inl (cI, 52, .inl mi)), (k2, .inr (3, [.ref k4, .int (nI ln)])), (k4, .inl (cI, 12, .inl lf)), (k3, .inr (3, [.ref k5, .int dn])), (k5, .inl (cI, 12, .inl df)), (r0, .inr (3, [.ref r1, .int (nI rn)])), (r1, .inl (cI, 12, .inl rf)), (h0, .inr (4, [.ref la, .int pc])), (la, .inr (0, [.int mo, .ref ea, .int (nI n)]))]) (wr := [(o, .inr (8, [.ref t0, .ref h0, .ref w0, .ref r0, .ref k0, .ref s0, .int kn]))]) (va_runV (As := [.ref r0, .ref h0, .int x]) (rest := []) ⟨hx, hb, hml, hown, hts⟩ (c_X6_layRow_b l D cI cJ cZ cO k0 k1 k2 k3 k4 k5 mi ln lf dn df r0 r1 rn rf h0 la ea pc mo n al cap LP pf ad ne ei gv sk pg x (by first | assumption | omega | decide) (by first | assumption | omega | decide) (by first | assumption | omega | decide) (by first | assumption | omega | decide) _) (cwV 3 hts gX7_lay_X6_layRow rfl rfl rfl (by decide +kernel) ⟨Nat.le_of_ble_eq_true rfl, Nat.le_of_ble_eq_true rfl⟩) (kPreV (ci := 7) (q0 := 0) hK (hP.part [1, 2, 3, 4, 5, 6, 7, 8, 9, 10] rfl) ((hD.part [1, 2, 3, 4, 5, 6, 7, 8, 9, 10] (by decide) rfl).weaken (fun _ _ _ _ => trivial)) rfl rfl rfl) rfl rfl hl.1 rfl (lv_room (Nat.le_of_ble_eq_true rfl)) dX7_lay_13 ⟨Nat.le_of_ble_eq_true rfl, Nat.le_of_ble_eq_true rfl⟩) hP hD hS hA [1, 2, 3, 4, 5, 6, 7, 8, 9, 10] [0] rfl rfl (by decide) (by decide) (fun v_1 w_1 H locs hv_1 hP hS => ?_)
  obtain ⟨rfl, rfl⟩ := hv_1
  obtain ⟨hP, hD⟩ := hP _ _ rfl
  have hP : va_P D vwCl ([(o, .inr (8, [.ref t0, .ref h0, .ref w0, .ref r0, .ref k0, .ref s0, .int kn])), (k0, .inr (7, [.ref k1, .ref k2, .ref k3])), (k1, .inl (cI, 52, .inl mi)), (k2, .inr (3, [.ref k4, .int (nI ln)])), (k4, .inl (cI, 12, .inl lf)), (k3, .inr (3, [.ref k5, .int dn])), (k5, .inl (cI, 12, .inl df)), (r0, .inr (3, [.ref r1, .int (nI rn)])), (r1, .inl (cI, 12, .inl rf)), (h0, .inr (4, [.ref la, .int pc])), (la, .inr (0, [.int mo, .ref ea, .int (nI n)]))] ++ va_pl LP pf) H := hP.part [0, 1, 2, 3, 4, 5, 6, 7, 8, 9, 10] rfl
  have hD : va_D _ ([(o, .inr (8, [.ref t0, .ref h0, .ref w0, .ref r0, .ref k0, .ref s0, .int kn])), (k0, .inr (7, [.ref k1, .ref k2, .ref k3])), (k1, .inl (cI, 52, .inl mi)), (k2, .inr (3, [.ref k4, .int (nI ln)])), (k4, .inl (cI, 12, .inl lf)), (k3, .inr (3, [.ref k5, .int dn])), (k5, .inl (cI, 12, .inl df)), (r0, .inr (3, [.ref r1, .int (nI rn)])), (r1, .inl (cI, 12, .inl rf)), (h0, .inr (4, [.ref la, .int pc])), (la, .inr (0, [.int mo, .ref ea, .int (nI n)]))] ++ va_pl LP pf) := hD.part [0, 1, 2, 3, 4, 5, 6, 7, 8, 9, 10] (by decide) rfl
  refine W.eq (g2 := F0 m 16 ls [.int (-1)]) rfl ?_
  exact kRetI hx hb hr hlk dX7_lay_16 hP hD hS (Nat.le_of_ble_eq_true rfl) (Nat.le_of_ble_eq_true rfl) ⟨rfl, rfl⟩
