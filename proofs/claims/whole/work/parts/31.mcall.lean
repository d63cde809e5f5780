/-! ===== the reference: its calls ===== -/
def xnot (x : Int32) : Int32 := x ^^^ (-1)
def topB (T : Nat) (w b : Int32) : Bool := withinB w 0 9 && areB T b && decide (¬ T = 12)
def pieB (T P : Nat) (a1 a2 a3 a4 a5 : Int32) : Bool := areB T a1 && areB T a2 && areB T a3 && areB T a4 && decide (¬ a3 = 0) && decide (a4 &&& xnot a3 = 0) && withinB a5 1 400 && decide (¬ P = 14)
def cntF6 (x a b c d e f : Int32) : Int32 := if x = 0 then a else if x = 1 then b else if x = 2 then c else if x = 3 then d else if x = 4 then e else if x = 5 then f else -1
def rowM (f : Nat → Int32) (n : Nat) (i : Int32) : Int32 := if withinB i 0 (nI n - 1) then f i.toNatClampNeg else -1
theorem kwin {i : Int32} {n N : Nat} (h : withinB i 0 (nI n - 1) = true) (hn : n ≤ N) (hN : N < 4096) : vp_in i N := by
  unfold withinB at h
  simp only [Bool.and_eq_true, decide_eq_true_eq] at h
  obtain ⟨h1, h2⟩ := h
  obtain ⟨j, hj, rfl⟩ := nI_of h1
  rcases Nat.eq_zero_or_pos n with rfl | hp
  · exact absurd (show nI 0 - 1 < nI j from by rw [Int32.lt_iff_toInt_lt, nI_toInt hj, show (nI 0 - 1).toInt = -1 by decide]; omega) h2
  · rw [kpred hp] at h2
    have := (not_congr (nI_ltI (by omega) hj)).mp h2
    exact vp_in_nI (by omega) (by omega)
theorem kstpB {P : Nat} {x : Int32} (hP : P ≤ 14) (h : stpB P x = true) : ∃ k, k < 2 * P ∧ x = nI k := by
  unfold stpB at h
  rw [show (2 : Int32) * nI P = nI (2 * P) from pk_mul 2 P] at h
  have hv := kwin h (N := 2 * P) (Nat.le_refl _) (by omega)
  exact vp_in_of hv (by omega)
def zro (f : Nat → Int32) (i : Nat) : Nat → Int32 := fun j => if j < i then 0 else f j
theorem zro_0 (f : Nat → Int32) : zro f 0 = f := by funext j; simp [zro]
theorem zro_s (f : Nat → Int32) (i : Nat) : upd (zro f i) i 0 = zro f (i + 1) := by
  funext j
  unfold upd zro
  by_cases h1 : j = i
  · subst h1; simp
  · by_cases h2 : j < i
    · rw [if_neg h1, if_pos h2, if_pos (by omega)]
    · rw [if_neg h1, if_neg h2, if_neg (by omega)]
theorem ansB_congr {f g : Nat → Int32} {v : Int32} : ∀ T, (∀ t, t < T → f t = g t) → ansB f v T = ansB g v T
  | 0, _ => rfl
  | T + 1, h => by
    unfold ansB
    rw [ansB_congr T (fun t ht => h t (by omega)), h T (by omega)]
theorem manyF_congr {im f g : Nat → Int32} {T : Nat} (h : ∀ t, t < T → f t = g t) : ∀ n, manyF im f T n = manyF im g T n
  | 0 => rfl
  | n + 1 => by
    unfold manyF stateB
    rw [manyF_congr h n, ansB_congr T h]
theorem manyF_zro (im an : Nat → Int32) (T : Nat) (hT : T ≤ 12) : manyF im (zro an 12) T (2 ^ T) = manyF im (fun _ => 0) T (2 ^ T) :=
  manyF_congr (fun t ht => if_pos (by omega)) _
def ansM (im an : Nat → Int32) (T t : Nat) (is : Bool) : Nat := manyF im (upd an t (if is then 1 else 2)) T (2 ^ T)

set_option maxHeartbeats 4000000 in
set_option maxRecDepth 100000 in
theorem c_X8_topic (l : Launch) (D : va_G) (cI cJ cZ cO : ClassId) (z : Nat) (a0 : Nat) (a1 : Nat) (a2 : Nat) (a3 : Nat) (a4 : Nat) (a5 : Nat) (a6 : Nat) (a7 : Nat) (a8 : Nat) (a9 : Nat) (a10 : Nat) (a11 : Nat) (a12 : Nat) (a13 : Nat) (a14 : Nat) (a15 : Nat) (T : Nat) (P : Nat) (pa : Int32) (kn : Int32) (rn : Nat) (ln : Nat) (th : Int32) (wt : Int32) (wo : Nat → Int32) (im : Nat → Int32) (w : Int32) (b : Int32) (hT : T ≤ 12) : kC l D (kTY cI cJ cZ cO) yX8_topic wsX8_topic 2 43 0 0 [.ref z, .int w, .int b] [(z, .inr (9, [.ref a0, .ref a1, .int (nI T), .ref a2, .ref a3, .ref a4, .ref a5, .ref a6, .int (nI P), .int pa, .int kn, .ref a7, .int (nI rn), .ref a8, .ref a9, .int (nI ln), .ref a10, .int th, .ref a11, .ref a12, .int wt, .ref a13, .ref a14, .ref a15])), (a0, .inl (cI, 12, .inl wo)), (a1, .inl (cI, 12, .inl im))] (fun rv_ rw_ => rv_ = some (.int (if topB T w b then nI T else -1)) ∧ rw_ = [(z, .inr (9, [.ref a0, .ref a1, .int (nI (if topB T w b then T + 1 else T)), .ref a2, .ref a3, .ref a4, .ref a5, .ref a6, .int (nI P), .int pa, .int kn, .ref a7, .int (nI rn), .ref a8, .ref a9, .int (nI ln), .ref a10, .int 0, .ref a11, .ref a12, .int wt, .ref a13, .ref a14, .ref a15])), (a0, .inl (cI, 12, .inl (if topB T w b then upd wo T w else wo))), (a1, .inl (cI, 12, .inl (if topB T w b then upd im T (closF im b T) else im)))]) := by
  refine kEnter (cc := cX8_topic) (maxL := 3) (ret := (some .int)) (by decide) rfl (Nat.le_of_ble_eq_true rfl) ?_
  intro p e s m args below meth c hx hb hr hml hts hown hlk hnm hK hP hD hS hA ls hl
  have hl : lv_has ls 3 [(0, .ref z), (1, .int w), (2, .int b)] := hl
  have hw_f63 := hts (.fieldLink RX8 63 "WhatToReadModel" "thrown" "I") (by decide +kernel)
  have hi_X8 : ∀ w ∈ wsX80, w ∈ wsX8_topic := by decide +kernel
  have hw_f66 := hts (.fieldLink RX8 66 "WhatToReadModel" "topics" "I") (by decide +kernel)
  have hw_f9 := hts (.fieldLink RX8 9 "WhatToReadModel" "worth" "[I") (by decide +kernel)
  have hw_f13 := hts (.fieldLink RX8 13 "WhatToReadModel" "implies" "[I") (by decide +kernel)
  refine lv_aload_n hx hb dX8_topic_0 rfl (lv_at hl 0 rfl) ?_
  refine lv_iconst (v := 0) hx hb dX8_topic_1 (by decide) ?_
  refine va_put (D := D) (ci := 9) (v := .int 0) (ty := .int) (C := RX8) (T := TX8) (N := 24) hx hb hts hi_X8 tyX8 tyX8_ok nmX8 hown hK.1 hP hD hS 0 rfl rfl 17 (by decide) hw_f63 (fun _ h9 => h9) rfl (by decide +kernel) rfl rfl (Nat.le_of_ble_eq_true rfl) dX8_topic_2 (fun H locs hP hD hS => ?_)
  have hP : va_P D vwCl [(z, .inr (9, [.ref a0, .ref a1, .int (nI T), .ref a2, .ref a3, .ref a4, .ref a5, .ref a6, .int (nI P), .int pa, .int kn, .ref a7, .int (nI rn), .ref a8, .ref a9, .int (nI ln), .ref a10, .int 0, .ref a11, .ref a12, .int wt, .ref a13, .ref a14, .ref a15])), (a0, .inl (cI, 12, .inl wo)), (a1, .inl (cI, 12, .inl im))] H := hP
  have hD : va_D _ [(z, .inr (9, [.ref a0, .ref a1, .int (nI T), .ref a2, .ref a3, .ref a4, .ref a5, .ref a6, .int (nI P), .int pa, .int kn, .ref a7, .int (nI rn), .ref a8, .ref a9, .int (nI ln), .ref a10, .int 0, .ref a11, .ref a12, .int wt, .ref a13, .ref a14, .ref a15])), (a0, .inl (cI, 12, .inl wo)), (a1, .inl (cI, 12, .inl im))] := hD
  refine lv_iload_n hx hb dX8_topic_5 rfl (lv_at hl 1 rfl) ?_
  refine lv_iconst (v := 0) hx hb dX8_topic_6 (by decide) ?_
  refine lv_bipush (v := 9) hx hb dX8_topic_7 (by decide) ?_
  refine kGoR (va_runS (As := [.int w, .int 0, .int 9]) (rest := []) ⟨hx, hb, hml, hown, hts⟩ (c_X8_in l D cI cJ cZ cO w 0 9 ) (va_cwS 3 hts gX8_topic_X8_in rfl rfl rfl (by decide +kernel) ⟨Nat.le_of_ble_eq_true rfl, Nat.le_of_ble_eq_true rfl⟩) (kPreSR hK (kPc_sub hP [] rfl)) rfl rfl hl.1 rfl (lv_room (Nat.le_of_ble_eq_true rfl)) dX8_topic_9 ⟨Nat.le_of_ble_eq_true rfl, Nat.le_of_ble_eq_true rfl⟩) (fun v_1 hv_1 => ?_)
  obtain rfl := hv_1
  refine W.eq (g2 := F0 m 12 ls [.int (k01 (withinB w 0 9))]) rfl ?_
  refine lv_if_eq (tgt := 32) hx hb dX8_topic_12 (by decide) (fun c_12 => ?_) (fun c_12 => ?_)
  · skip
    have c_12 := k01_z c_12
    refine lv_iconst (v := (-1)) hx hb dX8_topic_32 (by decide) ?_
    have ew_0 : (nI T : Int32) = nI (if topB T w b then T + 1 else T) := by first | (have hok : topB T w b = true := (by simp [topB, c_12]; done); simp [hok]; done) | (have hok : topB T w b = false := (by simp [topB, c_12]; done); simp [hok]; done)
    have ew_1 : (wo : Nat → Int32) = if topB T w b then upd wo T w else wo := by first | (have hok : topB T w b = true := (by simp [topB, c_12]; done); simp [hok]; done) | (have hok : topB T w b = false := (by simp [topB, c_12]; done); simp [hok]; done)
    have ew_2 : (im : Nat → Int32) = if topB T w b then upd im T (closF im b T) else im := by first | (have hok : topB T w b = true := (by simp [topB, c_12]; done); simp [hok]; done) | (have hok : topB T w b = false := (by simp [topB, c_12]; done); simp [hok]; done)
    exact kRetI hx hb hr hlk dX8_topic_33 hP hD hS (Nat.le_of_ble_eq_true rfl) (Nat.le_of_ble_eq_true rfl) ⟨(kpi (by first | (have hok : topB T w b = true := (by simp [topB, c_12]; done); simp [hok]; done) | (have hok : topB T w b = false := (by simp [topB, c_12]; done); simp [hok]; done))), (kw3 (fun (z_0 : Int32) (z_1 : Nat → Int32) (z_2 : Nat → Int32) => ([(z, .inr (9, [.ref a0, .ref a1, .int z_0, .ref a2, .ref a3, .ref a4, .ref a5, .ref a6, .int (nI P), .int pa, .int kn, .ref a7, .int (nI rn), .ref a8, .ref a9, .int (nI ln), .ref a10, .int 0, .ref a11, .ref a12, .int wt, .ref a13, .ref a14, .ref a15])), (a0, .inl (cI, 12, .inl z_1)), (a1, .inl (cI, 12, .inl z_2))] : va_W)) ew_0 ew_1 ew_2)⟩
  · skip
    have c_12 := k01_n c_12
    refine lv_aload_n hx hb dX8_topic_15 rfl (lv_at hl 0 rfl) ?_
    refine lv_iload_n hx hb dX8_topic_16 rfl (lv_at hl 2 rfl) ?_
    refine kGoR (va_runV (As := [.int b]) (rest := []) ⟨hx, hb, hml, hown, hts⟩ (c_X8_areBits l D cI cJ cZ cO z a0 a1 a2 a3 a4 a5 a6 a7 a8 a9 a10 a11 a12 a13 a14 a15 T P pa kn rn ln 0 wt b ) (cwV 1 hts gX8_topic_X8_areBits rfl rfl rfl (by decide +kernel) ⟨Nat.le_of_ble_eq_true rfl, Nat.le_of_ble_eq_true rfl⟩) (kPreVR (ci := 9) (q0 := 0) hK (kPc_sub hP [0] rfl) rfl rfl rfl) rfl rfl hl.1 rfl (lv_room (Nat.le_of_ble_eq_true rfl)) dX8_topic_17 ⟨Nat.le_of_ble_eq_true rfl, Nat.le_of_ble_eq_true rfl⟩) (fun v_2 hv_2 => ?_)
    obtain rfl := hv_2
    refine W.eq (g2 := F0 m 20 ls [.int (k01 (areB T b))]) rfl ?_
    refine lv_if_eq (tgt := 32) hx hb dX8_topic_20 (by decide) (fun c_20 => ?_) (fun c_20 => ?_)
    · skip
      have c_20 := k01_z c_20
      refine lv_iconst (v := (-1)) hx hb dX8_topic_32 (by decide) ?_
      have ew_0 : (nI T : Int32) = nI (if topB T w b then T + 1 else T) := by first | (have hok : topB T w b = true := (by simp [topB, c_12, c_20]; done); simp [hok]; done) | (have hok : topB T w b = false := (by simp [topB, c_12, c_20]; done); simp [hok]; done)
      have ew_1 : (wo : Nat → Int32) = if topB T w b then upd wo T w else wo := by first | (have hok : topB T w b = true := (by simp [topB, c_12, c_20]; done); simp [hok]; done) | (have hok : topB T w b = false := (by simp [topB, c_12, c_20]; done); simp [hok]; done)
      have ew_2 : (im : Nat → Int32) = if topB T w b then upd im T (closF im b T) else im := by first | (have hok : topB T w b = true := (by simp [topB, c_12, c_20]; done); simp [hok]; done) | (have hok : topB T w b = false := (by simp [topB, c_12, c_20]; done); simp [hok]; done)
      exact kRetI hx hb hr hlk dX8_topic_33 hP hD hS (Nat.le_of_ble_eq_true rfl) (Nat.le_of_ble_eq_true rfl) ⟨(kpi (by first | (have hok : topB T w b = true := (by simp [topB, c_12, c_20]; done); simp [hok]; done) | (have hok : topB T w b = false := (by simp [topB, c_12, c_20]; done); simp [hok]; done))), (kw3 (fun (z_0 : Int32) (z_1 : Nat → Int32) (z_2 : Nat → Int32) => ([(z, .inr (9, [.ref a0, .ref a1, .int z_0, .ref a2, .ref a3, .ref a4, .ref a5, .ref a6, .int (nI P), .int pa, .int kn, .ref a7, .int (nI rn), .ref a8, .ref a9, .int (nI ln), .ref a10, .int 0, .ref a11, .ref a12, .int wt, .ref a13, .ref a14, .ref a15])), (a0, .inl (cI, 12, .inl z_1)), (a1, .inl (cI, 12, .inl z_2))] : va_W)) ew_0 ew_1 ew_2)⟩
    · skip
      have c_20 := k01_n c_20
      refine lv_aload_n hx hb dX8_topic_23 rfl (lv_at hl 0 rfl) ?_
      refine va_get (D := D) (ci := 9) (v := .int (nI T)) (C := RX8) (T := TX8) (N := 24) hx hb hts hi_X8 hown hK.1 hP 0 rfl rfl 2 (by decide) hw_f66 (fun _ h9 => h9) rfl dX8_topic_24 ?_
      refine lv_bipush (v := 12) hx hb dX8_topic_27 (by decide) ?_
      refine lv_icmp_ne (tgt := 34) hx hb dX8_topic_29 (by decide) (fun c_29 => ?_) (fun c_29 => ?_)
      · skip
        have nc_29 : ¬ T = 12 := (not_congr (nI_eq (a := T) (b := 12) (by omega) (by omega))).mp c_29
        refine lv_aload_n hx hb dX8_topic_34 rfl (lv_at hl 0 rfl) ?_
        refine va_get (D := D) (ci := 9) (v := .ref a0) (C := RX8) (T := TX8) (N := 24) hx hb hts hi_X8 hown hK.1 hP 0 rfl rfl 0 (by decide) hw_f9 (fun _ h9 => h9) rfl dX8_topic_35 ?_
        refine lv_aload_n hx hb dX8_topic_38 rfl (lv_at hl 0 rfl) ?_
        refine va_get (D := D) (ci := 9) (v := .int (nI T)) (C := RX8) (T := TX8) (N := 24) hx hb hts hi_X8 hown hK.1 hP 0 rfl rfl 2 (by decide) hw_f66 (fun _ h9 => h9) rfl dX8_topic_39 ?_
        refine lv_iload_n hx hb dX8_topic_42 rfl (lv_at hl 1 rfl) ?_
        refine va_iast hx hb hK.1 hP hD hS 1 0 rfl rfl (vp_in_nI (by omega) (by omega)) dX8_topic_43 (fun H locs hP hD hS => ?_)
        rw [nI_clamp (by omega)] at hP hD
        have hP : va_P D vwCl [(z, .inr (9, [.ref a0, .ref a1, .int (nI T), .ref a2, .ref a3, .ref a4, .ref a5, .ref a6, .int (nI P), .int pa, .int kn, .ref a7, .int (nI rn), .ref a8, .ref a9, .int (nI ln), .ref a10, .int 0, .ref a11, .ref a12, .int wt, .ref a13, .ref a14, .ref a15])), (a0, .inl (cI, 12, .inl (upd wo T w))), (a1, .inl (cI, 12, .inl im))] H := hP
        have hD : va_D _ [(z, .inr (9, [.ref a0, .ref a1, .int (nI T), .ref a2, .ref a3, .ref a4, .ref a5, .ref a6, .int (nI P), .int pa, .int kn, .ref a7, .int (nI rn), .ref a8, .ref a9, .int (nI ln), .ref a10, .int 0, .ref a11, .ref a12, .int wt, .ref a13, .ref a14, .ref a15])), (a0, .inl (cI, 12, .inl (upd wo T w))), (a1, .inl (cI, 12, .inl im))] := hD
        refine lv_aload_n hx hb dX8_topic_44 rfl (lv_at hl 0 rfl) ?_
        refine va_get (D := D) (ci := 9) (v := .ref a1) (C := RX8) (T := TX8) (N := 24) hx hb hts hi_X8 hown hK.1 hP 0 rfl rfl 1 (by decide) hw_f13 (fun _ h9 => h9) rfl dX8_topic_45 ?_
        refine lv_aload_n hx hb dX8_topic_48 rfl (lv_at hl 0 rfl) ?_
        refine va_get (D := D) (ci := 9) (v := .int (nI T)) (C := RX8) (T := TX8) (N := 24) hx hb hts hi_X8 hown hK.1 hP 0 rfl rfl 2 (by decide) hw_f66 (fun _ h9 => h9) rfl dX8_topic_49 ?_
        refine lv_aload_n hx hb dX8_topic_52 rfl (lv_at hl 0 rfl) ?_
        refine lv_iload_n hx hb dX8_topic_53 rfl (lv_at hl 2 rfl) ?_
        refine kGoR (va_runV (As := [.int b]) (rest := [.int (nI T), .ref a1]) ⟨hx, hb, hml, hown, hts⟩ (c_X8_withAll l D cI cJ cZ cO z a0 a1 a2 a3 a4 a5 a6 a7 a8 a9 a10 a11 a12 a13 a14 a15 T P pa kn rn ln 0 wt im b (by first | assumption | omega | decide)) (cwV 1 hts gX8_topic_X8_withAll rfl rfl rfl (by decide +kernel) ⟨Nat.le_of_ble_eq_true rfl, Nat.le_of_ble_eq_true rfl⟩) (kPreVR (ci := 9) (q0 := 0) hK (kPc_sub hP [0, 2] rfl) rfl rfl rfl) rfl rfl hl.1 rfl (lv_room (Nat.le_of_ble_eq_true rfl)) dX8_topic_54 ⟨Nat.le_of_ble_eq_true rfl, Nat.le_of_ble_eq_true rfl⟩) (fun v_3 hv_3 => ?_)
        obtain rfl := hv_3
        refine W.eq (g2 := F0 m 57 ls [.int (closF im b T), .int (nI T), .ref a1]) rfl ?_
        refine va_iast hx hb hK.1 hP hD hS 2 0 rfl rfl (vp_in_nI (by omega) (by omega)) dX8_topic_57 (fun H locs hP hD hS => ?_)
        rw [nI_clamp (by omega)] at hP hD
        have hP : va_P D vwCl [(z, .inr (9, [.ref a0, .ref a1, .int (nI T), .ref a2, .ref a3, .ref a4, .ref a5, .ref a6, .int (nI P), .int pa, .int kn, .ref a7, .int (nI rn), .ref a8, .ref a9, .int (nI ln), .ref a10, .int 0, .ref a11, .ref a12, .int wt, .ref a13, .ref a14, .ref a15])), (a0, .inl (cI, 12, .inl (upd wo T w))), (a1, .inl (cI, 12, .inl (upd im T (closF im b T))))] H := hP
        have hD : va_D _ [(z, .inr (9, [.ref a0, .ref a1, .int (nI T), .ref a2, .ref a3, .ref a4, .ref a5, .ref a6, .int (nI P), .int pa, .int kn, .ref a7, .int (nI rn), .ref a8, .ref a9, .int (nI ln), .ref a10, .int 0, .ref a11, .ref a12, .int wt, .ref a13, .ref a14, .ref a15])), (a0, .inl (cI, 12, .inl (upd wo T w))), (a1, .inl (cI, 12, .inl (upd im T (closF im b T))))] := hD
        refine lv_aload_n hx hb dX8_topic_58 rfl (lv_at hl 0 rfl) ?_
        refine lv_dup hx hb dX8_topic_59 rfl ?_
        refine va_get (D := D) (ci := 9) (v := .int (nI T)) (C := RX8) (T := TX8) (N := 24) hx hb hts hi_X8 hown hK.1 hP 0 rfl rfl 2 (by decide) hw_f66 (fun _ h9 => h9) rfl dX8_topic_60 ?_
        refine lv_iconst (v := 1) hx hb dX8_topic_63 (by decide) ?_
        refine lv_iadd hx hb dX8_topic_64 ?_
        refine lv_topi (fun nv_4 ev_4 => ?_)
        obtain rfl : nv_4 = nI (T + 1) := ev_4.trans (nI_1 T)
        refine va_put (D := D) (ci := 9) (v := .int (nI (T + 1))) (ty := .int) (C := RX8) (T := TX8) (N := 24) hx hb hts hi_X8 tyX8 tyX8_ok nmX8 hown hK.1 hP hD hS 0 rfl rfl 2 (by decide) hw_f66 (fun _ h9 => h9) rfl (by decide +kernel) rfl rfl (Nat.le_of_ble_eq_true rfl) dX8_topic_65 (fun H locs hP hD hS => ?_)
        have hP : va_P D vwCl [(z, .inr (9, [.ref a0, .ref a1, .int (nI (T + 1)), .ref a2, .ref a3, .ref a4, .ref a5, .ref a6, .int (nI P), .int pa, .int kn, .ref a7, .int (nI rn), .ref a8, .ref a9, .int (nI ln), .ref a10, .int 0, .ref a11, .ref a12, .int wt, .ref a13, .ref a14, .ref a15])), (a0, .inl (cI, 12, .inl (upd wo T w))), (a1, .inl (cI, 12, .inl (upd im T (closF im b T))))] H := hP
        have hD : va_D _ [(z, .inr (9, [.ref a0, .ref a1, .int (nI (T + 1)), .ref a2, .ref a3, .ref a4, .ref a5, .ref a6, .int (nI P), .int pa, .int kn, .ref a7, .int (nI rn), .ref a8, .ref a9, .int (nI ln), .ref a10, .int 0, .ref a11, .ref a12, .int wt, .ref a13, .ref a14, .ref a15])), (a0, .inl (cI, 12, .inl (upd wo T w))), (a1, .inl (cI, 12, .inl (upd im T (closF im b T))))] := hD
        refine lv_aload_n hx hb dX8_topic_68 rfl (lv_at hl 0 rfl) ?_
        refine va_get (D := D) (ci := 9) (v := .int (nI (T + 1))) (C := RX8) (T := TX8) (N := 24) hx hb hts hi_X8 hown hK.1 hP 0 rfl rfl 2 (by decide) hw_f66 (fun _ h9 => h9) rfl dX8_topic_69 ?_
        refine lv_iconst (v := 1) hx hb dX8_topic_72 (by decide) ?_
        refine lv_isub hx hb dX8_topic_73 ?_
        refine lv_topi (fun nv_5 ev_5 => ?_)
        obtain rfl : nv_5 = nI T := ev_5.trans (pk_sub (a := T + 1) (b := 1) (by omega))
        have ew_0 : (nI (T + 1) : Int32) = nI (if topB T w b then T + 1 else T) := by first | (have hok : topB T w b = true := (by simp [topB, c_12, c_20, c_29, nc_29]; done); simp [hok]; done) | (have hok : topB T w b = false := (by simp [topB, c_12, c_20, c_29, nc_29]; done); simp [hok]; done)
        have ew_1 : (upd wo T w : Nat → Int32) = if topB T w b then upd wo T w else wo := by first | (have hok : topB T w b = true := (by simp [topB, c_12, c_20, c_29, nc_29]; done); simp [hok]; done) | (have hok : topB T w b = false := (by simp [topB, c_12, c_20, c_29, nc_29]; done); simp [hok]; done)
        have ew_2 : (upd im T (closF im b T) : Nat → Int32) = if topB T w b then upd im T (closF im b T) else im := by first | (have hok : topB T w b = true := (by simp [topB, c_12, c_20, c_29, nc_29]; done); simp [hok]; done) | (have hok : topB T w b = false := (by simp [topB, c_12, c_20, c_29, nc_29]; done); simp [hok]; done)
        exact kRetI hx hb hr hlk dX8_topic_74 hP hD hS (Nat.le_of_ble_eq_true rfl) (Nat.le_of_ble_eq_true rfl) ⟨(kpi (by first | (have hok : topB T w b = true := (by simp [topB, c_12, c_20, c_29, nc_29]; done); simp [hok]; done) | (have hok : topB T w b = false := (by simp [topB, c_12, c_20, c_29, nc_29]; done); simp [hok]; done))), (kw3 (fun (z_0 : Int32) (z_1 : Nat → Int32) (z_2 : Nat → Int32) => ([(z, .inr (9, [.ref a0, .ref a1, .int z_0, .ref a2, .ref a3, .ref a4, .ref a5, .ref a6, .int (nI P), .int pa, .int kn, .ref a7, .int (nI rn), .ref a8, .ref a9, .int (nI ln), .ref a10, .int 0, .ref a11, .ref a12, .int wt, .ref a13, .ref a14, .ref a15])), (a0, .inl (cI, 12, .inl z_1)), (a1, .inl (cI, 12, .inl z_2))] : va_W)) ew_0 ew_1 ew_2)⟩
      · skip
        have nc_29 : T = 12 := (nI_eq (a := T) (b := 12) (by omega) (by omega)).mp c_29
        refine lv_iconst (v := (-1)) hx hb dX8_topic_32 (by decide) ?_
        have ew_0 : (nI T : Int32) = nI (if topB T w b then T + 1 else T) := by first | (have hok : topB T w b = true := (by simp [topB, c_12, c_20, c_29, nc_29]; done); simp [hok]; done) | (have hok : topB T w b = false := (by simp [topB, c_12, c_20, c_29, nc_29]; done); simp [hok]; done)
        have ew_1 : (wo : Nat → Int32) = if topB T w b then upd wo T w else wo := by first | (have hok : topB T w b = true := (by simp [topB, c_12, c_20, c_29, nc_29]; done); simp [hok]; done) | (have hok : topB T w b = false := (by simp [topB, c_12, c_20, c_29, nc_29]; done); simp [hok]; done)
        have ew_2 : (im : Nat → Int32) = if topB T w b then upd im T (closF im b T) else im := by first | (have hok : topB T w b = true := (by simp [topB, c_12, c_20, c_29, nc_29]; done); simp [hok]; done) | (have hok : topB T w b = false := (by simp [topB, c_12, c_20, c_29, nc_29]; done); simp [hok]; done)
        exact kRetI hx hb hr hlk dX8_topic_33 hP hD hS (Nat.le_of_ble_eq_true rfl) (Nat.le_of_ble_eq_true rfl) ⟨(kpi (by first | (have hok : topB T w b = true := (by simp [topB, c_12, c_20, c_29, nc_29]; done); simp [hok]; done) | (have hok : topB T w b = false := (by simp [topB, c_12, c_20, c_29, nc_29]; done); simp [hok]; done))), (kw3 (fun (z_0 : Int32) (z_1 : Nat → Int32) (z_2 : Nat → Int32) => ([(z, .inr (9, [.ref a0, .ref a1, .int z_0, .ref a2, .ref a3, .ref a4, .ref a5, .ref a6, .int (nI P), .int pa, .int kn, .ref a7, .int (nI rn), .ref a8, .ref a9, .int (nI ln), .ref a10, .int 0, .ref a11, .ref a12, .int wt, .ref a13, .ref a14, .ref a15])), (a0, .inl (cI, 12, .inl z_1)), (a1, .inl (cI, 12, .inl z_2))] : va_W)) ew_0 ew_1 ew_2)⟩

set_option maxHeartbeats 4000000 in
set_option maxRecDepth 100000 in
theorem c_X8_piece (l : Launch) (D : va_G) (cI cJ cZ cO : ClassId) (z : Nat) (a0 : Nat) (a1 : Nat) (a2 : Nat) (a3 : Nat) (a4 : Nat) (a5 : Nat) (a6 : Nat) (a7 : Nat) (a8 : Nat) (a9 : Nat) (a10 : Nat) (a11 : Nat) (a12 : Nat) (a13 : Nat) (a14 : Nat) (a15 : Nat) (T : Nat) (P : Nat) (pa : Int32) (kn : Int32) (rn : Nat) (ln : Nat) (th : Int32) (wt : Int32) (ne : Nat → Int32) (ei : Nat → Int32) (gi : Nat → Int32) (sk : Nat → Int32) (pg : Nat → Int32) (a : Int32) (b1 : Int32) (c1 : Int32) (d1 : Int32) (e1 : Int32) (hP14 : P ≤ 14) : kC l D (kTY cI cJ cZ cO) yX8_piece wsX8_piece 2 43 0 0 [.ref z, .int a, .int b1, .int c1, .int d1, .int e1] [(z, .inr (9, [.ref a0, .ref a1, .int (nI T), .ref a2, .ref a3, .ref a4, .ref a5, .ref a6, .int (nI P), .int pa, .int kn, .ref a7, .int (nI rn), .ref a8, .ref a9, .int (nI ln), .ref a10, .int th, .ref a11, .ref a12, .int wt, .ref a13, .ref a14, .ref a15])), (a2, .inl (cI, 14, .inl ne)), (a3, .inl (cI, 14, .inl ei)), (a4, .inl (cI, 14, .inl gi)), (a5, .inl (cI, 14, .inl sk)), (a6, .inl (cI, 14, .inl pg))] (fun rv_ rw_ => rv_ = some (.int (if pieB T P a b1 c1 d1 e1 then nI P else -1)) ∧ rw_ = [(z, .inr (9, [.ref a0, .ref a1, .int (nI T), .ref a2, .ref a3, .ref a4, .ref a5, .ref a6, .int (nI (if pieB T P a b1 c1 d1 e1 then P + 1 else P)), .int pa, .int kn, .ref a7, .int (nI rn), .ref a8, .ref a9, .int (nI ln), .ref a10, .int 0, .ref a11, .ref a12, .int wt, .ref a13, .ref a14, .ref a15])), (a2, .inl (cI, 14, .inl (if pieB T P a b1 c1 d1 e1 then upd ne P a else ne))), (a3, .inl (cI, 14, .inl (if pieB T P a b1 c1 d1 e1 then upd ei P b1 else ei))), (a4, .inl (cI, 14, .inl (if pieB T P a b1 c1 d1 e1 then upd gi P c1 else gi))), (a5, .inl (cI, 14, .inl (if pieB T P a b1 c1 d1 e1 then upd sk P d1 else sk))), (a6, .inl (cI, 14, .inl (if pieB T P a b1 c1 d1 e1 then upd pg P e1 else pg)))]) := by
  refine kEnter (cc := cX8_piece) (maxL := 6) (ret := (some .int)) (by decide) rfl (Nat.le_of_ble_eq_true rfl) ?_
  intro p e s m args below meth c hx hb hr hml hts hown hlk hnm hK hP hD hS hA ls hl
  have hl : lv_has ls 6 [(0, .ref z), (1, .int a), (2, .int b1), (3, .int c1), (4, .int d1), (5, .int e1)] := hl
  have hw_f63 := hts (.fieldLink RX8 63 "WhatToReadModel" "thrown" "I") (by decide +kernel)
  have hi_X8 : ∀ w ∈ wsX80, w ∈ wsX8_piece := by decide +kernel
  have hw_f73 := hts (.fieldLink RX8 73 "WhatToReadModel" "pieces" "I") (by decide +kernel)
  have hw_f16 := hts (.fieldLink RX8 16 "WhatToReadModel" "needs" "[I") (by decide +kernel)
  have hw_f19 := hts (.fieldLink RX8 19 "WhatToReadModel" "either" "[I") (by decide +kernel)
  have hw_f22 := hts (.fieldLink RX8 22 "WhatToReadModel" "gives" "[I") (by decide +kernel)
  have hw_f25 := hts (.fieldLink RX8 25 "WhatToReadModel" "skim" "[I") (by decide +kernel)
  have hw_f28 := hts (.fieldLink RX8 28 "WhatToReadModel" "pages" "[I") (by decide +kernel)
  refine lv_aload_n hx hb dX8_piece_0 rfl (lv_at hl 0 rfl) ?_
  refine lv_iconst (v := 0) hx hb dX8_piece_1 (by decide) ?_
  refine va_put (D := D) (ci := 9) (v := .int 0) (ty := .int) (C := RX8) (T := TX8) (N := 24) hx hb hts hi_X8 tyX8 tyX8_ok nmX8 hown hK.1 hP hD hS 0 rfl rfl 17 (by decide) hw_f63 (fun _ h9 => h9) rfl (by decide +kernel) rfl rfl (Nat.le_of_ble_eq_true rfl) dX8_piece_2 (fun H locs hP hD hS => ?_)
  have hP : va_P D vwCl [(z, .inr (9, [.ref a0, .ref a1, .int (nI T), .ref a2, .ref a3, .ref a4, .ref a5, .ref a6, .int (nI P), .int pa, .int kn, .ref a7, .int (nI rn), .ref a8, .ref a9, .int (nI ln), .ref a10, .int 0, .ref a11, .ref a12, .int wt, .ref a13, .ref a14, .ref a15])), (a2, .inl (cI, 14, .inl ne)), (a3, .inl (cI, 14, .inl ei)), (a4, .inl (cI, 14, .inl gi)), (a5, .inl (cI, 14, .inl sk)), (a6, .inl (cI, 14, .inl pg))] H := hP
  have hD : va_D _ [(z, .inr (9, [.ref a0, .ref a1, .int (nI T), .ref a2, .ref a3, .ref a4, .ref a5, .ref a6, .int (nI P), .int pa, .int kn, .ref a7, .int (nI rn), .ref a8, .ref a9, .int (nI ln), .ref a10, .int 0, .ref a11, .ref a12, .int wt, .ref a13, .ref a14, .ref a15])), (a2, .inl (cI, 14, .inl ne)), (a3, .inl (cI, 14, .inl ei)), (a4, .inl (cI, 14, .inl gi)), (a5, .inl (cI, 14, .inl sk)), (a6, .inl (cI, 14, .inl pg))] := hD
  refine lv_aload_n hx hb dX8_piece_5 rfl (lv_at hl 0 rfl) ?_
  refine lv_iload_n hx hb dX8_piece_6 rfl (lv_at hl 1 rfl) ?_
  refine kGoR (va_runV (As := [.int a]) (rest := []) ⟨hx, hb, hml, hown, hts⟩ (c_X8_areBits l D cI cJ cZ cO z a0 a1 a2 a3 a4 a5 a6 a7 a8 a9 a10 a11 a12 a13 a14 a15 T P pa kn rn ln 0 wt a ) (cwV 1 hts gX8_piece_X8_areBits rfl rfl rfl (by decide +kernel) ⟨Nat.le_of_ble_eq_true rfl, Nat.le_of_ble_eq_true rfl⟩) (kPreVR (ci := 9) (q0 := 0) hK (kPc_sub hP [0] rfl) rfl rfl rfl) rfl rfl hl.1 rfl (lv_room (Nat.le_of_ble_eq_true rfl)) dX8_piece_7 ⟨Nat.le_of_ble_eq_true rfl, Nat.le_of_ble_eq_true rfl⟩) (fun v_1 hv_1 => ?_)
  obtain rfl := hv_1
  refine W.eq (g2 := F0 m 10 ls [.int (k01 (areB T a))]) rfl ?_
  refine lv_if_eq (tgt := 72) hx hb dX8_piece_10 (by decide) (fun c_10 => ?_) (fun c_10 => ?_)
  · skip
    have c_10 := k01_z c_10
    refine lv_iconst (v := (-1)) hx hb dX8_piece_72 (by decide) ?_
    have ew_0 : (nI P : Int32) = nI (if pieB T P a b1 c1 d1 e1 then P + 1 else P) := by first | (have hok : pieB T P a b1 c1 d1 e1 = true := (by simp [pieB, c_10]; done); simp [hok]; done) | (have hok : pieB T P a b1 c1 d1 e1 = false := (by simp [pieB, c_10]; done); simp [hok]; done)
    have ew_1 : (ne : Nat → Int32) = if pieB T P a b1 c1 d1 e1 then upd ne P a else ne := by first | (have hok : pieB T P a b1 c1 d1 e1 = true := (by simp [pieB, c_10]; done); simp [hok]; done) | (have hok : pieB T P a b1 c1 d1 e1 = false := (by simp [pieB, c_10]; done); simp [hok]; done)
    have ew_2 : (ei : Nat → Int32) = if pieB T P a b1 c1 d1 e1 then upd ei P b1 else ei := by first | (have hok : pieB T P a b1 c1 d1 e1 = true := (by simp [pieB, c_10]; done); simp [hok]; done) | (have hok : pieB T P a b1 c1 d1 e1 = false := (by simp [pieB, c_10]; done); simp [hok]; done)
    have ew_3 : (gi : Nat → Int32) = if pieB T P a b1 c1 d1 e1 then upd gi P c1 else gi := by first | (have hok : pieB T P a b1 c1 d1 e1 = true := (by simp [pieB, c_10]; done); simp [hok]; done) | (have hok : pieB T P a b1 c1 d1 e1 = false := (by simp [pieB, c_10]; done); simp [hok]; done)
    have ew_4 : (sk : Nat → Int32) = if pieB T P a b1 c1 d1 e1 then upd sk P d1 else sk := by first | (have hok : pieB T P a b1 c1 d1 e1 = true := (by simp [pieB, c_10]; done); simp [hok]; done) | (have hok : pieB T P a b1 c1 d1 e1 = false := (by simp [pieB, c_10]; done); simp [hok]; done)
    have ew_5 : (pg : Nat → Int32) = if pieB T P a b1 c1 d1 e1 then upd pg P e1 else pg := by first | (have hok : pieB T P a b1 c1 d1 e1 = true := (by simp [pieB, c_10]; done); simp [hok]; done) | (have hok : pieB T P a b1 c1 d1 e1 = false := (by simp [pieB, c_10]; done); simp [hok]; done)
    exact kRetI hx hb hr hlk dX8_piece_73 hP hD hS (Nat.le_of_ble_eq_true rfl) (Nat.le_of_ble_eq_true rfl) ⟨(kpi (by first | (have hok : pieB T P a b1 c1 d1 e1 = true := (by simp [pieB, c_10]; done); simp [hok]; done) | (have hok : pieB T P a b1 c1 d1 e1 = false := (by simp [pieB, c_10]; done); simp [hok]; done))), (kw6 (fun (z_0 : Int32) (z_1 : Nat → Int32) (z_2 : Nat → Int32) (z_3 : Nat → Int32) (z_4 : Nat → Int32) (z_5 : Nat → Int32) => ([(z, .inr (9, [.ref a0, .ref a1, .int (nI T), .ref a2, .ref a3, .ref a4, .ref a5, .ref a6, .int z_0, .int pa, .int kn, .ref a7, .int (nI rn), .ref a8, .ref a9, .int (nI ln), .ref a10, .int 0, .ref a11, .ref a12, .int wt, .ref a13, .ref a14, .ref a15])), (a2, .inl (cI, 14, .inl z_1)), (a3, .inl (cI, 14, .inl z_2)), (a4, .inl (cI, 14, .inl z_3)), (a5, .inl (cI, 14, .inl z_4)), (a6, .inl (cI, 14, .inl z_5))] : va_W)) ew_0 ew_1 ew_2 ew_3 ew_4 ew_5)⟩
  · skip
    have c_10 := k01_n c_10
    refine lv_aload_n hx hb dX8_piece_13 rfl (lv_at hl 0 rfl) ?_
    refine lv_iload_n hx hb dX8_piece_14 rfl (lv_at hl 2 rfl) ?_
    refine kGoR (va_runV (As := [.int b1]) (rest := []) ⟨hx, hb, hml, hown, hts⟩ (c_X8_areBits l D cI cJ cZ cO z a0 a1 a2 a3 a4 a5 a6 a7 a8 a9 a10 a11 a12 a13 a14 a15 T P pa kn rn ln 0 wt b1 ) (cwV 1 hts gX8_piece_X8_areBits rfl rfl rfl (by decide +kernel) ⟨Nat.le_of_ble_eq_true rfl, Nat.le_of_ble_eq_true rfl⟩) (kPreVR (ci := 9) (q0 := 0) hK (kPc_sub hP [0] rfl) rfl rfl rfl) rfl rfl hl.1 rfl (lv_room (Nat.le_of_ble_eq_true rfl)) dX8_piece_15 ⟨Nat.le_of_ble_eq_true rfl, Nat.le_of_ble_eq_true rfl⟩) (fun v_2 hv_2 => ?_)
    obtain rfl := hv_2
    refine W.eq (g2 := F0 m 18 ls [.int (k01 (areB T b1))]) rfl ?_
    refine lv_if_eq (tgt := 72) hx hb dX8_piece_18 (by decide) (fun c_18 => ?_) (fun c_18 => ?_)
    · skip
      have c_18 := k01_z c_18
      refine lv_iconst (v := (-1)) hx hb dX8_piece_72 (by decide) ?_
      have ew_0 : (nI P : Int32) = nI (if pieB T P a b1 c1 d1 e1 then P + 1 else P) := by first | (have hok : pieB T P a b1 c1 d1 e1 = true := (by simp [pieB, c_10, c_18]; done); simp [hok]; done) | (have hok : pieB T P a b1 c1 d1 e1 = false := (by simp [pieB, c_10, c_18]; done); simp [hok]; done)
      have ew_1 : (ne : Nat → Int32) = if pieB T P a b1 c1 d1 e1 then upd ne P a else ne := by first | (have hok : pieB T P a b1 c1 d1 e1 = true := (by simp [pieB, c_10, c_18]; done); simp [hok]; done) | (have hok : pieB T P a b1 c1 d1 e1 = false := (by simp [pieB, c_10, c_18]; done); simp [hok]; done)
      have ew_2 : (ei : Nat → Int32) = if pieB T P a b1 c1 d1 e1 then upd ei P b1 else ei := by first | (have hok : pieB T P a b1 c1 d1 e1 = true := (by simp [pieB, c_10, c_18]; done); simp [hok]; done) | (have hok : pieB T P a b1 c1 d1 e1 = false := (by simp [pieB, c_10, c_18]; done); simp [hok]; done)
      have ew_3 : (gi : Nat → Int32) = if pieB T P a b1 c1 d1 e1 then upd gi P c1 else gi := by first | (have hok : pieB T P a b1 c1 d1 e1 = true := (by simp [pieB, c_10, c_18]; done); simp [hok]; done) | (have hok : pieB T P a b1 c1 d1 e1 = false := (by simp [pieB, c_10, c_18]; done); simp [hok]; done)
      have ew_4 : (sk : Nat → Int32) = if pieB T P a b1 c1 d1 e1 then upd sk P d1 else sk := by first | (have hok : pieB T P a b1 c1 d1 e1 = true := (by simp [pieB, c_10, c_18]; done); simp [hok]; done) | (have hok : pieB T P a b1 c1 d1 e1 = false := (by simp [pieB, c_10, c_18]; done); simp [hok]; done)
      have ew_5 : (pg : Nat → Int32) = if pieB T P a b1 c1 d1 e1 then upd pg P e1 else pg := by first | (have hok : pieB T P a b1 c1 d1 e1 = true := (by simp [pieB, c_10, c_18]; done); simp [hok]; done) | (have hok : pieB T P a b1 c1 d1 e1 = false := (by simp [pieB, c_10, c_18]; done); simp [hok]; done)
      exact kRetI hx hb hr hlk dX8_piece_73 hP hD hS (Nat.le_of_ble_eq_true rfl) (Nat.le_of_ble_eq_true rfl) ⟨(kpi (by first | (have hok : pieB T P a b1 c1 d1 e1 = true := (by simp [pieB, c_10, c_18]; done); simp [hok]; done) | (have hok : pieB T P a b1 c1 d1 e1 = false := (by simp [pieB, c_10, c_18]; done); simp [hok]; done))), (kw6 (fun (z_0 : Int32) (z_1 : Nat → Int32) (z_2 : Nat → Int32) (z_3 : Nat → Int32) (z_4 : Nat → Int32) (z_5 : Nat → Int32) => ([(z, .inr (9, [.ref a0, .ref a1, .int (nI T), .ref a2, .ref a3, .ref a4, .ref a5, .ref a6, .int z_0, .int pa, .int kn, .ref a7, .int (nI rn), .ref a8, .ref a9, .int (nI ln), .ref a10, .int 0, .ref a11, .ref a12, .int wt, .ref a13, .ref a14, .ref a15])), (a2, .inl (cI, 14, .inl z_1)), (a3, .inl (cI, 14, .inl z_2)), (a4, .inl (cI, 14, .inl z_3)), (a5, .inl (cI, 14, .inl z_4)), (a6, .inl (cI, 14, .inl z_5))] : va_W)) ew_0 ew_1 ew_2 ew_3 ew_4 ew_5)⟩
    · skip
      have c_18 := k01_n c_18
      refine lv_aload_n hx hb dX8_piece_21 rfl (lv_at hl 0 rfl) ?_
      refine lv_iload_n hx hb dX8_piece_22 rfl (lv_at hl 3 rfl) ?_
      refine kGoR (va_runV (As := [.int c1]) (rest := []) ⟨hx, hb, hml, hown, hts⟩ (c_X8_areBits l D cI cJ cZ cO z a0 a1 a2 a3 a4 a5 a6 a7 a8 a9 a10 a11 a12 a13 a14 a15 T P pa kn rn ln 0 wt c1 ) (cwV 1 hts gX8_piece_X8_areBits rfl rfl rfl (by decide +kernel) ⟨Nat.le_of_ble_eq_true rfl, Nat.le_of_ble_eq_true rfl⟩) (kPreVR (ci := 9) (q0 := 0) hK (kPc_sub hP [0] rfl) rfl rfl rfl) rfl rfl hl.1 rfl (lv_room (Nat.le_of_ble_eq_true rfl)) dX8_piece_23 ⟨Nat.le_of_ble_eq_true rfl, Nat.le_of_ble_eq_true rfl⟩) (fun v_3 hv_3 => ?_)
      obtain rfl := hv_3
      refine W.eq (g2 := F0 m 26 ls [.int (k01 (areB T c1))]) rfl ?_
      refine lv_if_eq (tgt := 72) hx hb dX8_piece_26 (by decide) (fun c_26 => ?_) (fun c_26 => ?_)
      · skip
        have c_26 := k01_z c_26
        refine lv_iconst (v := (-1)) hx hb dX8_piece_72 (by decide) ?_
        have ew_0 : (nI P : Int32) = nI (if pieB T P a b1 c1 d1 e1 then P + 1 else P) := by first | (have hok : pieB T P a b1 c1 d1 e1 = true := (by simp [pieB, c_10, c_18, c_26]; done); simp [hok]; done) | (have hok : pieB T P a b1 c1 d1 e1 = false := (by simp [pieB, c_10, c_18, c_26]; done); simp [hok]; done)
        have ew_1 : (ne : Nat → Int32) = if pieB T P a b1 c1 d1 e1 then upd ne P a else ne := by first | (have hok : pieB T P a b1 c1 d1 e1 = true := (by simp [pieB, c_10, c_18, c_26]; done); simp [hok]; done) | (have hok : pieB T P a b1 c1 d1 e1 = false := (by simp [pieB, c_10, c_18, c_26]; done); simp [hok]; done)
        have ew_2 : (ei : Nat → Int32) = if pieB T P a b1 c1 d1 e1 then upd ei P b1 else ei := by first | (have hok : pieB T P a b1 c1 d1 e1 = true := (by simp [pieB, c_10, c_18, c_26]; done); simp [hok]; done) | (have hok : pieB T P a b1 c1 d1 e1 = false := (by simp [pieB, c_10, c_18, c_26]; done); simp [hok]; done)
        have ew_3 : (gi : Nat → Int32) = if pieB T P a b1 c1 d1 e1 then upd gi P c1 else gi := by first | (have hok : pieB T P a b1 c1 d1 e1 = true := (by simp [pieB, c_10, c_18, c_26]; done); simp [hok]; done) | (have hok : pieB T P a b1 c1 d1 e1 = false := (by simp [pieB, c_10, c_18, c_26]; done); simp [hok]; done)
        have ew_4 : (sk : Nat → Int32) = if pieB T P a b1 c1 d1 e1 then upd sk P d1 else sk := by first | (have hok : pieB T P a b1 c1 d1 e1 = true := (by simp [pieB, c_10, c_18, c_26]; done); simp [hok]; done) | (have hok : pieB T P a b1 c1 d1 e1 = false := (by simp [pieB, c_10, c_18, c_26]; done); simp [hok]; done)
        have ew_5 : (pg : Nat → Int32) = if pieB T P a b1 c1 d1 e1 then upd pg P e1 else pg := by first | (have hok : pieB T P a b1 c1 d1 e1 = true := (by simp [pieB, c_10, c_18, c_26]; done); simp [hok]; done) | (have hok : pieB T P a b1 c1 d1 e1 = false := (by simp [pieB, c_10, c_18, c_26]; done); simp [hok]; done)
        exact kRetI hx hb hr hlk dX8_piece_73 hP hD hS (Nat.le_of_ble_eq_true rfl) (Nat.le_of_ble_eq_true rfl) ⟨(kpi (by first | (have hok : pieB T P a b1 c1 d1 e1 = true := (by simp [pieB, c_10, c_18, c_26]; done); simp [hok]; done) | (have hok : pieB T P a b1 c1 d1 e1 = false := (by simp [pieB, c_10, c_18, c_26]; done); simp [hok]; done))), (kw6 (fun (z_0 : Int32) (z_1 : Nat → Int32) (z_2 : Nat → Int32) (z_3 : Nat → Int32) (z_4 : Nat → Int32) (z_5 : Nat → Int32) => ([(z, .inr (9, [.ref a0, .ref a1, .int (nI T), .ref a2, .ref a3, .ref a4, .ref a5, .ref a6, .int z_0, .int pa, .int kn, .ref a7, .int (nI rn), .ref a8, .ref a9, .int (nI ln), .ref a10, .int 0, .ref a11, .ref a12, .int wt, .ref a13, .ref a14, .ref a15])), (a2, .inl (cI, 14, .inl z_1)), (a3, .inl (cI, 14, .inl z_2)), (a4, .inl (cI, 14, .inl z_3)), (a5, .inl (cI, 14, .inl z_4)), (a6, .inl (cI, 14, .inl z_5))] : va_W)) ew_0 ew_1 ew_2 ew_3 ew_4 ew_5)⟩
      · skip
        have c_26 := k01_n c_26
        refine lv_aload_n hx hb dX8_piece_29 rfl (lv_at hl 0 rfl) ?_
        refine lv_iload hx hb dX8_piece_30 (lv_at hl 4 rfl) ?_
        refine kGoR (va_runV (As := [.int d1]) (rest := []) ⟨hx, hb, hml, hown, hts⟩ (c_X8_areBits l D cI cJ cZ cO z a0 a1 a2 a3 a4 a5 a6 a7 a8 a9 a10 a11 a12 a13 a14 a15 T P pa kn rn ln 0 wt d1 ) (cwV 1 hts gX8_piece_X8_areBits rfl rfl rfl (by decide +kernel) ⟨Nat.le_of_ble_eq_true rfl, Nat.le_of_ble_eq_true rfl⟩) (kPreVR (ci := 9) (q0 := 0) hK (kPc_sub hP [0] rfl) rfl rfl rfl) rfl rfl hl.1 rfl (lv_room (Nat.le_of_ble_eq_true rfl)) dX8_piece_32 ⟨Nat.le_of_ble_eq_true rfl, Nat.le_of_ble_eq_true rfl⟩) (fun v_4 hv_4 => ?_)
        obtain rfl := hv_4
        refine W.eq (g2 := F0 m 35 ls [.int (k01 (areB T d1))]) rfl ?_
        refine lv_if_eq (tgt := 72) hx hb dX8_piece_35 (by decide) (fun c_35 => ?_) (fun c_35 => ?_)
        · skip
          have c_35 := k01_z c_35
          refine lv_iconst (v := (-1)) hx hb dX8_piece_72 (by decide) ?_
          have ew_0 : (nI P : Int32) = nI (if pieB T P a b1 c1 d1 e1 then P + 1 else P) := by first | (have hok : pieB T P a b1 c1 d1 e1 = true := (by simp [pieB, c_10, c_18, c_26, c_35]; done); simp [hok]; done) | (have hok : pieB T P a b1 c1 d1 e1 = false := (by simp [pieB, c_10, c_18, c_26, c_35]; done); simp [hok]; done)
          have ew_1 : (ne : Nat → Int32) = if pieB T P a b1 c1 d1 e1 then upd ne P a else ne := by first | (have hok : pieB T P a b1 c1 d1 e1 = true := (by simp [pieB, c_10, c_18, c_26, c_35]; done); simp [hok]; done) | (have hok : pieB T P a b1 c1 d1 e1 = false := (by simp [pieB, c_10, c_18, c_26, c_35]; done); simp [hok]; done)
          have ew_2 : (ei : Nat → Int32) = if pieB T P a b1 c1 d1 e1 then upd ei P b1 else ei := by first | (have hok : pieB T P a b1 c1 d1 e1 = true := (by simp [pieB, c_10, c_18, c_26, c_35]; done); simp [hok]; done) | (have hok : pieB T P a b1 c1 d1 e1 = false := (by simp [pieB, c_10, c_18, c_26, c_35]; done); simp [hok]; done)
          have ew_3 : (gi : Nat → Int32) = if pieB T P a b1 c1 d1 e1 then upd gi P c1 else gi := by first | (have hok : pieB T P a b1 c1 d1 e1 = true := (by simp [pieB, c_10, c_18, c_26, c_35]; done); simp [hok]; done) | (have hok : pieB T P a b1 c1 d1 e1 = false := (by simp [pieB, c_10, c_18, c_26, c_35]; done); simp [hok]; done)
          have ew_4 : (sk : Nat → Int32) = if pieB T P a b1 c1 d1 e1 then upd sk P d1 else sk := by first | (have hok : pieB T P a b1 c1 d1 e1 = true := (by simp [pieB, c_10, c_18, c_26, c_35]; done); simp [hok]; done) | (have hok : pieB T P a b1 c1 d1 e1 = false := (by simp [pieB, c_10, c_18, c_26, c_35]; done); simp [hok]; done)
          have ew_5 : (pg : Nat → Int32) = if pieB T P a b1 c1 d1 e1 then upd pg P e1 else pg := by first | (have hok : pieB T P a b1 c1 d1 e1 = true := (by simp [pieB, c_10, c_18, c_26, c_35]; done); simp [hok]; done) | (have hok : pieB T P a b1 c1 d1 e1 = false := (by simp [pieB, c_10, c_18, c_26, c_35]; done); simp [hok]; done)
          exact kRetI hx hb hr hlk dX8_piece_73 hP hD hS (Nat.le_of_ble_eq_true rfl) (Nat.le_of_ble_eq_true rfl) ⟨(kpi (by first | (have hok : pieB T P a b1 c1 d1 e1 = true := (by simp [pieB, c_10, c_18, c_26, c_35]; done); simp [hok]; done) | (have hok : pieB T P a b1 c1 d1 e1 = false := (by simp [pieB, c_10, c_18, c_26, c_35]; done); simp [hok]; done))), (kw6 (fun (z_0 : Int32) (z_1 : Nat → Int32) (z_2 : Nat → Int32) (z_3 : Nat → Int32) (z_4 : Nat → Int32) (z_5 : Nat → Int32) => ([(z, .inr (9, [.ref a0, .ref a1, .int (nI T), .ref a2, .ref a3, .ref a4, .ref a5, .ref a6, .int z_0, .int pa, .int kn, .ref a7, .int (nI rn), .ref a8, .ref a9, .int (nI ln), .ref a10, .int 0, .ref a11, .ref a12, .int wt, .ref a13, .ref a14, .ref a15])), (a2, .inl (cI, 14, .inl z_1)), (a3, .inl (cI, 14, .inl z_2)), (a4, .inl (cI, 14, .inl z_3)), (a5, .inl (cI, 14, .inl z_4)), (a6, .inl (cI, 14, .inl z_5))] : va_W)) ew_0 ew_1 ew_2 ew_3 ew_4 ew_5)⟩
        · skip
          have c_35 := k01_n c_35
          refine lv_iload_n hx hb dX8_piece_38 rfl (lv_at hl 3 rfl) ?_
          refine lv_if_eq (tgt := 72) hx hb dX8_piece_39 (by decide) (fun c_39 => ?_) (fun c_39 => ?_)
          · skip
            refine lv_iconst (v := (-1)) hx hb dX8_piece_72 (by decide) ?_
            have ew_0 : (nI P : Int32) = nI (if pieB T P a b1 c1 d1 e1 then P + 1 else P) := by first | (have hok : pieB T P a b1 c1 d1 e1 = true := (by simp [pieB, c_10, c_18, c_26, c_35, c_39]; done); simp [hok]; done) | (have hok : pieB T P a b1 c1 d1 e1 = false := (by simp [pieB, c_10, c_18, c_26, c_35, c_39]; done); simp [hok]; done)
            have ew_1 : (ne : Nat → Int32) = if pieB T P a b1 c1 d1 e1 then upd ne P a else ne := by first | (have hok : pieB T P a b1 c1 d1 e1 = true := (by simp [pieB, c_10, c_18, c_26, c_35, c_39]; done); simp [hok]; done) | (have hok : pieB T P a b1 c1 d1 e1 = false := (by simp [pieB, c_10, c_18, c_26, c_35, c_39]; done); simp [hok]; done)
            have ew_2 : (ei : Nat → Int32) = if pieB T P a b1 c1 d1 e1 then upd ei P b1 else ei := by first | (have hok : pieB T P a b1 c1 d1 e1 = true := (by simp [pieB, c_10, c_18, c_26, c_35, c_39]; done); simp [hok]; done) | (have hok : pieB T P a b1 c1 d1 e1 = false := (by simp [pieB, c_10, c_18, c_26, c_35, c_39]; done); simp [hok]; done)
            have ew_3 : (gi : Nat → Int32) = if pieB T P a b1 c1 d1 e1 then upd gi P c1 else gi := by first | (have hok : pieB T P a b1 c1 d1 e1 = true := (by simp [pieB, c_10, c_18, c_26, c_35, c_39]; done); simp [hok]; done) | (have hok : pieB T P a b1 c1 d1 e1 = false := (by simp [pieB, c_10, c_18, c_26, c_35, c_39]; done); simp [hok]; done)
            have ew_4 : (sk : Nat → Int32) = if pieB T P a b1 c1 d1 e1 then upd sk P d1 else sk := by first | (have hok : pieB T P a b1 c1 d1 e1 = true := (by simp [pieB, c_10, c_18, c_26, c_35, c_39]; done); simp [hok]; done) | (have hok : pieB T P a b1 c1 d1 e1 = false := (by simp [pieB, c_10, c_18, c_26, c_35, c_39]; done); simp [hok]; done)
            have ew_5 : (pg : Nat → Int32) = if pieB T P a b1 c1 d1 e1 then upd pg P e1 else pg := by first | (have hok : pieB T P a b1 c1 d1 e1 = true := (by simp [pieB, c_10, c_18, c_26, c_35, c_39]; done); simp [hok]; done) | (have hok : pieB T P a b1 c1 d1 e1 = false := (by simp [pieB, c_10, c_18, c_26, c_35, c_39]; done); simp [hok]; done)
            exact kRetI hx hb hr hlk dX8_piece_73 hP hD hS (Nat.le_of_ble_eq_true rfl) (Nat.le_of_ble_eq_true rfl) ⟨(kpi (by first | (have hok : pieB T P a b1 c1 d1 e1 = true := (by simp [pieB, c_10, c_18, c_26, c_35, c_39]; done); simp [hok]; done) | (have hok : pieB T P a b1 c1 d1 e1 = false := (by simp [pieB, c_10, c_18, c_26, c_35, c_39]; done); simp [hok]; done))), (kw6 (fun (z_0 : Int32) (z_1 : Nat → Int32) (z_2 : Nat → Int32) (z_3 : Nat → Int32) (z_4 : Nat → Int32) (z_5 : Nat → Int32) => ([(z, .inr (9, [.ref a0, .ref a1, .int (nI T), .ref a2, .ref a3, .ref a4, .ref a5, .ref a6, .int z_0, .int pa, .int kn, .ref a7, .int (nI rn), .ref a8, .ref a9, .int (nI ln), .ref a10, .int 0, .ref a11, .ref a12, .int wt, .ref a13, .ref a14, .ref a15])), (a2, .inl (cI, 14, .inl z_1)), (a3, .inl (cI, 14, .inl z_2)), (a4, .inl (cI, 14, .inl z_3)), (a5, .inl (cI, 14, .inl z_4)), (a6, .inl (cI, 14, .inl z_5))] : va_W)) ew_0 ew_1 ew_2 ew_3 ew_4 ew_5)⟩
          · skip
            refine lv_iload hx hb dX8_piece_42 (lv_at hl 4 rfl) ?_
            refine lv_iload_n hx hb dX8_piece_44 rfl (lv_at hl 3 rfl) ?_
            refine lv_iconst (v := (-1)) hx hb dX8_piece_45 (by decide) ?_
            refine lv_ixor hx hb dX8_piece_46 ?_
            refine lv_topi (fun nv_5 ev_5 => ?_)
            obtain rfl : nv_5 = xnot c1 := ev_5.trans (rfl)
            refine lv_iand hx hb dX8_piece_47 ?_
            refine lv_if_ne (tgt := 72) hx hb dX8_piece_48 (by decide) (fun c_48 => ?_) (fun c_48 => ?_)
            · skip
              refine lv_iconst (v := (-1)) hx hb dX8_piece_72 (by decide) ?_
              have ew_0 : (nI P : Int32) = nI (if pieB T P a b1 c1 d1 e1 then P + 1 else P) := by first | (have hok : pieB T P a b1 c1 d1 e1 = true := (by simp [pieB, c_10, c_18, c_26, c_35, c_39, c_48]; done); simp [hok]; done) | (have hok : pieB T P a b1 c1 d1 e1 = false := (by simp [pieB, c_10, c_18, c_26, c_35, c_39, c_48]; done); simp [hok]; done)
              have ew_1 : (ne : Nat → Int32) = if pieB T P a b1 c1 d1 e1 then upd ne P a else ne := by first | (have hok : pieB T P a b1 c1 d1 e1 = true := (by simp [pieB, c_10, c_18, c_26, c_35, c_39, c_48]; done); simp [hok]; done) | (have hok : pieB T P a b1 c1 d1 e1 = false := (by simp [pieB, c_10, c_18, c_26, c_35, c_39, c_48]; done); simp [hok]; done)
              have ew_2 : (ei : Nat → Int32) = if pieB T P a b1 c1 d1 e1 then upd ei P b1 else ei := by first | (have hok : pieB T P a b1 c1 d1 e1 = true := (by simp [pieB, c_10, c_18, c_26, c_35, c_39, c_48]; done); simp [hok]; done) | (have hok : pieB T P a b1 c1 d1 e1 = false := (by simp [pieB, c_10, c_18, c_26, c_35, c_39, c_48]; done); simp [hok]; done)
              have ew_3 : (gi : Nat → Int32) = if pieB T P a b1 c1 d1 e1 then upd gi P c1 else gi := by first | (have hok : pieB T P a b1 c1 d1 e1 = true := (by simp [pieB, c_10, c_18, c_26, c_35, c_39, c_48]; done); simp [hok]; done) | (have hok : pieB T P a b1 c1 d1 e1 = false := (by simp [pieB, c_10, c_18, c_26, c_35, c_39, c_48]; done); simp [hok]; done)
              have ew_4 : (sk : Nat → Int32) = if pieB T P a b1 c1 d1 e1 then upd sk P d1 else sk := by first | (have hok : pieB T P a b1 c1 d1 e1 = true := (by simp [pieB, c_10, c_18, c_26, c_35, c_39, c_48]; done); simp [hok]; done) | (have hok : pieB T P a b1 c1 d1 e1 = false := (by simp [pieB, c_10, c_18, c_26, c_35, c_39, c_48]; done); simp [hok]; done)
              have ew_5 : (pg : Nat → Int32) = if pieB T P a b1 c1 d1 e1 then upd pg P e1 else pg := by first | (have hok : pieB T P a b1 c1 d1 e1 = true := (by simp [pieB, c_10, c_18, c_26, c_35, c_39, c_48]; done); simp [hok]; done) | (have hok : pieB T P a b1 c1 d1 e1 = false := (by simp [pieB, c_10, c_18, c_26, c_35, c_39, c_48]; done); simp [hok]; done)
              exact kRetI hx hb hr hlk dX8_piece_73 hP hD hS (Nat.le_of_ble_eq_true rfl) (Nat.le_of_ble_eq_true rfl) ⟨(kpi (by first | (have hok : pieB T P a b1 c1 d1 e1 = true := (by simp [pieB, c_10, c_18, c_26, c_35, c_39, c_48]; done); simp [hok]; done) | (have hok : pieB T P a b1 c1 d1 e1 = false := (by simp [pieB, c_10, c_18, c_26, c_35, c_39, c_48]; done); simp [hok]; done))), (kw6 (fun (z_0 : Int32) (z_1 : Nat → Int32) (z_2 : Nat → Int32) (z_3 : Nat → Int32) (z_4 : Nat → Int32) (z_5 : Nat → Int32) => ([(z, .inr (9, [.ref a0, .ref a1, .int (nI T), .ref a2, .ref a3, .ref a4, .ref a5, .ref a6, .int z_0, .int pa, .int kn, .ref a7, .int (nI rn), .ref a8, .ref a9, .int (nI ln), .ref a10, .int 0, .ref a11, .ref a12, .int wt, .ref a13, .ref a14, .ref a15])), (a2, .inl (cI, 14, .inl z_1)), (a3, .inl (cI, 14, .inl z_2)), (a4, .inl (cI, 14, .inl z_3)), (a5, .inl (cI, 14, .inl z_4)), (a6, .inl (cI, 14, .inl z_5))] : va_W)) ew_0 ew_1 ew_2 ew_3 ew_4 ew_5)⟩
            · skip
              refine lv_iload hx hb dX8_piece_51 (lv_at hl 5 rfl) ?_
              refine lv_iconst (v := 1) hx hb dX8_piece_53 (by decide) ?_
              refine lv_sipush (v := 400) hx hb dX8_piece_54 (by decide) ?_
              refine kGoR (va_runS (As := [.int e1, .int 1, .int 400]) (rest := []) ⟨hx, hb, hml, hown, hts⟩ (c_X8_in l D cI cJ cZ cO e1 1 400 ) (va_cwS 3 hts gX8_piece_X8_in rfl rfl rfl (by decide +kernel) ⟨Nat.le_of_ble_eq_true rfl, Nat.le_of_ble_eq_true rfl⟩) (kPreSR hK (kPc_sub hP [] rfl)) rfl rfl hl.1 rfl (lv_room (Nat.le_of_ble_eq_true rfl)) dX8_piece_57 ⟨Nat.le_of_ble_eq_true rfl, Nat.le_of_ble_eq_true rfl⟩) (fun v_6 hv_6 => ?_)
              obtain rfl := hv_6
              refine W.eq (g2 := F0 m 60 ls [.int (k01 (withinB e1 1 400))]) rfl ?_
              refine lv_if_eq (tgt := 72) hx hb dX8_piece_60 (by decide) (fun c_60 => ?_) (fun c_60 => ?_)
              · skip
                have c_60 := k01_z c_60
                refine lv_iconst (v := (-1)) hx hb dX8_piece_72 (by decide) ?_
                have ew_0 : (nI P : Int32) = nI (if pieB T P a b1 c1 d1 e1 then P + 1 else P) := by first | (have hok : pieB T P a b1 c1 d1 e1 = true := (by simp [pieB, c_10, c_18, c_26, c_35, c_39, c_48, c_60]; done); simp [hok]; done) | (have hok : pieB T P a b1 c1 d1 e1 = false := (by simp [pieB, c_10, c_18, c_26, c_35, c_39, c_48, c_60]; done); simp [hok]; done)
                have ew_1 : (ne : Nat → Int32) = if pieB T P a b1 c1 d1 e1 then upd ne P a else ne := by first | (have hok : pieB T P a b1 c1 d1 e1 = true := (by simp [pieB, c_10, c_18, c_26, c_35, c_39, c_48, c_60]; done); simp [hok]; done) | (have hok : pieB T P a b1 c1 d1 e1 = false := (by simp [pieB, c_10, c_18, c_26, c_35, c_39, c_48, c_60]; done); simp [hok]; done)
                have ew_2 : (ei : Nat → Int32) = if pieB T P a b1 c1 d1 e1 then upd ei P b1 else ei := by first | (have hok : pieB T P a b1 c1 d1 e1 = true := (by simp [pieB, c_10, c_18, c_26, c_35, c_39, c_48, c_60]; done); simp [hok]; done) | (have hok : pieB T P a b1 c1 d1 e1 = false := (by simp [pieB, c_10, c_18, c_26, c_35, c_39, c_48, c_60]; done); simp [hok]; done)
                have ew_3 : (gi : Nat → Int32) = if pieB T P a b1 c1 d1 e1 then upd gi P c1 else gi := by first | (have hok : pieB T P a b1 c1 d1 e1 = true := (by simp [pieB, c_10, c_18, c_26, c_35, c_39, c_48, c_60]; done); simp [hok]; done) | (have hok : pieB T P a b1 c1 d1 e1 = false := (by simp [pieB, c_10, c_18, c_26, c_35, c_39, c_48, c_60]; done); simp [hok]; done)
                have ew_4 : (sk : Nat → Int32) = if pieB T P a b1 c1 d1 e1 then upd sk P d1 else sk := by first | (have hok : pieB T P a b1 c1 d1 e1 = true := (by simp [pieB, c_10, c_18, c_26, c_35, c_39, c_48, c_60]; done); simp [hok]; done) | (have hok : pieB T P a b1 c1 d1 e1 = false := (by simp [pieB, c_10, c_18, c_26, c_35, c_39, c_48, c_60]; done); simp [hok]; done)
                have ew_5 : (pg : Nat → Int32) = if pieB T P a b1 c1 d1 e1 then upd pg P e1 else pg := by first | (have hok : pieB T P a b1 c1 d1 e1 = true := (by simp [pieB, c_10, c_18, c_26, c_35, c_39, c_48, c_60]; done); simp [hok]; done) | (have hok : pieB T P a b1 c1 d1 e1 = false := (by simp [pieB, c_10, c_18, c_26, c_35, c_39, c_48, c_60]; done); simp [hok]; done)
                exact kRetI hx hb hr hlk dX8_piece_73 hP hD hS (Nat.le_of_ble_eq_true rfl) (Nat.le_of_ble_eq_true rfl) ⟨(kpi (by first | (have hok : pieB T P a b1 c1 d1 e1 = true := (by simp [pieB, c_10, c_18, c_26, c_35, c_39, c_48, c_60]; done); simp [hok]; done) | (have hok : pieB T P a b1 c1 d1 e1 = false := (by simp [pieB, c_10, c_18, c_26, c_35, c_39, c_48, c_60]; done); simp [hok]; done))), (kw6 (fun (z_0 : Int32) (z_1 : Nat → Int32) (z_2 : Nat → Int32) (z_3 : Nat → Int32) (z_4 : Nat → Int32) (z_5 : Nat → Int32) => ([(z, .inr (9, [.ref a0, .ref a1, .int (nI T), .ref a2, .ref a3, .ref a4, .ref a5, .ref a6, .int z_0, .int pa, .int kn, .ref a7, .int (nI rn), .ref a8, .ref a9, .int (nI ln), .ref a10, .int 0, .ref a11, .ref a12, .int wt, .ref a13, .ref a14, .ref a15])), (a2, .inl (cI, 14, .inl z_1)), (a3, .inl (cI, 14, .inl z_2)), (a4, .inl (cI, 14, .inl z_3)), (a5, .inl (cI, 14, .inl z_4)), (a6, .inl (cI, 14, .inl z_5))] : va_W)) ew_0 ew_1 ew_2 ew_3 ew_4 ew_5)⟩
              · skip
                have c_60 := k01_n c_60
                refine lv_aload_n hx hb dX8_piece_63 rfl (lv_at hl 0 rfl) ?_
                refine va_get (D := D) (ci := 9) (v := .int (nI P)) (C := RX8) (T := TX8) (N := 24) hx hb hts hi_X8 hown hK.1 hP 0 rfl rfl 8 (by decide) hw_f73 (fun _ h9 => h9) rfl dX8_piece_64 ?_
                refine lv_bipush (v := 14) hx hb dX8_piece_67 (by decide) ?_
                refine lv_icmp_ne (tgt := 74) hx hb dX8_piece_69 (by decide) (fun c_69 => ?_) (fun c_69 => ?_)
                · skip
                  have nc_69 : ¬ P = 14 := (not_congr (nI_eq (a := P) (b := 14) (by omega) (by omega))).mp c_69
                  refine lv_aload_n hx hb dX8_piece_74 rfl (lv_at hl 0 rfl) ?_
                  refine va_get (D := D) (ci := 9) (v := .ref a2) (C := RX8) (T := TX8) (N := 24) hx hb hts hi_X8 hown hK.1 hP 0 rfl rfl 3 (by decide) hw_f16 (fun _ h9 => h9) rfl dX8_piece_75 ?_
                  refine lv_aload_n hx hb dX8_piece_78 rfl (lv_at hl 0 rfl) ?_
                  refine va_get (D := D) (ci := 9) (v := .int (nI P)) (C := RX8) (T := TX8) (N := 24) hx hb hts hi_X8 hown hK.1 hP 0 rfl rfl 8 (by decide) hw_f73 (fun _ h9 => h9) rfl dX8_piece_79 ?_
                  refine lv_iload_n hx hb dX8_piece_82 rfl (lv_at hl 1 rfl) ?_
                  refine va_iast hx hb hK.1 hP hD hS 1 0 rfl rfl (vp_in_nI (by omega) (by omega)) dX8_piece_83 (fun H locs hP hD hS => ?_)
                  rw [nI_clamp (by omega)] at hP hD
                  have hP : va_P D vwCl [(z, .inr (9, [.ref a0, .ref a1, .int (nI T), .ref a2, .ref a3, .ref a4, .ref a5, .ref a6, .int (nI P), .int pa, .int kn, .ref a7, .int (nI rn), .ref a8, .ref a9, .int (nI ln), .ref a10, .int 0, .ref a11, .ref a12, .int wt, .ref a13, .ref a14, .ref a15])), (a2, .inl (cI, 14, .inl (upd ne P a))), (a3, .inl (cI, 14, .inl ei)), (a4, .inl (cI, 14, .inl gi)), (a5, .inl (cI, 14, .inl sk)), (a6, .inl (cI, 14, .inl pg))] H := hP
                  have hD : va_D _ [(z, .inr (9, [.ref a0, .ref a1, .int (nI T), .ref a2, .ref a3, .ref a4, .ref a5, .ref a6, .int (nI P), .int pa, .int kn, .ref a7, .int (nI rn), .ref a8, .ref a9, .int (nI ln), .ref a10, .int 0, .ref a11, .ref a12, .int wt, .ref a13, .ref a14, .ref a15])), (a2, .inl (cI, 14, .inl (upd ne P a))), (a3, .inl (cI, 14, .inl ei)), (a4, .inl (cI, 14, .inl gi)), (a5, .inl (cI, 14, .inl sk)), (a6, .inl (cI, 14, .inl pg))] := hD
                  refine lv_aload_n hx hb dX8_piece_84 rfl (lv_at hl 0 rfl) ?_
                  refine va_get (D := D) (ci := 9) (v := .ref a3) (C := RX8) (T := TX8) (N := 24) hx hb hts hi_X8 hown hK.1 hP 0 rfl rfl 4 (by decide) hw_f19 (fun _ h9 => h9) rfl dX8_piece_85 ?_
                  refine lv_aload_n hx hb dX8_piece_88 rfl (lv_at hl 0 rfl) ?_
                  refine va_get (D := D) (ci := 9) (v := .int (nI P)) (C := RX8) (T := TX8) (N := 24) hx hb hts hi_X8 hown hK.1 hP 0 rfl rfl 8 (by decide) hw_f73 (fun _ h9 => h9) rfl dX8_piece_89 ?_
                  refine lv_iload_n hx hb dX8_piece_92 rfl (lv_at hl 2 rfl) ?_
                  refine va_iast hx hb hK.1 hP hD hS 2 0 rfl rfl (vp_in_nI (by omega) (by omega)) dX8_piece_93 (fun H locs hP hD hS => ?_)
                  rw [nI_clamp (by omega)] at hP hD
                  have hP : va_P D vwCl [(z, .inr (9, [.ref a0, .ref a1, .int (nI T), .ref a2, .ref a3, .ref a4, .ref a5, .ref a6, .int (nI P), .int pa, .int kn, .ref a7, .int (nI rn), .ref a8, .ref a9, .int (nI ln), .ref a10, .int 0, .ref a11, .ref a12, .int wt, .ref a13, .ref a14, .ref a15])), (a2, .inl (cI, 14, .inl (upd ne P a))), (a3, .inl (cI, 14, .inl (upd ei P b1))), (a4, .inl (cI, 14, .inl gi)), (a5, .inl (cI, 14, .inl sk)), (a6, .inl (cI, 14, .inl pg))] H := hP
                  have hD : va_D _ [(z, .inr (9, [.ref a0, .ref a1, .int (nI T), .ref a2, .ref a3, .ref a4, .ref a5, .ref a6, .int (nI P), .int pa, .int kn, .ref a7, .int (nI rn), .ref a8, .ref a9, .int (nI ln), .ref a10, .int 0, .ref a11, .ref a12, .int wt, .ref a13, .ref a14, .ref a15])), (a2, .inl (cI, 14, .inl (upd ne P a))), (a3, .inl (cI, 14, .inl (upd ei P b1))), (a4, .inl (cI, 14, .inl gi)), (a5, .inl (cI, 14, .inl sk)), (a6, .inl (cI, 14, .inl pg))] := hD
                  refine lv_aload_n hx hb dX8_piece_94 rfl (lv_at hl 0 rfl) ?_
                  refine va_get (D := D) (ci := 9) (v := .ref a4) (C := RX8) (T := TX8) (N := 24) hx hb hts hi_X8 hown hK.1 hP 0 rfl rfl 5 (by decide) hw_f22 (fun _ h9 => h9) rfl dX8_piece_95 ?_
                  refine lv_aload_n hx hb dX8_piece_98 rfl (lv_at hl 0 rfl) ?_
                  refine va_get (D := D) (ci := 9) (v := .int (nI P)) (C := RX8) (T := TX8) (N := 24) hx hb hts hi_X8 hown hK.1 hP 0 rfl rfl 8 (by decide) hw_f73 (fun _ h9 => h9) rfl dX8_piece_99 ?_
                  refine lv_iload_n hx hb dX8_piece_102 rfl (lv_at hl 3 rfl) ?_
                  refine va_iast hx hb hK.1 hP hD hS 3 0 rfl rfl (vp_in_nI (by omega) (by omega)) dX8_piece_103 (fun H locs hP hD hS => ?_)
                  rw [nI_clamp (by omega)] at hP hD
                  have hP : va_P D vwCl [(z, .inr (9, [.ref a0, .ref a1, .int (nI T), .ref a2, .ref a3, .ref a4, .ref a5, .ref a6, .int (nI P), .int pa, .int kn, .ref a7, .int (nI rn), .ref a8, .ref a9, .int (nI ln), .ref a10, .int 0, .ref a11, .ref a12, .int wt, .ref a13, .ref a14, .ref a15])), (a2, .inl (cI, 14, .inl (upd ne P a))), (a3, .inl (cI, 14, .inl (upd ei P b1))), (a4, .inl (cI, 14, .inl (upd gi P c1))), (a5, .inl (cI, 14, .inl sk)), (a6, .inl (cI, 14, .inl pg))] H := hP
                  have hD : va_D _ [(z, .inr (9, [.ref a0, .ref a1, .int (nI T), .ref a2, .ref a3, .ref a4, .ref a5, .ref a6, .int (nI P), .int pa, .int kn, .ref a7, .int (nI rn), .ref a8, .ref a9, .int (nI ln), .ref a10, .int 0, .ref a11, .ref a12, .int wt, .ref a13, .ref a14, .ref a15])), (a2, .inl (cI, 14, .inl (upd ne P a))), (a3, .inl (cI, 14, .inl (upd ei P b1))), (a4, .inl (cI, 14, .inl (upd gi P c1))), (a5, .inl (cI, 14, .inl sk)), (a6, .inl (cI, 14, .inl pg))] := hD
                  refine lv_aload_n hx hb dX8_piece_104 rfl (lv_at hl 0 rfl) ?_
                  refine va_get (D := D) (ci := 9) (v := .ref a5) (C := RX8) (T := TX8) (N := 24) hx hb hts hi_X8 hown hK.1 hP 0 rfl rfl 6 (by decide) hw_f25 (fun _ h9 => h9) rfl dX8_piece_105 ?_
                  refine lv_aload_n hx hb dX8_piece_108 rfl (lv_at hl 0 rfl) ?_
                  refine va_get (D := D) (ci := 9) (v := .int (nI P)) (C := RX8) (T := TX8) (N := 24) hx hb hts hi_X8 hown hK.1 hP 0 rfl rfl 8 (by decide) hw_f73 (fun _ h9 => h9) rfl dX8_piece_109 ?_
                  refine lv_iload hx hb dX8_piece_112 (lv_at hl 4 rfl) ?_
                  refine va_iast hx hb hK.1 hP hD hS 4 0 rfl rfl (vp_in_nI (by omega) (by omega)) dX8_piece_114 (fun H locs hP hD hS => ?_)
                  rw [nI_clamp (by omega)] at hP hD
                  have hP : va_P D vwCl [(z, .inr (9, [.ref a0, .ref a1, .int (nI T), .ref a2, .ref a3, .ref a4, .ref a5, .ref a6, .int (nI P), .int pa, .int kn, .ref a7, .int (nI rn), .ref a8, .ref a9, .int (nI ln), .ref a10, .int 0, .ref a11, .ref a12, .int wt, .ref a13, .ref a14, .ref a15])), (a2, .inl (cI, 14, .inl (upd ne P a))), (a3, .inl (cI, 14, .inl (upd ei P b1))), (a4, .inl (cI, 14, .inl (upd gi P c1))), (a5, .inl (cI, 14, .inl (upd sk P d1))), (a6, .inl (cI, 14, .inl pg))] H := hP
                  have hD : va_D _ [(z, .inr (9, [.ref a0, .ref a1, .int (nI T), .ref a2, .ref a3, .ref a4, .ref a5, .ref a6, .int (nI P), .int pa, .int kn, .ref a7, .int (nI rn), .ref a8, .ref a9, .int (nI ln), .ref a10, .int 0, .ref a11, .ref a12, .int wt, .ref a13, .ref a14, .ref a15])), (a2, .inl (cI, 14, .inl (upd ne P a))), (a3, .inl (cI, 14, .inl (upd ei P b1))), (a4, .inl (cI, 14, .inl (upd gi P c1))), (a5, .inl (cI, 14, .inl (upd sk P d1))), (a6, .inl (cI, 14, .inl pg))] := hD
                  refine lv_aload_n hx hb dX8_piece_115 rfl (lv_at hl 0 rfl) ?_
                  refine va_get (D := D) (ci := 9) (v := .ref a6) (C := RX8) (T := TX8) (N := 24) hx hb hts hi_X8 hown hK.1 hP 0 rfl rfl 7 (by decide) hw_f28 (fun _ h9 => h9) rfl dX8_piece_116 ?_
                  refine lv_aload_n hx hb dX8_piece_119 rfl (lv_at hl 0 rfl) ?_
                  refine va_get (D := D) (ci := 9) (v := .int (nI P)) (C := RX8) (T := TX8) (N := 24) hx hb hts hi_X8 hown hK.1 hP 0 rfl rfl 8 (by decide) hw_f73 (fun _ h9 => h9) rfl dX8_piece_120 ?_
                  refine lv_iload hx hb dX8_piece_123 (lv_at hl 5 rfl) ?_
                  refine va_iast hx hb hK.1 hP hD hS 5 0 rfl rfl (vp_in_nI (by omega) (by omega)) dX8_piece_125 (fun H locs hP hD hS => ?_)
                  rw [nI_clamp (by omega)] at hP hD
                  have hP : va_P D vwCl [(z, .inr (9, [.ref a0, .ref a1, .int (nI T), .ref a2, .ref a3, .ref a4, .ref a5, .ref a6, .int (nI P), .int pa, .int kn, .ref a7, .int (nI rn), .ref a8, .ref a9, .int (nI ln), .ref a10, .int 0, .ref a11, .ref a12, .int wt, .ref a13, .ref a14, .ref a15])), (a2, .inl (cI, 14, .inl (upd ne P a))), (a3, .inl (cI, 14, .inl (upd ei P b1))), (a4, .inl (cI, 14, .inl (upd gi P c1))), (a5, .inl (cI, 14, .inl (upd sk P d1))), (a6, .inl (cI, 14, .inl (upd pg P e1)))] H := hP
                  have hD : va_D _ [(z, .inr (9, [.ref a0, .ref a1, .int (nI T), .ref a2, .ref a3, .ref a4, .ref a5, .ref a6, .int (nI P), .int pa, .int kn, .ref a7, .int (nI rn), .ref a8, .ref a9, .int (nI ln), .ref a10, .int 0, .ref a11, .ref a12, .int wt, .ref a13, .ref a14, .ref a15])), (a2, .inl (cI, 14, .inl (upd ne P a))), (a3, .inl (cI, 14, .inl (upd ei P b1))), (a4, .inl (cI, 14, .inl (upd gi P c1))), (a5, .inl (cI, 14, .inl (upd sk P d1))), (a6, .inl (cI, 14, .inl (upd pg P e1)))] := hD
                  refine lv_aload_n hx hb dX8_piece_126 rfl (lv_at hl 0 rfl) ?_
                  refine lv_dup hx hb dX8_piece_127 rfl ?_
                  refine va_get (D := D) (ci := 9) (v := .int (nI P)) (C := RX8) (T := TX8) (N := 24) hx hb hts hi_X8 hown hK.1 hP 0 rfl rfl 8 (by decide) hw_f73 (fun _ h9 => h9) rfl dX8_piece_128 ?_
                  refine lv_iconst (v := 1) hx hb dX8_piece_131 (by decide) ?_
                  refine lv_iadd hx hb dX8_piece_132 ?_
                  refine lv_topi (fun nv_7 ev_7 => ?_)
                  obtain rfl : nv_7 = nI (P + 1) := ev_7.trans (nI_1 P)
                  refine va_put (D := D) (ci := 9) (v := .int (nI (P + 1))) (ty := .int) (C := RX8) (T := TX8) (N := 24) hx hb hts hi_X8 tyX8 tyX8_ok nmX8 hown hK.1 hP hD hS 0 rfl rfl 8 (by decide) hw_f73 (fun _ h9 => h9) rfl (by decide +kernel) rfl rfl (Nat.le_of_ble_eq_true rfl) dX8_piece_133 (fun H locs hP hD hS => ?_)
                  have hP : va_P D vwCl [(z, .inr (9, [.ref a0, .ref a1, .int (nI T), .ref a2, .ref a3, .ref a4, .ref a5, .ref a6, .int (nI (P + 1)), .int pa, .int kn, .ref a7, .int (nI rn), .ref a8, .ref a9, .int (nI ln), .ref a10, .int 0, .ref a11, .ref a12, .int wt, .ref a13, .ref a14, .ref a15])), (a2, .inl (cI, 14, .inl (upd ne P a))), (a3, .inl (cI, 14, .inl (upd ei P b1))), (a4, .inl (cI, 14, .inl (upd gi P c1))), (a5, .inl (cI, 14, .inl (upd sk P d1))), (a6, .inl (cI, 14, .inl (upd pg P e1)))] H := hP
                  have hD : va_D _ [(z, .inr (9, [.ref a0, .ref a1, .int (nI T), .ref a2, .ref a3, .ref a4, .ref a5, .ref a6, .int (nI (P + 1)), .int pa, .int kn, .ref a7, .int (nI rn), .ref a8, .ref a9, .int (nI ln), .ref a10, .int 0, .ref a11, .ref a12, .int wt, .ref a13, .ref a14, .ref a15])), (a2, .inl (cI, 14, .inl (upd ne P a))), (a3, .inl (cI, 14, .inl (upd ei P b1))), (a4, .inl (cI, 14, .inl (upd gi P c1))), (a5, .inl (cI, 14, .inl (upd sk P d1))), (a6, .inl (cI, 14, .inl (upd pg P e1)))] := hD
                  refine lv_aload_n hx hb dX8_piece_136 rfl (lv_at hl 0 rfl) ?_
                  refine va_get (D := D) (ci := 9) (v := .int (nI (P + 1))) (C := RX8) (T := TX8) (N := 24) hx hb hts hi_X8 hown hK.1 hP 0 rfl rfl 8 (by decide) hw_f73 (fun _ h9 => h9) rfl dX8_piece_137 ?_
                  refine lv_iconst (v := 1) hx hb dX8_piece_140 (by decide) ?_
                  refine lv_isub hx hb dX8_piece_141 ?_
                  refine lv_topi (fun nv_8 ev_8 => ?_)
                  obtain rfl : nv_8 = nI P := ev_8.trans (pk_sub (a := P + 1) (b := 1) (by omega))
                  have ew_0 : (nI (P + 1) : Int32) = nI (if pieB T P a b1 c1 d1 e1 then P + 1 else P) := by first | (have hok : pieB T P a b1 c1 d1 e1 = true := (by simp [pieB, c_10, c_18, c_26, c_35, c_39, c_48, c_60, c_69, nc_69]; done); simp [hok]; done) | (have hok : pieB T P a b1 c1 d1 e1 = false := (by simp [pieB, c_10, c_18, c_26, c_35, c_39, c_48, c_60, c_69, nc_69]; done); simp [hok]; done)
                  have ew_1 : (upd ne P a : Nat → Int32) = if pieB T P a b1 c1 d1 e1 then upd ne P a else ne := by first | (have hok : pieB T P a b1 c1 d1 e1 = true := (by simp [pieB, c_10, c_18, c_26, c_35, c_39, c_48, c_60, c_69, nc_69]; done); simp [hok]; done) | (have hok : pieB T P a b1 c1 d1 e1 = false := (by simp [pieB, c_10, c_18, c_26, c_35, c_39, c_48, c_60, c_69, nc_69]; done); simp [hok]; done)
                  have ew_2 : (upd ei P b1 : Nat → Int32) = if pieB T P a b1 c1 d1 e1 then upd ei P b1 else ei := by first | (have hok : pieB T P a b1 c1 d1 e1 = true := (by simp [pieB, c_10, c_18, c_26, c_35, c_39, c_48, c_60, c_69, nc_69]; done); simp [hok]; done) | (have hok : pieB T P a b1 c1 d1 e1 = false := (by simp [pieB, c_10, c_18, c_26, c_35, c_39, c_48, c_60, c_69, nc_69]; done); simp [hok]; done)
                  have ew_3 : (upd gi P c1 : Nat → Int32) = if pieB T P a b1 c1 d1 e1 then upd gi P c1 else gi := by first | (have hok : pieB T P a b1 c1 d1 e1 = true := (by simp [pieB, c_10, c_18, c_26, c_35, c_39, c_48, c_60, c_69, nc_69]; done); simp [hok]; done) | (have hok : pieB T P a b1 c1 d1 e1 = false := (by simp [pieB, c_10, c_18, c_26, c_35, c_39, c_48, c_60, c_69, nc_69]; done); simp [hok]; done)
                  have ew_4 : (upd sk P d1 : Nat → Int32) = if pieB T P a b1 c1 d1 e1 then upd sk P d1 else sk := by first | (have hok : pieB T P a b1 c1 d1 e1 = true := (by simp [pieB, c_10, c_18, c_26, c_35, c_39, c_48, c_60, c_69, nc_69]; done); simp [hok]; done) | (have hok : pieB T P a b1 c1 d1 e1 = false := (by simp [pieB, c_10, c_18, c_26, c_35, c_39, c_48, c_60, c_69, nc_69]; done); simp [hok]; done)
                  have ew_5 : (upd pg P e1 : Nat → Int32) = if pieB T P a b1 c1 d1 e1 then upd pg P e1 else pg := by first | (have hok : pieB T P a b1 c1 d1 e1 = true := (by simp [pieB, c_10, c_18, c_26, c_35, c_39, c_48, c_60, c_69, nc_69]; done); simp [hok]; done) | (have hok : pieB T P a b1 c1 d1 e1 = false := (by simp [pieB, c_10, c_18, c_26, c_35, c_39, c_48, c_60, c_69, nc_69]; done); simp [hok]; done)
                  exact kRetI hx hb hr hlk dX8_piece_142 hP hD hS (Nat.le_of_ble_eq_true rfl) (Nat.le_of_ble_eq_true rfl) ⟨(kpi (by first | (have hok : pieB T P a b1 c1 d1 e1 = true := (by simp [pieB, c_10, c_18, c_26, c_35, c_39, c_48, c_60, c_69, nc_69]; done); simp [hok]; done) | (have hok : pieB T P a b1 c1 d1 e1 = false := (by simp [pieB, c_10, c_18, c_26, c_35, c_39, c_48, c_60, c_69, nc_69]; done); simp [hok]; done))), (kw6 (fun (z_0 : Int32) (z_1 : Nat → Int32) (z_2 : Nat → Int32) (z_3 : Nat → Int32) (z_4 : Nat → Int32) (z_5 : Nat → Int32) => ([(z, .inr (9, [.ref a0, .ref a1, .int (nI T), .ref a2, .ref a3, .ref a4, .ref a5, .ref a6, .int z_0, .int pa, .int kn, .ref a7, .int (nI rn), .ref a8, .ref a9, .int (nI ln), .ref a10, .int 0, .ref a11, .ref a12, .int wt, .ref a13, .ref a14, .ref a15])), (a2, .inl (cI, 14, .inl z_1)), (a3, .inl (cI, 14, .inl z_2)), (a4, .inl (cI, 14, .inl z_3)), (a5, .inl (cI, 14, .inl z_4)), (a6, .inl (cI, 14, .inl z_5))] : va_W)) ew_0 ew_1 ew_2 ew_3 ew_4 ew_5)⟩
                · skip
                  have nc_69 : P = 14 := (nI_eq (a := P) (b := 14) (by omega) (by omega)).mp c_69
                  refine lv_iconst (v := (-1)) hx hb dX8_piece_72 (by decide) ?_
                  have ew_0 : (nI P : Int32) = nI (if pieB T P a b1 c1 d1 e1 then P + 1 else P) := by first | (have hok : pieB T P a b1 c1 d1 e1 = true := (by simp [pieB, c_10, c_18, c_26, c_35, c_39, c_48, c_60, c_69, nc_69]; done); simp [hok]; done) | (have hok : pieB T P a b1 c1 d1 e1 = false := (by simp [pieB, c_10, c_18, c_26, c_35, c_39, c_48, c_60, c_69, nc_69]; done); simp [hok]; done)
                  have ew_1 : (ne : Nat → Int32) = if pieB T P a b1 c1 d1 e1 then upd ne P a else ne := by first | (have hok : pieB T P a b1 c1 d1 e1 = true := (by simp [pieB, c_10, c_18, c_26, c_35, c_39, c_48, c_60, c_69, nc_69]; done); simp [hok]; done) | (have hok : pieB T P a b1 c1 d1 e1 = false := (by simp [pieB, c_10, c_18, c_26, c_35, c_39, c_48, c_60, c_69, nc_69]; done); simp [hok]; done)
                  have ew_2 : (ei : Nat → Int32) = if pieB T P a b1 c1 d1 e1 then upd ei P b1 else ei := by first | (have hok : pieB T P a b1 c1 d1 e1 = true := (by simp [pieB, c_10, c_18, c_26, c_35, c_39, c_48, c_60, c_69, nc_69]; done); simp [hok]; done) | (have hok : pieB T P a b1 c1 d1 e1 = false := (by simp [pieB, c_10, c_18, c_26, c_35, c_39, c_48, c_60, c_69, nc_69]; done); simp [hok]; done)
                  have ew_3 : (gi : Nat → Int32) = if pieB T P a b1 c1 d1 e1 then upd gi P c1 else gi := by first | (have hok : pieB T P a b1 c1 d1 e1 = true := (by simp [pieB, c_10, c_18, c_26, c_35, c_39, c_48, c_60, c_69, nc_69]; done); simp [hok]; done) | (have hok : pieB T P a b1 c1 d1 e1 = false := (by simp [pieB, c_10, c_18, c_26, c_35, c_39, c_48, c_60, c_69, nc_69]; done); simp [hok]; done)
                  have ew_4 : (sk : Nat → Int32) = if pieB T P a b1 c1 d1 e1 then upd sk P d1 else sk := by first | (have hok : pieB T P a b1 c1 d1 e1 = true := (by simp [pieB, c_10, c_18, c_26, c_35, c_39, c_48, c_60, c_69, nc_69]; done); simp [hok]; done) | (have hok : pieB T P a b1 c1 d1 e1 = false := (by simp [pieB, c_10, c_18, c_26, c_35, c_39, c_48, c_60, c_69, nc_69]; done); simp [hok]; done)
                  have ew_5 : (pg : Nat → Int32) = if pieB T P a b1 c1 d1 e1 then upd pg P e1 else pg := by first | (have hok : pieB T P a b1 c1 d1 e1 = true := (by simp [pieB, c_10, c_18, c_26, c_35, c_39, c_48, c_60, c_69, nc_69]; done); simp [hok]; done) | (have hok : pieB T P a b1 c1 d1 e1 = false := (by simp [pieB, c_10, c_18, c_26, c_35, c_39, c_48, c_60, c_69, nc_69]; done); simp [hok]; done)
                  exact kRetI hx hb hr hlk dX8_piece_73 hP hD hS (Nat.le_of_ble_eq_true rfl) (Nat.le_of_ble_eq_true rfl) ⟨(kpi (by first | (have hok : pieB T P a b1 c1 d1 e1 = true := (by simp [pieB, c_10, c_18, c_26, c_35, c_39, c_48, c_60, c_69, nc_69]; done); simp [hok]; done) | (have hok : pieB T P a b1 c1 d1 e1 = false := (by simp [pieB, c_10, c_18, c_26, c_35, c_39, c_48, c_60, c_69, nc_69]; done); simp [hok]; done))), (kw6 (fun (z_0 : Int32) (z_1 : Nat → Int32) (z_2 : Nat → Int32) (z_3 : Nat → Int32) (z_4 : Nat → Int32) (z_5 : Nat → Int32) => ([(z, .inr (9, [.ref a0, .ref a1, .int (nI T), .ref a2, .ref a3, .ref a4, .ref a5, .ref a6, .int z_0, .int pa, .int kn, .ref a7, .int (nI rn), .ref a8, .ref a9, .int (nI ln), .ref a10, .int 0, .ref a11, .ref a12, .int wt, .ref a13, .ref a14, .ref a15])), (a2, .inl (cI, 14, .inl z_1)), (a3, .inl (cI, 14, .inl z_2)), (a4, .inl (cI, 14, .inl z_3)), (a5, .inl (cI, 14, .inl z_4)), (a6, .inl (cI, 14, .inl z_5))] : va_W)) ew_0 ew_1 ew_2 ew_3 ew_4 ew_5)⟩

set_option maxHeartbeats 4000000 in
set_option maxRecDepth 100000 in
theorem c_X8_drop (l : Launch) (D : va_G) (cI cJ cZ cO : ClassId) (z : Nat) (a0 : Nat) (a1 : Nat) (a2 : Nat) (a3 : Nat) (a4 : Nat) (a5 : Nat) (a6 : Nat) (a7 : Nat) (a8 : Nat) (a9 : Nat) (a10 : Nat) (a11 : Nat) (a12 : Nat) (a13 : Nat) (a14 : Nat) (a15 : Nat) (T : Nat) (P : Nat) (pa : Int32) (kn : Int32) (rn : Nat) (ln : Nat) (th : Int32) (wt : Int32) (hP14 : P ≤ 14) : kC l D (kTY cI cJ cZ cO) yX8_drop wsX8_drop 0 0 0 0 [.ref z] [(z, .inr (9, [.ref a0, .ref a1, .int (nI T), .ref a2, .ref a3, .ref a4, .ref a5, .ref a6, .int (nI P), .int pa, .int kn, .ref a7, .int (nI rn), .ref a8, .ref a9, .int (nI ln), .ref a10, .int th, .ref a11, .ref a12, .int wt, .ref a13, .ref a14, .ref a15]))] (fun rv_ rw_ => rv_ = some (.int (if P = 0 then -1 else nI (P - 1))) ∧ rw_ = [(z, .inr (9, [.ref a0, .ref a1, .int (nI T), .ref a2, .ref a3, .ref a4, .ref a5, .ref a6, .int (nI (P - 1)), .int pa, .int kn, .ref a7, .int (nI rn), .ref a8, .ref a9, .int (nI ln), .ref a10, .int 0, .ref a11, .ref a12, .int wt, .ref a13, .ref a14, .ref a15]))]) := by
  refine kEnter (cc := cX8_drop) (maxL := 1) (ret := (some .int)) (by decide) rfl (Nat.le_of_ble_eq_true rfl) ?_
  intro p e s m args below meth c hx hb hr hml hts hown hlk hnm hK hP hD hS hA ls hl
  have hl : lv_has ls 1 [(0, .ref z)] := hl
  have hw_f63 := hts (.fieldLink RX8 63 "WhatToReadModel" "thrown" "I") (by decide +kernel)
  have hi_X8 : ∀ w ∈ wsX80, w ∈ wsX8_drop := by decide +kernel
  have hw_f73 := hts (.fieldLink RX8 73 "WhatToReadModel" "pieces" "I") (by decide +kernel)
  refine lv_aload_n hx hb dX8_drop_0 rfl (lv_at hl 0 rfl) ?_
  refine lv_iconst (v := 0) hx hb dX8_drop_1 (by decide) ?_
  refine va_put (D := D) (ci := 9) (v := .int 0) (ty := .int) (C := RX8) (T := TX8) (N := 24) hx hb hts hi_X8 tyX8 tyX8_ok nmX8 hown hK.1 hP hD hS 0 rfl rfl 17 (by decide) hw_f63 (fun _ h9 => h9) rfl (by decide +kernel) rfl rfl (Nat.le_of_ble_eq_true rfl) dX8_drop_2 (fun H locs hP hD hS => ?_)
  have hP : va_P D vwCl [(z, .inr (9, [.ref a0, .ref a1, .int (nI T), .ref a2, .ref a3, .ref a4, .ref a5, .ref a6, .int (nI P), .int pa, .int kn, .ref a7, .int (nI rn), .ref a8, .ref a9, .int (nI ln), .ref a10, .int 0, .ref a11, .ref a12, .int wt, .ref a13, .ref a14, .ref a15]))] H := hP
  have hD : va_D _ [(z, .inr (9, [.ref a0, .ref a1, .int (nI T), .ref a2, .ref a3, .ref a4, .ref a5, .ref a6, .int (nI P), .int pa, .int kn, .ref a7, .int (nI rn), .ref a8, .ref a9, .int (nI ln), .ref a10, .int 0, .ref a11, .ref a12, .int wt, .ref a13, .ref a14, .ref a15]))] := hD
  refine lv_aload_n hx hb dX8_drop_5 rfl (lv_at hl 0 rfl) ?_
  refine va_get (D := D) (ci := 9) (v := .int (nI P)) (C := RX8) (T := TX8) (N := 24) hx hb hts hi_X8 hown hK.1 hP 0 rfl rfl 8 (by decide) hw_f73 (fun _ h9 => h9) rfl dX8_drop_6 ?_
  refine lv_if_ne (tgt := 14) hx hb dX8_drop_9 (by decide) (fun c_9 => ?_) (fun c_9 => ?_)
  · skip
    have nc_9 : ¬ P = 0 := (not_congr (nI_eq (a := P) (b := 0) (by omega) (by omega))).mp c_9
    refine lv_aload_n hx hb dX8_drop_14 rfl (lv_at hl 0 rfl) ?_
    refine lv_dup hx hb dX8_drop_15 rfl ?_
    refine va_get (D := D) (ci := 9) (v := .int (nI P)) (C := RX8) (T := TX8) (N := 24) hx hb hts hi_X8 hown hK.1 hP 0 rfl rfl 8 (by decide) hw_f73 (fun _ h9 => h9) rfl dX8_drop_16 ?_
    refine lv_iconst (v := 1) hx hb dX8_drop_19 (by decide) ?_
    refine lv_isub hx hb dX8_drop_20 ?_
    refine lv_topi (fun nv_1 ev_1 => ?_)
    obtain rfl : nv_1 = nI (P - 1) := ev_1.trans (pk_sub (b := 1) (by omega))
    refine va_put (D := D) (ci := 9) (v := .int (nI (P - 1))) (ty := .int) (C := RX8) (T := TX8) (N := 24) hx hb hts hi_X8 tyX8 tyX8_ok nmX8 hown hK.1 hP hD hS 0 rfl rfl 8 (by decide) hw_f73 (fun _ h9 => h9) rfl (by decide +kernel) rfl rfl (Nat.le_of_ble_eq_true rfl) dX8_drop_21 (fun H locs hP hD hS => ?_)
    have hP : va_P D vwCl [(z, .inr (9, [.ref a0, .ref a1, .int (nI T), .ref a2, .ref a3, .ref a4, .ref a5, .ref a6, .int (nI (P - 1)), .int pa, .int kn, .ref a7, .int (nI rn), .ref a8, .ref a9, .int (nI ln), .ref a10, .int 0, .ref a11, .ref a12, .int wt, .ref a13, .ref a14, .ref a15]))] H := hP
    have hD : va_D _ [(z, .inr (9, [.ref a0, .ref a1, .int (nI T), .ref a2, .ref a3, .ref a4, .ref a5, .ref a6, .int (nI (P - 1)), .int pa, .int kn, .ref a7, .int (nI rn), .ref a8, .ref a9, .int (nI ln), .ref a10, .int 0, .ref a11, .ref a12, .int wt, .ref a13, .ref a14, .ref a15]))] := hD
    refine lv_aload_n hx hb dX8_drop_24 rfl (lv_at hl 0 rfl) ?_
    refine va_get (D := D) (ci := 9) (v := .int (nI (P - 1))) (C := RX8) (T := TX8) (N := 24) hx hb hts hi_X8 hown hK.1 hP 0 rfl rfl 8 (by decide) hw_f73 (fun _ h9 => h9) rfl dX8_drop_25 ?_
    exact kRetI hx hb hr hlk dX8_drop_28 hP hD hS (Nat.le_of_ble_eq_true rfl) (Nat.le_of_ble_eq_true rfl) ⟨(kpi (by simp [c_9, nc_9])), rfl⟩
  · skip
    have nc_9 : P = 0 := (nI_eq (a := P) (b := 0) (by omega) (by omega)).mp c_9
    refine lv_iconst (v := (-1)) hx hb dX8_drop_12 (by decide) ?_
    have ew_0 : (nI P : Int32) = nI (P - 1) := by first | rfl | (rw [show P - 1 = P by omega]; done)
    exact kRetI hx hb hr hlk dX8_drop_13 hP hD hS (Nat.le_of_ble_eq_true rfl) (Nat.le_of_ble_eq_true rfl) ⟨(kpi (by simp [c_9, nc_9])), (kw1 (fun (z_0 : Int32) => ([(z, .inr (9, [.ref a0, .ref a1, .int (nI T), .ref a2, .ref a3, .ref a4, .ref a5, .ref a6, .int z_0, .int pa, .int kn, .ref a7, .int (nI rn), .ref a8, .ref a9, .int (nI ln), .ref a10, .int 0, .ref a11, .ref a12, .int wt, .ref a13, .ref a14, .ref a15]))] : va_W)) ew_0)⟩

set_option maxHeartbeats 4000000 in
set_option maxRecDepth 100000 in
theorem c_X8_pace (l : Launch) (D : va_G) (cI cJ cZ cO : ClassId) (z : Nat) (a0 : Nat) (a1 : Nat) (a2 : Nat) (a3 : Nat) (a4 : Nat) (a5 : Nat) (a6 : Nat) (a7 : Nat) (a8 : Nat) (a9 : Nat) (a10 : Nat) (a11 : Nat) (a12 : Nat) (a13 : Nat) (a14 : Nat) (a15 : Nat) (T : Nat) (P : Nat) (pa : Int32) (kn : Int32) (rn : Nat) (ln : Nat) (th : Int32) (wt : Int32) (v : Int32) : kC l D (kTY cI cJ cZ cO) yX8_pace wsX8_pace 1 22 0 0 [.ref z, .int v] [(z, .inr (9, [.ref a0, .ref a1, .int (nI T), .ref a2, .ref a3, .ref a4, .ref a5, .ref a6, .int (nI P), .int pa, .int kn, .ref a7, .int (nI rn), .ref a8, .ref a9, .int (nI ln), .ref a10, .int th, .ref a11, .ref a12, .int wt, .ref a13, .ref a14, .ref a15]))] (fun rv_ rw_ => rv_ = some (.int (if withinB v 1 10 then pa else -1)) ∧ rw_ = [(z, .inr (9, [.ref a0, .ref a1, .int (nI T), .ref a2, .ref a3, .ref a4, .ref a5, .ref a6, .int (nI P), .int (if withinB v 1 10 then v else pa), .int kn, .ref a7, .int (nI rn), .ref a8, .ref a9, .int (nI ln), .ref a10, .int 0, .ref a11, .ref a12, .int wt, .ref a13, .ref a14, .ref a15]))]) := by
  refine kEnter (cc := cX8_pace) (maxL := 3) (ret := (some .int)) (by decide) rfl (Nat.le_of_ble_eq_true rfl) ?_
  intro p e s m args below meth c hx hb hr hml hts hown hlk hnm hK hP hD hS hA ls hl
  have hl : lv_has ls 3 [(0, .ref z), (1, .int v)] := hl
  have hw_f63 := hts (.fieldLink RX8 63 "WhatToReadModel" "thrown" "I") (by decide +kernel)
  have hi_X8 : ∀ w ∈ wsX80, w ∈ wsX8_pace := by decide +kernel
  have hw_f31 := hts (.fieldLink RX8 31 "WhatToReadModel" "pace" "I") (by decide +kernel)
  refine lv_aload_n hx hb dX8_pace_0 rfl (lv_at hl 0 rfl) ?_
  refine lv_iconst (v := 0) hx hb dX8_pace_1 (by decide) ?_
  refine va_put (D := D) (ci := 9) (v := .int 0) (ty := .int) (C := RX8) (T := TX8) (N := 24) hx hb hts hi_X8 tyX8 tyX8_ok nmX8 hown hK.1 hP hD hS 0 rfl rfl 17 (by decide) hw_f63 (fun _ h9 => h9) rfl (by decide +kernel) rfl rfl (Nat.le_of_ble_eq_true rfl) dX8_pace_2 (fun H locs hP hD hS => ?_)
  have hP : va_P D vwCl [(z, .inr (9, [.ref a0, .ref a1, .int (nI T), .ref a2, .ref a3, .ref a4, .ref a5, .ref a6, .int (nI P), .int pa, .int kn, .ref a7, .int (nI rn), .ref a8, .ref a9, .int (nI ln), .ref a10, .int 0, .ref a11, .ref a12, .int wt, .ref a13, .ref a14, .ref a15]))] H := hP
  have hD : va_D _ [(z, .inr (9, [.ref a0, .ref a1, .int (nI T), .ref a2, .ref a3, .ref a4, .ref a5, .ref a6, .int (nI P), .int pa, .int kn, .ref a7, .int (nI rn), .ref a8, .ref a9, .int (nI ln), .ref a10, .int 0, .ref a11, .ref a12, .int wt, .ref a13, .ref a14, .ref a15]))] := hD
  refine lv_iload_n hx hb dX8_pace_5 rfl (lv_at hl 1 rfl) ?_
  refine lv_iconst (v := 1) hx hb dX8_pace_6 (by decide) ?_
  refine lv_bipush (v := 10) hx hb dX8_pace_7 (by decide) ?_
  refine kGoR (va_runS (As := [.int v, .int 1, .int 10]) (rest := []) ⟨hx, hb, hml, hown, hts⟩ (c_X8_in l D cI cJ cZ cO v 1 10 ) (va_cwS 3 hts gX8_pace_X8_in rfl rfl rfl (by decide +kernel) ⟨Nat.le_of_ble_eq_true rfl, Nat.le_of_ble_eq_true rfl⟩) (kPreSR hK (kPc_sub hP [] rfl)) rfl rfl hl.1 rfl (lv_room (Nat.le_of_ble_eq_true rfl)) dX8_pace_9 ⟨Nat.le_of_ble_eq_true rfl, Nat.le_of_ble_eq_true rfl⟩) (fun v_1 hv_1 => ?_)
  obtain rfl := hv_1
  refine W.eq (g2 := F0 m 12 ls [.int (k01 (withinB v 1 10))]) rfl ?_
  refine lv_if_ne (tgt := 17) hx hb dX8_pace_12 (by decide) (fun c_12 => ?_) (fun c_12 => ?_)
  · skip
    have c_12 := k01_n c_12
    refine lv_aload_n hx hb dX8_pace_17 rfl (lv_at hl 0 rfl) ?_
    refine va_get (D := D) (ci := 9) (v := .int pa) (C := RX8) (T := TX8) (N := 24) hx hb hts hi_X8 hown hK.1 hP 0 rfl rfl 9 (by decide) hw_f31 (fun _ h9 => h9) rfl dX8_pace_18 ?_
    refine lv_istore_n (lv' := [(2, .int pa), (0, .ref z), (1, .int v)]) hx hb dX8_pace_21 rfl hl (by decide) rfl (fun ls hl => ?_)
    refine lv_aload_n hx hb dX8_pace_22 rfl (lv_at hl 1 rfl) ?_
    refine lv_iload_n hx hb dX8_pace_23 rfl (lv_at hl 2 rfl) ?_
    refine va_put (D := D) (ci := 9) (v := .int v) (ty := .int) (C := RX8) (T := TX8) (N := 24) hx hb hts hi_X8 tyX8 tyX8_ok nmX8 hown hK.1 hP hD hS 0 rfl rfl 9 (by decide) hw_f31 (fun _ h9 => h9) rfl (by decide +kernel) rfl rfl (Nat.le_of_ble_eq_true rfl) dX8_pace_24 (fun H locs hP hD hS => ?_)
    have hP : va_P D vwCl [(z, .inr (9, [.ref a0, .ref a1, .int (nI T), .ref a2, .ref a3, .ref a4, .ref a5, .ref a6, .int (nI P), .int v, .int kn, .ref a7, .int (nI rn), .ref a8, .ref a9, .int (nI ln), .ref a10, .int 0, .ref a11, .ref a12, .int wt, .ref a13, .ref a14, .ref a15]))] H := hP
    have hD : va_D _ [(z, .inr (9, [.ref a0, .ref a1, .int (nI T), .ref a2, .ref a3, .ref a4, .ref a5, .ref a6, .int (nI P), .int v, .int kn, .ref a7, .int (nI rn), .ref a8, .ref a9, .int (nI ln), .ref a10, .int 0, .ref a11, .ref a12, .int wt, .ref a13, .ref a14, .ref a15]))] := hD
    refine lv_iload_n hx hb dX8_pace_27 rfl (lv_at hl 0 rfl) ?_
    have ew_0 : (v : Int32) = if withinB v 1 10 then v else pa := by simp [c_12]
    exact kRetI hx hb hr hlk dX8_pace_28 hP hD hS (Nat.le_of_ble_eq_true rfl) (Nat.le_of_ble_eq_true rfl) ⟨(kpi (by simp [c_12])), (kw1 (fun (z_0 : Int32) => ([(z, .inr (9, [.ref a0, .ref a1, .int (nI T), .ref a2, .ref a3, .ref a4, .ref a5, .ref a6, .int (nI P), .int z_0, .int kn, .ref a7, .int (nI rn), .ref a8, .ref a9, .int (nI ln), .ref a10, .int 0, .ref a11, .ref a12, .int wt, .ref a13, .ref a14, .ref a15]))] : va_W)) ew_0)⟩
  · skip
    have c_12 := k01_z c_12
    refine lv_iconst (v := (-1)) hx hb dX8_pace_15 (by decide) ?_
    have ew_0 : (pa : Int32) = if withinB v 1 10 then v else pa := by simp [c_12]
    exact kRetI hx hb hr hlk dX8_pace_16 hP hD hS (Nat.le_of_ble_eq_true rfl) (Nat.le_of_ble_eq_true rfl) ⟨(kpi (by simp [c_12])), (kw1 (fun (z_0 : Int32) => ([(z, .inr (9, [.ref a0, .ref a1, .int (nI T), .ref a2, .ref a3, .ref a4, .ref a5, .ref a6, .int (nI P), .int z_0, .int kn, .ref a7, .int (nI rn), .ref a8, .ref a9, .int (nI ln), .ref a10, .int 0, .ref a11, .ref a12, .int wt, .ref a13, .ref a14, .ref a15]))] : va_W)) ew_0)⟩

set_option maxHeartbeats 4000000 in
set_option maxRecDepth 100000 in
theorem c_X8_know (l : Launch) (D : va_G) (cI cJ cZ cO : ClassId) (z : Nat) (a0 : Nat) (a1 : Nat) (a2 : Nat) (a3 : Nat) (a4 : Nat) (a5 : Nat) (a6 : Nat) (a7 : Nat) (a8 : Nat) (a9 : Nat) (a10 : Nat) (a11 : Nat) (a12 : Nat) (a13 : Nat) (a14 : Nat) (a15 : Nat) (T : Nat) (P : Nat) (pa : Int32) (kn : Int32) (rn : Nat) (ln : Nat) (th : Int32) (wt : Int32) (im : Nat → Int32) (b : Int32) (hT : T ≤ 12) : kC l D (kTY cI cJ cZ cO) yX8_know wsX8_know 2 43 0 0 [.ref z, .int b] [(z, .inr (9, [.ref a0, .ref a1, .int (nI T), .ref a2, .ref a3, .ref a4, .ref a5, .ref a6, .int (nI P), .int pa, .int kn, .ref a7, .int (nI rn), .ref a8, .ref a9, .int (nI ln), .ref a10, .int th, .ref a11, .ref a12, .int wt, .ref a13, .ref a14, .ref a15])), (a1, .inl (cI, 12, .inl im))] (fun rv_ rw_ => rv_ = some (.int (if areB T b then closF im b T else -1)) ∧ rw_ = [(z, .inr (9, [.ref a0, .ref a1, .int (nI T), .ref a2, .ref a3, .ref a4, .ref a5, .ref a6, .int (nI P), .int pa, .int (if areB T b then closF im b T else kn), .ref a7, .int (nI rn), .ref a8, .ref a9, .int (nI ln), .ref a10, .int 0, .ref a11, .ref a12, .int wt, .ref a13, .ref a14, .ref a15])), (a1, .inl (cI, 12, .inl im))]) := by
  refine kEnter (cc := cX8_know) (maxL := 2) (ret := (some .int)) (by decide) rfl (Nat.le_of_ble_eq_true rfl) ?_
  intro p e s m args below meth c hx hb hr hml hts hown hlk hnm hK hP hD hS hA ls hl
  have hl : lv_has ls 2 [(0, .ref z), (1, .int b)] := hl
  have hw_f63 := hts (.fieldLink RX8 63 "WhatToReadModel" "thrown" "I") (by decide +kernel)
  have hi_X8 : ∀ w ∈ wsX80, w ∈ wsX8_know := by decide +kernel
  have hw_f84 := hts (.fieldLink RX8 84 "WhatToReadModel" "known" "I") (by decide +kernel)
  refine lv_aload_n hx hb dX8_know_0 rfl (lv_at hl 0 rfl) ?_
  refine lv_iconst (v := 0) hx hb dX8_know_1 (by decide) ?_
  refine va_put (D := D) (ci := 9) (v := .int 0) (ty := .int) (C := RX8) (T := TX8) (N := 24) hx hb hts hi_X8 tyX8 tyX8_ok nmX8 hown hK.1 hP hD hS 0 rfl rfl 17 (by decide) hw_f63 (fun _ h9 => h9) rfl (by decide +kernel) rfl rfl (Nat.le_of_ble_eq_true rfl) dX8_know_2 (fun H locs hP hD hS => ?_)
  have hP : va_P D vwCl [(z, .inr (9, [.ref a0, .ref a1, .int (nI T), .ref a2, .ref a3, .ref a4, .ref a5, .ref a6, .int (nI P), .int pa, .int kn, .ref a7, .int (nI rn), .ref a8, .ref a9, .int (nI ln), .ref a10, .int 0, .ref a11, .ref a12, .int wt, .ref a13, .ref a14, .ref a15])), (a1, .inl (cI, 12, .inl im))] H := hP
  have hD : va_D _ [(z, .inr (9, [.ref a0, .ref a1, .int (nI T), .ref a2, .ref a3, .ref a4, .ref a5, .ref a6, .int (nI P), .int pa, .int kn, .ref a7, .int (nI rn), .ref a8, .ref a9, .int (nI ln), .ref a10, .int 0, .ref a11, .ref a12, .int wt, .ref a13, .ref a14, .ref a15])), (a1, .inl (cI, 12, .inl im))] := hD
  refine lv_aload_n hx hb dX8_know_5 rfl (lv_at hl 0 rfl) ?_
  refine lv_iload_n hx hb dX8_know_6 rfl (lv_at hl 1 rfl) ?_
  refine kGoR (va_runV (As := [.int b]) (rest := []) ⟨hx, hb, hml, hown, hts⟩ (c_X8_areBits l D cI cJ cZ cO z a0 a1 a2 a3 a4 a5 a6 a7 a8 a9 a10 a11 a12 a13 a14 a15 T P pa kn rn ln 0 wt b ) (cwV 1 hts gX8_know_X8_areBits rfl rfl rfl (by decide +kernel) ⟨Nat.le_of_ble_eq_true rfl, Nat.le_of_ble_eq_true rfl⟩) (kPreVR (ci := 9) (q0 := 0) hK (kPc_sub hP [0] rfl) rfl rfl rfl) rfl rfl hl.1 rfl (lv_room (Nat.le_of_ble_eq_true rfl)) dX8_know_7 ⟨Nat.le_of_ble_eq_true rfl, Nat.le_of_ble_eq_true rfl⟩) (fun v_1 hv_1 => ?_)
  obtain rfl := hv_1
  refine W.eq (g2 := F0 m 10 ls [.int (k01 (areB T b))]) rfl ?_
  refine lv_if_ne (tgt := 15) hx hb dX8_know_10 (by decide) (fun c_10 => ?_) (fun c_10 => ?_)
  · skip
    have c_10 := k01_n c_10
    refine lv_aload_n hx hb dX8_know_15 rfl (lv_at hl 0 rfl) ?_
    refine lv_aload_n hx hb dX8_know_16 rfl (lv_at hl 0 rfl) ?_
    refine lv_iload_n hx hb dX8_know_17 rfl (lv_at hl 1 rfl) ?_
    refine kGoR (va_runV (As := [.int b]) (rest := [.ref z]) ⟨hx, hb, hml, hown, hts⟩ (c_X8_withAll l D cI cJ cZ cO z a0 a1 a2 a3 a4 a5 a6 a7 a8 a9 a10 a11 a12 a13 a14 a15 T P pa kn rn ln 0 wt im b (by first | assumption | omega | decide)) (cwV 1 hts gX8_know_X8_withAll rfl rfl rfl (by decide +kernel) ⟨Nat.le_of_ble_eq_true rfl, Nat.le_of_ble_eq_true rfl⟩) (kPreVR (ci := 9) (q0 := 0) hK (kPc_sub hP [0, 1] rfl) rfl rfl rfl) rfl rfl hl.1 rfl (lv_room (Nat.le_of_ble_eq_true rfl)) dX8_know_18 ⟨Nat.le_of_ble_eq_true rfl, Nat.le_of_ble_eq_true rfl⟩) (fun v_2 hv_2 => ?_)
    obtain rfl := hv_2
    refine W.eq (g2 := F0 m 21 ls [.int (closF im b T), .ref z]) rfl ?_
    refine va_put (D := D) (ci := 9) (v := .int (closF im b T)) (ty := .int) (C := RX8) (T := TX8) (N := 24) hx hb hts hi_X8 tyX8 tyX8_ok nmX8 hown hK.1 hP hD hS 0 rfl rfl 10 (by decide) hw_f84 (fun _ h9 => h9) rfl (by decide +kernel) rfl rfl (Nat.le_of_ble_eq_true rfl) dX8_know_21 (fun H locs hP hD hS => ?_)
    have hP : va_P D vwCl [(z, .inr (9, [.ref a0, .ref a1, .int (nI T), .ref a2, .ref a3, .ref a4, .ref a5, .ref a6, .int (nI P), .int pa, .int (closF im b T), .ref a7, .int (nI rn), .ref a8, .ref a9, .int (nI ln), .ref a10, .int 0, .ref a11, .ref a12, .int wt, .ref a13, .ref a14, .ref a15])), (a1, .inl (cI, 12, .inl im))] H := hP
    have hD : va_D _ [(z, .inr (9, [.ref a0, .ref a1, .int (nI T), .ref a2, .ref a3, .ref a4, .ref a5, .ref a6, .int (nI P), .int pa, .int (closF im b T), .ref a7, .int (nI rn), .ref a8, .ref a9, .int (nI ln), .ref a10, .int 0, .ref a11, .ref a12, .int wt, .ref a13, .ref a14, .ref a15])), (a1, .inl (cI, 12, .inl im))] := hD
    refine lv_aload_n hx hb dX8_know_24 rfl (lv_at hl 0 rfl) ?_
    refine va_get (D := D) (ci := 9) (v := .int (closF im b T)) (C := RX8) (T := TX8) (N := 24) hx hb hts hi_X8 hown hK.1 hP 0 rfl rfl 10 (by decide) hw_f84 (fun _ h9 => h9) rfl dX8_know_25 ?_
    have ew_0 : (closF im b T : Int32) = if areB T b then closF im b T else kn := by simp [c_10]
    exact kRetI hx hb hr hlk dX8_know_28 hP hD hS (Nat.le_of_ble_eq_true rfl) (Nat.le_of_ble_eq_true rfl) ⟨(kpi (by simp [c_10])), (kw1 (fun (z_0 : Int32) => ([(z, .inr (9, [.ref a0, .ref a1, .int (nI T), .ref a2, .ref a3, .ref a4, .ref a5, .ref a6, .int (nI P), .int pa, .int z_0, .ref a7, .int (nI rn), .ref a8, .ref a9, .int (nI ln), .ref a10, .int 0, .ref a11, .ref a12, .int wt, .ref a13, .ref a14, .ref a15])), (a1, .inl (cI, 12, .inl im))] : va_W)) ew_0)⟩
  · skip
    have c_10 := k01_z c_10
    refine lv_iconst (v := (-1)) hx hb dX8_know_13 (by decide) ?_
    have ew_0 : (kn : Int32) = if areB T b then closF im b T else kn := by simp [c_10]
    exact kRetI hx hb hr hlk dX8_know_14 hP hD hS (Nat.le_of_ble_eq_true rfl) (Nat.le_of_ble_eq_true rfl) ⟨(kpi (by simp [c_10])), (kw1 (fun (z_0 : Int32) => ([(z, .inr (9, [.ref a0, .ref a1, .int (nI T), .ref a2, .ref a3, .ref a4, .ref a5, .ref a6, .int (nI P), .int pa, .int z_0, .ref a7, .int (nI rn), .ref a8, .ref a9, .int (nI ln), .ref a10, .int 0, .ref a11, .ref a12, .int wt, .ref a13, .ref a14, .ref a15])), (a1, .inl (cI, 12, .inl im))] : va_W)) ew_0)⟩

set_option maxHeartbeats 4000000 in
set_option maxRecDepth 100000 in
theorem c_X8_count (l : Launch) (D : va_G) (cI cJ cZ cO : ClassId) (z : Nat) (a0 : Nat) (a1 : Nat) (a2 : Nat) (a3 : Nat) (a4 : Nat) (a5 : Nat) (a6 : Nat) (a7 : Nat) (a8 : Nat) (a9 : Nat) (a10 : Nat) (a11 : Nat) (a12 : Nat) (a13 : Nat) (a14 : Nat) (a15 : Nat) (T : Nat) (P : Nat) (pa : Int32) (kn : Int32) (rn : Nat) (ln : Nat) (th : Int32) (wt : Int32) (wo : Nat → Int32) (x : Int32) (hT : T ≤ 12) : kC l D (kTY cI cJ cZ cO) yX8_count wsX8_count 1 23 0 0 [.ref z, .int x] [(z, .inr (9, [.ref a0, .ref a1, .int (nI T), .ref a2, .ref a3, .ref a4, .ref a5, .ref a6, .int (nI P), .int pa, .int kn, .ref a7, .int (nI rn), .ref a8, .ref a9, .int (nI ln), .ref a10, .int th, .ref a11, .ref a12, .int wt, .ref a13, .ref a14, .ref a15])), (a0, .inl (cI, 12, .inl wo))] (fun rv_ rw_ => rv_ = some (.int (cntF6 x (nI T) (nI P) kn pa (worthF wo kn T) (nI rn))) ∧ rw_ = [(z, .inr (9, [.ref a0, .ref a1, .int (nI T), .ref a2, .ref a3, .ref a4, .ref a5, .ref a6, .int (nI P), .int pa, .int kn, .ref a7, .int (nI rn), .ref a8, .ref a9, .int (nI ln), .ref a10, .int 0, .ref a11, .ref a12, .int wt, .ref a13, .ref a14, .ref a15])), (a0, .inl (cI, 12, .inl wo))]) := by
  refine kEnter (cc := cX8_count) (maxL := 2) (ret := (some .int)) (by decide) rfl (Nat.le_of_ble_eq_true rfl) ?_
  intro p e s m args below meth c hx hb hr hml hts hown hlk hnm hK hP hD hS hA ls hl
  have hl : lv_has ls 2 [(0, .ref z), (1, .int x)] := hl
  have hw_f63 := hts (.fieldLink RX8 63 "WhatToReadModel" "thrown" "I") (by decide +kernel)
  have hi_X8 : ∀ w ∈ wsX80, w ∈ wsX8_count := by decide +kernel
  have hw_f66 := hts (.fieldLink RX8 66 "WhatToReadModel" "topics" "I") (by decide +kernel)
  have hw_f73 := hts (.fieldLink RX8 73 "WhatToReadModel" "pieces" "I") (by decide +kernel)
  have hw_f84 := hts (.fieldLink RX8 84 "WhatToReadModel" "known" "I") (by decide +kernel)
  have hw_f31 := hts (.fieldLink RX8 31 "WhatToReadModel" "pace" "I") (by decide +kernel)
  have hw_f90 := hts (.fieldLink RX8 90 "WhatToReadModel" "rowMany" "I") (by decide +kernel)
  refine lv_aload_n hx hb dX8_count_0 rfl (lv_at hl 0 rfl) ?_
  refine lv_iconst (v := 0) hx hb dX8_count_1 (by decide) ?_
  refine va_put (D := D) (ci := 9) (v := .int 0) (ty := .int) (C := RX8) (T := TX8) (N := 24) hx hb hts hi_X8 tyX8 tyX8_ok nmX8 hown hK.1 hP hD hS 0 rfl rfl 17 (by decide) hw_f63 (fun _ h9 => h9) rfl (by decide +kernel) rfl rfl (Nat.le_of_ble_eq_true rfl) dX8_count_2 (fun H locs hP hD hS => ?_)
  have hP : va_P D vwCl [(z, .inr (9, [.ref a0, .ref a1, .int (nI T), .ref a2, .ref a3, .ref a4, .ref a5, .ref a6, .int (nI P), .int pa, .int kn, .ref a7, .int (nI rn), .ref a8, .ref a9, .int (nI ln), .ref a10, .int 0, .ref a11, .ref a12, .int wt, .ref a13, .ref a14, .ref a15])), (a0, .inl (cI, 12, .inl wo))] H := hP
  have hD : va_D _ [(z, .inr (9, [.ref a0, .ref a1, .int (nI T), .ref a2, .ref a3, .ref a4, .ref a5, .ref a6, .int (nI P), .int pa, .int kn, .ref a7, .int (nI rn), .ref a8, .ref a9, .int (nI ln), .ref a10, .int 0, .ref a11, .ref a12, .int wt, .ref a13, .ref a14, .ref a15])), (a0, .inl (cI, 12, .inl wo))] := hD
  refine lv_iload_n hx hb dX8_count_5 rfl (lv_at hl 1 rfl) ?_
  rcases ksw6 x with ⟨c_6_o, c_6_0, c_6_1, c_6_2, c_6_3, c_6_4, c_6_5⟩ | c_6 | c_6 | c_6 | c_6 | c_6 | c_6
  · skip
    refine lv_tableOut (tgt := 78) hx hb dX8_count_6 c_6_o (by decide) ?_
    refine lv_iconst (v := (-1)) hx hb dX8_count_78 (by decide) ?_
    exact kRetI hx hb hr hlk dX8_count_79 hP hD hS (Nat.le_of_ble_eq_true rfl) (Nat.le_of_ble_eq_true rfl) ⟨(kpi (by simp [cntF6, c_6_0, c_6_1, c_6_2, c_6_3, c_6_4, c_6_5])), rfl⟩
  · skip
    refine lv_tableIn (off := 38) (tgt := 44) hx hb dX8_count_6 (by rw [c_6]; decide) (by rw [c_6]; decide) (by rw [c_6]; rfl) (by decide) ?_
    refine lv_aload_n hx hb dX8_count_44 rfl (lv_at hl 0 rfl) ?_
    refine va_get (D := D) (ci := 9) (v := .int (nI T)) (C := RX8) (T := TX8) (N := 24) hx hb hts hi_X8 hown hK.1 hP 0 rfl rfl 2 (by decide) hw_f66 (fun _ h9 => h9) rfl dX8_count_45 ?_
    exact kRetI hx hb hr hlk dX8_count_48 hP hD hS (Nat.le_of_ble_eq_true rfl) (Nat.le_of_ble_eq_true rfl) ⟨(kpi (by simp [cntF6, c_6])), rfl⟩
  · skip
    refine lv_tableIn (off := 43) (tgt := 49) hx hb dX8_count_6 (by rw [c_6]; decide) (by rw [c_6]; decide) (by rw [c_6]; rfl) (by decide) ?_
    refine lv_aload_n hx hb dX8_count_49 rfl (lv_at hl 0 rfl) ?_
    refine va_get (D := D) (ci := 9) (v := .int (nI P)) (C := RX8) (T := TX8) (N := 24) hx hb hts hi_X8 hown hK.1 hP 0 rfl rfl 8 (by decide) hw_f73 (fun _ h9 => h9) rfl dX8_count_50 ?_
    exact kRetI hx hb hr hlk dX8_count_53 hP hD hS (Nat.le_of_ble_eq_true rfl) (Nat.le_of_ble_eq_true rfl) ⟨(kpi (by simp [cntF6, c_6])), rfl⟩
  · skip
    refine lv_tableIn (off := 48) (tgt := 54) hx hb dX8_count_6 (by rw [c_6]; decide) (by rw [c_6]; decide) (by rw [c_6]; rfl) (by decide) ?_
    refine lv_aload_n hx hb dX8_count_54 rfl (lv_at hl 0 rfl) ?_
    refine va_get (D := D) (ci := 9) (v := .int kn) (C := RX8) (T := TX8) (N := 24) hx hb hts hi_X8 hown hK.1 hP 0 rfl rfl 10 (by decide) hw_f84 (fun _ h9 => h9) rfl dX8_count_55 ?_
    exact kRetI hx hb hr hlk dX8_count_58 hP hD hS (Nat.le_of_ble_eq_true rfl) (Nat.le_of_ble_eq_true rfl) ⟨(kpi (by simp [cntF6, c_6])), rfl⟩
  · skip
    refine lv_tableIn (off := 53) (tgt := 59) hx hb dX8_count_6 (by rw [c_6]; decide) (by rw [c_6]; decide) (by rw [c_6]; rfl) (by decide) ?_
    refine lv_aload_n hx hb dX8_count_59 rfl (lv_at hl 0 rfl) ?_
    refine va_get (D := D) (ci := 9) (v := .int pa) (C := RX8) (T := TX8) (N := 24) hx hb hts hi_X8 hown hK.1 hP 0 rfl rfl 9 (by decide) hw_f31 (fun _ h9 => h9) rfl dX8_count_60 ?_
    exact kRetI hx hb hr hlk dX8_count_63 hP hD hS (Nat.le_of_ble_eq_true rfl) (Nat.le_of_ble_eq_true rfl) ⟨(kpi (by simp [cntF6, c_6])), rfl⟩
  · skip
    refine lv_tableIn (off := 58) (tgt := 64) hx hb dX8_count_6 (by rw [c_6]; decide) (by rw [c_6]; decide) (by rw [c_6]; rfl) (by decide) ?_
    refine lv_aload_n hx hb dX8_count_64 rfl (lv_at hl 0 rfl) ?_
    refine lv_aload_n hx hb dX8_count_65 rfl (lv_at hl 0 rfl) ?_
    refine va_get (D := D) (ci := 9) (v := .int kn) (C := RX8) (T := TX8) (N := 24) hx hb hts hi_X8 hown hK.1 hP 0 rfl rfl 10 (by decide) hw_f84 (fun _ h9 => h9) rfl dX8_count_66 ?_
    refine kGoR (va_runV (As := [.int kn]) (rest := []) ⟨hx, hb, hml, hown, hts⟩ (c_X8_worthOf l D cI cJ cZ cO z a0 a1 a2 a3 a4 a5 a6 a7 a8 a9 a10 a11 a12 a13 a14 a15 T P pa kn rn ln 0 wt wo kn (by first | assumption | omega | decide)) (cwV 1 hts gX8_count_X8_worthOf rfl rfl rfl (by decide +kernel) ⟨Nat.le_of_ble_eq_true rfl, Nat.le_of_ble_eq_true rfl⟩) (kPreVR (ci := 9) (q0 := 0) hK (kPc_sub hP [0, 1] rfl) rfl rfl rfl) rfl rfl hl.1 rfl (lv_room (Nat.le_of_ble_eq_true rfl)) dX8_count_69 ⟨Nat.le_of_ble_eq_true rfl, Nat.le_of_ble_eq_true rfl⟩) (fun v_1 hv_1 => ?_)
    obtain rfl := hv_1
    refine W.eq (g2 := F0 m 72 ls [.int (worthF wo kn T)]) rfl ?_
    exact kRetI hx hb hr hlk dX8_count_72 hP hD hS (Nat.le_of_ble_eq_true rfl) (Nat.le_of_ble_eq_true rfl) ⟨(kpi (by simp [cntF6, c_6])), rfl⟩
  · skip
    refine lv_tableIn (off := 67) (tgt := 73) hx hb dX8_count_6 (by rw [c_6]; decide) (by rw [c_6]; decide) (by rw [c_6]; rfl) (by decide) ?_
    refine lv_aload_n hx hb dX8_count_73 rfl (lv_at hl 0 rfl) ?_
    refine va_get (D := D) (ci := 9) (v := .int (nI rn)) (C := RX8) (T := TX8) (N := 24) hx hb hts hi_X8 hown hK.1 hP 0 rfl rfl 12 (by decide) hw_f90 (fun _ h9 => h9) rfl dX8_count_74 ?_
    exact kRetI hx hb hr hlk dX8_count_77 hP hD hS (Nat.le_of_ble_eq_true rfl) (Nat.le_of_ble_eq_true rfl) ⟨(kpi (by simp [cntF6, c_6])), rfl⟩

set_option maxHeartbeats 4000000 in
set_option maxRecDepth 100000 in
theorem c_X8_with (l : Launch) (D : va_G) (cI cJ cZ cO : ClassId) (z : Nat) (a0 : Nat) (a1 : Nat) (a2 : Nat) (a3 : Nat) (a4 : Nat) (a5 : Nat) (a6 : Nat) (a7 : Nat) (a8 : Nat) (a9 : Nat) (a10 : Nat) (a11 : Nat) (a12 : Nat) (a13 : Nat) (a14 : Nat) (a15 : Nat) (T : Nat) (P : Nat) (pa : Int32) (kn : Int32) (rn : Nat) (ln : Nat) (th : Int32) (wt : Int32) (im : Nat → Int32) (b : Int32) (hT : T ≤ 12) : kC l D (kTY cI cJ cZ cO) yX8_with wsX8_with 2 43 0 0 [.ref z, .int b] [(z, .inr (9, [.ref a0, .ref a1, .int (nI T), .ref a2, .ref a3, .ref a4, .ref a5, .ref a6, .int (nI P), .int pa, .int kn, .ref a7, .int (nI rn), .ref a8, .ref a9, .int (nI ln), .ref a10, .int th, .ref a11, .ref a12, .int wt, .ref a13, .ref a14, .ref a15])), (a1, .inl (cI, 12, .inl im))] (fun rv_ rw_ => rv_ = some (.int (if areB T b then closF im b T else -1)) ∧ rw_ = [(z, .inr (9, [.ref a0, .ref a1, .int (nI T), .ref a2, .ref a3, .ref a4, .ref a5, .ref a6, .int (nI P), .int pa, .int kn, .ref a7, .int (nI rn), .ref a8, .ref a9, .int (nI ln), .ref a10, .int 0, .ref a11, .ref a12, .int wt, .ref a13, .ref a14, .ref a15])), (a1, .inl (cI, 12, .inl im))]) := by
  refine kEnter (cc := cX8_with) (maxL := 2) (ret := (some .int)) (by decide) rfl (Nat.le_of_ble_eq_true rfl) ?_
  intro p e s m args below meth c hx hb hr hml hts hown hlk hnm hK hP hD hS hA ls hl
  have hl : lv_has ls 2 [(0, .ref z), (1, .int b)] := hl
  have hw_f63 := hts (.fieldLink RX8 63 "WhatToReadModel" "thrown" "I") (by decide +kernel)
  have hi_X8 : ∀ w ∈ wsX80, w ∈ wsX8_with := by decide +kernel
  refine lv_aload_n hx hb dX8_with_0 rfl (lv_at hl 0 rfl) ?_
  refine lv_iconst (v := 0) hx hb dX8_with_1 (by decide) ?_
  refine va_put (D := D) (ci := 9) (v := .int 0) (ty := .int) (C := RX8) (T := TX8) (N := 24) hx hb hts hi_X8 tyX8 tyX8_ok nmX8 hown hK.1 hP hD hS 0 rfl rfl 17 (by decide) hw_f63 (fun _ h9 => h9) rfl (by decide +kernel) rfl rfl (Nat.le_of_ble_eq_true rfl) dX8_with_2 (fun H locs hP hD hS => ?_)
  have hP : va_P D vwCl [(z, .inr (9, [.ref a0, .ref a1, .int (nI T), .ref a2, .ref a3, .ref a4, .ref a5, .ref a6, .int (nI P), .int pa, .int kn, .ref a7, .int (nI rn), .ref a8, .ref a9, .int (nI ln), .ref a10, .int 0, .ref a11, .ref a12, .int wt, .ref a13, .ref a14, .ref a15])), (a1, .inl (cI, 12, .inl im))] H := hP
  have hD : va_D _ [(z, .inr (9, [.ref a0, .ref a1, .int (nI T), .ref a2, .ref a3, .ref a4, .ref a5, .ref a6, .int (nI P), .int pa, .int kn, .ref a7, .int (nI rn), .ref a8, .ref a9, .int (nI ln), .ref a10, .int 0, .ref a11, .ref a12, .int wt, .ref a13, .ref a14, .ref a15])), (a1, .inl (cI, 12, .inl im))] := hD
  refine lv_aload_n hx hb dX8_with_5 rfl (lv_at hl 0 rfl) ?_
  refine lv_iload_n hx hb dX8_with_6 rfl (lv_at hl 1 rfl) ?_
  refine kGoR (va_runV (As := [.int b]) (rest := []) ⟨hx, hb, hml, hown, hts⟩ (c_X8_areBits l D cI cJ cZ cO z a0 a1 a2 a3 a4 a5 a6 a7 a8 a9 a10 a11 a12 a13 a14 a15 T P pa kn rn ln 0 wt b ) (cwV 1 hts gX8_with_X8_areBits rfl rfl rfl (by decide +kernel) ⟨Nat.le_of_ble_eq_true rfl, Nat.le_of_ble_eq_true rfl⟩) (kPreVR (ci := 9) (q0 := 0) hK (kPc_sub hP [0] rfl) rfl rfl rfl) rfl rfl hl.1 rfl (lv_room (Nat.le_of_ble_eq_true rfl)) dX8_with_7 ⟨Nat.le_of_ble_eq_true rfl, Nat.le_of_ble_eq_true rfl⟩) (fun v_1 hv_1 => ?_)
  obtain rfl := hv_1
  refine W.eq (g2 := F0 m 10 ls [.int (k01 (areB T b))]) rfl ?_
  refine lv_if_eq (tgt := 21) hx hb dX8_with_10 (by decide) (fun c_10 => ?_) (fun c_10 => ?_)
  · skip
    have c_10 := k01_z c_10
    refine lv_iconst (v := (-1)) hx hb dX8_with_21 (by decide) ?_
    exact kRetI hx hb hr hlk dX8_with_22 hP hD hS (Nat.le_of_ble_eq_true rfl) (Nat.le_of_ble_eq_true rfl) ⟨(kpi (by simp [c_10])), rfl⟩
  · skip
    have c_10 := k01_n c_10
    refine lv_aload_n hx hb dX8_with_13 rfl (lv_at hl 0 rfl) ?_
    refine lv_iload_n hx hb dX8_with_14 rfl (lv_at hl 1 rfl) ?_
    refine kGoR (va_runV (As := [.int b]) (rest := []) ⟨hx, hb, hml, hown, hts⟩ (c_X8_withAll l D cI cJ cZ cO z a0 a1 a2 a3 a4 a5 a6 a7 a8 a9 a10 a11 a12 a13 a14 a15 T P pa kn rn ln 0 wt im b (by first | assumption | omega | decide)) (cwV 1 hts gX8_with_X8_withAll rfl rfl rfl (by decide +kernel) ⟨Nat.le_of_ble_eq_true rfl, Nat.le_of_ble_eq_true rfl⟩) (kPreVR (ci := 9) (q0 := 0) hK (kPc_sub hP [0, 1] rfl) rfl rfl rfl) rfl rfl hl.1 rfl (lv_room (Nat.le_of_ble_eq_true rfl)) dX8_with_15 ⟨Nat.le_of_ble_eq_true rfl, Nat.le_of_ble_eq_true rfl⟩) (fun v_2 hv_2 => ?_)
    obtain rfl := hv_2
    refine W.eq (g2 := F0 m 18 ls [.int (closF im b T)]) rfl ?_
    refine lv_goto (tgt := 22) hx hb dX8_with_18 (by decide) ?_
    exact kRetI hx hb hr hlk dX8_with_22 hP hD hS (Nat.le_of_ble_eq_true rfl) (Nat.le_of_ble_eq_true rfl) ⟨(kpi (by simp [c_10])), rfl⟩

set_option maxHeartbeats 4000000 in
set_option maxRecDepth 100000 in
theorem c_X8_minutes (l : Launch) (D : va_G) (cI cJ cZ cO : ClassId) (z : Nat) (a0 : Nat) (a1 : Nat) (a2 : Nat) (a3 : Nat) (a4 : Nat) (a5 : Nat) (a6 : Nat) (a7 : Nat) (a8 : Nat) (a9 : Nat) (a10 : Nat) (a11 : Nat) (a12 : Nat) (a13 : Nat) (a14 : Nat) (a15 : Nat) (T : Nat) (P : Nat) (pa : Int32) (kn : Int32) (rn : Nat) (ln : Nat) (th : Int32) (wt : Int32) (pg : Nat → Int32) (x : Int32) (hP14 : P ≤ 14) : kC l D (kTY cI cJ cZ cO) yX8_minutes wsX8_minutes 2 43 0 0 [.ref z, .int x] [(z, .inr (9, [.ref a0, .ref a1, .int (nI T), .ref a2, .ref a3, .ref a4, .ref a5, .ref a6, .int (nI P), .int pa, .int kn, .ref a7, .int (nI rn), .ref a8, .ref a9, .int (nI ln), .ref a10, .int th, .ref a11, .ref a12, .int wt, .ref a13, .ref a14, .ref a15])), (a6, .inl (cI, 14, .inl pg))] (fun rv_ rw_ => rv_ = some (.int (if stpB P x then mtimeF pg pa x.toNatClampNeg else -1)) ∧ rw_ = [(z, .inr (9, [.ref a0, .ref a1, .int (nI T), .ref a2, .ref a3, .ref a4, .ref a5, .ref a6, .int (nI P), .int pa, .int kn, .ref a7, .int (nI rn), .ref a8, .ref a9, .int (nI ln), .ref a10, .int 0, .ref a11, .ref a12, .int wt, .ref a13, .ref a14, .ref a15])), (a6, .inl (cI, 14, .inl pg))]) := by
  refine kEnter (cc := cX8_minutes) (maxL := 2) (ret := (some .int)) (by decide) rfl (Nat.le_of_ble_eq_true rfl) ?_
  intro p e s m args below meth c hx hb hr hml hts hown hlk hnm hK hP hD hS hA ls hl
  have hl : lv_has ls 2 [(0, .ref z), (1, .int x)] := hl
  have hw_f63 := hts (.fieldLink RX8 63 "WhatToReadModel" "thrown" "I") (by decide +kernel)
  have hi_X8 : ∀ w ∈ wsX80, w ∈ wsX8_minutes := by decide +kernel
  refine lv_aload_n hx hb dX8_minutes_0 rfl (lv_at hl 0 rfl) ?_
  refine lv_iconst (v := 0) hx hb dX8_minutes_1 (by decide) ?_
  refine va_put (D := D) (ci := 9) (v := .int 0) (ty := .int) (C := RX8) (T := TX8) (N := 24) hx hb hts hi_X8 tyX8 tyX8_ok nmX8 hown hK.1 hP hD hS 0 rfl rfl 17 (by decide) hw_f63 (fun _ h9 => h9) rfl (by decide +kernel) rfl rfl (Nat.le_of_ble_eq_true rfl) dX8_minutes_2 (fun H locs hP hD hS => ?_)
  have hP : va_P D vwCl [(z, .inr (9, [.ref a0, .ref a1, .int (nI T), .ref a2, .ref a3, .ref a4, .ref a5, .ref a6, .int (nI P), .int pa, .int kn, .ref a7, .int (nI rn), .ref a8, .ref a9, .int (nI ln), .ref a10, .int 0, .ref a11, .ref a12, .int wt, .ref a13, .ref a14, .ref a15])), (a6, .inl (cI, 14, .inl pg))] H := hP
  have hD : va_D _ [(z, .inr (9, [.ref a0, .ref a1, .int (nI T), .ref a2, .ref a3, .ref a4, .ref a5, .ref a6, .int (nI P), .int pa, .int kn, .ref a7, .int (nI rn), .ref a8, .ref a9, .int (nI ln), .ref a10, .int 0, .ref a11, .ref a12, .int wt, .ref a13, .ref a14, .ref a15])), (a6, .inl (cI, 14, .inl pg))] := hD
  refine lv_aload_n hx hb dX8_minutes_5 rfl (lv_at hl 0 rfl) ?_
  refine lv_iload_n hx hb dX8_minutes_6 rfl (lv_at hl 1 rfl) ?_
  refine kGoR (va_runV (As := [.int x]) (rest := []) ⟨hx, hb, hml, hown, hts⟩ (c_X8_isStep l D cI cJ cZ cO z a0 a1 a2 a3 a4 a5 a6 a7 a8 a9 a10 a11 a12 a13 a14 a15 T P pa kn rn ln 0 wt x ) (cwV 1 hts gX8_minutes_X8_isStep rfl rfl rfl (by decide +kernel) ⟨Nat.le_of_ble_eq_true rfl, Nat.le_of_ble_eq_true rfl⟩) (kPreVR (ci := 9) (q0 := 0) hK (kPc_sub hP [0] rfl) rfl rfl rfl) rfl rfl hl.1 rfl (lv_room (Nat.le_of_ble_eq_true rfl)) dX8_minutes_7 ⟨Nat.le_of_ble_eq_true rfl, Nat.le_of_ble_eq_true rfl⟩) (fun v_1 hv_1 => ?_)
  obtain rfl := hv_1
  refine W.eq (g2 := F0 m 10 ls [.int (k01 (stpB P x))]) rfl ?_
  refine lv_if_eq (tgt := 21) hx hb dX8_minutes_10 (by decide) (fun c_10 => ?_) (fun c_10 => ?_)
  · skip
    have c_10 := k01_z c_10
    refine lv_iconst (v := (-1)) hx hb dX8_minutes_21 (by decide) ?_
    exact kRetI hx hb hr hlk dX8_minutes_22 hP hD hS (Nat.le_of_ble_eq_true rfl) (Nat.le_of_ble_eq_true rfl) ⟨(kpi (by first | (simp [c_10]; done) | (rw [c_ek]; simp [c_10]; done))), rfl⟩
  · skip
    have c_10 := k01_n c_10
    obtain ⟨k, hk, c_ek⟩ := kstpB hP14 c_10
    have c_kk : stpB P (nI k) = true := by rw [← c_ek]; exact c_10
    have c_kc : (nI k).toNatClampNeg = k := nI_clamp (by omega)
    refine lv_aload_n hx hb dX8_minutes_13 rfl (lv_at hl 0 rfl) ?_
    refine lv_iload_n hx hb dX8_minutes_14 rfl (lv_at hl 1 rfl) ?_
    refine lv_topi (fun nv_2 ev_2 => ?_)
    obtain rfl : nv_2 = nI k := ev_2.trans (c_ek)
    refine kGoR (va_runV (As := [.int (nI k)]) (rest := []) ⟨hx, hb, hml, hown, hts⟩ (c_X8_time l D cI cJ cZ cO z a0 a1 a2 a3 a4 a5 a6 a7 a8 a9 a10 a11 a12 a13 a14 a15 T P pa kn rn ln 0 wt pg k (by first | assumption | omega | decide)) (cwV 1 hts gX8_minutes_X8_time rfl rfl rfl (by decide +kernel) ⟨Nat.le_of_ble_eq_true rfl, Nat.le_of_ble_eq_true rfl⟩) (kPreVR (ci := 9) (q0 := 0) hK (kPc_sub hP [0, 1] rfl) rfl rfl rfl) rfl rfl hl.1 rfl (lv_room (Nat.le_of_ble_eq_true rfl)) dX8_minutes_15 ⟨Nat.le_of_ble_eq_true rfl, Nat.le_of_ble_eq_true rfl⟩) (fun v_3 hv_3 => ?_)
    obtain rfl := hv_3
    refine W.eq (g2 := F0 m 18 ls [.int (mtimeF pg pa k)]) rfl ?_
    refine lv_goto (tgt := 22) hx hb dX8_minutes_18 (by decide) ?_
    exact kRetI hx hb hr hlk dX8_minutes_22 hP hD hS (Nat.le_of_ble_eq_true rfl) (Nat.le_of_ble_eq_true rfl) ⟨(kpi (by first | (simp [c_10, c_ek, c_kk, c_kc]; done) | (rw [c_ek]; simp [c_10, c_ek, c_kk, c_kc]; done))), rfl⟩

set_option maxHeartbeats 4000000 in
set_option maxRecDepth 100000 in
theorem c_X8_can (l : Launch) (D : va_G) (cI cJ cZ cO : ClassId) (z : Nat) (a0 : Nat) (a1 : Nat) (a2 : Nat) (a3 : Nat) (a4 : Nat) (a5 : Nat) (a6 : Nat) (a7 : Nat) (a8 : Nat) (a9 : Nat) (a10 : Nat) (a11 : Nat) (a12 : Nat) (a13 : Nat) (a14 : Nat) (a15 : Nat) (T : Nat) (P : Nat) (pa : Int32) (kn : Int32) (rn : Nat) (ln : Nat) (th : Int32) (wt : Int32) (ne : Nat → Int32) (ei : Nat → Int32) (x : Int32) (hP14 : P ≤ 14) : kC l D (kTY cI cJ cZ cO) yX8_can wsX8_can 2 43 0 0 [.ref z, .int x] [(z, .inr (9, [.ref a0, .ref a1, .int (nI T), .ref a2, .ref a3, .ref a4, .ref a5, .ref a6, .int (nI P), .int pa, .int kn, .ref a7, .int (nI rn), .ref a8, .ref a9, .int (nI ln), .ref a10, .int th, .ref a11, .ref a12, .int wt, .ref a13, .ref a14, .ref a15])), (a2, .inl (cI, 14, .inl ne)), (a3, .inl (cI, 14, .inl ei))] (fun rv_ rw_ => rv_ = some (.int (if stpB P x then k01 (canB ne ei x.toNatClampNeg kn) else -1)) ∧ rw_ = [(z, .inr (9, [.ref a0, .ref a1, .int (nI T), .ref a2, .ref a3, .ref a4, .ref a5, .ref a6, .int (nI P), .int pa, .int kn, .ref a7, .int (nI rn), .ref a8, .ref a9, .int (nI ln), .ref a10, .int 0, .ref a11, .ref a12, .int wt, .ref a13, .ref a14, .ref a15])), (a2, .inl (cI, 14, .inl ne)), (a3, .inl (cI, 14, .inl ei))]) := by
  refine kEnter (cc := cX8_can) (maxL := 2) (ret := (some .int)) (by decide) rfl (Nat.le_of_ble_eq_true rfl) ?_
  intro p e s m args below meth c hx hb hr hml hts hown hlk hnm hK hP hD hS hA ls hl
  have hl : lv_has ls 2 [(0, .ref z), (1, .int x)] := hl
  have hw_f63 := hts (.fieldLink RX8 63 "WhatToReadModel" "thrown" "I") (by decide +kernel)
  have hi_X8 : ∀ w ∈ wsX80, w ∈ wsX8_can := by decide +kernel
  have hw_f84 := hts (.fieldLink RX8 84 "WhatToReadModel" "known" "I") (by decide +kernel)
  refine lv_aload_n hx hb dX8_can_0 rfl (lv_at hl 0 rfl) ?_
  refine lv_iconst (v := 0) hx hb dX8_can_1 (by decide) ?_
  refine va_put (D := D) (ci := 9) (v := .int 0) (ty := .int) (C := RX8) (T := TX8) (N := 24) hx hb hts hi_X8 tyX8 tyX8_ok nmX8 hown hK.1 hP hD hS 0 rfl rfl 17 (by decide) hw_f63 (fun _ h9 => h9) rfl (by decide +kernel) rfl rfl (Nat.le_of_ble_eq_true rfl) dX8_can_2 (fun H locs hP hD hS => ?_)
  have hP : va_P D vwCl [(z, .inr (9, [.ref a0, .ref a1, .int (nI T), .ref a2, .ref a3, .ref a4, .ref a5, .ref a6, .int (nI P), .int pa, .int kn, .ref a7, .int (nI rn), .ref a8, .ref a9, .int (nI ln), .ref a10, .int 0, .ref a11, .ref a12, .int wt, .ref a13, .ref a14, .ref a15])), (a2, .inl (cI, 14, .inl ne)), (a3, .inl (cI, 14, .inl ei))] H := hP
  have hD : va_D _ [(z, .inr (9, [.ref a0, .ref a1, .int (nI T), .ref a2, .ref a3, .ref a4, .ref a5, .ref a6, .int (nI P), .int pa, .int kn, .ref a7, .int (nI rn), .ref a8, .ref a9, .int (nI ln), .ref a10, .int 0, .ref a11, .ref a12, .int wt, .ref a13, .ref a14, .ref a15])), (a2, .inl (cI, 14, .inl ne)), (a3, .inl (cI, 14, .inl ei))] := hD
  refine lv_aload_n hx hb dX8_can_5 rfl (lv_at hl 0 rfl) ?_
  refine lv_iload_n hx hb dX8_can_6 rfl (lv_at hl 1 rfl) ?_
  refine kGoR (va_runV (As := [.int x]) (rest := []) ⟨hx, hb, hml, hown, hts⟩ (c_X8_isStep l D cI cJ cZ cO z a0 a1 a2 a3 a4 a5 a6 a7 a8 a9 a10 a11 a12 a13 a14 a15 T P pa kn rn ln 0 wt x ) (cwV 1 hts gX8_can_X8_isStep rfl rfl rfl (by decide +kernel) ⟨Nat.le_of_ble_eq_true rfl, Nat.le_of_ble_eq_true rfl⟩) (kPreVR (ci := 9) (q0 := 0) hK (kPc_sub hP [0] rfl) rfl rfl rfl) rfl rfl hl.1 rfl (lv_room (Nat.le_of_ble_eq_true rfl)) dX8_can_7 ⟨Nat.le_of_ble_eq_true rfl, Nat.le_of_ble_eq_true rfl⟩) (fun v_1 hv_1 => ?_)
  obtain rfl := hv_1
  refine W.eq (g2 := F0 m 10 ls [.int (k01 (stpB P x))]) rfl ?_
  refine lv_if_eq (tgt := 33) hx hb dX8_can_10 (by decide) (fun c_10 => ?_) (fun c_10 => ?_)
  · skip
    have c_10 := k01_z c_10
    refine lv_iconst (v := (-1)) hx hb dX8_can_33 (by decide) ?_
    exact kRetI hx hb hr hlk dX8_can_34 hP hD hS (Nat.le_of_ble_eq_true rfl) (Nat.le_of_ble_eq_true rfl) ⟨(kpi (by first | (simp [k01, c_10]; done) | (rw [c_ek]; simp [k01, c_10]; done))), rfl⟩
  · skip
    have c_10 := k01_n c_10
    obtain ⟨k, hk, c_ek⟩ := kstpB hP14 c_10
    have c_kk : stpB P (nI k) = true := by rw [← c_ek]; exact c_10
    have c_kc : (nI k).toNatClampNeg = k := nI_clamp (by omega)
    refine lv_aload_n hx hb dX8_can_13 rfl (lv_at hl 0 rfl) ?_
    refine lv_iload_n hx hb dX8_can_14 rfl (lv_at hl 1 rfl) ?_
    refine lv_topi (fun nv_2 ev_2 => ?_)
    obtain rfl : nv_2 = nI k := ev_2.trans (c_ek)
    refine lv_aload_n hx hb dX8_can_15 rfl (lv_at hl 0 rfl) ?_
    refine va_get (D := D) (ci := 9) (v := .int kn) (C := RX8) (T := TX8) (N := 24) hx hb hts hi_X8 hown hK.1 hP 0 rfl rfl 10 (by decide) hw_f84 (fun _ h9 => h9) rfl dX8_can_16 ?_
    refine kGoR (va_runV (As := [.int (nI k), .int kn]) (rest := []) ⟨hx, hb, hml, hown, hts⟩ (c_X8_canDo l D cI cJ cZ cO z a0 a1 a2 a3 a4 a5 a6 a7 a8 a9 a10 a11 a12 a13 a14 a15 T P pa kn rn ln 0 wt ne ei k kn (by first | assumption | omega | decide)) (cwV 2 hts gX8_can_X8_canDo rfl rfl rfl (by decide +kernel) ⟨Nat.le_of_ble_eq_true rfl, Nat.le_of_ble_eq_true rfl⟩) (kPreVR (ci := 9) (q0 := 0) hK (kPc_sub hP [0, 1, 2] rfl) rfl rfl rfl) rfl rfl hl.1 rfl (lv_room (Nat.le_of_ble_eq_true rfl)) dX8_can_19 ⟨Nat.le_of_ble_eq_true rfl, Nat.le_of_ble_eq_true rfl⟩) (fun v_3 hv_3 => ?_)
    obtain rfl := hv_3
    refine W.eq (g2 := F0 m 22 ls [.int (k01 (canB ne ei k kn))]) rfl ?_
    refine lv_if_eq (tgt := 29) hx hb dX8_can_22 (by decide) (fun c_22 => ?_) (fun c_22 => ?_)
    · skip
      have c_22 := k01_z c_22
      refine lv_iconst (v := 0) hx hb dX8_can_29 (by decide) ?_
      refine lv_goto (tgt := 34) hx hb dX8_can_30 (by decide) ?_
      exact kRetI hx hb hr hlk dX8_can_34 hP hD hS (Nat.le_of_ble_eq_true rfl) (Nat.le_of_ble_eq_true rfl) ⟨(kpi (by first | (simp [k01, c_10, c_ek, c_kk, c_kc, c_22]; done) | (rw [c_ek]; simp [k01, c_10, c_ek, c_kk, c_kc, c_22]; done))), rfl⟩
    · skip
      have c_22 := k01_n c_22
      refine lv_iconst (v := 1) hx hb dX8_can_25 (by decide) ?_
      refine lv_goto (tgt := 34) hx hb dX8_can_26 (by decide) ?_
      exact kRetI hx hb hr hlk dX8_can_34 hP hD hS (Nat.le_of_ble_eq_true rfl) (Nat.le_of_ble_eq_true rfl) ⟨(kpi (by first | (simp [k01, c_10, c_ek, c_kk, c_kc, c_22]; done) | (rw [c_ek]; simp [k01, c_10, c_ek, c_kk, c_kc, c_22]; done))), rfl⟩

set_option maxHeartbeats 4000000 in
set_option maxRecDepth 100000 in
theorem c_X8_done (l : Launch) (D : va_G) (cI cJ cZ cO : ClassId) (z : Nat) (a0 : Nat) (a1 : Nat) (a2 : Nat) (a3 : Nat) (a4 : Nat) (a5 : Nat) (a6 : Nat) (a7 : Nat) (a8 : Nat) (a9 : Nat) (a10 : Nat) (a11 : Nat) (a12 : Nat) (a13 : Nat) (a14 : Nat) (a15 : Nat) (T : Nat) (P : Nat) (pa : Int32) (kn : Int32) (rn : Nat) (ln : Nat) (th : Int32) (wt : Int32) (ne : Nat → Int32) (ei : Nat → Int32) (im : Nat → Int32) (gi : Nat → Int32) (sk : Nat → Int32) (x : Int32) (hT : T ≤ 12) (hP14 : P ≤ 14) : kC l D (kTY cI cJ cZ cO) yX8_done wsX8_done 2 45 0 0 [.ref z, .int x] [(z, .inr (9, [.ref a0, .ref a1, .int (nI T), .ref a2, .ref a3, .ref a4, .ref a5, .ref a6, .int (nI P), .int pa, .int kn, .ref a7, .int (nI rn), .ref a8, .ref a9, .int (nI ln), .ref a10, .int th, .ref a11, .ref a12, .int wt, .ref a13, .ref a14, .ref a15])), (a2, .inl (cI, 14, .inl ne)), (a3, .inl (cI, 14, .inl ei)), (a1, .inl (cI, 12, .inl im)), (a4, .inl (cI, 14, .inl gi)), (a5, .inl (cI, 14, .inl sk))] (fun rv_ rw_ => rv_ = some (.int (if stpB P x && canB ne ei x.toNatClampNeg kn then bhF im gi sk T x.toNatClampNeg kn else -1)) ∧ rw_ = [(z, .inr (9, [.ref a0, .ref a1, .int (nI T), .ref a2, .ref a3, .ref a4, .ref a5, .ref a6, .int (nI P), .int pa, .int (if stpB P x && canB ne ei x.toNatClampNeg kn then bhF im gi sk T x.toNatClampNeg kn else kn), .ref a7, .int (nI rn), .ref a8, .ref a9, .int (nI ln), .ref a10, .int 0, .ref a11, .ref a12, .int wt, .ref a13, .ref a14, .ref a15])), (a2, .inl (cI, 14, .inl ne)), (a3, .inl (cI, 14, .inl ei)), (a1, .inl (cI, 12, .inl im)), (a4, .inl (cI, 14, .inl gi)), (a5, .inl (cI, 14, .inl sk))]) := by
  refine kEnter (cc := cX8_done) (maxL := 2) (ret := (some .int)) (by decide) rfl (Nat.le_of_ble_eq_true rfl) ?_
  intro p e s m args below meth c hx hb hr hml hts hown hlk hnm hK hP hD hS hA ls hl
  have hl : lv_has ls 2 [(0, .ref z), (1, .int x)] := hl
  have hw_f63 := hts (.fieldLink RX8 63 "WhatToReadModel" "thrown" "I") (by decide +kernel)
  have hi_X8 : ∀ w ∈ wsX80, w ∈ wsX8_done := by decide +kernel
  have hw_f84 := hts (.fieldLink RX8 84 "WhatToReadModel" "known" "I") (by decide +kernel)
  refine lv_aload_n hx hb dX8_done_0 rfl (lv_at hl 0 rfl) ?_
  refine lv_iconst (v := 0) hx hb dX8_done_1 (by decide) ?_
  refine va_put (D := D) (ci := 9) (v := .int 0) (ty := .int) (C := RX8) (T := TX8) (N := 24) hx hb hts hi_X8 tyX8 tyX8_ok nmX8 hown hK.1 hP hD hS 0 rfl rfl 17 (by decide) hw_f63 (fun _ h9 => h9) rfl (by decide +kernel) rfl rfl (Nat.le_of_ble_eq_true rfl) dX8_done_2 (fun H locs hP hD hS => ?_)
  have hP : va_P D vwCl [(z, .inr (9, [.ref a0, .ref a1, .int (nI T), .ref a2, .ref a3, .ref a4, .ref a5, .ref a6, .int (nI P), .int pa, .int kn, .ref a7, .int (nI rn), .ref a8, .ref a9, .int (nI ln), .ref a10, .int 0, .ref a11, .ref a12, .int wt, .ref a13, .ref a14, .ref a15])), (a2, .inl (cI, 14, .inl ne)), (a3, .inl (cI, 14, .inl ei)), (a1, .inl (cI, 12, .inl im)), (a4, .inl (cI, 14, .inl gi)), (a5, .inl (cI, 14, .inl sk))] H := hP
  have hD : va_D _ [(z, .inr (9, [.ref a0, .ref a1, .int (nI T), .ref a2, .ref a3, .ref a4, .ref a5, .ref a6, .int (nI P), .int pa, .int kn, .ref a7, .int (nI rn), .ref a8, .ref a9, .int (nI ln), .ref a10, .int 0, .ref a11, .ref a12, .int wt, .ref a13, .ref a14, .ref a15])), (a2, .inl (cI, 14, .inl ne)), (a3, .inl (cI, 14, .inl ei)), (a1, .inl (cI, 12, .inl im)), (a4, .inl (cI, 14, .inl gi)), (a5, .inl (cI, 14, .inl sk))] := hD
  refine lv_aload_n hx hb dX8_done_5 rfl (lv_at hl 0 rfl) ?_
  refine lv_iload_n hx hb dX8_done_6 rfl (lv_at hl 1 rfl) ?_
  refine kGoR (va_runV (As := [.int x]) (rest := []) ⟨hx, hb, hml, hown, hts⟩ (c_X8_isStep l D cI cJ cZ cO z a0 a1 a2 a3 a4 a5 a6 a7 a8 a9 a10 a11 a12 a13 a14 a15 T P pa kn rn ln 0 wt x ) (cwV 1 hts gX8_done_X8_isStep rfl rfl rfl (by decide +kernel) ⟨Nat.le_of_ble_eq_true rfl, Nat.le_of_ble_eq_true rfl⟩) (kPreVR (ci := 9) (q0 := 0) hK (kPc_sub hP [0] rfl) rfl rfl rfl) rfl rfl hl.1 rfl (lv_room (Nat.le_of_ble_eq_true rfl)) dX8_done_7 ⟨Nat.le_of_ble_eq_true rfl, Nat.le_of_ble_eq_true rfl⟩) (fun v_1 hv_1 => ?_)
  obtain rfl := hv_1
  refine W.eq (g2 := F0 m 10 ls [.int (k01 (stpB P x))]) rfl ?_
  refine lv_if_eq (tgt := 25) hx hb dX8_done_10 (by decide) (fun c_10 => ?_) (fun c_10 => ?_)
  · skip
    have c_10 := k01_z c_10
    refine lv_iconst (v := (-1)) hx hb dX8_done_25 (by decide) ?_
    have ew_0 : (kn : Int32) = if stpB P x && canB ne ei x.toNatClampNeg kn then bhF im gi sk T x.toNatClampNeg kn else kn := by first | (simp [c_10]; done) | (rw [c_ek]; simp [c_10]; done)
    exact kRetI hx hb hr hlk dX8_done_26 hP hD hS (Nat.le_of_ble_eq_true rfl) (Nat.le_of_ble_eq_true rfl) ⟨(kpi (by first | (simp [c_10]; done) | (rw [c_ek]; simp [c_10]; done))), (kw1 (fun (z_0 : Int32) => ([(z, .inr (9, [.ref a0, .ref a1, .int (nI T), .ref a2, .ref a3, .ref a4, .ref a5, .ref a6, .int (nI P), .int pa, .int z_0, .ref a7, .int (nI rn), .ref a8, .ref a9, .int (nI ln), .ref a10, .int 0, .ref a11, .ref a12, .int wt, .ref a13, .ref a14, .ref a15])), (a2, .inl (cI, 14, .inl ne)), (a3, .inl (cI, 14, .inl ei)), (a1, .inl (cI, 12, .inl im)), (a4, .inl (cI, 14, .inl gi)), (a5, .inl (cI, 14, .inl sk))] : va_W)) ew_0)⟩
  · skip
    have c_10 := k01_n c_10
    obtain ⟨k, hk, c_ek⟩ := kstpB hP14 c_10
    have c_kk : stpB P (nI k) = true := by rw [← c_ek]; exact c_10
    have c_kc : (nI k).toNatClampNeg = k := nI_clamp (by omega)
    refine lv_aload_n hx hb dX8_done_13 rfl (lv_at hl 0 rfl) ?_
    refine lv_iload_n hx hb dX8_done_14 rfl (lv_at hl 1 rfl) ?_
    refine lv_topi (fun nv_2 ev_2 => ?_)
    obtain rfl : nv_2 = nI k := ev_2.trans (c_ek)
    refine lv_aload_n hx hb dX8_done_15 rfl (lv_at hl 0 rfl) ?_
    refine va_get (D := D) (ci := 9) (v := .int kn) (C := RX8) (T := TX8) (N := 24) hx hb hts hi_X8 hown hK.1 hP 0 rfl rfl 10 (by decide) hw_f84 (fun _ h9 => h9) rfl dX8_done_16 ?_
    refine kGoR (va_runV (As := [.int (nI k), .int kn]) (rest := []) ⟨hx, hb, hml, hown, hts⟩ (c_X8_canDo l D cI cJ cZ cO z a0 a1 a2 a3 a4 a5 a6 a7 a8 a9 a10 a11 a12 a13 a14 a15 T P pa kn rn ln 0 wt ne ei k kn (by first | assumption | omega | decide)) (cwV 2 hts gX8_done_X8_canDo rfl rfl rfl (by decide +kernel) ⟨Nat.le_of_ble_eq_true rfl, Nat.le_of_ble_eq_true rfl⟩) (kPreVR (ci := 9) (q0 := 0) hK (kPc_sub hP [0, 1, 2] rfl) rfl rfl rfl) rfl rfl hl.1 rfl (lv_room (Nat.le_of_ble_eq_true rfl)) dX8_done_19 ⟨Nat.le_of_ble_eq_true rfl, Nat.le_of_ble_eq_true rfl⟩) (fun v_3 hv_3 => ?_)
    obtain rfl := hv_3
    refine W.eq (g2 := F0 m 22 ls [.int (k01 (canB ne ei k kn))]) rfl ?_
    refine lv_if_ne (tgt := 27) hx hb dX8_done_22 (by decide) (fun c_22 => ?_) (fun c_22 => ?_)
    · skip
      have c_22 := k01_n c_22
      refine lv_aload_n hx hb dX8_done_27 rfl (lv_at hl 0 rfl) ?_
      refine lv_aload_n hx hb dX8_done_28 rfl (lv_at hl 0 rfl) ?_
      refine lv_iload_n hx hb dX8_done_29 rfl (lv_at hl 1 rfl) ?_
      refine lv_topi (fun nv_4 ev_4 => ?_)
      obtain rfl : nv_4 = nI k := ev_4.trans (c_ek)
      refine lv_aload_n hx hb dX8_done_30 rfl (lv_at hl 0 rfl) ?_
      refine va_get (D := D) (ci := 9) (v := .int kn) (C := RX8) (T := TX8) (N := 24) hx hb hts hi_X8 hown hK.1 hP 0 rfl rfl 10 (by decide) hw_f84 (fun _ h9 => h9) rfl dX8_done_31 ?_
      refine kGoR (va_runV (As := [.int (nI k), .int kn]) (rest := [.ref z]) ⟨hx, hb, hml, hown, hts⟩ (c_X8_behind l D cI cJ cZ cO z a0 a1 a2 a3 a4 a5 a6 a7 a8 a9 a10 a11 a12 a13 a14 a15 T P pa kn rn ln 0 wt im gi sk k kn (by first | assumption | omega | decide) (by first | assumption | omega | decide)) (cwV 2 hts gX8_done_X8_behind rfl rfl rfl (by decide +kernel) ⟨Nat.le_of_ble_eq_true rfl, Nat.le_of_ble_eq_true rfl⟩) (kPreVR (ci := 9) (q0 := 0) hK (kPc_sub hP [0, 3, 4, 5] rfl) rfl rfl rfl) rfl rfl hl.1 rfl (lv_room (Nat.le_of_ble_eq_true rfl)) dX8_done_34 ⟨Nat.le_of_ble_eq_true rfl, Nat.le_of_ble_eq_true rfl⟩) (fun v_5 hv_5 => ?_)
      obtain rfl := hv_5
      refine W.eq (g2 := F0 m 37 ls [.int (bhF im gi sk T k kn), .ref z]) rfl ?_
      refine va_put (D := D) (ci := 9) (v := .int (bhF im gi sk T k kn)) (ty := .int) (C := RX8) (T := TX8) (N := 24) hx hb hts hi_X8 tyX8 tyX8_ok nmX8 hown hK.1 hP hD hS 0 rfl rfl 10 (by decide) hw_f84 (fun _ h9 => h9) rfl (by decide +kernel) rfl rfl (Nat.le_of_ble_eq_true rfl) dX8_done_37 (fun H locs hP hD hS => ?_)
      have hP : va_P D vwCl [(z, .inr (9, [.ref a0, .ref a1, .int (nI T), .ref a2, .ref a3, .ref a4, .ref a5, .ref a6, .int (nI P), .int pa, .int (bhF im gi sk T k kn), .ref a7, .int (nI rn), .ref a8, .ref a9, .int (nI ln), .ref a10, .int 0, .ref a11, .ref a12, .int wt, .ref a13, .ref a14, .ref a15])), (a2, .inl (cI, 14, .inl ne)), (a3, .inl (cI, 14, .inl ei)), (a1, .inl (cI, 12, .inl im)), (a4, .inl (cI, 14, .inl gi)), (a5, .inl (cI, 14, .inl sk))] H := hP
      have hD : va_D _ [(z, .inr (9, [.ref a0, .ref a1, .int (nI T), .ref a2, .ref a3, .ref a4, .ref a5, .ref a6, .int (nI P), .int pa, .int (bhF im gi sk T k kn), .ref a7, .int (nI rn), .ref a8, .ref a9, .int (nI ln), .ref a10, .int 0, .ref a11, .ref a12, .int wt, .ref a13, .ref a14, .ref a15])), (a2, .inl (cI, 14, .inl ne)), (a3, .inl (cI, 14, .inl ei)), (a1, .inl (cI, 12, .inl im)), (a4, .inl (cI, 14, .inl gi)), (a5, .inl (cI, 14, .inl sk))] := hD
      refine lv_aload_n hx hb dX8_done_40 rfl (lv_at hl 0 rfl) ?_
      refine va_get (D := D) (ci := 9) (v := .int (bhF im gi sk T k kn)) (C := RX8) (T := TX8) (N := 24) hx hb hts hi_X8 hown hK.1 hP 0 rfl rfl 10 (by decide) hw_f84 (fun _ h9 => h9) rfl dX8_done_41 ?_
      have ew_0 : (bhF im gi sk T k kn : Int32) = if stpB P x && canB ne ei x.toNatClampNeg kn then bhF im gi sk T x.toNatClampNeg kn else kn := by first | (simp [c_10, c_ek, c_kk, c_kc, c_22]; done) | (rw [c_ek]; simp [c_10, c_ek, c_kk, c_kc, c_22]; done)
      exact kRetI hx hb hr hlk dX8_done_44 hP hD hS (Nat.le_of_ble_eq_true rfl) (Nat.le_of_ble_eq_true rfl) ⟨(kpi (by first | (simp [c_10, c_ek, c_kk, c_kc, c_22]; done) | (rw [c_ek]; simp [c_10, c_ek, c_kk, c_kc, c_22]; done))), (kw1 (fun (z_0 : Int32) => ([(z, .inr (9, [.ref a0, .ref a1, .int (nI T), .ref a2, .ref a3, .ref a4, .ref a5, .ref a6, .int (nI P), .int pa, .int z_0, .ref a7, .int (nI rn), .ref a8, .ref a9, .int (nI ln), .ref a10, .int 0, .ref a11, .ref a12, .int wt, .ref a13, .ref a14, .ref a15])), (a2, .inl (cI, 14, .inl ne)), (a3, .inl (cI, 14, .inl ei)), (a1, .inl (cI, 12, .inl im)), (a4, .inl (cI, 14, .inl gi)), (a5, .inl (cI, 14, .inl sk))] : va_W)) ew_0)⟩
    · skip
      have c_22 := k01_z c_22
      refine lv_iconst (v := (-1)) hx hb dX8_done_25 (by decide) ?_
      have ew_0 : (kn : Int32) = if stpB P x && canB ne ei x.toNatClampNeg kn then bhF im gi sk T x.toNatClampNeg kn else kn := by first | (simp [c_10, c_ek, c_kk, c_kc, c_22]; done) | (rw [c_ek]; simp [c_10, c_ek, c_kk, c_kc, c_22]; done)
      exact kRetI hx hb hr hlk dX8_done_26 hP hD hS (Nat.le_of_ble_eq_true rfl) (Nat.le_of_ble_eq_true rfl) ⟨(kpi (by first | (simp [c_10, c_ek, c_kk, c_kc, c_22]; done) | (rw [c_ek]; simp [c_10, c_ek, c_kk, c_kc, c_22]; done))), (kw1 (fun (z_0 : Int32) => ([(z, .inr (9, [.ref a0, .ref a1, .int (nI T), .ref a2, .ref a3, .ref a4, .ref a5, .ref a6, .int (nI P), .int pa, .int z_0, .ref a7, .int (nI rn), .ref a8, .ref a9, .int (nI ln), .ref a10, .int 0, .ref a11, .ref a12, .int wt, .ref a13, .ref a14, .ref a15])), (a2, .inl (cI, 14, .inl ne)), (a3, .inl (cI, 14, .inl ei)), (a1, .inl (cI, 12, .inl im)), (a4, .inl (cI, 14, .inl gi)), (a5, .inl (cI, 14, .inl sk))] : va_W)) ew_0)⟩

set_option maxHeartbeats 4000000 in
set_option maxRecDepth 100000 in
theorem c_X8_step (l : Launch) (D : va_G) (cI cJ cZ cO : ClassId) (z : Nat) (a0 : Nat) (a1 : Nat) (a2 : Nat) (a3 : Nat) (a4 : Nat) (a5 : Nat) (a6 : Nat) (a7 : Nat) (a8 : Nat) (a9 : Nat) (a10 : Nat) (a11 : Nat) (a12 : Nat) (a13 : Nat) (a14 : Nat) (a15 : Nat) (T : Nat) (P : Nat) (pa : Int32) (kn : Int32) (rn : Nat) (ln : Nat) (th : Int32) (wt : Int32) (ro : Nat → Int32) (i : Int32) (hrn : rn ≤ 12) : kC l D (kTY cI cJ cZ cO) yX8_step wsX8_step 1 22 0 0 [.ref z, .int i] [(z, .inr (9, [.ref a0, .ref a1, .int (nI T), .ref a2, .ref a3, .ref a4, .ref a5, .ref a6, .int (nI P), .int pa, .int kn, .ref a7, .int (nI rn), .ref a8, .ref a9, .int (nI ln), .ref a10, .int th, .ref a11, .ref a12, .int wt, .ref a13, .ref a14, .ref a15])), (a7, .inl (cI, 12, .inl ro))] (fun rv_ rw_ => rv_ = some (.int (rowM ro rn i)) ∧ rw_ = [(z, .inr (9, [.ref a0, .ref a1, .int (nI T), .ref a2, .ref a3, .ref a4, .ref a5, .ref a6, .int (nI P), .int pa, .int kn, .ref a7, .int (nI rn), .ref a8, .ref a9, .int (nI ln), .ref a10, .int 0, .ref a11, .ref a12, .int wt, .ref a13, .ref a14, .ref a15])), (a7, .inl (cI, 12, .inl ro))]) := by
  refine kEnter (cc := cX8_step) (maxL := 2) (ret := (some .int)) (by decide) rfl (Nat.le_of_ble_eq_true rfl) ?_
  intro p e s m args below meth c hx hb hr hml hts hown hlk hnm hK hP hD hS hA ls hl
  have hl : lv_has ls 2 [(0, .ref z), (1, .int i)] := hl
  have hw_f63 := hts (.fieldLink RX8 63 "WhatToReadModel" "thrown" "I") (by decide +kernel)
  have hi_X8 : ∀ w ∈ wsX80, w ∈ wsX8_step := by decide +kernel
  have hw_f90 := hts (.fieldLink RX8 90 "WhatToReadModel" "rowMany" "I") (by decide +kernel)
  have hw_f35 := hts (.fieldLink RX8 35 "WhatToReadModel" "row" "[I") (by decide +kernel)
  refine lv_aload_n hx hb dX8_step_0 rfl (lv_at hl 0 rfl) ?_
  refine lv_iconst (v := 0) hx hb dX8_step_1 (by decide) ?_
  refine va_put (D := D) (ci := 9) (v := .int 0) (ty := .int) (C := RX8) (T := TX8) (N := 24) hx hb hts hi_X8 tyX8 tyX8_ok nmX8 hown hK.1 hP hD hS 0 rfl rfl 17 (by decide) hw_f63 (fun _ h9 => h9) rfl (by decide +kernel) rfl rfl (Nat.le_of_ble_eq_true rfl) dX8_step_2 (fun H locs hP hD hS => ?_)
  have hP : va_P D vwCl [(z, .inr (9, [.ref a0, .ref a1, .int (nI T), .ref a2, .ref a3, .ref a4, .ref a5, .ref a6, .int (nI P), .int pa, .int kn, .ref a7, .int (nI rn), .ref a8, .ref a9, .int (nI ln), .ref a10, .int 0, .ref a11, .ref a12, .int wt, .ref a13, .ref a14, .ref a15])), (a7, .inl (cI, 12, .inl ro))] H := hP
  have hD : va_D _ [(z, .inr (9, [.ref a0, .ref a1, .int (nI T), .ref a2, .ref a3, .ref a4, .ref a5, .ref a6, .int (nI P), .int pa, .int kn, .ref a7, .int (nI rn), .ref a8, .ref a9, .int (nI ln), .ref a10, .int 0, .ref a11, .ref a12, .int wt, .ref a13, .ref a14, .ref a15])), (a7, .inl (cI, 12, .inl ro))] := hD
  refine lv_iload_n hx hb dX8_step_5 rfl (lv_at hl 1 rfl) ?_
  refine lv_iconst (v := 0) hx hb dX8_step_6 (by decide) ?_
  refine lv_aload_n hx hb dX8_step_7 rfl (lv_at hl 0 rfl) ?_
  refine va_get (D := D) (ci := 9) (v := .int (nI rn)) (C := RX8) (T := TX8) (N := 24) hx hb hts hi_X8 hown hK.1 hP 0 rfl rfl 12 (by decide) hw_f90 (fun _ h9 => h9) rfl dX8_step_8 ?_
  refine lv_iconst (v := 1) hx hb dX8_step_11 (by decide) ?_
  refine lv_isub hx hb dX8_step_12 ?_
  refine kGoR (va_runS (As := [.int i, .int 0, .int ((nI rn) - 1)]) (rest := []) ⟨hx, hb, hml, hown, hts⟩ (c_X8_in l D cI cJ cZ cO i 0 ((nI rn) - 1) ) (va_cwS 3 hts gX8_step_X8_in rfl rfl rfl (by decide +kernel) ⟨Nat.le_of_ble_eq_true rfl, Nat.le_of_ble_eq_true rfl⟩) (kPreSR hK (kPc_sub hP [] rfl)) rfl rfl hl.1 rfl (lv_room (Nat.le_of_ble_eq_true rfl)) dX8_step_13 ⟨Nat.le_of_ble_eq_true rfl, Nat.le_of_ble_eq_true rfl⟩) (fun v_1 hv_1 => ?_)
  obtain rfl := hv_1
  refine W.eq (g2 := F0 m 16 ls [.int (k01 (withinB i 0 ((nI rn) - 1)))]) rfl ?_
  refine lv_if_eq (tgt := 28) hx hb dX8_step_16 (by decide) (fun c_16 => ?_) (fun c_16 => ?_)
  · skip
    have c_16 := k01_z c_16
    refine lv_iconst (v := (-1)) hx hb dX8_step_28 (by decide) ?_
    exact kRetI hx hb hr hlk dX8_step_29 hP hD hS (Nat.le_of_ble_eq_true rfl) (Nat.le_of_ble_eq_true rfl) ⟨(kpi (by simp [rowM, c_16])), rfl⟩
  · skip
    have c_16 := k01_n c_16
    refine lv_aload_n hx hb dX8_step_19 rfl (lv_at hl 0 rfl) ?_
    refine va_get (D := D) (ci := 9) (v := .ref a7) (C := RX8) (T := TX8) (N := 24) hx hb hts hi_X8 hown hK.1 hP 0 rfl rfl 11 (by decide) hw_f35 (fun _ h9 => h9) rfl dX8_step_20 ?_
    refine lv_iload_n hx hb dX8_step_23 rfl (lv_at hl 1 rfl) ?_
    refine va_iald hx hb hK.1 hP 1 0 rfl rfl (kwin c_16 hrn (by decide)) dX8_step_24 ?_
    refine lv_goto (tgt := 29) hx hb dX8_step_25 (by decide) ?_
    exact kRetI hx hb hr hlk dX8_step_29 hP hD hS (Nat.le_of_ble_eq_true rfl) (Nat.le_of_ble_eq_true rfl) ⟨(kpi (by simp [rowM, c_16])), rfl⟩

set_option maxHeartbeats 4000000 in
set_option maxRecDepth 100000 in
theorem c_X8_laid (l : Launch) (D : va_G) (cI cJ cZ cO : ClassId) (z : Nat) (a0 : Nat) (a1 : Nat) (a2 : Nat) (a3 : Nat) (a4 : Nat) (a5 : Nat) (a6 : Nat) (a7 : Nat) (a8 : Nat) (a9 : Nat) (a10 : Nat) (a11 : Nat) (a12 : Nat) (a13 : Nat) (a14 : Nat) (a15 : Nat) (T : Nat) (P : Nat) (pa : Int32) (kn : Int32) (rn : Nat) (ln : Nat) (th : Int32) (wt : Int32) (la : Nat → Int32) (i : Int32) (hln : ln ≤ 12) : kC l D (kTY cI cJ cZ cO) yX8_laid wsX8_laid 1 22 0 0 [.ref z, .int i] [(z, .inr (9, [.ref a0, .ref a1, .int (nI T), .ref a2, .ref a3, .ref a4, .ref a5, .ref a6, .int (nI P), .int pa, .int kn, .ref a7, .int (nI rn), .ref a8, .ref a9, .int (nI ln), .ref a10, .int th, .ref a11, .ref a12, .int wt, .ref a13, .ref a14, .ref a15])), (a9, .inl (cI, 12, .inl la))] (fun rv_ rw_ => rv_ = some (.int (rowM la ln i)) ∧ rw_ = [(z, .inr (9, [.ref a0, .ref a1, .int (nI T), .ref a2, .ref a3, .ref a4, .ref a5, .ref a6, .int (nI P), .int pa, .int kn, .ref a7, .int (nI rn), .ref a8, .ref a9, .int (nI ln), .ref a10, .int 0, .ref a11, .ref a12, .int wt, .ref a13, .ref a14, .ref a15])), (a9, .inl (cI, 12, .inl la))]) := by
  refine kEnter (cc := cX8_laid) (maxL := 2) (ret := (some .int)) (by decide) rfl (Nat.le_of_ble_eq_true rfl) ?_
  intro p e s m args below meth c hx hb hr hml hts hown hlk hnm hK hP hD hS hA ls hl
  have hl : lv_has ls 2 [(0, .ref z), (1, .int i)] := hl
  have hw_f63 := hts (.fieldLink RX8 63 "WhatToReadModel" "thrown" "I") (by decide +kernel)
  have hi_X8 : ∀ w ∈ wsX80, w ∈ wsX8_laid := by decide +kernel
  have hw_f125 := hts (.fieldLink RX8 125 "WhatToReadModel" "laidMany" "I") (by decide +kernel)
  have hw_f41 := hts (.fieldLink RX8 41 "WhatToReadModel" "laid" "[I") (by decide +kernel)
  refine lv_aload_n hx hb dX8_laid_0 rfl (lv_at hl 0 rfl) ?_
  refine lv_iconst (v := 0) hx hb dX8_laid_1 (by decide) ?_
  refine va_put (D := D) (ci := 9) (v := .int 0) (ty := .int) (C := RX8) (T := TX8) (N := 24) hx hb hts hi_X8 tyX8 tyX8_ok nmX8 hown hK.1 hP hD hS 0 rfl rfl 17 (by decide) hw_f63 (fun _ h9 => h9) rfl (by decide +kernel) rfl rfl (Nat.le_of_ble_eq_true rfl) dX8_laid_2 (fun H locs hP hD hS => ?_)
  have hP : va_P D vwCl [(z, .inr (9, [.ref a0, .ref a1, .int (nI T), .ref a2, .ref a3, .ref a4, .ref a5, .ref a6, .int (nI P), .int pa, .int kn, .ref a7, .int (nI rn), .ref a8, .ref a9, .int (nI ln), .ref a10, .int 0, .ref a11, .ref a12, .int wt, .ref a13, .ref a14, .ref a15])), (a9, .inl (cI, 12, .inl la))] H := hP
  have hD : va_D _ [(z, .inr (9, [.ref a0, .ref a1, .int (nI T), .ref a2, .ref a3, .ref a4, .ref a5, .ref a6, .int (nI P), .int pa, .int kn, .ref a7, .int (nI rn), .ref a8, .ref a9, .int (nI ln), .ref a10, .int 0, .ref a11, .ref a12, .int wt, .ref a13, .ref a14, .ref a15])), (a9, .inl (cI, 12, .inl la))] := hD
  refine lv_iload_n hx hb dX8_laid_5 rfl (lv_at hl 1 rfl) ?_
  refine lv_iconst (v := 0) hx hb dX8_laid_6 (by decide) ?_
  refine lv_aload_n hx hb dX8_laid_7 rfl (lv_at hl 0 rfl) ?_
  refine va_get (D := D) (ci := 9) (v := .int (nI ln)) (C := RX8) (T := TX8) (N := 24) hx hb hts hi_X8 hown hK.1 hP 0 rfl rfl 15 (by decide) hw_f125 (fun _ h9 => h9) rfl dX8_laid_8 ?_
  refine lv_iconst (v := 1) hx hb dX8_laid_11 (by decide) ?_
  refine lv_isub hx hb dX8_laid_12 ?_
  refine kGoR (va_runS (As := [.int i, .int 0, .int ((nI ln) - 1)]) (rest := []) ⟨hx, hb, hml, hown, hts⟩ (c_X8_in l D cI cJ cZ cO i 0 ((nI ln) - 1) ) (va_cwS 3 hts gX8_laid_X8_in rfl rfl rfl (by decide +kernel) ⟨Nat.le_of_ble_eq_true rfl, Nat.le_of_ble_eq_true rfl⟩) (kPreSR hK (kPc_sub hP [] rfl)) rfl rfl hl.1 rfl (lv_room (Nat.le_of_ble_eq_true rfl)) dX8_laid_13 ⟨Nat.le_of_ble_eq_true rfl, Nat.le_of_ble_eq_true rfl⟩) (fun v_1 hv_1 => ?_)
  obtain rfl := hv_1
  refine W.eq (g2 := F0 m 16 ls [.int (k01 (withinB i 0 ((nI ln) - 1)))]) rfl ?_
  refine lv_if_eq (tgt := 28) hx hb dX8_laid_16 (by decide) (fun c_16 => ?_) (fun c_16 => ?_)
  · skip
    have c_16 := k01_z c_16
    refine lv_iconst (v := (-1)) hx hb dX8_laid_28 (by decide) ?_
    exact kRetI hx hb hr hlk dX8_laid_29 hP hD hS (Nat.le_of_ble_eq_true rfl) (Nat.le_of_ble_eq_true rfl) ⟨(kpi (by simp [rowM, c_16])), rfl⟩
  · skip
    have c_16 := k01_n c_16
    refine lv_aload_n hx hb dX8_laid_19 rfl (lv_at hl 0 rfl) ?_
    refine va_get (D := D) (ci := 9) (v := .ref a9) (C := RX8) (T := TX8) (N := 24) hx hb hts hi_X8 hown hK.1 hP 0 rfl rfl 14 (by decide) hw_f41 (fun _ h9 => h9) rfl dX8_laid_20 ?_
    refine lv_iload_n hx hb dX8_laid_23 rfl (lv_at hl 1 rfl) ?_
    refine va_iald hx hb hK.1 hP 1 0 rfl rfl (kwin c_16 hln (by decide)) dX8_laid_24 ?_
    refine lv_goto (tgt := 29) hx hb dX8_laid_25 (by decide) ?_
    exact kRetI hx hb hr hlk dX8_laid_29 hP hD hS (Nat.le_of_ble_eq_true rfl) (Nat.le_of_ble_eq_true rfl) ⟨(kpi (by simp [rowM, c_16])), rfl⟩

set_option maxHeartbeats 4000000 in
set_option maxRecDepth 100000 in
theorem c_X8_week (l : Launch) (D : va_G) (cI cJ cZ cO : ClassId) (z : Nat) (a0 : Nat) (a1 : Nat) (a2 : Nat) (a3 : Nat) (a4 : Nat) (a5 : Nat) (a6 : Nat) (a7 : Nat) (a8 : Nat) (a9 : Nat) (a10 : Nat) (a11 : Nat) (a12 : Nat) (a13 : Nat) (a14 : Nat) (a15 : Nat) (T : Nat) (P : Nat) (pa : Int32) (kn : Int32) (rn : Nat) (ln : Nat) (th : Int32) (wt : Int32) (we : Nat → Int32) (w : Int32) (x : Int32) : kC l D (kTY cI cJ cZ cO) yX8_week wsX8_week 1 22 0 0 [.ref z, .int w, .int x] [(z, .inr (9, [.ref a0, .ref a1, .int (nI T), .ref a2, .ref a3, .ref a4, .ref a5, .ref a6, .int (nI P), .int pa, .int kn, .ref a7, .int (nI rn), .ref a8, .ref a9, .int (nI ln), .ref a10, .int th, .ref a11, .ref a12, .int wt, .ref a13, .ref a14, .ref a15])), (a8, .inl (cI, 52, .inl we))] (fun rv_ rw_ => rv_ = some (.int (k01 (withinB w 0 51 && withinB x 0 3000))) ∧ rw_ = [(z, .inr (9, [.ref a0, .ref a1, .int (nI T), .ref a2, .ref a3, .ref a4, .ref a5, .ref a6, .int (nI P), .int pa, .int kn, .ref a7, .int (nI rn), .ref a8, .ref a9, .int (nI ln), .ref a10, .int 0, .ref a11, .ref a12, .int wt, .ref a13, .ref a14, .ref a15])), (a8, .inl (cI, 52, .inl (if withinB w 0 51 && withinB x 0 3000 then upd we w.toNatClampNeg x else we)))]) := by
  refine kEnter (cc := cX8_week) (maxL := 3) (ret := (some .boolean)) (by decide) rfl (Nat.le_of_ble_eq_true rfl) ?_
  intro p e s m args below meth c hx hb hr hml hts hown hlk hnm hK hP hD hS hA ls hl
  have hl : lv_has ls 3 [(0, .ref z), (1, .int w), (2, .int x)] := hl
  have hw_f63 := hts (.fieldLink RX8 63 "WhatToReadModel" "thrown" "I") (by decide +kernel)
  have hi_X8 : ∀ w ∈ wsX80, w ∈ wsX8_week := by decide +kernel
  have hw_f38 := hts (.fieldLink RX8 38 "WhatToReadModel" "week" "[I") (by decide +kernel)
  refine lv_aload_n hx hb dX8_week_0 rfl (lv_at hl 0 rfl) ?_
  refine lv_iconst (v := 0) hx hb dX8_week_1 (by decide) ?_
  refine va_put (D := D) (ci := 9) (v := .int 0) (ty := .int) (C := RX8) (T := TX8) (N := 24) hx hb hts hi_X8 tyX8 tyX8_ok nmX8 hown hK.1 hP hD hS 0 rfl rfl 17 (by decide) hw_f63 (fun _ h9 => h9) rfl (by decide +kernel) rfl rfl (Nat.le_of_ble_eq_true rfl) dX8_week_2 (fun H locs hP hD hS => ?_)
  have hP : va_P D vwCl [(z, .inr (9, [.ref a0, .ref a1, .int (nI T), .ref a2, .ref a3, .ref a4, .ref a5, .ref a6, .int (nI P), .int pa, .int kn, .ref a7, .int (nI rn), .ref a8, .ref a9, .int (nI ln), .ref a10, .int 0, .ref a11, .ref a12, .int wt, .ref a13, .ref a14, .ref a15])), (a8, .inl (cI, 52, .inl we))] H := hP
  have hD : va_D _ [(z, .inr (9, [.ref a0, .ref a1, .int (nI T), .ref a2, .ref a3, .ref a4, .ref a5, .ref a6, .int (nI P), .int pa, .int kn, .ref a7, .int (nI rn), .ref a8, .ref a9, .int (nI ln), .ref a10, .int 0, .ref a11, .ref a12, .int wt, .ref a13, .ref a14, .ref a15])), (a8, .inl (cI, 52, .inl we))] := hD
  refine lv_iload_n hx hb dX8_week_5 rfl (lv_at hl 1 rfl) ?_
  refine lv_iconst (v := 0) hx hb dX8_week_6 (by decide) ?_
  refine lv_bipush (v := 51) hx hb dX8_week_7 (by decide) ?_
  refine kGoR (va_runS (As := [.int w, .int 0, .int 51]) (rest := []) ⟨hx, hb, hml, hown, hts⟩ (c_X8_in l D cI cJ cZ cO w 0 51 ) (va_cwS 3 hts gX8_week_X8_in rfl rfl rfl (by decide +kernel) ⟨Nat.le_of_ble_eq_true rfl, Nat.le_of_ble_eq_true rfl⟩) (kPreSR hK (kPc_sub hP [] rfl)) rfl rfl hl.1 rfl (lv_room (Nat.le_of_ble_eq_true rfl)) dX8_week_9 ⟨Nat.le_of_ble_eq_true rfl, Nat.le_of_ble_eq_true rfl⟩) (fun v_1 hv_1 => ?_)
  obtain rfl := hv_1
  refine W.eq (g2 := F0 m 12 ls [.int (k01 (withinB w 0 51))]) rfl ?_
  refine lv_if_eq (tgt := 26) hx hb dX8_week_12 (by decide) (fun c_12 => ?_) (fun c_12 => ?_)
  · skip
    have c_12 := k01_z c_12
    refine lv_iconst (v := 0) hx hb dX8_week_26 (by decide) ?_
    have ew_0 : (we : Nat → Int32) = if withinB w 0 51 && withinB x 0 3000 then upd we w.toNatClampNeg x else we := by simp [c_12]
    exact kRetZ (withinB w 0 51 && withinB x 0 3000) (by simp [k01, c_12]) hx hb hr hlk dX8_week_27 hP hD hS (Nat.le_of_ble_eq_true rfl) (Nat.le_of_ble_eq_true rfl) ⟨rfl, (kw1 (fun (z_0 : Nat → Int32) => ([(z, .inr (9, [.ref a0, .ref a1, .int (nI T), .ref a2, .ref a3, .ref a4, .ref a5, .ref a6, .int (nI P), .int pa, .int kn, .ref a7, .int (nI rn), .ref a8, .ref a9, .int (nI ln), .ref a10, .int 0, .ref a11, .ref a12, .int wt, .ref a13, .ref a14, .ref a15])), (a8, .inl (cI, 52, .inl z_0))] : va_W)) ew_0)⟩
  · skip
    have c_12 := k01_n c_12
    refine lv_iload_n hx hb dX8_week_15 rfl (lv_at hl 2 rfl) ?_
    refine lv_iconst (v := 0) hx hb dX8_week_16 (by decide) ?_
    refine lv_sipush (v := 3000) hx hb dX8_week_17 (by decide) ?_
    refine kGoR (va_runS (As := [.int x, .int 0, .int 3000]) (rest := []) ⟨hx, hb, hml, hown, hts⟩ (c_X8_in l D cI cJ cZ cO x 0 3000 ) (va_cwS 3 hts gX8_week_X8_in rfl rfl rfl (by decide +kernel) ⟨Nat.le_of_ble_eq_true rfl, Nat.le_of_ble_eq_true rfl⟩) (kPreSR hK (kPc_sub hP [] rfl)) rfl rfl hl.1 rfl (lv_room (Nat.le_of_ble_eq_true rfl)) dX8_week_20 ⟨Nat.le_of_ble_eq_true rfl, Nat.le_of_ble_eq_true rfl⟩) (fun v_2 hv_2 => ?_)
    obtain rfl := hv_2
    refine W.eq (g2 := F0 m 23 ls [.int (k01 (withinB x 0 3000))]) rfl ?_
    refine lv_if_ne (tgt := 28) hx hb dX8_week_23 (by decide) (fun c_23 => ?_) (fun c_23 => ?_)
    · skip
      have c_23 := k01_n c_23
      refine lv_aload_n hx hb dX8_week_28 rfl (lv_at hl 0 rfl) ?_
      refine va_get (D := D) (ci := 9) (v := .ref a8) (C := RX8) (T := TX8) (N := 24) hx hb hts hi_X8 hown hK.1 hP 0 rfl rfl 13 (by decide) hw_f38 (fun _ h9 => h9) rfl dX8_week_29 ?_
      refine lv_iload_n hx hb dX8_week_32 rfl (lv_at hl 1 rfl) ?_
      refine lv_iload_n hx hb dX8_week_33 rfl (lv_at hl 2 rfl) ?_
      refine va_iast hx hb hK.1 hP hD hS 1 0 rfl rfl (kwin (n := 52) (N := 52) c_12 (by decide) (by decide)) dX8_week_34 (fun H locs hP hD hS => ?_)
      have hP : va_P D vwCl [(z, .inr (9, [.ref a0, .ref a1, .int (nI T), .ref a2, .ref a3, .ref a4, .ref a5, .ref a6, .int (nI P), .int pa, .int kn, .ref a7, .int (nI rn), .ref a8, .ref a9, .int (nI ln), .ref a10, .int 0, .ref a11, .ref a12, .int wt, .ref a13, .ref a14, .ref a15])), (a8, .inl (cI, 52, .inl (upd we (w).toNatClampNeg x)))] H := hP
      have hD : va_D _ [(z, .inr (9, [.ref a0, .ref a1, .int (nI T), .ref a2, .ref a3, .ref a4, .ref a5, .ref a6, .int (nI P), .int pa, .int kn, .ref a7, .int (nI rn), .ref a8, .ref a9, .int (nI ln), .ref a10, .int 0, .ref a11, .ref a12, .int wt, .ref a13, .ref a14, .ref a15])), (a8, .inl (cI, 52, .inl (upd we (w).toNatClampNeg x)))] := hD
      refine lv_iconst (v := 1) hx hb dX8_week_35 (by decide) ?_
      have ew_0 : (upd we (w).toNatClampNeg x : Nat → Int32) = if withinB w 0 51 && withinB x 0 3000 then upd we w.toNatClampNeg x else we := by simp [c_12, c_23]
      exact kRetZ (withinB w 0 51 && withinB x 0 3000) (by simp [k01, c_12, c_23]) hx hb hr hlk dX8_week_36 hP hD hS (Nat.le_of_ble_eq_true rfl) (Nat.le_of_ble_eq_true rfl) ⟨rfl, (kw1 (fun (z_0 : Nat → Int32) => ([(z, .inr (9, [.ref a0, .ref a1, .int (nI T), .ref a2, .ref a3, .ref a4, .ref a5, .ref a6, .int (nI P), .int pa, .int kn, .ref a7, .int (nI rn), .ref a8, .ref a9, .int (nI ln), .ref a10, .int 0, .ref a11, .ref a12, .int wt, .ref a13, .ref a14, .ref a15])), (a8, .inl (cI, 52, .inl z_0))] : va_W)) ew_0)⟩
    · skip
      have c_23 := k01_z c_23
      refine lv_iconst (v := 0) hx hb dX8_week_26 (by decide) ?_
      have ew_0 : (we : Nat → Int32) = if withinB w 0 51 && withinB x 0 3000 then upd we w.toNatClampNeg x else we := by simp [c_12, c_23]
      exact kRetZ (withinB w 0 51 && withinB x 0 3000) (by simp [k01, c_12, c_23]) hx hb hr hlk dX8_week_27 hP hD hS (Nat.le_of_ble_eq_true rfl) (Nat.le_of_ble_eq_true rfl) ⟨rfl, (kw1 (fun (z_0 : Nat → Int32) => ([(z, .inr (9, [.ref a0, .ref a1, .int (nI T), .ref a2, .ref a3, .ref a4, .ref a5, .ref a6, .int (nI P), .int pa, .int kn, .ref a7, .int (nI rn), .ref a8, .ref a9, .int (nI ln), .ref a10, .int 0, .ref a11, .ref a12, .int wt, .ref a13, .ref a14, .ref a15])), (a8, .inl (cI, 52, .inl z_0))] : va_W)) ew_0)⟩

set_option maxHeartbeats 4000000 in
set_option maxRecDepth 100000 in
theorem c_X8_states (l : Launch) (D : va_G) (cI cJ cZ cO : ClassId) (z : Nat) (a0 : Nat) (a1 : Nat) (a2 : Nat) (a3 : Nat) (a4 : Nat) (a5 : Nat) (a6 : Nat) (a7 : Nat) (a8 : Nat) (a9 : Nat) (a10 : Nat) (a11 : Nat) (a12 : Nat) (a13 : Nat) (a14 : Nat) (a15 : Nat) (T : Nat) (P : Nat) (pa : Int32) (kn : Int32) (rn : Nat) (ln : Nat) (th : Int32) (wt : Int32) (im : Nat → Int32) (an : Nat → Int32) (hT : T ≤ 12) : kC l D (kTY cI cJ cZ cO) yX8_states wsX8_states 3 67 0 0 [.ref z] [(z, .inr (9, [.ref a0, .ref a1, .int (nI T), .ref a2, .ref a3, .ref a4, .ref a5, .ref a6, .int (nI P), .int pa, .int kn, .ref a7, .int (nI rn), .ref a8, .ref a9, .int (nI ln), .ref a10, .int th, .ref a11, .ref a12, .int wt, .ref a13, .ref a14, .ref a15])), (a1, .inl (cI, 12, .inl im)), (a10, .inl (cI, 12, .inl an))] (fun rv_ rw_ => rv_ = some (.int (nI (manyF im an T (2 ^ T)))) ∧ rw_ = [(z, .inr (9, [.ref a0, .ref a1, .int (nI T), .ref a2, .ref a3, .ref a4, .ref a5, .ref a6, .int (nI P), .int pa, .int kn, .ref a7, .int (nI rn), .ref a8, .ref a9, .int (nI ln), .ref a10, .int 0, .ref a11, .ref a12, .int wt, .ref a13, .ref a14, .ref a15])), (a1, .inl (cI, 12, .inl im)), (a10, .inl (cI, 12, .inl an))]) := by
  refine kEnter (cc := cX8_states) (maxL := 1) (ret := (some .int)) (by decide) rfl (Nat.le_of_ble_eq_true rfl) ?_
  intro p e s m args below meth c hx hb hr hml hts hown hlk hnm hK hP hD hS hA ls hl
  have hl : lv_has ls 1 [(0, .ref z)] := hl
  have hw_f63 := hts (.fieldLink RX8 63 "WhatToReadModel" "thrown" "I") (by decide +kernel)
  have hi_X8 : ∀ w ∈ wsX80, w ∈ wsX8_states := by decide +kernel
  refine lv_aload_n hx hb dX8_states_0 rfl (lv_at hl 0 rfl) ?_
  refine lv_iconst (v := 0) hx hb dX8_states_1 (by decide) ?_
  refine va_put (D := D) (ci := 9) (v := .int 0) (ty := .int) (C := RX8) (T := TX8) (N := 24) hx hb hts hi_X8 tyX8 tyX8_ok nmX8 hown hK.1 hP hD hS 0 rfl rfl 17 (by decide) hw_f63 (fun _ h9 => h9) rfl (by decide +kernel) rfl rfl (Nat.le_of_ble_eq_true rfl) dX8_states_2 (fun H locs hP hD hS => ?_)
  have hP : va_P D vwCl [(z, .inr (9, [.ref a0, .ref a1, .int (nI T), .ref a2, .ref a3, .ref a4, .ref a5, .ref a6, .int (nI P), .int pa, .int kn, .ref a7, .int (nI rn), .ref a8, .ref a9, .int (nI ln), .ref a10, .int 0, .ref a11, .ref a12, .int wt, .ref a13, .ref a14, .ref a15])), (a1, .inl (cI, 12, .inl im)), (a10, .inl (cI, 12, .inl an))] H := hP
  have hD : va_D _ [(z, .inr (9, [.ref a0, .ref a1, .int (nI T), .ref a2, .ref a3, .ref a4, .ref a5, .ref a6, .int (nI P), .int pa, .int kn, .ref a7, .int (nI rn), .ref a8, .ref a9, .int (nI ln), .ref a10, .int 0, .ref a11, .ref a12, .int wt, .ref a13, .ref a14, .ref a15])), (a1, .inl (cI, 12, .inl im)), (a10, .inl (cI, 12, .inl an))] := hD
  refine lv_aload_n hx hb dX8_states_5 rfl (lv_at hl 0 rfl) ?_
  refine kGoR (va_runV (As := []) (rest := []) ⟨hx, hb, hml, hown, hts⟩ (c_X8_stateMany l D cI cJ cZ cO z a0 a1 a2 a3 a4 a5 a6 a7 a8 a9 a10 a11 a12 a13 a14 a15 T P pa kn rn ln 0 wt im an (by first | assumption | omega | decide)) (cwV 0 hts gX8_states_X8_stateMany rfl rfl rfl (by decide +kernel) ⟨Nat.le_of_ble_eq_true rfl, Nat.le_of_ble_eq_true rfl⟩) (kPreVR (ci := 9) (q0 := 0) hK (kPc_sub hP [0, 1, 2] rfl) rfl rfl rfl) rfl rfl hl.1 rfl (lv_room (Nat.le_of_ble_eq_true rfl)) dX8_states_6 ⟨Nat.le_of_ble_eq_true rfl, Nat.le_of_ble_eq_true rfl⟩) (fun v_1 hv_1 => ?_)
  obtain rfl := hv_1
  refine W.eq (g2 := F0 m 9 ls [.int (nI (manyF im an T (2 ^ T)))]) rfl ?_
  exact kRetI hx hb hr hlk dX8_states_9 hP hD hS (Nat.le_of_ble_eq_true rfl) (Nat.le_of_ble_eq_true rfl) ⟨rfl, rfl⟩

set_option maxHeartbeats 4000000 in
set_option maxRecDepth 100000 in
theorem c_X8_ask (l : Launch) (D : va_G) (cI cJ cZ cO : ClassId) (z : Nat) (a0 : Nat) (a1 : Nat) (a2 : Nat) (a3 : Nat) (a4 : Nat) (a5 : Nat) (a6 : Nat) (a7 : Nat) (a8 : Nat) (a9 : Nat) (a10 : Nat) (a11 : Nat) (a12 : Nat) (a13 : Nat) (a14 : Nat) (a15 : Nat) (T : Nat) (P : Nat) (pa : Int32) (kn : Int32) (rn : Nat) (ln : Nat) (th : Int32) (wt : Int32) (im : Nat → Int32) (an : Nat → Int32) (hT : T ≤ 12) : kC l D (kTY cI cJ cZ cO) yX8_ask wsX8_ask 3 67 0 0 [.ref z] [(z, .inr (9, [.ref a0, .ref a1, .int (nI T), .ref a2, .ref a3, .ref a4, .ref a5, .ref a6, .int (nI P), .int pa, .int kn, .ref a7, .int (nI rn), .ref a8, .ref a9, .int (nI ln), .ref a10, .int th, .ref a11, .ref a12, .int wt, .ref a13, .ref a14, .ref a15])), (a1, .inl (cI, 12, .inl im)), (a10, .inl (cI, 12, .inl an))] (fun rv_ rw_ => rv_ = some (.int (nI (manyF im (fun _ => 0) T (2 ^ T)))) ∧ rw_ = [(z, .inr (9, [.ref a0, .ref a1, .int (nI T), .ref a2, .ref a3, .ref a4, .ref a5, .ref a6, .int (nI P), .int pa, .int kn, .ref a7, .int (nI rn), .ref a8, .ref a9, .int (nI ln), .ref a10, .int 0, .ref a11, .ref a12, .int wt, .ref a13, .ref a14, .ref a15])), (a1, .inl (cI, 12, .inl im)), (a10, .inl (cI, 12, .inl (zro an 12)))]) := by
  refine kEnter (cc := cX8_ask) (maxL := 2) (ret := (some .int)) (by decide) rfl (Nat.le_of_ble_eq_true rfl) ?_
  intro p e s m args below meth c hx hb hr hml hts hown hlk hnm hK hP hD hS hA ls hl
  have hl : lv_has ls 2 [(0, .ref z)] := hl
  have hw_f63 := hts (.fieldLink RX8 63 "WhatToReadModel" "thrown" "I") (by decide +kernel)
  have hi_X8 : ∀ w ∈ wsX80, w ∈ wsX8_ask := by decide +kernel
  have hw_f44 := hts (.fieldLink RX8 44 "WhatToReadModel" "answers" "[I") (by decide +kernel)
  refine lv_aload_n hx hb dX8_ask_0 rfl (lv_at hl 0 rfl) ?_
  refine lv_iconst (v := 0) hx hb dX8_ask_1 (by decide) ?_
  refine va_put (D := D) (ci := 9) (v := .int 0) (ty := .int) (C := RX8) (T := TX8) (N := 24) hx hb hts hi_X8 tyX8 tyX8_ok nmX8 hown hK.1 hP hD hS 0 rfl rfl 17 (by decide) hw_f63 (fun _ h9 => h9) rfl (by decide +kernel) rfl rfl (Nat.le_of_ble_eq_true rfl) dX8_ask_2 (fun H locs hP hD hS => ?_)
  have hP : va_P D vwCl [(z, .inr (9, [.ref a0, .ref a1, .int (nI T), .ref a2, .ref a3, .ref a4, .ref a5, .ref a6, .int (nI P), .int pa, .int kn, .ref a7, .int (nI rn), .ref a8, .ref a9, .int (nI ln), .ref a10, .int 0, .ref a11, .ref a12, .int wt, .ref a13, .ref a14, .ref a15])), (a1, .inl (cI, 12, .inl im)), (a10, .inl (cI, 12, .inl an))] H := hP
  have hD : va_D _ [(z, .inr (9, [.ref a0, .ref a1, .int (nI T), .ref a2, .ref a3, .ref a4, .ref a5, .ref a6, .int (nI P), .int pa, .int kn, .ref a7, .int (nI rn), .ref a8, .ref a9, .int (nI ln), .ref a10, .int 0, .ref a11, .ref a12, .int wt, .ref a13, .ref a14, .ref a15])), (a1, .inl (cI, 12, .inl im)), (a10, .inl (cI, 12, .inl an))] := hD
  refine lv_iconst (v := 0) hx hb dX8_ask_5 (by decide) ?_
  refine lv_istore_n (lv' := [(1, .int 0), (0, .ref z)]) hx hb dX8_ask_6 rfl hl (by decide) rfl (fun ls hl => ?_)
  have hloop_7 : ∀ (fu : Nat) (i : Nat) (x : Nat → Int32), 12 - i < fu → i ≤ 12 → x = zro an i → ∀ (H : Heap) (locs : List Loc), va_P D vwCl [(z, .inr (9, [.ref a0, .ref a1, .int (nI T), .ref a2, .ref a3, .ref a4, .ref a5, .ref a6, .int (nI P), .int pa, .int kn, .ref a7, .int (nI rn), .ref a8, .ref a9, .int (nI ln), .ref a10, .int 0, .ref a11, .ref a12, .int wt, .ref a13, .ref a14, .ref a15])), (a1, .inl (cI, 12, .inl im)), (a10, .inl (cI, 12, .inl x))] H → va_D (va_A [(z, .inr (9, [.ref a0, .ref a1, .int (nI T), .ref a2, .ref a3, .ref a4, .ref a5, .ref a6, .int (nI P), .int pa, .int kn, .ref a7, .int (nI rn), .ref a8, .ref a9, .int (nI ln), .ref a10, .int th, .ref a11, .ref a12, .int wt, .ref a13, .ref a14, .ref a15])), (a1, .inl (cI, 12, .inl im)), (a10, .inl (cI, 12, .inl an))] s.heap.size) [(z, .inr (9, [.ref a0, .ref a1, .int (nI T), .ref a2, .ref a3, .ref a4, .ref a5, .ref a6, .int (nI P), .int pa, .int kn, .ref a7, .int (nI rn), .ref a8, .ref a9, .int (nI ln), .ref a10, .int 0, .ref a11, .ref a12, .int wt, .ref a13, .ref a14, .ref a15])), (a1, .inl (cI, 12, .inl im)), (a10, .inl (cI, 12, .inl x))] → va_S (va_A [(z, .inr (9, [.ref a0, .ref a1, .int (nI T), .ref a2, .ref a3, .ref a4, .ref a5, .ref a6, .int (nI P), .int pa, .int kn, .ref a7, .int (nI rn), .ref a8, .ref a9, .int (nI ln), .ref a10, .int th, .ref a11, .ref a12, .int wt, .ref a13, .ref a14, .ref a15])), (a1, .inl (cI, 12, .inl im)), (a10, .inl (cI, 12, .inl an))] s.heap.size) s.heap H locs → ∀ ls : Array Slot, lv_has ls 2 [(0, .ref z), (1, .int (nI i))] → W p l e ({ frames := 3, cells := 0, slots := 0, locals := 67 }) s m args below meth c H locs 0 0 (MQ below (kQ D [(z, .inr (9, [.ref a0, .ref a1, .int (nI T), .ref a2, .ref a3, .ref a4, .ref a5, .ref a6, .int (nI P), .int pa, .int kn, .ref a7, .int (nI rn), .ref a8, .ref a9, .int (nI ln), .ref a10, .int th, .ref a11, .ref a12, .int wt, .ref a13, .ref a14, .ref a15])), (a1, .inl (cI, 12, .inl im)), (a10, .inl (cI, 12, .inl an))] s.heap.size (fun rv_ rw_ => rv_ = some (.int (nI (manyF im (fun _ => 0) T (2 ^ T)))) ∧ rw_ = [(z, .inr (9, [.ref a0, .ref a1, .int (nI T), .ref a2, .ref a3, .ref a4, .ref a5, .ref a6, .int (nI P), .int pa, .int kn, .ref a7, .int (nI rn), .ref a8, .ref a9, .int (nI ln), .ref a10, .int 0, .ref a11, .ref a12, .int wt, .ref a13, .ref a14, .ref a15])), (a1, .inl (cI, 12, .inl im)), (a10, .inl (cI, 12, .inl (zro an 12)))])) args s 0 0 (va_A [(z, .inr (9, [.ref a0, .ref a1, .int (nI T), .ref a2, .ref a3, .ref a4, .ref a5, .ref a6, .int (nI P), .int pa, .int kn, .ref a7, .int (nI rn), .ref a8, .ref a9, .int (nI ln), .ref a10, .int th, .ref a11, .ref a12, .int wt, .ref a13, .ref a14, .ref a15])), (a1, .inl (cI, 12, .inl im)), (a10, .inl (cI, 12, .inl an))] s.heap.size)) (F0 m 7 ls []) := by
    intro fu
    induction fu with
    | zero => intro i x hmu; exact absurd hmu (Nat.not_lt_zero _)
    | succ fu ih_7 =>
      intro i x hmu_7 hi ex H locs hP hD hS ls hl
      refine lv_iload_n hx hb dX8_ask_7 rfl (lv_at hl 1 rfl) ?_
      refine lv_bipush (v := 12) hx hb dX8_ask_8 (by decide) ?_
      refine lv_icmp_ge (tgt := 26) hx hb dX8_ask_10 (by decide) (fun c_10 => ?_) (fun c_10 => ?_)
      · skip
        have nc_10 : 12 ≤ i := (nI_leI (a := 12) (b := i) (by omega) (by omega)).mp c_10
        have e12 : i = 12 := by omega
        refine lv_aload_n hx hb dX8_ask_26 rfl (lv_at hl 0 rfl) ?_
        refine kGoR (va_runV (As := []) (rest := []) ⟨hx, hb, hml, hown, hts⟩ (c_X8_stateMany l D cI cJ cZ cO z a0 a1 a2 a3 a4 a5 a6 a7 a8 a9 a10 a11 a12 a13 a14 a15 T P pa kn rn ln 0 wt im x (by first | assumption | omega | decide)) (cwV 0 hts gX8_ask_X8_stateMany rfl rfl rfl (by decide +kernel) ⟨Nat.le_of_ble_eq_true rfl, Nat.le_of_ble_eq_true rfl⟩) (kPreVR (ci := 9) (q0 := 0) hK (kPc_sub hP [0, 1, 2] rfl) rfl rfl rfl) rfl rfl hl.1 rfl (lv_room (Nat.le_of_ble_eq_true rfl)) dX8_ask_27 ⟨Nat.le_of_ble_eq_true rfl, Nat.le_of_ble_eq_true rfl⟩) (fun v_1 hv_1 => ?_)
        obtain rfl := hv_1
        refine W.eq (g2 := F0 m 30 ls [.int (nI (manyF im x T (2 ^ T)))]) rfl ?_
        have ew_0 : (x : Nat → Int32) = zro an 12 := by first | rfl | (rw [ex, e12]; done) | (rw [em, e12]; done) | (rw [ey, e12]; done) | (rw [e12]; done) | (simp [hi, ex, c_10, nc_10]; done) | (simp_all []; done)
        exact kRetI hx hb hr hlk dX8_ask_30 hP hD hS (Nat.le_of_ble_eq_true rfl) (Nat.le_of_ble_eq_true rfl) ⟨(kpi (by rw [ex, e12]; exact congrArg nI (manyF_zro im an T hT))), (kw1 (fun (z_0 : Nat → Int32) => ([(z, .inr (9, [.ref a0, .ref a1, .int (nI T), .ref a2, .ref a3, .ref a4, .ref a5, .ref a6, .int (nI P), .int pa, .int kn, .ref a7, .int (nI rn), .ref a8, .ref a9, .int (nI ln), .ref a10, .int 0, .ref a11, .ref a12, .int wt, .ref a13, .ref a14, .ref a15])), (a1, .inl (cI, 12, .inl im)), (a10, .inl (cI, 12, .inl z_0))] : va_W)) ew_0)⟩
      · skip
        have nc_10 : ¬ 12 ≤ i := (not_congr (nI_leI (a := 12) (b := i) (by omega) (by omega))).mp c_10
        refine lv_aload_n hx hb dX8_ask_13 rfl (lv_at hl 0 rfl) ?_
        refine va_get (D := D) (ci := 9) (v := .ref a10) (C := RX8) (T := TX8) (N := 24) hx hb hts hi_X8 hown hK.1 hP 0 rfl rfl 16 (by decide) hw_f44 (fun _ h9 => h9) rfl dX8_ask_14 ?_
        refine lv_iload_n hx hb dX8_ask_17 rfl (lv_at hl 1 rfl) ?_
        refine lv_iconst (v := 0) hx hb dX8_ask_18 (by decide) ?_
        refine va_iast hx hb hK.1 hP hD hS 2 0 rfl rfl (vp_in_nI (by omega) (by omega)) dX8_ask_19 (fun H locs hP hD hS => ?_)
        rw [nI_clamp (by omega)] at hP hD
        have hP : va_P D vwCl [(z, .inr (9, [.ref a0, .ref a1, .int (nI T), .ref a2, .ref a3, .ref a4, .ref a5, .ref a6, .int (nI P), .int pa, .int kn, .ref a7, .int (nI rn), .ref a8, .ref a9, .int (nI ln), .ref a10, .int 0, .ref a11, .ref a12, .int wt, .ref a13, .ref a14, .ref a15])), (a1, .inl (cI, 12, .inl im)), (a10, .inl (cI, 12, .inl (upd x i 0)))] H := hP
        have hD : va_D _ [(z, .inr (9, [.ref a0, .ref a1, .int (nI T), .ref a2, .ref a3, .ref a4, .ref a5, .ref a6, .int (nI P), .int pa, .int kn, .ref a7, .int (nI rn), .ref a8, .ref a9, .int (nI ln), .ref a10, .int 0, .ref a11, .ref a12, .int wt, .ref a13, .ref a14, .ref a15])), (a1, .inl (cI, 12, .inl im)), (a10, .inl (cI, 12, .inl (upd x i 0)))] := hD
        refine lv_iinc (v := nI (i + 1)) (lv' := [(1, .int (nI (i + 1))), (0, .ref z)]) hx hb dX8_ask_20 hl (k := 1) rfl (nI_1 _) (by decide) rfl (fun ls hl => ?_)
        refine lv_goto (tgt := 7) hx hb dX8_ask_23 (by decide) ?_
        exact ih_7  (i + 1) (upd x i 0) (by omega) (by first | omega | assumption | exact Nat.zero_le _) (by rw [ex]; exact zro_s an i) _ _ hP hD hS _ (lv_sub hl [1, 0] rfl)
  exact hloop_7 ((12 - 0) + 1) 0 an (Nat.lt_succ_self _) (by first | omega | assumption | exact Nat.zero_le _) (by exact (zro_0 an).symm) _ _ hP hD hS _ (lv_sub hl [1, 0] rfl)
