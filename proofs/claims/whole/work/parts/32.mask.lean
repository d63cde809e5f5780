/-! ===== the reference: asking ===== -/
def answB (im an : Nat → Int32) (T : Nat) (t : Int32) (is : Bool) : Bool := withinB t 0 (nI T - 1) && decide (an t.toNatClampNeg = 0) && decide (¬ ansM im an T t.toNatClampNeg is ≤ 0)
theorem upd_back {f : Nat → Int32} {j : Nat} {x : Int32} (h : f j = 0) : upd (upd f j x) j 0 = f := by
  funext i
  unfold upd
  by_cases e : i = j
  · subst e; simp [h]
  · simp [e]
def setF (im an : Nat → Int32) (T : Nat) : Nat → Int32
  | 0 => (1 <<< (nI T &&& 31)) - 1
  | v + 1 => if stateB im an T (nI v) then setF im an T v &&& nI v else setF im an T v
def qN (im an : Nat → Int32) (T t : Nat) : Nat → Nat
  | 0 => 0
  | v + 1 => if hasB (nI v) (nI t) && stateB im an T (nI v) then qN im an T t v + 1 else qN im an T t v
theorem qN_le (im an : Nat → Int32) (T t : Nat) : ∀ v, qN im an T t v ≤ manyF im an T v
  | 0 => Nat.le_refl _
  | v + 1 => by
    have := qN_le im an T t v
    unfold qN manyF
    cases hasB (nI v) (nI t) <;> cases stateB im an T (nI v) <;> simp <;> omega
def moreQ (all n : Nat) : Nat := if n ≤ all - n then all - n else n
def qF (im an : Nat → Int32) (T : Nat) : Nat → Int32 × Nat
  | 0 => (-1, 0)
  | t + 1 => if ¬ an t = 0 ∨ qN im an T t (2 ^ T) = 0 ∨ qN im an T t (2 ^ T) = manyF im an T (2 ^ T) then qF im an T t
    else if ¬ (qF im an T t).1 = -1 ∧ ¬ moreQ (manyF im an T (2 ^ T)) (qN im an T t (2 ^ T)) < (qF im an T t).2 then qF im an T t
    else (nI t, moreQ (manyF im an T (2 ^ T)) (qN im an T t (2 ^ T)))
def stO (im an : Nat → Int32) (T j : Nat) : Nat → Option Nat
  | 0 => none
  | v + 1 => match stO im an T j v with
    | some r => some r
    | none => if stateB im an T (nI v) = true ∧ manyF im an T v = j then some v else none
theorem stO_keep {im an : Nat → Int32} {T j v r : Nat} (h : stO im an T j v = some r) : ∀ d, stO im an T j (v + d) = some r
  | 0 => h
  | d + 1 => by
    have := stO_keep h d
    show (match stO im an T j (v + d) with | some r => some r | none => _) = some r
    rw [this]
theorem stO_hit {im an : Nat → Int32} {T j v N : Nat} (h : stO im an T j v = none) (h1 : stateB im an T (nI v) = true) (h2 : manyF im an T v = j) (hv : v < N) : stO im an T j N = some v := by
  have e : stO im an T j (v + 1) = some v := by
    show (match stO im an T j v with | some r => some r | none => _) = some v
    rw [h]
    exact if_pos ⟨h1, h2⟩
  have := stO_keep e (N - (v + 1))
  rwa [show v + 1 + (N - (v + 1)) = N by omega] at this
theorem stO_miss {im an : Nat → Int32} {T j v : Nat} (h : stO im an T j v = none) (h1 : ¬ (stateB im an T (nI v) = true ∧ manyF im an T v = j)) : stO im an T j (v + 1) = none := by
  show (match stO im an T j v with | some r => some r | none => _) = none
  rw [h]
  exact if_neg h1
def oV (o : Option Nat) : Int32 := match o with
  | none => 0
  | some r => nI r
def oT (o : Option Nat) : Int32 := match o with
  | none => 1
  | some _ => 0
theorem kdecq {j q : Nat} (h : q < j) : nI (j - q) + Int32.ofInt (-1) = nI (j - (q + 1)) := by
  have e : nI (j - q) - 1 = nI (j - q - 1) := pk_sub (a := j - q) (b := 1) (by omega)
  rw [show j - (q + 1) = j - q - 1 by omega, ← e, Int32.sub_eq_add_neg]
  rfl

set_option maxHeartbeats 4000000 in
set_option maxRecDepth 100000 in
theorem c_X8_gaps (l : Launch) (D : va_G) (cI cJ cZ cO : ClassId) (z : Nat) (a0 : Nat) (a1 : Nat) (a2 : Nat) (a3 : Nat) (a4 : Nat) (a5 : Nat) (a6 : Nat) (a7 : Nat) (a8 : Nat) (a9 : Nat) (a10 : Nat) (a11 : Nat) (a12 : Nat) (a13 : Nat) (a14 : Nat) (a15 : Nat) (T : Nat) (P : Nat) (pa : Int32) (kn : Int32) (rn : Nat) (ln : Nat) (th : Int32) (wt : Int32) (im : Nat → Int32) (ne : Nat → Int32) (gi : Nat → Int32) (hT : T ≤ 12) (hP14 : P ≤ 14) : kC l D (kTY cI cJ cZ cO) yX8_gaps wsX8_gaps 1 23 0 0 [.ref z] [(z, .inr (9, [.ref a0, .ref a1, .int (nI T), .ref a2, .ref a3, .ref a4, .ref a5, .ref a6, .int (nI P), .int pa, .int kn, .ref a7, .int (nI rn), .ref a8, .ref a9, .int (nI ln), .ref a10, .int th, .ref a11, .ref a12, .int wt, .ref a13, .ref a14, .ref a15])), (a1, .inl (cI, 12, .inl im)), (a2, .inl (cI, 14, .inl ne)), (a4, .inl (cI, 14, .inl gi))] (fun rv_ rw_ => rv_ = some (.int (wantF ne P &&& (gvnF im gi T kn P ^^^ (-1)))) ∧ rw_ = [(z, .inr (9, [.ref a0, .ref a1, .int (nI T), .ref a2, .ref a3, .ref a4, .ref a5, .ref a6, .int (nI P), .int pa, .int kn, .ref a7, .int (nI rn), .ref a8, .ref a9, .int (nI ln), .ref a10, .int 0, .ref a11, .ref a12, .int wt, .ref a13, .ref a14, .ref a15])), (a1, .inl (cI, 12, .inl im)), (a2, .inl (cI, 14, .inl ne)), (a4, .inl (cI, 14, .inl gi))]) := by
  refine kEnter (cc := cX8_gaps) (maxL := 4) (ret := (some .int)) (by decide) rfl (Nat.le_of_ble_eq_true rfl) ?_
  intro p e s m args below meth c hx hb hr hml hts hown hlk hnm hK hP hD hS hA ls hl
  have hl : lv_has ls 4 [(0, .ref z)] := hl
  have hw_f63 := hts (.fieldLink RX8 63 "WhatToReadModel" "thrown" "I") (by decide +kernel)
  have hi_X8 : ∀ w ∈ wsX80, w ∈ wsX8_gaps := by decide +kernel
  have hw_f84 := hts (.fieldLink RX8 84 "WhatToReadModel" "known" "I") (by decide +kernel)
  have hw_f73 := hts (.fieldLink RX8 73 "WhatToReadModel" "pieces" "I") (by decide +kernel)
  have hw_f16 := hts (.fieldLink RX8 16 "WhatToReadModel" "needs" "[I") (by decide +kernel)
  have hw_f22 := hts (.fieldLink RX8 22 "WhatToReadModel" "gives" "[I") (by decide +kernel)
  refine lv_aload_n hx hb dX8_gaps_0 rfl (lv_at hl 0 rfl) ?_
  refine lv_iconst (v := 0) hx hb dX8_gaps_1 (by decide) ?_
  refine va_put (D := D) (ci := 9) (v := .int 0) (ty := .int) (C := RX8) (T := TX8) (N := 24) hx hb hts hi_X8 tyX8 tyX8_ok nmX8 hown hK.1 hP hD hS 0 rfl rfl 17 (by decide) hw_f63 (fun _ h9 => h9) rfl (by decide +kernel) rfl rfl (Nat.le_of_ble_eq_true rfl) dX8_gaps_2 (fun H locs hP hD hS => ?_)
  have hP : va_P D vwCl [(z, .inr (9, [.ref a0, .ref a1, .int (nI T), .ref a2, .ref a3, .ref a4, .ref a5, .ref a6, .int (nI P), .int pa, .int kn, .ref a7, .int (nI rn), .ref a8, .ref a9, .int (nI ln), .ref a10, .int 0, .ref a11, .ref a12, .int wt, .ref a13, .ref a14, .ref a15])), (a1, .inl (cI, 12, .inl im)), (a2, .inl (cI, 14, .inl ne)), (a4, .inl (cI, 14, .inl gi))] H := hP
  have hD : va_D _ [(z, .inr (9, [.ref a0, .ref a1, .int (nI T), .ref a2, .ref a3, .ref a4, .ref a5, .ref a6, .int (nI P), .int pa, .int kn, .ref a7, .int (nI rn), .ref a8, .ref a9, .int (nI ln), .ref a10, .int 0, .ref a11, .ref a12, .int wt, .ref a13, .ref a14, .ref a15])), (a1, .inl (cI, 12, .inl im)), (a2, .inl (cI, 14, .inl ne)), (a4, .inl (cI, 14, .inl gi))] := hD
  refine lv_iconst (v := 0) hx hb dX8_gaps_5 (by decide) ?_
  refine lv_istore_n (lv' := [(1, .int 0), (0, .ref z)]) hx hb dX8_gaps_6 rfl hl (by decide) rfl (fun ls hl => ?_)
  refine lv_aload_n hx hb dX8_gaps_7 rfl (lv_at hl 1 rfl) ?_
  refine va_get (D := D) (ci := 9) (v := .int kn) (C := RX8) (T := TX8) (N := 24) hx hb hts hi_X8 hown hK.1 hP 0 rfl rfl 10 (by decide) hw_f84 (fun _ h9 => h9) rfl dX8_gaps_8 ?_
  refine lv_istore_n (lv' := [(2, .int kn), (1, .int 0), (0, .ref z)]) hx hb dX8_gaps_11 rfl hl (by decide) rfl (fun ls hl => ?_)
  refine lv_iconst (v := 0) hx hb dX8_gaps_12 (by decide) ?_
  refine lv_istore_n (lv' := [(3, .int 0), (2, .int kn), (1, .int 0), (0, .ref z)]) hx hb dX8_gaps_13 rfl hl (by decide) rfl (fun ls hl => ?_)
  have hloop_14 : ∀ (fu : Nat) (pq : Nat) (x : Int32) (y : Int32), P - pq < fu → pq ≤ P → x = wantF ne pq → y = gvnF im gi T kn pq → ∀ (H : Heap) (locs : List Loc), va_P D vwCl [(z, .inr (9, [.ref a0, .ref a1, .int (nI T), .ref a2, .ref a3, .ref a4, .ref a5, .ref a6, .int (nI P), .int pa, .int kn, .ref a7, .int (nI rn), .ref a8, .ref a9, .int (nI ln), .ref a10, .int 0, .ref a11, .ref a12, .int wt, .ref a13, .ref a14, .ref a15])), (a1, .inl (cI, 12, .inl im)), (a2, .inl (cI, 14, .inl ne)), (a4, .inl (cI, 14, .inl gi))] H → va_D (va_A [(z, .inr (9, [.ref a0, .ref a1, .int (nI T), .ref a2, .ref a3, .ref a4, .ref a5, .ref a6, .int (nI P), .int pa, .int kn, .ref a7, .int (nI rn), .ref a8, .ref a9, .int (nI ln), .ref a10, .int th, .ref a11, .ref a12, .int wt, .ref a13, .ref a14, .ref a15])), (a1, .inl (cI, 12, .inl im)), (a2, .inl (cI, 14, .inl ne)), (a4, .inl (cI, 14, .inl gi))] s.heap.size) [(z, .inr (9, [.ref a0, .ref a1, .int (nI T), .ref a2, .ref a3, .ref a4, .ref a5, .ref a6, .int (nI P), .int pa, .int kn, .ref a7, .int (nI rn), .ref a8, .ref a9, .int (nI ln), .ref a10, .int 0, .ref a11, .ref a12, .int wt, .ref a13, .ref a14, .ref a15])), (a1, .inl (cI, 12, .inl im)), (a2, .inl (cI, 14, .inl ne)), (a4, .inl (cI, 14, .inl gi))] → va_S (va_A [(z, .inr (9, [.ref a0, .ref a1, .int (nI T), .ref a2, .ref a3, .ref a4, .ref a5, .ref a6, .int (nI P), .int pa, .int kn, .ref a7, .int (nI rn), .ref a8, .ref a9, .int (nI ln), .ref a10, .int th, .ref a11, .ref a12, .int wt, .ref a13, .ref a14, .ref a15])), (a1, .inl (cI, 12, .inl im)), (a2, .inl (cI, 14, .inl ne)), (a4, .inl (cI, 14, .inl gi))] s.heap.size) s.heap H locs → ∀ ls : Array Slot, lv_has ls 4 [(0, .ref z), (1, .int x), (2, .int y), (3, .int (nI pq))] → W p l e ({ frames := 1, cells := 0, slots := 0, locals := 23 }) s m args below meth c H locs 0 0 (MQ below (kQ D [(z, .inr (9, [.ref a0, .ref a1, .int (nI T), .ref a2, .ref a3, .ref a4, .ref a5, .ref a6, .int (nI P), .int pa, .int kn, .ref a7, .int (nI rn), .ref a8, .ref a9, .int (nI ln), .ref a10, .int th, .ref a11, .ref a12, .int wt, .ref a13, .ref a14, .ref a15])), (a1, .inl (cI, 12, .inl im)), (a2, .inl (cI, 14, .inl ne)), (a4, .inl (cI, 14, .inl gi))] s.heap.size (fun rv_ rw_ => rv_ = some (.int (wantF ne P &&& (gvnF im gi T kn P ^^^ (-1)))) ∧ rw_ = [(z, .inr (9, [.ref a0, .ref a1, .int (nI T), .ref a2, .ref a3, .ref a4, .ref a5, .ref a6, .int (nI P), .int pa, .int kn, .ref a7, .int (nI rn), .ref a8, .ref a9, .int (nI ln), .ref a10, .int 0, .ref a11, .ref a12, .int wt, .ref a13, .ref a14, .ref a15])), (a1, .inl (cI, 12, .inl im)), (a2, .inl (cI, 14, .inl ne)), (a4, .inl (cI, 14, .inl gi))])) args s 0 0 (va_A [(z, .inr (9, [.ref a0, .ref a1, .int (nI T), .ref a2, .ref a3, .ref a4, .ref a5, .ref a6, .int (nI P), .int pa, .int kn, .ref a7, .int (nI rn), .ref a8, .ref a9, .int (nI ln), .ref a10, .int th, .ref a11, .ref a12, .int wt, .ref a13, .ref a14, .ref a15])), (a1, .inl (cI, 12, .inl im)), (a2, .inl (cI, 14, .inl ne)), (a4, .inl (cI, 14, .inl gi))] s.heap.size)) (F0 m 14 ls []) := by
    intro fu
    induction fu with
    | zero => intro pq x y hmu; exact absurd hmu (Nat.not_lt_zero _)
    | succ fu ih_14 =>
      intro pq x y hmu_14 hp ex ey H locs hP hD hS ls hl
      refine lv_iload_n hx hb dX8_gaps_14 rfl (lv_at hl 3 rfl) ?_
      refine lv_aload_n hx hb dX8_gaps_15 rfl (lv_at hl 0 rfl) ?_
      refine va_get (D := D) (ci := 9) (v := .int (nI P)) (C := RX8) (T := TX8) (N := 24) hx hb hts hi_X8 hown hK.1 hP 0 rfl rfl 8 (by decide) hw_f73 (fun _ h9 => h9) rfl dX8_gaps_16 ?_
      refine lv_icmp_ge (tgt := 50) hx hb dX8_gaps_19 (by decide) (fun c_19 => ?_) (fun c_19 => ?_)
      · skip
        have nc_19 : P ≤ pq := (nI_leI (a := P) (b := pq) (by omega) (by omega)).mp c_19
        have e12 : pq = P := by omega
        refine lv_iload_n hx hb dX8_gaps_50 rfl (lv_at hl 1 rfl) ?_
        refine lv_iload_n hx hb dX8_gaps_51 rfl (lv_at hl 2 rfl) ?_
        refine lv_iconst (v := (-1)) hx hb dX8_gaps_52 (by decide) ?_
        refine lv_ixor hx hb dX8_gaps_53 ?_
        refine lv_iand hx hb dX8_gaps_54 ?_
        exact kRetI hx hb hr hlk dX8_gaps_55 hP hD hS (Nat.le_of_ble_eq_true rfl) (Nat.le_of_ble_eq_true rfl) ⟨(kpi (by rw [ex, ey, e12])), rfl⟩
      · skip
        have nc_19 : ¬ P ≤ pq := (not_congr (nI_leI (a := P) (b := pq) (by omega) (by omega))).mp c_19
        refine lv_iload_n hx hb dX8_gaps_22 rfl (lv_at hl 1 rfl) ?_
        refine lv_aload_n hx hb dX8_gaps_23 rfl (lv_at hl 0 rfl) ?_
        refine va_get (D := D) (ci := 9) (v := .ref a2) (C := RX8) (T := TX8) (N := 24) hx hb hts hi_X8 hown hK.1 hP 0 rfl rfl 3 (by decide) hw_f16 (fun _ h9 => h9) rfl dX8_gaps_24 ?_
        refine lv_iload_n hx hb dX8_gaps_27 rfl (lv_at hl 3 rfl) ?_
        refine va_iald hx hb hK.1 hP 2 0 rfl rfl (vp_in_nI (by omega) (by omega)) dX8_gaps_28 ?_
        refine lv_topi (fun nv_1 ev_1 => ?_)
        obtain rfl : nv_1 = ne pq := by rw [ev_1, nI_clamp (by omega)]
        refine lv_ior hx hb dX8_gaps_29 ?_
        refine lv_istore_n (lv' := [(1, .int (x ||| (ne pq))), (0, .ref z), (2, .int y), (3, .int (nI pq))]) hx hb dX8_gaps_30 rfl hl (by decide) rfl (fun ls hl => ?_)
        refine lv_iload_n hx hb dX8_gaps_31 rfl (lv_at hl 2 rfl) ?_
        refine lv_aload_n hx hb dX8_gaps_32 rfl (lv_at hl 1 rfl) ?_
        refine lv_aload_n hx hb dX8_gaps_33 rfl (lv_at hl 1 rfl) ?_
        refine va_get (D := D) (ci := 9) (v := .ref a4) (C := RX8) (T := TX8) (N := 24) hx hb hts hi_X8 hown hK.1 hP 0 rfl rfl 5 (by decide) hw_f22 (fun _ h9 => h9) rfl dX8_gaps_34 ?_
        refine lv_iload_n hx hb dX8_gaps_37 rfl (lv_at hl 3 rfl) ?_
        refine va_iald hx hb hK.1 hP 3 0 rfl rfl (vp_in_nI (by omega) (by omega)) dX8_gaps_38 ?_
        refine lv_topi (fun nv_2 ev_2 => ?_)
        obtain rfl : nv_2 = gi pq := by rw [ev_2, nI_clamp (by omega)]
        refine kGoR (va_runV (As := [.int (gi pq)]) (rest := [.int y]) ⟨hx, hb, hml, hown, hts⟩ (c_X8_withAll l D cI cJ cZ cO z a0 a1 a2 a3 a4 a5 a6 a7 a8 a9 a10 a11 a12 a13 a14 a15 T P pa kn rn ln 0 wt im (gi pq) (by first | assumption | omega | decide)) (cwV 1 hts gX8_gaps_X8_withAll rfl rfl rfl (by decide +kernel) ⟨Nat.le_of_ble_eq_true rfl, Nat.le_of_ble_eq_true rfl⟩) (kPreVR (ci := 9) (q0 := 0) hK (kPc_sub hP [0, 1] rfl) rfl rfl rfl) rfl rfl hl.1 rfl (lv_room (Nat.le_of_ble_eq_true rfl)) dX8_gaps_39 ⟨Nat.le_of_ble_eq_true rfl, Nat.le_of_ble_eq_true rfl⟩) (fun v_3 hv_3 => ?_)
        obtain rfl := hv_3
        refine W.eq (g2 := F0 m 42 ls [.int (closF im (gi pq) T), .int y]) rfl ?_
        refine lv_ior hx hb dX8_gaps_42 ?_
        refine lv_istore_n (lv' := [(2, .int (y ||| (closF im (gi pq) T))), (1, .int (x ||| (ne pq))), (0, .ref z), (3, .int (nI pq))]) hx hb dX8_gaps_43 rfl hl (by decide) rfl (fun ls hl => ?_)
        refine lv_iinc (v := nI (pq + 1)) (lv' := [(3, .int (nI (pq + 1))), (2, .int (y ||| (closF im (gi pq) T))), (1, .int (x ||| (ne pq))), (0, .ref z)]) hx hb dX8_gaps_44 hl (k := 3) rfl (nI_1 _) (by decide) rfl (fun ls hl => ?_)
        refine lv_goto (tgt := 14) hx hb dX8_gaps_47 (by decide) ?_
        exact ih_14  (pq + 1) (x ||| (ne pq)) (y ||| (closF im (gi pq) T)) (by omega) (by first | omega | assumption | exact Nat.zero_le _) (by rw [ex]; rfl) (by rw [ey]; rfl) _ _ hP hD hS _ (lv_sub hl [3, 2, 1, 0] rfl)
  exact hloop_14 ((P - 0) + 1) 0 0 kn (Nat.lt_succ_self _) (by first | omega | assumption | exact Nat.zero_le _) (by rfl) (by rfl) _ _ hP hD hS _ (lv_sub hl [3, 2, 1, 0] rfl)

set_option maxHeartbeats 4000000 in
set_option maxRecDepth 100000 in
theorem c_X8_answer (l : Launch) (D : va_G) (cI cJ cZ cO : ClassId) (z : Nat) (a0 : Nat) (a1 : Nat) (a2 : Nat) (a3 : Nat) (a4 : Nat) (a5 : Nat) (a6 : Nat) (a7 : Nat) (a8 : Nat) (a9 : Nat) (a10 : Nat) (a11 : Nat) (a12 : Nat) (a13 : Nat) (a14 : Nat) (a15 : Nat) (T : Nat) (P : Nat) (pa : Int32) (kn : Int32) (rn : Nat) (ln : Nat) (th : Int32) (wt : Int32) (im : Nat → Int32) (an : Nat → Int32) (t : Int32) (is : Bool) (hT : T ≤ 12) : kC l D (kTY cI cJ cZ cO) yX8_answer wsX8_answer 3 67 0 0 [.ref z, .int t, .int (k01 is)] [(z, .inr (9, [.ref a0, .ref a1, .int (nI T), .ref a2, .ref a3, .ref a4, .ref a5, .ref a6, .int (nI P), .int pa, .int kn, .ref a7, .int (nI rn), .ref a8, .ref a9, .int (nI ln), .ref a10, .int th, .ref a11, .ref a12, .int wt, .ref a13, .ref a14, .ref a15])), (a1, .inl (cI, 12, .inl im)), (a10, .inl (cI, 12, .inl an))] (fun rv_ rw_ => rv_ = some (.int (if answB im an T t is then nI (ansM im an T t.toNatClampNeg is) else -1)) ∧ rw_ = [(z, .inr (9, [.ref a0, .ref a1, .int (nI T), .ref a2, .ref a3, .ref a4, .ref a5, .ref a6, .int (nI P), .int pa, .int kn, .ref a7, .int (nI rn), .ref a8, .ref a9, .int (nI ln), .ref a10, .int 0, .ref a11, .ref a12, .int wt, .ref a13, .ref a14, .ref a15])), (a1, .inl (cI, 12, .inl im)), (a10, .inl (cI, 12, .inl (if answB im an T t is then upd an t.toNatClampNeg (if is then 1 else 2) else an)))]) := by
  refine kEnter (cc := cX8_answer) (maxL := 4) (ret := (some .int)) (by decide) rfl (Nat.le_of_ble_eq_true rfl) ?_
  intro p e s m args below meth c hx hb hr hml hts hown hlk hnm hK hP hD hS hA ls hl
  have hl : lv_has ls 4 [(0, .ref z), (1, .int t), (2, .int (k01 is))] := hl
  have hw_f63 := hts (.fieldLink RX8 63 "WhatToReadModel" "thrown" "I") (by decide +kernel)
  have hi_X8 : ∀ w ∈ wsX80, w ∈ wsX8_answer := by decide +kernel
  have hw_f66 := hts (.fieldLink RX8 66 "WhatToReadModel" "topics" "I") (by decide +kernel)
  have hw_f44 := hts (.fieldLink RX8 44 "WhatToReadModel" "answers" "[I") (by decide +kernel)
  refine lv_aload_n hx hb dX8_answer_0 rfl (lv_at hl 0 rfl) ?_
  refine lv_iconst (v := 0) hx hb dX8_answer_1 (by decide) ?_
  refine va_put (D := D) (ci := 9) (v := .int 0) (ty := .int) (C := RX8) (T := TX8) (N := 24) hx hb hts hi_X8 tyX8 tyX8_ok nmX8 hown hK.1 hP hD hS 0 rfl rfl 17 (by decide) hw_f63 (fun _ h9 => h9) rfl (by decide +kernel) rfl rfl (Nat.le_of_ble_eq_true rfl) dX8_answer_2 (fun H locs hP hD hS => ?_)
  have hP : va_P D vwCl [(z, .inr (9, [.ref a0, .ref a1, .int (nI T), .ref a2, .ref a3, .ref a4, .ref a5, .ref a6, .int (nI P), .int pa, .int kn, .ref a7, .int (nI rn), .ref a8, .ref a9, .int (nI ln), .ref a10, .int 0, .ref a11, .ref a12, .int wt, .ref a13, .ref a14, .ref a15])), (a1, .inl (cI, 12, .inl im)), (a10, .inl (cI, 12, .inl an))] H := hP
  have hD : va_D _ [(z, .inr (9, [.ref a0, .ref a1, .int (nI T), .ref a2, .ref a3, .ref a4, .ref a5, .ref a6, .int (nI P), .int pa, .int kn, .ref a7, .int (nI rn), .ref a8, .ref a9, .int (nI ln), .ref a10, .int 0, .ref a11, .ref a12, .int wt, .ref a13, .ref a14, .ref a15])), (a1, .inl (cI, 12, .inl im)), (a10, .inl (cI, 12, .inl an))] := hD
  refine lv_iload_n hx hb dX8_answer_5 rfl (lv_at hl 1 rfl) ?_
  refine lv_iconst (v := 0) hx hb dX8_answer_6 (by decide) ?_
  refine lv_aload_n hx hb dX8_answer_7 rfl (lv_at hl 0 rfl) ?_
  refine va_get (D := D) (ci := 9) (v := .int (nI T)) (C := RX8) (T := TX8) (N := 24) hx hb hts hi_X8 hown hK.1 hP 0 rfl rfl 2 (by decide) hw_f66 (fun _ h9 => h9) rfl dX8_answer_8 ?_
  refine lv_iconst (v := 1) hx hb dX8_answer_11 (by decide) ?_
  refine lv_isub hx hb dX8_answer_12 ?_
  refine kGoR (va_runS (As := [.int t, .int 0, .int ((nI T) - 1)]) (rest := []) ⟨hx, hb, hml, hown, hts⟩ (c_X8_in l D cI cJ cZ cO t 0 ((nI T) - 1) ) (va_cwS 3 hts gX8_answer_X8_in rfl rfl rfl (by decide +kernel) ⟨Nat.le_of_ble_eq_true rfl, Nat.le_of_ble_eq_true rfl⟩) (kPreSR hK (kPc_sub hP [] rfl)) rfl rfl hl.1 rfl (lv_room (Nat.le_of_ble_eq_true rfl)) dX8_answer_13 ⟨Nat.le_of_ble_eq_true rfl, Nat.le_of_ble_eq_true rfl⟩) (fun v_1 hv_1 => ?_)
  obtain rfl := hv_1
  refine W.eq (g2 := F0 m 16 ls [.int (k01 (withinB t 0 ((nI T) - 1)))]) rfl ?_
  refine lv_if_eq (tgt := 28) hx hb dX8_answer_16 (by decide) (fun c_16 => ?_) (fun c_16 => ?_)
  · skip
    have c_16 := k01_z c_16
    refine lv_iconst (v := (-1)) hx hb dX8_answer_28 (by decide) ?_
    have ew_0 : (an : Nat → Int32) = if answB im an T t is then upd an t.toNatClampNeg (if is then 1 else 2) else an := by first | (have hok : answB im an T t is = true := (by simp [answB, ansM, c_16]; done); rw [hok]; first | rfl | (simp [ansM, c_16]; done)) | (have hok : answB im an T t is = false := (by simp [answB, ansM, c_16]; done); rw [hok]; first | rfl | (simp [upd_back, c_16]; done))
    exact kRetI hx hb hr hlk dX8_answer_29 hP hD hS (Nat.le_of_ble_eq_true rfl) (Nat.le_of_ble_eq_true rfl) ⟨(kpi (by first | (have hok : answB im an T t is = true := (by simp [answB, ansM, c_16]; done); rw [hok]; first | rfl | (simp [ansM, c_16]; done)) | (have hok : answB im an T t is = false := (by simp [answB, ansM, c_16]; done); rw [hok]; first | rfl | (simp [upd_back, c_16]; done)))), (kw1 (fun (z_0 : Nat → Int32) => ([(z, .inr (9, [.ref a0, .ref a1, .int (nI T), .ref a2, .ref a3, .ref a4, .ref a5, .ref a6, .int (nI P), .int pa, .int kn, .ref a7, .int (nI rn), .ref a8, .ref a9, .int (nI ln), .ref a10, .int 0, .ref a11, .ref a12, .int wt, .ref a13, .ref a14, .ref a15])), (a1, .inl (cI, 12, .inl im)), (a10, .inl (cI, 12, .inl z_0))] : va_W)) ew_0)⟩
  · skip
    have c_16 := k01_n c_16
    obtain ⟨j, hj, c_ek⟩ := vp_in_of (kwin c_16 (Nat.le_refl T) (by omega)) (by omega)
    have c_kk : withinB (nI j) 0 (nI T - 1) = true := by rw [← c_ek]; exact c_16
    have c_kc : (nI j).toNatClampNeg = j := nI_clamp (by omega)
    refine lv_aload_n hx hb dX8_answer_19 rfl (lv_at hl 0 rfl) ?_
    refine va_get (D := D) (ci := 9) (v := .ref a10) (C := RX8) (T := TX8) (N := 24) hx hb hts hi_X8 hown hK.1 hP 0 rfl rfl 16 (by decide) hw_f44 (fun _ h9 => h9) rfl dX8_answer_20 ?_
    refine lv_iload_n hx hb dX8_answer_23 rfl (lv_at hl 1 rfl) ?_
    refine lv_topi (fun nv_2 ev_2 => ?_)
    obtain rfl : nv_2 = nI j := ev_2.trans (c_ek)
    refine va_iald hx hb hK.1 hP 2 0 rfl rfl (vp_in_nI (by omega) (by omega)) dX8_answer_24 ?_
    refine lv_topi (fun nv_3 ev_3 => ?_)
    obtain rfl : nv_3 = an j := by rw [ev_3, nI_clamp (by omega)]
    refine lv_if_eq (tgt := 30) hx hb dX8_answer_25 (by decide) (fun c_25 => ?_) (fun c_25 => ?_)
    · skip
      refine lv_aload_n hx hb dX8_answer_30 rfl (lv_at hl 0 rfl) ?_
      refine va_get (D := D) (ci := 9) (v := .ref a10) (C := RX8) (T := TX8) (N := 24) hx hb hts hi_X8 hown hK.1 hP 0 rfl rfl 16 (by decide) hw_f44 (fun _ h9 => h9) rfl dX8_answer_31 ?_
      refine lv_iload_n hx hb dX8_answer_34 rfl (lv_at hl 1 rfl) ?_
      refine lv_topi (fun nv_4 ev_4 => ?_)
      obtain rfl : nv_4 = nI j := ev_4.trans (c_ek)
      refine lv_iload_n hx hb dX8_answer_35 rfl (lv_at hl 2 rfl) ?_
      refine lv_if_eq (tgt := 43) hx hb dX8_answer_36 (by decide) (fun c_36 => ?_) (fun c_36 => ?_)
      · skip
        have c_36 := k01_z c_36
        refine lv_iconst (v := 2) hx hb dX8_answer_43 (by decide) ?_
        refine va_iast hx hb hK.1 hP hD hS 2 0 rfl rfl (vp_in_nI (by omega) (by omega)) dX8_answer_44 (fun H locs hP hD hS => ?_)
        rw [nI_clamp (by omega)] at hP hD
        have hP : va_P D vwCl [(z, .inr (9, [.ref a0, .ref a1, .int (nI T), .ref a2, .ref a3, .ref a4, .ref a5, .ref a6, .int (nI P), .int pa, .int kn, .ref a7, .int (nI rn), .ref a8, .ref a9, .int (nI ln), .ref a10, .int 0, .ref a11, .ref a12, .int wt, .ref a13, .ref a14, .ref a15])), (a1, .inl (cI, 12, .inl im)), (a10, .inl (cI, 12, .inl (upd an j 2)))] H := hP
        have hD : va_D _ [(z, .inr (9, [.ref a0, .ref a1, .int (nI T), .ref a2, .ref a3, .ref a4, .ref a5, .ref a6, .int (nI P), .int pa, .int kn, .ref a7, .int (nI rn), .ref a8, .ref a9, .int (nI ln), .ref a10, .int 0, .ref a11, .ref a12, .int wt, .ref a13, .ref a14, .ref a15])), (a1, .inl (cI, 12, .inl im)), (a10, .inl (cI, 12, .inl (upd an j 2)))] := hD
        have hm1 := manyF_le im (upd an j 1) T (2 ^ T)
        have hm2 := manyF_le im (upd an j 2) T (2 ^ T)
        have hpw := kpow hT
        refine lv_aload_n hx hb dX8_answer_45 rfl (lv_at hl 0 rfl) ?_
        refine kGoR (va_runV (As := []) (rest := []) ⟨hx, hb, hml, hown, hts⟩ (c_X8_stateMany l D cI cJ cZ cO z a0 a1 a2 a3 a4 a5 a6 a7 a8 a9 a10 a11 a12 a13 a14 a15 T P pa kn rn ln 0 wt im (upd an j 2) (by first | assumption | omega | decide)) (cwV 0 hts gX8_answer_X8_stateMany rfl rfl rfl (by decide +kernel) ⟨Nat.le_of_ble_eq_true rfl, Nat.le_of_ble_eq_true rfl⟩) (kPreVR (ci := 9) (q0 := 0) hK (kPc_sub hP [0, 1, 2] rfl) rfl rfl rfl) rfl rfl hl.1 rfl (lv_room (Nat.le_of_ble_eq_true rfl)) dX8_answer_46 ⟨Nat.le_of_ble_eq_true rfl, Nat.le_of_ble_eq_true rfl⟩) (fun v_5 hv_5 => ?_)
        obtain rfl := hv_5
        refine W.eq (g2 := F0 m 49 ls [.int (nI (manyF im (upd an j 2) T (2 ^ T)))]) rfl ?_
        refine lv_istore_n (lv' := [(3, .int (nI (manyF im (upd an j 2) T (2 ^ T)))), (0, .ref z), (1, .int t), (2, .int (k01 is))]) hx hb dX8_answer_49 rfl hl (by decide) rfl (fun ls hl => ?_)
        refine lv_iload_n hx hb dX8_answer_50 rfl (lv_at hl 0 rfl) ?_
        refine lv_if_le (tgt := 56) hx hb dX8_answer_51 (by decide) (fun c_51 => ?_) (fun c_51 => ?_)
        · skip
          have nc_51 : (manyF im (upd an j 2) T (2 ^ T)) ≤ 0 := (nI_leI (a := manyF im (upd an j 2) T (2 ^ T)) (b := 0) (by omega) (by omega)).mp c_51
          refine lv_aload_n hx hb dX8_answer_56 rfl (lv_at hl 1 rfl) ?_
          refine va_get (D := D) (ci := 9) (v := .ref a10) (C := RX8) (T := TX8) (N := 24) hx hb hts hi_X8 hown hK.1 hP 0 rfl rfl 16 (by decide) hw_f44 (fun _ h9 => h9) rfl dX8_answer_57 ?_
          refine lv_iload_n hx hb dX8_answer_60 rfl (lv_at hl 2 rfl) ?_
          refine lv_topi (fun nv_6 ev_6 => ?_)
          obtain rfl : nv_6 = nI j := ev_6.trans (c_ek)
          refine lv_iconst (v := 0) hx hb dX8_answer_61 (by decide) ?_
          refine va_iast hx hb hK.1 hP hD hS 2 0 rfl rfl (vp_in_nI (by omega) (by omega)) dX8_answer_62 (fun H locs hP hD hS => ?_)
          rw [nI_clamp (by omega)] at hP hD
          have hP : va_P D vwCl [(z, .inr (9, [.ref a0, .ref a1, .int (nI T), .ref a2, .ref a3, .ref a4, .ref a5, .ref a6, .int (nI P), .int pa, .int kn, .ref a7, .int (nI rn), .ref a8, .ref a9, .int (nI ln), .ref a10, .int 0, .ref a11, .ref a12, .int wt, .ref a13, .ref a14, .ref a15])), (a1, .inl (cI, 12, .inl im)), (a10, .inl (cI, 12, .inl (upd (upd an j 2) j 0)))] H := hP
          have hD : va_D _ [(z, .inr (9, [.ref a0, .ref a1, .int (nI T), .ref a2, .ref a3, .ref a4, .ref a5, .ref a6, .int (nI P), .int pa, .int kn, .ref a7, .int (nI rn), .ref a8, .ref a9, .int (nI ln), .ref a10, .int 0, .ref a11, .ref a12, .int wt, .ref a13, .ref a14, .ref a15])), (a1, .inl (cI, 12, .inl im)), (a10, .inl (cI, 12, .inl (upd (upd an j 2) j 0)))] := hD
          refine lv_iconst (v := (-1)) hx hb dX8_answer_63 (by decide) ?_
          have ew_0 : (upd (upd an j 2) j 0 : Nat → Int32) = if answB im an T t is then upd an t.toNatClampNeg (if is then 1 else 2) else an := by first | (have hok : answB im an T t is = true := (by simp [answB, ansM, c_16, c_ek, c_kk, c_kc, c_25, c_36, c_51, nc_51]; done); rw [hok]; first | rfl | (simp [ansM, c_16, c_ek, c_kk, c_kc, c_25, c_36, c_51, nc_51]; done)) | (have hok : answB im an T t is = false := (by simp [answB, ansM, c_16, c_ek, c_kk, c_kc, c_25, c_36, c_51, nc_51]; done); rw [hok]; first | rfl | (simp [upd_back, c_16, c_ek, c_kk, c_kc, c_25, c_36, c_51, nc_51]; done))
          exact kRetI hx hb hr hlk dX8_answer_64 hP hD hS (Nat.le_of_ble_eq_true rfl) (Nat.le_of_ble_eq_true rfl) ⟨(kpi (by first | (have hok : answB im an T t is = true := (by simp [answB, ansM, c_16, c_ek, c_kk, c_kc, c_25, c_36, c_51, nc_51]; done); rw [hok]; first | rfl | (simp [ansM, c_16, c_ek, c_kk, c_kc, c_25, c_36, c_51, nc_51]; done)) | (have hok : answB im an T t is = false := (by simp [answB, ansM, c_16, c_ek, c_kk, c_kc, c_25, c_36, c_51, nc_51]; done); rw [hok]; first | rfl | (simp [upd_back, c_16, c_ek, c_kk, c_kc, c_25, c_36, c_51, nc_51]; done)))), (kw1 (fun (z_0 : Nat → Int32) => ([(z, .inr (9, [.ref a0, .ref a1, .int (nI T), .ref a2, .ref a3, .ref a4, .ref a5, .ref a6, .int (nI P), .int pa, .int kn, .ref a7, .int (nI rn), .ref a8, .ref a9, .int (nI ln), .ref a10, .int 0, .ref a11, .ref a12, .int wt, .ref a13, .ref a14, .ref a15])), (a1, .inl (cI, 12, .inl im)), (a10, .inl (cI, 12, .inl z_0))] : va_W)) ew_0)⟩
        · skip
          have nc_51 : ¬ (manyF im (upd an j 2) T (2 ^ T)) ≤ 0 := (not_congr (nI_leI (a := manyF im (upd an j 2) T (2 ^ T)) (b := 0) (by omega) (by omega))).mp c_51
          refine lv_iload_n hx hb dX8_answer_54 rfl (lv_at hl 0 rfl) ?_
          have ew_0 : (upd an j 2 : Nat → Int32) = if answB im an T t is then upd an t.toNatClampNeg (if is then 1 else 2) else an := by first | (have hok : answB im an T t is = true := (by simp [answB, ansM, c_16, c_ek, c_kk, c_kc, c_25, c_36, c_51, nc_51]; done); rw [hok]; first | rfl | (simp [ansM, c_16, c_ek, c_kk, c_kc, c_25, c_36, c_51, nc_51]; done)) | (have hok : answB im an T t is = false := (by simp [answB, ansM, c_16, c_ek, c_kk, c_kc, c_25, c_36, c_51, nc_51]; done); rw [hok]; first | rfl | (simp [upd_back, c_16, c_ek, c_kk, c_kc, c_25, c_36, c_51, nc_51]; done))
          exact kRetI hx hb hr hlk dX8_answer_55 hP hD hS (Nat.le_of_ble_eq_true rfl) (Nat.le_of_ble_eq_true rfl) ⟨(kpi (by first | (have hok : answB im an T t is = true := (by simp [answB, ansM, c_16, c_ek, c_kk, c_kc, c_25, c_36, c_51, nc_51]; done); rw [hok]; first | rfl | (simp [ansM, c_16, c_ek, c_kk, c_kc, c_25, c_36, c_51, nc_51]; done)) | (have hok : answB im an T t is = false := (by simp [answB, ansM, c_16, c_ek, c_kk, c_kc, c_25, c_36, c_51, nc_51]; done); rw [hok]; first | rfl | (simp [upd_back, c_16, c_ek, c_kk, c_kc, c_25, c_36, c_51, nc_51]; done)))), (kw1 (fun (z_0 : Nat → Int32) => ([(z, .inr (9, [.ref a0, .ref a1, .int (nI T), .ref a2, .ref a3, .ref a4, .ref a5, .ref a6, .int (nI P), .int pa, .int kn, .ref a7, .int (nI rn), .ref a8, .ref a9, .int (nI ln), .ref a10, .int 0, .ref a11, .ref a12, .int wt, .ref a13, .ref a14, .ref a15])), (a1, .inl (cI, 12, .inl im)), (a10, .inl (cI, 12, .inl z_0))] : va_W)) ew_0)⟩
      · skip
        have c_36 := k01_n c_36
        refine lv_iconst (v := 1) hx hb dX8_answer_39 (by decide) ?_
        refine lv_goto (tgt := 44) hx hb dX8_answer_40 (by decide) ?_
        refine va_iast hx hb hK.1 hP hD hS 2 0 rfl rfl (vp_in_nI (by omega) (by omega)) dX8_answer_44 (fun H locs hP hD hS => ?_)
        rw [nI_clamp (by omega)] at hP hD
        have hP : va_P D vwCl [(z, .inr (9, [.ref a0, .ref a1, .int (nI T), .ref a2, .ref a3, .ref a4, .ref a5, .ref a6, .int (nI P), .int pa, .int kn, .ref a7, .int (nI rn), .ref a8, .ref a9, .int (nI ln), .ref a10, .int 0, .ref a11, .ref a12, .int wt, .ref a13, .ref a14, .ref a15])), (a1, .inl (cI, 12, .inl im)), (a10, .inl (cI, 12, .inl (upd an j 1)))] H := hP
        have hD : va_D _ [(z, .inr (9, [.ref a0, .ref a1, .int (nI T), .ref a2, .ref a3, .ref a4, .ref a5, .ref a6, .int (nI P), .int pa, .int kn, .ref a7, .int (nI rn), .ref a8, .ref a9, .int (nI ln), .ref a10, .int 0, .ref a11, .ref a12, .int wt, .ref a13, .ref a14, .ref a15])), (a1, .inl (cI, 12, .inl im)), (a10, .inl (cI, 12, .inl (upd an j 1)))] := hD
        have hm1 := manyF_le im (upd an j 1) T (2 ^ T)
        have hm2 := manyF_le im (upd an j 2) T (2 ^ T)
        have hpw := kpow hT
        refine lv_aload_n hx hb dX8_answer_45 rfl (lv_at hl 0 rfl) ?_
        refine kGoR (va_runV (As := []) (rest := []) ⟨hx, hb, hml, hown, hts⟩ (c_X8_stateMany l D cI cJ cZ cO z a0 a1 a2 a3 a4 a5 a6 a7 a8 a9 a10 a11 a12 a13 a14 a15 T P pa kn rn ln 0 wt im (upd an j 1) (by first | assumption | omega | decide)) (cwV 0 hts gX8_answer_X8_stateMany rfl rfl rfl (by decide +kernel) ⟨Nat.le_of_ble_eq_true rfl, Nat.le_of_ble_eq_true rfl⟩) (kPreVR (ci := 9) (q0 := 0) hK (kPc_sub hP [0, 1, 2] rfl) rfl rfl rfl) rfl rfl hl.1 rfl (lv_room (Nat.le_of_ble_eq_true rfl)) dX8_answer_46 ⟨Nat.le_of_ble_eq_true rfl, Nat.le_of_ble_eq_true rfl⟩) (fun v_7 hv_7 => ?_)
        obtain rfl := hv_7
        refine W.eq (g2 := F0 m 49 ls [.int (nI (manyF im (upd an j 1) T (2 ^ T)))]) rfl ?_
        refine lv_istore_n (lv' := [(3, .int (nI (manyF im (upd an j 1) T (2 ^ T)))), (0, .ref z), (1, .int t), (2, .int (k01 is))]) hx hb dX8_answer_49 rfl hl (by decide) rfl (fun ls hl => ?_)
        refine lv_iload_n hx hb dX8_answer_50 rfl (lv_at hl 0 rfl) ?_
        refine lv_if_le (tgt := 56) hx hb dX8_answer_51 (by decide) (fun c_51 => ?_) (fun c_51 => ?_)
        · skip
          have nc_51 : (manyF im (upd an j 1) T (2 ^ T)) ≤ 0 := (nI_leI (a := manyF im (upd an j 1) T (2 ^ T)) (b := 0) (by omega) (by omega)).mp c_51
          refine lv_aload_n hx hb dX8_answer_56 rfl (lv_at hl 1 rfl) ?_
          refine va_get (D := D) (ci := 9) (v := .ref a10) (C := RX8) (T := TX8) (N := 24) hx hb hts hi_X8 hown hK.1 hP 0 rfl rfl 16 (by decide) hw_f44 (fun _ h9 => h9) rfl dX8_answer_57 ?_
          refine lv_iload_n hx hb dX8_answer_60 rfl (lv_at hl 2 rfl) ?_
          refine lv_topi (fun nv_8 ev_8 => ?_)
          obtain rfl : nv_8 = nI j := ev_8.trans (c_ek)
          refine lv_iconst (v := 0) hx hb dX8_answer_61 (by decide) ?_
          refine va_iast hx hb hK.1 hP hD hS 2 0 rfl rfl (vp_in_nI (by omega) (by omega)) dX8_answer_62 (fun H locs hP hD hS => ?_)
          rw [nI_clamp (by omega)] at hP hD
          have hP : va_P D vwCl [(z, .inr (9, [.ref a0, .ref a1, .int (nI T), .ref a2, .ref a3, .ref a4, .ref a5, .ref a6, .int (nI P), .int pa, .int kn, .ref a7, .int (nI rn), .ref a8, .ref a9, .int (nI ln), .ref a10, .int 0, .ref a11, .ref a12, .int wt, .ref a13, .ref a14, .ref a15])), (a1, .inl (cI, 12, .inl im)), (a10, .inl (cI, 12, .inl (upd (upd an j 1) j 0)))] H := hP
          have hD : va_D _ [(z, .inr (9, [.ref a0, .ref a1, .int (nI T), .ref a2, .ref a3, .ref a4, .ref a5, .ref a6, .int (nI P), .int pa, .int kn, .ref a7, .int (nI rn), .ref a8, .ref a9, .int (nI ln), .ref a10, .int 0, .ref a11, .ref a12, .int wt, .ref a13, .ref a14, .ref a15])), (a1, .inl (cI, 12, .inl im)), (a10, .inl (cI, 12, .inl (upd (upd an j 1) j 0)))] := hD
          refine lv_iconst (v := (-1)) hx hb dX8_answer_63 (by decide) ?_
          have ew_0 : (upd (upd an j 1) j 0 : Nat → Int32) = if answB im an T t is then upd an t.toNatClampNeg (if is then 1 else 2) else an := by first | (have hok : answB im an T t is = true := (by simp [answB, ansM, c_16, c_ek, c_kk, c_kc, c_25, c_36, c_51, nc_51]; done); rw [hok]; first | rfl | (simp [ansM, c_16, c_ek, c_kk, c_kc, c_25, c_36, c_51, nc_51]; done)) | (have hok : answB im an T t is = false := (by simp [answB, ansM, c_16, c_ek, c_kk, c_kc, c_25, c_36, c_51, nc_51]; done); rw [hok]; first | rfl | (simp [upd_back, c_16, c_ek, c_kk, c_kc, c_25, c_36, c_51, nc_51]; done))
          exact kRetI hx hb hr hlk dX8_answer_64 hP hD hS (Nat.le_of_ble_eq_true rfl) (Nat.le_of_ble_eq_true rfl) ⟨(kpi (by first | (have hok : answB im an T t is = true := (by simp [answB, ansM, c_16, c_ek, c_kk, c_kc, c_25, c_36, c_51, nc_51]; done); rw [hok]; first | rfl | (simp [ansM, c_16, c_ek, c_kk, c_kc, c_25, c_36, c_51, nc_51]; done)) | (have hok : answB im an T t is = false := (by simp [answB, ansM, c_16, c_ek, c_kk, c_kc, c_25, c_36, c_51, nc_51]; done); rw [hok]; first | rfl | (simp [upd_back, c_16, c_ek, c_kk, c_kc, c_25, c_36, c_51, nc_51]; done)))), (kw1 (fun (z_0 : Nat → Int32) => ([(z, .inr (9, [.ref a0, .ref a1, .int (nI T), .ref a2, .ref a3, .ref a4, .ref a5, .ref a6, .int (nI P), .int pa, .int kn, .ref a7, .int (nI rn), .ref a8, .ref a9, .int (nI ln), .ref a10, .int 0, .ref a11, .ref a12, .int wt, .ref a13, .ref a14, .ref a15])), (a1, .inl (cI, 12, .inl im)), (a10, .inl (cI, 12, .inl z_0))] : va_W)) ew_0)⟩
        · skip
          have nc_51 : ¬ (manyF im (upd an j 1) T (2 ^ T)) ≤ 0 := (not_congr (nI_leI (a := manyF im (upd an j 1) T (2 ^ T)) (b := 0) (by omega) (by omega))).mp c_51
          refine lv_iload_n hx hb dX8_answer_54 rfl (lv_at hl 0 rfl) ?_
          have ew_0 : (upd an j 1 : Nat → Int32) = if answB im an T t is then upd an t.toNatClampNeg (if is then 1 else 2) else an := by first | (have hok : answB im an T t is = true := (by simp [answB, ansM, c_16, c_ek, c_kk, c_kc, c_25, c_36, c_51, nc_51]; done); rw [hok]; first | rfl | (simp [ansM, c_16, c_ek, c_kk, c_kc, c_25, c_36, c_51, nc_51]; done)) | (have hok : answB im an T t is = false := (by simp [answB, ansM, c_16, c_ek, c_kk, c_kc, c_25, c_36, c_51, nc_51]; done); rw [hok]; first | rfl | (simp [upd_back, c_16, c_ek, c_kk, c_kc, c_25, c_36, c_51, nc_51]; done))
          exact kRetI hx hb hr hlk dX8_answer_55 hP hD hS (Nat.le_of_ble_eq_true rfl) (Nat.le_of_ble_eq_true rfl) ⟨(kpi (by first | (have hok : answB im an T t is = true := (by simp [answB, ansM, c_16, c_ek, c_kk, c_kc, c_25, c_36, c_51, nc_51]; done); rw [hok]; first | rfl | (simp [ansM, c_16, c_ek, c_kk, c_kc, c_25, c_36, c_51, nc_51]; done)) | (have hok : answB im an T t is = false := (by simp [answB, ansM, c_16, c_ek, c_kk, c_kc, c_25, c_36, c_51, nc_51]; done); rw [hok]; first | rfl | (simp [upd_back, c_16, c_ek, c_kk, c_kc, c_25, c_36, c_51, nc_51]; done)))), (kw1 (fun (z_0 : Nat → Int32) => ([(z, .inr (9, [.ref a0, .ref a1, .int (nI T), .ref a2, .ref a3, .ref a4, .ref a5, .ref a6, .int (nI P), .int pa, .int kn, .ref a7, .int (nI rn), .ref a8, .ref a9, .int (nI ln), .ref a10, .int 0, .ref a11, .ref a12, .int wt, .ref a13, .ref a14, .ref a15])), (a1, .inl (cI, 12, .inl im)), (a10, .inl (cI, 12, .inl z_0))] : va_W)) ew_0)⟩
    · skip
      refine lv_iconst (v := (-1)) hx hb dX8_answer_28 (by decide) ?_
      have ew_0 : (an : Nat → Int32) = if answB im an T t is then upd an t.toNatClampNeg (if is then 1 else 2) else an := by first | (have hok : answB im an T t is = true := (by simp [answB, ansM, c_16, c_ek, c_kk, c_kc, c_25]; done); rw [hok]; first | rfl | (simp [ansM, c_16, c_ek, c_kk, c_kc, c_25]; done)) | (have hok : answB im an T t is = false := (by simp [answB, ansM, c_16, c_ek, c_kk, c_kc, c_25]; done); rw [hok]; first | rfl | (simp [upd_back, c_16, c_ek, c_kk, c_kc, c_25]; done))
      exact kRetI hx hb hr hlk dX8_answer_29 hP hD hS (Nat.le_of_ble_eq_true rfl) (Nat.le_of_ble_eq_true rfl) ⟨(kpi (by first | (have hok : answB im an T t is = true := (by simp [answB, ansM, c_16, c_ek, c_kk, c_kc, c_25]; done); rw [hok]; first | rfl | (simp [ansM, c_16, c_ek, c_kk, c_kc, c_25]; done)) | (have hok : answB im an T t is = false := (by simp [answB, ansM, c_16, c_ek, c_kk, c_kc, c_25]; done); rw [hok]; first | rfl | (simp [upd_back, c_16, c_ek, c_kk, c_kc, c_25]; done)))), (kw1 (fun (z_0 : Nat → Int32) => ([(z, .inr (9, [.ref a0, .ref a1, .int (nI T), .ref a2, .ref a3, .ref a4, .ref a5, .ref a6, .int (nI P), .int pa, .int kn, .ref a7, .int (nI rn), .ref a8, .ref a9, .int (nI ln), .ref a10, .int 0, .ref a11, .ref a12, .int wt, .ref a13, .ref a14, .ref a15])), (a1, .inl (cI, 12, .inl im)), (a10, .inl (cI, 12, .inl z_0))] : va_W)) ew_0)⟩

set_option maxHeartbeats 4000000 in
set_option maxRecDepth 100000 in
theorem c_X8_settle (l : Launch) (D : va_G) (cI cJ cZ cO : ClassId) (z : Nat) (a0 : Nat) (a1 : Nat) (a2 : Nat) (a3 : Nat) (a4 : Nat) (a5 : Nat) (a6 : Nat) (a7 : Nat) (a8 : Nat) (a9 : Nat) (a10 : Nat) (a11 : Nat) (a12 : Nat) (a13 : Nat) (a14 : Nat) (a15 : Nat) (T : Nat) (P : Nat) (pa : Int32) (kn : Int32) (rn : Nat) (ln : Nat) (th : Int32) (wt : Int32) (im : Nat → Int32) (an : Nat → Int32) (hT : T ≤ 12) : kC l D (kTY cI cJ cZ cO) yX8_settle wsX8_settle 2 45 0 0 [.ref z] [(z, .inr (9, [.ref a0, .ref a1, .int (nI T), .ref a2, .ref a3, .ref a4, .ref a5, .ref a6, .int (nI P), .int pa, .int kn, .ref a7, .int (nI rn), .ref a8, .ref a9, .int (nI ln), .ref a10, .int th, .ref a11, .ref a12, .int wt, .ref a13, .ref a14, .ref a15])), (a1, .inl (cI, 12, .inl im)), (a10, .inl (cI, 12, .inl an))] (fun rv_ rw_ => rv_ = some (.int (setF im an T (2 ^ T))) ∧ rw_ = [(z, .inr (9, [.ref a0, .ref a1, .int (nI T), .ref a2, .ref a3, .ref a4, .ref a5, .ref a6, .int (nI P), .int pa, .int (setF im an T (2 ^ T)), .ref a7, .int (nI rn), .ref a8, .ref a9, .int (nI ln), .ref a10, .int 0, .ref a11, .ref a12, .int wt, .ref a13, .ref a14, .ref a15])), (a1, .inl (cI, 12, .inl im)), (a10, .inl (cI, 12, .inl an))]) := by
  refine kEnter (cc := cX8_settle) (maxL := 3) (ret := (some .int)) (by decide) rfl (Nat.le_of_ble_eq_true rfl) ?_
  intro p e s m args below meth c hx hb hr hml hts hown hlk hnm hK hP hD hS hA ls hl
  have hl : lv_has ls 3 [(0, .ref z)] := hl
  have hw_f63 := hts (.fieldLink RX8 63 "WhatToReadModel" "thrown" "I") (by decide +kernel)
  have hi_X8 : ∀ w ∈ wsX80, w ∈ wsX8_settle := by decide +kernel
  have hw_f66 := hts (.fieldLink RX8 66 "WhatToReadModel" "topics" "I") (by decide +kernel)
  have hw_f84 := hts (.fieldLink RX8 84 "WhatToReadModel" "known" "I") (by decide +kernel)
  refine lv_aload_n hx hb dX8_settle_0 rfl (lv_at hl 0 rfl) ?_
  refine lv_iconst (v := 0) hx hb dX8_settle_1 (by decide) ?_
  refine va_put (D := D) (ci := 9) (v := .int 0) (ty := .int) (C := RX8) (T := TX8) (N := 24) hx hb hts hi_X8 tyX8 tyX8_ok nmX8 hown hK.1 hP hD hS 0 rfl rfl 17 (by decide) hw_f63 (fun _ h9 => h9) rfl (by decide +kernel) rfl rfl (Nat.le_of_ble_eq_true rfl) dX8_settle_2 (fun H locs hP hD hS => ?_)
  have hP : va_P D vwCl [(z, .inr (9, [.ref a0, .ref a1, .int (nI T), .ref a2, .ref a3, .ref a4, .ref a5, .ref a6, .int (nI P), .int pa, .int kn, .ref a7, .int (nI rn), .ref a8, .ref a9, .int (nI ln), .ref a10, .int 0, .ref a11, .ref a12, .int wt, .ref a13, .ref a14, .ref a15])), (a1, .inl (cI, 12, .inl im)), (a10, .inl (cI, 12, .inl an))] H := hP
  have hD : va_D _ [(z, .inr (9, [.ref a0, .ref a1, .int (nI T), .ref a2, .ref a3, .ref a4, .ref a5, .ref a6, .int (nI P), .int pa, .int kn, .ref a7, .int (nI rn), .ref a8, .ref a9, .int (nI ln), .ref a10, .int 0, .ref a11, .ref a12, .int wt, .ref a13, .ref a14, .ref a15])), (a1, .inl (cI, 12, .inl im)), (a10, .inl (cI, 12, .inl an))] := hD
  refine lv_iconst (v := 1) hx hb dX8_settle_5 (by decide) ?_
  refine lv_aload_n hx hb dX8_settle_6 rfl (lv_at hl 0 rfl) ?_
  refine va_get (D := D) (ci := 9) (v := .int (nI T)) (C := RX8) (T := TX8) (N := 24) hx hb hts hi_X8 hown hK.1 hP 0 rfl rfl 2 (by decide) hw_f66 (fun _ h9 => h9) rfl dX8_settle_7 ?_
  refine lv_ishl hx hb dX8_settle_10 ?_
  refine lv_iconst (v := 1) hx hb dX8_settle_11 (by decide) ?_
  refine lv_isub hx hb dX8_settle_12 ?_
  refine lv_topi (fun nv_1 ev_1 => ?_)
  obtain rfl : nv_1 = (1 <<< (nI T &&& 31)) - 1 := ev_1.trans (by rw [kshl1 T hT])
  refine lv_istore_n (lv' := [(1, .int ((1 <<< (nI T &&& 31)) - 1)), (0, .ref z)]) hx hb dX8_settle_13 rfl hl (by decide) rfl (fun ls hl => ?_)
  refine lv_iconst (v := 0) hx hb dX8_settle_14 (by decide) ?_
  refine lv_istore_n (lv' := [(2, .int 0), (1, .int ((1 <<< (nI T &&& 31)) - 1)), (0, .ref z)]) hx hb dX8_settle_15 rfl hl (by decide) rfl (fun ls hl => ?_)
  have hloop_16 : ∀ (fu : Nat) (v : Nat) (x : Int32), 2 ^ T - v < fu → v ≤ 2 ^ T → x = setF im an T v → ∀ (H : Heap) (locs : List Loc), va_P D vwCl [(z, .inr (9, [.ref a0, .ref a1, .int (nI T), .ref a2, .ref a3, .ref a4, .ref a5, .ref a6, .int (nI P), .int pa, .int kn, .ref a7, .int (nI rn), .ref a8, .ref a9, .int (nI ln), .ref a10, .int 0, .ref a11, .ref a12, .int wt, .ref a13, .ref a14, .ref a15])), (a1, .inl (cI, 12, .inl im)), (a10, .inl (cI, 12, .inl an))] H → va_D (va_A [(z, .inr (9, [.ref a0, .ref a1, .int (nI T), .ref a2, .ref a3, .ref a4, .ref a5, .ref a6, .int (nI P), .int pa, .int kn, .ref a7, .int (nI rn), .ref a8, .ref a9, .int (nI ln), .ref a10, .int th, .ref a11, .ref a12, .int wt, .ref a13, .ref a14, .ref a15])), (a1, .inl (cI, 12, .inl im)), (a10, .inl (cI, 12, .inl an))] s.heap.size) [(z, .inr (9, [.ref a0, .ref a1, .int (nI T), .ref a2, .ref a3, .ref a4, .ref a5, .ref a6, .int (nI P), .int pa, .int kn, .ref a7, .int (nI rn), .ref a8, .ref a9, .int (nI ln), .ref a10, .int 0, .ref a11, .ref a12, .int wt, .ref a13, .ref a14, .ref a15])), (a1, .inl (cI, 12, .inl im)), (a10, .inl (cI, 12, .inl an))] → va_S (va_A [(z, .inr (9, [.ref a0, .ref a1, .int (nI T), .ref a2, .ref a3, .ref a4, .ref a5, .ref a6, .int (nI P), .int pa, .int kn, .ref a7, .int (nI rn), .ref a8, .ref a9, .int (nI ln), .ref a10, .int th, .ref a11, .ref a12, .int wt, .ref a13, .ref a14, .ref a15])), (a1, .inl (cI, 12, .inl im)), (a10, .inl (cI, 12, .inl an))] s.heap.size) s.heap H locs → ∀ ls : Array Slot, lv_has ls 3 [(0, .ref z), (1, .int x), (2, .int (nI v))] → W p l e ({ frames := 2, cells := 0, slots := 0, locals := 45 }) s m args below meth c H locs 0 0 (MQ below (kQ D [(z, .inr (9, [.ref a0, .ref a1, .int (nI T), .ref a2, .ref a3, .ref a4, .ref a5, .ref a6, .int (nI P), .int pa, .int kn, .ref a7, .int (nI rn), .ref a8, .ref a9, .int (nI ln), .ref a10, .int th, .ref a11, .ref a12, .int wt, .ref a13, .ref a14, .ref a15])), (a1, .inl (cI, 12, .inl im)), (a10, .inl (cI, 12, .inl an))] s.heap.size (fun rv_ rw_ => rv_ = some (.int (setF im an T (2 ^ T))) ∧ rw_ = [(z, .inr (9, [.ref a0, .ref a1, .int (nI T), .ref a2, .ref a3, .ref a4, .ref a5, .ref a6, .int (nI P), .int pa, .int (setF im an T (2 ^ T)), .ref a7, .int (nI rn), .ref a8, .ref a9, .int (nI ln), .ref a10, .int 0, .ref a11, .ref a12, .int wt, .ref a13, .ref a14, .ref a15])), (a1, .inl (cI, 12, .inl im)), (a10, .inl (cI, 12, .inl an))])) args s 0 0 (va_A [(z, .inr (9, [.ref a0, .ref a1, .int (nI T), .ref a2, .ref a3, .ref a4, .ref a5, .ref a6, .int (nI P), .int pa, .int kn, .ref a7, .int (nI rn), .ref a8, .ref a9, .int (nI ln), .ref a10, .int th, .ref a11, .ref a12, .int wt, .ref a13, .ref a14, .ref a15])), (a1, .inl (cI, 12, .inl im)), (a10, .inl (cI, 12, .inl an))] s.heap.size)) (F0 m 16 ls []) := by
    intro fu
    induction fu with
    | zero => intro v x hmu; exact absurd hmu (Nat.not_lt_zero _)
    | succ fu ih_16 =>
      intro v x hmu_16 hv ex H locs hP hD hS ls hl
      have hpw := kpow hT
      refine lv_iload_n hx hb dX8_settle_16 rfl (lv_at hl 2 rfl) ?_
      refine lv_iconst (v := 1) hx hb dX8_settle_17 (by decide) ?_
      refine lv_aload_n hx hb dX8_settle_18 rfl (lv_at hl 0 rfl) ?_
      refine va_get (D := D) (ci := 9) (v := .int (nI T)) (C := RX8) (T := TX8) (N := 24) hx hb hts hi_X8 hown hK.1 hP 0 rfl rfl 2 (by decide) hw_f66 (fun _ h9 => h9) rfl dX8_settle_19 ?_
      refine lv_ishl hx hb dX8_settle_22 ?_
      refine lv_topi (fun nv_2 ev_2 => ?_)
      obtain rfl : nv_2 = nI (2 ^ T) := ev_2.trans (kshl1 T hT)
      refine lv_icmp_ge (tgt := 44) hx hb dX8_settle_23 (by decide) (fun c_23 => ?_) (fun c_23 => ?_)
      · skip
        have nc_23 : (2 ^ T) ≤ v := (nI_leI (a := 2 ^ T) (b := v) (by omega) (by omega)).mp c_23
        have e12 : v = 2 ^ T := by omega
        refine lv_aload_n hx hb dX8_settle_44 rfl (lv_at hl 0 rfl) ?_
        refine lv_iload_n hx hb dX8_settle_45 rfl (lv_at hl 1 rfl) ?_
        refine va_put (D := D) (ci := 9) (v := .int x) (ty := .int) (C := RX8) (T := TX8) (N := 24) hx hb hts hi_X8 tyX8 tyX8_ok nmX8 hown hK.1 hP hD hS 0 rfl rfl 10 (by decide) hw_f84 (fun _ h9 => h9) rfl (by decide +kernel) rfl rfl (Nat.le_of_ble_eq_true rfl) dX8_settle_46 (fun H locs hP hD hS => ?_)
        have hP : va_P D vwCl [(z, .inr (9, [.ref a0, .ref a1, .int (nI T), .ref a2, .ref a3, .ref a4, .ref a5, .ref a6, .int (nI P), .int pa, .int x, .ref a7, .int (nI rn), .ref a8, .ref a9, .int (nI ln), .ref a10, .int 0, .ref a11, .ref a12, .int wt, .ref a13, .ref a14, .ref a15])), (a1, .inl (cI, 12, .inl im)), (a10, .inl (cI, 12, .inl an))] H := hP
        have hD : va_D _ [(z, .inr (9, [.ref a0, .ref a1, .int (nI T), .ref a2, .ref a3, .ref a4, .ref a5, .ref a6, .int (nI P), .int pa, .int x, .ref a7, .int (nI rn), .ref a8, .ref a9, .int (nI ln), .ref a10, .int 0, .ref a11, .ref a12, .int wt, .ref a13, .ref a14, .ref a15])), (a1, .inl (cI, 12, .inl im)), (a10, .inl (cI, 12, .inl an))] := hD
        refine lv_aload_n hx hb dX8_settle_49 rfl (lv_at hl 0 rfl) ?_
        refine va_get (D := D) (ci := 9) (v := .int x) (C := RX8) (T := TX8) (N := 24) hx hb hts hi_X8 hown hK.1 hP 0 rfl rfl 10 (by decide) hw_f84 (fun _ h9 => h9) rfl dX8_settle_50 ?_
        have ew_0 : (x : Int32) = setF im an T (2 ^ T) := by rw [ex, e12]
        exact kRetI hx hb hr hlk dX8_settle_53 hP hD hS (Nat.le_of_ble_eq_true rfl) (Nat.le_of_ble_eq_true rfl) ⟨(kpi (by rw [ex, e12])), (kw1 (fun (z_0 : Int32) => ([(z, .inr (9, [.ref a0, .ref a1, .int (nI T), .ref a2, .ref a3, .ref a4, .ref a5, .ref a6, .int (nI P), .int pa, .int z_0, .ref a7, .int (nI rn), .ref a8, .ref a9, .int (nI ln), .ref a10, .int 0, .ref a11, .ref a12, .int wt, .ref a13, .ref a14, .ref a15])), (a1, .inl (cI, 12, .inl im)), (a10, .inl (cI, 12, .inl an))] : va_W)) ew_0)⟩
      · skip
        have nc_23 : ¬ (2 ^ T) ≤ v := (not_congr (nI_leI (a := 2 ^ T) (b := v) (by omega) (by omega))).mp c_23
        refine lv_aload_n hx hb dX8_settle_26 rfl (lv_at hl 0 rfl) ?_
        refine lv_iload_n hx hb dX8_settle_27 rfl (lv_at hl 2 rfl) ?_
        refine kGoR (va_runV (As := [.int (nI v)]) (rest := []) ⟨hx, hb, hml, hown, hts⟩ (c_X8_isState l D cI cJ cZ cO z a0 a1 a2 a3 a4 a5 a6 a7 a8 a9 a10 a11 a12 a13 a14 a15 T P pa kn rn ln 0 wt im an (nI v) (by first | assumption | omega | decide)) (cwV 1 hts gX8_settle_X8_isState rfl rfl rfl (by decide +kernel) ⟨Nat.le_of_ble_eq_true rfl, Nat.le_of_ble_eq_true rfl⟩) (kPreVR (ci := 9) (q0 := 0) hK (kPc_sub hP [0, 1, 2] rfl) rfl rfl rfl) rfl rfl hl.1 rfl (lv_room (Nat.le_of_ble_eq_true rfl)) dX8_settle_28 ⟨Nat.le_of_ble_eq_true rfl, Nat.le_of_ble_eq_true rfl⟩) (fun v_3 hv_3 => ?_)
        obtain rfl := hv_3
        refine W.eq (g2 := F0 m 31 ls [.int (k01 (stateB im an T (nI v)))]) rfl ?_
        refine lv_if_eq (tgt := 38) hx hb dX8_settle_31 (by decide) (fun c_31 => ?_) (fun c_31 => ?_)
        · skip
          have c_31 := k01_z c_31
          refine lv_iinc (v := nI (v + 1)) (lv' := [(2, .int (nI (v + 1))), (0, .ref z), (1, .int x)]) hx hb dX8_settle_38 hl (k := 2) rfl (nI_1 _) (by decide) rfl (fun ls hl => ?_)
          refine lv_goto (tgt := 16) hx hb dX8_settle_41 (by decide) ?_
          exact ih_16  (v + 1) x (by omega) (by first | omega | assumption | exact Nat.zero_le _) (by rw [ex]; simp [setF, c_23, nc_23, c_31]) _ _ hP hD hS _ (lv_sub hl [1, 2, 0] rfl)
        · skip
          have c_31 := k01_n c_31
          refine lv_iload_n hx hb dX8_settle_34 rfl (lv_at hl 1 rfl) ?_
          refine lv_iload_n hx hb dX8_settle_35 rfl (lv_at hl 2 rfl) ?_
          refine lv_iand hx hb dX8_settle_36 ?_
          refine lv_istore_n (lv' := [(1, .int (x &&& (nI v))), (0, .ref z), (2, .int (nI v))]) hx hb dX8_settle_37 rfl hl (by decide) rfl (fun ls hl => ?_)
          refine lv_iinc (v := nI (v + 1)) (lv' := [(2, .int (nI (v + 1))), (1, .int (x &&& (nI v))), (0, .ref z)]) hx hb dX8_settle_38 hl (k := 2) rfl (nI_1 _) (by decide) rfl (fun ls hl => ?_)
          refine lv_goto (tgt := 16) hx hb dX8_settle_41 (by decide) ?_
          exact ih_16  (v + 1) (x &&& (nI v)) (by omega) (by first | omega | assumption | exact Nat.zero_le _) (by rw [ex]; simp [setF, c_23, nc_23, c_31]) _ _ hP hD hS _ (lv_sub hl [2, 1, 0] rfl)
  exact hloop_16 ((2 ^ T - 0) + 1) 0 ((1 <<< (nI T &&& 31)) - 1) (Nat.lt_succ_self _) (by first | omega | assumption | exact Nat.zero_le _) (by rfl) _ _ hP hD hS _ (lv_sub hl [2, 1, 0] rfl)

set_option maxHeartbeats 4000000 in
set_option maxRecDepth 100000 in
theorem c_X8_question (l : Launch) (D : va_G) (cI cJ cZ cO : ClassId) (z : Nat) (a0 : Nat) (a1 : Nat) (a2 : Nat) (a3 : Nat) (a4 : Nat) (a5 : Nat) (a6 : Nat) (a7 : Nat) (a8 : Nat) (a9 : Nat) (a10 : Nat) (a11 : Nat) (a12 : Nat) (a13 : Nat) (a14 : Nat) (a15 : Nat) (T : Nat) (P : Nat) (pa : Int32) (kn : Int32) (rn : Nat) (ln : Nat) (th : Int32) (wt : Int32) (im : Nat → Int32) (an : Nat → Int32) (hT : T ≤ 12) : kC l D (kTY cI cJ cZ cO) yX8_question wsX8_question 3 67 0 0 [.ref z] [(z, .inr (9, [.ref a0, .ref a1, .int (nI T), .ref a2, .ref a3, .ref a4, .ref a5, .ref a6, .int (nI P), .int pa, .int kn, .ref a7, .int (nI rn), .ref a8, .ref a9, .int (nI ln), .ref a10, .int th, .ref a11, .ref a12, .int wt, .ref a13, .ref a14, .ref a15])), (a1, .inl (cI, 12, .inl im)), (a10, .inl (cI, 12, .inl an))] (fun rv_ rw_ => rv_ = some (.int ((qF im an T T).1)) ∧ rw_ = [(z, .inr (9, [.ref a0, .ref a1, .int (nI T), .ref a2, .ref a3, .ref a4, .ref a5, .ref a6, .int (nI P), .int pa, .int kn, .ref a7, .int (nI rn), .ref a8, .ref a9, .int (nI ln), .ref a10, .int 0, .ref a11, .ref a12, .int wt, .ref a13, .ref a14, .ref a15])), (a1, .inl (cI, 12, .inl im)), (a10, .inl (cI, 12, .inl an))]) := by
  refine kEnter (cc := cX8_question) (maxL := 7) (ret := (some .int)) (by decide) rfl (Nat.le_of_ble_eq_true rfl) ?_
  intro p e s m args below meth c hx hb hr hml hts hown hlk hnm hK hP hD hS hA ls hl
  have hl : lv_has ls 7 [(0, .ref z)] := hl
  have hw_f63 := hts (.fieldLink RX8 63 "WhatToReadModel" "thrown" "I") (by decide +kernel)
  have hi_X8 : ∀ w ∈ wsX80, w ∈ wsX8_question := by decide +kernel
  have hw_f66 := hts (.fieldLink RX8 66 "WhatToReadModel" "topics" "I") (by decide +kernel)
  have hw_f44 := hts (.fieldLink RX8 44 "WhatToReadModel" "answers" "[I") (by decide +kernel)
  refine lv_aload_n hx hb dX8_question_0 rfl (lv_at hl 0 rfl) ?_
  refine lv_iconst (v := 0) hx hb dX8_question_1 (by decide) ?_
  refine va_put (D := D) (ci := 9) (v := .int 0) (ty := .int) (C := RX8) (T := TX8) (N := 24) hx hb hts hi_X8 tyX8 tyX8_ok nmX8 hown hK.1 hP hD hS 0 rfl rfl 17 (by decide) hw_f63 (fun _ h9 => h9) rfl (by decide +kernel) rfl rfl (Nat.le_of_ble_eq_true rfl) dX8_question_2 (fun H locs hP hD hS => ?_)
  have hP : va_P D vwCl [(z, .inr (9, [.ref a0, .ref a1, .int (nI T), .ref a2, .ref a3, .ref a4, .ref a5, .ref a6, .int (nI P), .int pa, .int kn, .ref a7, .int (nI rn), .ref a8, .ref a9, .int (nI ln), .ref a10, .int 0, .ref a11, .ref a12, .int wt, .ref a13, .ref a14, .ref a15])), (a1, .inl (cI, 12, .inl im)), (a10, .inl (cI, 12, .inl an))] H := hP
  have hD : va_D _ [(z, .inr (9, [.ref a0, .ref a1, .int (nI T), .ref a2, .ref a3, .ref a4, .ref a5, .ref a6, .int (nI P), .int pa, .int kn, .ref a7, .int (nI rn), .ref a8, .ref a9, .int (nI ln), .ref a10, .int 0, .ref a11, .ref a12, .int wt, .ref a13, .ref a14, .ref a15])), (a1, .inl (cI, 12, .inl im)), (a10, .inl (cI, 12, .inl an))] := hD
  refine lv_aload_n hx hb dX8_question_5 rfl (lv_at hl 0 rfl) ?_
  refine kGoR (va_runV (As := []) (rest := []) ⟨hx, hb, hml, hown, hts⟩ (c_X8_stateMany l D cI cJ cZ cO z a0 a1 a2 a3 a4 a5 a6 a7 a8 a9 a10 a11 a12 a13 a14 a15 T P pa kn rn ln 0 wt im an (by first | assumption | omega | decide)) (cwV 0 hts gX8_question_X8_stateMany rfl rfl rfl (by decide +kernel) ⟨Nat.le_of_ble_eq_true rfl, Nat.le_of_ble_eq_true rfl⟩) (kPreVR (ci := 9) (q0 := 0) hK (kPc_sub hP [0, 1, 2] rfl) rfl rfl rfl) rfl rfl hl.1 rfl (lv_room (Nat.le_of_ble_eq_true rfl)) dX8_question_6 ⟨Nat.le_of_ble_eq_true rfl, Nat.le_of_ble_eq_true rfl⟩) (fun v_1 hv_1 => ?_)
  obtain rfl := hv_1
  refine W.eq (g2 := F0 m 9 ls [.int (nI (manyF im an T (2 ^ T)))]) rfl ?_
  refine lv_istore_n (lv' := [(1, .int (nI (manyF im an T (2 ^ T)))), (0, .ref z)]) hx hb dX8_question_9 rfl hl (by decide) rfl (fun ls hl => ?_)
  refine lv_iconst (v := (-1)) hx hb dX8_question_10 (by decide) ?_
  refine lv_istore_n (lv' := [(2, .int (-1)), (1, .int (nI (manyF im an T (2 ^ T)))), (0, .ref z)]) hx hb dX8_question_11 rfl hl (by decide) rfl (fun ls hl => ?_)
  refine lv_iconst (v := 0) hx hb dX8_question_12 (by decide) ?_
  refine lv_istore_n (lv' := [(3, .int 0), (2, .int (-1)), (1, .int (nI (manyF im an T (2 ^ T)))), (0, .ref z)]) hx hb dX8_question_13 rfl hl (by decide) rfl (fun ls hl => ?_)
  refine lv_iconst (v := 0) hx hb dX8_question_14 (by decide) ?_
  refine lv_istore (lv' := [(4, .int 0), (3, .int 0), (2, .int (-1)), (1, .int (nI (manyF im an T (2 ^ T)))), (0, .ref z)]) hx hb dX8_question_15 hl (by decide) rfl (fun ls hl => ?_)
  have hloop_17 : ∀ (fu : Nat) (t : Nat) (x : Int32) (w : Nat), T - t < fu → t ≤ T → w ≤ 4096 → x = (qF im an T t).1 → w = (qF im an T t).2 → ∀ (H : Heap) (locs : List Loc), va_P D vwCl [(z, .inr (9, [.ref a0, .ref a1, .int (nI T), .ref a2, .ref a3, .ref a4, .ref a5, .ref a6, .int (nI P), .int pa, .int kn, .ref a7, .int (nI rn), .ref a8, .ref a9, .int (nI ln), .ref a10, .int 0, .ref a11, .ref a12, .int wt, .ref a13, .ref a14, .ref a15])), (a1, .inl (cI, 12, .inl im)), (a10, .inl (cI, 12, .inl an))] H → va_D (va_A [(z, .inr (9, [.ref a0, .ref a1, .int (nI T), .ref a2, .ref a3, .ref a4, .ref a5, .ref a6, .int (nI P), .int pa, .int kn, .ref a7, .int (nI rn), .ref a8, .ref a9, .int (nI ln), .ref a10, .int th, .ref a11, .ref a12, .int wt, .ref a13, .ref a14, .ref a15])), (a1, .inl (cI, 12, .inl im)), (a10, .inl (cI, 12, .inl an))] s.heap.size) [(z, .inr (9, [.ref a0, .ref a1, .int (nI T), .ref a2, .ref a3, .ref a4, .ref a5, .ref a6, .int (nI P), .int pa, .int kn, .ref a7, .int (nI rn), .ref a8, .ref a9, .int (nI ln), .ref a10, .int 0, .ref a11, .ref a12, .int wt, .ref a13, .ref a14, .ref a15])), (a1, .inl (cI, 12, .inl im)), (a10, .inl (cI, 12, .inl an))] → va_S (va_A [(z, .inr (9, [.ref a0, .ref a1, .int (nI T), .ref a2, .ref a3, .ref a4, .ref a5, .ref a6, .int (nI P), .int pa, .int kn, .ref a7, .int (nI rn), .ref a8, .ref a9, .int (nI ln), .ref a10, .int th, .ref a11, .ref a12, .int wt, .ref a13, .ref a14, .ref a15])), (a1, .inl (cI, 12, .inl im)), (a10, .inl (cI, 12, .inl an))] s.heap.size) s.heap H locs → ∀ ls : Array Slot, lv_has ls 7 [(0, .ref z), (1, .int (nI (manyF im an T (2 ^ T)))), (2, .int x), (3, .int (nI w)), (4, .int (nI t))] → W p l e ({ frames := 3, cells := 0, slots := 0, locals := 67 }) s m args below meth c H locs 0 0 (MQ below (kQ D [(z, .inr (9, [.ref a0, .ref a1, .int (nI T), .ref a2, .ref a3, .ref a4, .ref a5, .ref a6, .int (nI P), .int pa, .int kn, .ref a7, .int (nI rn), .ref a8, .ref a9, .int (nI ln), .ref a10, .int th, .ref a11, .ref a12, .int wt, .ref a13, .ref a14, .ref a15])), (a1, .inl (cI, 12, .inl im)), (a10, .inl (cI, 12, .inl an))] s.heap.size (fun rv_ rw_ => rv_ = some (.int ((qF im an T T).1)) ∧ rw_ = [(z, .inr (9, [.ref a0, .ref a1, .int (nI T), .ref a2, .ref a3, .ref a4, .ref a5, .ref a6, .int (nI P), .int pa, .int kn, .ref a7, .int (nI rn), .ref a8, .ref a9, .int (nI ln), .ref a10, .int 0, .ref a11, .ref a12, .int wt, .ref a13, .ref a14, .ref a15])), (a1, .inl (cI, 12, .inl im)), (a10, .inl (cI, 12, .inl an))])) args s 0 0 (va_A [(z, .inr (9, [.ref a0, .ref a1, .int (nI T), .ref a2, .ref a3, .ref a4, .ref a5, .ref a6, .int (nI P), .int pa, .int kn, .ref a7, .int (nI rn), .ref a8, .ref a9, .int (nI ln), .ref a10, .int th, .ref a11, .ref a12, .int wt, .ref a13, .ref a14, .ref a15])), (a1, .inl (cI, 12, .inl im)), (a10, .inl (cI, 12, .inl an))] s.heap.size)) (F0 m 17 ls []) := by
    intro fu
    induction fu with
    | zero => intro t x w hmu; exact absurd hmu (Nat.not_lt_zero _)
    | succ fu ih_17 =>
      intro t x w hmu_17 ht hw ex ey H locs hP hD hS ls hl
      have hpw := kpow hT
      have hm1 := manyF_le im an T (2 ^ T)
      have hq1 := qN_le im an T t (2 ^ T)
      refine lv_iload hx hb dX8_question_17 (lv_at hl 4 rfl) ?_
      refine lv_aload_n hx hb dX8_question_19 rfl (lv_at hl 0 rfl) ?_
      refine va_get (D := D) (ci := 9) (v := .int (nI T)) (C := RX8) (T := TX8) (N := 24) hx hb hts hi_X8 hown hK.1 hP 0 rfl rfl 2 (by decide) hw_f66 (fun _ h9 => h9) rfl dX8_question_20 ?_
      refine lv_icmp_ge (tgt := 142) hx hb dX8_question_23 (by decide) (fun c_23 => ?_) (fun c_23 => ?_)
      · skip
        have nc_23 : T ≤ t := (nI_leI (a := T) (b := t) (by omega) (by omega)).mp c_23
        have e13 : t = T := by omega
        refine lv_iload_n hx hb dX8_question_142 rfl (lv_at hl 2 rfl) ?_
        exact kRetI hx hb hr hlk dX8_question_143 hP hD hS (Nat.le_of_ble_eq_true rfl) (Nat.le_of_ble_eq_true rfl) ⟨(kpi (by rw [ex, e13])), rfl⟩
      · skip
        have nc_23 : ¬ T ≤ t := (not_congr (nI_leI (a := T) (b := t) (by omega) (by omega))).mp c_23
        refine lv_iconst (v := 0) hx hb dX8_question_26 (by decide) ?_
        refine lv_istore (lv' := [(5, .int 0), (0, .ref z), (1, .int (nI (manyF im an T (2 ^ T)))), (2, .int x), (3, .int (nI w)), (4, .int (nI t))]) hx hb dX8_question_27 hl (by decide) rfl (fun ls hl => ?_)
        refine lv_iconst (v := 0) hx hb dX8_question_29 (by decide) ?_
        refine lv_istore (lv' := [(6, .int 0), (5, .int 0), (0, .ref z), (1, .int (nI (manyF im an T (2 ^ T)))), (2, .int x), (3, .int (nI w)), (4, .int (nI t))]) hx hb dX8_question_30 hl (by decide) rfl (fun ls hl => ?_)
        have hloop_32 : ∀ (fu : Nat) (v : Nat) (q : Nat), 2 ^ T - v < fu → v ≤ 2 ^ T → q ≤ v → q = qN im an T t v → ∀ (H : Heap) (locs : List Loc), va_P D vwCl [(z, .inr (9, [.ref a0, .ref a1, .int (nI T), .ref a2, .ref a3, .ref a4, .ref a5, .ref a6, .int (nI P), .int pa, .int kn, .ref a7, .int (nI rn), .ref a8, .ref a9, .int (nI ln), .ref a10, .int 0, .ref a11, .ref a12, .int wt, .ref a13, .ref a14, .ref a15])), (a1, .inl (cI, 12, .inl im)), (a10, .inl (cI, 12, .inl an))] H → va_D (va_A [(z, .inr (9, [.ref a0, .ref a1, .int (nI T), .ref a2, .ref a3, .ref a4, .ref a5, .ref a6, .int (nI P), .int pa, .int kn, .ref a7, .int (nI rn), .ref a8, .ref a9, .int (nI ln), .ref a10, .int th, .ref a11, .ref a12, .int wt, .ref a13, .ref a14, .ref a15])), (a1, .inl (cI, 12, .inl im)), (a10, .inl (cI, 12, .inl an))] s.heap.size) [(z, .inr (9, [.ref a0, .ref a1, .int (nI T), .ref a2, .ref a3, .ref a4, .ref a5, .ref a6, .int (nI P), .int pa, .int kn, .ref a7, .int (nI rn), .ref a8, .ref a9, .int (nI ln), .ref a10, .int 0, .ref a11, .ref a12, .int wt, .ref a13, .ref a14, .ref a15])), (a1, .inl (cI, 12, .inl im)), (a10, .inl (cI, 12, .inl an))] → va_S (va_A [(z, .inr (9, [.ref a0, .ref a1, .int (nI T), .ref a2, .ref a3, .ref a4, .ref a5, .ref a6, .int (nI P), .int pa, .int kn, .ref a7, .int (nI rn), .ref a8, .ref a9, .int (nI ln), .ref a10, .int th, .ref a11, .ref a12, .int wt, .ref a13, .ref a14, .ref a15])), (a1, .inl (cI, 12, .inl im)), (a10, .inl (cI, 12, .inl an))] s.heap.size) s.heap H locs → ∀ ls : Array Slot, lv_has ls 7 [(0, .ref z), (1, .int (nI (manyF im an T (2 ^ T)))), (2, .int x), (3, .int (nI w)), (4, .int (nI t)), (5, .int (nI q)), (6, .int (nI v))] → W p l e ({ frames := 3, cells := 0, slots := 0, locals := 67 }) s m args below meth c H locs 0 0 (MQ below (kQ D [(z, .inr (9, [.ref a0, .ref a1, .int (nI T), .ref a2, .ref a3, .ref a4, .ref a5, .ref a6, .int (nI P), .int pa, .int kn, .ref a7, .int (nI rn), .ref a8, .ref a9, .int (nI ln), .ref a10, .int th, .ref a11, .ref a12, .int wt, .ref a13, .ref a14, .ref a15])), (a1, .inl (cI, 12, .inl im)), (a10, .inl (cI, 12, .inl an))] s.heap.size (fun rv_ rw_ => rv_ = some (.int ((qF im an T T).1)) ∧ rw_ = [(z, .inr (9, [.ref a0, .ref a1, .int (nI T), .ref a2, .ref a3, .ref a4, .ref a5, .ref a6, .int (nI P), .int pa, .int kn, .ref a7, .int (nI rn), .ref a8, .ref a9, .int (nI ln), .ref a10, .int 0, .ref a11, .ref a12, .int wt, .ref a13, .ref a14, .ref a15])), (a1, .inl (cI, 12, .inl im)), (a10, .inl (cI, 12, .inl an))])) args s 0 0 (va_A [(z, .inr (9, [.ref a0, .ref a1, .int (nI T), .ref a2, .ref a3, .ref a4, .ref a5, .ref a6, .int (nI P), .int pa, .int kn, .ref a7, .int (nI rn), .ref a8, .ref a9, .int (nI ln), .ref a10, .int th, .ref a11, .ref a12, .int wt, .ref a13, .ref a14, .ref a15])), (a1, .inl (cI, 12, .inl im)), (a10, .inl (cI, 12, .inl an))] s.heap.size)) (F0 m 32 ls []) := by
          intro fu
          induction fu with
          | zero => intro v q hmu; exact absurd hmu (Nat.not_lt_zero _)
          | succ fu ih_32 =>
            intro v q hmu_32 hv hq eq1 H locs hP hD hS ls hl
            refine lv_iload hx hb dX8_question_32 (lv_at hl 6 rfl) ?_
            refine lv_iconst (v := 1) hx hb dX8_question_34 (by decide) ?_
            refine lv_aload_n hx hb dX8_question_35 rfl (lv_at hl 0 rfl) ?_
            refine va_get (D := D) (ci := 9) (v := .int (nI T)) (C := RX8) (T := TX8) (N := 24) hx hb hts hi_X8 hown hK.1 hP 0 rfl rfl 2 (by decide) hw_f66 (fun _ h9 => h9) rfl dX8_question_36 ?_
            refine lv_ishl hx hb dX8_question_39 ?_
            refine lv_topi (fun nv_2 ev_2 => ?_)
            obtain rfl : nv_2 = nI (2 ^ T) := ev_2.trans (kshl1 T hT)
            refine lv_icmp_ge (tgt := 72) hx hb dX8_question_40 (by decide) (fun c_40 => ?_) (fun c_40 => ?_)
            · skip
              have nc_40 : (2 ^ T) ≤ v := (nI_leI (a := 2 ^ T) (b := v) (by omega) (by omega)).mp c_40
              have e12 : v = 2 ^ T := by omega
              rw [e12] at eq1
              have hq3 : q ≤ manyF im an T (2 ^ T) := by omega
              refine lv_aload_n hx hb dX8_question_72 rfl (lv_at hl 0 rfl) ?_
              refine va_get (D := D) (ci := 9) (v := .ref a10) (C := RX8) (T := TX8) (N := 24) hx hb hts hi_X8 hown hK.1 hP 0 rfl rfl 16 (by decide) hw_f44 (fun _ h9 => h9) rfl dX8_question_73 ?_
              refine lv_iload hx hb dX8_question_76 (lv_at hl 4 rfl) ?_
              refine va_iald hx hb hK.1 hP 2 0 rfl rfl (vp_in_nI (by omega) (by omega)) dX8_question_78 ?_
              refine lv_topi (fun nv_3 ev_3 => ?_)
              obtain rfl : nv_3 = an t := by rw [ev_3, nI_clamp (by omega)]
              refine lv_if_ne (tgt := 136) hx hb dX8_question_79 (by decide) (fun c_79 => ?_) (fun c_79 => ?_)
              · skip
                refine lv_iinc (v := nI (t + 1)) (lv' := [(4, .int (nI (t + 1))), (0, .ref z), (1, .int (nI (manyF im an T (2 ^ T)))), (2, .int x), (3, .int (nI w)), (5, .int (nI q)), (6, .int (nI v))]) hx hb dX8_question_136 hl (k := 4) rfl (nI_1 _) (by decide) rfl (fun ls hl => ?_)
                refine lv_goto (tgt := 17) hx hb dX8_question_139 (by decide) ?_
                exact ih_17  (t + 1) x w (by omega) (by first | omega | assumption | exact Nat.zero_le _) (by first | omega | assumption | exact Nat.zero_le _) (by subst ex; subst ey; subst eq1; simp [qF, moreQ, c_23, nc_23, c_40, nc_40, c_79]) (by subst ex; subst ey; subst eq1; simp [qF, moreQ, c_23, nc_23, c_40, nc_40, c_79]) _ _ hP hD hS _ (lv_sub hl [1, 2, 3, 4, 0] rfl)
              · skip
                refine lv_iload hx hb dX8_question_82 (lv_at hl 5 rfl) ?_
                refine lv_if_eq (tgt := 136) hx hb dX8_question_84 (by decide) (fun c_84 => ?_) (fun c_84 => ?_)
                · skip
                  have nc_84 : q = 0 := (nI_eq (a := q) (b := 0) (by omega) (by omega)).mp c_84
                  refine lv_iinc (v := nI (t + 1)) (lv' := [(4, .int (nI (t + 1))), (0, .ref z), (1, .int (nI (manyF im an T (2 ^ T)))), (2, .int x), (3, .int (nI w)), (5, .int (nI q)), (6, .int (nI v))]) hx hb dX8_question_136 hl (k := 4) rfl (nI_1 _) (by decide) rfl (fun ls hl => ?_)
                  refine lv_goto (tgt := 17) hx hb dX8_question_139 (by decide) ?_
                  exact ih_17  (t + 1) x w (by omega) (by first | omega | assumption | exact Nat.zero_le _) (by first | omega | assumption | exact Nat.zero_le _) (by subst ex; subst ey; subst eq1; simp [qF, moreQ, c_23, nc_23, c_40, nc_40, c_79, c_84, nc_84]) (by subst ex; subst ey; subst eq1; simp [qF, moreQ, c_23, nc_23, c_40, nc_40, c_79, c_84, nc_84]) _ _ hP hD hS _ (lv_sub hl [1, 2, 3, 4, 0] rfl)
                · skip
                  have nc_84 : ¬ q = 0 := (not_congr (nI_eq (a := q) (b := 0) (by omega) (by omega))).mp c_84
                  refine lv_iload hx hb dX8_question_87 (lv_at hl 5 rfl) ?_
                  refine lv_iload_n hx hb dX8_question_89 rfl (lv_at hl 1 rfl) ?_
                  refine lv_icmp_ne (tgt := 96) hx hb dX8_question_90 (by decide) (fun c_90 => ?_) (fun c_90 => ?_)
                  · skip
                    have nc_90 : ¬ q = (manyF im an T (2 ^ T)) := (not_congr (nI_eq (a := q) (b := manyF im an T (2 ^ T)) (by omega) (by omega))).mp c_90
                    refine lv_iload hx hb dX8_question_96 (lv_at hl 5 rfl) ?_
                    refine lv_iload_n hx hb dX8_question_98 rfl (lv_at hl 1 rfl) ?_
                    refine lv_iload hx hb dX8_question_99 (lv_at hl 5 rfl) ?_
                    refine lv_isub hx hb dX8_question_101 ?_
                    refine lv_topi (fun nv_4 ev_4 => ?_)
                    obtain rfl : nv_4 = nI (manyF im an T (2 ^ T) - q) := ev_4.trans (pk_sub hq3)
                    refine lv_icmp_le (tgt := 110) hx hb dX8_question_102 (by decide) (fun c_102 => ?_) (fun c_102 => ?_)
                    · skip
                      have nc_102 : q ≤ (manyF im an T (2 ^ T) - q) := (nI_leI (a := q) (b := manyF im an T (2 ^ T) - q) (by omega) (by omega)).mp c_102
                      refine lv_iload_n hx hb dX8_question_110 rfl (lv_at hl 1 rfl) ?_
                      refine lv_iload hx hb dX8_question_111 (lv_at hl 5 rfl) ?_
                      refine lv_isub hx hb dX8_question_113 ?_
                      refine lv_topi (fun nv_5 ev_5 => ?_)
                      obtain rfl : nv_5 = nI (manyF im an T (2 ^ T) - q) := ev_5.trans (pk_sub hq3)
                      refine lv_istore (lv' := [(6, .int (nI (manyF im an T (2 ^ T) - q))), (0, .ref z), (1, .int (nI (manyF im an T (2 ^ T)))), (2, .int x), (3, .int (nI w)), (4, .int (nI t)), (5, .int (nI q))]) hx hb dX8_question_114 hl (by decide) rfl (fun ls hl => ?_)
                      refine lv_iload_n hx hb dX8_question_116 rfl (lv_at hl 3 rfl) ?_
                      refine lv_iconst (v := (-1)) hx hb dX8_question_117 (by decide) ?_
                      refine lv_icmp_eq (tgt := 130) hx hb dX8_question_118 (by decide) (fun c_118 => ?_) (fun c_118 => ?_)
                      · skip
                        refine lv_iload hx hb dX8_question_130 (lv_at hl 5 rfl) ?_
                        refine lv_istore_n (lv' := [(2, .int (nI t)), (6, .int (nI (manyF im an T (2 ^ T) - q))), (0, .ref z), (1, .int (nI (manyF im an T (2 ^ T)))), (3, .int (nI w)), (4, .int (nI t)), (5, .int (nI q))]) hx hb dX8_question_132 rfl hl (by decide) rfl (fun ls hl => ?_)
                        refine lv_iload hx hb dX8_question_133 (lv_at hl 1 rfl) ?_
                        refine lv_istore_n (lv' := [(3, .int (nI (manyF im an T (2 ^ T) - q))), (2, .int (nI t)), (6, .int (nI (manyF im an T (2 ^ T) - q))), (0, .ref z), (1, .int (nI (manyF im an T (2 ^ T)))), (4, .int (nI t)), (5, .int (nI q))]) hx hb dX8_question_135 rfl hl (by decide) rfl (fun ls hl => ?_)
                        refine lv_iinc (v := nI (t + 1)) (lv' := [(4, .int (nI (t + 1))), (3, .int (nI (manyF im an T (2 ^ T) - q))), (2, .int (nI t)), (6, .int (nI (manyF im an T (2 ^ T) - q))), (0, .ref z), (1, .int (nI (manyF im an T (2 ^ T)))), (5, .int (nI q))]) hx hb dX8_question_136 hl (k := 5) rfl (nI_1 _) (by decide) rfl (fun ls hl => ?_)
                        refine lv_goto (tgt := 17) hx hb dX8_question_139 (by decide) ?_
                        exact ih_17  (t + 1) (nI t) (manyF im an T (2 ^ T) - q) (by omega) (by first | omega | assumption | exact Nat.zero_le _) (by first | omega | assumption | exact Nat.zero_le _) (by subst ex; subst ey; subst eq1; simp [qF, moreQ, c_23, nc_23, c_40, nc_40, c_79, c_84, nc_84, c_90, nc_90, c_102, nc_102, c_118]) (by subst ex; subst ey; subst eq1; simp [qF, moreQ, c_23, nc_23, c_40, nc_40, c_79, c_84, nc_84, c_90, nc_90, c_102, nc_102, c_118]) _ _ hP hD hS _ (lv_sub hl [4, 5, 2, 1, 0] rfl)
                      · skip
                        refine lv_iload hx hb dX8_question_121 (lv_at hl 0 rfl) ?_
                        refine lv_iload_n hx hb dX8_question_123 rfl (lv_at hl 4 rfl) ?_
                        refine lv_icmp_lt (tgt := 130) hx hb dX8_question_124 (by decide) (fun c_124 => ?_) (fun c_124 => ?_)
                        · skip
                          have nc_124 : (manyF im an T (2 ^ T) - q) < w := (nI_ltI (a := manyF im an T (2 ^ T) - q) (b := w) (by omega) (by omega)).mp c_124
                          refine lv_iload hx hb dX8_question_130 (lv_at hl 5 rfl) ?_
                          refine lv_istore_n (lv' := [(2, .int (nI t)), (6, .int (nI (manyF im an T (2 ^ T) - q))), (0, .ref z), (1, .int (nI (manyF im an T (2 ^ T)))), (3, .int (nI w)), (4, .int (nI t)), (5, .int (nI q))]) hx hb dX8_question_132 rfl hl (by decide) rfl (fun ls hl => ?_)
                          refine lv_iload hx hb dX8_question_133 (lv_at hl 1 rfl) ?_
                          refine lv_istore_n (lv' := [(3, .int (nI (manyF im an T (2 ^ T) - q))), (2, .int (nI t)), (6, .int (nI (manyF im an T (2 ^ T) - q))), (0, .ref z), (1, .int (nI (manyF im an T (2 ^ T)))), (4, .int (nI t)), (5, .int (nI q))]) hx hb dX8_question_135 rfl hl (by decide) rfl (fun ls hl => ?_)
                          refine lv_iinc (v := nI (t + 1)) (lv' := [(4, .int (nI (t + 1))), (3, .int (nI (manyF im an T (2 ^ T) - q))), (2, .int (nI t)), (6, .int (nI (manyF im an T (2 ^ T) - q))), (0, .ref z), (1, .int (nI (manyF im an T (2 ^ T)))), (5, .int (nI q))]) hx hb dX8_question_136 hl (k := 5) rfl (nI_1 _) (by decide) rfl (fun ls hl => ?_)
                          refine lv_goto (tgt := 17) hx hb dX8_question_139 (by decide) ?_
                          exact ih_17  (t + 1) (nI t) (manyF im an T (2 ^ T) - q) (by omega) (by first | omega | assumption | exact Nat.zero_le _) (by first | omega | assumption | exact Nat.zero_le _) (by subst ex; subst ey; subst eq1; simp [qF, moreQ, c_23, nc_23, c_40, nc_40, c_79, c_84, nc_84, c_90, nc_90, c_102, nc_102, c_118, c_124, nc_124]) (by subst ex; subst ey; subst eq1; simp [qF, moreQ, c_23, nc_23, c_40, nc_40, c_79, c_84, nc_84, c_90, nc_90, c_102, nc_102, c_118, c_124, nc_124]) _ _ hP hD hS _ (lv_sub hl [4, 5, 2, 1, 0] rfl)
                        · skip
                          have nc_124 : ¬ (manyF im an T (2 ^ T) - q) < w := (not_congr (nI_ltI (a := manyF im an T (2 ^ T) - q) (b := w) (by omega) (by omega))).mp c_124
                          refine lv_goto (tgt := 136) hx hb dX8_question_127 (by decide) ?_
                          refine lv_iinc (v := nI (t + 1)) (lv' := [(4, .int (nI (t + 1))), (6, .int (nI (manyF im an T (2 ^ T) - q))), (0, .ref z), (1, .int (nI (manyF im an T (2 ^ T)))), (2, .int x), (3, .int (nI w)), (5, .int (nI q))]) hx hb dX8_question_136 hl (k := 5) rfl (nI_1 _) (by decide) rfl (fun ls hl => ?_)
                          refine lv_goto (tgt := 17) hx hb dX8_question_139 (by decide) ?_
                          exact ih_17  (t + 1) x w (by omega) (by first | omega | assumption | exact Nat.zero_le _) (by first | omega | assumption | exact Nat.zero_le _) (by subst ex; subst ey; subst eq1; simp [qF, moreQ, c_23, nc_23, c_40, nc_40, c_79, c_84, nc_84, c_90, nc_90, c_102, nc_102, c_118, c_124, nc_124]) (by subst ex; subst ey; subst eq1; simp [qF, moreQ, c_23, nc_23, c_40, nc_40, c_79, c_84, nc_84, c_90, nc_90, c_102, nc_102, c_118, c_124, nc_124]) _ _ hP hD hS _ (lv_sub hl [2, 3, 4, 5, 0] rfl)
                    · skip
                      have nc_102 : ¬ q ≤ (manyF im an T (2 ^ T) - q) := (not_congr (nI_leI (a := q) (b := manyF im an T (2 ^ T) - q) (by omega) (by omega))).mp c_102
                      refine lv_iload hx hb dX8_question_105 (lv_at hl 5 rfl) ?_
                      refine lv_goto (tgt := 114) hx hb dX8_question_107 (by decide) ?_
                      refine lv_istore (lv' := [(6, .int (nI q)), (0, .ref z), (1, .int (nI (manyF im an T (2 ^ T)))), (2, .int x), (3, .int (nI w)), (4, .int (nI t)), (5, .int (nI q))]) hx hb dX8_question_114 hl (by decide) rfl (fun ls hl => ?_)
                      refine lv_iload_n hx hb dX8_question_116 rfl (lv_at hl 3 rfl) ?_
                      refine lv_iconst (v := (-1)) hx hb dX8_question_117 (by decide) ?_
                      refine lv_icmp_eq (tgt := 130) hx hb dX8_question_118 (by decide) (fun c_118 => ?_) (fun c_118 => ?_)
                      · skip
                        refine lv_iload hx hb dX8_question_130 (lv_at hl 5 rfl) ?_
                        refine lv_istore_n (lv' := [(2, .int (nI t)), (6, .int (nI q)), (0, .ref z), (1, .int (nI (manyF im an T (2 ^ T)))), (3, .int (nI w)), (4, .int (nI t)), (5, .int (nI q))]) hx hb dX8_question_132 rfl hl (by decide) rfl (fun ls hl => ?_)
                        refine lv_iload hx hb dX8_question_133 (lv_at hl 1 rfl) ?_
                        refine lv_istore_n (lv' := [(3, .int (nI q)), (2, .int (nI t)), (6, .int (nI q)), (0, .ref z), (1, .int (nI (manyF im an T (2 ^ T)))), (4, .int (nI t)), (5, .int (nI q))]) hx hb dX8_question_135 rfl hl (by decide) rfl (fun ls hl => ?_)
                        refine lv_iinc (v := nI (t + 1)) (lv' := [(4, .int (nI (t + 1))), (3, .int (nI q)), (2, .int (nI t)), (6, .int (nI q)), (0, .ref z), (1, .int (nI (manyF im an T (2 ^ T)))), (5, .int (nI q))]) hx hb dX8_question_136 hl (k := 5) rfl (nI_1 _) (by decide) rfl (fun ls hl => ?_)
                        refine lv_goto (tgt := 17) hx hb dX8_question_139 (by decide) ?_
                        exact ih_17  (t + 1) (nI t) q (by omega) (by first | omega | assumption | exact Nat.zero_le _) (by first | omega | assumption | exact Nat.zero_le _) (by subst ex; subst ey; subst eq1; simp [qF, moreQ, c_23, nc_23, c_40, nc_40, c_79, c_84, nc_84, c_90, nc_90, c_102, nc_102, c_118]) (by subst ex; subst ey; subst eq1; simp [qF, moreQ, c_23, nc_23, c_40, nc_40, c_79, c_84, nc_84, c_90, nc_90, c_102, nc_102, c_118]) _ _ hP hD hS _ (lv_sub hl [4, 5, 2, 1, 0] rfl)
                      · skip
                        refine lv_iload hx hb dX8_question_121 (lv_at hl 0 rfl) ?_
                        refine lv_iload_n hx hb dX8_question_123 rfl (lv_at hl 4 rfl) ?_
                        refine lv_icmp_lt (tgt := 130) hx hb dX8_question_124 (by decide) (fun c_124 => ?_) (fun c_124 => ?_)
                        · skip
                          have nc_124 : q < w := (nI_ltI (a := q) (b := w) (by omega) (by omega)).mp c_124
                          refine lv_iload hx hb dX8_question_130 (lv_at hl 5 rfl) ?_
                          refine lv_istore_n (lv' := [(2, .int (nI t)), (6, .int (nI q)), (0, .ref z), (1, .int (nI (manyF im an T (2 ^ T)))), (3, .int (nI w)), (4, .int (nI t)), (5, .int (nI q))]) hx hb dX8_question_132 rfl hl (by decide) rfl (fun ls hl => ?_)
                          refine lv_iload hx hb dX8_question_133 (lv_at hl 1 rfl) ?_
                          refine lv_istore_n (lv' := [(3, .int (nI q)), (2, .int (nI t)), (6, .int (nI q)), (0, .ref z), (1, .int (nI (manyF im an T (2 ^ T)))), (4, .int (nI t)), (5, .int (nI q))]) hx hb dX8_question_135 rfl hl (by decide) rfl (fun ls hl => ?_)
                          refine lv_iinc (v := nI (t + 1)) (lv' := [(4, .int (nI (t + 1))), (3, .int (nI q)), (2, .int (nI t)), (6, .int (nI q)), (0, .ref z), (1, .int (nI (manyF im an T (2 ^ T)))), (5, .int (nI q))]) hx hb dX8_question_136 hl (k := 5) rfl (nI_1 _) (by decide) rfl (fun ls hl => ?_)
                          refine lv_goto (tgt := 17) hx hb dX8_question_139 (by decide) ?_
                          exact ih_17  (t + 1) (nI t) q (by omega) (by first | omega | assumption | exact Nat.zero_le _) (by first | omega | assumption | exact Nat.zero_le _) (by subst ex; subst ey; subst eq1; simp [qF, moreQ, c_23, nc_23, c_40, nc_40, c_79, c_84, nc_84, c_90, nc_90, c_102, nc_102, c_118, c_124, nc_124]) (by subst ex; subst ey; subst eq1; simp [qF, moreQ, c_23, nc_23, c_40, nc_40, c_79, c_84, nc_84, c_90, nc_90, c_102, nc_102, c_118, c_124, nc_124]) _ _ hP hD hS _ (lv_sub hl [4, 5, 2, 1, 0] rfl)
                        · skip
                          have nc_124 : ¬ q < w := (not_congr (nI_ltI (a := q) (b := w) (by omega) (by omega))).mp c_124
                          refine lv_goto (tgt := 136) hx hb dX8_question_127 (by decide) ?_
                          refine lv_iinc (v := nI (t + 1)) (lv' := [(4, .int (nI (t + 1))), (6, .int (nI q)), (0, .ref z), (1, .int (nI (manyF im an T (2 ^ T)))), (2, .int x), (3, .int (nI w)), (5, .int (nI q))]) hx hb dX8_question_136 hl (k := 5) rfl (nI_1 _) (by decide) rfl (fun ls hl => ?_)
                          refine lv_goto (tgt := 17) hx hb dX8_question_139 (by decide) ?_
                          exact ih_17  (t + 1) x w (by omega) (by first | omega | assumption | exact Nat.zero_le _) (by first | omega | assumption | exact Nat.zero_le _) (by subst ex; subst ey; subst eq1; simp [qF, moreQ, c_23, nc_23, c_40, nc_40, c_79, c_84, nc_84, c_90, nc_90, c_102, nc_102, c_118, c_124, nc_124]) (by subst ex; subst ey; subst eq1; simp [qF, moreQ, c_23, nc_23, c_40, nc_40, c_79, c_84, nc_84, c_90, nc_90, c_102, nc_102, c_118, c_124, nc_124]) _ _ hP hD hS _ (lv_sub hl [2, 3, 4, 5, 0] rfl)
                  · skip
                    have nc_90 : q = (manyF im an T (2 ^ T)) := (nI_eq (a := q) (b := manyF im an T (2 ^ T)) (by omega) (by omega)).mp c_90
                    refine lv_goto (tgt := 136) hx hb dX8_question_93 (by decide) ?_
                    refine lv_iinc (v := nI (t + 1)) (lv' := [(4, .int (nI (t + 1))), (0, .ref z), (1, .int (nI (manyF im an T (2 ^ T)))), (2, .int x), (3, .int (nI w)), (5, .int (nI q)), (6, .int (nI v))]) hx hb dX8_question_136 hl (k := 4) rfl (nI_1 _) (by decide) rfl (fun ls hl => ?_)
                    refine lv_goto (tgt := 17) hx hb dX8_question_139 (by decide) ?_
                    exact ih_17  (t + 1) x w (by omega) (by first | omega | assumption | exact Nat.zero_le _) (by first | omega | assumption | exact Nat.zero_le _) (by subst ex; subst ey; subst eq1; simp [qF, moreQ, c_23, nc_23, c_40, nc_40, c_79, c_84, nc_84, c_90, nc_90]) (by subst ex; subst ey; subst eq1; simp [qF, moreQ, c_23, nc_23, c_40, nc_40, c_79, c_84, nc_84, c_90, nc_90]) _ _ hP hD hS _ (lv_sub hl [1, 2, 3, 4, 0] rfl)
            · skip
              have nc_40 : ¬ (2 ^ T) ≤ v := (not_congr (nI_leI (a := 2 ^ T) (b := v) (by omega) (by omega))).mp c_40
              refine lv_iload hx hb dX8_question_43 (lv_at hl 6 rfl) ?_
              refine lv_iload hx hb dX8_question_45 (lv_at hl 4 rfl) ?_
              refine lv_ishr hx hb dX8_question_47 ?_
              refine lv_iconst (v := 1) hx hb dX8_question_48 (by decide) ?_
              refine lv_iand hx hb dX8_question_49 ?_
              refine lv_iconst (v := 1) hx hb dX8_question_50 (by decide) ?_
              refine lv_icmp_ne (tgt := 66) hx hb dX8_question_51 (by decide) (fun c_51 => ?_) (fun c_51 => ?_)
              · skip
                refine lv_iinc (v := nI (v + 1)) (lv' := [(6, .int (nI (v + 1))), (0, .ref z), (1, .int (nI (manyF im an T (2 ^ T)))), (2, .int x), (3, .int (nI w)), (4, .int (nI t)), (5, .int (nI q))]) hx hb dX8_question_66 hl (k := 6) rfl (nI_1 _) (by decide) rfl (fun ls hl => ?_)
                refine lv_goto (tgt := 32) hx hb dX8_question_69 (by decide) ?_
                exact ih_32  (v + 1) q (by omega) (by first | omega | assumption | exact Nat.zero_le _) (by first | omega | assumption | exact Nat.zero_le _) (by rw [eq1]; simp [qN, hasB, c_23, nc_23, c_40, nc_40, c_51]) _ _ hP hD hS _ (lv_sub hl [1, 2, 3, 4, 5, 6, 0] rfl)
              · skip
                refine lv_aload_n hx hb dX8_question_54 rfl (lv_at hl 0 rfl) ?_
                refine lv_iload hx hb dX8_question_55 (lv_at hl 6 rfl) ?_
                refine kGoR (va_runV (As := [.int (nI v)]) (rest := []) ⟨hx, hb, hml, hown, hts⟩ (c_X8_isState l D cI cJ cZ cO z a0 a1 a2 a3 a4 a5 a6 a7 a8 a9 a10 a11 a12 a13 a14 a15 T P pa kn rn ln 0 wt im an (nI v) (by first | assumption | omega | decide)) (cwV 1 hts gX8_question_X8_isState rfl rfl rfl (by decide +kernel) ⟨Nat.le_of_ble_eq_true rfl, Nat.le_of_ble_eq_true rfl⟩) (kPreVR (ci := 9) (q0 := 0) hK (kPc_sub hP [0, 1, 2] rfl) rfl rfl rfl) rfl rfl hl.1 rfl (lv_room (Nat.le_of_ble_eq_true rfl)) dX8_question_57 ⟨Nat.le_of_ble_eq_true rfl, Nat.le_of_ble_eq_true rfl⟩) (fun v_6 hv_6 => ?_)
                obtain rfl := hv_6
                refine W.eq (g2 := F0 m 60 ls [.int (k01 (stateB im an T (nI v)))]) rfl ?_
                refine lv_if_eq (tgt := 66) hx hb dX8_question_60 (by decide) (fun c_60 => ?_) (fun c_60 => ?_)
                · skip
                  have c_60 := k01_z c_60
                  refine lv_iinc (v := nI (v + 1)) (lv' := [(6, .int (nI (v + 1))), (0, .ref z), (1, .int (nI (manyF im an T (2 ^ T)))), (2, .int x), (3, .int (nI w)), (4, .int (nI t)), (5, .int (nI q))]) hx hb dX8_question_66 hl (k := 6) rfl (nI_1 _) (by decide) rfl (fun ls hl => ?_)
                  refine lv_goto (tgt := 32) hx hb dX8_question_69 (by decide) ?_
                  exact ih_32  (v + 1) q (by omega) (by first | omega | assumption | exact Nat.zero_le _) (by first | omega | assumption | exact Nat.zero_le _) (by rw [eq1]; simp [qN, hasB, c_23, nc_23, c_40, nc_40, c_51, c_60]) _ _ hP hD hS _ (lv_sub hl [1, 2, 3, 4, 5, 6, 0] rfl)
                · skip
                  have c_60 := k01_n c_60
                  refine lv_iinc (v := nI (q + 1)) (lv' := [(5, .int (nI (q + 1))), (0, .ref z), (1, .int (nI (manyF im an T (2 ^ T)))), (2, .int x), (3, .int (nI w)), (4, .int (nI t)), (6, .int (nI v))]) hx hb dX8_question_63 hl (k := 5) rfl (nI_1 _) (by decide) rfl (fun ls hl => ?_)
                  refine lv_iinc (v := nI (v + 1)) (lv' := [(6, .int (nI (v + 1))), (5, .int (nI (q + 1))), (0, .ref z), (1, .int (nI (manyF im an T (2 ^ T)))), (2, .int x), (3, .int (nI w)), (4, .int (nI t))]) hx hb dX8_question_66 hl (k := 6) rfl (nI_1 _) (by decide) rfl (fun ls hl => ?_)
                  refine lv_goto (tgt := 32) hx hb dX8_question_69 (by decide) ?_
                  exact ih_32  (v + 1) (q + 1) (by omega) (by first | omega | assumption | exact Nat.zero_le _) (by first | omega | assumption | exact Nat.zero_le _) (by rw [eq1]; simp [qN, hasB, c_23, nc_23, c_40, nc_40, c_51, c_60]) _ _ hP hD hS _ (lv_sub hl [2, 3, 4, 5, 6, 1, 0] rfl)
        exact hloop_32 ((2 ^ T - 0) + 1) 0 0 (Nat.lt_succ_self _) (by first | omega | assumption | exact Nat.zero_le _) (by first | omega | assumption | exact Nat.zero_le _) (by rfl) _ _ hP hD hS _ (lv_sub hl [2, 3, 4, 5, 6, 1, 0] rfl)
  exact hloop_17 ((T - 0) + 1) 0 (-1) 0 (Nat.lt_succ_self _) (by first | omega | assumption | exact Nat.zero_le _) (by first | omega | assumption | exact Nat.zero_le _) (by rfl) (by rfl) _ _ hP hD hS _ (lv_sub hl [4, 3, 2, 1, 0] rfl)

set_option maxHeartbeats 4000000 in
set_option maxRecDepth 100000 in
theorem c_X8_state_a (l : Launch) (D : va_G) (cI cJ cZ cO : ClassId) (z : Nat) (a0 : Nat) (a1 : Nat) (a2 : Nat) (a3 : Nat) (a4 : Nat) (a5 : Nat) (a6 : Nat) (a7 : Nat) (a8 : Nat) (a9 : Nat) (a10 : Nat) (a11 : Nat) (a12 : Nat) (a13 : Nat) (a14 : Nat) (a15 : Nat) (T : Nat) (P : Nat) (pa : Int32) (kn : Int32) (rn : Nat) (ln : Nat) (th : Int32) (wt : Int32) (im : Nat → Int32) (an : Nat → Int32) (j : Nat) (hT : T ≤ 12) (hj : j < 2 ^ 31) : kC l D (kTY cI cJ cZ cO) yX8_state wsX8_state 2 45 0 0 [.ref z, .int (nI j)] [(z, .inr (9, [.ref a0, .ref a1, .int (nI T), .ref a2, .ref a3, .ref a4, .ref a5, .ref a6, .int (nI P), .int pa, .int kn, .ref a7, .int (nI rn), .ref a8, .ref a9, .int (nI ln), .ref a10, .int th, .ref a11, .ref a12, .int wt, .ref a13, .ref a14, .ref a15])), (a1, .inl (cI, 12, .inl im)), (a10, .inl (cI, 12, .inl an))] (fun rv_ rw_ => rv_ = some (.int (oV (stO im an T j (2 ^ T)))) ∧ rw_ = [(z, .inr (9, [.ref a0, .ref a1, .int (nI T), .ref a2, .ref a3, .ref a4, .ref a5, .ref a6, .int (nI P), .int pa, .int kn, .ref a7, .int (nI rn), .ref a8, .ref a9, .int (nI ln), .ref a10, .int (oT (stO im an T j (2 ^ T))), .ref a11, .ref a12, .int wt, .ref a13, .ref a14, .ref a15])), (a1, .inl (cI, 12, .inl im)), (a10, .inl (cI, 12, .inl an))]) := by
  refine kEnter (cc := cX8_state) (maxL := 4) (ret := (some .int)) (by decide) rfl (Nat.le_of_ble_eq_true rfl) ?_
  intro p e s m args below meth c hx hb hr hml hts hown hlk hnm hK hP hD hS hA ls hl
  have hl : lv_has ls 4 [(0, .ref z), (1, .int (nI j))] := hl
  have hw_f63 := hts (.fieldLink RX8 63 "WhatToReadModel" "thrown" "I") (by decide +kernel)
  have hi_X8 : ∀ w ∈ wsX80, w ∈ wsX8_state := by decide +kernel
  have hw_f66 := hts (.fieldLink RX8 66 "WhatToReadModel" "topics" "I") (by decide +kernel)
  refine lv_aload_n hx hb dX8_state_0 rfl (lv_at hl 0 rfl) ?_
  refine lv_iconst (v := 0) hx hb dX8_state_1 (by decide) ?_
  refine va_put (D := D) (ci := 9) (v := .int 0) (ty := .int) (C := RX8) (T := TX8) (N := 24) hx hb hts hi_X8 tyX8 tyX8_ok nmX8 hown hK.1 hP hD hS 0 rfl rfl 17 (by decide) hw_f63 (fun _ h9 => h9) rfl (by decide +kernel) rfl rfl (Nat.le_of_ble_eq_true rfl) dX8_state_2 (fun H locs hP hD hS => ?_)
  have hP : va_P D vwCl [(z, .inr (9, [.ref a0, .ref a1, .int (nI T), .ref a2, .ref a3, .ref a4, .ref a5, .ref a6, .int (nI P), .int pa, .int kn, .ref a7, .int (nI rn), .ref a8, .ref a9, .int (nI ln), .ref a10, .int 0, .ref a11, .ref a12, .int wt, .ref a13, .ref a14, .ref a15])), (a1, .inl (cI, 12, .inl im)), (a10, .inl (cI, 12, .inl an))] H := hP
  have hD : va_D _ [(z, .inr (9, [.ref a0, .ref a1, .int (nI T), .ref a2, .ref a3, .ref a4, .ref a5, .ref a6, .int (nI P), .int pa, .int kn, .ref a7, .int (nI rn), .ref a8, .ref a9, .int (nI ln), .ref a10, .int 0, .ref a11, .ref a12, .int wt, .ref a13, .ref a14, .ref a15])), (a1, .inl (cI, 12, .inl im)), (a10, .inl (cI, 12, .inl an))] := hD
  refine lv_iload_n hx hb dX8_state_5 rfl (lv_at hl 1 rfl) ?_
  refine lv_istore_n (lv' := [(2, .int (nI j)), (0, .ref z), (1, .int (nI j))]) hx hb dX8_state_6 rfl hl (by decide) rfl (fun ls hl => ?_)
  refine lv_iconst (v := 0) hx hb dX8_state_7 (by decide) ?_
  refine lv_istore_n (lv' := [(3, .int 0), (2, .int (nI j)), (0, .ref z), (1, .int (nI j))]) hx hb dX8_state_8 rfl hl (by decide) rfl (fun ls hl => ?_)
  have hloop_9 : ∀ (fu : Nat) (v : Nat) (q : Nat), 2 ^ T - v < fu → v ≤ 2 ^ T → q ≤ j → q = manyF im an T v → stO im an T j v = none → ∀ (H : Heap) (locs : List Loc), va_P D vwCl [(z, .inr (9, [.ref a0, .ref a1, .int (nI T), .ref a2, .ref a3, .ref a4, .ref a5, .ref a6, .int (nI P), .int pa, .int kn, .ref a7, .int (nI rn), .ref a8, .ref a9, .int (nI ln), .ref a10, .int 0, .ref a11, .ref a12, .int wt, .ref a13, .ref a14, .ref a15])), (a1, .inl (cI, 12, .inl im)), (a10, .inl (cI, 12, .inl an))] H → va_D (va_A [(z, .inr (9, [.ref a0, .ref a1, .int (nI T), .ref a2, .ref a3, .ref a4, .ref a5, .ref a6, .int (nI P), .int pa, .int kn, .ref a7, .int (nI rn), .ref a8, .ref a9, .int (nI ln), .ref a10, .int th, .ref a11, .ref a12, .int wt, .ref a13, .ref a14, .ref a15])), (a1, .inl (cI, 12, .inl im)), (a10, .inl (cI, 12, .inl an))] s.heap.size) [(z, .inr (9, [.ref a0, .ref a1, .int (nI T), .ref a2, .ref a3, .ref a4, .ref a5, .ref a6, .int (nI P), .int pa, .int kn, .ref a7, .int (nI rn), .ref a8, .ref a9, .int (nI ln), .ref a10, .int 0, .ref a11, .ref a12, .int wt, .ref a13, .ref a14, .ref a15])), (a1, .inl (cI, 12, .inl im)), (a10, .inl (cI, 12, .inl an))] → va_S (va_A [(z, .inr (9, [.ref a0, .ref a1, .int (nI T), .ref a2, .ref a3, .ref a4, .ref a5, .ref a6, .int (nI P), .int pa, .int kn, .ref a7, .int (nI rn), .ref a8, .ref a9, .int (nI ln), .ref a10, .int th, .ref a11, .ref a12, .int wt, .ref a13, .ref a14, .ref a15])), (a1, .inl (cI, 12, .inl im)), (a10, .inl (cI, 12, .inl an))] s.heap.size) s.heap H locs → ∀ ls : Array Slot, lv_has ls 4 [(0, .ref z), (1, .int (nI j)), (2, .int (nI (j - q))), (3, .int (nI v))] → W p l e ({ frames := 2, cells := 0, slots := 0, locals := 45 }) s m args below meth c H locs 0 0 (MQ below (kQ D [(z, .inr (9, [.ref a0, .ref a1, .int (nI T), .ref a2, .ref a3, .ref a4, .ref a5, .ref a6, .int (nI P), .int pa, .int kn, .ref a7, .int (nI rn), .ref a8, .ref a9, .int (nI ln), .ref a10, .int th, .ref a11, .ref a12, .int wt, .ref a13, .ref a14, .ref a15])), (a1, .inl (cI, 12, .inl im)), (a10, .inl (cI, 12, .inl an))] s.heap.size (fun rv_ rw_ => rv_ = some (.int (oV (stO im an T j (2 ^ T)))) ∧ rw_ = [(z, .inr (9, [.ref a0, .ref a1, .int (nI T), .ref a2, .ref a3, .ref a4, .ref a5, .ref a6, .int (nI P), .int pa, .int kn, .ref a7, .int (nI rn), .ref a8, .ref a9, .int (nI ln), .ref a10, .int (oT (stO im an T j (2 ^ T))), .ref a11, .ref a12, .int wt, .ref a13, .ref a14, .ref a15])), (a1, .inl (cI, 12, .inl im)), (a10, .inl (cI, 12, .inl an))])) args s 0 0 (va_A [(z, .inr (9, [.ref a0, .ref a1, .int (nI T), .ref a2, .ref a3, .ref a4, .ref a5, .ref a6, .int (nI P), .int pa, .int kn, .ref a7, .int (nI rn), .ref a8, .ref a9, .int (nI ln), .ref a10, .int th, .ref a11, .ref a12, .int wt, .ref a13, .ref a14, .ref a15])), (a1, .inl (cI, 12, .inl im)), (a10, .inl (cI, 12, .inl an))] s.heap.size)) (F0 m 9 ls []) := by
    intro fu
    induction fu with
    | zero => intro v q hmu; exact absurd hmu (Nat.not_lt_zero _)
    | succ fu ih_9 =>
      intro v q hmu_9 hv hq eq1 es H locs hP hD hS ls hl
      have hpw := kpow hT
      refine lv_iload_n hx hb dX8_state_9 rfl (lv_at hl 3 rfl) ?_
      refine lv_iconst (v := 1) hx hb dX8_state_10 (by decide) ?_
      refine lv_aload_n hx hb dX8_state_11 rfl (lv_at hl 0 rfl) ?_
      refine va_get (D := D) (ci := 9) (v := .int (nI T)) (C := RX8) (T := TX8) (N := 24) hx hb hts hi_X8 hown hK.1 hP 0 rfl rfl 2 (by decide) hw_f66 (fun _ h9 => h9) rfl dX8_state_12 ?_
      refine lv_ishl hx hb dX8_state_15 ?_
      refine lv_topi (fun nv_1 ev_1 => ?_)
      obtain rfl : nv_1 = nI (2 ^ T) := ev_1.trans (kshl1 T hT)
      refine lv_icmp_ge (tgt := 49) hx hb dX8_state_16 (by decide) (fun c_16 => ?_) (fun c_16 => ?_)
      · skip
        have nc_16 : (2 ^ T) ≤ v := (nI_leI (a := 2 ^ T) (b := v) (by omega) (by omega)).mp c_16
        have e12 : v = 2 ^ T := by omega
        refine lv_aload_n hx hb dX8_state_49 rfl (lv_at hl 0 rfl) ?_
        refine lv_iconst (v := 1) hx hb dX8_state_50 (by decide) ?_
        refine va_put (D := D) (ci := 9) (v := .int 1) (ty := .int) (C := RX8) (T := TX8) (N := 24) hx hb hts hi_X8 tyX8 tyX8_ok nmX8 hown hK.1 hP hD hS 0 rfl rfl 17 (by decide) hw_f63 (fun _ h9 => h9) rfl (by decide +kernel) rfl rfl (Nat.le_of_ble_eq_true rfl) dX8_state_51 (fun H locs hP hD hS => ?_)
        have hP : va_P D vwCl [(z, .inr (9, [.ref a0, .ref a1, .int (nI T), .ref a2, .ref a3, .ref a4, .ref a5, .ref a6, .int (nI P), .int pa, .int kn, .ref a7, .int (nI rn), .ref a8, .ref a9, .int (nI ln), .ref a10, .int 1, .ref a11, .ref a12, .int wt, .ref a13, .ref a14, .ref a15])), (a1, .inl (cI, 12, .inl im)), (a10, .inl (cI, 12, .inl an))] H := hP
        have hD : va_D _ [(z, .inr (9, [.ref a0, .ref a1, .int (nI T), .ref a2, .ref a3, .ref a4, .ref a5, .ref a6, .int (nI P), .int pa, .int kn, .ref a7, .int (nI rn), .ref a8, .ref a9, .int (nI ln), .ref a10, .int 1, .ref a11, .ref a12, .int wt, .ref a13, .ref a14, .ref a15])), (a1, .inl (cI, 12, .inl im)), (a10, .inl (cI, 12, .inl an))] := hD
        refine lv_iconst (v := 0) hx hb dX8_state_54 (by decide) ?_
        have ew_0 : (1 : Int32) = oT (stO im an T j (2 ^ T)) := by first | (rw [show stO im an T j (2 ^ T) = none from (by rw [← e12]; exact es)]; rfl) | (rw [stO_hit es c_28 (by omega) (by omega)]; rfl)
        exact kRetI hx hb hr hlk dX8_state_55 hP hD hS (Nat.le_of_ble_eq_true rfl) (Nat.le_of_ble_eq_true rfl) ⟨(kpi (by first | (rw [show stO im an T j (2 ^ T) = none from (by rw [← e12]; exact es)]; rfl) | (rw [stO_hit es c_28 (by omega) (by omega)]; rfl))), (kw1 (fun (z_0 : Int32) => ([(z, .inr (9, [.ref a0, .ref a1, .int (nI T), .ref a2, .ref a3, .ref a4, .ref a5, .ref a6, .int (nI P), .int pa, .int kn, .ref a7, .int (nI rn), .ref a8, .ref a9, .int (nI ln), .ref a10, .int z_0, .ref a11, .ref a12, .int wt, .ref a13, .ref a14, .ref a15])), (a1, .inl (cI, 12, .inl im)), (a10, .inl (cI, 12, .inl an))] : va_W)) ew_0)⟩
      · skip
        have nc_16 : ¬ (2 ^ T) ≤ v := (not_congr (nI_leI (a := 2 ^ T) (b := v) (by omega) (by omega))).mp c_16
        refine lv_iload_n hx hb dX8_state_19 rfl (lv_at hl 1 rfl) ?_
        refine lv_if_lt (tgt := 49) hx hb dX8_state_20 (by decide) (fun c_20 => ?_) (fun c_20 => ?_)
        · exact absurd c_20 (nI_pos hj)
        · skip
          refine lv_aload_n hx hb dX8_state_23 rfl (lv_at hl 0 rfl) ?_
          refine lv_iload_n hx hb dX8_state_24 rfl (lv_at hl 3 rfl) ?_
          refine kGoR (va_runV (As := [.int (nI v)]) (rest := []) ⟨hx, hb, hml, hown, hts⟩ (c_X8_isState l D cI cJ cZ cO z a0 a1 a2 a3 a4 a5 a6 a7 a8 a9 a10 a11 a12 a13 a14 a15 T P pa kn rn ln 0 wt im an (nI v) (by first | assumption | omega | decide)) (cwV 1 hts gX8_state_X8_isState rfl rfl rfl (by decide +kernel) ⟨Nat.le_of_ble_eq_true rfl, Nat.le_of_ble_eq_true rfl⟩) (kPreVR (ci := 9) (q0 := 0) hK (kPc_sub hP [0, 1, 2] rfl) rfl rfl rfl) rfl rfl hl.1 rfl (lv_room (Nat.le_of_ble_eq_true rfl)) dX8_state_25 ⟨Nat.le_of_ble_eq_true rfl, Nat.le_of_ble_eq_true rfl⟩) (fun v_2 hv_2 => ?_)
          obtain rfl := hv_2
          refine W.eq (g2 := F0 m 28 ls [.int (k01 (stateB im an T (nI v)))]) rfl ?_
          refine lv_if_ne (tgt := 34) hx hb dX8_state_28 (by decide) (fun c_28 => ?_) (fun c_28 => ?_)
          · skip
            have c_28 := k01_n c_28
            refine lv_iload_n hx hb dX8_state_34 rfl (lv_at hl 2 rfl) ?_
            refine lv_if_ne (tgt := 40) hx hb dX8_state_35 (by decide) (fun c_35 => ?_) (fun c_35 => ?_)
            · skip
              have nc_35 : ¬ (j - q) = 0 := (not_congr (nI_eq (a := j - q) (b := 0) (by omega) (by omega))).mp c_35
              refine lv_iinc (v := nI (j - manyF im an T (v + 1))) (lv' := [(2, .int (nI (j - manyF im an T (v + 1)))), (0, .ref z), (1, .int (nI j)), (3, .int (nI v))]) hx hb dX8_state_40 hl (k := 2) rfl (by rw [show manyF im an T (v + 1) = q + 1 by (rw [eq1]; simp [manyF, c_28])]; exact kdecq (by omega)) (by decide) rfl (fun ls hl => ?_)
              refine lv_iinc (v := nI (v + 1)) (lv' := [(3, .int (nI (v + 1))), (2, .int (nI (j - manyF im an T (v + 1)))), (0, .ref z), (1, .int (nI j))]) hx hb dX8_state_43 hl (k := 3) rfl (nI_1 _) (by decide) rfl (fun ls hl => ?_)
              refine lv_goto (tgt := 9) hx hb dX8_state_46 (by decide) ?_
              exact ih_9  (v + 1) (manyF im an T (v + 1)) (by omega) (by first | omega | assumption | exact Nat.zero_le _) (by subst eq1; first | (rw [manyF, if_pos c_28]; omega) | (rw [manyF, if_neg (by simp [c_28])]; omega)) (by rfl) (by exact stO_miss es (by intro z; rcases z with ⟨z1, z2⟩; first | (rw [z1] at c_28; cases c_28; done) | omega)) _ _ hP hD hS _ (lv_sub hl [2, 3, 1, 0] rfl)
            · skip
              have nc_35 : (j - q) = 0 := (nI_eq (a := j - q) (b := 0) (by omega) (by omega)).mp c_35
              refine lv_iload_n hx hb dX8_state_38 rfl (lv_at hl 3 rfl) ?_
              have ew_0 : (0 : Int32) = oT (stO im an T j (2 ^ T)) := by first | (rw [show stO im an T j (2 ^ T) = none from (by rw [← e12]; exact es)]; rfl) | (rw [stO_hit es c_28 (by omega) (by omega)]; rfl)
              exact kRetI hx hb hr hlk dX8_state_39 hP hD hS (Nat.le_of_ble_eq_true rfl) (Nat.le_of_ble_eq_true rfl) ⟨(kpi (by first | (rw [show stO im an T j (2 ^ T) = none from (by rw [← e12]; exact es)]; rfl) | (rw [stO_hit es c_28 (by omega) (by omega)]; rfl))), (kw1 (fun (z_0 : Int32) => ([(z, .inr (9, [.ref a0, .ref a1, .int (nI T), .ref a2, .ref a3, .ref a4, .ref a5, .ref a6, .int (nI P), .int pa, .int kn, .ref a7, .int (nI rn), .ref a8, .ref a9, .int (nI ln), .ref a10, .int z_0, .ref a11, .ref a12, .int wt, .ref a13, .ref a14, .ref a15])), (a1, .inl (cI, 12, .inl im)), (a10, .inl (cI, 12, .inl an))] : va_W)) ew_0)⟩
          · skip
            have c_28 := k01_z c_28
            rw [show (nI (j - q) : Int32) = nI (j - manyF im an T (v + 1)) from by rw [show manyF im an T (v + 1) = q by (rw [eq1]; simp [manyF, c_28])]] at hl
            refine lv_goto (tgt := 43) hx hb dX8_state_31 (by decide) ?_
            refine lv_iinc (v := nI (v + 1)) (lv' := [(3, .int (nI (v + 1))), (0, .ref z), (1, .int (nI j)), (2, .int (nI (j - manyF im an T (v + 1))))]) hx hb dX8_state_43 hl (k := 3) rfl (nI_1 _) (by decide) rfl (fun ls hl => ?_)
            refine lv_goto (tgt := 9) hx hb dX8_state_46 (by decide) ?_
            exact ih_9  (v + 1) (manyF im an T (v + 1)) (by omega) (by first | omega | assumption | exact Nat.zero_le _) (by subst eq1; first | (rw [manyF, if_pos c_28]; omega) | (rw [manyF, if_neg (by simp [c_28])]; omega)) (by rfl) (by exact stO_miss es (by intro z; rcases z with ⟨z1, z2⟩; first | (rw [z1] at c_28; cases c_28; done) | omega)) _ _ hP hD hS _ (lv_sub hl [1, 2, 3, 0] rfl)
  exact hloop_9 ((2 ^ T - 0) + 1) 0 0 (Nat.lt_succ_self _) (by first | omega | assumption | exact Nat.zero_le _) (by exact Nat.zero_le _) (by rfl) (by rfl) _ _ hP hD hS _ (lv_sub hl [2, 3, 1, 0] rfl)

set_option maxHeartbeats 4000000 in
set_option maxRecDepth 100000 in
theorem c_X8_state_b (l : Launch) (D : va_G) (cI cJ cZ cO : ClassId) (z : Nat) (a0 : Nat) (a1 : Nat) (a2 : Nat) (a3 : Nat) (a4 : Nat) (a5 : Nat) (a6 : Nat) (a7 : Nat) (a8 : Nat) (a9 : Nat) (a10 : Nat) (a11 : Nat) (a12 : Nat) (a13 : Nat) (a14 : Nat) (a15 : Nat) (T : Nat) (P : Nat) (pa : Int32) (kn : Int32) (rn : Nat) (ln : Nat) (th : Int32) (wt : Int32) (im : Nat → Int32) (an : Nat → Int32) (x : Int32) (hT : T ≤ 12) (hx0 : x < 0) : kC l D (kTY cI cJ cZ cO) yX8_state wsX8_state 2 45 0 0 [.ref z, .int x] [(z, .inr (9, [.ref a0, .ref a1, .int (nI T), .ref a2, .ref a3, .ref a4, .ref a5, .ref a6, .int (nI P), .int pa, .int kn, .ref a7, .int (nI rn), .ref a8, .ref a9, .int (nI ln), .ref a10, .int th, .ref a11, .ref a12, .int wt, .ref a13, .ref a14, .ref a15])), (a1, .inl (cI, 12, .inl im)), (a10, .inl (cI, 12, .inl an))] (fun rv_ rw_ => rv_ = some (.int 0) ∧ rw_ = [(z, .inr (9, [.ref a0, .ref a1, .int (nI T), .ref a2, .ref a3, .ref a4, .ref a5, .ref a6, .int (nI P), .int pa, .int kn, .ref a7, .int (nI rn), .ref a8, .ref a9, .int (nI ln), .ref a10, .int 1, .ref a11, .ref a12, .int wt, .ref a13, .ref a14, .ref a15])), (a1, .inl (cI, 12, .inl im)), (a10, .inl (cI, 12, .inl an))]) := by
  refine kEnter (cc := cX8_state) (maxL := 4) (ret := (some .int)) (by decide) rfl (Nat.le_of_ble_eq_true rfl) ?_
  intro p e s m args below meth c hx hb hr hml hts hown hlk hnm hK hP hD hS hA ls hl
  have hl : lv_has ls 4 [(0, .ref z), (1, .int x)] := hl
  have hw_f63 := hts (.fieldLink RX8 63 "WhatToReadModel" "thrown" "I") (by decide +kernel)
  have hi_X8 : ∀ w ∈ wsX80, w ∈ wsX8_state := by decide +kernel
  have hw_f66 := hts (.fieldLink RX8 66 "WhatToReadModel" "topics" "I") (by decide +kernel)
  refine lv_aload_n hx hb dX8_state_0 rfl (lv_at hl 0 rfl) ?_
  refine lv_iconst (v := 0) hx hb dX8_state_1 (by decide) ?_
  refine va_put (D := D) (ci := 9) (v := .int 0) (ty := .int) (C := RX8) (T := TX8) (N := 24) hx hb hts hi_X8 tyX8 tyX8_ok nmX8 hown hK.1 hP hD hS 0 rfl rfl 17 (by decide) hw_f63 (fun _ h9 => h9) rfl (by decide +kernel) rfl rfl (Nat.le_of_ble_eq_true rfl) dX8_state_2 (fun H locs hP hD hS => ?_)
  have hP : va_P D vwCl [(z, .inr (9, [.ref a0, .ref a1, .int (nI T), .ref a2, .ref a3, .ref a4, .ref a5, .ref a6, .int (nI P), .int pa, .int kn, .ref a7, .int (nI rn), .ref a8, .ref a9, .int (nI ln), .ref a10, .int 0, .ref a11, .ref a12, .int wt, .ref a13, .ref a14, .ref a15])), (a1, .inl (cI, 12, .inl im)), (a10, .inl (cI, 12, .inl an))] H := hP
  have hD : va_D _ [(z, .inr (9, [.ref a0, .ref a1, .int (nI T), .ref a2, .ref a3, .ref a4, .ref a5, .ref a6, .int (nI P), .int pa, .int kn, .ref a7, .int (nI rn), .ref a8, .ref a9, .int (nI ln), .ref a10, .int 0, .ref a11, .ref a12, .int wt, .ref a13, .ref a14, .ref a15])), (a1, .inl (cI, 12, .inl im)), (a10, .inl (cI, 12, .inl an))] := hD
  refine lv_iload_n hx hb dX8_state_5 rfl (lv_at hl 1 rfl) ?_
  refine lv_istore_n (lv' := [(2, .int x), (0, .ref z), (1, .int x)]) hx hb dX8_state_6 rfl hl (by decide) rfl (fun ls hl => ?_)
  refine lv_iconst (v := 0) hx hb dX8_state_7 (by decide) ?_
  refine lv_istore_n (lv' := [(3, .int 0), (2, .int x), (0, .ref z), (1, .int x)]) hx hb dX8_state_8 rfl hl (by decide) rfl (fun ls hl => ?_)
  refine lv_iload_n hx hb dX8_state_9 rfl (lv_at hl 0 rfl) ?_
  refine lv_iconst (v := 1) hx hb dX8_state_10 (by decide) ?_
  refine lv_aload_n hx hb dX8_state_11 rfl (lv_at hl 2 rfl) ?_
  refine va_get (D := D) (ci := 9) (v := .int (nI T)) (C := RX8) (T := TX8) (N := 24) hx hb hts hi_X8 hown hK.1 hP 0 rfl rfl 2 (by decide) hw_f66 (fun _ h9 => h9) rfl dX8_state_12 ?_
  refine lv_ishl hx hb dX8_state_15 ?_
  refine lv_icmp_ge (tgt := 49) hx hb dX8_state_16 (by decide) (fun c_16 => ?_) (fun c_16 => ?_)
  · skip
    refine lv_aload_n hx hb dX8_state_49 rfl (lv_at hl 2 rfl) ?_
    refine lv_iconst (v := 1) hx hb dX8_state_50 (by decide) ?_
    refine va_put (D := D) (ci := 9) (v := .int 1) (ty := .int) (C := RX8) (T := TX8) (N := 24) hx hb hts hi_X8 tyX8 tyX8_ok nmX8 hown hK.1 hP hD hS 0 rfl rfl 17 (by decide) hw_f63 (fun _ h9 => h9) rfl (by decide +kernel) rfl rfl (Nat.le_of_ble_eq_true rfl) dX8_state_51 (fun H locs hP hD hS => ?_)
    have hP : va_P D vwCl [(z, .inr (9, [.ref a0, .ref a1, .int (nI T), .ref a2, .ref a3, .ref a4, .ref a5, .ref a6, .int (nI P), .int pa, .int kn, .ref a7, .int (nI rn), .ref a8, .ref a9, .int (nI ln), .ref a10, .int 1, .ref a11, .ref a12, .int wt, .ref a13, .ref a14, .ref a15])), (a1, .inl (cI, 12, .inl im)), (a10, .inl (cI, 12, .inl an))] H := hP
    have hD : va_D _ [(z, .inr (9, [.ref a0, .ref a1, .int (nI T), .ref a2, .ref a3, .ref a4, .ref a5, .ref a6, .int (nI P), .int pa, .int kn, .ref a7, .int (nI rn), .ref a8, .ref a9, .int (nI ln), .ref a10, .int 1, .ref a11, .ref a12, .int wt, .ref a13, .ref a14, .ref a15])), (a1, .inl (cI, 12, .inl im)), (a10, .inl (cI, 12, .inl an))] := hD
    refine lv_iconst (v := 0) hx hb dX8_state_54 (by decide) ?_
    exact kRetI hx hb hr hlk dX8_state_55 hP hD hS (Nat.le_of_ble_eq_true rfl) (Nat.le_of_ble_eq_true rfl) ⟨rfl, rfl⟩
  · skip
    refine lv_iload_n hx hb dX8_state_19 rfl (lv_at hl 3 rfl) ?_
    refine lv_if_lt (tgt := 49) hx hb dX8_state_20 (by decide) (fun c_20 => ?_) (fun c_20 => ?_)
    · skip
      refine lv_aload_n hx hb dX8_state_49 rfl (lv_at hl 2 rfl) ?_
      refine lv_iconst (v := 1) hx hb dX8_state_50 (by decide) ?_
      refine va_put (D := D) (ci := 9) (v := .int 1) (ty := .int) (C := RX8) (T := TX8) (N := 24) hx hb hts hi_X8 tyX8 tyX8_ok nmX8 hown hK.1 hP hD hS 0 rfl rfl 17 (by decide) hw_f63 (fun _ h9 => h9) rfl (by decide +kernel) rfl rfl (Nat.le_of_ble_eq_true rfl) dX8_state_51 (fun H locs hP hD hS => ?_)
      have hP : va_P D vwCl [(z, .inr (9, [.ref a0, .ref a1, .int (nI T), .ref a2, .ref a3, .ref a4, .ref a5, .ref a6, .int (nI P), .int pa, .int kn, .ref a7, .int (nI rn), .ref a8, .ref a9, .int (nI ln), .ref a10, .int 1, .ref a11, .ref a12, .int wt, .ref a13, .ref a14, .ref a15])), (a1, .inl (cI, 12, .inl im)), (a10, .inl (cI, 12, .inl an))] H := hP
      have hD : va_D _ [(z, .inr (9, [.ref a0, .ref a1, .int (nI T), .ref a2, .ref a3, .ref a4, .ref a5, .ref a6, .int (nI P), .int pa, .int kn, .ref a7, .int (nI rn), .ref a8, .ref a9, .int (nI ln), .ref a10, .int 1, .ref a11, .ref a12, .int wt, .ref a13, .ref a14, .ref a15])), (a1, .inl (cI, 12, .inl im)), (a10, .inl (cI, 12, .inl an))] := hD
      refine lv_iconst (v := 0) hx hb dX8_state_54 (by decide) ?_
      exact kRetI hx hb hr hlk dX8_state_55 hP hD hS (Nat.le_of_ble_eq_true rfl) (Nat.le_of_ble_eq_true rfl) ⟨rfl, rfl⟩
    · exact absurd (hx0) c_20
