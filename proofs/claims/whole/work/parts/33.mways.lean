/-! ===== the reference: ways ===== -/
def relF (ne ei im gi sk pg : Nat → Int32) (T : Nat) (pa wt : Int32) (v s : Nat) (q : (Nat → Int32) × (Nat → Int32)) : (Nat → Int32) × (Nat → Int32) :=
  if nbF ne ei im gi sk T wt s (nI v) = -1 then q
  else if q.1 (nbF ne ei im gi sk T wt s (nI v)).toNatClampNeg = 268435456 then q
  else if q.1 v < mtimeF pg pa s + q.1 (nbF ne ei im gi sk T wt s (nI v)).toNatClampNeg then q
  else if ¬ mtimeF pg pa s + q.1 (nbF ne ei im gi sk T wt s (nI v)).toNatClampNeg = q.1 v then (upd q.1 v (mtimeF pg pa s + q.1 (nbF ne ei im gi sk T wt s (nI v)).toNatClampNeg), upd q.2 v (1 + q.2 (nbF ne ei im gi sk T wt s (nI v)).toNatClampNeg))
  else if 1 + q.2 (nbF ne ei im gi sk T wt s (nI v)).toNatClampNeg < q.2 v then (upd q.1 v (mtimeF pg pa s + q.1 (nbF ne ei im gi sk T wt s (nI v)).toNatClampNeg), upd q.2 v (1 + q.2 (nbF ne ei im gi sk T wt s (nI v)).toNatClampNeg))
  else q
def rlxF (ne ei im gi sk pg : Nat → Int32) (T : Nat) (pa wt : Int32) (v : Nat) (q : (Nat → Int32) × (Nat → Int32)) : Nat → (Nat → Int32) × (Nat → Int32)
  | 0 => q
  | s + 1 => relF ne ei im gi sk pg T pa wt v s (rlxF ne ei im gi sk pg T pa wt v q s)
def fwF (ne ei im gi sk pg co st : Nat → Int32) (T P : Nat) (pa wt wi : Int32) : Nat → (Nat → Int32) × (Nat → Int32)
  | 0 => (co, st)
  | k + 1 => if wi &&& xnot (nI (2 ^ T - 1 - k)) = 0 then (upd (fwF ne ei im gi sk pg co st T P pa wt wi k).1 (2 ^ T - 1 - k) 0, upd (fwF ne ei im gi sk pg co st T P pa wt wi k).2 (2 ^ T - 1 - k) 0)
    else rlxF ne ei im gi sk pg T pa wt (2 ^ T - 1 - k) (upd (fwF ne ei im gi sk pg co st T P pa wt wi k).1 (2 ^ T - 1 - k) 268435456, upd (fwF ne ei im gi sk pg co st T P pa wt wi k).2 (2 ^ T - 1 - k) 0) (2 * P)
theorem ksub1 (a : Nat) : nI a + Int32.ofInt (-1) = nI a - 1 := by rw [Int32.sub_eq_add_neg]; rfl
theorem kq1 {q : Nat} (hq : q < 2 ^ 31) : nI q - 1 < 0 ↔ q = 0 := by
  rcases Nat.eq_zero_or_pos q with rfl | h
  · simp [nI]
  · have e : nI q - 1 = nI (q - 1) := pk_sub (a := q) (b := 1) h
    rw [e]
    constructor
    · intro z; exact absurd z (nI_pos (by omega))
    · intro z; omega
def hBp (ne ei im gi sk : Nat → Int32) (T P : Nat) (wt : Int32) : Prop := ∀ k, k < 2 * P → ∀ v, v < 2 ^ T → nbF ne ei im gi sk T wt k (nI v) = -1 ∨ vp_in (nbF ne ei im gi sk T wt k (nI v)) 4096

set_option maxHeartbeats 4000000 in
set_option maxRecDepth 100000 in
theorem c_X8_findWays (l : Launch) (D : va_G) (cI cJ cZ cO : ClassId) (z : Nat) (a0 : Nat) (a1 : Nat) (a2 : Nat) (a3 : Nat) (a4 : Nat) (a5 : Nat) (a6 : Nat) (a7 : Nat) (a8 : Nat) (a9 : Nat) (a10 : Nat) (a11 : Nat) (a12 : Nat) (a13 : Nat) (a14 : Nat) (a15 : Nat) (T : Nat) (P : Nat) (pa : Int32) (kn : Int32) (rn : Nat) (ln : Nat) (th : Int32) (wt : Int32) (im : Nat → Int32) (ne : Nat → Int32) (ei : Nat → Int32) (gi : Nat → Int32) (sk : Nat → Int32) (pg : Nat → Int32) (co : Nat → Int32) (st : Nat → Int32) (wi : Int32) (bu : Int32) (hT : T ≤ 12) (hP14 : P ≤ 14) (hB : hBp ne ei im gi sk T P bu) : kC l D (kTY cI cJ cZ cO) yX8_findWays wsX8_findWays 3 68 0 0 [.ref z, .int wi, .int bu] [(z, .inr (9, [.ref a0, .ref a1, .int (nI T), .ref a2, .ref a3, .ref a4, .ref a5, .ref a6, .int (nI P), .int pa, .int kn, .ref a7, .int (nI rn), .ref a8, .ref a9, .int (nI ln), .ref a10, .int th, .ref a11, .ref a12, .int wt, .ref a13, .ref a14, .ref a15])), (a1, .inl (cI, 12, .inl im)), (a2, .inl (cI, 14, .inl ne)), (a3, .inl (cI, 14, .inl ei)), (a4, .inl (cI, 14, .inl gi)), (a5, .inl (cI, 14, .inl sk)), (a6, .inl (cI, 14, .inl pg)), (a11, .inl (cI, 4096, .inl co)), (a12, .inl (cI, 4096, .inl st))] (fun rv_ rw_ => rv_ = none ∧ rw_ = [(z, .inr (9, [.ref a0, .ref a1, .int (nI T), .ref a2, .ref a3, .ref a4, .ref a5, .ref a6, .int (nI P), .int pa, .int kn, .ref a7, .int (nI rn), .ref a8, .ref a9, .int (nI ln), .ref a10, .int th, .ref a11, .ref a12, .int bu, .ref a13, .ref a14, .ref a15])), (a1, .inl (cI, 12, .inl im)), (a2, .inl (cI, 14, .inl ne)), (a3, .inl (cI, 14, .inl ei)), (a4, .inl (cI, 14, .inl gi)), (a5, .inl (cI, 14, .inl sk)), (a6, .inl (cI, 14, .inl pg)), (a11, .inl (cI, 4096, .inl ((fwF ne ei im gi sk pg co st T P pa bu wi (2 ^ T)).1))), (a12, .inl (cI, 4096, .inl ((fwF ne ei im gi sk pg co st T P pa bu wi (2 ^ T)).2)))]) := by
  refine kEnter (cc := cX8_findWays) (maxL := 9) (ret := none) (by decide) rfl (Nat.le_of_ble_eq_true rfl) ?_
  intro p e s m args below meth c hx hb hr hml hts hown hlk hnm hK hP hD hS hA ls hl
  have hl : lv_has ls 9 [(0, .ref z), (1, .int wi), (2, .int bu)] := hl
  have hw_f107 := hts (.fieldLink RX8 107 "WhatToReadModel" "without" "I") (by decide +kernel)
  have hi_X8 : ∀ w ∈ wsX80, w ∈ wsX8_findWays := by decide +kernel
  have hw_f66 := hts (.fieldLink RX8 66 "WhatToReadModel" "topics" "I") (by decide +kernel)
  have hw_f47 := hts (.fieldLink RX8 47 "WhatToReadModel" "cost" "[I") (by decide +kernel)
  have hw_f50 := hts (.fieldLink RX8 50 "WhatToReadModel" "steps" "[I") (by decide +kernel)
  have hw_f73 := hts (.fieldLink RX8 73 "WhatToReadModel" "pieces" "I") (by decide +kernel)
  refine lv_aload_n hx hb dX8_findWays_0 rfl (lv_at hl 0 rfl) ?_
  refine lv_iload_n hx hb dX8_findWays_1 rfl (lv_at hl 2 rfl) ?_
  refine va_put (D := D) (ci := 9) (v := .int bu) (ty := .int) (C := RX8) (T := TX8) (N := 24) hx hb hts hi_X8 tyX8 tyX8_ok nmX8 hown hK.1 hP hD hS 0 rfl rfl 20 (by decide) hw_f107 (fun _ h9 => h9) rfl (by decide +kernel) rfl rfl (Nat.le_of_ble_eq_true rfl) dX8_findWays_2 (fun H locs hP hD hS => ?_)
  have hP : va_P D vwCl [(z, .inr (9, [.ref a0, .ref a1, .int (nI T), .ref a2, .ref a3, .ref a4, .ref a5, .ref a6, .int (nI P), .int pa, .int kn, .ref a7, .int (nI rn), .ref a8, .ref a9, .int (nI ln), .ref a10, .int th, .ref a11, .ref a12, .int bu, .ref a13, .ref a14, .ref a15])), (a1, .inl (cI, 12, .inl im)), (a2, .inl (cI, 14, .inl ne)), (a3, .inl (cI, 14, .inl ei)), (a4, .inl (cI, 14, .inl gi)), (a5, .inl (cI, 14, .inl sk)), (a6, .inl (cI, 14, .inl pg)), (a11, .inl (cI, 4096, .inl co)), (a12, .inl (cI, 4096, .inl st))] H := hP
  have hD : va_D _ [(z, .inr (9, [.ref a0, .ref a1, .int (nI T), .ref a2, .ref a3, .ref a4, .ref a5, .ref a6, .int (nI P), .int pa, .int kn, .ref a7, .int (nI rn), .ref a8, .ref a9, .int (nI ln), .ref a10, .int th, .ref a11, .ref a12, .int bu, .ref a13, .ref a14, .ref a15])), (a1, .inl (cI, 12, .inl im)), (a2, .inl (cI, 14, .inl ne)), (a3, .inl (cI, 14, .inl ei)), (a4, .inl (cI, 14, .inl gi)), (a5, .inl (cI, 14, .inl sk)), (a6, .inl (cI, 14, .inl pg)), (a11, .inl (cI, 4096, .inl co)), (a12, .inl (cI, 4096, .inl st))] := hD
  refine lv_iconst (v := 1) hx hb dX8_findWays_5 (by decide) ?_
  refine lv_aload_n hx hb dX8_findWays_6 rfl (lv_at hl 0 rfl) ?_
  refine va_get (D := D) (ci := 9) (v := .int (nI T)) (C := RX8) (T := TX8) (N := 24) hx hb hts hi_X8 hown hK.1 hP 0 rfl rfl 2 (by decide) hw_f66 (fun _ h9 => h9) rfl dX8_findWays_7 ?_
  refine lv_ishl hx hb dX8_findWays_10 ?_
  refine lv_topi (fun nv_1 ev_1 => ?_)
  obtain rfl : nv_1 = nI (2 ^ T) := ev_1.trans (kshl1 T hT)
  refine lv_iconst (v := 1) hx hb dX8_findWays_11 (by decide) ?_
  refine lv_isub hx hb dX8_findWays_12 ?_
  refine lv_istore_n (lv' := [(3, .int ((nI (2 ^ T)) - 1)), (0, .ref z), (1, .int wi), (2, .int bu)]) hx hb dX8_findWays_13 rfl hl (by decide) rfl (fun ls hl => ?_)
  have hloop_14 : ∀ (fu : Nat) (k : Nat) (x : Nat → Int32) (y : Nat → Int32), 2 ^ T - k < fu → k ≤ 2 ^ T → x = (fwF ne ei im gi sk pg co st T P pa bu wi k).1 → y = (fwF ne ei im gi sk pg co st T P pa bu wi k).2 → ∀ (H : Heap) (locs : List Loc), va_P D vwCl [(z, .inr (9, [.ref a0, .ref a1, .int (nI T), .ref a2, .ref a3, .ref a4, .ref a5, .ref a6, .int (nI P), .int pa, .int kn, .ref a7, .int (nI rn), .ref a8, .ref a9, .int (nI ln), .ref a10, .int th, .ref a11, .ref a12, .int bu, .ref a13, .ref a14, .ref a15])), (a1, .inl (cI, 12, .inl im)), (a2, .inl (cI, 14, .inl ne)), (a3, .inl (cI, 14, .inl ei)), (a4, .inl (cI, 14, .inl gi)), (a5, .inl (cI, 14, .inl sk)), (a6, .inl (cI, 14, .inl pg)), (a11, .inl (cI, 4096, .inl x)), (a12, .inl (cI, 4096, .inl y))] H → va_D (va_A [(z, .inr (9, [.ref a0, .ref a1, .int (nI T), .ref a2, .ref a3, .ref a4, .ref a5, .ref a6, .int (nI P), .int pa, .int kn, .ref a7, .int (nI rn), .ref a8, .ref a9, .int (nI ln), .ref a10, .int th, .ref a11, .ref a12, .int wt, .ref a13, .ref a14, .ref a15])), (a1, .inl (cI, 12, .inl im)), (a2, .inl (cI, 14, .inl ne)), (a3, .inl (cI, 14, .inl ei)), (a4, .inl (cI, 14, .inl gi)), (a5, .inl (cI, 14, .inl sk)), (a6, .inl (cI, 14, .inl pg)), (a11, .inl (cI, 4096, .inl co)), (a12, .inl (cI, 4096, .inl st))] s.heap.size) [(z, .inr (9, [.ref a0, .ref a1, .int (nI T), .ref a2, .ref a3, .ref a4, .ref a5, .ref a6, .int (nI P), .int pa, .int kn, .ref a7, .int (nI rn), .ref a8, .ref a9, .int (nI ln), .ref a10, .int th, .ref a11, .ref a12, .int bu, .ref a13, .ref a14, .ref a15])), (a1, .inl (cI, 12, .inl im)), (a2, .inl (cI, 14, .inl ne)), (a3, .inl (cI, 14, .inl ei)), (a4, .inl (cI, 14, .inl gi)), (a5, .inl (cI, 14, .inl sk)), (a6, .inl (cI, 14, .inl pg)), (a11, .inl (cI, 4096, .inl x)), (a12, .inl (cI, 4096, .inl y))] → va_S (va_A [(z, .inr (9, [.ref a0, .ref a1, .int (nI T), .ref a2, .ref a3, .ref a4, .ref a5, .ref a6, .int (nI P), .int pa, .int kn, .ref a7, .int (nI rn), .ref a8, .ref a9, .int (nI ln), .ref a10, .int th, .ref a11, .ref a12, .int wt, .ref a13, .ref a14, .ref a15])), (a1, .inl (cI, 12, .inl im)), (a2, .inl (cI, 14, .inl ne)), (a3, .inl (cI, 14, .inl ei)), (a4, .inl (cI, 14, .inl gi)), (a5, .inl (cI, 14, .inl sk)), (a6, .inl (cI, 14, .inl pg)), (a11, .inl (cI, 4096, .inl co)), (a12, .inl (cI, 4096, .inl st))] s.heap.size) s.heap H locs → ∀ ls : Array Slot, lv_has ls 9 [(0, .ref z), (1, .int wi), (2, .int bu), (3, .int (nI (2 ^ T - k) - 1))] → W p l e ({ frames := 3, cells := 0, slots := 0, locals := 68 }) s m args below meth c H locs 0 0 (MQ below (kQ D [(z, .inr (9, [.ref a0, .ref a1, .int (nI T), .ref a2, .ref a3, .ref a4, .ref a5, .ref a6, .int (nI P), .int pa, .int kn, .ref a7, .int (nI rn), .ref a8, .ref a9, .int (nI ln), .ref a10, .int th, .ref a11, .ref a12, .int wt, .ref a13, .ref a14, .ref a15])), (a1, .inl (cI, 12, .inl im)), (a2, .inl (cI, 14, .inl ne)), (a3, .inl (cI, 14, .inl ei)), (a4, .inl (cI, 14, .inl gi)), (a5, .inl (cI, 14, .inl sk)), (a6, .inl (cI, 14, .inl pg)), (a11, .inl (cI, 4096, .inl co)), (a12, .inl (cI, 4096, .inl st))] s.heap.size (fun rv_ rw_ => rv_ = none ∧ rw_ = [(z, .inr (9, [.ref a0, .ref a1, .int (nI T), .ref a2, .ref a3, .ref a4, .ref a5, .ref a6, .int (nI P), .int pa, .int kn, .ref a7, .int (nI rn), .ref a8, .ref a9, .int (nI ln), .ref a10, .int th, .ref a11, .ref a12, .int bu, .ref a13, .ref a14, .ref a15])), (a1, .inl (cI, 12, .inl im)), (a2, .inl (cI, 14, .inl ne)), (a3, .inl (cI, 14, .inl ei)), (a4, .inl (cI, 14, .inl gi)), (a5, .inl (cI, 14, .inl sk)), (a6, .inl (cI, 14, .inl pg)), (a11, .inl (cI, 4096, .inl ((fwF ne ei im gi sk pg co st T P pa bu wi (2 ^ T)).1))), (a12, .inl (cI, 4096, .inl ((fwF ne ei im gi sk pg co st T P pa bu wi (2 ^ T)).2)))])) args s 0 0 (va_A [(z, .inr (9, [.ref a0, .ref a1, .int (nI T), .ref a2, .ref a3, .ref a4, .ref a5, .ref a6, .int (nI P), .int pa, .int kn, .ref a7, .int (nI rn), .ref a8, .ref a9, .int (nI ln), .ref a10, .int th, .ref a11, .ref a12, .int wt, .ref a13, .ref a14, .ref a15])), (a1, .inl (cI, 12, .inl im)), (a2, .inl (cI, 14, .inl ne)), (a3, .inl (cI, 14, .inl ei)), (a4, .inl (cI, 14, .inl gi)), (a5, .inl (cI, 14, .inl sk)), (a6, .inl (cI, 14, .inl pg)), (a11, .inl (cI, 4096, .inl co)), (a12, .inl (cI, 4096, .inl st))] s.heap.size)) (F0 m 14 ls []) := by
    intro fu
    induction fu with
    | zero => intro k x y hmu; exact absurd hmu (Nat.not_lt_zero _)
    | succ fu ih_14 =>
      intro k x y hmu_14 hk ex ey H locs hP hD hS ls hl
      have hpw := kpow hT
      refine lv_iload_n hx hb dX8_findWays_14 rfl (lv_at hl 3 rfl) ?_
      refine lv_if_lt (tgt := 197) hx hb dX8_findWays_15 (by decide) (fun c_15 => ?_) (fun c_15 => ?_)
      · skip
        have nc_15 := (kq1 (by omega)).mp c_15
        have e12 : k = 2 ^ T := by omega
        have ew_0 : (x : Nat → Int32) = (fwF ne ei im gi sk pg co st T P pa bu wi (2 ^ T)).1 := by first | rfl | (rw [ex, e12]; done) | (rw [em, e12]; done) | (rw [ey, e12]; done) | (rw [e12]; done) | (simp [hk, ex, ey, c_15]; done) | (simp_all []; done)
        have ew_1 : (y : Nat → Int32) = (fwF ne ei im gi sk pg co st T P pa bu wi (2 ^ T)).2 := by first | rfl | (rw [ex, e12]; done) | (rw [em, e12]; done) | (rw [ey, e12]; done) | (rw [e12]; done) | (simp [hk, ex, ey, c_15]; done) | (simp_all []; done)
        exact kRetV hx hb hr hlk dX8_findWays_197 hP hD hS (Nat.le_of_ble_eq_true rfl) (Nat.le_of_ble_eq_true rfl) ⟨rfl, (kw2 (fun (z_0 : Nat → Int32) (z_1 : Nat → Int32) => ([(z, .inr (9, [.ref a0, .ref a1, .int (nI T), .ref a2, .ref a3, .ref a4, .ref a5, .ref a6, .int (nI P), .int pa, .int kn, .ref a7, .int (nI rn), .ref a8, .ref a9, .int (nI ln), .ref a10, .int th, .ref a11, .ref a12, .int bu, .ref a13, .ref a14, .ref a15])), (a1, .inl (cI, 12, .inl im)), (a2, .inl (cI, 14, .inl ne)), (a3, .inl (cI, 14, .inl ei)), (a4, .inl (cI, 14, .inl gi)), (a5, .inl (cI, 14, .inl sk)), (a6, .inl (cI, 14, .inl pg)), (a11, .inl (cI, 4096, .inl z_0)), (a12, .inl (cI, 4096, .inl z_1))] : va_W)) ew_0 ew_1)⟩
      · skip
        have nc_15 := (not_congr (kq1 (by omega))).mp c_15
        obtain ⟨v, ev⟩ : ∃ v, v = 2 ^ T - 1 - k := ⟨_, rfl⟩
        rw [show (nI (2 ^ T - k) - 1 : Int32) = nI v from by rw [kpred (by omega), ev]; rw [show 2 ^ T - k - 1 = 2 ^ T - 1 - k by omega]] at hl
        refine lv_iload_n hx hb dX8_findWays_18 rfl (lv_at hl 1 rfl) ?_
        refine lv_iload_n hx hb dX8_findWays_19 rfl (lv_at hl 3 rfl) ?_
        refine lv_iconst (v := (-1)) hx hb dX8_findWays_20 (by decide) ?_
        refine lv_ixor hx hb dX8_findWays_21 ?_
        refine lv_topi (fun nv_2 ev_2 => ?_)
        obtain rfl : nv_2 = xnot (nI v) := ev_2.trans (rfl)
        refine lv_iand hx hb dX8_findWays_22 ?_
        refine lv_if_ne (tgt := 30) hx hb dX8_findWays_23 (by decide) (fun c_23 => ?_) (fun c_23 => ?_)
        · skip
          refine lv_iconst (v := 0) hx hb dX8_findWays_30 (by decide) ?_
          refine lv_istore (lv' := [(4, .int 0), (0, .ref z), (1, .int wi), (2, .int bu), (3, .int (nI v))]) hx hb dX8_findWays_31 hl (by decide) rfl (fun ls hl => ?_)
          refine lv_aload_n hx hb dX8_findWays_33 rfl (lv_at hl 1 rfl) ?_
          refine va_get (D := D) (ci := 9) (v := .ref a11) (C := RX8) (T := TX8) (N := 24) hx hb hts hi_X8 hown hK.1 hP 0 rfl rfl 18 (by decide) hw_f47 (fun _ h9 => h9) rfl dX8_findWays_34 ?_
          refine lv_iload_n hx hb dX8_findWays_37 rfl (lv_at hl 4 rfl) ?_
          refine lv_iload hx hb dX8_findWays_38 (lv_at hl 0 rfl) ?_
          refine lv_if_eq (tgt := 47) hx hb dX8_findWays_40 (by decide) (fun c_40 => ?_) (fun c_40 => ?_)
          · skip
            refine lv_ldc (v := 268435456) hx hb hown (hts (.constant RX8 110 268435456) (by decide +kernel)) dX8_findWays_47 ?_
            refine va_iast hx hb hK.1 hP hD hS 7 0 rfl rfl (vp_in_nI (by omega) (by omega)) dX8_findWays_49 (fun H locs hP hD hS => ?_)
            rw [nI_clamp (by omega)] at hP hD
            have hP : va_P D vwCl [(z, .inr (9, [.ref a0, .ref a1, .int (nI T), .ref a2, .ref a3, .ref a4, .ref a5, .ref a6, .int (nI P), .int pa, .int kn, .ref a7, .int (nI rn), .ref a8, .ref a9, .int (nI ln), .ref a10, .int th, .ref a11, .ref a12, .int bu, .ref a13, .ref a14, .ref a15])), (a1, .inl (cI, 12, .inl im)), (a2, .inl (cI, 14, .inl ne)), (a3, .inl (cI, 14, .inl ei)), (a4, .inl (cI, 14, .inl gi)), (a5, .inl (cI, 14, .inl sk)), (a6, .inl (cI, 14, .inl pg)), (a11, .inl (cI, 4096, .inl (upd x v 268435456))), (a12, .inl (cI, 4096, .inl y))] H := hP
            have hD : va_D _ [(z, .inr (9, [.ref a0, .ref a1, .int (nI T), .ref a2, .ref a3, .ref a4, .ref a5, .ref a6, .int (nI P), .int pa, .int kn, .ref a7, .int (nI rn), .ref a8, .ref a9, .int (nI ln), .ref a10, .int th, .ref a11, .ref a12, .int bu, .ref a13, .ref a14, .ref a15])), (a1, .inl (cI, 12, .inl im)), (a2, .inl (cI, 14, .inl ne)), (a3, .inl (cI, 14, .inl ei)), (a4, .inl (cI, 14, .inl gi)), (a5, .inl (cI, 14, .inl sk)), (a6, .inl (cI, 14, .inl pg)), (a11, .inl (cI, 4096, .inl (upd x v 268435456))), (a12, .inl (cI, 4096, .inl y))] := hD
            refine lv_aload_n hx hb dX8_findWays_50 rfl (lv_at hl 1 rfl) ?_
            refine va_get (D := D) (ci := 9) (v := .ref a12) (C := RX8) (T := TX8) (N := 24) hx hb hts hi_X8 hown hK.1 hP 0 rfl rfl 19 (by decide) hw_f50 (fun _ h9 => h9) rfl dX8_findWays_51 ?_
            refine lv_iload_n hx hb dX8_findWays_54 rfl (lv_at hl 4 rfl) ?_
            refine lv_iconst (v := 0) hx hb dX8_findWays_55 (by decide) ?_
            refine va_iast hx hb hK.1 hP hD hS 8 0 rfl rfl (vp_in_nI (by omega) (by omega)) dX8_findWays_56 (fun H locs hP hD hS => ?_)
            rw [nI_clamp (by omega)] at hP hD
            have hP : va_P D vwCl [(z, .inr (9, [.ref a0, .ref a1, .int (nI T), .ref a2, .ref a3, .ref a4, .ref a5, .ref a6, .int (nI P), .int pa, .int kn, .ref a7, .int (nI rn), .ref a8, .ref a9, .int (nI ln), .ref a10, .int th, .ref a11, .ref a12, .int bu, .ref a13, .ref a14, .ref a15])), (a1, .inl (cI, 12, .inl im)), (a2, .inl (cI, 14, .inl ne)), (a3, .inl (cI, 14, .inl ei)), (a4, .inl (cI, 14, .inl gi)), (a5, .inl (cI, 14, .inl sk)), (a6, .inl (cI, 14, .inl pg)), (a11, .inl (cI, 4096, .inl (upd x v 268435456))), (a12, .inl (cI, 4096, .inl (upd y v 0)))] H := hP
            have hD : va_D _ [(z, .inr (9, [.ref a0, .ref a1, .int (nI T), .ref a2, .ref a3, .ref a4, .ref a5, .ref a6, .int (nI P), .int pa, .int kn, .ref a7, .int (nI rn), .ref a8, .ref a9, .int (nI ln), .ref a10, .int th, .ref a11, .ref a12, .int bu, .ref a13, .ref a14, .ref a15])), (a1, .inl (cI, 12, .inl im)), (a2, .inl (cI, 14, .inl ne)), (a3, .inl (cI, 14, .inl ei)), (a4, .inl (cI, 14, .inl gi)), (a5, .inl (cI, 14, .inl sk)), (a6, .inl (cI, 14, .inl pg)), (a11, .inl (cI, 4096, .inl (upd x v 268435456))), (a12, .inl (cI, 4096, .inl (upd y v 0)))] := hD
            refine lv_iconst (v := 0) hx hb dX8_findWays_57 (by decide) ?_
            refine lv_istore (lv' := [(5, .int 0), (4, .int 0), (0, .ref z), (1, .int wi), (2, .int bu), (3, .int (nI v))]) hx hb dX8_findWays_58 hl (by decide) rfl (fun ls hl => ?_)
            have hloop_60 : ∀ (fu : Nat) (s_ : Nat) (x2 : Nat → Int32) (y2 : Nat → Int32), 2 * P - s_ < fu → s_ ≤ 2 * P → x2 = (rlxF ne ei im gi sk pg T pa bu v (upd x v 268435456, upd y v 0) s_).1 → y2 = (rlxF ne ei im gi sk pg T pa bu v (upd x v 268435456, upd y v 0) s_).2 → ∀ (H : Heap) (locs : List Loc), va_P D vwCl [(z, .inr (9, [.ref a0, .ref a1, .int (nI T), .ref a2, .ref a3, .ref a4, .ref a5, .ref a6, .int (nI P), .int pa, .int kn, .ref a7, .int (nI rn), .ref a8, .ref a9, .int (nI ln), .ref a10, .int th, .ref a11, .ref a12, .int bu, .ref a13, .ref a14, .ref a15])), (a1, .inl (cI, 12, .inl im)), (a2, .inl (cI, 14, .inl ne)), (a3, .inl (cI, 14, .inl ei)), (a4, .inl (cI, 14, .inl gi)), (a5, .inl (cI, 14, .inl sk)), (a6, .inl (cI, 14, .inl pg)), (a11, .inl (cI, 4096, .inl x2)), (a12, .inl (cI, 4096, .inl y2))] H → va_D (va_A [(z, .inr (9, [.ref a0, .ref a1, .int (nI T), .ref a2, .ref a3, .ref a4, .ref a5, .ref a6, .int (nI P), .int pa, .int kn, .ref a7, .int (nI rn), .ref a8, .ref a9, .int (nI ln), .ref a10, .int th, .ref a11, .ref a12, .int wt, .ref a13, .ref a14, .ref a15])), (a1, .inl (cI, 12, .inl im)), (a2, .inl (cI, 14, .inl ne)), (a3, .inl (cI, 14, .inl ei)), (a4, .inl (cI, 14, .inl gi)), (a5, .inl (cI, 14, .inl sk)), (a6, .inl (cI, 14, .inl pg)), (a11, .inl (cI, 4096, .inl co)), (a12, .inl (cI, 4096, .inl st))] s.heap.size) [(z, .inr (9, [.ref a0, .ref a1, .int (nI T), .ref a2, .ref a3, .ref a4, .ref a5, .ref a6, .int (nI P), .int pa, .int kn, .ref a7, .int (nI rn), .ref a8, .ref a9, .int (nI ln), .ref a10, .int th, .ref a11, .ref a12, .int bu, .ref a13, .ref a14, .ref a15])), (a1, .inl (cI, 12, .inl im)), (a2, .inl (cI, 14, .inl ne)), (a3, .inl (cI, 14, .inl ei)), (a4, .inl (cI, 14, .inl gi)), (a5, .inl (cI, 14, .inl sk)), (a6, .inl (cI, 14, .inl pg)), (a11, .inl (cI, 4096, .inl x2)), (a12, .inl (cI, 4096, .inl y2))] → va_S (va_A [(z, .inr (9, [.ref a0, .ref a1, .int (nI T), .ref a2, .ref a3, .ref a4, .ref a5, .ref a6, .int (nI P), .int pa, .int kn, .ref a7, .int (nI rn), .ref a8, .ref a9, .int (nI ln), .ref a10, .int th, .ref a11, .ref a12, .int wt, .ref a13, .ref a14, .ref a15])), (a1, .inl (cI, 12, .inl im)), (a2, .inl (cI, 14, .inl ne)), (a3, .inl (cI, 14, .inl ei)), (a4, .inl (cI, 14, .inl gi)), (a5, .inl (cI, 14, .inl sk)), (a6, .inl (cI, 14, .inl pg)), (a11, .inl (cI, 4096, .inl co)), (a12, .inl (cI, 4096, .inl st))] s.heap.size) s.heap H locs → ∀ ls : Array Slot, lv_has ls 9 [(0, .ref z), (1, .int wi), (2, .int bu), (3, .int (nI v)), (4, .int 0), (5, .int (nI s_))] → W p l e ({ frames := 3, cells := 0, slots := 0, locals := 68 }) s m args below meth c H locs 0 0 (MQ below (kQ D [(z, .inr (9, [.ref a0, .ref a1, .int (nI T), .ref a2, .ref a3, .ref a4, .ref a5, .ref a6, .int (nI P), .int pa, .int kn, .ref a7, .int (nI rn), .ref a8, .ref a9, .int (nI ln), .ref a10, .int th, .ref a11, .ref a12, .int wt, .ref a13, .ref a14, .ref a15])), (a1, .inl (cI, 12, .inl im)), (a2, .inl (cI, 14, .inl ne)), (a3, .inl (cI, 14, .inl ei)), (a4, .inl (cI, 14, .inl gi)), (a5, .inl (cI, 14, .inl sk)), (a6, .inl (cI, 14, .inl pg)), (a11, .inl (cI, 4096, .inl co)), (a12, .inl (cI, 4096, .inl st))] s.heap.size (fun rv_ rw_ => rv_ = none ∧ rw_ = [(z, .inr (9, [.ref a0, .ref a1, .int (nI T), .ref a2, .ref a3, .ref a4, .ref a5, .ref a6, .int (nI P), .int pa, .int kn, .ref a7, .int (nI rn), .ref a8, .ref a9, .int (nI ln), .ref a10, .int th, .ref a11, .ref a12, .int bu, .ref a13, .ref a14, .ref a15])), (a1, .inl (cI, 12, .inl im)), (a2, .inl (cI, 14, .inl ne)), (a3, .inl (cI, 14, .inl ei)), (a4, .inl (cI, 14, .inl gi)), (a5, .inl (cI, 14, .inl sk)), (a6, .inl (cI, 14, .inl pg)), (a11, .inl (cI, 4096, .inl ((fwF ne ei im gi sk pg co st T P pa bu wi (2 ^ T)).1))), (a12, .inl (cI, 4096, .inl ((fwF ne ei im gi sk pg co st T P pa bu wi (2 ^ T)).2)))])) args s 0 0 (va_A [(z, .inr (9, [.ref a0, .ref a1, .int (nI T), .ref a2, .ref a3, .ref a4, .ref a5, .ref a6, .int (nI P), .int pa, .int kn, .ref a7, .int (nI rn), .ref a8, .ref a9, .int (nI ln), .ref a10, .int th, .ref a11, .ref a12, .int wt, .ref a13, .ref a14, .ref a15])), (a1, .inl (cI, 12, .inl im)), (a2, .inl (cI, 14, .inl ne)), (a3, .inl (cI, 14, .inl ei)), (a4, .inl (cI, 14, .inl gi)), (a5, .inl (cI, 14, .inl sk)), (a6, .inl (cI, 14, .inl pg)), (a11, .inl (cI, 4096, .inl co)), (a12, .inl (cI, 4096, .inl st))] s.heap.size)) (F0 m 60 ls []) := by
              intro fu
              induction fu with
              | zero => intro s_ x2 y2 hmu; exact absurd hmu (Nat.not_lt_zero _)
              | succ fu ih_60 =>
                intro s_ x2 y2 hmu_60 hs ex2 ey2 H locs hP hD hS ls hl
                refine lv_iload hx hb dX8_findWays_60 (lv_at hl 5 rfl) ?_
                refine lv_iconst (v := 2) hx hb dX8_findWays_62 (by decide) ?_
                refine lv_aload_n hx hb dX8_findWays_63 rfl (lv_at hl 0 rfl) ?_
                refine va_get (D := D) (ci := 9) (v := .int (nI P)) (C := RX8) (T := TX8) (N := 24) hx hb hts hi_X8 hown hK.1 hP 0 rfl rfl 8 (by decide) hw_f73 (fun _ h9 => h9) rfl dX8_findWays_64 ?_
                refine lv_imul hx hb dX8_findWays_67 ?_
                refine lv_topi (fun nv_3 ev_3 => ?_)
                obtain rfl : nv_3 = nI (2 * P) := ev_3.trans (pk_mul 2 P)
                refine lv_icmp_ge (tgt := 191) hx hb dX8_findWays_68 (by decide) (fun c_68 => ?_) (fun c_68 => ?_)
                · skip
                  have nc_68 : (2 * P) ≤ s_ := (nI_leI (a := 2 * P) (b := s_) (by omega) (by omega)).mp c_68
                  have c_end : s_ = 2 * P := by omega
                  refine lv_iinc (v := nI (2 ^ T - (k + 1)) - 1) (lv' := [(3, .int (nI (2 ^ T - (k + 1)) - 1)), (0, .ref z), (1, .int wi), (2, .int bu), (4, .int 0), (5, .int (nI s_))]) hx hb dX8_findWays_191 hl (k := 3) rfl (by rw [ksub1, ev]; rw [show 2 ^ T - 1 - k = 2 ^ T - (k + 1) by omega]) (by decide) rfl (fun ls hl => ?_)
                  refine lv_goto (tgt := 14) hx hb dX8_findWays_194 (by decide) ?_
                  exact ih_14  (k + 1) x2 y2 (by omega) (by first | omega | assumption | exact Nat.zero_le _) (by first | (subst ex; subst ey; subst ev; simp [fwF, c_15, c_23, c_40, c_68, nc_68]; done) | (rw [ex2]; subst ex; subst ey; subst ev; rw [fwF, if_neg c_23, c_end])) (by first | (subst ex; subst ey; subst ev; simp [fwF, c_15, c_23, c_40, c_68, nc_68]; done) | (rw [ey2]; subst ex; subst ey; subst ev; rw [fwF, if_neg c_23, c_end])) _ _ hP hD hS _ (lv_sub hl [1, 2, 3, 0] rfl)
                · skip
                  have nc_68 : ¬ (2 * P) ≤ s_ := (not_congr (nI_leI (a := 2 * P) (b := s_) (by omega) (by omega))).mp c_68
                  refine lv_iload hx hb dX8_findWays_71 (lv_at hl 4 rfl) ?_
                  refine lv_if_ne (tgt := 191) hx hb dX8_findWays_73 (by decide) (fun c_73 => ?_) (fun c_73 => ?_)
                  · exact absurd (by decide) c_73
                  · skip
                    refine lv_aload_n hx hb dX8_findWays_76 rfl (lv_at hl 0 rfl) ?_
                    refine lv_iload hx hb dX8_findWays_77 (lv_at hl 5 rfl) ?_
                    refine lv_iload_n hx hb dX8_findWays_79 rfl (lv_at hl 3 rfl) ?_
                    refine kGoR (va_runV (As := [.int (nI s_), .int (nI v)]) (rest := []) ⟨hx, hb, hml, hown, hts⟩ (c_X8_newBehind l D cI cJ cZ cO z a0 a1 a2 a3 a4 a5 a6 a7 a8 a9 a10 a11 a12 a13 a14 a15 T P pa kn rn ln th bu ne ei im gi sk s_ (nI v) (by first | assumption | omega | decide) (by first | assumption | omega | decide)) (cwV 2 hts gX8_findWays_X8_newBehind rfl rfl rfl (by decide +kernel) ⟨Nat.le_of_ble_eq_true rfl, Nat.le_of_ble_eq_true rfl⟩) (kPreVR (ci := 9) (q0 := 0) hK (kPc_sub hP [0, 2, 3, 1, 4, 5] rfl) rfl rfl rfl) rfl rfl hl.1 rfl (lv_room (Nat.le_of_ble_eq_true rfl)) dX8_findWays_80 ⟨Nat.le_of_ble_eq_true rfl, Nat.le_of_ble_eq_true rfl⟩) (fun v_4 hv_4 => ?_)
                    obtain rfl := hv_4
                    refine W.eq (g2 := F0 m 83 ls [.int (nbF ne ei im gi sk T bu s_ (nI v))]) rfl ?_
                    refine lv_istore (lv' := [(6, .int (nbF ne ei im gi sk T bu s_ (nI v))), (0, .ref z), (1, .int wi), (2, .int bu), (3, .int (nI v)), (4, .int 0), (5, .int (nI s_))]) hx hb dX8_findWays_83 hl (by decide) rfl (fun ls hl => ?_)
                    refine lv_iload hx hb dX8_findWays_85 (lv_at hl 0 rfl) ?_
                    refine lv_iconst (v := (-1)) hx hb dX8_findWays_87 (by decide) ?_
                    refine lv_icmp_eq (tgt := 185) hx hb dX8_findWays_88 (by decide) (fun c_88 => ?_) (fun c_88 => ?_)
                    · skip
                      refine lv_iinc (v := nI (s_ + 1)) (lv' := [(5, .int (nI (s_ + 1))), (6, .int (nbF ne ei im gi sk T bu s_ (nI v))), (0, .ref z), (1, .int wi), (2, .int bu), (3, .int (nI v)), (4, .int 0)]) hx hb dX8_findWays_185 hl (k := 6) rfl (nI_1 _) (by decide) rfl (fun ls hl => ?_)
                      refine lv_goto (tgt := 60) hx hb dX8_findWays_188 (by decide) ?_
                      exact ih_60  (s_ + 1) x2 y2 (by omega) (by first | omega | assumption | exact Nat.zero_le _) (by subst ex2; subst ey2; simp [rlxF, relF, c_15, c_23, c_40, c_68, nc_68, c_73, c_88]) (by subst ex2; subst ey2; simp [rlxF, relF, c_15, c_23, c_40, c_68, nc_68, c_73, c_88]) _ _ hP hD hS _ (lv_sub hl [2, 3, 4, 5, 6, 0] rfl)
                    · skip
                      refine lv_aload_n hx hb dX8_findWays_91 rfl (lv_at hl 1 rfl) ?_
                      refine va_get (D := D) (ci := 9) (v := .ref a11) (C := RX8) (T := TX8) (N := 24) hx hb hts hi_X8 hown hK.1 hP 0 rfl rfl 18 (by decide) hw_f47 (fun _ h9 => h9) rfl dX8_findWays_92 ?_
                      refine lv_iload hx hb dX8_findWays_95 (lv_at hl 0 rfl) ?_
                      refine va_iald hx hb hK.1 hP 7 0 rfl rfl ((hB s_ (by omega) v (by omega)).resolve_left c_88) dX8_findWays_97 ?_
                      refine lv_ldc (v := 268435456) hx hb hown (hts (.constant RX8 110 268435456) (by decide +kernel)) dX8_findWays_98 ?_
                      refine lv_icmp_ne (tgt := 106) hx hb dX8_findWays_100 (by decide) (fun c_100 => ?_) (fun c_100 => ?_)
                      · skip
                        refine lv_aload_n hx hb dX8_findWays_106 rfl (lv_at hl 1 rfl) ?_
                        refine lv_iload hx hb dX8_findWays_107 (lv_at hl 6 rfl) ?_
                        refine kGoR (va_runV (As := [.int (nI s_)]) (rest := []) ⟨hx, hb, hml, hown, hts⟩ (c_X8_time l D cI cJ cZ cO z a0 a1 a2 a3 a4 a5 a6 a7 a8 a9 a10 a11 a12 a13 a14 a15 T P pa kn rn ln th bu pg s_ (by first | assumption | omega | decide)) (cwV 1 hts gX8_findWays_X8_time rfl rfl rfl (by decide +kernel) ⟨Nat.le_of_ble_eq_true rfl, Nat.le_of_ble_eq_true rfl⟩) (kPreVR (ci := 9) (q0 := 0) hK (kPc_sub hP [0, 6] rfl) rfl rfl rfl) rfl rfl hl.1 rfl (lv_room (Nat.le_of_ble_eq_true rfl)) dX8_findWays_109 ⟨Nat.le_of_ble_eq_true rfl, Nat.le_of_ble_eq_true rfl⟩) (fun v_5 hv_5 => ?_)
                        obtain rfl := hv_5
                        refine W.eq (g2 := F0 m 112 ls [.int (mtimeF pg pa s_)]) rfl ?_
                        refine lv_aload_n hx hb dX8_findWays_112 rfl (lv_at hl 1 rfl) ?_
                        refine va_get (D := D) (ci := 9) (v := .ref a11) (C := RX8) (T := TX8) (N := 24) hx hb hts hi_X8 hown hK.1 hP 0 rfl rfl 18 (by decide) hw_f47 (fun _ h9 => h9) rfl dX8_findWays_113 ?_
                        refine lv_iload hx hb dX8_findWays_116 (lv_at hl 0 rfl) ?_
                        refine va_iald hx hb hK.1 hP 7 0 rfl rfl ((hB s_ (by omega) v (by omega)).resolve_left c_88) dX8_findWays_118 ?_
                        refine lv_iadd hx hb dX8_findWays_119 ?_
                        refine lv_istore (lv' := [(7, .int ((mtimeF pg pa s_) + (x2 (nbF ne ei im gi sk T bu s_ (nI v)).toNatClampNeg))), (6, .int (nbF ne ei im gi sk T bu s_ (nI v))), (0, .ref z), (1, .int wi), (2, .int bu), (3, .int (nI v)), (4, .int 0), (5, .int (nI s_))]) hx hb dX8_findWays_120 hl (by decide) rfl (fun ls hl => ?_)
                        refine lv_iconst (v := 1) hx hb dX8_findWays_122 (by decide) ?_
                        refine lv_aload_n hx hb dX8_findWays_123 rfl (lv_at hl 2 rfl) ?_
                        refine va_get (D := D) (ci := 9) (v := .ref a12) (C := RX8) (T := TX8) (N := 24) hx hb hts hi_X8 hown hK.1 hP 0 rfl rfl 19 (by decide) hw_f50 (fun _ h9 => h9) rfl dX8_findWays_124 ?_
                        refine lv_iload hx hb dX8_findWays_127 (lv_at hl 1 rfl) ?_
                        refine va_iald hx hb hK.1 hP 8 0 rfl rfl ((hB s_ (by omega) v (by omega)).resolve_left c_88) dX8_findWays_129 ?_
                        refine lv_iadd hx hb dX8_findWays_130 ?_
                        refine lv_istore (lv' := [(8, .int (1 + (y2 (nbF ne ei im gi sk T bu s_ (nI v)).toNatClampNeg))), (7, .int ((mtimeF pg pa s_) + (x2 (nbF ne ei im gi sk T bu s_ (nI v)).toNatClampNeg))), (6, .int (nbF ne ei im gi sk T bu s_ (nI v))), (0, .ref z), (1, .int wi), (2, .int bu), (3, .int (nI v)), (4, .int 0), (5, .int (nI s_))]) hx hb dX8_findWays_131 hl (by decide) rfl (fun ls hl => ?_)
                        refine lv_iload hx hb dX8_findWays_133 (lv_at hl 1 rfl) ?_
                        refine lv_aload_n hx hb dX8_findWays_135 rfl (lv_at hl 3 rfl) ?_
                        refine va_get (D := D) (ci := 9) (v := .ref a11) (C := RX8) (T := TX8) (N := 24) hx hb hts hi_X8 hown hK.1 hP 0 rfl rfl 18 (by decide) hw_f47 (fun _ h9 => h9) rfl dX8_findWays_136 ?_
                        refine lv_iload_n hx hb dX8_findWays_139 rfl (lv_at hl 6 rfl) ?_
                        refine va_iald hx hb hK.1 hP 7 0 rfl rfl (vp_in_nI (by omega) (by omega)) dX8_findWays_140 ?_
                        refine lv_topi (fun nv_6 ev_6 => ?_)
                        obtain rfl : nv_6 = x2 v := by rw [ev_6, nI_clamp (by omega)]
                        refine lv_icmp_gt (tgt := 185) hx hb dX8_findWays_141 (by decide) (fun c_141 => ?_) (fun c_141 => ?_)
                        · skip
                          refine lv_iinc (v := nI (s_ + 1)) (lv' := [(5, .int (nI (s_ + 1))), (8, .int (1 + (y2 (nbF ne ei im gi sk T bu s_ (nI v)).toNatClampNeg))), (7, .int ((mtimeF pg pa s_) + (x2 (nbF ne ei im gi sk T bu s_ (nI v)).toNatClampNeg))), (6, .int (nbF ne ei im gi sk T bu s_ (nI v))), (0, .ref z), (1, .int wi), (2, .int bu), (3, .int (nI v)), (4, .int 0)]) hx hb dX8_findWays_185 hl (k := 8) rfl (nI_1 _) (by decide) rfl (fun ls hl => ?_)
                          refine lv_goto (tgt := 60) hx hb dX8_findWays_188 (by decide) ?_
                          exact ih_60  (s_ + 1) x2 y2 (by omega) (by first | omega | assumption | exact Nat.zero_le _) (by subst ex2; subst ey2; simp [rlxF, relF, c_15, c_23, c_40, c_68, nc_68, c_73, c_88, c_100, c_141]) (by subst ex2; subst ey2; simp [rlxF, relF, c_15, c_23, c_40, c_68, nc_68, c_73, c_88, c_100, c_141]) _ _ hP hD hS _ (lv_sub hl [4, 5, 6, 7, 8, 0] rfl)
                        · skip
                          refine lv_iload hx hb dX8_findWays_144 (lv_at hl 1 rfl) ?_
                          refine lv_aload_n hx hb dX8_findWays_146 rfl (lv_at hl 3 rfl) ?_
                          refine va_get (D := D) (ci := 9) (v := .ref a11) (C := RX8) (T := TX8) (N := 24) hx hb hts hi_X8 hown hK.1 hP 0 rfl rfl 18 (by decide) hw_f47 (fun _ h9 => h9) rfl dX8_findWays_147 ?_
                          refine lv_iload_n hx hb dX8_findWays_150 rfl (lv_at hl 6 rfl) ?_
                          refine va_iald hx hb hK.1 hP 7 0 rfl rfl (vp_in_nI (by omega) (by omega)) dX8_findWays_151 ?_
                          refine lv_topi (fun nv_7 ev_7 => ?_)
                          obtain rfl : nv_7 = x2 v := by rw [ev_7, nI_clamp (by omega)]
                          refine lv_icmp_ne (tgt := 169) hx hb dX8_findWays_152 (by decide) (fun c_152 => ?_) (fun c_152 => ?_)
                          · skip
                            refine lv_aload_n hx hb dX8_findWays_169 rfl (lv_at hl 3 rfl) ?_
                            refine va_get (D := D) (ci := 9) (v := .ref a11) (C := RX8) (T := TX8) (N := 24) hx hb hts hi_X8 hown hK.1 hP 0 rfl rfl 18 (by decide) hw_f47 (fun _ h9 => h9) rfl dX8_findWays_170 ?_
                            refine lv_iload_n hx hb dX8_findWays_173 rfl (lv_at hl 6 rfl) ?_
                            refine lv_iload hx hb dX8_findWays_174 (lv_at hl 1 rfl) ?_
                            refine va_iast hx hb hK.1 hP hD hS 7 0 rfl rfl (vp_in_nI (by omega) (by omega)) dX8_findWays_176 (fun H locs hP hD hS => ?_)
                            rw [nI_clamp (by omega)] at hP hD
                            have hP : va_P D vwCl [(z, .inr (9, [.ref a0, .ref a1, .int (nI T), .ref a2, .ref a3, .ref a4, .ref a5, .ref a6, .int (nI P), .int pa, .int kn, .ref a7, .int (nI rn), .ref a8, .ref a9, .int (nI ln), .ref a10, .int th, .ref a11, .ref a12, .int bu, .ref a13, .ref a14, .ref a15])), (a1, .inl (cI, 12, .inl im)), (a2, .inl (cI, 14, .inl ne)), (a3, .inl (cI, 14, .inl ei)), (a4, .inl (cI, 14, .inl gi)), (a5, .inl (cI, 14, .inl sk)), (a6, .inl (cI, 14, .inl pg)), (a11, .inl (cI, 4096, .inl (upd x2 v ((mtimeF pg pa s_) + (x2 (nbF ne ei im gi sk T bu s_ (nI v)).toNatClampNeg))))), (a12, .inl (cI, 4096, .inl y2))] H := hP
                            have hD : va_D _ [(z, .inr (9, [.ref a0, .ref a1, .int (nI T), .ref a2, .ref a3, .ref a4, .ref a5, .ref a6, .int (nI P), .int pa, .int kn, .ref a7, .int (nI rn), .ref a8, .ref a9, .int (nI ln), .ref a10, .int th, .ref a11, .ref a12, .int bu, .ref a13, .ref a14, .ref a15])), (a1, .inl (cI, 12, .inl im)), (a2, .inl (cI, 14, .inl ne)), (a3, .inl (cI, 14, .inl ei)), (a4, .inl (cI, 14, .inl gi)), (a5, .inl (cI, 14, .inl sk)), (a6, .inl (cI, 14, .inl pg)), (a11, .inl (cI, 4096, .inl (upd x2 v ((mtimeF pg pa s_) + (x2 (nbF ne ei im gi sk T bu s_ (nI v)).toNatClampNeg))))), (a12, .inl (cI, 4096, .inl y2))] := hD
                            refine lv_aload_n hx hb dX8_findWays_177 rfl (lv_at hl 3 rfl) ?_
                            refine va_get (D := D) (ci := 9) (v := .ref a12) (C := RX8) (T := TX8) (N := 24) hx hb hts hi_X8 hown hK.1 hP 0 rfl rfl 19 (by decide) hw_f50 (fun _ h9 => h9) rfl dX8_findWays_178 ?_
                            refine lv_iload_n hx hb dX8_findWays_181 rfl (lv_at hl 6 rfl) ?_
                            refine lv_iload hx hb dX8_findWays_182 (lv_at hl 0 rfl) ?_
                            refine va_iast hx hb hK.1 hP hD hS 8 0 rfl rfl (vp_in_nI (by omega) (by omega)) dX8_findWays_184 (fun H locs hP hD hS => ?_)
                            rw [nI_clamp (by omega)] at hP hD
                            have hP : va_P D vwCl [(z, .inr (9, [.ref a0, .ref a1, .int (nI T), .ref a2, .ref a3, .ref a4, .ref a5, .ref a6, .int (nI P), .int pa, .int kn, .ref a7, .int (nI rn), .ref a8, .ref a9, .int (nI ln), .ref a10, .int th, .ref a11, .ref a12, .int bu, .ref a13, .ref a14, .ref a15])), (a1, .inl (cI, 12, .inl im)), (a2, .inl (cI, 14, .inl ne)), (a3, .inl (cI, 14, .inl ei)), (a4, .inl (cI, 14, .inl gi)), (a5, .inl (cI, 14, .inl sk)), (a6, .inl (cI, 14, .inl pg)), (a11, .inl (cI, 4096, .inl (upd x2 v ((mtimeF pg pa s_) + (x2 (nbF ne ei im gi sk T bu s_ (nI v)).toNatClampNeg))))), (a12, .inl (cI, 4096, .inl (upd y2 v (1 + (y2 (nbF ne ei im gi sk T bu s_ (nI v)).toNatClampNeg)))))] H := hP
                            have hD : va_D _ [(z, .inr (9, [.ref a0, .ref a1, .int (nI T), .ref a2, .ref a3, .ref a4, .ref a5, .ref a6, .int (nI P), .int pa, .int kn, .ref a7, .int (nI rn), .ref a8, .ref a9, .int (nI ln), .ref a10, .int th, .ref a11, .ref a12, .int bu, .ref a13, .ref a14, .ref a15])), (a1, .inl (cI, 12, .inl im)), (a2, .inl (cI, 14, .inl ne)), (a3, .inl (cI, 14, .inl ei)), (a4, .inl (cI, 14, .inl gi)), (a5, .inl (cI, 14, .inl sk)), (a6, .inl (cI, 14, .inl pg)), (a11, .inl (cI, 4096, .inl (upd x2 v ((mtimeF pg pa s_) + (x2 (nbF ne ei im gi sk T bu s_ (nI v)).toNatClampNeg))))), (a12, .inl (cI, 4096, .inl (upd y2 v (1 + (y2 (nbF ne ei im gi sk T bu s_ (nI v)).toNatClampNeg)))))] := hD
                            refine lv_iinc (v := nI (s_ + 1)) (lv' := [(5, .int (nI (s_ + 1))), (8, .int (1 + (y2 (nbF ne ei im gi sk T bu s_ (nI v)).toNatClampNeg))), (7, .int ((mtimeF pg pa s_) + (x2 (nbF ne ei im gi sk T bu s_ (nI v)).toNatClampNeg))), (6, .int (nbF ne ei im gi sk T bu s_ (nI v))), (0, .ref z), (1, .int wi), (2, .int bu), (3, .int (nI v)), (4, .int 0)]) hx hb dX8_findWays_185 hl (k := 8) rfl (nI_1 _) (by decide) rfl (fun ls hl => ?_)
                            refine lv_goto (tgt := 60) hx hb dX8_findWays_188 (by decide) ?_
                            exact ih_60  (s_ + 1) (upd x2 v ((mtimeF pg pa s_) + (x2 (nbF ne ei im gi sk T bu s_ (nI v)).toNatClampNeg))) (upd y2 v (1 + (y2 (nbF ne ei im gi sk T bu s_ (nI v)).toNatClampNeg))) (by omega) (by first | omega | assumption | exact Nat.zero_le _) (by subst ex2; subst ey2; simp [rlxF, relF, c_15, c_23, c_40, c_68, nc_68, c_73, c_88, c_100, c_141, c_152]) (by subst ex2; subst ey2; simp [rlxF, relF, c_15, c_23, c_40, c_68, nc_68, c_73, c_88, c_100, c_141, c_152]) _ _ hP hD hS _ (lv_sub hl [4, 5, 6, 7, 8, 0] rfl)
                          · skip
                            refine lv_iload hx hb dX8_findWays_155 (lv_at hl 0 rfl) ?_
                            refine lv_aload_n hx hb dX8_findWays_157 rfl (lv_at hl 3 rfl) ?_
                            refine va_get (D := D) (ci := 9) (v := .ref a12) (C := RX8) (T := TX8) (N := 24) hx hb hts hi_X8 hown hK.1 hP 0 rfl rfl 19 (by decide) hw_f50 (fun _ h9 => h9) rfl dX8_findWays_158 ?_
                            refine lv_iload_n hx hb dX8_findWays_161 rfl (lv_at hl 6 rfl) ?_
                            refine va_iald hx hb hK.1 hP 8 0 rfl rfl (vp_in_nI (by omega) (by omega)) dX8_findWays_162 ?_
                            refine lv_topi (fun nv_8 ev_8 => ?_)
                            obtain rfl : nv_8 = y2 v := by rw [ev_8, nI_clamp (by omega)]
                            refine lv_icmp_lt (tgt := 169) hx hb dX8_findWays_163 (by decide) (fun c_163 => ?_) (fun c_163 => ?_)
                            · skip
                              refine lv_aload_n hx hb dX8_findWays_169 rfl (lv_at hl 3 rfl) ?_
                              refine va_get (D := D) (ci := 9) (v := .ref a11) (C := RX8) (T := TX8) (N := 24) hx hb hts hi_X8 hown hK.1 hP 0 rfl rfl 18 (by decide) hw_f47 (fun _ h9 => h9) rfl dX8_findWays_170 ?_
                              refine lv_iload_n hx hb dX8_findWays_173 rfl (lv_at hl 6 rfl) ?_
                              refine lv_iload hx hb dX8_findWays_174 (lv_at hl 1 rfl) ?_
                              refine va_iast hx hb hK.1 hP hD hS 7 0 rfl rfl (vp_in_nI (by omega) (by omega)) dX8_findWays_176 (fun H locs hP hD hS => ?_)
                              rw [nI_clamp (by omega)] at hP hD
                              have hP : va_P D vwCl [(z, .inr (9, [.ref a0, .ref a1, .int (nI T), .ref a2, .ref a3, .ref a4, .ref a5, .ref a6, .int (nI P), .int pa, .int kn, .ref a7, .int (nI rn), .ref a8, .ref a9, .int (nI ln), .ref a10, .int th, .ref a11, .ref a12, .int bu, .ref a13, .ref a14, .ref a15])), (a1, .inl (cI, 12, .inl im)), (a2, .inl (cI, 14, .inl ne)), (a3, .inl (cI, 14, .inl ei)), (a4, .inl (cI, 14, .inl gi)), (a5, .inl (cI, 14, .inl sk)), (a6, .inl (cI, 14, .inl pg)), (a11, .inl (cI, 4096, .inl (upd x2 v ((mtimeF pg pa s_) + (x2 (nbF ne ei im gi sk T bu s_ (nI v)).toNatClampNeg))))), (a12, .inl (cI, 4096, .inl y2))] H := hP
                              have hD : va_D _ [(z, .inr (9, [.ref a0, .ref a1, .int (nI T), .ref a2, .ref a3, .ref a4, .ref a5, .ref a6, .int (nI P), .int pa, .int kn, .ref a7, .int (nI rn), .ref a8, .ref a9, .int (nI ln), .ref a10, .int th, .ref a11, .ref a12, .int bu, .ref a13, .ref a14, .ref a15])), (a1, .inl (cI, 12, .inl im)), (a2, .inl (cI, 14, .inl ne)), (a3, .inl (cI, 14, .inl ei)), (a4, .inl (cI, 14, .inl gi)), (a5, .inl (cI, 14, .inl sk)), (a6, .inl (cI, 14, .inl pg)), (a11, .inl (cI, 4096, .inl (upd x2 v ((mtimeF pg pa s_) + (x2 (nbF ne ei im gi sk T bu s_ (nI v)).toNatClampNeg))))), (a12, .inl (cI, 4096, .inl y2))] := hD
                              refine lv_aload_n hx hb dX8_findWays_177 rfl (lv_at hl 3 rfl) ?_
                              refine va_get (D := D) (ci := 9) (v := .ref a12) (C := RX8) (T := TX8) (N := 24) hx hb hts hi_X8 hown hK.1 hP 0 rfl rfl 19 (by decide) hw_f50 (fun _ h9 => h9) rfl dX8_findWays_178 ?_
                              refine lv_iload_n hx hb dX8_findWays_181 rfl (lv_at hl 6 rfl) ?_
                              refine lv_iload hx hb dX8_findWays_182 (lv_at hl 0 rfl) ?_
                              refine va_iast hx hb hK.1 hP hD hS 8 0 rfl rfl (vp_in_nI (by omega) (by omega)) dX8_findWays_184 (fun H locs hP hD hS => ?_)
                              rw [nI_clamp (by omega)] at hP hD
                              have hP : va_P D vwCl [(z, .inr (9, [.ref a0, .ref a1, .int (nI T), .ref a2, .ref a3, .ref a4, .ref a5, .ref a6, .int (nI P), .int pa, .int kn, .ref a7, .int (nI rn), .ref a8, .ref a9, .int (nI ln), .ref a10, .int th, .ref a11, .ref a12, .int bu, .ref a13, .ref a14, .ref a15])), (a1, .inl (cI, 12, .inl im)), (a2, .inl (cI, 14, .inl ne)), (a3, .inl (cI, 14, .inl ei)), (a4, .inl (cI, 14, .inl gi)), (a5, .inl (cI, 14, .inl sk)), (a6, .inl (cI, 14, .inl pg)), (a11, .inl (cI, 4096, .inl (upd x2 v ((mtimeF pg pa s_) + (x2 (nbF ne ei im gi sk T bu s_ (nI v)).toNatClampNeg))))), (a12, .inl (cI, 4096, .inl (upd y2 v (1 + (y2 (nbF ne ei im gi sk T bu s_ (nI v)).toNatClampNeg)))))] H := hP
                              have hD : va_D _ [(z, .inr (9, [.ref a0, .ref a1, .int (nI T), .ref a2, .ref a3, .ref a4, .ref a5, .ref a6, .int (nI P), .int pa, .int kn, .ref a7, .int (nI rn), .ref a8, .ref a9, .int (nI ln), .ref a10, .int th, .ref a11, .ref a12, .int bu, .ref a13, .ref a14, .ref a15])), (a1, .inl (cI, 12, .inl im)), (a2, .inl (cI, 14, .inl ne)), (a3, .inl (cI, 14, .inl ei)), (a4, .inl (cI, 14, .inl gi)), (a5, .inl (cI, 14, .inl sk)), (a6, .inl (cI, 14, .inl pg)), (a11, .inl (cI, 4096, .inl (upd x2 v ((mtimeF pg pa s_) + (x2 (nbF ne ei im gi sk T bu s_ (nI v)).toNatClampNeg))))), (a12, .inl (cI, 4096, .inl (upd y2 v (1 + (y2 (nbF ne ei im gi sk T bu s_ (nI v)).toNatClampNeg)))))] := hD
                              refine lv_iinc (v := nI (s_ + 1)) (lv' := [(5, .int (nI (s_ + 1))), (8, .int (1 + (y2 (nbF ne ei im gi sk T bu s_ (nI v)).toNatClampNeg))), (7, .int ((mtimeF pg pa s_) + (x2 (nbF ne ei im gi sk T bu s_ (nI v)).toNatClampNeg))), (6, .int (nbF ne ei im gi sk T bu s_ (nI v))), (0, .ref z), (1, .int wi), (2, .int bu), (3, .int (nI v)), (4, .int 0)]) hx hb dX8_findWays_185 hl (k := 8) rfl (nI_1 _) (by decide) rfl (fun ls hl => ?_)
                              refine lv_goto (tgt := 60) hx hb dX8_findWays_188 (by decide) ?_
                              exact ih_60  (s_ + 1) (upd x2 v ((mtimeF pg pa s_) + (x2 (nbF ne ei im gi sk T bu s_ (nI v)).toNatClampNeg))) (upd y2 v (1 + (y2 (nbF ne ei im gi sk T bu s_ (nI v)).toNatClampNeg))) (by omega) (by first | omega | assumption | exact Nat.zero_le _) (by subst ex2; subst ey2; simp [rlxF, relF, c_15, c_23, c_40, c_68, nc_68, c_73, c_88, c_100, c_141, c_152, c_163]) (by subst ex2; subst ey2; simp [rlxF, relF, c_15, c_23, c_40, c_68, nc_68, c_73, c_88, c_100, c_141, c_152, c_163]) _ _ hP hD hS _ (lv_sub hl [4, 5, 6, 7, 8, 0] rfl)
                            · skip
                              refine lv_goto (tgt := 185) hx hb dX8_findWays_166 (by decide) ?_
                              refine lv_iinc (v := nI (s_ + 1)) (lv' := [(5, .int (nI (s_ + 1))), (8, .int (1 + (y2 (nbF ne ei im gi sk T bu s_ (nI v)).toNatClampNeg))), (7, .int ((mtimeF pg pa s_) + (x2 (nbF ne ei im gi sk T bu s_ (nI v)).toNatClampNeg))), (6, .int (nbF ne ei im gi sk T bu s_ (nI v))), (0, .ref z), (1, .int wi), (2, .int bu), (3, .int (nI v)), (4, .int 0)]) hx hb dX8_findWays_185 hl (k := 8) rfl (nI_1 _) (by decide) rfl (fun ls hl => ?_)
                              refine lv_goto (tgt := 60) hx hb dX8_findWays_188 (by decide) ?_
                              exact ih_60  (s_ + 1) x2 y2 (by omega) (by first | omega | assumption | exact Nat.zero_le _) (by subst ex2; subst ey2; simp [rlxF, relF, c_15, c_23, c_40, c_68, nc_68, c_73, c_88, c_100, c_141, c_152, c_163]) (by subst ex2; subst ey2; simp [rlxF, relF, c_15, c_23, c_40, c_68, nc_68, c_73, c_88, c_100, c_141, c_152, c_163]) _ _ hP hD hS _ (lv_sub hl [4, 5, 6, 7, 8, 0] rfl)
                      · skip
                        refine lv_goto (tgt := 185) hx hb dX8_findWays_103 (by decide) ?_
                        refine lv_iinc (v := nI (s_ + 1)) (lv' := [(5, .int (nI (s_ + 1))), (6, .int (nbF ne ei im gi sk T bu s_ (nI v))), (0, .ref z), (1, .int wi), (2, .int bu), (3, .int (nI v)), (4, .int 0)]) hx hb dX8_findWays_185 hl (k := 6) rfl (nI_1 _) (by decide) rfl (fun ls hl => ?_)
                        refine lv_goto (tgt := 60) hx hb dX8_findWays_188 (by decide) ?_
                        exact ih_60  (s_ + 1) x2 y2 (by omega) (by first | omega | assumption | exact Nat.zero_le _) (by subst ex2; subst ey2; simp [rlxF, relF, c_15, c_23, c_40, c_68, nc_68, c_73, c_88, c_100]) (by subst ex2; subst ey2; simp [rlxF, relF, c_15, c_23, c_40, c_68, nc_68, c_73, c_88, c_100]) _ _ hP hD hS _ (lv_sub hl [2, 3, 4, 5, 6, 0] rfl)
            exact hloop_60 ((2 * P - 0) + 1) 0 (upd x v 268435456) (upd y v 0) (Nat.lt_succ_self _) (by first | omega | assumption | exact Nat.zero_le _) (by rfl) (by rfl) _ _ hP hD hS _ (lv_sub hl [2, 3, 4, 5, 1, 0] rfl)
          · exact absurd (by decide) c_40
        · skip
          refine lv_iconst (v := 1) hx hb dX8_findWays_26 (by decide) ?_
          refine lv_goto (tgt := 31) hx hb dX8_findWays_27 (by decide) ?_
          refine lv_istore (lv' := [(4, .int 1), (0, .ref z), (1, .int wi), (2, .int bu), (3, .int (nI v))]) hx hb dX8_findWays_31 hl (by decide) rfl (fun ls hl => ?_)
          refine lv_aload_n hx hb dX8_findWays_33 rfl (lv_at hl 1 rfl) ?_
          refine va_get (D := D) (ci := 9) (v := .ref a11) (C := RX8) (T := TX8) (N := 24) hx hb hts hi_X8 hown hK.1 hP 0 rfl rfl 18 (by decide) hw_f47 (fun _ h9 => h9) rfl dX8_findWays_34 ?_
          refine lv_iload_n hx hb dX8_findWays_37 rfl (lv_at hl 4 rfl) ?_
          refine lv_iload hx hb dX8_findWays_38 (lv_at hl 0 rfl) ?_
          refine lv_if_eq (tgt := 47) hx hb dX8_findWays_40 (by decide) (fun c_40 => ?_) (fun c_40 => ?_)
          · exact absurd c_40 (by decide)
          · skip
            refine lv_iconst (v := 0) hx hb dX8_findWays_43 (by decide) ?_
            refine lv_goto (tgt := 49) hx hb dX8_findWays_44 (by decide) ?_
            refine va_iast hx hb hK.1 hP hD hS 7 0 rfl rfl (vp_in_nI (by omega) (by omega)) dX8_findWays_49 (fun H locs hP hD hS => ?_)
            rw [nI_clamp (by omega)] at hP hD
            have hP : va_P D vwCl [(z, .inr (9, [.ref a0, .ref a1, .int (nI T), .ref a2, .ref a3, .ref a4, .ref a5, .ref a6, .int (nI P), .int pa, .int kn, .ref a7, .int (nI rn), .ref a8, .ref a9, .int (nI ln), .ref a10, .int th, .ref a11, .ref a12, .int bu, .ref a13, .ref a14, .ref a15])), (a1, .inl (cI, 12, .inl im)), (a2, .inl (cI, 14, .inl ne)), (a3, .inl (cI, 14, .inl ei)), (a4, .inl (cI, 14, .inl gi)), (a5, .inl (cI, 14, .inl sk)), (a6, .inl (cI, 14, .inl pg)), (a11, .inl (cI, 4096, .inl (upd x v 0))), (a12, .inl (cI, 4096, .inl y))] H := hP
            have hD : va_D _ [(z, .inr (9, [.ref a0, .ref a1, .int (nI T), .ref a2, .ref a3, .ref a4, .ref a5, .ref a6, .int (nI P), .int pa, .int kn, .ref a7, .int (nI rn), .ref a8, .ref a9, .int (nI ln), .ref a10, .int th, .ref a11, .ref a12, .int bu, .ref a13, .ref a14, .ref a15])), (a1, .inl (cI, 12, .inl im)), (a2, .inl (cI, 14, .inl ne)), (a3, .inl (cI, 14, .inl ei)), (a4, .inl (cI, 14, .inl gi)), (a5, .inl (cI, 14, .inl sk)), (a6, .inl (cI, 14, .inl pg)), (a11, .inl (cI, 4096, .inl (upd x v 0))), (a12, .inl (cI, 4096, .inl y))] := hD
            refine lv_aload_n hx hb dX8_findWays_50 rfl (lv_at hl 1 rfl) ?_
            refine va_get (D := D) (ci := 9) (v := .ref a12) (C := RX8) (T := TX8) (N := 24) hx hb hts hi_X8 hown hK.1 hP 0 rfl rfl 19 (by decide) hw_f50 (fun _ h9 => h9) rfl dX8_findWays_51 ?_
            refine lv_iload_n hx hb dX8_findWays_54 rfl (lv_at hl 4 rfl) ?_
            refine lv_iconst (v := 0) hx hb dX8_findWays_55 (by decide) ?_
            refine va_iast hx hb hK.1 hP hD hS 8 0 rfl rfl (vp_in_nI (by omega) (by omega)) dX8_findWays_56 (fun H locs hP hD hS => ?_)
            rw [nI_clamp (by omega)] at hP hD
            have hP : va_P D vwCl [(z, .inr (9, [.ref a0, .ref a1, .int (nI T), .ref a2, .ref a3, .ref a4, .ref a5, .ref a6, .int (nI P), .int pa, .int kn, .ref a7, .int (nI rn), .ref a8, .ref a9, .int (nI ln), .ref a10, .int th, .ref a11, .ref a12, .int bu, .ref a13, .ref a14, .ref a15])), (a1, .inl (cI, 12, .inl im)), (a2, .inl (cI, 14, .inl ne)), (a3, .inl (cI, 14, .inl ei)), (a4, .inl (cI, 14, .inl gi)), (a5, .inl (cI, 14, .inl sk)), (a6, .inl (cI, 14, .inl pg)), (a11, .inl (cI, 4096, .inl (upd x v 0))), (a12, .inl (cI, 4096, .inl (upd y v 0)))] H := hP
            have hD : va_D _ [(z, .inr (9, [.ref a0, .ref a1, .int (nI T), .ref a2, .ref a3, .ref a4, .ref a5, .ref a6, .int (nI P), .int pa, .int kn, .ref a7, .int (nI rn), .ref a8, .ref a9, .int (nI ln), .ref a10, .int th, .ref a11, .ref a12, .int bu, .ref a13, .ref a14, .ref a15])), (a1, .inl (cI, 12, .inl im)), (a2, .inl (cI, 14, .inl ne)), (a3, .inl (cI, 14, .inl ei)), (a4, .inl (cI, 14, .inl gi)), (a5, .inl (cI, 14, .inl sk)), (a6, .inl (cI, 14, .inl pg)), (a11, .inl (cI, 4096, .inl (upd x v 0))), (a12, .inl (cI, 4096, .inl (upd y v 0)))] := hD
            refine lv_iconst (v := 0) hx hb dX8_findWays_57 (by decide) ?_
            refine lv_istore (lv' := [(5, .int 0), (4, .int 1), (0, .ref z), (1, .int wi), (2, .int bu), (3, .int (nI v))]) hx hb dX8_findWays_58 hl (by decide) rfl (fun ls hl => ?_)
            refine lv_iload hx hb dX8_findWays_60 (lv_at hl 0 rfl) ?_
            refine lv_iconst (v := 2) hx hb dX8_findWays_62 (by decide) ?_
            refine lv_aload_n hx hb dX8_findWays_63 rfl (lv_at hl 2 rfl) ?_
            refine va_get (D := D) (ci := 9) (v := .int (nI P)) (C := RX8) (T := TX8) (N := 24) hx hb hts hi_X8 hown hK.1 hP 0 rfl rfl 8 (by decide) hw_f73 (fun _ h9 => h9) rfl dX8_findWays_64 ?_
            refine lv_imul hx hb dX8_findWays_67 ?_
            refine lv_topi (fun nv_9 ev_9 => ?_)
            obtain rfl : nv_9 = nI (2 * P) := ev_9.trans (pk_mul 2 P)
            refine lv_icmp_ge (tgt := 191) hx hb dX8_findWays_68 (by decide) (fun c_68 => ?_) (fun c_68 => ?_)
            · skip
              have nc_68 : (2 * P) ≤ 0 := (nI_leI (a := 2 * P) (b := 0) (by omega) (by omega)).mp c_68
              refine lv_iinc (v := nI (2 ^ T - (k + 1)) - 1) (lv' := [(3, .int (nI (2 ^ T - (k + 1)) - 1)), (5, .int 0), (4, .int 1), (0, .ref z), (1, .int wi), (2, .int bu)]) hx hb dX8_findWays_191 hl (k := 5) rfl (by rw [ksub1, ev]; rw [show 2 ^ T - 1 - k = 2 ^ T - (k + 1) by omega]) (by decide) rfl (fun ls hl => ?_)
              refine lv_goto (tgt := 14) hx hb dX8_findWays_194 (by decide) ?_
              exact ih_14  (k + 1) (upd x v 0) (upd y v 0) (by omega) (by first | omega | assumption | exact Nat.zero_le _) (by first | (subst ex; subst ey; subst ev; simp [fwF, c_15, c_23, c_40, c_68, nc_68]; done) | (rw [ex2]; subst ex; subst ey; subst ev; rw [fwF, if_neg c_23, c_end])) (by first | (subst ex; subst ey; subst ev; simp [fwF, c_15, c_23, c_40, c_68, nc_68]; done) | (rw [ey2]; subst ex; subst ey; subst ev; rw [fwF, if_neg c_23, c_end])) _ _ hP hD hS _ (lv_sub hl [3, 4, 5, 0] rfl)
            · skip
              have nc_68 : ¬ (2 * P) ≤ 0 := (not_congr (nI_leI (a := 2 * P) (b := 0) (by omega) (by omega))).mp c_68
              refine lv_iload hx hb dX8_findWays_71 (lv_at hl 1 rfl) ?_
              refine lv_if_ne (tgt := 191) hx hb dX8_findWays_73 (by decide) (fun c_73 => ?_) (fun c_73 => ?_)
              · skip
                refine lv_iinc (v := nI (2 ^ T - (k + 1)) - 1) (lv' := [(3, .int (nI (2 ^ T - (k + 1)) - 1)), (5, .int 0), (4, .int 1), (0, .ref z), (1, .int wi), (2, .int bu)]) hx hb dX8_findWays_191 hl (k := 5) rfl (by rw [ksub1, ev]; rw [show 2 ^ T - 1 - k = 2 ^ T - (k + 1) by omega]) (by decide) rfl (fun ls hl => ?_)
                refine lv_goto (tgt := 14) hx hb dX8_findWays_194 (by decide) ?_
                exact ih_14  (k + 1) (upd x v 0) (upd y v 0) (by omega) (by first | omega | assumption | exact Nat.zero_le _) (by first | (subst ex; subst ey; subst ev; simp [fwF, c_15, c_23, c_40, c_68, nc_68, c_73]; done) | (rw [ex2]; subst ex; subst ey; subst ev; rw [fwF, if_neg c_23, c_end])) (by first | (subst ex; subst ey; subst ev; simp [fwF, c_15, c_23, c_40, c_68, nc_68, c_73]; done) | (rw [ey2]; subst ex; subst ey; subst ev; rw [fwF, if_neg c_23, c_end])) _ _ hP hD hS _ (lv_sub hl [3, 4, 5, 0] rfl)
              · exact absurd c_73 (by decide)
  exact hloop_14 ((2 ^ T - 0) + 1) 0 co st (Nat.lt_succ_self _) (by exact Nat.zero_le _) (by rfl) (by rfl) _ _ hP hD hS _ (lv_sub hl [1, 2, 3, 0] rfl)
