/-! ===== the reference: ways ===== -/
def relF (ne ei im gi sk pg : Nat → Int32) (T : Nat) (pa wt : Int32) (v s : Nat) (q : (Nat → Int32) × (Nat → Int32)) : (Nat → Int32) × (Nat → Int32) :=
  if nbF ne ei im gi sk T wt s (nI v) = -1 then q
  else if q.1 (nbF ne ei im gi sk T wt s (nI v)).toNatClampNeg = 268435456 then q
  else if q.1 v < mtimeF pg pa s + q.1 (nbF ne ei im gi sk T wt s (nI v)).toNatClampNeg then q
  else if ¬ mtimeF pg pa s + q.1 (nbF ne ei im gi sk T wt s (nI v)).toNatClampNeg = q.1 v then (upd q.1 v (mtimeF pg pa s + q.1 (nbF ne ei im gi sk T wt s (nI v)).toNatClampNeg), upd q.2 v (1 + q.2 (nbF ne ei im gi sk T wt s (nI v)).toNatClampNeg))
  else if 1 + q.2 (nbF ne ei im gi sk T wt s (nI v)).toNatClampNeg < q.2 v then (upd q.1 v (mtimeF pg pa s + q.1 (nbF ne ei im gi sk T wt s (nI v)).toNatClampNeg), upd q.2 v (1 + q.2 (nbF ne ei im gi sk T wt s (nI v)).toNatClampNeg))
  else q
def rlxF (ne ei im gi sk pg : Nat → Int32) (T : Nat) (pa wt : Int32) (v : Nat) (q : (Nat → Int32) × (Nat → Int32)) : Nat → (Nat → Int32) × (Nat → Int32)
  | 0 => q
  | s + 1 => relF ne ei im gi sk pg T pa wt v s (rlxF ne ei im gi sk pg T pa wt v q s)
def fwF (ne ei im gi sk pg co st : Nat → Int32) (T P : Nat) (pa wt wi : Int32) : Nat → (Nat → Int32) × (Nat → Int32)
  | 0 => (co, st)
  | k + 1 => if wi &&& xnot (nI (2 ^ T - 1 - k)) = 0 then (upd (fwF ne ei im gi sk pg co st T P pa wt wi k).1 (2 ^ T - 1 - k) 0, upd (fwF ne ei im gi sk pg co st T P pa wt wi k).2 (2 ^ T - 1 - k) 0)
    else rlxF ne ei im gi sk pg T pa wt (2 ^ T - 1 - k) (upd (fwF ne ei im gi sk pg co st T P pa wt wi k).1 (2 ^ T - 1 - k) 268435456, upd (fwF ne ei im gi sk pg co st T P pa wt wi k).2 (2 ^ T - 1 - k) 0) (2 * P)
theorem ksub1 (a : Nat) : nI a + Int32.ofInt (-1) = nI a - 1 := by rw [Int32.sub_eq_add_neg]; rfl
theorem kq1 {q : Nat} (hq : q < 2 ^ 31) : nI q - 1 < 0 ↔ q = 0 := by
  rcases Nat.eq_zero_or_pos q with rfl | h
  · simp [nI]
  · have e : nI q - 1 = nI (q - 1) := pk_sub (a := q) (b := 1) h
    rw [e]
    constructor
    · intro z; exact absurd z (nI_pos (by omega))
    · intro z; omega
def hBp (ne ei im gi sk : Nat → Int32) (T P : Nat) (wt : Int32) : Prop := ∀ k, k < 2 * P → ∀ v, v < 2 ^ T → nbF ne ei im gi sk T wt k (nI v) = -1 ∨ vp_in (nbF ne ei im gi sk T wt k (nI v)) 4096
def fstF (p : Nat → Bool) : Nat → Nat → Nat
  | 0, k => k
  | f + 1, k => if p k then k else fstF p f (k + 1)
theorem fstF_eq {p : Nat → Bool} {k0 : Nat} (h0 : p k0 = true) (hm : ∀ j, j < k0 → ¬ p j = true) : ∀ f k, k ≤ k0 → k0 < k + f → fstF p f k = k0
  | 0, k, h1, h2 => by omega
  | f + 1, k, h1, h2 => by
    unfold fstF
    rcases Nat.lt_or_ge k k0 with h | h
    · rw [if_neg (hm k h)]
      exact fstF_eq h0 hm f (k + 1) (by omega) (by omega)
    · have e : k = k0 := by omega
      subst e
      rw [if_pos h0]
def wtB (ne ei im gi sk pg : Nat → Int32) (T : Nat) (pa wt : Int32) (q : (Nat → Int32) × (Nat → Int32)) (v k : Nat) : Bool :=
  if nbF ne ei im gi sk T wt k (nI v) = -1 then false
  else if (268435456 : Int32) ≤ q.1 (nbF ne ei im gi sk T wt k (nI v)).toNatClampNeg then false
  else decide (mtimeF pg pa k + q.1 (nbF ne ei im gi sk T wt k (nI v)).toNatClampNeg = q.1 v) && decide (1 + q.2 (nbF ne ei im gi sk T wt k (nI v)).toNatClampNeg = q.2 v)
def trK (ne ei im gi sk pg : Nat → Int32) (T P : Nat) (pa wt : Int32) (q : (Nat → Int32) × (Nat → Int32)) (v : Nat) : Nat := fstF (wtB ne ei im gi sk pg T pa wt q v) (2 * P) 0
def trV (ne ei im gi sk pg : Nat → Int32) (T P : Nat) (pa wt : Int32) (q : (Nat → Int32) × (Nat → Int32)) (K : Nat) : Nat → Nat
  | 0 => K
  | n + 1 => (bhF im gi sk T (trK ne ei im gi sk pg T P pa wt q (trV ne ei im gi sk pg T P pa wt q K n)) (nI (trV ne ei im gi sk pg T P pa wt q K n))).toNatClampNeg
def trR (ne ei im gi sk pg : Nat → Int32) (T P : Nat) (pa wt : Int32) (q : (Nat → Int32) × (Nat → Int32)) (K : Nat) (ro : Nat → Int32) : Nat → Nat → Int32
  | 0 => ro
  | n + 1 => upd (trR ne ei im gi sk pg T P pa wt q K ro n) n (nI (trK ne ei im gi sk pg T P pa wt q (trV ne ei im gi sk pg T P pa wt q K n)))
/-- what way() needs of the table of ways: its steps are small numbers, and where there are some, a first one leads on -/
def trP (ne ei im gi sk pg : Nat → Int32) (T P : Nat) (pa wt : Int32) (q : (Nat → Int32) × (Nat → Int32)) (sN : Nat → Nat) : Prop :=
  ∀ v, v < 2 ^ T → q.2 v = nI (sN v) ∧ sN v ≤ 12 ∧ (0 < sN v → (∃ k, k < 2 * P ∧ wtB ne ei im gi sk pg T pa wt q v k = true) ∧ ∀ k, k < 2 * P → wtB ne ei im gi sk pg T pa wt q v k = true → ∃ u, u < 2 ^ T ∧ bhF im gi sk T k (nI v) = nI u ∧ sN u + 1 = sN v)

set_option maxHeartbeats 4000000 in
set_option maxRecDepth 100000 in
theorem c_X8_findWays (l : Launch) (D : va_G) (cI cJ cZ cO : ClassId) (z : Nat) (a0 : Nat) (a1 : Nat) (a2 : Nat) (a3 : Nat) (a4 : Nat) (a5 : Nat) (a6 : Nat) (a7 : Nat) (a8 : Nat) (a9 : Nat) (a10 : Nat) (a11 : Nat) (a12 : Nat) (a13 : Nat) (a14 : Nat) (a15 : Nat) (T : Nat) (P : Nat) (pa : Int32) (kn : Int32) (rn : Nat) (ln : Nat) (th : Int32) (wt : Int32) (im : Nat → Int32) (ne : Nat → Int32) (ei : Nat → Int32) (gi : Nat → Int32) (sk : Nat → Int32) (pg : Nat → Int32) (co : Nat → Int32) (st : Nat → Int32) (wi : Int32) (bu : Int32) (hT : T ≤ 12) (hP14 : P ≤ 14) (hB : hBp ne ei im gi sk T P bu) : kC l D (kTY cI cJ cZ cO) yX8_findWays wsX8_findWays 3 68 0 0 [.ref z, .int wi, .int bu] [(z, .inr (9, [.ref a0, .ref a1, .int (nI T), .ref a2, .ref a3, .ref a4, .ref a5, .ref a6, .int (nI P), .int pa, .int kn, .ref a7, .int (nI rn), .ref a8, .ref a9, .int (nI ln), .ref a10, .int th, .ref a11, .ref a12, .int wt, .ref a13, .ref a14, .ref a15])), (a1, .inl (cI, 12, .inl im)), (a2, .inl (cI, 14, .inl ne)), (a3, .inl (cI, 14, .inl ei)), (a4, .inl (cI, 14, .inl gi)), (a5, .inl (cI, 14, .inl sk)), (a6, .inl (cI, 14, .inl pg)), (a11, .inl (cI, 4096, .inl co)), (a12, .inl (cI, 4096, .inl st))] (fun rv_ rw_ => rv_ = none ∧ rw_ = [(z, .inr (9, [.ref a0, .ref a1, .int (nI T), .ref a2, .ref a3, .ref a4, .ref a5, .ref a6, .int (nI P), .int pa, .int kn, .ref a7, .int (nI rn), .ref a8, .ref a9, .int (nI ln), .ref a10, .int th, .ref a11, .ref a12, .int bu, .ref a13, .ref a14, .ref a15])), (a1, .inl (cI, 12, .inl im)), (a2, .inl (cI, 14, .inl ne)), (a3, .inl (cI, 14, .inl ei)), (a4, .inl (cI, 14, .inl gi)), (a5, .inl (cI, 14, .inl sk)), (a6, .inl (cI, 14, .inl pg)), (a11, .inl (cI, 4096, .inl ((fwF ne ei im gi sk pg co st T P pa bu wi (2 ^ T)).1))), (a12, .inl (cI, 4096, .inl ((fwF ne ei im gi sk pg co st T P pa bu wi (2 ^ T)).2)))]) := by
  refine kEnter (cc := cX8_findWays) (maxL := 9) (ret := none) (by decide) rfl (Nat.le_of_ble_eq_true rfl) ?_
  intro p e s m args below meth c hx hb hr hml hts hown hlk hnm hK hP hD hS hA ls hl
  have hl : lv_has ls 9 [(0, .ref z), (1, .int wi), (2, .int bu)] := hl
  have hw_f107 := hts (.fieldLink RX8 107 "WhatToReadModel" "without" "I") (by decide +kernel)
  have hi_X8 : ∀ w ∈ wsX80, w ∈ wsX8_findWays := by decide +kernel
  have hw_f66 := hts (.fieldLink RX8 66 "WhatToReadModel" "topics" "I") (by decide +kernel)
  have hw_f47 := hts (.fieldLink RX8 47 "WhatToReadModel" "cost" "[I") (by decide +kernel)
  have hw_f50 := hts (.fieldLink RX8 50 "WhatToReadModel" "steps" "[I") (by decide +kernel)
  have hw_f73 := hts (.fieldLink RX8 73 "WhatToReadModel" "pieces" "I") (by decide +kernel)
  refine lv_aload_n hx hb dX8_findWays_0 rfl (lv_at hl 0 rfl) ?_
  refine lv_iload_n hx hb dX8_findWays_1 rfl (lv_at hl 2 rfl) ?_
  refine va_put (D := D) (ci := 9) (v := .int bu) (ty := .int) (C := RX8) (T := TX8) (N := 24) hx hb hts hi_X8 tyX8 tyX8_ok nmX8 hown hK.1 hP hD hS 0 rfl rfl 20 (by decide) hw_f107 (fun _ h9 => h9) rfl (by decide +kernel) rfl rfl (Nat.le_of_ble_eq_true rfl) dX8_findWays_2 (fun H locs hP hD hS => ?_)
  have hP : va_P D vwCl [(z, .inr (9, [.ref a0, .ref a1, .int (nI T), .ref a2, .ref a3, .ref a4, .ref a5, .ref a6, .int (nI P), .int pa, .int kn, .ref a7, .int (nI rn), .ref a8, .ref a9, .int (nI ln), .ref a10, .int th, .ref a11, .ref a12, .int bu, .ref a13, .ref a14, .ref a15])), (a1, .inl (cI, 12, .inl im)), (a2, .inl (cI, 14, .inl ne)), (a3, .inl (cI, 14, .inl ei)), (a4, .inl (cI, 14, .inl gi)), (a5, .inl (cI, 14, .inl sk)), (a6, .inl (cI, 14, .inl pg)), (a11, .inl (cI, 4096, .inl co)), (a12, .inl (cI, 4096, .inl st))] H := hP
  have hD : va_D _ [(z, .inr (9, [.ref a0, .ref a1, .int (nI T), .ref a2, .ref a3, .ref a4, .ref a5, .ref a6, .int (nI P), .int pa, .int kn, .ref a7, .int (nI rn), .ref a8, .ref a9, .int (nI ln), .ref a10, .int th, .ref a11, .ref a12, .int bu, .ref a13, .ref a14, .ref a15])), (a1, .inl (cI, 12, .inl im)), (a2, .inl (cI, 14, .inl ne)), (a3, .inl (cI, 14, .inl ei)), (a4, .inl (cI, 14, .inl gi)), (a5, .inl (cI, 14, .inl sk)), (a6, .inl (cI, 14, .inl pg)), (a11, .inl (cI, 4096, .inl co)), (a12, .inl (cI, 4096, .inl st))] := hD
  refine lv_iconst (v := 1) hx hb dX8_findWays_5 (by decide) ?_
  refine lv_aload_n hx hb dX8_findWays_6 rfl (lv_at hl 0 rfl) ?_
  refine va_get (D := D) (ci := 9) (v := .int (nI T)) (C := RX8) (T := TX8) (N := 24) hx hb hts hi_X8 hown hK.1 hP 0 rfl rfl 2 (by decide) hw_f66 (fun _ h9 => h9) rfl dX8_findWays_7 ?_
  refine lv_ishl hx hb dX8_findWays_10 ?_
  refine lv_topi (fun nv_1 ev_1 => ?_)
  obtain rfl : nv_1 = nI (2 ^ T) := ev_1.trans (kshl1 T hT)
  refine lv_iconst (v := 1) hx hb dX8_findWays_11 (by decide) ?_
  refine lv_isub hx hb dX8_findWays_12 ?_
  refine lv_istore_n (lv' := [(3, .int ((nI (2 ^ T)) - 1)), (0, .ref z), (1, .int wi), (2, .int bu)]) hx hb dX8_findWays_13 rfl hl (by decide) rfl (fun ls hl => ?_)
  have hloop_14 : ∀ (fu : Nat) (k : Nat) (x : Nat → Int32) (y : Nat → Int32), 2 ^ T - k < fu → k ≤ 2 ^ T → x = (fwF ne ei im gi sk pg co st T P pa bu wi k).1 → y = (fwF ne ei im gi sk pg co st T P pa bu wi k).2 → ∀ (H : Heap) (locs : List Loc), va_P D vwCl [(z, .inr (9, [.ref a0, .ref a1, .int (nI T), .ref a2, .ref a3, .ref a4, .ref a5, .ref a6, .int (nI P), .int pa, .int kn, .ref a7, .int (nI rn), .ref a8, .ref a9, .int (nI ln), .ref a10, .int th, .ref a11, .ref a12, .int bu, .ref a13, .ref a14, .ref a15])), (a1, .inl (cI, 12, .inl im)), (a2, .inl (cI, 14, .inl ne)), (a3, .inl (cI, 14, .inl ei)), (a4, .inl (cI, 14, .inl gi)), (a5, .inl (cI, 14, .inl sk)), (a6, .inl (cI, 14, .inl pg)), (a11, .inl (cI, 4096, .inl x)), (a12, .inl (cI, 4096, .inl y))] H → va_D (va_A [(z, .inr (9, [.ref a0, .ref a1, .int (nI T), .ref a2, .ref a3, .ref a4, .ref a5, .ref a6, .int (nI P), .int pa, .int kn, .ref a7, .int (nI rn), .ref a8, .ref a9, .int (nI ln), .ref a10, .int th, .ref a11, .ref a12, .int wt, .ref a13, .ref a14, .ref a15])), (a1, .inl (cI, 12, .inl im)), (a2, .inl (cI, 14, .inl ne)), (a3, .inl (cI, 14, .inl ei)), (a4, .inl (cI, 14, .inl gi)), (a5, .inl (cI, 14, .inl sk)), (a6, .inl (cI, 14, .inl pg)), (a11, .inl (cI, 4096, .inl co)), (a12, .inl (cI, 4096, .inl st))] s.heap.size) [(z, .inr (9, [.ref a0, .ref a1, .int (nI T), .ref a2, .ref a3, .ref a4, .ref a5, .ref a6, .int (nI P), .int pa, .int kn, .ref a7, .int (nI rn), .ref a8, .ref a9, .int (nI ln), .ref a10, .int th, .ref a11, .ref a12, .int bu, .ref a13, .ref a14, .ref a15])), (a1, .inl (cI, 12, .inl im)), (a2, .inl (cI, 14, .inl ne)), (a3, .inl (cI, 14, .inl ei)), (a4, .inl (cI, 14, .inl gi)), (a5, .inl (cI, 14, .inl sk)), (a6, .inl (cI, 14, .inl pg)), (a11, .inl (cI, 4096, .inl x)), (a12, .inl (cI, 4096, .inl y))] → va_S (va_A [(z, .inr (9, [.ref a0, .ref a1, .int (nI T), .ref a2, .ref a3, .ref a4, .ref a5, .ref a6, .int (nI P), .int pa, .int kn, .ref a7, .int (nI rn), .ref a8, .ref a9, .int (nI ln), .ref a10, .int th, .ref a11, .ref a12, .int wt, .ref a13, .ref a14, .ref a15])), (a1, .inl (cI, 12, .inl im)), (a2, .inl (cI, 14, .inl ne)), (a3, .inl (cI, 14, .inl ei)), (a4, .inl (cI, 14, .inl gi)), (a5, .inl (cI, 14, .inl sk)), (a6, .inl (cI, 14, .inl pg)), (a11, .inl (cI, 4096, .inl co)), (a12, .inl (cI, 4096, .inl st))] s.heap.size) s.heap H locs → ∀ ls : Array Slot, lv_has ls 9 [(0, .ref z), (1, .int wi), (2, .int bu), (3, .int (nI (2 ^ T - k) - 1))] → W p l e ({ frames := 3, cells := 0, slots := 0, locals := 68 }) s m args below meth c H locs 0 0 (MQ below (kQ D [(z, .inr (9, [.ref a0, .ref a1, .int (nI T), .ref a2, .ref a3, .ref a4, .ref a5, .ref a6, .int (nI P), .int pa, .int kn, .ref a7, .int (nI rn), .ref a8, .ref a9, .int (nI ln), .ref a10, .int th, .ref a11, .ref a12, .int wt, .ref a13, .ref a14, .ref a15])), (a1, .inl (cI, 12, .inl im)), (a2, .inl (cI, 14, .inl ne)), (a3, .inl (cI, 14, .inl ei)), (a4, .inl (cI, 14, .inl gi)), (a5, .inl (cI, 14, .inl sk)), (a6, .inl (cI, 14, .inl pg)), (a11, .inl (cI, 4096, .inl co)), (a12, .inl (cI, 4096, .inl st))] s.heap.size (fun rv_ rw_ => rv_ = none ∧ rw_ = [(z, .inr (9, [.ref a0, .ref a1, .int (nI T), .ref a2, .ref a3, .ref a4, .ref a5, .ref a6, .int (nI P), .int pa, .int kn, .ref a7, .int (nI rn), .ref a8, .ref a9, .int (nI ln), .ref a10, .int th, .ref a11, .ref a12, .int bu, .ref a13, .ref a14, .ref a15])), (a1, .inl (cI, 12, .inl im)), (a2, .inl (cI, 14, .inl ne)), (a3, .inl (cI, 14, .inl ei)), (a4, .inl (cI, 14, .inl gi)), (a5, .inl (cI, 14, .inl sk)), (a6, .inl (cI, 14, .inl pg)), (a11, .inl (cI, 4096, .inl ((fwF ne ei im gi sk pg co st T P pa bu wi (2 ^ T)).1))), (a12, .inl (cI, 4096, .inl ((fwF ne ei im gi sk pg co st T P pa bu wi (2 ^ T)).2)))])) args s 0 0 (va_A [(z, .inr (9, [.ref a0, .ref a1, .int (nI T), .ref a2, .ref a3, .ref a4, .ref a5, .ref a6, .int (nI P), .int pa, .int kn, .ref a7, .int (nI rn), .ref a8, .ref a9, .int (nI ln), .ref a10, .int th, .ref a11, .ref a12, .int wt, .ref a13, .ref a14, .ref a15])), (a1, .inl (cI, 12, .inl im)), (a2, .inl (cI, 14, .inl ne)), (a3, .inl (cI, 14, .inl ei)), (a4, .inl (cI, 14, .inl gi)), (a5, .inl (cI, 14, .inl sk)), (a6, .inl (cI, 14, .inl pg)), (a11, .inl (cI, 4096, .inl co)), (a12, .inl (cI, 4096, .inl st))] s.heap.size)) (F0 m 14 ls []) := by
    intro fu
    induction fu with
    | zero => intro k x y hmu; exact absurd hmu (Nat.not_lt_zero _)
    | succ fu ih_14 =>
      intro k x y hmu_14 hk ex ey H locs hP hD hS ls hl
      have hpw := kpow hT
      refine lv_iload_n hx hb dX8_findWays_14 rfl (lv_at hl 3 rfl) ?_
      refine lv_if_lt (tgt := 197) hx hb dX8_findWays_15 (by decide) (fun c_15 => ?_) (fun c_15 => ?_)
      · skip
        have nc_15 := (kq1 (by omega)).mp c_15
        have e12 : k = 2 ^ T := by omega
        have ew_0 : (x : Nat → Int32) = (fwF ne ei im gi sk pg co st T P pa bu wi (2 ^ T)).1 := by first | rfl | (rw [ex, e12]; done) | (rw [em, e12]; done) | (rw [ey, e12]; done) | (rw [e12]; done) | (simp [hk, ex, ey, c_15]; done) | (simp_all []; done)
        have ew_1 : (y : Nat → Int32) = (fwF ne ei im gi sk pg co st T P pa bu wi (2 ^ T)).2 := by first | rfl | (rw [ex, e12]; done) | (rw [em, e12]; done) | (rw [ey, e12]; done) | (rw [e12]; done) | (simp [hk, ex, ey, c_15]; done) | (simp_all []; done)
        exact kRetV hx hb hr hlk dX8_findWays_197 hP hD hS (Nat.le_of_ble_eq_true rfl) (Nat.le_of_ble_eq_true rfl) ⟨rfl, (kw2 (fun (z_0 : Nat → Int32) (z_1 : Nat → Int32) => ([(z, .inr (9, [.ref a0, .ref a1, .int (nI T), .ref a2, .ref a3, .ref a4, .ref a5, .ref a6, .int (nI P), .int pa, .int kn, .ref a7, .int (nI rn), .ref a8, .ref a9, .int (nI ln), .ref a10, .int th, .ref a11, .ref a12, .int bu, .ref a13, .ref a14, .ref a15])), (a1, .inl (cI, 12, .inl im)), (a2, .inl (cI, 14, .inl ne)), (a3, .inl (cI, 14, .inl ei)), (a4, .inl (cI, 14, .inl gi)), (a5, .inl (cI, 14, .inl sk)), (a6, .inl (cI, 14, .inl pg)), (a11, .inl (cI, 4096, .inl z_0)), (a12, .inl (cI, 4096, .inl z_1))] : va_W)) ew_0 ew_1)⟩
      · skip
        have nc_15 := (not_congr (kq1 (by omega))).mp c_15
        obtain ⟨v, ev⟩ : ∃ v, v = 2 ^ T - 1 - k := ⟨_, rfl⟩
        rw [show (nI (2 ^ T - k) - 1 : Int32) = nI v from by rw [kpred (by omega), ev]; rw [show 2 ^ T - k - 1 = 2 ^ T - 1 - k by omega]] at hl
        refine lv_iload_n hx hb dX8_findWays_18 rfl (lv_at hl 1 rfl) ?_
        refine lv_iload_n hx hb dX8_findWays_19 rfl (lv_at hl 3 rfl) ?_
        refine lv_iconst (v := (-1)) hx hb dX8_findWays_20 (by decide) ?_
        refine lv_ixor hx hb dX8_findWays_21 ?_
        refine lv_topi (fun nv_2 ev_2 => ?_)
        obtain rfl : nv_2 = xnot (nI v) := ev_2.trans (rfl)
        refine lv_iand hx hb dX8_findWays_22 ?_
        refine lv_if_ne (tgt := 30) hx hb dX8_findWays_23 (by decide) (fun c_23 => ?_) (fun c_23 => ?_)
        · skip
          refine lv_iconst (v := 0) hx hb dX8_findWays_30 (by decide) ?_
          refine lv_istore (lv' := [(4, .int 0), (0, .ref z), (1, .int wi), (2, .int bu), (3, .int (nI v))]) hx hb dX8_findWays_31 hl (by decide) rfl (fun ls hl => ?_)
          refine lv_aload_n hx hb dX8_findWays_33 rfl (lv_at hl 1 rfl) ?_
          refine va_get (D := D) (ci := 9) (v := .ref a11) (C := RX8) (T := TX8) (N := 24) hx hb hts hi_X8 hown hK.1 hP 0 rfl rfl 18 (by decide) hw_f47 (fun _ h9 => h9) rfl dX8_findWays_34 ?_
          refine lv_iload_n hx hb dX8_findWays_37 rfl (lv_at hl 4 rfl) ?_
          refine lv_iload hx hb dX8_findWays_38 (lv_at hl 0 rfl) ?_
          refine lv_if_eq (tgt := 47) hx hb dX8_findWays_40 (by decide) (fun c_40 => ?_) (fun c_40 => ?_)
          · skip
            refine lv_ldc (v := 268435456) hx hb hown (hts (.constant RX8 110 268435456) (by decide +kernel)) dX8_findWays_47 ?_
            refine va_iast hx hb hK.1 hP hD hS 7 0 rfl rfl (vp_in_nI (by omega) (by omega)) dX8_findWays_49 (fun H locs hP hD hS => ?_)
            rw [nI_clamp (by omega)] at hP hD
            have hP : va_P D vwCl [(z, .inr (9, [.ref a0, .ref a1, .int (nI T), .ref a2, .ref a3, .ref a4, .ref a5, .ref a6, .int (nI P), .int pa, .int kn, .ref a7, .int (nI rn), .ref a8, .ref a9, .int (nI ln), .ref a10, .int th, .ref a11, .ref a12, .int bu, .ref a13, .ref a14, .ref a15])), (a1, .inl (cI, 12, .inl im)), (a2, .inl (cI, 14, .inl ne)), (a3, .inl (cI, 14, .inl ei)), (a4, .inl (cI, 14, .inl gi)), (a5, .inl (cI, 14, .inl sk)), (a6, .inl (cI, 14, .inl pg)), (a11, .inl (cI, 4096, .inl (upd x v 268435456))), (a12, .inl (cI, 4096, .inl y))] H := hP
            have hD : va_D _ [(z, .inr (9, [.ref a0, .ref a1, .int (nI T), .ref a2, .ref a3, .ref a4, .ref a5, .ref a6, .int (nI P), .int pa, .int kn, .ref a7, .int (nI rn), .ref a8, .ref a9, .int (nI ln), .ref a10, .int th, .ref a11, .ref a12, .int bu, .ref a13, .ref a14, .ref a15])), (a1, .inl (cI, 12, .inl im)), (a2, .inl (cI, 14, .inl ne)), (a3, .inl (cI, 14, .inl ei)), (a4, .inl (cI, 14, .inl gi)), (a5, .inl (cI, 14, .inl sk)), (a6, .inl (cI, 14, .inl pg)), (a11, .inl (cI, 4096, .inl (upd x v 268435456))), (a12, .inl (cI, 4096, .inl y))] := hD
            refine lv_aload_n hx hb dX8_findWays_50 rfl (lv_at hl 1 rfl) ?_
            refine va_get (D := D) (ci := 9) (v := .ref a12) (C := RX8) (T := TX8) (N := 24) hx hb hts hi_X8 hown hK.1 hP 0 rfl rfl 19 (by decide) hw_f50 (fun _ h9 => h9) rfl dX8_findWays_51 ?_
            refine lv_iload_n hx hb dX8_findWays_54 rfl (lv_at hl 4 rfl) ?_
            refine lv_iconst (v := 0) hx hb dX8_findWays_55 (by decide) ?_
            refine va_iast hx hb hK.1 hP hD hS 8 0 rfl rfl (vp_in_nI (by omega) (by omega)) dX8_findWays_56 (fun H locs hP hD hS => ?_)
            rw [nI_clamp (by omega)] at hP hD
            have hP : va_P D vwCl [(z, .inr (9, [.ref a0, .ref a1, .int (nI T), .ref a2, .ref a3, .ref a4, .ref a5, .ref a6, .int (nI P), .int pa, .int kn, .ref a7, .int (nI rn), .ref a8, .ref a9, .int (nI ln), .ref a10, .int th, .ref a11, .ref a12, .int bu, .ref a13, .ref a14, .ref a15])), (a1, .inl (cI, 12, .inl im)), (a2, .inl (cI, 14, .inl ne)), (a3, .inl (cI, 14, .inl ei)), (a4, .inl (cI, 14, .inl gi)), (a5, .inl (cI, 14, .inl sk)), (a6, .inl (cI, 14, .inl pg)), (a11, .inl (cI, 4096, .inl (upd x v 268435456))), (a12, .inl (cI, 4096, .inl (upd y v 0)))] H := hP
            have hD : va_D _ [(z, .inr (9, [.ref a0, .ref a1, .int (nI T), .ref a2, .ref a3, .ref a4, .ref a5, .ref a6, .int (nI P), .int pa, .int kn, .ref a7, .int (nI rn), .ref a8, .ref a9, .int (nI ln), .ref a10, .int th, .ref a11, .ref a12, .int bu, .ref a13, .ref a14, .ref a15])), (a1, .inl (cI, 12, .inl im)), (a2, .inl (cI, 14, .inl ne)), (a3, .inl (cI, 14, .inl ei)), (a4, .inl (cI, 14, .inl gi)), (a5, .inl (cI, 14, .inl sk)), (a6, .inl (cI, 14, .inl pg)), (a11, .inl (cI, 4096, .inl (upd x v 268435456))), (a12, .inl (cI, 4096, .inl (upd y v 0)))] := hD
            refine lv_iconst (v := 0) hx hb dX8_findWays_57 (by decide) ?_
            refine lv_istore (lv' := [(5, .int 0), (4, .int 0), (0, .ref z), (1, .int wi), (2, .int bu), (3, .int (nI v))]) hx hb dX8_findWays_58 hl (by decide) rfl (fun ls hl => ?_)
            have hloop_60 : ∀ (fu : Nat) (s_ : Nat) (x2 : Nat → Int32) (y2 : Nat → Int32), 2 * P - s_ < fu → s_ ≤ 2 * P → x2 = (rlxF ne ei im gi sk pg T pa bu v (upd x v 268435456, upd y v 0) s_).1 → y2 = (rlxF ne ei im gi sk pg T pa bu v (upd x v 268435456, upd y v 0) s_).2 → ∀ (H : Heap) (locs : List Loc), va_P D vwCl [(z, .inr (9, [.ref a0, .ref a1, .int (nI T), .ref a2, .ref a3, .ref a4, .ref a5, .ref a6, .int (nI P), .int pa, .int kn, .ref a7, .int (nI rn), .ref a8, .ref a9, .int (nI ln), .ref a10, .int th, .ref a11, .ref a12, .int bu, .ref a13, .ref a14, .ref a15])), (a1, .inl (cI, 12, .inl im)), (a2, .inl (cI, 14, .inl ne)), (a3, .inl (cI, 14, .inl ei)), (a4, .inl (cI, 14, .inl gi)), (a5, .inl (cI, 14, .inl sk)), (a6, .inl (cI, 14, .inl pg)), (a11, .inl (cI, 4096, .inl x2)), (a12, .inl (cI, 4096, .inl y2))] H → va_D (va_A [(z, .inr (9, [.ref a0, .ref a1, .int (nI T), .ref a2, .ref a3, .ref a4, .ref a5, .ref a6, .int (nI P), .int pa, .int kn, .ref a7, .int (nI rn), .ref a8, .ref a9, .int (nI ln), .ref a10, .int th, .ref a11, .ref a12, .int wt, .ref a13, .ref a14, .ref a15])), (a1, .inl (cI, 12, .inl im)), (a2, .inl (cI, 14, .inl ne)), (a3, .inl (cI, 14, .inl ei)), (a4, .inl (cI, 14, .inl gi)), (a5, .inl (cI, 14, .inl sk)), (a6, .inl (cI, 14, .inl pg)), (a11, .inl (cI, 4096, .inl co)), (a12, .inl (cI, 4096, .inl st))] s.heap.size) [(z, .inr (9, [.ref a0, .ref a1, .int (nI T), .ref a2, .ref a3, .ref a4, .ref a5, .ref a6, .int (nI P), .int pa, .int kn, .ref a7, .int (nI rn), .ref a8, .ref a9, .int (nI ln), .ref a10, .int th, .ref a11, .ref a12, .int bu, .ref a13, .ref a14, .ref a15])), (a1, .inl (cI, 12, .inl im)), (a2, .inl (cI, 14, .inl ne)), (a3, .inl (cI, 14, .inl ei)), (a4, .inl (cI, 14, .inl gi)), (a5, .inl (cI, 14, .inl sk)), (a6, .inl (cI, 14, .inl pg)), (a11, .inl (cI, 4096, .inl x2)), (a12, .inl (cI, 4096, .inl y2))] → va_S (va_A [(z, .inr (9, [.ref a0, .ref a1, .int (nI T), .ref a2, .ref a3, .ref a4, .ref a5, .ref a6, .int (nI P), .int pa, .int kn, .ref a7, .int (nI rn), .ref a8, .ref a9, .int (nI ln), .ref a10, .int th, .ref a11, .ref a12, .int wt, .ref a13, .ref a14, .ref a15])), (a1, .inl (cI, 12, .inl im)), (a2, .inl (cI, 14, .inl ne)), (a3, .inl (cI, 14, .inl ei)), (a4, .inl (cI, 14, .inl gi)), (a5, .inl (cI, 14, .inl sk)), (a6, .inl (cI, 14, .inl pg)), (a11, .inl (cI, 4096, .inl co)), (a12, .inl (cI, 4096, .inl st))] s.heap.size) s.heap H locs → ∀ ls : Array Slot, lv_has ls 9 [(0, .ref z), (1, .int wi), (2, .int bu), (3, .int (nI v)), (4, .int 0), (5, .int (nI s_))] → W p l e ({ frames := 3, cells := 0, slots := 0, locals := 68 }) s m args below meth c H locs 0 0 (MQ below (kQ D [(z, .inr (9, [.ref a0, .ref a1, .int (nI T), .ref a2, .ref a3, .ref a4, .ref a5, .ref a6, .int (nI P), .int pa, .int kn, .ref a7, .int (nI rn), .ref a8, .ref a9, .int (nI ln), .ref a10, .int th, .ref a11, .ref a12, .int wt, .ref a13, .ref a14, .ref a15])), (a1, .inl (cI, 12, .inl im)), (a2, .inl (cI, 14, .inl ne)), (a3, .inl (cI, 14, .inl ei)), (a4, .inl (cI, 14, .inl gi)), (a5, .inl (cI, 14, .inl sk)), (a6, .inl (cI, 14, .inl pg)), (a11, .inl (cI, 4096, .inl co)), (a12, .inl (cI, 4096, .inl st))] s.heap.size (fun rv_ rw_ => rv_ = none ∧ rw_ = [(z, .inr (9, [.ref a0, .ref a1, .int (nI T), .ref a2, .ref a3, .ref a4, .ref a5, .ref a6, .int (nI P), .int pa, .int kn, .ref a7, .int (nI rn), .ref a8, .ref a9, .int (nI ln), .ref a10, .int th, .ref a11, .ref a12, .int bu, .ref a13, .ref a14, .ref a15])), (a1, .inl (cI, 12, .inl im)), (a2, .inl (cI, 14, .inl ne)), (a3, .inl (cI, 14, .inl ei)), (a4, .inl (cI, 14, .inl gi)), (a5, .inl (cI, 14, .inl sk)), (a6, .inl (cI, 14, .inl pg)), (a11, .inl (cI, 4096, .inl ((fwF ne ei im gi sk pg co st T P pa bu wi (2 ^ T)).1))), (a12, .inl (cI, 4096, .inl ((fwF ne ei im gi sk pg co st T P pa bu wi (2 ^ T)).2)))])) args s 0 0 (va_A [(z, .inr (9, [.ref a0, .ref a1, .int (nI T), .ref a2, .ref a3, .ref a4, .ref a5, .ref a6, .int (nI P), .int pa, .int kn, .ref a7, .int (nI rn), .ref a8, .ref a9, .int (nI ln), .ref a10, .int th, .ref a11, .ref a12, .int wt, .ref a13, .ref a14, .ref a15])), (a1, .inl (cI, 12, .inl im)), (a2, .inl (cI, 14, .inl ne)), (a3, .inl (cI, 14, .inl ei)), (a4, .inl (cI, 14, .inl gi)), (a5, .inl (cI, 14, .inl sk)), (a6, .inl (cI, 14, .inl pg)), (a11, .inl (cI, 4096, .inl co)), (a12, .inl (cI, 4096, .inl st))] s.heap.size)) (F0 m 60 ls []) := by
              intro fu
              induction fu with
              | zero => intro s_ x2 y2 hmu; exact absurd hmu (Nat.not_lt_zero _)
              | succ fu ih_60 =>
                intro s_ x2 y2 hmu_60 hs ex2 ey2 H locs hP hD hS ls hl
                refine lv_iload hx hb dX8_findWays_60 (lv_at hl 5 rfl) ?_
                refine lv_iconst (v := 2) hx hb dX8_findWays_62 (by decide) ?_
                refine lv_aload_n hx hb dX8_findWays_63 rfl (lv_at hl 0 rfl) ?_
                refine va_get (D := D) (ci := 9) (v := .int (nI P)) (C := RX8) (T := TX8) (N := 24) hx hb hts hi_X8 hown hK.1 hP 0 rfl rfl 8 (by decide) hw_f73 (fun _ h9 => h9) rfl dX8_findWays_64 ?_
                refine lv_imul hx hb dX8_findWays_67 ?_
                refine lv_topi (fun nv_3 ev_3 => ?_)
                obtain rfl : nv_3 = nI (2 * P) := ev_3.trans (pk_mul 2 P)
                refine lv_icmp_ge (tgt := 191) hx hb dX8_findWays_68 (by decide) (fun c_68 => ?_) (fun c_68 => ?_)
                · skip
                  have nc_68 : (2 * P) ≤ s_ := (nI_leI (a := 2 * P) (b := s_) (by omega) (by omega)).mp c_68
                  have c_end : s_ = 2 * P := by omega
                  refine lv_iinc (v := nI (2 ^ T - (k + 1)) - 1) (lv' := [(3, .int (nI (2 ^ T - (k + 1)) - 1)), (0, .ref z), (1, .int wi), (2, .int bu), (4, .int 0), (5, .int (nI s_))]) hx hb dX8_findWays_191 hl (k := 3) rfl (by rw [ksub1, ev]; rw [show 2 ^ T - 1 - k = 2 ^ T - (k + 1) by omega]) (by decide) rfl (fun ls hl => ?_)
                  refine lv_goto (tgt := 14) hx hb dX8_findWays_194 (by decide) ?_
                  exact ih_14  (k + 1) x2 y2 (by omega) (by first | omega | assumption | exact Nat.zero_le _) (by first | (subst ex; subst ey; subst ev; simp [fwF, c_15, c_23, c_40, c_68, nc_68]; done) | (rw [ex2]; subst ex; subst ey; subst ev; rw [fwF, if_neg c_23, c_end])) (by first | (subst ex; subst ey; subst ev; simp [fwF, c_15, c_23, c_40, c_68, nc_68]; done) | (rw [ey2]; subst ex; subst ey; subst ev; rw [fwF, if_neg c_23, c_end])) _ _ hP hD hS _ (lv_sub hl [1, 2, 3, 0] rfl)
                · skip
                  have nc_68 : ¬ (2 * P) ≤ s_ := (not_congr (nI_leI (a := 2 * P) (b := s_) (by omega) (by omega))).mp c_68
                  refine lv_iload hx hb dX8_findWays_71 (lv_at hl 4 rfl) ?_
                  refine lv_if_ne (tgt := 191) hx hb dX8_findWays_73 (by decide) (fun c_73 => ?_) (fun c_73 => ?_)
                  · exact absurd (by decide) c_73
                  · skip
                    refine lv_aload_n hx hb dX8_findWays_76 rfl (lv_at hl 0 rfl) ?_
                    refine lv_iload hx hb dX8_findWays_77 (lv_at hl 5 rfl) ?_
                    refine lv_iload_n hx hb dX8_findWays_79 rfl (lv_at hl 3 rfl) ?_
                    refine kGoR (va_runV (As := [.int (nI s_), .int (nI v)]) (rest := []) ⟨hx, hb, hml, hown, hts⟩ (c_X8_newBehind l D cI cJ cZ cO z a0 a1 a2 a3 a4 a5 a6 a7 a8 a9 a10 a11 a12 a13 a14 a15 T P pa kn rn ln th bu ne ei im gi sk s_ (nI v) (by first | assumption | omega | decide) (by first | assumption | omega | decide)) (cwV 2 hts gX8_findWays_X8_newBehind rfl rfl rfl (by decide +kernel) ⟨Nat.le_of_ble_eq_true rfl, Nat.le_of_ble_eq_true rfl⟩) (kPreVR (ci := 9) (q0 := 0) hK (kPc_sub hP [0, 2, 3, 1, 4, 5] rfl) rfl rfl rfl) rfl rfl hl.1 rfl (lv_room (Nat.le_of_ble_eq_true rfl)) dX8_findWays_80 ⟨Nat.le_of_ble_eq_true rfl, Nat.le_of_ble_eq_true rfl⟩) (fun v_4 hv_4 => ?_)
                    obtain rfl := hv_4
                    refine W.eq (g2 := F0 m 83 ls [.int (nbF ne ei im gi sk T bu s_ (nI v))]) rfl ?_
                    refine lv_istore (lv' := [(6, .int (nbF ne ei im gi sk T bu s_ (nI v))), (0, .ref z), (1, .int wi), (2, .int bu), (3, .int (nI v)), (4, .int 0), (5, .int (nI s_))]) hx hb dX8_findWays_83 hl (by decide) rfl (fun ls hl => ?_)
                    refine lv_iload hx hb dX8_findWays_85 (lv_at hl 0 rfl) ?_
                    refine lv_iconst (v := (-1)) hx hb dX8_findWays_87 (by decide) ?_
                    refine lv_icmp_eq (tgt := 185) hx hb dX8_findWays_88 (by decide) (fun c_88 => ?_) (fun c_88 => ?_)
                    · skip
                      refine lv_iinc (v := nI (s_ + 1)) (lv' := [(5, .int (nI (s_ + 1))), (6, .int (nbF ne ei im gi sk T bu s_ (nI v))), (0, .ref z), (1, .int wi), (2, .int bu), (3, .int (nI v)), (4, .int 0)]) hx hb dX8_findWays_185 hl (k := 6) rfl (nI_1 _) (by decide) rfl (fun ls hl => ?_)
                      refine lv_goto (tgt := 60) hx hb dX8_findWays_188 (by decide) ?_
                      exact ih_60  (s_ + 1) x2 y2 (by omega) (by first | omega | assumption | exact Nat.zero_le _) (by subst ex2; subst ey2; simp [rlxF, relF, c_15, c_23, c_40, c_68, nc_68, c_73, c_88]) (by subst ex2; subst ey2; simp [rlxF, relF, c_15, c_23, c_40, c_68, nc_68, c_73, c_88]) _ _ hP hD hS _ (lv_sub hl [2, 3, 4, 5, 6, 0] rfl)
                    · skip
                      refine lv_aload_n hx hb dX8_findWays_91 rfl (lv_at hl 1 rfl) ?_
                      refine va_get (D := D) (ci := 9) (v := .ref a11) (C := RX8) (T := TX8) (N := 24) hx hb hts hi_X8 hown hK.1 hP 0 rfl rfl 18 (by decide) hw_f47 (fun _ h9 => h9) rfl dX8_findWays_92 ?_
                      refine lv_iload hx hb dX8_findWays_95 (lv_at hl 0 rfl) ?_
                      refine va_iald hx hb hK.1 hP 7 0 rfl rfl ((hB s_ (by omega) v (by omega)).resolve_left c_88) dX8_findWays_97 ?_
                      refine lv_ldc (v := 268435456) hx hb hown (hts (.constant RX8 110 268435456) (by decide +kernel)) dX8_findWays_98 ?_
                      refine lv_icmp_ne (tgt := 106) hx hb dX8_findWays_100 (by decide) (fun c_100 => ?_) (fun c_100 => ?_)
                      · skip
                        refine lv_aload_n hx hb dX8_findWays_106 rfl (lv_at hl 1 rfl) ?_
                        refine lv_iload hx hb dX8_findWays_107 (lv_at hl 6 rfl) ?_
                        refine kGoR (va_runV (As := [.int (nI s_)]) (rest := []) ⟨hx, hb, hml, hown, hts⟩ (c_X8_time l D cI cJ cZ cO z a0 a1 a2 a3 a4 a5 a6 a7 a8 a9 a10 a11 a12 a13 a14 a15 T P pa kn rn ln th bu pg s_ (by first | assumption | omega | decide)) (cwV 1 hts gX8_findWays_X8_time rfl rfl rfl (by decide +kernel) ⟨Nat.le_of_ble_eq_true rfl, Nat.le_of_ble_eq_true rfl⟩) (kPreVR (ci := 9) (q0 := 0) hK (kPc_sub hP [0, 6] rfl) rfl rfl rfl) rfl rfl hl.1 rfl (lv_room (Nat.le_of_ble_eq_true rfl)) dX8_findWays_109 ⟨Nat.le_of_ble_eq_true rfl, Nat.le_of_ble_eq_true rfl⟩) (fun v_5 hv_5 => ?_)
                        obtain rfl := hv_5
                        refine W.eq (g2 := F0 m 112 ls [.int (mtimeF pg pa s_)]) rfl ?_
                        refine lv_aload_n hx hb dX8_findWays_112 rfl (lv_at hl 1 rfl) ?_
                        refine va_get (D := D) (ci := 9) (v := .ref a11) (C := RX8) (T := TX8) (N := 24) hx hb hts hi_X8 hown hK.1 hP 0 rfl rfl 18 (by decide) hw_f47 (fun _ h9 => h9) rfl dX8_findWays_113 ?_
                        refine lv_iload hx hb dX8_findWays_116 (lv_at hl 0 rfl) ?_
                        refine va_iald hx hb hK.1 hP 7 0 rfl rfl ((hB s_ (by omega) v (by omega)).resolve_left c_88) dX8_findWays_118 ?_
                        refine lv_iadd hx hb dX8_findWays_119 ?_
                        refine lv_istore (lv' := [(7, .int ((mtimeF pg pa s_) + (x2 (nbF ne ei im gi sk T bu s_ (nI v)).toNatClampNeg))), (6, .int (nbF ne ei im gi sk T bu s_ (nI v))), (0, .ref z), (1, .int wi), (2, .int bu), (3, .int (nI v)), (4, .int 0), (5, .int (nI s_))]) hx hb dX8_findWays_120 hl (by decide) rfl (fun ls hl => ?_)
                        refine lv_iconst (v := 1) hx hb dX8_findWays_122 (by decide) ?_
                        refine lv_aload_n hx hb dX8_findWays_123 rfl (lv_at hl 2 rfl) ?_
                        refine va_get (D := D) (ci := 9) (v := .ref a12) (C := RX8) (T := TX8) (N := 24) hx hb hts hi_X8 hown hK.1 hP 0 rfl rfl 19 (by decide) hw_f50 (fun _ h9 => h9) rfl dX8_findWays_124 ?_
                        refine lv_iload hx hb dX8_findWays_127 (lv_at hl 1 rfl) ?_
                        refine va_iald hx hb hK.1 hP 8 0 rfl rfl ((hB s_ (by omega) v (by omega)).resolve_left c_88) dX8_findWays_129 ?_
                        refine lv_iadd hx hb dX8_findWays_130 ?_
                        refine lv_istore (lv' := [(8, .int (1 + (y2 (nbF ne ei im gi sk T bu s_ (nI v)).toNatClampNeg))), (7, .int ((mtimeF pg pa s_) + (x2 (nbF ne ei im gi sk T bu s_ (nI v)).toNatClampNeg))), (6, .int (nbF ne ei im gi sk T bu s_ (nI v))), (0, .ref z), (1, .int wi), (2, .int bu), (3, .int (nI v)), (4, .int 0), (5, .int (nI s_))]) hx hb dX8_findWays_131 hl (by decide) rfl (fun ls hl => ?_)
                        refine lv_iload hx hb dX8_findWays_133 (lv_at hl 1 rfl) ?_
                        refine lv_aload_n hx hb dX8_findWays_135 rfl (lv_at hl 3 rfl) ?_
                        refine va_get (D := D) (ci := 9) (v := .ref a11) (C := RX8) (T := TX8) (N := 24) hx hb hts hi_X8 hown hK.1 hP 0 rfl rfl 18 (by decide) hw_f47 (fun _ h9 => h9) rfl dX8_findWays_136 ?_
                        refine lv_iload_n hx hb dX8_findWays_139 rfl (lv_at hl 6 rfl) ?_
                        refine va_iald hx hb hK.1 hP 7 0 rfl rfl (vp_in_nI (by omega) (by omega)) dX8_findWays_140 ?_
                        refine lv_topi (fun nv_6 ev_6 => ?_)
                        obtain rfl : nv_6 = x2 v := by rw [ev_6, nI_clamp (by omega)]
                        refine lv_icmp_gt (tgt := 185) hx hb dX8_findWays_141 (by decide) (fun c_141 => ?_) (fun c_141 => ?_)
                        · skip
                          refine lv_iinc (v := nI (s_ + 1)) (lv' := [(5, .int (nI (s_ + 1))), (8, .int (1 + (y2 (nbF ne ei im gi sk T bu s_ (nI v)).toNatClampNeg))), (7, .int ((mtimeF pg pa s_) + (x2 (nbF ne ei im gi sk T bu s_ (nI v)).toNatClampNeg))), (6, .int (nbF ne ei im gi sk T bu s_ (nI v))), (0, .ref z), (1, .int wi), (2, .int bu), (3, .int (nI v)), (4, .int 0)]) hx hb dX8_findWays_185 hl (k := 8) rfl (nI_1 _) (by decide) rfl (fun ls hl => ?_)
                          refine lv_goto (tgt := 60) hx hb dX8_findWays_188 (by decide) ?_
                          exact ih_60  (s_ + 1) x2 y2 (by omega) (by first | omega | assumption | exact Nat.zero_le _) (by subst ex2; subst ey2; simp [rlxF, relF, c_15, c_23, c_40, c_68, nc_68, c_73, c_88, c_100, c_141]) (by subst ex2; subst ey2; simp [rlxF, relF, c_15, c_23, c_40, c_68, nc_68, c_73, c_88, c_100, c_141]) _ _ hP hD hS _ (lv_sub hl [4, 5, 6, 7, 8, 0] rfl)
                        · skip
                          refine lv_iload hx hb dX8_findWays_144 (lv_at hl 1 rfl) ?_
                          refine lv_aload_n hx hb dX8_findWays_146 rfl (lv_at hl 3 rfl) ?_
                          refine va_get (D := D) (ci := 9) (v := .ref a11) (C := RX8) (T := TX8) (N := 24) hx hb hts hi_X8 hown hK.1 hP 0 rfl rfl 18 (by decide) hw_f47 (fun _ h9 => h9) rfl dX8_findWays_147 ?_
                          refine lv_iload_n hx hb dX8_findWays_150 rfl (lv_at hl 6 rfl) ?_
                          refine va_iald hx hb hK.1 hP 7 0 rfl rfl (vp_in_nI (by omega) (by omega)) dX8_findWays_151 ?_
                          refine lv_topi (fun nv_7 ev_7 => ?_)
                          obtain rfl : nv_7 = x2 v := by rw [ev_7, nI_clamp (by omega)]
                          refine lv_icmp_ne (tgt := 169) hx hb dX8_findWays_152 (by decide) (fun c_152 => ?_) (fun c_152 => ?_)
                          · skip
                            refine lv_aload_n hx hb dX8_findWays_169 rfl (lv_at hl 3 rfl) ?_
                            refine va_get (D := D) (ci := 9) (v := .ref a11) (C := RX8) (T := TX8) (N := 24) hx hb hts hi_X8 hown hK.1 hP 0 rfl rfl 18 (by decide) hw_f47 (fun _ h9 => h9) rfl dX8_findWays_170 ?_
                            refine lv_iload_n hx hb dX8_findWays_173 rfl (lv_at hl 6 rfl) ?_
                            refine lv_iload hx hb dX8_findWays_174 (lv_at hl 1 rfl) ?_
                            refine va_iast hx hb hK.1 hP hD hS 7 0 rfl rfl (vp_in_nI (by omega) (by omega)) dX8_findWays_176 (fun H locs hP hD hS => ?_)
                            rw [nI_clamp (by omega)] at hP hD
                            have hP : va_P D vwCl [(z, .inr (9, [.ref a0, .ref a1, .int (nI T), .ref a2, .ref a3, .ref a4, .ref a5, .ref a6, .int (nI P), .int pa, .int kn, .ref a7, .int (nI rn), .ref a8, .ref a9, .int (nI ln), .ref a10, .int th, .ref a11, .ref a12, .int bu, .ref a13, .ref a14, .ref a15])), (a1, .inl (cI, 12, .inl im)), (a2, .inl (cI, 14, .inl ne)), (a3, .inl (cI, 14, .inl ei)), (a4, .inl (cI, 14, .inl gi)), (a5, .inl (cI, 14, .inl sk)), (a6, .inl (cI, 14, .inl pg)), (a11, .inl (cI, 4096, .inl (upd x2 v ((mtimeF pg pa s_) + (x2 (nbF ne ei im gi sk T bu s_ (nI v)).toNatClampNeg))))), (a12, .inl (cI, 4096, .inl y2))] H := hP
                            have hD : va_D _ [(z, .inr (9, [.ref a0, .ref a1, .int (nI T), .ref a2, .ref a3, .ref a4, .ref a5, .ref a6, .int (nI P), .int pa, .int kn, .ref a7, .int (nI rn), .ref a8, .ref a9, .int (nI ln), .ref a10, .int th, .ref a11, .ref a12, .int bu, .ref a13, .ref a14, .ref a15])), (a1, .inl (cI, 12, .inl im)), (a2, .inl (cI, 14, .inl ne)), (a3, .inl (cI, 14, .inl ei)), (a4, .inl (cI, 14, .inl gi)), (a5, .inl (cI, 14, .inl sk)), (a6, .inl (cI, 14, .inl pg)), (a11, .inl (cI, 4096, .inl (upd x2 v ((mtimeF pg pa s_) + (x2 (nbF ne ei im gi sk T bu s_ (nI v)).toNatClampNeg))))), (a12, .inl (cI, 4096, .inl y2))] := hD
                            refine lv_aload_n hx hb dX8_findWays_177 rfl (lv_at hl 3 rfl) ?_
                            refine va_get (D := D) (ci := 9) (v := .ref a12) (C := RX8) (T := TX8) (N := 24) hx hb hts hi_X8 hown hK.1 hP 0 rfl rfl 19 (by decide) hw_f50 (fun _ h9 => h9) rfl dX8_findWays_178 ?_
                            refine lv_iload_n hx hb dX8_findWays_181 rfl (lv_at hl 6 rfl) ?_
                            refine lv_iload hx hb dX8_findWays_182 (lv_at hl 0 rfl) ?_
                            refine va_iast hx hb hK.1 hP hD hS 8 0 rfl rfl (vp_in_nI (by omega) (by omega)) dX8_findWays_184 (fun H locs hP hD hS => ?_)
                            rw [nI_clamp (by omega)] at hP hD
                            have hP : va_P D vwCl [(z, .inr (9, [.ref a0, .ref a1, .int (nI T), .ref a2, .ref a3, .ref a4, .ref a5, .ref a6, .int (nI P), .int pa, .int kn, .ref a7, .int (nI rn), .ref a8, .ref a9, .int (nI ln), .ref a10, .int th, .ref a11, .ref a12, .int bu, .ref a13, .ref a14, .ref a15])), (a1, .inl (cI, 12, .inl im)), (a2, .inl (cI, 14, .inl ne)), (a3, .inl (cI, 14, .inl ei)), (a4, .inl (cI, 14, .inl gi)), (a5, .inl (cI, 14, .inl sk)), (a6, .inl (cI, 14, .inl pg)), (a11, .inl (cI, 4096, .inl (upd x2 v ((mtimeF pg pa s_) + (x2 (nbF ne ei im gi sk T bu s_ (nI v)).toNatClampNeg))))), (a12, .inl (cI, 4096, .inl (upd y2 v (1 + (y2 (nbF ne ei im gi sk T bu s_ (nI v)).toNatClampNeg)))))] H := hP
                            have hD : va_D _ [(z, .inr (9, [.ref a0, .ref a1, .int (nI T), .ref a2, .ref a3, .ref a4, .ref a5, .ref a6, .int (nI P), .int pa, .int kn, .ref a7, .int (nI rn), .ref a8, .ref a9, .int (nI ln), .ref a10, .int th, .ref a11, .ref a12, .int bu, .ref a13, .ref a14, .ref a15])), (a1, .inl (cI, 12, .inl im)), (a2, .inl (cI, 14, .inl ne)), (a3, .inl (cI, 14, .inl ei)), (a4, .inl (cI, 14, .inl gi)), (a5, .inl (cI, 14, .inl sk)), (a6, .inl (cI, 14, .inl pg)), (a11, .inl (cI, 4096, .inl (upd x2 v ((mtimeF pg pa s_) + (x2 (nbF ne ei im gi sk T bu s_ (nI v)).toNatClampNeg))))), (a12, .inl (cI, 4096, .inl (upd y2 v (1 + (y2 (nbF ne ei im gi sk T bu s_ (nI v)).toNatClampNeg)))))] := hD
                            refine lv_iinc (v := nI (s_ + 1)) (lv' := [(5, .int (nI (s_ + 1))), (8, .int (1 + (y2 (nbF ne ei im gi sk T bu s_ (nI v)).toNatClampNeg))), (7, .int ((mtimeF pg pa s_) + (x2 (nbF ne ei im gi sk T bu s_ (nI v)).toNatClampNeg))), (6, .int (nbF ne ei im gi sk T bu s_ (nI v))), (0, .ref z), (1, .int wi), (2, .int bu), (3, .int (nI v)), (4, .int 0)]) hx hb dX8_findWays_185 hl (k := 8) rfl (nI_1 _) (by decide) rfl (fun ls hl => ?_)
                            refine lv_goto (tgt := 60) hx hb dX8_findWays_188 (by decide) ?_
                            exact ih_60  (s_ + 1) (upd x2 v ((mtimeF pg pa s_) + (x2 (nbF ne ei im gi sk T bu s_ (nI v)).toNatClampNeg))) (upd y2 v (1 + (y2 (nbF ne ei im gi sk T bu s_ (nI v)).toNatClampNeg))) (by omega) (by first | omega | assumption | exact Nat.zero_le _) (by subst ex2; subst ey2; simp [rlxF, relF, c_15, c_23, c_40, c_68, nc_68, c_73, c_88, c_100, c_141, c_152]) (by subst ex2; subst ey2; simp [rlxF, relF, c_15, c_23, c_40, c_68, nc_68, c_73, c_88, c_100, c_141, c_152]) _ _ hP hD hS _ (lv_sub hl [4, 5, 6, 7, 8, 0] rfl)
                          · skip
                            refine lv_iload hx hb dX8_findWays_155 (lv_at hl 0 rfl) ?_
                            refine lv_aload_n hx hb dX8_findWays_157 rfl (lv_at hl 3 rfl) ?_
                            refine va_get (D := D) (ci := 9) (v := .ref a12) (C := RX8) (T := TX8) (N := 24) hx hb hts hi_X8 hown hK.1 hP 0 rfl rfl 19 (by decide) hw_f50 (fun _ h9 => h9) rfl dX8_findWays_158 ?_
                            refine lv_iload_n hx hb dX8_findWays_161 rfl (lv_at hl 6 rfl) ?_
                            refine va_iald hx hb hK.1 hP 8 0 rfl rfl (vp_in_nI (by omega) (by omega)) dX8_findWays_162 ?_
                            refine lv_topi (fun nv_8 ev_8 => ?_)
                            obtain rfl : nv_8 = y2 v := by rw [ev_8, nI_clamp (by omega)]
                            refine lv_icmp_lt (tgt := 169) hx hb dX8_findWays_163 (by decide) (fun c_163 => ?_) (fun c_163 => ?_)
                            · skip
                              refine lv_aload_n hx hb dX8_findWays_169 rfl (lv_at hl 3 rfl) ?_
                              refine va_get (D := D) (ci := 9) (v := .ref a11) (C := RX8) (T := TX8) (N := 24) hx hb hts hi_X8 hown hK.1 hP 0 rfl rfl 18 (by decide) hw_f47 (fun _ h9 => h9) rfl dX8_findWays_170 ?_
                              refine lv_iload_n hx hb dX8_findWays_173 rfl (lv_at hl 6 rfl) ?_
                              refine lv_iload hx hb dX8_findWays_174 (lv_at hl 1 rfl) ?_
                              refine va_iast hx hb hK.1 hP hD hS 7 0 rfl rfl (vp_in_nI (by omega) (by omega)) dX8_findWays_176 (fun H locs hP hD hS => ?_)
                              rw [nI_clamp (by omega)] at hP hD
                              have hP : va_P D vwCl [(z, .inr (9, [.ref a0, .ref a1, .int (nI T), .ref a2, .ref a3, .ref a4, .ref a5, .ref a6, .int (nI P), .int pa, .int kn, .ref a7, .int (nI rn), .ref a8, .ref a9, .int (nI ln), .ref a10, .int th, .ref a11, .ref a12, .int bu, .ref a13, .ref a14, .ref a15])), (a1, .inl (cI, 12, .inl im)), (a2, .inl (cI, 14, .inl ne)), (a3, .inl (cI, 14, .inl ei)), (a4, .inl (cI, 14, .inl gi)), (a5, .inl (cI, 14, .inl sk)), (a6, .inl (cI, 14, .inl pg)), (a11, .inl (cI, 4096, .inl (upd x2 v ((mtimeF pg pa s_) + (x2 (nbF ne ei im gi sk T bu s_ (nI v)).toNatClampNeg))))), (a12, .inl (cI, 4096, .inl y2))] H := hP
                              have hD : va_D _ [(z, .inr (9, [.ref a0, .ref a1, .int (nI T), .ref a2, .ref a3, .ref a4, .ref a5, .ref a6, .int (nI P), .int pa, .int kn, .ref a7, .int (nI rn), .ref a8, .ref a9, .int (nI ln), .ref a10, .int th, .ref a11, .ref a12, .int bu, .ref a13, .ref a14, .ref a15])), (a1, .inl (cI, 12, .inl im)), (a2, .inl (cI, 14, .inl ne)), (a3, .inl (cI, 14, .inl ei)), (a4, .inl (cI, 14, .inl gi)), (a5, .inl (cI, 14, .inl sk)), (a6, .inl (cI, 14, .inl pg)), (a11, .inl (cI, 4096, .inl (upd x2 v ((mtimeF pg pa s_) + (x2 (nbF ne ei im gi sk T bu s_ (nI v)).toNatClampNeg))))), (a12, .inl (cI, 4096, .inl y2))] := hD
                              refine lv_aload_n hx hb dX8_findWays_177 rfl (lv_at hl 3 rfl) ?_
                              refine va_get (D := D) (ci := 9) (v := .ref a12) (C := RX8) (T := TX8) (N := 24) hx hb hts hi_X8 hown hK.1 hP 0 rfl rfl 19 (by decide) hw_f50 (fun _ h9 => h9) rfl dX8_findWays_178 ?_
                              refine lv_iload_n hx hb dX8_findWays_181 rfl (lv_at hl 6 rfl) ?_
                              refine lv_iload hx hb dX8_findWays_182 (lv_at hl 0 rfl) ?_
                              refine va_iast hx hb hK.1 hP hD hS 8 0 rfl rfl (vp_in_nI (by omega) (by omega)) dX8_findWays_184 (fun H locs hP hD hS => ?_)
                              rw [nI_clamp (by omega)] at hP hD
                              have hP : va_P D vwCl [(z, .inr (9, [.ref a0, .ref a1, .int (nI T), .ref a2, .ref a3, .ref a4, .ref a5, .ref a6, .int (nI P), .int pa, .int kn, .ref a7, .int (nI rn), .ref a8, .ref a9, .int (nI ln), .ref a10, .int th, .ref a11, .ref a12, .int bu, .ref a13, .ref a14, .ref a15])), (a1, .inl (cI, 12, .inl im)), (a2, .inl (cI, 14, .inl ne)), (a3, .inl (cI, 14, .inl ei)), (a4, .inl (cI, 14, .inl gi)), (a5, .inl (cI, 14, .inl sk)), (a6, .inl (cI, 14, .inl pg)), (a11, .inl (cI, 4096, .inl (upd x2 v ((mtimeF pg pa s_) + (x2 (nbF ne ei im gi sk T bu s_ (nI v)).toNatClampNeg))))), (a12, .inl (cI, 4096, .inl (upd y2 v (1 + (y2 (nbF ne ei im gi sk T bu s_ (nI v)).toNatClampNeg)))))] H := hP
                              have hD : va_D _ [(z, .inr (9, [.ref a0, .ref a1, .int (nI T), .ref a2, .ref a3, .ref a4, .ref a5, .ref a6, .int (nI P), .int pa, .int kn, .ref a7, .int (nI rn), .ref a8, .ref a9, .int (nI ln), .ref a10, .int th, .ref a11, .ref a12, .int bu, .ref a13, .ref a14, .ref a15])), (a1, .inl (cI, 12, .inl im)), (a2, .inl (cI, 14, .inl ne)), (a3, .inl (cI, 14, .inl ei)), (a4, .inl (cI, 14, .inl gi)), (a5, .inl (cI, 14, .inl sk)), (a6, .inl (cI, 14, .inl pg)), (a11, .inl (cI, 4096, .inl (upd x2 v ((mtimeF pg pa s_) + (x2 (nbF ne ei im gi sk T bu s_ (nI v)).toNatClampNeg))))), (a12, .inl (cI, 4096, .inl (upd y2 v (1 + (y2 (nbF ne ei im gi sk T bu s_ (nI v)).toNatClampNeg)))))] := hD
                              refine lv_iinc (v := nI (s_ + 1)) (lv' := [(5, .int (nI (s_ + 1))), (8, .int (1 + (y2 (nbF ne ei im gi sk T bu s_ (nI v)).toNatClampNeg))), (7, .int ((mtimeF pg pa s_) + (x2 (nbF ne ei im gi sk T bu s_ (nI v)).toNatClampNeg))), (6, .int (nbF ne ei im gi sk T bu s_ (nI v))), (0, .ref z), (1, .int wi), (2, .int bu), (3, .int (nI v)), (4, .int 0)]) hx hb dX8_findWays_185 hl (k := 8) rfl (nI_1 _) (by decide) rfl (fun ls hl => ?_)
                              refine lv_goto (tgt := 60) hx hb dX8_findWays_188 (by decide) ?_
                              exact ih_60  (s_ + 1) (upd x2 v ((mtimeF pg pa s_) + (x2 (nbF ne ei im gi sk T bu s_ (nI v)).toNatClampNeg))) (upd y2 v (1 + (y2 (nbF ne ei im gi sk T bu s_ (nI v)).toNatClampNeg))) (by omega) (by first | omega | assumption | exact Nat.zero_le _) (by subst ex2; subst ey2; simp [rlxF, relF, c_15, c_23, c_40, c_68, nc_68, c_73, c_88, c_100, c_141, c_152, c_163]) (by subst ex2; subst ey2; simp [rlxF, relF, c_15, c_23, c_40, c_68, nc_68, c_73, c_88, c_100, c_141, c_152, c_163]) _ _ hP hD hS _ (lv_sub hl [4, 5, 6, 7, 8, 0] rfl)
                            · skip
                              refine lv_goto (tgt := 185) hx hb dX8_findWays_166 (by decide) ?_
                              refine lv_iinc (v := nI (s_ + 1)) (lv' := [(5, .int (nI (s_ + 1))), (8, .int (1 + (y2 (nbF ne ei im gi sk T bu s_ (nI v)).toNatClampNeg))), (7, .int ((mtimeF pg pa s_) + (x2 (nbF ne ei im gi sk T bu s_ (nI v)).toNatClampNeg))), (6, .int (nbF ne ei im gi sk T bu s_ (nI v))), (0, .ref z), (1, .int wi), (2, .int bu), (3, .int (nI v)), (4, .int 0)]) hx hb dX8_findWays_185 hl (k := 8) rfl (nI_1 _) (by decide) rfl (fun ls hl => ?_)
                              refine lv_goto (tgt := 60) hx hb dX8_findWays_188 (by decide) ?_
                              exact ih_60  (s_ + 1) x2 y2 (by omega) (by first | omega | assumption | exact Nat.zero_le _) (by subst ex2; subst ey2; simp [rlxF, relF, c_15, c_23, c_40, c_68, nc_68, c_73, c_88, c_100, c_141, c_152, c_163]) (by subst ex2; subst ey2; simp [rlxF, relF, c_15, c_23, c_40, c_68, nc_68, c_73, c_88, c_100, c_141, c_152, c_163]) _ _ hP hD hS _ (lv_sub hl [4, 5, 6, 7, 8, 0] rfl)
                      · skip
                        refine lv_goto (tgt := 185) hx hb dX8_findWays_103 (by decide) ?_
                        refine lv_iinc (v := nI (s_ + 1)) (lv' := [(5, .int (nI (s_ + 1))), (6, .int (nbF ne ei im gi sk T bu s_ (nI v))), (0, .ref z), (1, .int wi), (2, .int bu), (3, .int (nI v)), (4, .int 0)]) hx hb dX8_findWays_185 hl (k := 6) rfl (nI_1 _) (by decide) rfl (fun ls hl => ?_)
                        refine lv_goto (tgt := 60) hx hb dX8_findWays_188 (by decide) ?_
                        exact ih_60  (s_ + 1) x2 y2 (by omega) (by first | omega | assumption | exact Nat.zero_le _) (by subst ex2; subst ey2; simp [rlxF, relF, c_15, c_23, c_40, c_68, nc_68, c_73, c_88, c_100]) (by subst ex2; subst ey2; simp [rlxF, relF, c_15, c_23, c_40, c_68, nc_68, c_73, c_88, c_100]) _ _ hP hD hS _ (lv_sub hl [2, 3, 4, 5, 6, 0] rfl)
            exact hloop_60 ((2 * P - 0) + 1) 0 (upd x v 268435456) (upd y v 0) (Nat.lt_succ_self _) (by first | omega | assumption | exact Nat.zero_le _) (by rfl) (by rfl) _ _ hP hD hS _ (lv_sub hl [2, 3, 4, 5, 1, 0] rfl)
          · exact absurd (by decide) c_40
        · skip
          refine lv_iconst (v := 1) hx hb dX8_findWays_26 (by decide) ?_
          refine lv_goto (tgt := 31) hx hb dX8_findWays_27 (by decide) ?_
          refine lv_istore (lv' := [(4, .int 1), (0, .ref z), (1, .int wi), (2, .int bu), (3, .int (nI v))]) hx hb dX8_findWays_31 hl (by decide) rfl (fun ls hl => ?_)
          refine lv_aload_n hx hb dX8_findWays_33 rfl (lv_at hl 1 rfl) ?_
          refine va_get (D := D) (ci := 9) (v := .ref a11) (C := RX8) (T := TX8) (N := 24) hx hb hts hi_X8 hown hK.1 hP 0 rfl rfl 18 (by decide) hw_f47 (fun _ h9 => h9) rfl dX8_findWays_34 ?_
          refine lv_iload_n hx hb dX8_findWays_37 rfl (lv_at hl 4 rfl) ?_
          refine lv_iload hx hb dX8_findWays_38 (lv_at hl 0 rfl) ?_
          refine lv_if_eq (tgt := 47) hx hb dX8_findWays_40 (by decide) (fun c_40 => ?_) (fun c_40 => ?_)
          · exact absurd c_40 (by decide)
          · skip
            refine lv_iconst (v := 0) hx hb dX8_findWays_43 (by decide) ?_
            refine lv_goto (tgt := 49) hx hb dX8_findWays_44 (by decide) ?_
            refine va_iast hx hb hK.1 hP hD hS 7 0 rfl rfl (vp_in_nI (by omega) (by omega)) dX8_findWays_49 (fun H locs hP hD hS => ?_)
            rw [nI_clamp (by omega)] at hP hD
            have hP : va_P D vwCl [(z, .inr (9, [.ref a0, .ref a1, .int (nI T), .ref a2, .ref a3, .ref a4, .ref a5, .ref a6, .int (nI P), .int pa, .int kn, .ref a7, .int (nI rn), .ref a8, .ref a9, .int (nI ln), .ref a10, .int th, .ref a11, .ref a12, .int bu, .ref a13, .ref a14, .ref a15])), (a1, .inl (cI, 12, .inl im)), (a2, .inl (cI, 14, .inl ne)), (a3, .inl (cI, 14, .inl ei)), (a4, .inl (cI, 14, .inl gi)), (a5, .inl (cI, 14, .inl sk)), (a6, .inl (cI, 14, .inl pg)), (a11, .inl (cI, 4096, .inl (upd x v 0))), (a12, .inl (cI, 4096, .inl y))] H := hP
            have hD : va_D _ [(z, .inr (9, [.ref a0, .ref a1, .int (nI T), .ref a2, .ref a3, .ref a4, .ref a5, .ref a6, .int (nI P), .int pa, .int kn, .ref a7, .int (nI rn), .ref a8, .ref a9, .int (nI ln), .ref a10, .int th, .ref a11, .ref a12, .int bu, .ref a13, .ref a14, .ref a15])), (a1, .inl (cI, 12, .inl im)), (a2, .inl (cI, 14, .inl ne)), (a3, .inl (cI, 14, .inl ei)), (a4, .inl (cI, 14, .inl gi)), (a5, .inl (cI, 14, .inl sk)), (a6, .inl (cI, 14, .inl pg)), (a11, .inl (cI, 4096, .inl (upd x v 0))), (a12, .inl (cI, 4096, .inl y))] := hD
            refine lv_aload_n hx hb dX8_findWays_50 rfl (lv_at hl 1 rfl) ?_
            refine va_get (D := D) (ci := 9) (v := .ref a12) (C := RX8) (T := TX8) (N := 24) hx hb hts hi_X8 hown hK.1 hP 0 rfl rfl 19 (by decide) hw_f50 (fun _ h9 => h9) rfl dX8_findWays_51 ?_
            refine lv_iload_n hx hb dX8_findWays_54 rfl (lv_at hl 4 rfl) ?_
            refine lv_iconst (v := 0) hx hb dX8_findWays_55 (by decide) ?_
            refine va_iast hx hb hK.1 hP hD hS 8 0 rfl rfl (vp_in_nI (by omega) (by omega)) dX8_findWays_56 (fun H locs hP hD hS => ?_)
            rw [nI_clamp (by omega)] at hP hD
            have hP : va_P D vwCl [(z, .inr (9, [.ref a0, .ref a1, .int (nI T), .ref a2, .ref a3, .ref a4, .ref a5, .ref a6, .int (nI P), .int pa, .int kn, .ref a7, .int (nI rn), .ref a8, .ref a9, .int (nI ln), .ref a10, .int th, .ref a11, .ref a12, .int bu, .ref a13, .ref a14, .ref a15])), (a1, .inl (cI, 12, .inl im)), (a2, .inl (cI, 14, .inl ne)), (a3, .inl (cI, 14, .inl ei)), (a4, .inl (cI, 14, .inl gi)), (a5, .inl (cI, 14, .inl sk)), (a6, .inl (cI, 14, .inl pg)), (a11, .inl (cI, 4096, .inl (upd x v 0))), (a12, .inl (cI, 4096, .inl (upd y v 0)))] H := hP
            have hD : va_D _ [(z, .inr (9, [.ref a0, .ref a1, .int (nI T), .ref a2, .ref a3, .ref a4, .ref a5, .ref a6, .int (nI P), .int pa, .int kn, .ref a7, .int (nI rn), .ref a8, .ref a9, .int (nI ln), .ref a10, .int th, .ref a11, .ref a12, .int bu, .ref a13, .ref a14, .ref a15])), (a1, .inl (cI, 12, .inl im)), (a2, .inl (cI, 14, .inl ne)), (a3, .inl (cI, 14, .inl ei)), (a4, .inl (cI, 14, .inl gi)), (a5, .inl (cI, 14, .inl sk)), (a6, .inl (cI, 14, .inl pg)), (a11, .inl (cI, 4096, .inl (upd x v 0))), (a12, .inl (cI, 4096, .inl (upd y v 0)))] := hD
            refine lv_iconst (v := 0) hx hb dX8_findWays_57 (by decide) ?_
            refine lv_istore (lv' := [(5, .int 0), (4, .int 1), (0, .ref z), (1, .int wi), (2, .int bu), (3, .int (nI v))]) hx hb dX8_findWays_58 hl (by decide) rfl (fun ls hl => ?_)
            refine lv_iload hx hb dX8_findWays_60 (lv_at hl 0 rfl) ?_
            refine lv_iconst (v := 2) hx hb dX8_findWays_62 (by decide) ?_
            refine lv_aload_n hx hb dX8_findWays_63 rfl (lv_at hl 2 rfl) ?_
            refine va_get (D := D) (ci := 9) (v := .int (nI P)) (C := RX8) (T := TX8) (N := 24) hx hb hts hi_X8 hown hK.1 hP 0 rfl rfl 8 (by decide) hw_f73 (fun _ h9 => h9) rfl dX8_findWays_64 ?_
            refine lv_imul hx hb dX8_findWays_67 ?_
            refine lv_topi (fun nv_9 ev_9 => ?_)
            obtain rfl : nv_9 = nI (2 * P) := ev_9.trans (pk_mul 2 P)
            refine lv_icmp_ge (tgt := 191) hx hb dX8_findWays_68 (by decide) (fun c_68 => ?_) (fun c_68 => ?_)
            · skip
              have nc_68 : (2 * P) ≤ 0 := (nI_leI (a := 2 * P) (b := 0) (by omega) (by omega)).mp c_68
              refine lv_iinc (v := nI (2 ^ T - (k + 1)) - 1) (lv' := [(3, .int (nI (2 ^ T - (k + 1)) - 1)), (5, .int 0), (4, .int 1), (0, .ref z), (1, .int wi), (2, .int bu)]) hx hb dX8_findWays_191 hl (k := 5) rfl (by rw [ksub1, ev]; rw [show 2 ^ T - 1 - k = 2 ^ T - (k + 1) by omega]) (by decide) rfl (fun ls hl => ?_)
              refine lv_goto (tgt := 14) hx hb dX8_findWays_194 (by decide) ?_
              exact ih_14  (k + 1) (upd x v 0) (upd y v 0) (by omega) (by first | omega | assumption | exact Nat.zero_le _) (by first | (subst ex; subst ey; subst ev; simp [fwF, c_15, c_23, c_40, c_68, nc_68]; done) | (rw [ex2]; subst ex; subst ey; subst ev; rw [fwF, if_neg c_23, c_end])) (by first | (subst ex; subst ey; subst ev; simp [fwF, c_15, c_23, c_40, c_68, nc_68]; done) | (rw [ey2]; subst ex; subst ey; subst ev; rw [fwF, if_neg c_23, c_end])) _ _ hP hD hS _ (lv_sub hl [3, 4, 5, 0] rfl)
            · skip
              have nc_68 : ¬ (2 * P) ≤ 0 := (not_congr (nI_leI (a := 2 * P) (b := 0) (by omega) (by omega))).mp c_68
              refine lv_iload hx hb dX8_findWays_71 (lv_at hl 1 rfl) ?_
              refine lv_if_ne (tgt := 191) hx hb dX8_findWays_73 (by decide) (fun c_73 => ?_) (fun c_73 => ?_)
              · skip
                refine lv_iinc (v := nI (2 ^ T - (k + 1)) - 1) (lv' := [(3, .int (nI (2 ^ T - (k + 1)) - 1)), (5, .int 0), (4, .int 1), (0, .ref z), (1, .int wi), (2, .int bu)]) hx hb dX8_findWays_191 hl (k := 5) rfl (by rw [ksub1, ev]; rw [show 2 ^ T - 1 - k = 2 ^ T - (k + 1) by omega]) (by decide) rfl (fun ls hl => ?_)
                refine lv_goto (tgt := 14) hx hb dX8_findWays_194 (by decide) ?_
                exact ih_14  (k + 1) (upd x v 0) (upd y v 0) (by omega) (by first | omega | assumption | exact Nat.zero_le _) (by first | (subst ex; subst ey; subst ev; simp [fwF, c_15, c_23, c_40, c_68, nc_68, c_73]; done) | (rw [ex2]; subst ex; subst ey; subst ev; rw [fwF, if_neg c_23, c_end])) (by first | (subst ex; subst ey; subst ev; simp [fwF, c_15, c_23, c_40, c_68, nc_68, c_73]; done) | (rw [ey2]; subst ex; subst ey; subst ev; rw [fwF, if_neg c_23, c_end])) _ _ hP hD hS _ (lv_sub hl [3, 4, 5, 0] rfl)
              · exact absurd c_73 (by decide)
  exact hloop_14 ((2 ^ T - 0) + 1) 0 co st (Nat.lt_succ_self _) (by exact Nat.zero_le _) (by rfl) (by rfl) _ _ hP hD hS _ (lv_sub hl [1, 2, 3, 0] rfl)

set_option maxHeartbeats 4000000 in
set_option maxRecDepth 100000 in
theorem c_X8_way (l : Launch) (D : va_G) (cI cJ cZ cO : ClassId) (z : Nat) (a0 : Nat) (a1 : Nat) (a2 : Nat) (a3 : Nat) (a4 : Nat) (a5 : Nat) (a6 : Nat) (a7 : Nat) (a8 : Nat) (a9 : Nat) (a10 : Nat) (a11 : Nat) (a12 : Nat) (a13 : Nat) (a14 : Nat) (a15 : Nat) (T : Nat) (P : Nat) (pa : Int32) (rn : Nat) (ln : Nat) (th : Int32) (wt : Int32) (K : Nat) (im : Nat → Int32) (ne : Nat → Int32) (ei : Nat → Int32) (gi : Nat → Int32) (sk : Nat → Int32) (pg : Nat → Int32) (ro : Nat → Int32) (co : Nat → Int32) (st : Nat → Int32) (wi : Int32) (sN : Nat → Nat) (hT : T ≤ 12) (hP14 : P ≤ 14) (hK2 : K < 2 ^ T) (hB : hBp ne ei im gi sk T P (-1)) (hTP : trP ne ei im gi sk pg T P pa (-1) (fwF ne ei im gi sk pg co st T P pa (-1) wi (2 ^ T)) sN) : kC l D (kTY cI cJ cZ cO) yX8_way wsX8_way 4 96 0 0 [.ref z, .int wi] [(z, .inr (9, [.ref a0, .ref a1, .int (nI T), .ref a2, .ref a3, .ref a4, .ref a5, .ref a6, .int (nI P), .int pa, .int (nI K), .ref a7, .int (nI rn), .ref a8, .ref a9, .int (nI ln), .ref a10, .int th, .ref a11, .ref a12, .int wt, .ref a13, .ref a14, .ref a15])), (a1, .inl (cI, 12, .inl im)), (a2, .inl (cI, 14, .inl ne)), (a3, .inl (cI, 14, .inl ei)), (a4, .inl (cI, 14, .inl gi)), (a5, .inl (cI, 14, .inl sk)), (a6, .inl (cI, 14, .inl pg)), (a7, .inl (cI, 12, .inl ro)), (a11, .inl (cI, 4096, .inl co)), (a12, .inl (cI, 4096, .inl st))] (fun rv_ rw_ => rv_ = some (.int (if areB T wi then (if ((fwF ne ei im gi sk pg co st T P pa (-1) wi (2 ^ T))).1 K = 268435456 then -1 else ((fwF ne ei im gi sk pg co st T P pa (-1) wi (2 ^ T))).1 K) else -1)) ∧ rw_ = [(z, .inr (9, [.ref a0, .ref a1, .int (nI T), .ref a2, .ref a3, .ref a4, .ref a5, .ref a6, .int (nI P), .int pa, .int (nI K), .ref a7, .int (nI (if areB T wi then (if ((fwF ne ei im gi sk pg co st T P pa (-1) wi (2 ^ T))).1 K = 268435456 then rn else sN K) else rn)), .ref a8, .ref a9, .int (nI ln), .ref a10, .int 0, .ref a11, .ref a12, .int (if areB T wi then (-1) else wt), .ref a13, .ref a14, .ref a15])), (a1, .inl (cI, 12, .inl im)), (a2, .inl (cI, 14, .inl ne)), (a3, .inl (cI, 14, .inl ei)), (a4, .inl (cI, 14, .inl gi)), (a5, .inl (cI, 14, .inl sk)), (a6, .inl (cI, 14, .inl pg)), (a7, .inl (cI, 12, .inl (if areB T wi then (if ((fwF ne ei im gi sk pg co st T P pa (-1) wi (2 ^ T))).1 K = 268435456 then ro else trR ne ei im gi sk pg T P pa (-1) (fwF ne ei im gi sk pg co st T P pa (-1) wi (2 ^ T)) K ro (sN K)) else ro))), (a11, .inl (cI, 4096, .inl (if areB T wi then (fwF ne ei im gi sk pg co st T P pa (-1) wi (2 ^ T)).1 else co))), (a12, .inl (cI, 4096, .inl (if areB T wi then (fwF ne ei im gi sk pg co st T P pa (-1) wi (2 ^ T)).2 else st)))]) := by
  refine kEnter (cc := cX8_way) (maxL := 6) (ret := (some .int)) (by decide) rfl (Nat.le_of_ble_eq_true rfl) ?_
  intro p e s m args below meth c hx hb hr hml hts hown hlk hnm hK hP hD hS hA ls hl
  have hl : lv_has ls 6 [(0, .ref z), (1, .int wi)] := hl
  have hw_f63 := hts (.fieldLink RX8 63 "WhatToReadModel" "thrown" "I") (by decide +kernel)
  have hi_X8 : ∀ w ∈ wsX80, w ∈ wsX8_way := by decide +kernel
  have hw_f47 := hts (.fieldLink RX8 47 "WhatToReadModel" "cost" "[I") (by decide +kernel)
  have hw_f84 := hts (.fieldLink RX8 84 "WhatToReadModel" "known" "I") (by decide +kernel)
  have hw_f50 := hts (.fieldLink RX8 50 "WhatToReadModel" "steps" "[I") (by decide +kernel)
  have hw_f90 := hts (.fieldLink RX8 90 "WhatToReadModel" "rowMany" "I") (by decide +kernel)
  have hw_f35 := hts (.fieldLink RX8 35 "WhatToReadModel" "row" "[I") (by decide +kernel)
  refine lv_aload_n hx hb dX8_way_0 rfl (lv_at hl 0 rfl) ?_
  refine lv_iconst (v := 0) hx hb dX8_way_1 (by decide) ?_
  refine va_put (D := D) (ci := 9) (v := .int 0) (ty := .int) (C := RX8) (T := TX8) (N := 24) hx hb hts hi_X8 tyX8 tyX8_ok nmX8 hown hK.1 hP hD hS 0 rfl rfl 17 (by decide) hw_f63 (fun _ h9 => h9) rfl (by decide +kernel) rfl rfl (Nat.le_of_ble_eq_true rfl) dX8_way_2 (fun H locs hP hD hS => ?_)
  have hP : va_P D vwCl [(z, .inr (9, [.ref a0, .ref a1, .int (nI T), .ref a2, .ref a3, .ref a4, .ref a5, .ref a6, .int (nI P), .int pa, .int (nI K), .ref a7, .int (nI rn), .ref a8, .ref a9, .int (nI ln), .ref a10, .int 0, .ref a11, .ref a12, .int wt, .ref a13, .ref a14, .ref a15])), (a1, .inl (cI, 12, .inl im)), (a2, .inl (cI, 14, .inl ne)), (a3, .inl (cI, 14, .inl ei)), (a4, .inl (cI, 14, .inl gi)), (a5, .inl (cI, 14, .inl sk)), (a6, .inl (cI, 14, .inl pg)), (a7, .inl (cI, 12, .inl ro)), (a11, .inl (cI, 4096, .inl co)), (a12, .inl (cI, 4096, .inl st))] H := hP
  have hD : va_D _ [(z, .inr (9, [.ref a0, .ref a1, .int (nI T), .ref a2, .ref a3, .ref a4, .ref a5, .ref a6, .int (nI P), .int pa, .int (nI K), .ref a7, .int (nI rn), .ref a8, .ref a9, .int (nI ln), .ref a10, .int 0, .ref a11, .ref a12, .int wt, .ref a13, .ref a14, .ref a15])), (a1, .inl (cI, 12, .inl im)), (a2, .inl (cI, 14, .inl ne)), (a3, .inl (cI, 14, .inl ei)), (a4, .inl (cI, 14, .inl gi)), (a5, .inl (cI, 14, .inl sk)), (a6, .inl (cI, 14, .inl pg)), (a7, .inl (cI, 12, .inl ro)), (a11, .inl (cI, 4096, .inl co)), (a12, .inl (cI, 4096, .inl st))] := hD
  refine lv_aload_n hx hb dX8_way_5 rfl (lv_at hl 0 rfl) ?_
  refine lv_iload_n hx hb dX8_way_6 rfl (lv_at hl 1 rfl) ?_
  refine kGoR (va_runV (As := [.int wi]) (rest := []) ⟨hx, hb, hml, hown, hts⟩ (c_X8_areBits l D cI cJ cZ cO z a0 a1 a2 a3 a4 a5 a6 a7 a8 a9 a10 a11 a12 a13 a14 a15 T P pa (nI K) rn ln 0 wt wi ) (cwV 1 hts gX8_way_X8_areBits rfl rfl rfl (by decide +kernel) ⟨Nat.le_of_ble_eq_true rfl, Nat.le_of_ble_eq_true rfl⟩) (kPreVR (ci := 9) (q0 := 0) hK (kPc_sub hP [0] rfl) rfl rfl rfl) rfl rfl hl.1 rfl (lv_room (Nat.le_of_ble_eq_true rfl)) dX8_way_7 ⟨Nat.le_of_ble_eq_true rfl, Nat.le_of_ble_eq_true rfl⟩) (fun v_1 hv_1 => ?_)
  obtain rfl := hv_1
  refine W.eq (g2 := F0 m 10 ls [.int (k01 (areB T wi))]) rfl ?_
  refine lv_if_ne (tgt := 15) hx hb dX8_way_10 (by decide) (fun c_10 => ?_) (fun c_10 => ?_)
  · skip
    have c_10 := k01_n c_10
    refine lv_aload_n hx hb dX8_way_15 rfl (lv_at hl 0 rfl) ?_
    refine lv_iload_n hx hb dX8_way_16 rfl (lv_at hl 1 rfl) ?_
    refine lv_iconst (v := (-1)) hx hb dX8_way_17 (by decide) ?_
    refine kGo (wc := [(z, .inr (9, [.ref a0, .ref a1, .int (nI T), .ref a2, .ref a3, .ref a4, .ref a5, .ref a6, .int (nI P), .int pa, .int (nI K), .ref a7, .int (nI rn), .ref a8, .ref a9, .int (nI ln), .ref a10, .int 0, .ref a11, .ref a12, .int wt, .ref a13, .ref a14, .ref a15])), (a1, .inl (cI, 12, .inl im)), (a2, .inl (cI, 14, .inl ne)), (a3, .inl (cI, 14, .inl ei)), (a4, .inl (cI, 14, .inl gi)), (a5, .inl (cI, 14, .inl sk)), (a6, .inl (cI, 14, .inl pg)), (a11, .inl (cI, 4096, .inl co)), (a12, .inl (cI, 4096, .inl st))]) (wr := [(a7, .inl (cI, 12, .inl ro))]) (va_runV (As := [.int wi, .int (-1)]) (rest := []) ⟨hx, hb, hml, hown, hts⟩ (c_X8_findWays l D cI cJ cZ cO z a0 a1 a2 a3 a4 a5 a6 a7 a8 a9 a10 a11 a12 a13 a14 a15 T P pa (nI K) rn ln 0 wt im ne ei gi sk pg co st wi (-1) (by first | assumption | omega | decide) (by first | assumption | omega | decide) (by first | assumption | omega | decide) _) (cwV 2 hts gX8_way_X8_findWays rfl rfl rfl (by decide +kernel) ⟨Nat.le_of_ble_eq_true rfl, Nat.le_of_ble_eq_true rfl⟩) (kPreV (ci := 9) (q0 := 0) hK (kPc_sub hP [0, 1, 2, 3, 4, 5, 6, 8, 9] rfl) ((hD.sub [0, 1, 2, 3, 4, 5, 6, 8, 9] (by decide) rfl).weaken (fun _ _ _ _ => trivial)) rfl rfl rfl) rfl rfl hl.1 rfl (lv_room (Nat.le_of_ble_eq_true rfl)) dX8_way_18 ⟨Nat.le_of_ble_eq_true rfl, Nat.le_of_ble_eq_true rfl⟩) hP hD hS hA [0, 1, 2, 3, 4, 5, 6, 8, 9] [7] rfl rfl (by decide) (by decide) (fun v_2 w_2 H locs hv_2 hP hD hS => ?_)
    obtain ⟨rfl, rfl⟩ := hv_2
    have hP : va_P D vwCl [(z, .inr (9, [.ref a0, .ref a1, .int (nI T), .ref a2, .ref a3, .ref a4, .ref a5, .ref a6, .int (nI P), .int pa, .int (nI K), .ref a7, .int (nI rn), .ref a8, .ref a9, .int (nI ln), .ref a10, .int 0, .ref a11, .ref a12, .int (-1), .ref a13, .ref a14, .ref a15])), (a1, .inl (cI, 12, .inl im)), (a2, .inl (cI, 14, .inl ne)), (a3, .inl (cI, 14, .inl ei)), (a4, .inl (cI, 14, .inl gi)), (a5, .inl (cI, 14, .inl sk)), (a6, .inl (cI, 14, .inl pg)), (a7, .inl (cI, 12, .inl ro)), (a11, .inl (cI, 4096, .inl ((fwF ne ei im gi sk pg co st T P pa (-1) wi (2 ^ T)).1))), (a12, .inl (cI, 4096, .inl ((fwF ne ei im gi sk pg co st T P pa (-1) wi (2 ^ T)).2)))] H := hP.sub [1, 2, 3, 4, 5, 6, 7, 0, 8, 9] rfl
    have hD : va_D _ [(z, .inr (9, [.ref a0, .ref a1, .int (nI T), .ref a2, .ref a3, .ref a4, .ref a5, .ref a6, .int (nI P), .int pa, .int (nI K), .ref a7, .int (nI rn), .ref a8, .ref a9, .int (nI ln), .ref a10, .int 0, .ref a11, .ref a12, .int (-1), .ref a13, .ref a14, .ref a15])), (a1, .inl (cI, 12, .inl im)), (a2, .inl (cI, 14, .inl ne)), (a3, .inl (cI, 14, .inl ei)), (a4, .inl (cI, 14, .inl gi)), (a5, .inl (cI, 14, .inl sk)), (a6, .inl (cI, 14, .inl pg)), (a7, .inl (cI, 12, .inl ro)), (a11, .inl (cI, 4096, .inl ((fwF ne ei im gi sk pg co st T P pa (-1) wi (2 ^ T)).1))), (a12, .inl (cI, 4096, .inl ((fwF ne ei im gi sk pg co st T P pa (-1) wi (2 ^ T)).2)))] := hD.sub [1, 2, 3, 4, 5, 6, 7, 0, 8, 9] (by decide) rfl
    refine W.eq (g2 := F0 m 21 ls []) rfl ?_
    have hpw := kpow hT
    refine lv_aload_n hx hb dX8_way_21 rfl (lv_at hl 0 rfl) ?_
    refine va_get (D := D) (ci := 9) (v := .ref a11) (C := RX8) (T := TX8) (N := 24) hx hb hts hi_X8 hown hK.1 hP 0 rfl rfl 18 (by decide) hw_f47 (fun _ h9 => h9) rfl dX8_way_22 ?_
    refine lv_aload_n hx hb dX8_way_25 rfl (lv_at hl 0 rfl) ?_
    refine va_get (D := D) (ci := 9) (v := .int (nI K)) (C := RX8) (T := TX8) (N := 24) hx hb hts hi_X8 hown hK.1 hP 0 rfl rfl 10 (by decide) hw_f84 (fun _ h9 => h9) rfl dX8_way_26 ?_
    refine va_iald hx hb hK.1 hP 8 0 rfl rfl (vp_in_nI (by omega) (by omega)) dX8_way_29 ?_
    refine lv_topi (fun nv_3 ev_3 => ?_)
    obtain rfl : nv_3 = ((fwF ne ei im gi sk pg co st T P pa (-1) wi (2 ^ T)).1) K := by rw [ev_3, nI_clamp (by omega)]
    refine lv_ldc (v := 268435456) hx hb hown (hts (.constant RX8 110 268435456) (by decide +kernel)) dX8_way_30 ?_
    refine lv_icmp_ne (tgt := 37) hx hb dX8_way_32 (by decide) (fun c_32 => ?_) (fun c_32 => ?_)
    · skip
      refine lv_iconst (v := 0) hx hb dX8_way_37 (by decide) ?_
      refine lv_istore_n (lv' := [(2, .int 0), (0, .ref z), (1, .int wi)]) hx hb dX8_way_38 rfl hl (by decide) rfl (fun ls hl => ?_)
      refine lv_aload_n hx hb dX8_way_39 rfl (lv_at hl 1 rfl) ?_
      refine va_get (D := D) (ci := 9) (v := .int (nI K)) (C := RX8) (T := TX8) (N := 24) hx hb hts hi_X8 hown hK.1 hP 0 rfl rfl 10 (by decide) hw_f84 (fun _ h9 => h9) rfl dX8_way_40 ?_
      refine lv_istore_n (lv' := [(3, .int (nI K)), (2, .int 0), (0, .ref z), (1, .int wi)]) hx hb dX8_way_43 rfl hl (by decide) rfl (fun ls hl => ?_)
      have hloop_44 : ∀ (fu : Nat) (n : Nat) (v : Nat) (x : Nat → Int32), sN v < fu → v < 2 ^ T → n + sN v = sN K → v = trV ne ei im gi sk pg T P pa (-1) (fwF ne ei im gi sk pg co st T P pa (-1) wi (2 ^ T)) K n → x = trR ne ei im gi sk pg T P pa (-1) (fwF ne ei im gi sk pg co st T P pa (-1) wi (2 ^ T)) K ro n → ∀ (H : Heap) (locs : List Loc), va_P D vwCl [(z, .inr (9, [.ref a0, .ref a1, .int (nI T), .ref a2, .ref a3, .ref a4, .ref a5, .ref a6, .int (nI P), .int pa, .int (nI K), .ref a7, .int (nI rn), .ref a8, .ref a9, .int (nI ln), .ref a10, .int 0, .ref a11, .ref a12, .int (-1), .ref a13, .ref a14, .ref a15])), (a1, .inl (cI, 12, .inl im)), (a2, .inl (cI, 14, .inl ne)), (a3, .inl (cI, 14, .inl ei)), (a4, .inl (cI, 14, .inl gi)), (a5, .inl (cI, 14, .inl sk)), (a6, .inl (cI, 14, .inl pg)), (a7, .inl (cI, 12, .inl x)), (a11, .inl (cI, 4096, .inl ((fwF ne ei im gi sk pg co st T P pa (-1) wi (2 ^ T)).1))), (a12, .inl (cI, 4096, .inl ((fwF ne ei im gi sk pg co st T P pa (-1) wi (2 ^ T)).2)))] H → va_D (va_A [(z, .inr (9, [.ref a0, .ref a1, .int (nI T), .ref a2, .ref a3, .ref a4, .ref a5, .ref a6, .int (nI P), .int pa, .int (nI K), .ref a7, .int (nI rn), .ref a8, .ref a9, .int (nI ln), .ref a10, .int th, .ref a11, .ref a12, .int wt, .ref a13, .ref a14, .ref a15])), (a1, .inl (cI, 12, .inl im)), (a2, .inl (cI, 14, .inl ne)), (a3, .inl (cI, 14, .inl ei)), (a4, .inl (cI, 14, .inl gi)), (a5, .inl (cI, 14, .inl sk)), (a6, .inl (cI, 14, .inl pg)), (a7, .inl (cI, 12, .inl ro)), (a11, .inl (cI, 4096, .inl co)), (a12, .inl (cI, 4096, .inl st))] s.heap.size) [(z, .inr (9, [.ref a0, .ref a1, .int (nI T), .ref a2, .ref a3, .ref a4, .ref a5, .ref a6, .int (nI P), .int pa, .int (nI K), .ref a7, .int (nI rn), .ref a8, .ref a9, .int (nI ln), .ref a10, .int 0, .ref a11, .ref a12, .int (-1), .ref a13, .ref a14, .ref a15])), (a1, .inl (cI, 12, .inl im)), (a2, .inl (cI, 14, .inl ne)), (a3, .inl (cI, 14, .inl ei)), (a4, .inl (cI, 14, .inl gi)), (a5, .inl (cI, 14, .inl sk)), (a6, .inl (cI, 14, .inl pg)), (a7, .inl (cI, 12, .inl x)), (a11, .inl (cI, 4096, .inl ((fwF ne ei im gi sk pg co st T P pa (-1) wi (2 ^ T)).1))), (a12, .inl (cI, 4096, .inl ((fwF ne ei im gi sk pg co st T P pa (-1) wi (2 ^ T)).2)))] → va_S (va_A [(z, .inr (9, [.ref a0, .ref a1, .int (nI T), .ref a2, .ref a3, .ref a4, .ref a5, .ref a6, .int (nI P), .int pa, .int (nI K), .ref a7, .int (nI rn), .ref a8, .ref a9, .int (nI ln), .ref a10, .int th, .ref a11, .ref a12, .int wt, .ref a13, .ref a14, .ref a15])), (a1, .inl (cI, 12, .inl im)), (a2, .inl (cI, 14, .inl ne)), (a3, .inl (cI, 14, .inl ei)), (a4, .inl (cI, 14, .inl gi)), (a5, .inl (cI, 14, .inl sk)), (a6, .inl (cI, 14, .inl pg)), (a7, .inl (cI, 12, .inl ro)), (a11, .inl (cI, 4096, .inl co)), (a12, .inl (cI, 4096, .inl st))] s.heap.size) s.heap H locs → ∀ ls : Array Slot, lv_has ls 6 [(0, .ref z), (1, .int wi), (2, .int (nI n)), (3, .int (nI v))] → W p l e ({ frames := 4, cells := 0, slots := 0, locals := 96 }) s m args below meth c H locs 0 0 (MQ below (kQ D [(z, .inr (9, [.ref a0, .ref a1, .int (nI T), .ref a2, .ref a3, .ref a4, .ref a5, .ref a6, .int (nI P), .int pa, .int (nI K), .ref a7, .int (nI rn), .ref a8, .ref a9, .int (nI ln), .ref a10, .int th, .ref a11, .ref a12, .int wt, .ref a13, .ref a14, .ref a15])), (a1, .inl (cI, 12, .inl im)), (a2, .inl (cI, 14, .inl ne)), (a3, .inl (cI, 14, .inl ei)), (a4, .inl (cI, 14, .inl gi)), (a5, .inl (cI, 14, .inl sk)), (a6, .inl (cI, 14, .inl pg)), (a7, .inl (cI, 12, .inl ro)), (a11, .inl (cI, 4096, .inl co)), (a12, .inl (cI, 4096, .inl st))] s.heap.size (fun rv_ rw_ => rv_ = some (.int (if areB T wi then (if ((fwF ne ei im gi sk pg co st T P pa (-1) wi (2 ^ T))).1 K = 268435456 then -1 else ((fwF ne ei im gi sk pg co st T P pa (-1) wi (2 ^ T))).1 K) else -1)) ∧ rw_ = [(z, .inr (9, [.ref a0, .ref a1, .int (nI T), .ref a2, .ref a3, .ref a4, .ref a5, .ref a6, .int (nI P), .int pa, .int (nI K), .ref a7, .int (nI (if areB T wi then (if ((fwF ne ei im gi sk pg co st T P pa (-1) wi (2 ^ T))).1 K = 268435456 then rn else sN K) else rn)), .ref a8, .ref a9, .int (nI ln), .ref a10, .int 0, .ref a11, .ref a12, .int (if areB T wi then (-1) else wt), .ref a13, .ref a14, .ref a15])), (a1, .inl (cI, 12, .inl im)), (a2, .inl (cI, 14, .inl ne)), (a3, .inl (cI, 14, .inl ei)), (a4, .inl (cI, 14, .inl gi)), (a5, .inl (cI, 14, .inl sk)), (a6, .inl (cI, 14, .inl pg)), (a7, .inl (cI, 12, .inl (if areB T wi then (if ((fwF ne ei im gi sk pg co st T P pa (-1) wi (2 ^ T))).1 K = 268435456 then ro else trR ne ei im gi sk pg T P pa (-1) (fwF ne ei im gi sk pg co st T P pa (-1) wi (2 ^ T)) K ro (sN K)) else ro))), (a11, .inl (cI, 4096, .inl (if areB T wi then (fwF ne ei im gi sk pg co st T P pa (-1) wi (2 ^ T)).1 else co))), (a12, .inl (cI, 4096, .inl (if areB T wi then (fwF ne ei im gi sk pg co st T P pa (-1) wi (2 ^ T)).2 else st)))])) args s 0 0 (va_A [(z, .inr (9, [.ref a0, .ref a1, .int (nI T), .ref a2, .ref a3, .ref a4, .ref a5, .ref a6, .int (nI P), .int pa, .int (nI K), .ref a7, .int (nI rn), .ref a8, .ref a9, .int (nI ln), .ref a10, .int th, .ref a11, .ref a12, .int wt, .ref a13, .ref a14, .ref a15])), (a1, .inl (cI, 12, .inl im)), (a2, .inl (cI, 14, .inl ne)), (a3, .inl (cI, 14, .inl ei)), (a4, .inl (cI, 14, .inl gi)), (a5, .inl (cI, 14, .inl sk)), (a6, .inl (cI, 14, .inl pg)), (a7, .inl (cI, 12, .inl ro)), (a11, .inl (cI, 4096, .inl co)), (a12, .inl (cI, 4096, .inl st))] s.heap.size)) (F0 m 44 ls []) := by
        intro fu
        induction fu with
        | zero => intro n v x hmu; exact absurd hmu (Nat.not_lt_zero _)
        | succ fu ih_44 =>
          intro n v x hmu_44 hv hn ev ex H locs hP hD hS ls hl
          have hpw := kpow hT
          have hs12 := (hTP v hv).2.1
          have hs13 := (hTP K hK2).2.1
          refine lv_aload_n hx hb dX8_way_44 rfl (lv_at hl 0 rfl) ?_
          refine va_get (D := D) (ci := 9) (v := .ref a12) (C := RX8) (T := TX8) (N := 24) hx hb hts hi_X8 hown hK.1 hP 0 rfl rfl 19 (by decide) hw_f50 (fun _ h9 => h9) rfl dX8_way_45 ?_
          refine lv_iload_n hx hb dX8_way_48 rfl (lv_at hl 3 rfl) ?_
          refine va_iald hx hb hK.1 hP 9 0 rfl rfl (vp_in_nI (by omega) (by omega)) dX8_way_49 ?_
          refine lv_topi (fun nv_4 ev_4 => ?_)
          obtain rfl : nv_4 = ((fwF ne ei im gi sk pg co st T P pa (-1) wi (2 ^ T)).2) v := by rw [ev_4, nI_clamp (by omega)]
          refine lv_topi (fun nv_5 ev_5 => ?_)
          obtain rfl : nv_5 = nI (sN v) := ev_5.trans ((hTP v hv).1)
          refine lv_if_le (tgt := 155) hx hb dX8_way_50 (by decide) (fun c_50 => ?_) (fun c_50 => ?_)
          · skip
            have nc_50 : (sN v) ≤ 0 := (nI_leI (a := sN v) (b := 0) (by omega) (by omega)).mp c_50
            have e12 : n = sN K := by omega
            refine lv_aload_n hx hb dX8_way_155 rfl (lv_at hl 0 rfl) ?_
            refine lv_iload_n hx hb dX8_way_156 rfl (lv_at hl 2 rfl) ?_
            refine va_put (D := D) (ci := 9) (v := .int (nI n)) (ty := .int) (C := RX8) (T := TX8) (N := 24) hx hb hts hi_X8 tyX8 tyX8_ok nmX8 hown hK.1 hP hD hS 0 rfl rfl 12 (by decide) hw_f90 (fun _ h9 => h9) rfl (by decide +kernel) rfl rfl (Nat.le_of_ble_eq_true rfl) dX8_way_157 (fun H locs hP hD hS => ?_)
            have hP : va_P D vwCl [(z, .inr (9, [.ref a0, .ref a1, .int (nI T), .ref a2, .ref a3, .ref a4, .ref a5, .ref a6, .int (nI P), .int pa, .int (nI K), .ref a7, .int (nI n), .ref a8, .ref a9, .int (nI ln), .ref a10, .int 0, .ref a11, .ref a12, .int (-1), .ref a13, .ref a14, .ref a15])), (a1, .inl (cI, 12, .inl im)), (a2, .inl (cI, 14, .inl ne)), (a3, .inl (cI, 14, .inl ei)), (a4, .inl (cI, 14, .inl gi)), (a5, .inl (cI, 14, .inl sk)), (a6, .inl (cI, 14, .inl pg)), (a7, .inl (cI, 12, .inl x)), (a11, .inl (cI, 4096, .inl ((fwF ne ei im gi sk pg co st T P pa (-1) wi (2 ^ T)).1))), (a12, .inl (cI, 4096, .inl ((fwF ne ei im gi sk pg co st T P pa (-1) wi (2 ^ T)).2)))] H := hP
            have hD : va_D _ [(z, .inr (9, [.ref a0, .ref a1, .int (nI T), .ref a2, .ref a3, .ref a4, .ref a5, .ref a6, .int (nI P), .int pa, .int (nI K), .ref a7, .int (nI n), .ref a8, .ref a9, .int (nI ln), .ref a10, .int 0, .ref a11, .ref a12, .int (-1), .ref a13, .ref a14, .ref a15])), (a1, .inl (cI, 12, .inl im)), (a2, .inl (cI, 14, .inl ne)), (a3, .inl (cI, 14, .inl ei)), (a4, .inl (cI, 14, .inl gi)), (a5, .inl (cI, 14, .inl sk)), (a6, .inl (cI, 14, .inl pg)), (a7, .inl (cI, 12, .inl x)), (a11, .inl (cI, 4096, .inl ((fwF ne ei im gi sk pg co st T P pa (-1) wi (2 ^ T)).1))), (a12, .inl (cI, 4096, .inl ((fwF ne ei im gi sk pg co st T P pa (-1) wi (2 ^ T)).2)))] := hD
            refine lv_aload_n hx hb dX8_way_160 rfl (lv_at hl 0 rfl) ?_
            refine va_get (D := D) (ci := 9) (v := .ref a11) (C := RX8) (T := TX8) (N := 24) hx hb hts hi_X8 hown hK.1 hP 0 rfl rfl 18 (by decide) hw_f47 (fun _ h9 => h9) rfl dX8_way_161 ?_
            refine lv_aload_n hx hb dX8_way_164 rfl (lv_at hl 0 rfl) ?_
            refine va_get (D := D) (ci := 9) (v := .int (nI K)) (C := RX8) (T := TX8) (N := 24) hx hb hts hi_X8 hown hK.1 hP 0 rfl rfl 10 (by decide) hw_f84 (fun _ h9 => h9) rfl dX8_way_165 ?_
            refine va_iald hx hb hK.1 hP 8 0 rfl rfl (vp_in_nI (by omega) (by omega)) dX8_way_168 ?_
            refine lv_topi (fun nv_6 ev_6 => ?_)
            obtain rfl : nv_6 = ((fwF ne ei im gi sk pg co st T P pa (-1) wi (2 ^ T)).1) K := by rw [ev_6, nI_clamp (by omega)]
            have ew_0 : (nI n : Int32) = nI (if areB T wi then (if ((fwF ne ei im gi sk pg co st T P pa (-1) wi (2 ^ T))).1 K = 268435456 then rn else sN K) else rn) := by first | (simp [c_10, c_32, c_50, nc_50]; done) | (rw [if_pos c_10, if_neg c_32, ex, e12]; done) | (rw [if_pos c_10, if_neg c_32, e12]; done)
            have ew_1 : ((-1) : Int32) = if areB T wi then (-1) else wt := by first | (simp [c_10, c_32, c_50, nc_50]; done) | (rw [if_pos c_10, if_neg c_32, ex, e12]; done) | (rw [if_pos c_10, if_neg c_32, e12]; done)
            have ew_2 : (x : Nat → Int32) = if areB T wi then (if ((fwF ne ei im gi sk pg co st T P pa (-1) wi (2 ^ T))).1 K = 268435456 then ro else trR ne ei im gi sk pg T P pa (-1) (fwF ne ei im gi sk pg co st T P pa (-1) wi (2 ^ T)) K ro (sN K)) else ro := by first | (simp [c_10, c_32, c_50, nc_50]; done) | (rw [if_pos c_10, if_neg c_32, ex, e12]; done) | (rw [if_pos c_10, if_neg c_32, e12]; done)
            have ew_3 : ((fwF ne ei im gi sk pg co st T P pa (-1) wi (2 ^ T)).1 : Nat → Int32) = if areB T wi then (fwF ne ei im gi sk pg co st T P pa (-1) wi (2 ^ T)).1 else co := by first | (simp [c_10, c_32, c_50, nc_50]; done) | (rw [if_pos c_10, if_neg c_32, ex, e12]; done) | (rw [if_pos c_10, if_neg c_32, e12]; done)
            have ew_4 : ((fwF ne ei im gi sk pg co st T P pa (-1) wi (2 ^ T)).2 : Nat → Int32) = if areB T wi then (fwF ne ei im gi sk pg co st T P pa (-1) wi (2 ^ T)).2 else st := by first | (simp [c_10, c_32, c_50, nc_50]; done) | (rw [if_pos c_10, if_neg c_32, ex, e12]; done) | (rw [if_pos c_10, if_neg c_32, e12]; done)
            exact kRetI hx hb hr hlk dX8_way_169 hP hD hS (Nat.le_of_ble_eq_true rfl) (Nat.le_of_ble_eq_true rfl) ⟨(kpi (by simp [c_10, c_32, c_50, nc_50])), (kw5 (fun (z_0 : Int32) (z_1 : Int32) (z_2 : Nat → Int32) (z_3 : Nat → Int32) (z_4 : Nat → Int32) => ([(z, .inr (9, [.ref a0, .ref a1, .int (nI T), .ref a2, .ref a3, .ref a4, .ref a5, .ref a6, .int (nI P), .int pa, .int (nI K), .ref a7, .int z_0, .ref a8, .ref a9, .int (nI ln), .ref a10, .int 0, .ref a11, .ref a12, .int z_1, .ref a13, .ref a14, .ref a15])), (a1, .inl (cI, 12, .inl im)), (a2, .inl (cI, 14, .inl ne)), (a3, .inl (cI, 14, .inl ei)), (a4, .inl (cI, 14, .inl gi)), (a5, .inl (cI, 14, .inl sk)), (a6, .inl (cI, 14, .inl pg)), (a7, .inl (cI, 12, .inl z_2)), (a11, .inl (cI, 4096, .inl z_3)), (a12, .inl (cI, 4096, .inl z_4))] : va_W)) ew_0 ew_1 ew_2 ew_3 ew_4)⟩
          · skip
            have nc_50 : ¬ (sN v) ≤ 0 := (not_congr (nI_leI (a := sN v) (b := 0) (by omega) (by omega))).mp c_50
            obtain ⟨⟨ke, hke, hwe⟩, hnx⟩ := (hTP v hv).2.2 (by omega)
            obtain ⟨k0, hw0, hmin⟩ := pk_least (fun k => wtB ne ei im gi sk pg T pa (-1) (fwF ne ei im gi sk pg co st T P pa (-1) wi (2 ^ T)) v k = true) ⟨ke, hwe⟩
            have hw0 : wtB ne ei im gi sk pg T pa (-1) (fwF ne ei im gi sk pg co st T P pa (-1) wi (2 ^ T)) v k0 = true := hw0
            have hmin : ∀ j, j < k0 → ¬ wtB ne ei im gi sk pg T pa (-1) (fwF ne ei im gi sk pg co st T P pa (-1) wi (2 ^ T)) v j = true := hmin
            have hk0 : k0 < 2 * P := by rcases Nat.lt_or_ge ke k0 with q | q; exact absurd hwe (hmin ke q); omega
            refine lv_iconst (v := 0) hx hb dX8_way_53 (by decide) ?_
            refine lv_istore (lv' := [(4, .int 0), (0, .ref z), (1, .int wi), (2, .int (nI n)), (3, .int (nI v))]) hx hb dX8_way_54 hl (by decide) rfl (fun ls hl => ?_)
            have hloop_56 : ∀ (fu : Nat) (k : Nat), k0 - k < fu → k ≤ k0 → ∀ (H : Heap) (locs : List Loc), va_P D vwCl [(z, .inr (9, [.ref a0, .ref a1, .int (nI T), .ref a2, .ref a3, .ref a4, .ref a5, .ref a6, .int (nI P), .int pa, .int (nI K), .ref a7, .int (nI rn), .ref a8, .ref a9, .int (nI ln), .ref a10, .int 0, .ref a11, .ref a12, .int (-1), .ref a13, .ref a14, .ref a15])), (a1, .inl (cI, 12, .inl im)), (a2, .inl (cI, 14, .inl ne)), (a3, .inl (cI, 14, .inl ei)), (a4, .inl (cI, 14, .inl gi)), (a5, .inl (cI, 14, .inl sk)), (a6, .inl (cI, 14, .inl pg)), (a7, .inl (cI, 12, .inl x)), (a11, .inl (cI, 4096, .inl ((fwF ne ei im gi sk pg co st T P pa (-1) wi (2 ^ T)).1))), (a12, .inl (cI, 4096, .inl ((fwF ne ei im gi sk pg co st T P pa (-1) wi (2 ^ T)).2)))] H → va_D (va_A [(z, .inr (9, [.ref a0, .ref a1, .int (nI T), .ref a2, .ref a3, .ref a4, .ref a5, .ref a6, .int (nI P), .int pa, .int (nI K), .ref a7, .int (nI rn), .ref a8, .ref a9, .int (nI ln), .ref a10, .int th, .ref a11, .ref a12, .int wt, .ref a13, .ref a14, .ref a15])), (a1, .inl (cI, 12, .inl im)), (a2, .inl (cI, 14, .inl ne)), (a3, .inl (cI, 14, .inl ei)), (a4, .inl (cI, 14, .inl gi)), (a5, .inl (cI, 14, .inl sk)), (a6, .inl (cI, 14, .inl pg)), (a7, .inl (cI, 12, .inl ro)), (a11, .inl (cI, 4096, .inl co)), (a12, .inl (cI, 4096, .inl st))] s.heap.size) [(z, .inr (9, [.ref a0, .ref a1, .int (nI T), .ref a2, .ref a3, .ref a4, .ref a5, .ref a6, .int (nI P), .int pa, .int (nI K), .ref a7, .int (nI rn), .ref a8, .ref a9, .int (nI ln), .ref a10, .int 0, .ref a11, .ref a12, .int (-1), .ref a13, .ref a14, .ref a15])), (a1, .inl (cI, 12, .inl im)), (a2, .inl (cI, 14, .inl ne)), (a3, .inl (cI, 14, .inl ei)), (a4, .inl (cI, 14, .inl gi)), (a5, .inl (cI, 14, .inl sk)), (a6, .inl (cI, 14, .inl pg)), (a7, .inl (cI, 12, .inl x)), (a11, .inl (cI, 4096, .inl ((fwF ne ei im gi sk pg co st T P pa (-1) wi (2 ^ T)).1))), (a12, .inl (cI, 4096, .inl ((fwF ne ei im gi sk pg co st T P pa (-1) wi (2 ^ T)).2)))] → va_S (va_A [(z, .inr (9, [.ref a0, .ref a1, .int (nI T), .ref a2, .ref a3, .ref a4, .ref a5, .ref a6, .int (nI P), .int pa, .int (nI K), .ref a7, .int (nI rn), .ref a8, .ref a9, .int (nI ln), .ref a10, .int th, .ref a11, .ref a12, .int wt, .ref a13, .ref a14, .ref a15])), (a1, .inl (cI, 12, .inl im)), (a2, .inl (cI, 14, .inl ne)), (a3, .inl (cI, 14, .inl ei)), (a4, .inl (cI, 14, .inl gi)), (a5, .inl (cI, 14, .inl sk)), (a6, .inl (cI, 14, .inl pg)), (a7, .inl (cI, 12, .inl ro)), (a11, .inl (cI, 4096, .inl co)), (a12, .inl (cI, 4096, .inl st))] s.heap.size) s.heap H locs → ∀ ls : Array Slot, lv_has ls 6 [(0, .ref z), (1, .int wi), (2, .int (nI n)), (3, .int (nI v)), (4, .int (nI k))] → W p l e ({ frames := 4, cells := 0, slots := 0, locals := 96 }) s m args below meth c H locs 0 0 (MQ below (kQ D [(z, .inr (9, [.ref a0, .ref a1, .int (nI T), .ref a2, .ref a3, .ref a4, .ref a5, .ref a6, .int (nI P), .int pa, .int (nI K), .ref a7, .int (nI rn), .ref a8, .ref a9, .int (nI ln), .ref a10, .int th, .ref a11, .ref a12, .int wt, .ref a13, .ref a14, .ref a15])), (a1, .inl (cI, 12, .inl im)), (a2, .inl (cI, 14, .inl ne)), (a3, .inl (cI, 14, .inl ei)), (a4, .inl (cI, 14, .inl gi)), (a5, .inl (cI, 14, .inl sk)), (a6, .inl (cI, 14, .inl pg)), (a7, .inl (cI, 12, .inl ro)), (a11, .inl (cI, 4096, .inl co)), (a12, .inl (cI, 4096, .inl st))] s.heap.size (fun rv_ rw_ => rv_ = some (.int (if areB T wi then (if ((fwF ne ei im gi sk pg co st T P pa (-1) wi (2 ^ T))).1 K = 268435456 then -1 else ((fwF ne ei im gi sk pg co st T P pa (-1) wi (2 ^ T))).1 K) else -1)) ∧ rw_ = [(z, .inr (9, [.ref a0, .ref a1, .int (nI T), .ref a2, .ref a3, .ref a4, .ref a5, .ref a6, .int (nI P), .int pa, .int (nI K), .ref a7, .int (nI (if areB T wi then (if ((fwF ne ei im gi sk pg co st T P pa (-1) wi (2 ^ T))).1 K = 268435456 then rn else sN K) else rn)), .ref a8, .ref a9, .int (nI ln), .ref a10, .int 0, .ref a11, .ref a12, .int (if areB T wi then (-1) else wt), .ref a13, .ref a14, .ref a15])), (a1, .inl (cI, 12, .inl im)), (a2, .inl (cI, 14, .inl ne)), (a3, .inl (cI, 14, .inl ei)), (a4, .inl (cI, 14, .inl gi)), (a5, .inl (cI, 14, .inl sk)), (a6, .inl (cI, 14, .inl pg)), (a7, .inl (cI, 12, .inl (if areB T wi then (if ((fwF ne ei im gi sk pg co st T P pa (-1) wi (2 ^ T))).1 K = 268435456 then ro else trR ne ei im gi sk pg T P pa (-1) (fwF ne ei im gi sk pg co st T P pa (-1) wi (2 ^ T)) K ro (sN K)) else ro))), (a11, .inl (cI, 4096, .inl (if areB T wi then (fwF ne ei im gi sk pg co st T P pa (-1) wi (2 ^ T)).1 else co))), (a12, .inl (cI, 4096, .inl (if areB T wi then (fwF ne ei im gi sk pg co st T P pa (-1) wi (2 ^ T)).2 else st)))])) args s 0 0 (va_A [(z, .inr (9, [.ref a0, .ref a1, .int (nI T), .ref a2, .ref a3, .ref a4, .ref a5, .ref a6, .int (nI P), .int pa, .int (nI K), .ref a7, .int (nI rn), .ref a8, .ref a9, .int (nI ln), .ref a10, .int th, .ref a11, .ref a12, .int wt, .ref a13, .ref a14, .ref a15])), (a1, .inl (cI, 12, .inl im)), (a2, .inl (cI, 14, .inl ne)), (a3, .inl (cI, 14, .inl ei)), (a4, .inl (cI, 14, .inl gi)), (a5, .inl (cI, 14, .inl sk)), (a6, .inl (cI, 14, .inl pg)), (a7, .inl (cI, 12, .inl ro)), (a11, .inl (cI, 4096, .inl co)), (a12, .inl (cI, 4096, .inl st))] s.heap.size)) (F0 m 56 ls []) := by
              intro fu
              induction fu with
              | zero => intro k hmu; exact absurd hmu (Nat.not_lt_zero _)
              | succ fu ih_56 =>
                intro k hmu_56 hk H locs hP hD hS ls hl
                refine lv_aload_n hx hb dX8_way_56 rfl (lv_at hl 0 rfl) ?_
                refine lv_iload hx hb dX8_way_57 (lv_at hl 4 rfl) ?_
                refine lv_iload_n hx hb dX8_way_59 rfl (lv_at hl 3 rfl) ?_
                refine kGoR (va_runV (As := [.int (nI k), .int (nI v)]) (rest := []) ⟨hx, hb, hml, hown, hts⟩ (c_X8_newBehind l D cI cJ cZ cO z a0 a1 a2 a3 a4 a5 a6 a7 a8 a9 a10 a11 a12 a13 a14 a15 T P pa (nI K) rn ln 0 (-1) ne ei im gi sk k (nI v) (by first | assumption | omega | decide) (by first | assumption | omega | decide)) (cwV 2 hts gX8_way_X8_newBehind rfl rfl rfl (by decide +kernel) ⟨Nat.le_of_ble_eq_true rfl, Nat.le_of_ble_eq_true rfl⟩) (kPreVR (ci := 9) (q0 := 0) hK (kPc_sub hP [0, 2, 3, 1, 4, 5] rfl) rfl rfl rfl) rfl rfl hl.1 rfl (lv_room (Nat.le_of_ble_eq_true rfl)) dX8_way_60 ⟨Nat.le_of_ble_eq_true rfl, Nat.le_of_ble_eq_true rfl⟩) (fun v_7 hv_7 => ?_)
                obtain rfl := hv_7
                refine W.eq (g2 := F0 m 63 ls [.int (nbF ne ei im gi sk T (-1) k (nI v))]) rfl ?_
                refine lv_istore (lv' := [(5, .int (nbF ne ei im gi sk T (-1) k (nI v))), (0, .ref z), (1, .int wi), (2, .int (nI n)), (3, .int (nI v)), (4, .int (nI k))]) hx hb dX8_way_63 hl (by decide) rfl (fun ls hl => ?_)
                refine lv_iload hx hb dX8_way_65 (lv_at hl 0 rfl) ?_
                refine lv_iconst (v := (-1)) hx hb dX8_way_67 (by decide) ?_
                refine lv_icmp_eq (tgt := 127) hx hb dX8_way_68 (by decide) (fun c_68 => ?_) (fun c_68 => ?_)
                · skip
                  refine lv_iinc (v := nI (k + 1)) (lv' := [(4, .int (nI (k + 1))), (5, .int (nbF ne ei im gi sk T (-1) k (nI v))), (0, .ref z), (1, .int wi), (2, .int (nI n)), (3, .int (nI v))]) hx hb dX8_way_127 hl (k := 5) rfl (nI_1 _) (by decide) rfl (fun ls hl => ?_)
                  refine lv_goto (tgt := 56) hx hb dX8_way_130 (by decide) ?_
                  have hne : ¬ k = k0 := by intro q; rw [← q] at hw0; simp [wtB, c_10, c_32, c_50, nc_50, c_68] at hw0
                  exact ih_56  (k + 1) (by omega) (by omega) _ _ hP hD hS _ (lv_sub hl [2, 3, 4, 5, 0] rfl)
                · skip
                  refine lv_aload_n hx hb dX8_way_71 rfl (lv_at hl 1 rfl) ?_
                  refine va_get (D := D) (ci := 9) (v := .ref a11) (C := RX8) (T := TX8) (N := 24) hx hb hts hi_X8 hown hK.1 hP 0 rfl rfl 18 (by decide) hw_f47 (fun _ h9 => h9) rfl dX8_way_72 ?_
                  refine lv_iload hx hb dX8_way_75 (lv_at hl 0 rfl) ?_
                  refine va_iald hx hb hK.1 hP 8 0 rfl rfl ((hB k (by omega) v hv).resolve_left c_68) dX8_way_77 ?_
                  refine lv_ldc (v := 268435456) hx hb hown (hts (.constant RX8 110 268435456) (by decide +kernel)) dX8_way_78 ?_
                  refine lv_icmp_ge (tgt := 127) hx hb dX8_way_80 (by decide) (fun c_80 => ?_) (fun c_80 => ?_)
                  · skip
                    refine lv_iinc (v := nI (k + 1)) (lv' := [(4, .int (nI (k + 1))), (5, .int (nbF ne ei im gi sk T (-1) k (nI v))), (0, .ref z), (1, .int wi), (2, .int (nI n)), (3, .int (nI v))]) hx hb dX8_way_127 hl (k := 5) rfl (nI_1 _) (by decide) rfl (fun ls hl => ?_)
                    refine lv_goto (tgt := 56) hx hb dX8_way_130 (by decide) ?_
                    have hne : ¬ k = k0 := by intro q; rw [← q] at hw0; simp [wtB, c_10, c_32, c_50, nc_50, c_68, c_80] at hw0
                    exact ih_56  (k + 1) (by omega) (by omega) _ _ hP hD hS _ (lv_sub hl [2, 3, 4, 5, 0] rfl)
                  · skip
                    refine lv_aload_n hx hb dX8_way_83 rfl (lv_at hl 1 rfl) ?_
                    refine lv_iload hx hb dX8_way_84 (lv_at hl 5 rfl) ?_
                    refine kGoR (va_runV (As := [.int (nI k)]) (rest := []) ⟨hx, hb, hml, hown, hts⟩ (c_X8_time l D cI cJ cZ cO z a0 a1 a2 a3 a4 a5 a6 a7 a8 a9 a10 a11 a12 a13 a14 a15 T P pa (nI K) rn ln 0 (-1) pg k (by first | assumption | omega | decide)) (cwV 1 hts gX8_way_X8_time rfl rfl rfl (by decide +kernel) ⟨Nat.le_of_ble_eq_true rfl, Nat.le_of_ble_eq_true rfl⟩) (kPreVR (ci := 9) (q0 := 0) hK (kPc_sub hP [0, 6] rfl) rfl rfl rfl) rfl rfl hl.1 rfl (lv_room (Nat.le_of_ble_eq_true rfl)) dX8_way_86 ⟨Nat.le_of_ble_eq_true rfl, Nat.le_of_ble_eq_true rfl⟩) (fun v_8 hv_8 => ?_)
                    obtain rfl := hv_8
                    refine W.eq (g2 := F0 m 89 ls [.int (mtimeF pg pa k)]) rfl ?_
                    refine lv_aload_n hx hb dX8_way_89 rfl (lv_at hl 1 rfl) ?_
                    refine va_get (D := D) (ci := 9) (v := .ref a11) (C := RX8) (T := TX8) (N := 24) hx hb hts hi_X8 hown hK.1 hP 0 rfl rfl 18 (by decide) hw_f47 (fun _ h9 => h9) rfl dX8_way_90 ?_
                    refine lv_iload hx hb dX8_way_93 (lv_at hl 0 rfl) ?_
                    refine va_iald hx hb hK.1 hP 8 0 rfl rfl ((hB k (by omega) v hv).resolve_left c_68) dX8_way_95 ?_
                    refine lv_iadd hx hb dX8_way_96 ?_
                    refine lv_aload_n hx hb dX8_way_97 rfl (lv_at hl 1 rfl) ?_
                    refine va_get (D := D) (ci := 9) (v := .ref a11) (C := RX8) (T := TX8) (N := 24) hx hb hts hi_X8 hown hK.1 hP 0 rfl rfl 18 (by decide) hw_f47 (fun _ h9 => h9) rfl dX8_way_98 ?_
                    refine lv_iload_n hx hb dX8_way_101 rfl (lv_at hl 4 rfl) ?_
                    refine va_iald hx hb hK.1 hP 8 0 rfl rfl (vp_in_nI (by omega) (by omega)) dX8_way_102 ?_
                    refine lv_topi (fun nv_9 ev_9 => ?_)
                    obtain rfl : nv_9 = ((fwF ne ei im gi sk pg co st T P pa (-1) wi (2 ^ T)).1) v := by rw [ev_9, nI_clamp (by omega)]
                    refine lv_icmp_ne (tgt := 127) hx hb dX8_way_103 (by decide) (fun c_103 => ?_) (fun c_103 => ?_)
                    · skip
                      refine lv_iinc (v := nI (k + 1)) (lv' := [(4, .int (nI (k + 1))), (5, .int (nbF ne ei im gi sk T (-1) k (nI v))), (0, .ref z), (1, .int wi), (2, .int (nI n)), (3, .int (nI v))]) hx hb dX8_way_127 hl (k := 5) rfl (nI_1 _) (by decide) rfl (fun ls hl => ?_)
                      refine lv_goto (tgt := 56) hx hb dX8_way_130 (by decide) ?_
                      have hne : ¬ k = k0 := by intro q; rw [← q] at hw0; simp [wtB, c_10, c_32, c_50, nc_50, c_68, c_80, c_103] at hw0
                      exact ih_56  (k + 1) (by omega) (by omega) _ _ hP hD hS _ (lv_sub hl [2, 3, 4, 5, 0] rfl)
                    · skip
                      refine lv_iconst (v := 1) hx hb dX8_way_106 (by decide) ?_
                      refine lv_aload_n hx hb dX8_way_107 rfl (lv_at hl 1 rfl) ?_
                      refine va_get (D := D) (ci := 9) (v := .ref a12) (C := RX8) (T := TX8) (N := 24) hx hb hts hi_X8 hown hK.1 hP 0 rfl rfl 19 (by decide) hw_f50 (fun _ h9 => h9) rfl dX8_way_108 ?_
                      refine lv_iload hx hb dX8_way_111 (lv_at hl 0 rfl) ?_
                      refine va_iald hx hb hK.1 hP 9 0 rfl rfl ((hB k (by omega) v hv).resolve_left c_68) dX8_way_113 ?_
                      refine lv_iadd hx hb dX8_way_114 ?_
                      refine lv_aload_n hx hb dX8_way_115 rfl (lv_at hl 1 rfl) ?_
                      refine va_get (D := D) (ci := 9) (v := .ref a12) (C := RX8) (T := TX8) (N := 24) hx hb hts hi_X8 hown hK.1 hP 0 rfl rfl 19 (by decide) hw_f50 (fun _ h9 => h9) rfl dX8_way_116 ?_
                      refine lv_iload_n hx hb dX8_way_119 rfl (lv_at hl 4 rfl) ?_
                      refine va_iald hx hb hK.1 hP 9 0 rfl rfl (vp_in_nI (by omega) (by omega)) dX8_way_120 ?_
                      refine lv_topi (fun nv_10 ev_10 => ?_)
                      obtain rfl : nv_10 = ((fwF ne ei im gi sk pg co st T P pa (-1) wi (2 ^ T)).2) v := by rw [ev_10, nI_clamp (by omega)]
                      refine lv_icmp_ne (tgt := 127) hx hb dX8_way_121 (by decide) (fun c_121 => ?_) (fun c_121 => ?_)
                      · skip
                        refine lv_iinc (v := nI (k + 1)) (lv' := [(4, .int (nI (k + 1))), (5, .int (nbF ne ei im gi sk T (-1) k (nI v))), (0, .ref z), (1, .int wi), (2, .int (nI n)), (3, .int (nI v))]) hx hb dX8_way_127 hl (k := 5) rfl (nI_1 _) (by decide) rfl (fun ls hl => ?_)
                        refine lv_goto (tgt := 56) hx hb dX8_way_130 (by decide) ?_
                        have hne : ¬ k = k0 := by intro q; rw [← q] at hw0; simp [wtB, c_10, c_32, c_50, nc_50, c_68, c_80, c_103, c_121] at hw0
                        exact ih_56  (k + 1) (by omega) (by omega) _ _ hP hD hS _ (lv_sub hl [2, 3, 4, 5, 0] rfl)
                      · skip
                        refine lv_goto (tgt := 133) hx hb dX8_way_124 (by decide) ?_
                        have hkb : wtB ne ei im gi sk pg T pa (-1) (fwF ne ei im gi sk pg co st T P pa (-1) wi (2 ^ T)) v k = true := by simp [wtB, c_10, c_32, c_50, nc_50, c_68, c_80, c_103, c_121]
                        have hkk0 : k = k0 := by rcases Nat.lt_or_ge k k0 with q | q; exact absurd hkb (hmin k q); omega
                        have hkk : trK ne ei im gi sk pg T P pa (-1) (fwF ne ei im gi sk pg co st T P pa (-1) wi (2 ^ T)) v = k := by rw [hkk0]; exact fstF_eq hw0 hmin _ 0 (Nat.zero_le _) (by omega)
                        obtain ⟨u, hu1, hu2, hu3⟩ := hnx k (by omega) hkb
                        refine lv_aload_n hx hb dX8_way_133 rfl (lv_at hl 1 rfl) ?_
                        refine va_get (D := D) (ci := 9) (v := .ref a7) (C := RX8) (T := TX8) (N := 24) hx hb hts hi_X8 hown hK.1 hP 0 rfl rfl 11 (by decide) hw_f35 (fun _ h9 => h9) rfl dX8_way_134 ?_
                        refine lv_iload_n hx hb dX8_way_137 rfl (lv_at hl 3 rfl) ?_
                        refine lv_iload hx hb dX8_way_138 (lv_at hl 5 rfl) ?_
                        refine va_iast hx hb hK.1 hP hD hS 7 0 rfl rfl (vp_in_nI (by omega) (by omega)) dX8_way_140 (fun H locs hP hD hS => ?_)
                        rw [nI_clamp (by omega)] at hP hD
                        have hP : va_P D vwCl [(z, .inr (9, [.ref a0, .ref a1, .int (nI T), .ref a2, .ref a3, .ref a4, .ref a5, .ref a6, .int (nI P), .int pa, .int (nI K), .ref a7, .int (nI rn), .ref a8, .ref a9, .int (nI ln), .ref a10, .int 0, .ref a11, .ref a12, .int (-1), .ref a13, .ref a14, .ref a15])), (a1, .inl (cI, 12, .inl im)), (a2, .inl (cI, 14, .inl ne)), (a3, .inl (cI, 14, .inl ei)), (a4, .inl (cI, 14, .inl gi)), (a5, .inl (cI, 14, .inl sk)), (a6, .inl (cI, 14, .inl pg)), (a7, .inl (cI, 12, .inl (upd x n (nI k)))), (a11, .inl (cI, 4096, .inl ((fwF ne ei im gi sk pg co st T P pa (-1) wi (2 ^ T)).1))), (a12, .inl (cI, 4096, .inl ((fwF ne ei im gi sk pg co st T P pa (-1) wi (2 ^ T)).2)))] H := hP
                        have hD : va_D _ [(z, .inr (9, [.ref a0, .ref a1, .int (nI T), .ref a2, .ref a3, .ref a4, .ref a5, .ref a6, .int (nI P), .int pa, .int (nI K), .ref a7, .int (nI rn), .ref a8, .ref a9, .int (nI ln), .ref a10, .int 0, .ref a11, .ref a12, .int (-1), .ref a13, .ref a14, .ref a15])), (a1, .inl (cI, 12, .inl im)), (a2, .inl (cI, 14, .inl ne)), (a3, .inl (cI, 14, .inl ei)), (a4, .inl (cI, 14, .inl gi)), (a5, .inl (cI, 14, .inl sk)), (a6, .inl (cI, 14, .inl pg)), (a7, .inl (cI, 12, .inl (upd x n (nI k)))), (a11, .inl (cI, 4096, .inl ((fwF ne ei im gi sk pg co st T P pa (-1) wi (2 ^ T)).1))), (a12, .inl (cI, 4096, .inl ((fwF ne ei im gi sk pg co st T P pa (-1) wi (2 ^ T)).2)))] := hD
                        refine lv_iinc (v := nI (n + 1)) (lv' := [(2, .int (nI (n + 1))), (5, .int (nbF ne ei im gi sk T (-1) k (nI v))), (0, .ref z), (1, .int wi), (3, .int (nI v)), (4, .int (nI k))]) hx hb dX8_way_141 hl (k := 3) rfl (nI_1 _) (by decide) rfl (fun ls hl => ?_)
                        refine lv_aload_n hx hb dX8_way_144 rfl (lv_at hl 2 rfl) ?_
                        refine lv_iload hx hb dX8_way_145 (lv_at hl 5 rfl) ?_
                        refine lv_iload_n hx hb dX8_way_147 rfl (lv_at hl 4 rfl) ?_
                        refine kGoR (va_runV (As := [.int (nI k), .int (nI v)]) (rest := []) ⟨hx, hb, hml, hown, hts⟩ (c_X8_behind l D cI cJ cZ cO z a0 a1 a2 a3 a4 a5 a6 a7 a8 a9 a10 a11 a12 a13 a14 a15 T P pa (nI K) rn ln 0 (-1) im gi sk k (nI v) (by first | assumption | omega | decide) (by first | assumption | omega | decide)) (cwV 2 hts gX8_way_X8_behind rfl rfl rfl (by decide +kernel) ⟨Nat.le_of_ble_eq_true rfl, Nat.le_of_ble_eq_true rfl⟩) (kPreVR (ci := 9) (q0 := 0) hK (kPc_sub hP [0, 1, 4, 5] rfl) rfl rfl rfl) rfl rfl hl.1 rfl (lv_room (Nat.le_of_ble_eq_true rfl)) dX8_way_148 ⟨Nat.le_of_ble_eq_true rfl, Nat.le_of_ble_eq_true rfl⟩) (fun v_11 hv_11 => ?_)
                        obtain rfl := hv_11
                        refine W.eq (g2 := F0 m 151 ls [.int (bhF im gi sk T k (nI v))]) rfl ?_
                        refine lv_topi (fun nv_12 ev_12 => ?_)
                        obtain rfl : nv_12 = nI u := ev_12.trans (hu2)
                        refine lv_istore_n (lv' := [(3, .int (nI u)), (2, .int (nI (n + 1))), (5, .int (nbF ne ei im gi sk T (-1) k (nI v))), (0, .ref z), (1, .int wi), (4, .int (nI k))]) hx hb dX8_way_151 rfl hl (by decide) rfl (fun ls hl => ?_)
                        refine lv_goto (tgt := 44) hx hb dX8_way_152 (by decide) ?_
                        exact ih_44  (n + 1) u (upd x n (nI k)) (by omega) (by exact hu1) (by omega) (by rw [trV, ← ev, hkk, hu2, nI_clamp (by omega)]) (by rw [ex, trR, ← ev, hkk]) _ _ hP hD hS _ (lv_sub hl [3, 4, 1, 0] rfl)
            exact hloop_56 ((k0 - 0) + 1) 0 (Nat.lt_succ_self _) (by omega) _ _ hP hD hS _ (lv_sub hl [1, 2, 3, 4, 0] rfl)
      exact hloop_44 ((sN K) + 1) 0 K ro (Nat.lt_succ_self _) (by exact hK2) (by omega) (by rfl) (by rfl) _ _ hP hD hS _ (lv_sub hl [2, 3, 1, 0] rfl)
    · skip
      refine lv_iconst (v := (-1)) hx hb dX8_way_35 (by decide) ?_
      have ew_0 : (nI rn : Int32) = nI (if areB T wi then (if ((fwF ne ei im gi sk pg co st T P pa (-1) wi (2 ^ T))).1 K = 268435456 then rn else sN K) else rn) := by first | (simp [c_10, c_32]; done) | (rw [if_pos c_10, if_neg c_32, ex, e12]; done) | (rw [if_pos c_10, if_neg c_32, e12]; done)
      have ew_1 : ((-1) : Int32) = if areB T wi then (-1) else wt := by first | (simp [c_10, c_32]; done) | (rw [if_pos c_10, if_neg c_32, ex, e12]; done) | (rw [if_pos c_10, if_neg c_32, e12]; done)
      have ew_2 : (ro : Nat → Int32) = if areB T wi then (if ((fwF ne ei im gi sk pg co st T P pa (-1) wi (2 ^ T))).1 K = 268435456 then ro else trR ne ei im gi sk pg T P pa (-1) (fwF ne ei im gi sk pg co st T P pa (-1) wi (2 ^ T)) K ro (sN K)) else ro := by first | (simp [c_10, c_32]; done) | (rw [if_pos c_10, if_neg c_32, ex, e12]; done) | (rw [if_pos c_10, if_neg c_32, e12]; done)
      have ew_3 : ((fwF ne ei im gi sk pg co st T P pa (-1) wi (2 ^ T)).1 : Nat → Int32) = if areB T wi then (fwF ne ei im gi sk pg co st T P pa (-1) wi (2 ^ T)).1 else co := by first | (simp [c_10, c_32]; done) | (rw [if_pos c_10, if_neg c_32, ex, e12]; done) | (rw [if_pos c_10, if_neg c_32, e12]; done)
      have ew_4 : ((fwF ne ei im gi sk pg co st T P pa (-1) wi (2 ^ T)).2 : Nat → Int32) = if areB T wi then (fwF ne ei im gi sk pg co st T P pa (-1) wi (2 ^ T)).2 else st := by first | (simp [c_10, c_32]; done) | (rw [if_pos c_10, if_neg c_32, ex, e12]; done) | (rw [if_pos c_10, if_neg c_32, e12]; done)
      exact kRetI hx hb hr hlk dX8_way_36 hP hD hS (Nat.le_of_ble_eq_true rfl) (Nat.le_of_ble_eq_true rfl) ⟨(kpi (by simp [c_10, c_32])), (kw5 (fun (z_0 : Int32) (z_1 : Int32) (z_2 : Nat → Int32) (z_3 : Nat → Int32) (z_4 : Nat → Int32) => ([(z, .inr (9, [.ref a0, .ref a1, .int (nI T), .ref a2, .ref a3, .ref a4, .ref a5, .ref a6, .int (nI P), .int pa, .int (nI K), .ref a7, .int z_0, .ref a8, .ref a9, .int (nI ln), .ref a10, .int 0, .ref a11, .ref a12, .int z_1, .ref a13, .ref a14, .ref a15])), (a1, .inl (cI, 12, .inl im)), (a2, .inl (cI, 14, .inl ne)), (a3, .inl (cI, 14, .inl ei)), (a4, .inl (cI, 14, .inl gi)), (a5, .inl (cI, 14, .inl sk)), (a6, .inl (cI, 14, .inl pg)), (a7, .inl (cI, 12, .inl z_2)), (a11, .inl (cI, 4096, .inl z_3)), (a12, .inl (cI, 4096, .inl z_4))] : va_W)) ew_0 ew_1 ew_2 ew_3 ew_4)⟩
  · skip
    have c_10 := k01_z c_10
    refine lv_iconst (v := (-1)) hx hb dX8_way_13 (by decide) ?_
    have ew_0 : (nI rn : Int32) = nI (if areB T wi then (if ((fwF ne ei im gi sk pg co st T P pa (-1) wi (2 ^ T))).1 K = 268435456 then rn else sN K) else rn) := by first | (simp [c_10]; done) | (rw [if_pos c_10, if_neg c_32, ex, e12]; done) | (rw [if_pos c_10, if_neg c_32, e12]; done)
    have ew_1 : (wt : Int32) = if areB T wi then (-1) else wt := by first | (simp [c_10]; done) | (rw [if_pos c_10, if_neg c_32, ex, e12]; done) | (rw [if_pos c_10, if_neg c_32, e12]; done)
    have ew_2 : (ro : Nat → Int32) = if areB T wi then (if ((fwF ne ei im gi sk pg co st T P pa (-1) wi (2 ^ T))).1 K = 268435456 then ro else trR ne ei im gi sk pg T P pa (-1) (fwF ne ei im gi sk pg co st T P pa (-1) wi (2 ^ T)) K ro (sN K)) else ro := by first | (simp [c_10]; done) | (rw [if_pos c_10, if_neg c_32, ex, e12]; done) | (rw [if_pos c_10, if_neg c_32, e12]; done)
    have ew_3 : (co : Nat → Int32) = if areB T wi then (fwF ne ei im gi sk pg co st T P pa (-1) wi (2 ^ T)).1 else co := by first | (simp [c_10]; done) | (rw [if_pos c_10, if_neg c_32, ex, e12]; done) | (rw [if_pos c_10, if_neg c_32, e12]; done)
    have ew_4 : (st : Nat → Int32) = if areB T wi then (fwF ne ei im gi sk pg co st T P pa (-1) wi (2 ^ T)).2 else st := by first | (simp [c_10]; done) | (rw [if_pos c_10, if_neg c_32, ex, e12]; done) | (rw [if_pos c_10, if_neg c_32, e12]; done)
    exact kRetI hx hb hr hlk dX8_way_14 hP hD hS (Nat.le_of_ble_eq_true rfl) (Nat.le_of_ble_eq_true rfl) ⟨(kpi (by simp [c_10])), (kw5 (fun (z_0 : Int32) (z_1 : Int32) (z_2 : Nat → Int32) (z_3 : Nat → Int32) (z_4 : Nat → Int32) => ([(z, .inr (9, [.ref a0, .ref a1, .int (nI T), .ref a2, .ref a3, .ref a4, .ref a5, .ref a6, .int (nI P), .int pa, .int (nI K), .ref a7, .int z_0, .ref a8, .ref a9, .int (nI ln), .ref a10, .int 0, .ref a11, .ref a12, .int z_1, .ref a13, .ref a14, .ref a15])), (a1, .inl (cI, 12, .inl im)), (a2, .inl (cI, 14, .inl ne)), (a3, .inl (cI, 14, .inl ei)), (a4, .inl (cI, 14, .inl gi)), (a5, .inl (cI, 14, .inl sk)), (a6, .inl (cI, 14, .inl pg)), (a7, .inl (cI, 12, .inl z_2)), (a11, .inl (cI, 4096, .inl z_3)), (a12, .inl (cI, 4096, .inl z_4))] : va_W)) ew_0 ew_1 ew_2 ew_3 ew_4)⟩
