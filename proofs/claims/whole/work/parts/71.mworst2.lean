/-! ===== the reference: worst, the call ===== -/
def wgN (im an : Nat → Int32) (T : Nat) (rr : Nat → Nat) : Nat → (Nat → Nat) × Nat
  | 0 => (rr, 0)
  | v + 1 => if stateB im an T (nI v) then (updN (wgN im an T rr v).1 (wgN im an T rr v).2 v, (wgN im an T rr v).2 + 1) else wgN im an T rr v
theorem wg_2 (im an : Nat → Int32) (T : Nat) (rr : Nat → Nat) : ∀ v, (wgN im an T rr v).2 = manyF im an T v
  | 0 => rfl
  | v + 1 => by
    have ih := wg_2 im an T rr v
    unfold wgN manyF
    split
    · show _ + 1 = _ + 1
      rw [ih]
    · exact ih
theorem wg_lt {im an : Nat → Int32} {T : Nat} {rr : Nat → Nat} (h : ∀ k, rr k < 4096) : ∀ v, v ≤ 4096 → ∀ k, (wgN im an T rr v).1 k < 4096
  | 0, _ => h
  | v + 1, hv => by
    have ih := wg_lt (im := im) (an := an) (T := T) h v (by omega)
    unfold wgN
    split
    · intro k
      show updN _ _ _ k < _
      unfold updN
      split
      · omega
      · exact ih k
    · exact ih
theorem many_mono (im an : Nat → Int32) (T u : Nat) : ∀ d, manyF im an T u ≤ manyF im an T (u + d)
  | 0 => Nat.le_refl _
  | d + 1 => by
    have ih := many_mono im an T u d
    have e : manyF im an T (u + (d + 1)) = if stateB im an T (nI (u + d)) then manyF im an T (u + d) + 1 else manyF im an T (u + d) := rfl
    rw [e]
    split <;> omega
theorem wg_at (im an : Nat → Int32) (T : Nat) (rr : Nat → Nat) : ∀ v, (∀ j, j < manyF im an T v → (wgN im an T rr v).1 j < v) ∧ ∀ u, u < v → stateB im an T (nI u) = true → (wgN im an T rr v).1 (manyF im an T u) = u
  | 0 => ⟨fun j hj => absurd hj (Nat.not_lt_zero _), fun u hu => absurd hu (Nat.not_lt_zero _)⟩
  | v + 1 => by
    obtain ⟨i1, i2⟩ := wg_at im an T rr v
    have e2 := wg_2 im an T rr v
    have hm : ∀ u, u < v → stateB im an T (nI u) = true → manyF im an T u < manyF im an T v := fun u hu hp => by
      have a1 : manyF im an T (u + 1) = manyF im an T u + 1 := if_pos hp
      have a3 := many_mono im an T (u + 1) (v - (u + 1))
      rw [show u + 1 + (v - (u + 1)) = v by omega] at a3
      omega
    by_cases hp : stateB im an T (nI v) = true
    · have e1 : wgN im an T rr (v + 1) = (updN (wgN im an T rr v).1 (wgN im an T rr v).2 v, (wgN im an T rr v).2 + 1) := if_pos hp
      have e3 : manyF im an T (v + 1) = manyF im an T v + 1 := if_pos hp
      rw [e1, e3]
      refine ⟨fun j hj => ?_, fun u hu hq => ?_⟩
      · show updN _ _ _ j < _
        unfold updN
        split
        · omega
        · rename_i hne
          have := i1 j (by omega)
          omega
      · show updN _ _ _ _ = _
        unfold updN
        rcases Nat.lt_or_ge u v with z | z
        · have := hm u z hq
          rw [if_neg (by omega)]
          exact i2 u z hq
        · have e : u = v := by omega
          subst e
          rw [if_pos e2.symm]
    · have e1 : wgN im an T rr (v + 1) = wgN im an T rr v := if_neg hp
      have e3 : manyF im an T (v + 1) = manyF im an T v := if_neg hp
      rw [e1, e3]
      refine ⟨fun j hj => by have := i1 j hj; omega, fun u hu hq => ?_⟩
      rcases Nat.lt_or_ge u v with z | z
      · exact i2 u z hq
      · have e : u = v := by omega
        subst e
        exact absurd hq hp
theorem many_lt {im an : Nat → Int32} {T v N : Nat} (h : stateB im an T (nI v) = true) (hv : v < N) : manyF im an T v < manyF im an T N := by
  have a1 : manyF im an T (v + 1) = manyF im an T v + 1 := if_pos h
  have a2 := many_mono im an T (v + 1) (N - (v + 1))
  rw [show v + 1 + (N - (v + 1)) = N by omega] at a2
  omega
theorem pw64 {n : Nat} (h : n ≤ 64) : 2 ^ n - 1 < 2 ^ 64 := by
  have h1 : 2 ^ n ≤ 2 ^ 64 := Nat.pow_le_pow_right (by decide) h
  have h2 : 0 < 2 ^ n := Nat.pos_of_ne_zero (by simp)
  omega
theorem lm1 {n : Nat} (h : n = 64) : (-1 : Int64) = lN (2 ^ n - 1) := by subst h; decide
theorem lpm (n : Nat) : lN (2 ^ n) - 1 = lN (2 ^ n - 1) := lN_sub (a := 2 ^ n) (b := 1) (Nat.pos_of_ne_zero (by simp))

set_option maxHeartbeats 4000000 in
set_option maxRecDepth 100000 in
theorem c_X8_worst (l : Launch) (D : va_G) (cI cJ cZ cO : ClassId) (z : Nat) (a0 : Nat) (a1 : Nat) (a2 : Nat) (a3 : Nat) (a4 : Nat) (a5 : Nat) (a6 : Nat) (a7 : Nat) (a8 : Nat) (a9 : Nat) (a10 : Nat) (a11 : Nat) (a12 : Nat) (a13 : Nat) (a14 : Nat) (a15 : Nat) (T : Nat) (P : Nat) (pa : Int32) (kn : Int32) (rn : Nat) (ln : Nat) (th : Int32) (wt : Int32) (im : Nat → Int32) (an : Nat → Int32) (rr : Nat → Nat) (fq : Nat) (q : Nat) (hT : T ≤ 12) (hrr : ∀ k, rr k < 4096) (hfu : fq = 12) (hq : q = WN fq (mCt (2 ^ manyF im an T (2 ^ T) - 1) (wgN im an T rr (2 ^ T)).1)) : kC l D (kTY cI cJ cZ cO) yX8_worst wsX8_worst 14 424 0 0 [.ref z] [(z, .inr (9, [.ref a0, .ref a1, .int (nI T), .ref a2, .ref a3, .ref a4, .ref a5, .ref a6, .int (nI P), .int pa, .int kn, .ref a7, .int (nI rn), .ref a8, .ref a9, .int (nI ln), .ref a10, .int th, .ref a11, .ref a12, .int wt, .ref a13, .ref a14, .ref a15])), (a1, .inl (cI, 12, .inl im)), (a10, .inl (cI, 12, .inl an)), (a15, .inl (cI, 64, .inl (nF rr)))] (fun rv_ rw_ => rv_ = some (.int (if manyF im an T (2 ^ T) ≤ 64 then nI q else -1)) ∧ rw_ = [(z, .inr (9, [.ref a0, .ref a1, .int (nI T), .ref a2, .ref a3, .ref a4, .ref a5, .ref a6, .int (nI P), .int pa, .int kn, .ref a7, .int (nI rn), .ref a8, .ref a9, .int (nI ln), .ref a10, .int 0, .ref a11, .ref a12, .int wt, .ref a13, .ref a14, .ref a15])), (a1, .inl (cI, 12, .inl im)), (a10, .inl (cI, 12, .inl an)), (a15, .inl (cI, 64, .inl (nF (if manyF im an T (2 ^ T) ≤ 64 then (wgN im an T rr (2 ^ T)).1 else rr))))]) := by
  refine kEnter (cc := cX8_worst) (maxL := 4) (ret := (some .int)) (by decide) rfl (Nat.le_of_ble_eq_true rfl) ?_
  intro p e s m args below meth c hx hb hr hml hts hown hlk hnm hK hP hD hS hA ls hl
  have hl : lv_has ls 4 [(0, .ref z)] := hl
  have hw_f63 := hts (.fieldLink RX8 63 "WhatToReadModel" "thrown" "I") (by decide +kernel)
  have hi_X8 : ∀ w ∈ wsX80, w ∈ wsX8_worst := by decide +kernel
  have hw_f66 := hts (.fieldLink RX8 66 "WhatToReadModel" "topics" "I") (by decide +kernel)
  have hw_f60 := hts (.fieldLink RX8 60 "WhatToReadModel" "row64" "[I") (by decide +kernel)
  have hpw := kpow hT
  have hmy := manyF_le im an T (2 ^ T)
  refine lv_aload_n hx hb dX8_worst_0 rfl (lv_at hl 0 rfl) ?_
  refine lv_iconst (v := 0) hx hb dX8_worst_1 (by decide) ?_
  refine va_put (D := D) (ci := 9) (v := .int 0) (ty := .int) (C := RX8) (T := TX8) (N := 24) hx hb hts hi_X8 tyX8 tyX8_ok nmX8 hown hK.1 hP hD hS 0 rfl rfl 17 (by decide) hw_f63 (fun _ h9 => h9) rfl (by decide +kernel) rfl rfl (Nat.le_of_ble_eq_true rfl) dX8_worst_2 (fun H locs hP hD hS => ?_)
  have hP : va_P D vwCl [(z, .inr (9, [.ref a0, .ref a1, .int (nI T), .ref a2, .ref a3, .ref a4, .ref a5, .ref a6, .int (nI P), .int pa, .int kn, .ref a7, .int (nI rn), .ref a8, .ref a9, .int (nI ln), .ref a10, .int 0, .ref a11, .ref a12, .int wt, .ref a13, .ref a14, .ref a15])), (a1, .inl (cI, 12, .inl im)), (a10, .inl (cI, 12, .inl an)), (a15, .inl (cI, 64, .inl (nF rr)))] H := hP
  have hD : va_D _ [(z, .inr (9, [.ref a0, .ref a1, .int (nI T), .ref a2, .ref a3, .ref a4, .ref a5, .ref a6, .int (nI P), .int pa, .int kn, .ref a7, .int (nI rn), .ref a8, .ref a9, .int (nI ln), .ref a10, .int 0, .ref a11, .ref a12, .int wt, .ref a13, .ref a14, .ref a15])), (a1, .inl (cI, 12, .inl im)), (a10, .inl (cI, 12, .inl an)), (a15, .inl (cI, 64, .inl (nF rr)))] := hD
  refine lv_aload_n hx hb dX8_worst_5 rfl (lv_at hl 0 rfl) ?_
  refine kGoR (va_runV (As := []) (rest := []) ⟨hx, hb, hml, hown, hts⟩ (c_X8_stateMany l D cI cJ cZ cO z a0 a1 a2 a3 a4 a5 a6 a7 a8 a9 a10 a11 a12 a13 a14 a15 T P pa kn rn ln 0 wt im an (by first | assumption | omega | decide)) (cwV 0 hts gX8_worst_X8_stateMany rfl rfl rfl (by decide +kernel) ⟨Nat.le_of_ble_eq_true rfl, Nat.le_of_ble_eq_true rfl⟩) (kPreVR (ci := 9) (q0 := 0) hK (kPc_sub hP [0, 1, 2] rfl) rfl rfl rfl) rfl rfl hl.1 rfl (lv_room (Nat.le_of_ble_eq_true rfl)) dX8_worst_6 ⟨Nat.le_of_ble_eq_true rfl, Nat.le_of_ble_eq_true rfl⟩) (fun v_1 hv_1 => ?_)
  obtain rfl := hv_1
  refine W.eq (g2 := F0 m 9 ls [.int (nI (manyF im an T (2 ^ T)))]) rfl ?_
  refine lv_istore_n (lv' := [(1, .int (nI (manyF im an T (2 ^ T)))), (0, .ref z)]) hx hb dX8_worst_9 rfl hl (by decide) rfl (fun ls hl => ?_)
  refine lv_iload_n hx hb dX8_worst_10 rfl (lv_at hl 0 rfl) ?_
  refine lv_bipush (v := 64) hx hb dX8_worst_11 (by decide) ?_
  refine lv_icmp_le (tgt := 18) hx hb dX8_worst_13 (by decide) (fun c_13 => ?_) (fun c_13 => ?_)
  · skip
    have nc_13 : (manyF im an T (2 ^ T)) ≤ 64 := (nI_leI (a := manyF im an T (2 ^ T)) (b := 64) (by omega) (by omega)).mp c_13
    refine lv_iconst (v := 0) hx hb dX8_worst_18 (by decide) ?_
    refine lv_istore_n (lv' := [(2, .int 0), (1, .int (nI (manyF im an T (2 ^ T)))), (0, .ref z)]) hx hb dX8_worst_19 rfl hl (by decide) rfl (fun ls hl => ?_)
    refine lv_iconst (v := 0) hx hb dX8_worst_20 (by decide) ?_
    refine lv_istore_n (lv' := [(3, .int 0), (2, .int 0), (1, .int (nI (manyF im an T (2 ^ T)))), (0, .ref z)]) hx hb dX8_worst_21 rfl hl (by decide) rfl (fun ls hl => ?_)
    have hloop_22 : ∀ (fu : Nat) (v : Nat) (k : Nat) (x : Nat → Nat), 2 ^ T - v < fu → v ≤ 2 ^ T → k = manyF im an T v → x = (wgN im an T rr v).1 → ∀ (H : Heap) (locs : List Loc), va_P D vwCl [(z, .inr (9, [.ref a0, .ref a1, .int (nI T), .ref a2, .ref a3, .ref a4, .ref a5, .ref a6, .int (nI P), .int pa, .int kn, .ref a7, .int (nI rn), .ref a8, .ref a9, .int (nI ln), .ref a10, .int 0, .ref a11, .ref a12, .int wt, .ref a13, .ref a14, .ref a15])), (a1, .inl (cI, 12, .inl im)), (a10, .inl (cI, 12, .inl an)), (a15, .inl (cI, 64, .inl (nF x)))] H → va_D (va_A [(z, .inr (9, [.ref a0, .ref a1, .int (nI T), .ref a2, .ref a3, .ref a4, .ref a5, .ref a6, .int (nI P), .int pa, .int kn, .ref a7, .int (nI rn), .ref a8, .ref a9, .int (nI ln), .ref a10, .int th, .ref a11, .ref a12, .int wt, .ref a13, .ref a14, .ref a15])), (a1, .inl (cI, 12, .inl im)), (a10, .inl (cI, 12, .inl an)), (a15, .inl (cI, 64, .inl (nF rr)))] s.heap.size) [(z, .inr (9, [.ref a0, .ref a1, .int (nI T), .ref a2, .ref a3, .ref a4, .ref a5, .ref a6, .int (nI P), .int pa, .int kn, .ref a7, .int (nI rn), .ref a8, .ref a9, .int (nI ln), .ref a10, .int 0, .ref a11, .ref a12, .int wt, .ref a13, .ref a14, .ref a15])), (a1, .inl (cI, 12, .inl im)), (a10, .inl (cI, 12, .inl an)), (a15, .inl (cI, 64, .inl (nF x)))] → va_S (va_A [(z, .inr (9, [.ref a0, .ref a1, .int (nI T), .ref a2, .ref a3, .ref a4, .ref a5, .ref a6, .int (nI P), .int pa, .int kn, .ref a7, .int (nI rn), .ref a8, .ref a9, .int (nI ln), .ref a10, .int th, .ref a11, .ref a12, .int wt, .ref a13, .ref a14, .ref a15])), (a1, .inl (cI, 12, .inl im)), (a10, .inl (cI, 12, .inl an)), (a15, .inl (cI, 64, .inl (nF rr)))] s.heap.size) s.heap H locs → ∀ ls : Array Slot, lv_has ls 4 [(0, .ref z), (1, .int (nI (manyF im an T (2 ^ T)))), (2, .int (nI k)), (3, .int (nI v))] → W p l e ({ frames := 14, cells := 0, slots := 0, locals := 424 }) s m args below meth c H locs 0 0 (MQ below (kQ D [(z, .inr (9, [.ref a0, .ref a1, .int (nI T), .ref a2, .ref a3, .ref a4, .ref a5, .ref a6, .int (nI P), .int pa, .int kn, .ref a7, .int (nI rn), .ref a8, .ref a9, .int (nI ln), .ref a10, .int th, .ref a11, .ref a12, .int wt, .ref a13, .ref a14, .ref a15])), (a1, .inl (cI, 12, .inl im)), (a10, .inl (cI, 12, .inl an)), (a15, .inl (cI, 64, .inl (nF rr)))] s.heap.size (fun rv_ rw_ => rv_ = some (.int (if manyF im an T (2 ^ T) ≤ 64 then nI q else -1)) ∧ rw_ = [(z, .inr (9, [.ref a0, .ref a1, .int (nI T), .ref a2, .ref a3, .ref a4, .ref a5, .ref a6, .int (nI P), .int pa, .int kn, .ref a7, .int (nI rn), .ref a8, .ref a9, .int (nI ln), .ref a10, .int 0, .ref a11, .ref a12, .int wt, .ref a13, .ref a14, .ref a15])), (a1, .inl (cI, 12, .inl im)), (a10, .inl (cI, 12, .inl an)), (a15, .inl (cI, 64, .inl (nF (if manyF im an T (2 ^ T) ≤ 64 then (wgN im an T rr (2 ^ T)).1 else rr))))])) args s 0 0 (va_A [(z, .inr (9, [.ref a0, .ref a1, .int (nI T), .ref a2, .ref a3, .ref a4, .ref a5, .ref a6, .int (nI P), .int pa, .int kn, .ref a7, .int (nI rn), .ref a8, .ref a9, .int (nI ln), .ref a10, .int th, .ref a11, .ref a12, .int wt, .ref a13, .ref a14, .ref a15])), (a1, .inl (cI, 12, .inl im)), (a10, .inl (cI, 12, .inl an)), (a15, .inl (cI, 64, .inl (nF rr)))] s.heap.size)) (F0 m 22 ls []) := by
      intro fu
      induction fu with
      | zero => intro v k x hmu; exact absurd hmu (Nat.not_lt_zero _)
      | succ fu ih_22 =>
        intro v k x hmu_22 hv ek ex H locs hP hD hS ls hl
        refine lv_iload_n hx hb dX8_worst_22 rfl (lv_at hl 3 rfl) ?_
        refine lv_iconst (v := 1) hx hb dX8_worst_23 (by decide) ?_
        refine lv_aload_n hx hb dX8_worst_24 rfl (lv_at hl 0 rfl) ?_
        refine va_get (D := D) (ci := 9) (v := .int (nI T)) (C := RX8) (T := TX8) (N := 24) hx hb hts hi_X8 hown hK.1 hP 0 rfl rfl 2 (by decide) hw_f66 (fun _ h9 => h9) rfl dX8_worst_25 ?_
        refine lv_ishl hx hb dX8_worst_28 ?_
        refine lv_topi (fun nv_2 ev_2 => ?_)
        obtain rfl : nv_2 = nI (2 ^ T) := ev_2.trans (kshl1 T hT)
        refine lv_icmp_ge (tgt := 59) hx hb dX8_worst_29 (by decide) (fun c_29 => ?_) (fun c_29 => ?_)
        · skip
          have nc_29 : (2 ^ T) ≤ v := (nI_leI (a := 2 ^ T) (b := v) (by omega) (by omega)).mp c_29
          have e12 : v = 2 ^ T := by omega
          obtain ⟨r2, hr2⟩ : ∃ r2, r2 = (wgN im an T rr (2 ^ T)).1 := ⟨_, rfl⟩
          rw [show (nF x : Nat → Int32) = nF r2 from by rw [hr2, ex, e12]] at hP hD
          refine lv_aload_n hx hb dX8_worst_59 rfl (lv_at hl 0 rfl) ?_
          refine lv_iload_n hx hb dX8_worst_60 rfl (lv_at hl 1 rfl) ?_
          refine lv_bipush (v := 64) hx hb dX8_worst_61 (by decide) ?_
          refine lv_icmp_ne (tgt := 72) hx hb dX8_worst_63 (by decide) (fun c_63 => ?_) (fun c_63 => ?_)
          · skip
            have nc_63 : ¬ (manyF im an T (2 ^ T)) = 64 := (not_congr (nI_eq (a := manyF im an T (2 ^ T)) (b := 64) (by omega) (by omega))).mp c_63
            refine lv_lconst (v := 1) hx hb dX8_worst_72 (by decide) ?_
            refine lv_iload_n hx hb dX8_worst_73 rfl (lv_at hl 1 rfl) ?_
            refine lv_lshl hx hb dX8_worst_74 rfl ?_
            refine lv_topl (fun nv_3 ev_3 => ?_)
            obtain rfl : nv_3 = lN (2 ^ manyF im an T (2 ^ T)) := ev_3.trans (lx_pow (by omega))
            refine lv_lconst (v := 1) hx hb dX8_worst_75 (by decide) ?_
            refine lv_lsub hx hb dX8_worst_76 ?_
            refine lv_topl (fun nv_4 ev_4 => ?_)
            obtain rfl : nv_4 = lN (2 ^ manyF im an T (2 ^ T) - 1) := ev_4.trans (lpm _)
            refine kGoR (va_runV (As := [.long (lN (2 ^ manyF im an T (2 ^ T) - 1))]) (rest := []) ⟨hx, hb, hml, hown, hts⟩ (c_X8_wo_0 l D cI cJ cZ cO z a0 a1 a2 a3 a4 a5 a6 a7 a8 a9 a10 a11 a12 a13 a14 a15 T P pa kn rn ln 0 wt r2 (2 ^ manyF im an T (2 ^ T) - 1) fq q (by first | assumption | omega | decide) (pw64 (by omega)) (fun k _ hb => by rw [Nat.testBit_two_pow_sub_one] at hb; rw [hr2]; exact (wg_at im an T rr (2 ^ T)).1 k (of_decide_eq_true hb)) (by rw [hr2]; exact wg_lt hrr _ hpw) (hfu) (by rw [hfu]; exact cntP_le _ 12) (by rw [hr2]; exact hq)) (cwV 1 hts gX8_worst_X8_worstOf rfl rfl rfl (by decide +kernel) ⟨Nat.le_of_ble_eq_true rfl, Nat.le_of_ble_eq_true rfl⟩) (kPreVR (ci := 9) (q0 := 0) hK (kPc_sub hP [0, 3] rfl) rfl rfl rfl) rfl rfl hl.1 rfl (lv_room (Nat.le_of_ble_eq_true rfl)) dX8_worst_77 ⟨Nat.le_of_ble_eq_true rfl, Nat.le_of_ble_eq_true rfl⟩) (fun v_5 hv_5 => ?_)
            obtain rfl := hv_5
            refine W.eq (g2 := F0 m 80 ls [.int (nI q)]) rfl ?_
            have ew_0 : (nF r2 : Nat → Int32) = nF (if manyF im an T (2 ^ T) ≤ 64 then (wgN im an T rr (2 ^ T)).1 else rr) := by first | (rw [if_neg (by omega)]; done) | (rw [if_pos (by omega), hr2]; done)
            exact kRetI hx hb hr hlk dX8_worst_80 hP hD hS (Nat.le_of_ble_eq_true rfl) (Nat.le_of_ble_eq_true rfl) ⟨(kpi (by first | (rw [if_neg (by omega)]; done) | (rw [if_pos (by omega)]; done))), (kw1 (fun (z_0 : Nat → Int32) => ([(z, .inr (9, [.ref a0, .ref a1, .int (nI T), .ref a2, .ref a3, .ref a4, .ref a5, .ref a6, .int (nI P), .int pa, .int kn, .ref a7, .int (nI rn), .ref a8, .ref a9, .int (nI ln), .ref a10, .int 0, .ref a11, .ref a12, .int wt, .ref a13, .ref a14, .ref a15])), (a1, .inl (cI, 12, .inl im)), (a10, .inl (cI, 12, .inl an)), (a15, .inl (cI, 64, .inl z_0))] : va_W)) ew_0)⟩
          · skip
            have nc_63 : (manyF im an T (2 ^ T)) = 64 := (nI_eq (a := manyF im an T (2 ^ T)) (b := 64) (by omega) (by omega)).mp c_63
            refine lv_ldc2 (v := (-1)) hx hb hown (hts (.constantLong RX8 143 (-1)) (by decide +kernel)) dX8_worst_66 ?_
            refine lv_topl (fun nv_6 ev_6 => ?_)
            obtain rfl : nv_6 = lN (2 ^ manyF im an T (2 ^ T) - 1) := ev_6.trans (lm1 nc_63)
            refine lv_goto (tgt := 77) hx hb dX8_worst_69 (by decide) ?_
            refine kGoR (va_runV (As := [.long (lN (2 ^ manyF im an T (2 ^ T) - 1))]) (rest := []) ⟨hx, hb, hml, hown, hts⟩ (c_X8_wo_0 l D cI cJ cZ cO z a0 a1 a2 a3 a4 a5 a6 a7 a8 a9 a10 a11 a12 a13 a14 a15 T P pa kn rn ln 0 wt r2 (2 ^ manyF im an T (2 ^ T) - 1) fq q (by first | assumption | omega | decide) (pw64 (by omega)) (fun k _ hb => by rw [Nat.testBit_two_pow_sub_one] at hb; rw [hr2]; exact (wg_at im an T rr (2 ^ T)).1 k (of_decide_eq_true hb)) (by rw [hr2]; exact wg_lt hrr _ hpw) (hfu) (by rw [hfu]; exact cntP_le _ 12) (by rw [hr2]; exact hq)) (cwV 1 hts gX8_worst_X8_worstOf rfl rfl rfl (by decide +kernel) ⟨Nat.le_of_ble_eq_true rfl, Nat.le_of_ble_eq_true rfl⟩) (kPreVR (ci := 9) (q0 := 0) hK (kPc_sub hP [0, 3] rfl) rfl rfl rfl) rfl rfl hl.1 rfl (lv_room (Nat.le_of_ble_eq_true rfl)) dX8_worst_77 ⟨Nat.le_of_ble_eq_true rfl, Nat.le_of_ble_eq_true rfl⟩) (fun v_7 hv_7 => ?_)
            obtain rfl := hv_7
            refine W.eq (g2 := F0 m 80 ls [.int (nI q)]) rfl ?_
            have ew_0 : (nF r2 : Nat → Int32) = nF (if manyF im an T (2 ^ T) ≤ 64 then (wgN im an T rr (2 ^ T)).1 else rr) := by first | (rw [if_neg (by omega)]; done) | (rw [if_pos (by omega), hr2]; done)
            exact kRetI hx hb hr hlk dX8_worst_80 hP hD hS (Nat.le_of_ble_eq_true rfl) (Nat.le_of_ble_eq_true rfl) ⟨(kpi (by first | (rw [if_neg (by omega)]; done) | (rw [if_pos (by omega)]; done))), (kw1 (fun (z_0 : Nat → Int32) => ([(z, .inr (9, [.ref a0, .ref a1, .int (nI T), .ref a2, .ref a3, .ref a4, .ref a5, .ref a6, .int (nI P), .int pa, .int kn, .ref a7, .int (nI rn), .ref a8, .ref a9, .int (nI ln), .ref a10, .int 0, .ref a11, .ref a12, .int wt, .ref a13, .ref a14, .ref a15])), (a1, .inl (cI, 12, .inl im)), (a10, .inl (cI, 12, .inl an)), (a15, .inl (cI, 64, .inl z_0))] : va_W)) ew_0)⟩
        · skip
          have nc_29 : ¬ (2 ^ T) ≤ v := (not_congr (nI_leI (a := 2 ^ T) (b := v) (by omega) (by omega))).mp c_29
          refine lv_aload_n hx hb dX8_worst_32 rfl (lv_at hl 0 rfl) ?_
          refine lv_iload_n hx hb dX8_worst_33 rfl (lv_at hl 3 rfl) ?_
          refine kGoR (va_runV (As := [.int (nI v)]) (rest := []) ⟨hx, hb, hml, hown, hts⟩ (c_X8_isState l D cI cJ cZ cO z a0 a1 a2 a3 a4 a5 a6 a7 a8 a9 a10 a11 a12 a13 a14 a15 T P pa kn rn ln 0 wt im an (nI v) (by first | assumption | omega | decide)) (cwV 1 hts gX8_worst_X8_isState rfl rfl rfl (by decide +kernel) ⟨Nat.le_of_ble_eq_true rfl, Nat.le_of_ble_eq_true rfl⟩) (kPreVR (ci := 9) (q0 := 0) hK (kPc_sub hP [0, 1, 2] rfl) rfl rfl rfl) rfl rfl hl.1 rfl (lv_room (Nat.le_of_ble_eq_true rfl)) dX8_worst_34 ⟨Nat.le_of_ble_eq_true rfl, Nat.le_of_ble_eq_true rfl⟩) (fun v_8 hv_8 => ?_)
          obtain rfl := hv_8
          refine W.eq (g2 := F0 m 37 ls [.int (k01 (stateB im an T (nI v)))]) rfl ?_
          refine lv_if_ne (tgt := 43) hx hb dX8_worst_37 (by decide) (fun c_37 => ?_) (fun c_37 => ?_)
          · skip
            have c_37 := k01_n c_37
            have hkl := many_lt c_37 (show v < 2 ^ T by omega)
            have hk64 : k < 64 := by omega
            refine lv_aload_n hx hb dX8_worst_43 rfl (lv_at hl 0 rfl) ?_
            refine va_get (D := D) (ci := 9) (v := .ref a15) (C := RX8) (T := TX8) (N := 24) hx hb hts hi_X8 hown hK.1 hP 0 rfl rfl 23 (by decide) hw_f60 (fun _ h9 => h9) rfl dX8_worst_44 ?_
            refine lv_iload_n hx hb dX8_worst_47 rfl (lv_at hl 2 rfl) ?_
            refine lv_iload_n hx hb dX8_worst_48 rfl (lv_at hl 3 rfl) ?_
            refine va_iast hx hb hK.1 hP hD hS 3 0 rfl rfl (vp_in_nI (by omega) (by omega)) dX8_worst_49 (fun H locs hP hD hS => ?_)
            rw [nI_clamp (by omega)] at hP hD
            have hP : va_P D vwCl [(z, .inr (9, [.ref a0, .ref a1, .int (nI T), .ref a2, .ref a3, .ref a4, .ref a5, .ref a6, .int (nI P), .int pa, .int kn, .ref a7, .int (nI rn), .ref a8, .ref a9, .int (nI ln), .ref a10, .int 0, .ref a11, .ref a12, .int wt, .ref a13, .ref a14, .ref a15])), (a1, .inl (cI, 12, .inl im)), (a10, .inl (cI, 12, .inl an)), (a15, .inl (cI, 64, .inl (upd (nF x) k (nI v))))] H := hP
            have hD : va_D _ [(z, .inr (9, [.ref a0, .ref a1, .int (nI T), .ref a2, .ref a3, .ref a4, .ref a5, .ref a6, .int (nI P), .int pa, .int kn, .ref a7, .int (nI rn), .ref a8, .ref a9, .int (nI ln), .ref a10, .int 0, .ref a11, .ref a12, .int wt, .ref a13, .ref a14, .ref a15])), (a1, .inl (cI, 12, .inl im)), (a10, .inl (cI, 12, .inl an)), (a15, .inl (cI, 64, .inl (upd (nF x) k (nI v))))] := hD
            rw [show (upd (nF x) k (nI v) : Nat → Int32) = nF (updN x k v) from nF_upd _ _ _] at hP hD
            refine lv_iinc (v := nI (k + 1)) (lv' := [(2, .int (nI (k + 1))), (0, .ref z), (1, .int (nI (manyF im an T (2 ^ T)))), (3, .int (nI v))]) hx hb dX8_worst_50 hl (k := 2) rfl (nI_1 _) (by decide) rfl (fun ls hl => ?_)
            refine lv_iinc (v := nI (v + 1)) (lv' := [(3, .int (nI (v + 1))), (2, .int (nI (k + 1))), (0, .ref z), (1, .int (nI (manyF im an T (2 ^ T))))]) hx hb dX8_worst_53 hl (k := 3) rfl (nI_1 _) (by decide) rfl (fun ls hl => ?_)
            refine lv_goto (tgt := 22) hx hb dX8_worst_56 (by decide) ?_
            exact ih_22  (v + 1) (k + 1) (updN x k v) (by omega) (by first | exact Nat.zero_le _ | omega) (by subst ek; first | rfl | (simp [manyF, c_13, nc_13, c_29, nc_29, c_37])) (by subst ex; subst ek; first | rfl | (simp [wgN, wg_2, c_13, nc_13, c_29, nc_29, c_37])) _ _ hP hD hS _ (lv_sub hl [2, 3, 1, 0] rfl)
          · skip
            have c_37 := k01_z c_37
            refine lv_goto (tgt := 53) hx hb dX8_worst_40 (by decide) ?_
            refine lv_iinc (v := nI (v + 1)) (lv' := [(3, .int (nI (v + 1))), (0, .ref z), (1, .int (nI (manyF im an T (2 ^ T)))), (2, .int (nI k))]) hx hb dX8_worst_53 hl (k := 3) rfl (nI_1 _) (by decide) rfl (fun ls hl => ?_)
            refine lv_goto (tgt := 22) hx hb dX8_worst_56 (by decide) ?_
            exact ih_22  (v + 1) k x (by omega) (by first | exact Nat.zero_le _ | omega) (by subst ek; first | rfl | (simp [manyF, c_13, nc_13, c_29, nc_29, c_37])) (by subst ex; subst ek; first | rfl | (simp [wgN, wg_2, c_13, nc_13, c_29, nc_29, c_37])) _ _ hP hD hS _ (lv_sub hl [1, 2, 3, 0] rfl)
    exact hloop_22 ((2 ^ T - 0) + 1) 0 0 rr (Nat.lt_succ_self _) (by exact Nat.zero_le _) (by rfl) (by rfl) _ _ hP hD hS _ (lv_sub hl [3, 2, 1, 0] rfl)
  · skip
    have nc_13 : ¬ (manyF im an T (2 ^ T)) ≤ 64 := (not_congr (nI_leI (a := manyF im an T (2 ^ T)) (b := 64) (by omega) (by omega))).mp c_13
    refine lv_iconst (v := (-1)) hx hb dX8_worst_16 (by decide) ?_
    have ew_0 : (nF rr : Nat → Int32) = nF (if manyF im an T (2 ^ T) ≤ 64 then (wgN im an T rr (2 ^ T)).1 else rr) := by first | (rw [if_neg (by omega)]; done) | (rw [if_pos (by omega), hr2]; done)
    exact kRetI hx hb hr hlk dX8_worst_17 hP hD hS (Nat.le_of_ble_eq_true rfl) (Nat.le_of_ble_eq_true rfl) ⟨(kpi (by first | (rw [if_neg (by omega)]; done) | (rw [if_pos (by omega)]; done))), (kw1 (fun (z_0 : Nat → Int32) => ([(z, .inr (9, [.ref a0, .ref a1, .int (nI T), .ref a2, .ref a3, .ref a4, .ref a5, .ref a6, .int (nI P), .int pa, .int kn, .ref a7, .int (nI rn), .ref a8, .ref a9, .int (nI ln), .ref a10, .int 0, .ref a11, .ref a12, .int wt, .ref a13, .ref a14, .ref a15])), (a1, .inl (cI, 12, .inl im)), (a10, .inl (cI, 12, .inl an)), (a15, .inl (cI, 64, .inl z_0))] : va_W)) ew_0)⟩
