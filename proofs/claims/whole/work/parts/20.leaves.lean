/-! ===== what the methods answer, as numbers: leaves ===== -/
def closF (cl : Nat → Int32) (b : Int32) : Nat → Int32
  | 0 => b
  | n + 1 => if ((b >>> (nI n &&& 31)) &&& 1) = 1 then closF cl b n ||| cl n else closF cl b n
def worthF (wo : Nat → Int32) (b : Int32) : Nat → Int32
  | 0 => 0
  | n + 1 => if ((b >>> (nI n &&& 31)) &&& 1) = 1 then worthF wo b n + wo n else worthF wo b n
def haveB (cnt b : Int32) : Bool := decide (¬ b < 0) && decide (¬ (1 <<< (cnt &&& 31)) ≤ b)
def implF (cl : Nat → Int32) (t : Int32) : Int32 := closF cl (1 <<< (t &&& 31)) 12 &&& ((1 <<< (t &&& 31)) ^^^ (-1))
def openB (n e k : Int32) : Bool := decide (k &&& n = n) && (decide (e = 0) || decide (¬ k &&& e = 0))
def timeF (pg pc : Int32) (sk : Bool) : Int32 := if sk then (pg * pc + 2) / 3 else pg * pc
def rowAt (f : Nat → Int32) (c i : Int32) : Int32 := if ¬ i < 0 ∧ ¬ c ≤ i ∧ ¬ 12 ≤ i then f i.toNatClampNeg else -1
theorem rowAt_nI {f : Nat → Int32} {k i : Nat} (hk : k ≤ 12) (hi : i < k) : rowAt f (nI k) (nI i) = f i := by
  unfold rowAt
  rw [if_pos ⟨nI_pos (by omega), (not_congr (nI_leI (by omega) (by omega))).mpr (by omega), (not_congr (nI_leI (a := 12) (by omega) (by omega))).mpr (by omega)⟩, nI_clamp (by omega)]
def becF (f g : Nat → Int32) : Nat → Nat → Int32
  | 0 => f
  | i + 1 => upd (becF f g i) i (g i)
def withinB (v a b : Int32) : Bool := decide (¬ v < a) && decide (¬ b < v)
theorem kin {x : Int32} {N : Nat} (n : Int32) (hn : n = nI N) (hN : N < 2 ^ 31) (h0 : ¬ x < 0) (h1 : ¬ n ≤ x) : vp_in x N := by
  obtain ⟨j, hj, rfl⟩ := nI_of h0
  subst hn
  have := (not_congr (nI_leI hN hj)).mp h1
  exact vp_in_nI (by omega) hN

set_option maxHeartbeats 4000000 in
set_option maxRecDepth 100000 in
theorem c_X4_init (l : Launch) (D : va_G) (cI cJ cZ cO : ClassId) (h0 : Nat) : kC l D (kTY cI cJ cZ cO) yX4_init wsX4_init 1 12 2 24 [.ref h0] [(h0, .inr (5, [.null, .null, .int 0]))] (fun rv_ rw_ => ∃ q1 : Nat, ∃ q2 : Nat, rv_ = none ∧ rw_ = [(h0, .inr (5, [.ref q1, .ref q2, .int 0])), (q1, .inl (cI, 12, .inl (fun _ => 0))), (q2, .inl (cI, 12, .inl (fun _ => 0)))]) := by
  refine kEnter (cc := cX4_init) (maxL := 1) (ret := none) (by decide) rfl (Nat.le_of_ble_eq_true rfl) ?_
  intro p e s m args below meth c hx hb hr hml hts hown hlk hnm hK hP hD hS hA ls hl
  have hl : lv_has ls 1 [(0, .ref h0)] := hl
  have hw_m3 := hts (.methodLink RX4 3 objectInit) (by decide +kernel)
  have hw_io := hts (.instanceMethod objectInit) (by decide +kernel)
  have hw_co := hts (.code objectInit ⟨#[0xb1]⟩ 1 none) (by decide +kernel)
  have hw_aI := hts (.arrayClass .int) (by decide +kernel)
  have hw_f9 := hts (.fieldLink RX4 9 "WhatToRead$Topics" "worths" "[I") (by decide +kernel)
  have hi_X4 : ∀ w ∈ wsX40, w ∈ wsX4_init := by decide +kernel
  have hw_f15 := hts (.fieldLink RX4 15 "WhatToRead$Topics" "closures" "[I") (by decide +kernel)
  have hw_f18 := hts (.fieldLink RX4 18 "WhatToRead$Topics" "count" "I") (by decide +kernel)
  refine lv_aload_n hx hb dX4_init_0 rfl (lv_at hl 0 rfl) ?_
  refine W.objInit hx hb hown hw_m3 hw_io hw_co rfl (by rw [hml]; exact hl.1) rfl dX4_init_1 (Nat.le_of_ble_eq_true rfl) (Nat.le_of_ble_eq_true rfl) ?_
  refine W.eq (g2 := F0 m 4 ls []) rfl ?_
  refine lv_aload_n hx hb dX4_init_4 rfl (lv_at hl 0 rfl) ?_
  refine lv_bipush (v := 12) hx hb dX4_init_5 (by decide) ?_
  refine kNewaI (N' := 12) hx hb hw_aI hK.1 hP hD hS hA (by decide) (by decide) (Nat.le_of_ble_eq_true rfl) (Nat.le_of_ble_eq_true rfl) (Nat.le_of_ble_eq_true rfl) dX4_init_7 (fun q1 H hP hD hS => ?_)
  have hP : va_P D vwCl [(h0, .inr (5, [.null, .null, .int 0])), (q1, .inl (cI, 12, .inl (fun _ => 0)))] H := hP
  have hD : va_D _ [(h0, .inr (5, [.null, .null, .int 0])), (q1, .inl (cI, 12, .inl (fun _ => 0)))] := hD
  refine va_putF (D := D) (ci := 5) (v := .ref q1) (ty := .array .int) (C := RX4) (T := TX4) (N := 3) hx hb hts hi_X4 tyX4 tyX4_ok nmX4 hown hK.1 hP hD hS 0 rfl rfl 0 (by decide) hw_f9 (fun _ h9 => h9) rfl hnm rfl (by decide +kernel) rfl rfl (Nat.le_of_ble_eq_true rfl) dX4_init_9 (fun H locs hP hD hS => ?_)
  have hP : va_P D vwCl [(h0, .inr (5, [.ref q1, .null, .int 0])), (q1, .inl (cI, 12, .inl (fun _ => 0)))] H := hP
  have hD : va_D _ [(h0, .inr (5, [.ref q1, .null, .int 0])), (q1, .inl (cI, 12, .inl (fun _ => 0)))] := hD
  refine lv_aload_n hx hb dX4_init_12 rfl (lv_at hl 0 rfl) ?_
  refine lv_bipush (v := 12) hx hb dX4_init_13 (by decide) ?_
  refine kNewaI (N' := 12) hx hb hw_aI hK.1 hP hD hS hA (by decide) (by decide) (Nat.le_of_ble_eq_true rfl) (Nat.le_of_ble_eq_true rfl) (Nat.le_of_ble_eq_true rfl) dX4_init_15 (fun q2 H hP hD hS => ?_)
  have hP : va_P D vwCl [(h0, .inr (5, [.ref q1, .null, .int 0])), (q1, .inl (cI, 12, .inl (fun _ => 0))), (q2, .inl (cI, 12, .inl (fun _ => 0)))] H := hP
  have hD : va_D _ [(h0, .inr (5, [.ref q1, .null, .int 0])), (q1, .inl (cI, 12, .inl (fun _ => 0))), (q2, .inl (cI, 12, .inl (fun _ => 0)))] := hD
  refine va_putF (D := D) (ci := 5) (v := .ref q2) (ty := .array .int) (C := RX4) (T := TX4) (N := 3) hx hb hts hi_X4 tyX4 tyX4_ok nmX4 hown hK.1 hP hD hS 0 rfl rfl 1 (by decide) hw_f15 (fun _ h9 => h9) rfl hnm rfl (by decide +kernel) rfl rfl (Nat.le_of_ble_eq_true rfl) dX4_init_17 (fun H locs hP hD hS => ?_)
  have hP : va_P D vwCl [(h0, .inr (5, [.ref q1, .ref q2, .int 0])), (q1, .inl (cI, 12, .inl (fun _ => 0))), (q2, .inl (cI, 12, .inl (fun _ => 0)))] H := hP
  have hD : va_D _ [(h0, .inr (5, [.ref q1, .ref q2, .int 0])), (q1, .inl (cI, 12, .inl (fun _ => 0))), (q2, .inl (cI, 12, .inl (fun _ => 0)))] := hD
  refine lv_aload_n hx hb dX4_init_20 rfl (lv_at hl 0 rfl) ?_
  refine lv_iconst (v := 0) hx hb dX4_init_21 (by decide) ?_
  refine va_put (D := D) (ci := 5) (v := .int 0) (ty := .int) (C := RX4) (T := TX4) (N := 3) hx hb hts hi_X4 tyX4 tyX4_ok nmX4 hown hK.1 hP hD hS 0 rfl rfl 2 (by decide) hw_f18 (fun _ h9 => h9) rfl (by decide +kernel) rfl rfl (Nat.le_of_ble_eq_true rfl) dX4_init_22 (fun H locs hP hD hS => ?_)
  have hP : va_P D vwCl [(h0, .inr (5, [.ref q1, .ref q2, .int 0])), (q1, .inl (cI, 12, .inl (fun _ => 0))), (q2, .inl (cI, 12, .inl (fun _ => 0)))] H := hP
  have hD : va_D _ [(h0, .inr (5, [.ref q1, .ref q2, .int 0])), (q1, .inl (cI, 12, .inl (fun _ => 0))), (q2, .inl (cI, 12, .inl (fun _ => 0)))] := hD
  exact kRetV hx hb hr hlk dX4_init_25 hP hD hS (Nat.le_of_ble_eq_true rfl) (Nat.le_of_ble_eq_true rfl) ⟨q1, q2, rfl, rfl⟩

set_option maxHeartbeats 4000000 in
set_option maxRecDepth 100000 in
theorem c_X4_size (l : Launch) (D : va_G) (cI cJ cZ cO : ClassId) (h0 : Nat) (h1 : Nat) (h2 : Nat) (cnt : Int32) (wo : Nat → Int32) (cl : Nat → Int32) : kR l D (kTY cI cJ cZ cO) yX4_size wsX4_size 0 0 [.ref h0] [(h0, .inr (5, [.ref h1, .ref h2, .int cnt])), (h1, .inl (cI, 12, .inl wo)), (h2, .inl (cI, 12, .inl cl))] (fun rv_ => rv_ = some (.int cnt)) := by
  refine kEnterR (cc := cX4_size) (maxL := 1) (ret := (some .int)) (by decide) rfl (Nat.le_of_ble_eq_true rfl) ?_
  intro p e s m args below meth c hx hb hr hml hts hown hlk hK hP ls hl
  have hl : lv_has ls 1 [(0, .ref h0)] := hl
  have hw_f18 := hts (.fieldLink RX4 18 "WhatToRead$Topics" "count" "I") (by decide +kernel)
  have hi_X4 : ∀ w ∈ wsX40, w ∈ wsX4_size := by decide +kernel
  refine lv_aload_n hx hb dX4_size_0 rfl (lv_at hl 0 rfl) ?_
  refine va_get (D := D) (ci := 5) (v := .int cnt) (C := RX4) (T := TX4) (N := 3) hx hb hts hi_X4 hown hK.1 hP 0 rfl rfl 2 (by decide) hw_f18 (fun _ h9 => h9) rfl dX4_size_1 ?_
  exact kRetIr hx hb hr hlk dX4_size_4 rfl

set_option maxHeartbeats 4000000 in
set_option maxRecDepth 100000 in
theorem c_X4_haveAll (l : Launch) (D : va_G) (cI cJ cZ cO : ClassId) (h0 : Nat) (h1 : Nat) (h2 : Nat) (cnt : Int32) (wo : Nat → Int32) (cl : Nat → Int32) (b : Int32) : kR l D (kTY cI cJ cZ cO) yX4_haveAll wsX4_haveAll 0 0 [.ref h0, .int b] [(h0, .inr (5, [.ref h1, .ref h2, .int cnt])), (h1, .inl (cI, 12, .inl wo)), (h2, .inl (cI, 12, .inl cl))] (fun rv_ => rv_ = some (.int (k01 (haveB cnt b)))) := by
  refine kEnterR (cc := cX4_haveAll) (maxL := 2) (ret := (some .boolean)) (by decide) rfl (Nat.le_of_ble_eq_true rfl) ?_
  intro p e s m args below meth c hx hb hr hml hts hown hlk hK hP ls hl
  have hl : lv_has ls 2 [(0, .ref h0), (1, .int b)] := hl
  have hw_f18 := hts (.fieldLink RX4 18 "WhatToRead$Topics" "count" "I") (by decide +kernel)
  have hi_X4 : ∀ w ∈ wsX40, w ∈ wsX4_haveAll := by decide +kernel
  refine lv_iload_n hx hb dX4_haveAll_0 rfl (lv_at hl 1 rfl) ?_
  refine lv_if_lt (tgt := 18) hx hb dX4_haveAll_1 (by decide) (fun c_1 => ?_) (fun c_1 => ?_)
  · skip
    refine lv_iconst (v := 0) hx hb dX4_haveAll_18 (by decide) ?_
    exact kRetZr (haveB cnt b) (by first | rfl | (rw [ex, e12]; done) | (rw [em, e12]; done) | (rw [ey, e12]; done) | (rw [e12]; done) | (simp [haveB, k01, c_1]; done) | (simp_all [haveB, k01]; done)) hx hb hr hlk dX4_haveAll_19 rfl
  · skip
    refine lv_iload_n hx hb dX4_haveAll_4 rfl (lv_at hl 1 rfl) ?_
    refine lv_iconst (v := 1) hx hb dX4_haveAll_5 (by decide) ?_
    refine lv_aload_n hx hb dX4_haveAll_6 rfl (lv_at hl 0 rfl) ?_
    refine va_get (D := D) (ci := 5) (v := .int cnt) (C := RX4) (T := TX4) (N := 3) hx hb hts hi_X4 hown hK.1 hP 0 rfl rfl 2 (by decide) hw_f18 (fun _ h9 => h9) rfl dX4_haveAll_7 ?_
    refine lv_ishl hx hb dX4_haveAll_10 ?_
    refine lv_icmp_ge (tgt := 18) hx hb dX4_haveAll_11 (by decide) (fun c_11 => ?_) (fun c_11 => ?_)
    · skip
      refine lv_iconst (v := 0) hx hb dX4_haveAll_18 (by decide) ?_
      exact kRetZr (haveB cnt b) (by first | rfl | (rw [ex, e12]; done) | (rw [em, e12]; done) | (rw [ey, e12]; done) | (rw [e12]; done) | (simp [haveB, k01, c_1, c_11]; done) | (simp_all [haveB, k01]; done)) hx hb hr hlk dX4_haveAll_19 rfl
    · skip
      refine lv_iconst (v := 1) hx hb dX4_haveAll_14 (by decide) ?_
      refine lv_goto (tgt := 19) hx hb dX4_haveAll_15 (by decide) ?_
      exact kRetZr (haveB cnt b) (by first | rfl | (rw [ex, e12]; done) | (rw [em, e12]; done) | (rw [ey, e12]; done) | (rw [e12]; done) | (simp [haveB, k01, c_1, c_11]; done) | (simp_all [haveB, k01]; done)) hx hb hr hlk dX4_haveAll_19 rfl

set_option maxHeartbeats 4000000 in
set_option maxRecDepth 100000 in
theorem c_X4_closure (l : Launch) (D : va_G) (cI cJ cZ cO : ClassId) (h0 : Nat) (h1 : Nat) (h2 : Nat) (cnt : Int32) (wo : Nat → Int32) (cl : Nat → Int32) (b : Int32) : kR l D (kTY cI cJ cZ cO) yX4_closure wsX4_closure 0 0 [.ref h0, .int b] [(h0, .inr (5, [.ref h1, .ref h2, .int cnt])), (h1, .inl (cI, 12, .inl wo)), (h2, .inl (cI, 12, .inl cl))] (fun rv_ => rv_ = some (.int (closF cl b 12))) := by
  refine kEnterR (cc := cX4_closure) (maxL := 4) (ret := (some .int)) (by decide) rfl (Nat.le_of_ble_eq_true rfl) ?_
  intro p e s m args below meth c hx hb hr hml hts hown hlk hK hP ls hl
  have hl : lv_has ls 4 [(0, .ref h0), (1, .int b)] := hl
  have hw_f15 := hts (.fieldLink RX4 15 "WhatToRead$Topics" "closures" "[I") (by decide +kernel)
  have hi_X4 : ∀ w ∈ wsX40, w ∈ wsX4_closure := by decide +kernel
  refine lv_iload_n hx hb dX4_closure_0 rfl (lv_at hl 1 rfl) ?_
  refine lv_istore_n (lv' := [(2, .int b), (0, .ref h0), (1, .int b)]) hx hb dX4_closure_1 rfl hl (by decide) rfl (fun ls hl => ?_)
  refine lv_iconst (v := 0) hx hb dX4_closure_2 (by decide) ?_
  refine lv_istore_n (lv' := [(3, .int 0), (2, .int b), (0, .ref h0), (1, .int b)]) hx hb dX4_closure_3 rfl hl (by decide) rfl (fun ls hl => ?_)
  have hloop_4 : ∀ (fu : Nat) (i : Nat) (x2 : Int32), 12 - i < fu → i ≤ 12 → x2 = closF cl b i → ∀ ls : Array Slot, lv_has ls 4 [(0, .ref h0), (1, .int b), (2, .int x2), (3, .int (nI i))] → W p l e ({ frames := 0, cells := 0, slots := 0, locals := 0 }) s m args below meth c s.heap [] 0 0 (MQ below (kQr (fun rv_ => rv_ = some (.int (closF cl b 12)))) args s 0 0 (fun _ => False)) (F0 m 4 ls []) := by
    intro fu
    induction fu with
    | zero => intro i x2 hmu; exact absurd hmu (Nat.not_lt_zero _)
    | succ fu ih_4 =>
      intro i x2 hmu_4 hi e2 ls hl
      refine lv_iload_n hx hb dX4_closure_4 rfl (lv_at hl 3 rfl) ?_
      refine lv_aload_n hx hb dX4_closure_5 rfl (lv_at hl 0 rfl) ?_
      refine va_get (D := D) (ci := 5) (v := .ref h2) (C := RX4) (T := TX4) (N := 3) hx hb hts hi_X4 hown hK.1 hP 0 rfl rfl 1 (by decide) hw_f15 (fun _ h9 => h9) rfl dX4_closure_6 ?_
      refine va_alen (v := 12) hx hb hK.1 hP 2 0 rfl rfl rfl dX4_closure_9 ?_
      refine lv_icmp_ge (tgt := 37) hx hb dX4_closure_10 (by decide) (fun c_10 => ?_) (fun c_10 => ?_)
      · skip
        have nc_10 : 12 ≤ i := (nI_leI (a := 12) (b := i) (by omega) (by omega)).mp c_10
        have e12 : 12 = i := by omega
        subst e12
        refine lv_iload_n hx hb dX4_closure_37 rfl (lv_at hl 2 rfl) ?_
        exact kRetIr hx hb hr hlk dX4_closure_38 (kpi (by exact e2))
      · skip
        have nc_10 : ¬ 12 ≤ i := (not_congr (nI_leI (a := 12) (b := i) (by omega) (by omega))).mp c_10
        refine lv_iload_n hx hb dX4_closure_13 rfl (lv_at hl 1 rfl) ?_
        refine lv_iload_n hx hb dX4_closure_14 rfl (lv_at hl 3 rfl) ?_
        refine lv_ishr hx hb dX4_closure_15 ?_
        refine lv_iconst (v := 1) hx hb dX4_closure_16 (by decide) ?_
        refine lv_iand hx hb dX4_closure_17 ?_
        refine lv_iconst (v := 1) hx hb dX4_closure_18 (by decide) ?_
        refine lv_icmp_ne (tgt := 31) hx hb dX4_closure_19 (by decide) (fun c_19 => ?_) (fun c_19 => ?_)
        · skip
          refine lv_iinc (v := nI (i + 1)) (lv' := [(3, .int (nI (i + 1))), (0, .ref h0), (1, .int b), (2, .int x2)]) hx hb dX4_closure_31 hl (k := 3) rfl (nI_1 _) (by decide) rfl (fun ls hl => ?_)
          refine lv_goto (tgt := 4) hx hb dX4_closure_34 (by decide) ?_
          exact ih_4  (i + 1) x2 (by omega) (by first | omega | assumption) (by rw [e2]; simp [closF, hi, e2, c_10, c_19]) _ (lv_sub hl [1, 2, 3, 0] rfl)
        · skip
          refine lv_iload_n hx hb dX4_closure_22 rfl (lv_at hl 2 rfl) ?_
          refine lv_aload_n hx hb dX4_closure_23 rfl (lv_at hl 0 rfl) ?_
          refine va_get (D := D) (ci := 5) (v := .ref h2) (C := RX4) (T := TX4) (N := 3) hx hb hts hi_X4 hown hK.1 hP 0 rfl rfl 1 (by decide) hw_f15 (fun _ h9 => h9) rfl dX4_closure_24 ?_
          refine lv_iload_n hx hb dX4_closure_27 rfl (lv_at hl 3 rfl) ?_
          refine va_iald hx hb hK.1 hP 2 0 rfl rfl (vp_in_nI (by omega) (by omega)) dX4_closure_28 ?_
          refine lv_topi (fun nv_1 ev_1 => ?_)
          obtain rfl : nv_1 = cl i := by rw [ev_1, nI_clamp (by omega)]
          refine lv_ior hx hb dX4_closure_29 ?_
          refine lv_istore_n (lv' := [(2, .int (x2 ||| (cl i))), (0, .ref h0), (1, .int b), (3, .int (nI i))]) hx hb dX4_closure_30 rfl hl (by decide) rfl (fun ls hl => ?_)
          refine lv_iinc (v := nI (i + 1)) (lv' := [(3, .int (nI (i + 1))), (2, .int (x2 ||| (cl i))), (0, .ref h0), (1, .int b)]) hx hb dX4_closure_31 hl (k := 3) rfl (nI_1 _) (by decide) rfl (fun ls hl => ?_)
          refine lv_goto (tgt := 4) hx hb dX4_closure_34 (by decide) ?_
          exact ih_4  (i + 1) (x2 ||| (cl i)) (by omega) (by first | omega | assumption) (by rw [e2]; simp [closF, hi, e2, c_10, c_19]) _ (lv_sub hl [2, 3, 1, 0] rfl)
  exact hloop_4 ((12 - 0) + 1) 0 b (Nat.lt_succ_self _) (by first | omega | assumption) (by rfl) _ (lv_sub hl [2, 3, 1, 0] rfl)

set_option maxHeartbeats 4000000 in
set_option maxRecDepth 100000 in
theorem c_X4_worthOf (l : Launch) (D : va_G) (cI cJ cZ cO : ClassId) (h0 : Nat) (h1 : Nat) (h2 : Nat) (cnt : Int32) (wo : Nat → Int32) (cl : Nat → Int32) (b : Int32) : kR l D (kTY cI cJ cZ cO) yX4_worthOf wsX4_worthOf 0 0 [.ref h0, .int b] [(h0, .inr (5, [.ref h1, .ref h2, .int cnt])), (h1, .inl (cI, 12, .inl wo)), (h2, .inl (cI, 12, .inl cl))] (fun rv_ => rv_ = some (.int (worthF wo b 12))) := by
  refine kEnterR (cc := cX4_worthOf) (maxL := 4) (ret := (some .int)) (by decide) rfl (Nat.le_of_ble_eq_true rfl) ?_
  intro p e s m args below meth c hx hb hr hml hts hown hlk hK hP ls hl
  have hl : lv_has ls 4 [(0, .ref h0), (1, .int b)] := hl
  have hw_f9 := hts (.fieldLink RX4 9 "WhatToRead$Topics" "worths" "[I") (by decide +kernel)
  have hi_X4 : ∀ w ∈ wsX40, w ∈ wsX4_worthOf := by decide +kernel
  refine lv_iconst (v := 0) hx hb dX4_worthOf_0 (by decide) ?_
  refine lv_istore_n (lv' := [(2, .int 0), (0, .ref h0), (1, .int b)]) hx hb dX4_worthOf_1 rfl hl (by decide) rfl (fun ls hl => ?_)
  refine lv_iconst (v := 0) hx hb dX4_worthOf_2 (by decide) ?_
  refine lv_istore_n (lv' := [(3, .int 0), (2, .int 0), (0, .ref h0), (1, .int b)]) hx hb dX4_worthOf_3 rfl hl (by decide) rfl (fun ls hl => ?_)
  have hloop_4 : ∀ (fu : Nat) (i : Nat) (x2 : Int32), 12 - i < fu → i ≤ 12 → x2 = worthF wo b i → ∀ ls : Array Slot, lv_has ls 4 [(0, .ref h0), (1, .int b), (2, .int x2), (3, .int (nI i))] → W p l e ({ frames := 0, cells := 0, slots := 0, locals := 0 }) s m args below meth c s.heap [] 0 0 (MQ below (kQr (fun rv_ => rv_ = some (.int (worthF wo b 12)))) args s 0 0 (fun _ => False)) (F0 m 4 ls []) := by
    intro fu
    induction fu with
    | zero => intro i x2 hmu; exact absurd hmu (Nat.not_lt_zero _)
    | succ fu ih_4 =>
      intro i x2 hmu_4 hi e2 ls hl
      refine lv_iload_n hx hb dX4_worthOf_4 rfl (lv_at hl 3 rfl) ?_
      refine lv_aload_n hx hb dX4_worthOf_5 rfl (lv_at hl 0 rfl) ?_
      refine va_get (D := D) (ci := 5) (v := .ref h1) (C := RX4) (T := TX4) (N := 3) hx hb hts hi_X4 hown hK.1 hP 0 rfl rfl 0 (by decide) hw_f9 (fun _ h9 => h9) rfl dX4_worthOf_6 ?_
      refine va_alen (v := 12) hx hb hK.1 hP 1 0 rfl rfl rfl dX4_worthOf_9 ?_
      refine lv_icmp_ge (tgt := 37) hx hb dX4_worthOf_10 (by decide) (fun c_10 => ?_) (fun c_10 => ?_)
      · skip
        have nc_10 : 12 ≤ i := (nI_leI (a := 12) (b := i) (by omega) (by omega)).mp c_10
        have e12 : 12 = i := by omega
        subst e12
        refine lv_iload_n hx hb dX4_worthOf_37 rfl (lv_at hl 2 rfl) ?_
        exact kRetIr hx hb hr hlk dX4_worthOf_38 (kpi (by exact e2))
      · skip
        have nc_10 : ¬ 12 ≤ i := (not_congr (nI_leI (a := 12) (b := i) (by omega) (by omega))).mp c_10
        refine lv_iload_n hx hb dX4_worthOf_13 rfl (lv_at hl 1 rfl) ?_
        refine lv_iload_n hx hb dX4_worthOf_14 rfl (lv_at hl 3 rfl) ?_
        refine lv_ishr hx hb dX4_worthOf_15 ?_
        refine lv_iconst (v := 1) hx hb dX4_worthOf_16 (by decide) ?_
        refine lv_iand hx hb dX4_worthOf_17 ?_
        refine lv_iconst (v := 1) hx hb dX4_worthOf_18 (by decide) ?_
        refine lv_icmp_ne (tgt := 31) hx hb dX4_worthOf_19 (by decide) (fun c_19 => ?_) (fun c_19 => ?_)
        · skip
          refine lv_iinc (v := nI (i + 1)) (lv' := [(3, .int (nI (i + 1))), (0, .ref h0), (1, .int b), (2, .int x2)]) hx hb dX4_worthOf_31 hl (k := 3) rfl (nI_1 _) (by decide) rfl (fun ls hl => ?_)
          refine lv_goto (tgt := 4) hx hb dX4_worthOf_34 (by decide) ?_
          exact ih_4  (i + 1) x2 (by omega) (by first | omega | assumption) (by rw [e2]; simp [worthF, hi, e2, c_10, c_19]) _ (lv_sub hl [1, 2, 3, 0] rfl)
        · skip
          refine lv_iload_n hx hb dX4_worthOf_22 rfl (lv_at hl 2 rfl) ?_
          refine lv_aload_n hx hb dX4_worthOf_23 rfl (lv_at hl 0 rfl) ?_
          refine va_get (D := D) (ci := 5) (v := .ref h1) (C := RX4) (T := TX4) (N := 3) hx hb hts hi_X4 hown hK.1 hP 0 rfl rfl 0 (by decide) hw_f9 (fun _ h9 => h9) rfl dX4_worthOf_24 ?_
          refine lv_iload_n hx hb dX4_worthOf_27 rfl (lv_at hl 3 rfl) ?_
          refine va_iald hx hb hK.1 hP 1 0 rfl rfl (vp_in_nI (by omega) (by omega)) dX4_worthOf_28 ?_
          refine lv_topi (fun nv_1 ev_1 => ?_)
          obtain rfl : nv_1 = wo i := by rw [ev_1, nI_clamp (by omega)]
          refine lv_iadd hx hb dX4_worthOf_29 ?_
          refine lv_istore_n (lv' := [(2, .int (x2 + (wo i))), (0, .ref h0), (1, .int b), (3, .int (nI i))]) hx hb dX4_worthOf_30 rfl hl (by decide) rfl (fun ls hl => ?_)
          refine lv_iinc (v := nI (i + 1)) (lv' := [(3, .int (nI (i + 1))), (2, .int (x2 + (wo i))), (0, .ref h0), (1, .int b)]) hx hb dX4_worthOf_31 hl (k := 3) rfl (nI_1 _) (by decide) rfl (fun ls hl => ?_)
          refine lv_goto (tgt := 4) hx hb dX4_worthOf_34 (by decide) ?_
          exact ih_4  (i + 1) (x2 + (wo i)) (by omega) (by first | omega | assumption) (by rw [e2]; simp [worthF, hi, e2, c_10, c_19]) _ (lv_sub hl [2, 3, 1, 0] rfl)
  exact hloop_4 ((12 - 0) + 1) 0 0 (Nat.lt_succ_self _) (by first | omega | assumption) (by rfl) _ (lv_sub hl [2, 3, 1, 0] rfl)

set_option maxHeartbeats 4000000 in
set_option maxRecDepth 100000 in
theorem c_X4_impliedBy (l : Launch) (D : va_G) (cI cJ cZ cO : ClassId) (h0 : Nat) (h1 : Nat) (h2 : Nat) (cnt : Int32) (wo : Nat → Int32) (cl : Nat → Int32) (t : Int32) : kR l D (kTY cI cJ cZ cO) yX4_impliedBy wsX4_impliedBy 1 23 [.ref h0, .int t] [(h0, .inr (5, [.ref h1, .ref h2, .int cnt])), (h1, .inl (cI, 12, .inl wo)), (h2, .inl (cI, 12, .inl cl))] (fun rv_ => rv_ = some (.int (implF cl t))) := by
  refine kEnterR (cc := cX4_impliedBy) (maxL := 3) (ret := (some .int)) (by decide) rfl (Nat.le_of_ble_eq_true rfl) ?_
  intro p e s m args below meth c hx hb hr hml hts hown hlk hK hP ls hl
  have hl : lv_has ls 3 [(0, .ref h0), (1, .int t)] := hl
  refine lv_iconst (v := 1) hx hb dX4_impliedBy_0 (by decide) ?_
  refine lv_iload_n hx hb dX4_impliedBy_1 rfl (lv_at hl 1 rfl) ?_
  refine lv_ishl hx hb dX4_impliedBy_2 ?_
  refine lv_istore_n (lv' := [(2, .int (1 <<< (t &&& 31))), (0, .ref h0), (1, .int t)]) hx hb dX4_impliedBy_3 rfl hl (by decide) rfl (fun ls hl => ?_)
  refine lv_aload_n hx hb dX4_impliedBy_4 rfl (lv_at hl 1 rfl) ?_
  refine lv_iload_n hx hb dX4_impliedBy_5 rfl (lv_at hl 0 rfl) ?_
  refine kGoR (va_runV (As := [.int (1 <<< (t &&& 31))]) (rest := []) ⟨hx, hb, hml, hown, hts⟩ (c_X4_closure l D cI cJ cZ cO h0 h1 h2 cnt wo cl (1 <<< (t &&& 31)) ) (cwV 1 hts gX4_impliedBy_X4_closure rfl rfl rfl (by decide +kernel) ⟨Nat.le_of_ble_eq_true rfl, Nat.le_of_ble_eq_true rfl⟩) (kPreVR (ci := 5) (q0 := 0) hK (kPc_sub hP [0, 1, 2] rfl) rfl rfl rfl) rfl rfl hl.1 rfl (lv_room (Nat.le_of_ble_eq_true rfl)) dX4_impliedBy_6 ⟨Nat.le_of_ble_eq_true rfl, Nat.le_of_ble_eq_true rfl⟩) (fun v_1 hv_1 => ?_)
  obtain rfl := hv_1
  refine W.eq (g2 := F0 m 9 ls [.int (closF cl (1 <<< (t &&& 31)) 12)]) rfl ?_
  refine lv_iload_n hx hb dX4_impliedBy_9 rfl (lv_at hl 0 rfl) ?_
  refine lv_iconst (v := (-1)) hx hb dX4_impliedBy_10 (by decide) ?_
  refine lv_ixor hx hb dX4_impliedBy_11 ?_
  refine lv_iand hx hb dX4_impliedBy_12 ?_
  exact kRetIr hx hb hr hlk dX4_impliedBy_13 (kpi (by first | rfl | (rw [ex, e12]; done) | (rw [em, e12]; done) | (rw [ey, e12]; done) | (rw [e12]; done) | (simp [implF]; done) | (simp_all [implF]; done)))

set_option maxHeartbeats 4000000 in
set_option maxRecDepth 100000 in
theorem c_X4_add (l : Launch) (D : va_G) (cI cJ cZ cO : ClassId) (h0 : Nat) (h1 : Nat) (h2 : Nat) (T : Nat) (wo : Nat → Int32) (cl : Nat → Int32) (w : Int32) (b : Int32) (hT : T < 4096) : kC l D (kTY cI cJ cZ cO) yX4_add wsX4_add 1 23 0 0 [.ref h0, .int w, .int b] [(h0, .inr (5, [.ref h1, .ref h2, .int (nI T)])), (h1, .inl (cI, 12, .inl wo)), (h2, .inl (cI, 12, .inl cl))] (fun rv_ rw_ => rv_ = some (.int (if T < 12 then nI T else -1)) ∧ rw_ = [(h0, .inr (5, [.ref h1, .ref h2, .int (if T < 12 then nI (T + 1) else nI T)])), (h1, .inl (cI, 12, .inl (if T < 12 then upd wo T w else wo))), (h2, .inl (cI, 12, .inl (if T < 12 then upd cl T ((1 <<< (nI T &&& 31)) ||| closF cl b 12) else cl)))]) := by
  refine kEnter (cc := cX4_add) (maxL := 4) (ret := (some .int)) (by decide) rfl (Nat.le_of_ble_eq_true rfl) ?_
  intro p e s m args below meth c hx hb hr hml hts hown hlk hnm hK hP hD hS hA ls hl
  have hl : lv_has ls 4 [(0, .ref h0), (1, .int w), (2, .int b)] := hl
  have hw_f18 := hts (.fieldLink RX4 18 "WhatToRead$Topics" "count" "I") (by decide +kernel)
  have hi_X4 : ∀ w ∈ wsX40, w ∈ wsX4_add := by decide +kernel
  have hw_f9 := hts (.fieldLink RX4 9 "WhatToRead$Topics" "worths" "[I") (by decide +kernel)
  have hw_f15 := hts (.fieldLink RX4 15 "WhatToRead$Topics" "closures" "[I") (by decide +kernel)
  refine lv_aload_n hx hb dX4_add_0 rfl (lv_at hl 0 rfl) ?_
  refine va_get (D := D) (ci := 5) (v := .int (nI T)) (C := RX4) (T := TX4) (N := 3) hx hb hts hi_X4 hown hK.1 hP 0 rfl rfl 2 (by decide) hw_f18 (fun _ h9 => h9) rfl dX4_add_1 ?_
  refine lv_istore_n (lv' := [(3, .int (nI T)), (0, .ref h0), (1, .int w), (2, .int b)]) hx hb dX4_add_4 rfl hl (by decide) rfl (fun ls hl => ?_)
  refine lv_iload_n hx hb dX4_add_5 rfl (lv_at hl 0 rfl) ?_
  refine lv_aload_n hx hb dX4_add_6 rfl (lv_at hl 1 rfl) ?_
  refine va_get (D := D) (ci := 5) (v := .ref h1) (C := RX4) (T := TX4) (N := 3) hx hb hts hi_X4 hown hK.1 hP 0 rfl rfl 0 (by decide) hw_f9 (fun _ h9 => h9) rfl dX4_add_7 ?_
  refine va_alen (v := 12) hx hb hK.1 hP 1 0 rfl rfl rfl dX4_add_10 ?_
  refine lv_icmp_ge (tgt := 23) hx hb dX4_add_11 (by decide) (fun c_11 => ?_) (fun c_11 => ?_)
  · skip
    have nc_11 : 12 ≤ T := (nI_leI (a := 12) (b := T) (by omega) (by omega)).mp c_11
    refine lv_iconst (v := (-1)) hx hb dX4_add_23 (by decide) ?_
    have ew_0 : (nI T : Int32) = if T < 12 then nI (T + 1) else nI T := by first | (have hq : T < 12 := (by omega); simp [hq]; done) | (have hq : ¬ T < 12 := (by omega); simp [hq]; done)
    have ew_1 : (wo : Nat → Int32) = if T < 12 then upd wo T w else wo := by first | (have hq : T < 12 := (by omega); simp [hq]; done) | (have hq : ¬ T < 12 := (by omega); simp [hq]; done)
    have ew_2 : (cl : Nat → Int32) = if T < 12 then upd cl T ((1 <<< (nI T &&& 31)) ||| closF cl b 12) else cl := by first | (have hq : T < 12 := (by omega); simp [hq]; done) | (have hq : ¬ T < 12 := (by omega); simp [hq]; done)
    exact kRetI hx hb hr hlk dX4_add_24 hP hD hS (Nat.le_of_ble_eq_true rfl) (Nat.le_of_ble_eq_true rfl) ⟨(kpi (by first | (have hq : T < 12 := (by omega); simp [hq]; done) | (have hq : ¬ T < 12 := (by omega); simp [hq]; done))), (kw3 (fun (z_0 : Int32) (z_1 : Nat → Int32) (z_2 : Nat → Int32) => ([(h0, .inr (5, [.ref h1, .ref h2, .int z_0])), (h1, .inl (cI, 12, .inl z_1)), (h2, .inl (cI, 12, .inl z_2))] : va_W)) ew_0 ew_1 ew_2)⟩
  · skip
    have nc_11 : ¬ 12 ≤ T := (not_congr (nI_leI (a := 12) (b := T) (by omega) (by omega))).mp c_11
    refine lv_iload_n hx hb dX4_add_14 rfl (lv_at hl 0 rfl) ?_
    refine lv_aload_n hx hb dX4_add_15 rfl (lv_at hl 1 rfl) ?_
    refine va_get (D := D) (ci := 5) (v := .ref h2) (C := RX4) (T := TX4) (N := 3) hx hb hts hi_X4 hown hK.1 hP 0 rfl rfl 1 (by decide) hw_f15 (fun _ h9 => h9) rfl dX4_add_16 ?_
    refine va_alen (v := 12) hx hb hK.1 hP 2 0 rfl rfl rfl dX4_add_19 ?_
    refine lv_icmp_lt (tgt := 25) hx hb dX4_add_20 (by decide) (fun c_20 => ?_) (fun c_20 => ?_)
    · skip
      have nc_20 : T < 12 := (nI_ltI (a := T) (b := 12) (by omega) (by omega)).mp c_20
      refine lv_aload_n hx hb dX4_add_25 rfl (lv_at hl 1 rfl) ?_
      refine va_get (D := D) (ci := 5) (v := .ref h1) (C := RX4) (T := TX4) (N := 3) hx hb hts hi_X4 hown hK.1 hP 0 rfl rfl 0 (by decide) hw_f9 (fun _ h9 => h9) rfl dX4_add_26 ?_
      refine lv_iload_n hx hb dX4_add_29 rfl (lv_at hl 0 rfl) ?_
      refine lv_iload_n hx hb dX4_add_30 rfl (lv_at hl 2 rfl) ?_
      refine va_iast hx hb hK.1 hP hD hS 1 0 rfl rfl (vp_in_nI (by omega) (by omega)) dX4_add_31 (fun H locs hP hD hS => ?_)
      rw [nI_clamp (by omega)] at hP hD
      have hP : va_P D vwCl [(h0, .inr (5, [.ref h1, .ref h2, .int (nI T)])), (h1, .inl (cI, 12, .inl (upd wo T w))), (h2, .inl (cI, 12, .inl cl))] H := hP
      have hD : va_D _ [(h0, .inr (5, [.ref h1, .ref h2, .int (nI T)])), (h1, .inl (cI, 12, .inl (upd wo T w))), (h2, .inl (cI, 12, .inl cl))] := hD
      refine lv_aload_n hx hb dX4_add_32 rfl (lv_at hl 1 rfl) ?_
      refine va_get (D := D) (ci := 5) (v := .ref h2) (C := RX4) (T := TX4) (N := 3) hx hb hts hi_X4 hown hK.1 hP 0 rfl rfl 1 (by decide) hw_f15 (fun _ h9 => h9) rfl dX4_add_33 ?_
      refine lv_iload_n hx hb dX4_add_36 rfl (lv_at hl 0 rfl) ?_
      refine lv_iconst (v := 1) hx hb dX4_add_37 (by decide) ?_
      refine lv_iload_n hx hb dX4_add_38 rfl (lv_at hl 0 rfl) ?_
      refine lv_ishl hx hb dX4_add_39 ?_
      refine lv_aload_n hx hb dX4_add_40 rfl (lv_at hl 1 rfl) ?_
      refine lv_iload_n hx hb dX4_add_41 rfl (lv_at hl 3 rfl) ?_
      refine kGoR (va_runV (As := [.int b]) (rest := [.int (1 <<< ((nI T) &&& 31)), .int (nI T), .ref h2]) ⟨hx, hb, hml, hown, hts⟩ (c_X4_closure l D cI cJ cZ cO h0 h1 h2 (nI T) (upd wo T w) cl b ) (cwV 1 hts gX4_add_X4_closure rfl rfl rfl (by decide +kernel) ⟨Nat.le_of_ble_eq_true rfl, Nat.le_of_ble_eq_true rfl⟩) (kPreVR (ci := 5) (q0 := 0) hK (kPc_sub hP [0, 1, 2] rfl) rfl rfl rfl) rfl rfl hl.1 rfl (lv_room (Nat.le_of_ble_eq_true rfl)) dX4_add_42 ⟨Nat.le_of_ble_eq_true rfl, Nat.le_of_ble_eq_true rfl⟩) (fun v_1 hv_1 => ?_)
      obtain rfl := hv_1
      refine W.eq (g2 := F0 m 45 ls [.int (closF cl b 12), .int (1 <<< ((nI T) &&& 31)), .int (nI T), .ref h2]) rfl ?_
      refine lv_ior hx hb dX4_add_45 ?_
      refine va_iast hx hb hK.1 hP hD hS 2 0 rfl rfl (vp_in_nI (by omega) (by omega)) dX4_add_46 (fun H locs hP hD hS => ?_)
      rw [nI_clamp (by omega)] at hP hD
      have hP : va_P D vwCl [(h0, .inr (5, [.ref h1, .ref h2, .int (nI T)])), (h1, .inl (cI, 12, .inl (upd wo T w))), (h2, .inl (cI, 12, .inl (upd cl T ((1 <<< ((nI T) &&& 31)) ||| (closF cl b 12)))))] H := hP
      have hD : va_D _ [(h0, .inr (5, [.ref h1, .ref h2, .int (nI T)])), (h1, .inl (cI, 12, .inl (upd wo T w))), (h2, .inl (cI, 12, .inl (upd cl T ((1 <<< ((nI T) &&& 31)) ||| (closF cl b 12)))))] := hD
      refine lv_aload_n hx hb dX4_add_47 rfl (lv_at hl 1 rfl) ?_
      refine lv_dup hx hb dX4_add_48 rfl ?_
      refine va_get (D := D) (ci := 5) (v := .int (nI T)) (C := RX4) (T := TX4) (N := 3) hx hb hts hi_X4 hown hK.1 hP 0 rfl rfl 2 (by decide) hw_f18 (fun _ h9 => h9) rfl dX4_add_49 ?_
      refine lv_iconst (v := 1) hx hb dX4_add_52 (by decide) ?_
      refine lv_iadd hx hb dX4_add_53 ?_
      refine lv_topi (fun nv_2 ev_2 => ?_)
      obtain rfl : nv_2 = nI (T + 1) := ev_2.trans (nI_1 T)
      refine va_put (D := D) (ci := 5) (v := .int (nI (T + 1))) (ty := .int) (C := RX4) (T := TX4) (N := 3) hx hb hts hi_X4 tyX4 tyX4_ok nmX4 hown hK.1 hP hD hS 0 rfl rfl 2 (by decide) hw_f18 (fun _ h9 => h9) rfl (by decide +kernel) rfl rfl (Nat.le_of_ble_eq_true rfl) dX4_add_54 (fun H locs hP hD hS => ?_)
      have hP : va_P D vwCl [(h0, .inr (5, [.ref h1, .ref h2, .int (nI (T + 1))])), (h1, .inl (cI, 12, .inl (upd wo T w))), (h2, .inl (cI, 12, .inl (upd cl T ((1 <<< ((nI T) &&& 31)) ||| (closF cl b 12)))))] H := hP
      have hD : va_D _ [(h0, .inr (5, [.ref h1, .ref h2, .int (nI (T + 1))])), (h1, .inl (cI, 12, .inl (upd wo T w))), (h2, .inl (cI, 12, .inl (upd cl T ((1 <<< ((nI T) &&& 31)) ||| (closF cl b 12)))))] := hD
      refine lv_iload_n hx hb dX4_add_57 rfl (lv_at hl 0 rfl) ?_
      have ew_0 : (nI (T + 1) : Int32) = if T < 12 then nI (T + 1) else nI T := by first | (have hq : T < 12 := (by omega); simp [hq]; done) | (have hq : ¬ T < 12 := (by omega); simp [hq]; done)
      have ew_1 : (upd wo T w : Nat → Int32) = if T < 12 then upd wo T w else wo := by first | (have hq : T < 12 := (by omega); simp [hq]; done) | (have hq : ¬ T < 12 := (by omega); simp [hq]; done)
      have ew_2 : (upd cl T ((1 <<< ((nI T) &&& 31)) ||| (closF cl b 12)) : Nat → Int32) = if T < 12 then upd cl T ((1 <<< (nI T &&& 31)) ||| closF cl b 12) else cl := by first | (have hq : T < 12 := (by omega); simp [hq]; done) | (have hq : ¬ T < 12 := (by omega); simp [hq]; done)
      exact kRetI hx hb hr hlk dX4_add_58 hP hD hS (Nat.le_of_ble_eq_true rfl) (Nat.le_of_ble_eq_true rfl) ⟨(kpi (by first | (have hq : T < 12 := (by omega); simp [hq]; done) | (have hq : ¬ T < 12 := (by omega); simp [hq]; done))), (kw3 (fun (z_0 : Int32) (z_1 : Nat → Int32) (z_2 : Nat → Int32) => ([(h0, .inr (5, [.ref h1, .ref h2, .int z_0])), (h1, .inl (cI, 12, .inl z_1)), (h2, .inl (cI, 12, .inl z_2))] : va_W)) ew_0 ew_1 ew_2)⟩
    · skip
      have nc_20 : ¬ T < 12 := (not_congr (nI_ltI (a := T) (b := 12) (by omega) (by omega))).mp c_20
      refine lv_iconst (v := (-1)) hx hb dX4_add_23 (by decide) ?_
      have ew_0 : (nI T : Int32) = if T < 12 then nI (T + 1) else nI T := by first | (have hq : T < 12 := (by omega); simp [hq]; done) | (have hq : ¬ T < 12 := (by omega); simp [hq]; done)
      have ew_1 : (wo : Nat → Int32) = if T < 12 then upd wo T w else wo := by first | (have hq : T < 12 := (by omega); simp [hq]; done) | (have hq : ¬ T < 12 := (by omega); simp [hq]; done)
      have ew_2 : (cl : Nat → Int32) = if T < 12 then upd cl T ((1 <<< (nI T &&& 31)) ||| closF cl b 12) else cl := by first | (have hq : T < 12 := (by omega); simp [hq]; done) | (have hq : ¬ T < 12 := (by omega); simp [hq]; done)
      exact kRetI hx hb hr hlk dX4_add_24 hP hD hS (Nat.le_of_ble_eq_true rfl) (Nat.le_of_ble_eq_true rfl) ⟨(kpi (by first | (have hq : T < 12 := (by omega); simp [hq]; done) | (have hq : ¬ T < 12 := (by omega); simp [hq]; done))), (kw3 (fun (z_0 : Int32) (z_1 : Nat → Int32) (z_2 : Nat → Int32) => ([(h0, .inr (5, [.ref h1, .ref h2, .int z_0])), (h1, .inl (cI, 12, .inl z_1)), (h2, .inl (cI, 12, .inl z_2))] : va_W)) ew_0 ew_1 ew_2)⟩

set_option maxHeartbeats 4000000 in
set_option maxRecDepth 100000 in
theorem c_X1_init (l : Launch) (D : va_G) (cI cJ cZ cO : ClassId) (h0 : Nat) (a1 : Int32) (a2 : Int32) (a3 : Int32) (a4 : Int32) (a5 : Int32) : kC l D (kTY cI cJ cZ cO) yX1_init wsX1_init 1 12 0 0 [.ref h0, .int a1, .int a2, .int a3, .int a4, .int a5] [(h0, .inr (2, [.int 0, .int 0, .int 0, .int 0, .int 0]))] (fun rv_ rw_ => rv_ = none ∧ rw_ = [(h0, .inr (2, [.int a1, .int a2, .int a3, .int a4, .int a5]))]) := by
  refine kEnter (cc := cX1_init) (maxL := 6) (ret := none) (by decide) rfl (Nat.le_of_ble_eq_true rfl) ?_
  intro p e s m args below meth c hx hb hr hml hts hown hlk hnm hK hP hD hS hA ls hl
  have hl : lv_has ls 6 [(0, .ref h0), (1, .int a1), (2, .int a2), (3, .int a3), (4, .int a4), (5, .int a5)] := hl
  have hw_m1 := hts (.methodLink RX1 1 objectInit) (by decide +kernel)
  have hw_io := hts (.instanceMethod objectInit) (by decide +kernel)
  have hw_co := hts (.code objectInit ⟨#[0xb1]⟩ 1 none) (by decide +kernel)
  have hw_f7 := hts (.fieldLink RX1 7 "WhatToRead$Piece" "needs" "I") (by decide +kernel)
  have hi_X1 : ∀ w ∈ wsX10, w ∈ wsX1_init := by decide +kernel
  have hw_f13 := hts (.fieldLink RX1 13 "WhatToRead$Piece" "either" "I") (by decide +kernel)
  have hw_f16 := hts (.fieldLink RX1 16 "WhatToRead$Piece" "given" "I") (by decide +kernel)
  have hw_f19 := hts (.fieldLink RX1 19 "WhatToRead$Piece" "skimmed" "I") (by decide +kernel)
  have hw_f22 := hts (.fieldLink RX1 22 "WhatToRead$Piece" "pages" "I") (by decide +kernel)
  refine lv_aload_n hx hb dX1_init_0 rfl (lv_at hl 0 rfl) ?_
  refine W.objInit hx hb hown hw_m1 hw_io hw_co rfl (by rw [hml]; exact hl.1) rfl dX1_init_1 (Nat.le_of_ble_eq_true rfl) (Nat.le_of_ble_eq_true rfl) ?_
  refine W.eq (g2 := F0 m 4 ls []) rfl ?_
  refine lv_aload_n hx hb dX1_init_4 rfl (lv_at hl 0 rfl) ?_
  refine lv_iload_n hx hb dX1_init_5 rfl (lv_at hl 1 rfl) ?_
  refine va_putF (D := D) (ci := 2) (v := .int a1) (ty := .int) (C := RX1) (T := TX1) (N := 5) hx hb hts hi_X1 tyX1 tyX1_ok nmX1 hown hK.1 hP hD hS 0 rfl rfl 0 (by decide) hw_f7 (fun _ h9 => h9) rfl hnm rfl (by decide +kernel) rfl rfl (Nat.le_of_ble_eq_true rfl) dX1_init_6 (fun H locs hP hD hS => ?_)
  have hP : va_P D vwCl [(h0, .inr (2, [.int a1, .int 0, .int 0, .int 0, .int 0]))] H := hP
  have hD : va_D _ [(h0, .inr (2, [.int a1, .int 0, .int 0, .int 0, .int 0]))] := hD
  refine lv_aload_n hx hb dX1_init_9 rfl (lv_at hl 0 rfl) ?_
  refine lv_iload_n hx hb dX1_init_10 rfl (lv_at hl 2 rfl) ?_
  refine va_putF (D := D) (ci := 2) (v := .int a2) (ty := .int) (C := RX1) (T := TX1) (N := 5) hx hb hts hi_X1 tyX1 tyX1_ok nmX1 hown hK.1 hP hD hS 0 rfl rfl 1 (by decide) hw_f13 (fun _ h9 => h9) rfl hnm rfl (by decide +kernel) rfl rfl (Nat.le_of_ble_eq_true rfl) dX1_init_11 (fun H locs hP hD hS => ?_)
  have hP : va_P D vwCl [(h0, .inr (2, [.int a1, .int a2, .int 0, .int 0, .int 0]))] H := hP
  have hD : va_D _ [(h0, .inr (2, [.int a1, .int a2, .int 0, .int 0, .int 0]))] := hD
  refine lv_aload_n hx hb dX1_init_14 rfl (lv_at hl 0 rfl) ?_
  refine lv_iload_n hx hb dX1_init_15 rfl (lv_at hl 3 rfl) ?_
  refine va_putF (D := D) (ci := 2) (v := .int a3) (ty := .int) (C := RX1) (T := TX1) (N := 5) hx hb hts hi_X1 tyX1 tyX1_ok nmX1 hown hK.1 hP hD hS 0 rfl rfl 2 (by decide) hw_f16 (fun _ h9 => h9) rfl hnm rfl (by decide +kernel) rfl rfl (Nat.le_of_ble_eq_true rfl) dX1_init_16 (fun H locs hP hD hS => ?_)
  have hP : va_P D vwCl [(h0, .inr (2, [.int a1, .int a2, .int a3, .int 0, .int 0]))] H := hP
  have hD : va_D _ [(h0, .inr (2, [.int a1, .int a2, .int a3, .int 0, .int 0]))] := hD
  refine lv_aload_n hx hb dX1_init_19 rfl (lv_at hl 0 rfl) ?_
  refine lv_iload hx hb dX1_init_20 (lv_at hl 4 rfl) ?_
  refine va_putF (D := D) (ci := 2) (v := .int a4) (ty := .int) (C := RX1) (T := TX1) (N := 5) hx hb hts hi_X1 tyX1 tyX1_ok nmX1 hown hK.1 hP hD hS 0 rfl rfl 3 (by decide) hw_f19 (fun _ h9 => h9) rfl hnm rfl (by decide +kernel) rfl rfl (Nat.le_of_ble_eq_true rfl) dX1_init_22 (fun H locs hP hD hS => ?_)
  have hP : va_P D vwCl [(h0, .inr (2, [.int a1, .int a2, .int a3, .int a4, .int 0]))] H := hP
  have hD : va_D _ [(h0, .inr (2, [.int a1, .int a2, .int a3, .int a4, .int 0]))] := hD
  refine lv_aload_n hx hb dX1_init_25 rfl (lv_at hl 0 rfl) ?_
  refine lv_iload hx hb dX1_init_26 (lv_at hl 5 rfl) ?_
  refine va_putF (D := D) (ci := 2) (v := .int a5) (ty := .int) (C := RX1) (T := TX1) (N := 5) hx hb hts hi_X1 tyX1 tyX1_ok nmX1 hown hK.1 hP hD hS 0 rfl rfl 4 (by decide) hw_f22 (fun _ h9 => h9) rfl hnm rfl (by decide +kernel) rfl rfl (Nat.le_of_ble_eq_true rfl) dX1_init_28 (fun H locs hP hD hS => ?_)
  have hP : va_P D vwCl [(h0, .inr (2, [.int a1, .int a2, .int a3, .int a4, .int a5]))] H := hP
  have hD : va_D _ [(h0, .inr (2, [.int a1, .int a2, .int a3, .int a4, .int a5]))] := hD
  exact kRetV hx hb hr hlk dX1_init_31 hP hD hS (Nat.le_of_ble_eq_true rfl) (Nat.le_of_ble_eq_true rfl) ⟨rfl, rfl⟩

set_option maxHeartbeats 4000000 in
set_option maxRecDepth 100000 in
theorem c_X1_isOpenTo (l : Launch) (D : va_G) (cI cJ cZ cO : ClassId) (h0 : Nat) (ne : Int32) (ei : Int32) (gv : Int32) (sk : Int32) (pg : Int32) (k : Int32) : kR l D (kTY cI cJ cZ cO) yX1_isOpenTo wsX1_isOpenTo 0 0 [.ref h0, .int k] [(h0, .inr (2, [.int ne, .int ei, .int gv, .int sk, .int pg]))] (fun rv_ => rv_ = some (.int (k01 (openB ne ei k)))) := by
  refine kEnterR (cc := cX1_isOpenTo) (maxL := 2) (ret := (some .boolean)) (by decide) rfl (Nat.le_of_ble_eq_true rfl) ?_
  intro p e s m args below meth c hx hb hr hml hts hown hlk hK hP ls hl
  have hl : lv_has ls 2 [(0, .ref h0), (1, .int k)] := hl
  have hw_f7 := hts (.fieldLink RX1 7 "WhatToRead$Piece" "needs" "I") (by decide +kernel)
  have hi_X1 : ∀ w ∈ wsX10, w ∈ wsX1_isOpenTo := by decide +kernel
  have hw_f13 := hts (.fieldLink RX1 13 "WhatToRead$Piece" "either" "I") (by decide +kernel)
  refine lv_iload_n hx hb dX1_isOpenTo_0 rfl (lv_at hl 1 rfl) ?_
  refine lv_aload_n hx hb dX1_isOpenTo_1 rfl (lv_at hl 0 rfl) ?_
  refine va_get (D := D) (ci := 2) (v := .int ne) (C := RX1) (T := TX1) (N := 5) hx hb hts hi_X1 hown hK.1 hP 0 rfl rfl 0 (by decide) hw_f7 (fun _ h9 => h9) rfl dX1_isOpenTo_2 ?_
  refine lv_iand hx hb dX1_isOpenTo_5 ?_
  refine lv_aload_n hx hb dX1_isOpenTo_6 rfl (lv_at hl 0 rfl) ?_
  refine va_get (D := D) (ci := 2) (v := .int ne) (C := RX1) (T := TX1) (N := 5) hx hb hts hi_X1 hown hK.1 hP 0 rfl rfl 0 (by decide) hw_f7 (fun _ h9 => h9) rfl dX1_isOpenTo_7 ?_
  refine lv_icmp_ne (tgt := 33) hx hb dX1_isOpenTo_10 (by decide) (fun c_10 => ?_) (fun c_10 => ?_)
  · skip
    refine lv_iconst (v := 0) hx hb dX1_isOpenTo_33 (by decide) ?_
    exact kRetZr (openB ne ei k) (by first | rfl | (rw [ex, e12]; done) | (rw [em, e12]; done) | (rw [ey, e12]; done) | (rw [e12]; done) | (simp [openB, k01, c_10]; done) | (simp_all [openB, k01]; done)) hx hb hr hlk dX1_isOpenTo_34 rfl
  · skip
    refine lv_aload_n hx hb dX1_isOpenTo_13 rfl (lv_at hl 0 rfl) ?_
    refine va_get (D := D) (ci := 2) (v := .int ei) (C := RX1) (T := TX1) (N := 5) hx hb hts hi_X1 hown hK.1 hP 0 rfl rfl 1 (by decide) hw_f13 (fun _ h9 => h9) rfl dX1_isOpenTo_14 ?_
    refine lv_if_eq (tgt := 29) hx hb dX1_isOpenTo_17 (by decide) (fun c_17 => ?_) (fun c_17 => ?_)
    · skip
      refine lv_iconst (v := 1) hx hb dX1_isOpenTo_29 (by decide) ?_
      refine lv_goto (tgt := 34) hx hb dX1_isOpenTo_30 (by decide) ?_
      exact kRetZr (openB ne ei k) (by first | rfl | (rw [ex, e12]; done) | (rw [em, e12]; done) | (rw [ey, e12]; done) | (rw [e12]; done) | (simp [openB, k01, c_10, c_17]; done) | (simp_all [openB, k01]; done)) hx hb hr hlk dX1_isOpenTo_34 rfl
    · skip
      refine lv_iload_n hx hb dX1_isOpenTo_20 rfl (lv_at hl 1 rfl) ?_
      refine lv_aload_n hx hb dX1_isOpenTo_21 rfl (lv_at hl 0 rfl) ?_
      refine va_get (D := D) (ci := 2) (v := .int ei) (C := RX1) (T := TX1) (N := 5) hx hb hts hi_X1 hown hK.1 hP 0 rfl rfl 1 (by decide) hw_f13 (fun _ h9 => h9) rfl dX1_isOpenTo_22 ?_
      refine lv_iand hx hb dX1_isOpenTo_25 ?_
      refine lv_if_eq (tgt := 33) hx hb dX1_isOpenTo_26 (by decide) (fun c_26 => ?_) (fun c_26 => ?_)
      · skip
        refine lv_iconst (v := 0) hx hb dX1_isOpenTo_33 (by decide) ?_
        exact kRetZr (openB ne ei k) (by first | rfl | (rw [ex, e12]; done) | (rw [em, e12]; done) | (rw [ey, e12]; done) | (rw [e12]; done) | (simp [openB, k01, c_10, c_17, c_26]; done) | (simp_all [openB, k01]; done)) hx hb hr hlk dX1_isOpenTo_34 rfl
      · skip
        refine lv_iconst (v := 1) hx hb dX1_isOpenTo_29 (by decide) ?_
        refine lv_goto (tgt := 34) hx hb dX1_isOpenTo_30 (by decide) ?_
        exact kRetZr (openB ne ei k) (by first | rfl | (rw [ex, e12]; done) | (rw [em, e12]; done) | (rw [ey, e12]; done) | (rw [e12]; done) | (simp [openB, k01, c_10, c_17, c_26]; done) | (simp_all [openB, k01]; done)) hx hb hr hlk dX1_isOpenTo_34 rfl

set_option maxHeartbeats 4000000 in
set_option maxRecDepth 100000 in
theorem c_X1_needed (l : Launch) (D : va_G) (cI cJ cZ cO : ClassId) (h0 : Nat) (ne : Int32) (ei : Int32) (gv : Int32) (sk : Int32) (pg : Int32) : kR l D (kTY cI cJ cZ cO) yX1_needed wsX1_needed 0 0 [.ref h0] [(h0, .inr (2, [.int ne, .int ei, .int gv, .int sk, .int pg]))] (fun rv_ => rv_ = some (.int ne)) := by
  refine kEnterR (cc := cX1_needed) (maxL := 1) (ret := (some .int)) (by decide) rfl (Nat.le_of_ble_eq_true rfl) ?_
  intro p e s m args below meth c hx hb hr hml hts hown hlk hK hP ls hl
  have hl : lv_has ls 1 [(0, .ref h0)] := hl
  have hw_f7 := hts (.fieldLink RX1 7 "WhatToRead$Piece" "needs" "I") (by decide +kernel)
  have hi_X1 : ∀ w ∈ wsX10, w ∈ wsX1_needed := by decide +kernel
  refine lv_aload_n hx hb dX1_needed_0 rfl (lv_at hl 0 rfl) ?_
  refine va_get (D := D) (ci := 2) (v := .int ne) (C := RX1) (T := TX1) (N := 5) hx hb hts hi_X1 hown hK.1 hP 0 rfl rfl 0 (by decide) hw_f7 (fun _ h9 => h9) rfl dX1_needed_1 ?_
  exact kRetIr hx hb hr hlk dX1_needed_4 rfl

set_option maxHeartbeats 4000000 in
set_option maxRecDepth 100000 in
theorem c_X1_brings (l : Launch) (D : va_G) (cI cJ cZ cO : ClassId) (h0 : Nat) (ne : Int32) (ei : Int32) (gv : Int32) (sk : Int32) (pg : Int32) (s1 : Bool) : kR l D (kTY cI cJ cZ cO) yX1_brings wsX1_brings 0 0 [.ref h0, .int (k01 s1)] [(h0, .inr (2, [.int ne, .int ei, .int gv, .int sk, .int pg]))] (fun rv_ => rv_ = some (.int (if s1 then sk else gv))) := by
  refine kEnterR (cc := cX1_brings) (maxL := 2) (ret := (some .int)) (by decide) rfl (Nat.le_of_ble_eq_true rfl) ?_
  intro p e s m args below meth c hx hb hr hml hts hown hlk hK hP ls hl
  have hl : lv_has ls 2 [(0, .ref h0), (1, .int (k01 s1))] := hl
  have hw_f16 := hts (.fieldLink RX1 16 "WhatToRead$Piece" "given" "I") (by decide +kernel)
  have hi_X1 : ∀ w ∈ wsX10, w ∈ wsX1_brings := by decide +kernel
  have hw_f19 := hts (.fieldLink RX1 19 "WhatToRead$Piece" "skimmed" "I") (by decide +kernel)
  refine lv_iload_n hx hb dX1_brings_0 rfl (lv_at hl 1 rfl) ?_
  refine lv_if_eq (tgt := 11) hx hb dX1_brings_1 (by decide) (fun c_1 => ?_) (fun c_1 => ?_)
  · skip
    have c_1 := k01_z c_1
    refine lv_aload_n hx hb dX1_brings_11 rfl (lv_at hl 0 rfl) ?_
    refine va_get (D := D) (ci := 2) (v := .int gv) (C := RX1) (T := TX1) (N := 5) hx hb hts hi_X1 hown hK.1 hP 0 rfl rfl 2 (by decide) hw_f16 (fun _ h9 => h9) rfl dX1_brings_12 ?_
    exact kRetIr hx hb hr hlk dX1_brings_15 (kpi (by first | rfl | (rw [ex, e12]; done) | (rw [em, e12]; done) | (rw [ey, e12]; done) | (rw [e12]; done) | (simp [c_1]; done) | (simp_all []; done)))
  · skip
    have c_1 := k01_n c_1
    refine lv_aload_n hx hb dX1_brings_4 rfl (lv_at hl 0 rfl) ?_
    refine va_get (D := D) (ci := 2) (v := .int sk) (C := RX1) (T := TX1) (N := 5) hx hb hts hi_X1 hown hK.1 hP 0 rfl rfl 3 (by decide) hw_f19 (fun _ h9 => h9) rfl dX1_brings_5 ?_
    refine lv_goto (tgt := 15) hx hb dX1_brings_8 (by decide) ?_
    exact kRetIr hx hb hr hlk dX1_brings_15 (kpi (by first | rfl | (rw [ex, e12]; done) | (rw [em, e12]; done) | (rw [ey, e12]; done) | (rw [e12]; done) | (simp [c_1]; done) | (simp_all []; done)))

set_option maxHeartbeats 4000000 in
set_option maxRecDepth 100000 in
theorem c_X1_minutesAt (l : Launch) (D : va_G) (cI cJ cZ cO : ClassId) (h0 : Nat) (ne : Int32) (ei : Int32) (gv : Int32) (sk : Int32) (pg : Int32) (v : Int32) (s1 : Bool) : kR l D (kTY cI cJ cZ cO) yX1_minutesAt wsX1_minutesAt 0 0 [.ref h0, .int v, .int (k01 s1)] [(h0, .inr (2, [.int ne, .int ei, .int gv, .int sk, .int pg]))] (fun rv_ => rv_ = some (.int (timeF pg v s1))) := by
  refine kEnterR (cc := cX1_minutesAt) (maxL := 4) (ret := (some .int)) (by decide) rfl (Nat.le_of_ble_eq_true rfl) ?_
  intro p e s m args below meth c hx hb hr hml hts hown hlk hK hP ls hl
  have hl : lv_has ls 4 [(0, .ref h0), (1, .int v), (2, .int (k01 s1))] := hl
  have hw_f22 := hts (.fieldLink RX1 22 "WhatToRead$Piece" "pages" "I") (by decide +kernel)
  have hi_X1 : ∀ w ∈ wsX10, w ∈ wsX1_minutesAt := by decide +kernel
  refine lv_aload_n hx hb dX1_minutesAt_0 rfl (lv_at hl 0 rfl) ?_
  refine va_get (D := D) (ci := 2) (v := .int pg) (C := RX1) (T := TX1) (N := 5) hx hb hts hi_X1 hown hK.1 hP 0 rfl rfl 4 (by decide) hw_f22 (fun _ h9 => h9) rfl dX1_minutesAt_1 ?_
  refine lv_iload_n hx hb dX1_minutesAt_4 rfl (lv_at hl 1 rfl) ?_
  refine lv_imul hx hb dX1_minutesAt_5 ?_
  refine lv_istore_n (lv' := [(3, .int (pg * v)), (0, .ref h0), (1, .int v), (2, .int (k01 s1))]) hx hb dX1_minutesAt_6 rfl hl (by decide) rfl (fun ls hl => ?_)
  refine lv_iload_n hx hb dX1_minutesAt_7 rfl (lv_at hl 3 rfl) ?_
  refine lv_if_eq (tgt := 19) hx hb dX1_minutesAt_8 (by decide) (fun c_8 => ?_) (fun c_8 => ?_)
  · skip
    have c_8 := k01_z c_8
    refine lv_iload_n hx hb dX1_minutesAt_19 rfl (lv_at hl 0 rfl) ?_
    exact kRetIr hx hb hr hlk dX1_minutesAt_20 (kpi (by first | rfl | (rw [ex, e12]; done) | (rw [em, e12]; done) | (rw [ey, e12]; done) | (rw [e12]; done) | (simp [timeF, c_8]; done) | (simp_all [timeF]; done)))
  · skip
    have c_8 := k01_n c_8
    refine lv_iload_n hx hb dX1_minutesAt_11 rfl (lv_at hl 0 rfl) ?_
    refine lv_iconst (v := 2) hx hb dX1_minutesAt_12 (by decide) ?_
    refine lv_iadd hx hb dX1_minutesAt_13 ?_
    refine lv_iconst (v := 3) hx hb dX1_minutesAt_14 (by decide) ?_
    refine lv_idiv hx hb dX1_minutesAt_15 (by decide) ?_
    refine lv_goto (tgt := 20) hx hb dX1_minutesAt_16 (by decide) ?_
    exact kRetIr hx hb hr hlk dX1_minutesAt_20 (kpi (by first | rfl | (rw [ex, e12]; done) | (rw [em, e12]; done) | (rw [ey, e12]; done) | (rw [e12]; done) | (simp [timeF, c_8]; done) | (simp_all [timeF]; done)))

set_option maxHeartbeats 4000000 in
set_option maxRecDepth 100000 in
theorem c_X2_init (l : Launch) (D : va_G) (cI cJ cZ cO : ClassId) (h0 : Nat) : kC l D (kTY cI cJ cZ cO) yX2_init wsX2_init 1 12 1 12 [.ref h0] [(h0, .inr (3, [.null, .int 0]))] (fun rv_ rw_ => ∃ q1 : Nat, rv_ = none ∧ rw_ = [(h0, .inr (3, [.ref q1, .int 0])), (q1, .inl (cI, 12, .inl (fun _ => 0)))]) := by
  refine kEnter (cc := cX2_init) (maxL := 1) (ret := none) (by decide) rfl (Nat.le_of_ble_eq_true rfl) ?_
  intro p e s m args below meth c hx hb hr hml hts hown hlk hnm hK hP hD hS hA ls hl
  have hl : lv_has ls 1 [(0, .ref h0)] := hl
  have hw_m3 := hts (.methodLink RX2 3 objectInit) (by decide +kernel)
  have hw_io := hts (.instanceMethod objectInit) (by decide +kernel)
  have hw_co := hts (.code objectInit ⟨#[0xb1]⟩ 1 none) (by decide +kernel)
  have hw_aI := hts (.arrayClass .int) (by decide +kernel)
  have hw_f9 := hts (.fieldLink RX2 9 "WhatToRead$Row" "items" "[I") (by decide +kernel)
  have hi_X2 : ∀ w ∈ wsX20, w ∈ wsX2_init := by decide +kernel
  have hw_f15 := hts (.fieldLink RX2 15 "WhatToRead$Row" "count" "I") (by decide +kernel)
  refine lv_aload_n hx hb dX2_init_0 rfl (lv_at hl 0 rfl) ?_
  refine W.objInit hx hb hown hw_m3 hw_io hw_co rfl (by rw [hml]; exact hl.1) rfl dX2_init_1 (Nat.le_of_ble_eq_true rfl) (Nat.le_of_ble_eq_true rfl) ?_
  refine W.eq (g2 := F0 m 4 ls []) rfl ?_
  refine lv_aload_n hx hb dX2_init_4 rfl (lv_at hl 0 rfl) ?_
  refine lv_bipush (v := 12) hx hb dX2_init_5 (by decide) ?_
  refine kNewaI (N' := 12) hx hb hw_aI hK.1 hP hD hS hA (by decide) (by decide) (Nat.le_of_ble_eq_true rfl) (Nat.le_of_ble_eq_true rfl) (Nat.le_of_ble_eq_true rfl) dX2_init_7 (fun q1 H hP hD hS => ?_)
  have hP : va_P D vwCl [(h0, .inr (3, [.null, .int 0])), (q1, .inl (cI, 12, .inl (fun _ => 0)))] H := hP
  have hD : va_D _ [(h0, .inr (3, [.null, .int 0])), (q1, .inl (cI, 12, .inl (fun _ => 0)))] := hD
  refine va_putF (D := D) (ci := 3) (v := .ref q1) (ty := .array .int) (C := RX2) (T := TX2) (N := 2) hx hb hts hi_X2 tyX2 tyX2_ok nmX2 hown hK.1 hP hD hS 0 rfl rfl 0 (by decide) hw_f9 (fun _ h9 => h9) rfl hnm rfl (by decide +kernel) rfl rfl (Nat.le_of_ble_eq_true rfl) dX2_init_9 (fun H locs hP hD hS => ?_)
  have hP : va_P D vwCl [(h0, .inr (3, [.ref q1, .int 0])), (q1, .inl (cI, 12, .inl (fun _ => 0)))] H := hP
  have hD : va_D _ [(h0, .inr (3, [.ref q1, .int 0])), (q1, .inl (cI, 12, .inl (fun _ => 0)))] := hD
  refine lv_aload_n hx hb dX2_init_12 rfl (lv_at hl 0 rfl) ?_
  refine lv_iconst (v := 0) hx hb dX2_init_13 (by decide) ?_
  refine va_put (D := D) (ci := 3) (v := .int 0) (ty := .int) (C := RX2) (T := TX2) (N := 2) hx hb hts hi_X2 tyX2 tyX2_ok nmX2 hown hK.1 hP hD hS 0 rfl rfl 1 (by decide) hw_f15 (fun _ h9 => h9) rfl (by decide +kernel) rfl rfl (Nat.le_of_ble_eq_true rfl) dX2_init_14 (fun H locs hP hD hS => ?_)
  have hP : va_P D vwCl [(h0, .inr (3, [.ref q1, .int 0])), (q1, .inl (cI, 12, .inl (fun _ => 0)))] H := hP
  have hD : va_D _ [(h0, .inr (3, [.ref q1, .int 0])), (q1, .inl (cI, 12, .inl (fun _ => 0)))] := hD
  exact kRetV hx hb hr hlk dX2_init_17 hP hD hS (Nat.le_of_ble_eq_true rfl) (Nat.le_of_ble_eq_true rfl) ⟨q1, rfl, rfl⟩

set_option maxHeartbeats 4000000 in
set_option maxRecDepth 100000 in
theorem c_X2_size (l : Launch) (D : va_G) (cI cJ cZ cO : ClassId) (h0 : Nat) (h1 : Nat) (n : Int32) (f : Nat → Int32) : kR l D (kTY cI cJ cZ cO) yX2_size wsX2_size 0 0 [.ref h0] [(h0, .inr (3, [.ref h1, .int n])), (h1, .inl (cI, 12, .inl f))] (fun rv_ => rv_ = some (.int n)) := by
  refine kEnterR (cc := cX2_size) (maxL := 1) (ret := (some .int)) (by decide) rfl (Nat.le_of_ble_eq_true rfl) ?_
  intro p e s m args below meth c hx hb hr hml hts hown hlk hK hP ls hl
  have hl : lv_has ls 1 [(0, .ref h0)] := hl
  have hw_f15 := hts (.fieldLink RX2 15 "WhatToRead$Row" "count" "I") (by decide +kernel)
  have hi_X2 : ∀ w ∈ wsX20, w ∈ wsX2_size := by decide +kernel
  refine lv_aload_n hx hb dX2_size_0 rfl (lv_at hl 0 rfl) ?_
  refine va_get (D := D) (ci := 3) (v := .int n) (C := RX2) (T := TX2) (N := 2) hx hb hts hi_X2 hown hK.1 hP 0 rfl rfl 1 (by decide) hw_f15 (fun _ h9 => h9) rfl dX2_size_1 ?_
  exact kRetIr hx hb hr hlk dX2_size_4 rfl

set_option maxHeartbeats 4000000 in
set_option maxRecDepth 100000 in
theorem c_X2_at (l : Launch) (D : va_G) (cI cJ cZ cO : ClassId) (h0 : Nat) (h1 : Nat) (n : Int32) (f : Nat → Int32) (i : Int32) : kR l D (kTY cI cJ cZ cO) yX2_at wsX2_at 0 0 [.ref h0, .int i] [(h0, .inr (3, [.ref h1, .int n])), (h1, .inl (cI, 12, .inl f))] (fun rv_ => rv_ = some (.int (rowAt f n i))) := by
  refine kEnterR (cc := cX2_at) (maxL := 2) (ret := (some .int)) (by decide) rfl (Nat.le_of_ble_eq_true rfl) ?_
  intro p e s m args below meth c hx hb hr hml hts hown hlk hK hP ls hl
  have hl : lv_has ls 2 [(0, .ref h0), (1, .int i)] := hl
  have hw_f15 := hts (.fieldLink RX2 15 "WhatToRead$Row" "count" "I") (by decide +kernel)
  have hi_X2 : ∀ w ∈ wsX20, w ∈ wsX2_at := by decide +kernel
  have hw_f9 := hts (.fieldLink RX2 9 "WhatToRead$Row" "items" "[I") (by decide +kernel)
  refine lv_iload_n hx hb dX2_at_0 rfl (lv_at hl 1 rfl) ?_
  refine lv_if_lt (tgt := 30) hx hb dX2_at_1 (by decide) (fun c_1 => ?_) (fun c_1 => ?_)
  · skip
    refine lv_iconst (v := (-1)) hx hb dX2_at_30 (by decide) ?_
    exact kRetIr hx hb hr hlk dX2_at_31 (kpi (by first | rfl | (rw [ex, e12]; done) | (rw [em, e12]; done) | (rw [ey, e12]; done) | (rw [e12]; done) | (simp [rowAt, c_1]; done) | (simp_all [rowAt]; done)))
  · skip
    refine lv_iload_n hx hb dX2_at_4 rfl (lv_at hl 1 rfl) ?_
    refine lv_aload_n hx hb dX2_at_5 rfl (lv_at hl 0 rfl) ?_
    refine va_get (D := D) (ci := 3) (v := .int n) (C := RX2) (T := TX2) (N := 2) hx hb hts hi_X2 hown hK.1 hP 0 rfl rfl 1 (by decide) hw_f15 (fun _ h9 => h9) rfl dX2_at_6 ?_
    refine lv_icmp_ge (tgt := 30) hx hb dX2_at_9 (by decide) (fun c_9 => ?_) (fun c_9 => ?_)
    · skip
      refine lv_iconst (v := (-1)) hx hb dX2_at_30 (by decide) ?_
      exact kRetIr hx hb hr hlk dX2_at_31 (kpi (by first | rfl | (rw [ex, e12]; done) | (rw [em, e12]; done) | (rw [ey, e12]; done) | (rw [e12]; done) | (simp [rowAt, c_1, c_9]; done) | (simp_all [rowAt]; done)))
    · skip
      refine lv_iload_n hx hb dX2_at_12 rfl (lv_at hl 1 rfl) ?_
      refine lv_aload_n hx hb dX2_at_13 rfl (lv_at hl 0 rfl) ?_
      refine va_get (D := D) (ci := 3) (v := .ref h1) (C := RX2) (T := TX2) (N := 2) hx hb hts hi_X2 hown hK.1 hP 0 rfl rfl 0 (by decide) hw_f9 (fun _ h9 => h9) rfl dX2_at_14 ?_
      refine va_alen (v := 12) hx hb hK.1 hP 1 0 rfl rfl rfl dX2_at_17 ?_
      refine lv_icmp_ge (tgt := 30) hx hb dX2_at_18 (by decide) (fun c_18 => ?_) (fun c_18 => ?_)
      · skip
        refine lv_iconst (v := (-1)) hx hb dX2_at_30 (by decide) ?_
        exact kRetIr hx hb hr hlk dX2_at_31 (kpi (by first | rfl | (rw [ex, e12]; done) | (rw [em, e12]; done) | (rw [ey, e12]; done) | (rw [e12]; done) | (simp [rowAt, c_1, c_9, c_18]; done) | (simp_all [rowAt]; done)))
      · skip
        refine lv_aload_n hx hb dX2_at_21 rfl (lv_at hl 0 rfl) ?_
        refine va_get (D := D) (ci := 3) (v := .ref h1) (C := RX2) (T := TX2) (N := 2) hx hb hts hi_X2 hown hK.1 hP 0 rfl rfl 0 (by decide) hw_f9 (fun _ h9 => h9) rfl dX2_at_22 ?_
        refine lv_iload_n hx hb dX2_at_25 rfl (lv_at hl 1 rfl) ?_
        refine va_iald hx hb hK.1 hP 1 0 rfl rfl (kin 12 rfl (by decide) c_1 c_18) dX2_at_26 ?_
        refine lv_goto (tgt := 31) hx hb dX2_at_27 (by decide) ?_
        exact kRetIr hx hb hr hlk dX2_at_31 (kpi (by first | rfl | (rw [ex, e12]; done) | (rw [em, e12]; done) | (rw [ey, e12]; done) | (rw [e12]; done) | (simp [rowAt, c_1, c_9, c_18]; done) | (simp_all [rowAt]; done)))

set_option maxHeartbeats 4000000 in
set_option maxRecDepth 100000 in
theorem c_X2_clear (l : Launch) (D : va_G) (cI cJ cZ cO : ClassId) (h0 : Nat) (h1 : Nat) (n : Int32) (f : Nat → Int32) : kC l D (kTY cI cJ cZ cO) yX2_clear wsX2_clear 0 0 0 0 [.ref h0] [(h0, .inr (3, [.ref h1, .int n])), (h1, .inl (cI, 12, .inl f))] (fun rv_ rw_ => rv_ = none ∧ rw_ = [(h0, .inr (3, [.ref h1, .int 0])), (h1, .inl (cI, 12, .inl f))]) := by
  refine kEnter (cc := cX2_clear) (maxL := 1) (ret := none) (by decide) rfl (Nat.le_of_ble_eq_true rfl) ?_
  intro p e s m args below meth c hx hb hr hml hts hown hlk hnm hK hP hD hS hA ls hl
  have hl : lv_has ls 1 [(0, .ref h0)] := hl
  have hw_f15 := hts (.fieldLink RX2 15 "WhatToRead$Row" "count" "I") (by decide +kernel)
  have hi_X2 : ∀ w ∈ wsX20, w ∈ wsX2_clear := by decide +kernel
  refine lv_aload_n hx hb dX2_clear_0 rfl (lv_at hl 0 rfl) ?_
  refine lv_iconst (v := 0) hx hb dX2_clear_1 (by decide) ?_
  refine va_put (D := D) (ci := 3) (v := .int 0) (ty := .int) (C := RX2) (T := TX2) (N := 2) hx hb hts hi_X2 tyX2 tyX2_ok nmX2 hown hK.1 hP hD hS 0 rfl rfl 1 (by decide) hw_f15 (fun _ h9 => h9) rfl (by decide +kernel) rfl rfl (Nat.le_of_ble_eq_true rfl) dX2_clear_2 (fun H locs hP hD hS => ?_)
  have hP : va_P D vwCl [(h0, .inr (3, [.ref h1, .int 0])), (h1, .inl (cI, 12, .inl f))] H := hP
  have hD : va_D _ [(h0, .inr (3, [.ref h1, .int 0])), (h1, .inl (cI, 12, .inl f))] := hD
  exact kRetV hx hb hr hlk dX2_clear_5 hP hD hS (Nat.le_of_ble_eq_true rfl) (Nat.le_of_ble_eq_true rfl) ⟨rfl, rfl⟩

set_option maxHeartbeats 4000000 in
set_option maxRecDepth 100000 in
theorem c_X2_add_a (l : Launch) (D : va_G) (cI cJ cZ cO : ClassId) (h0 : Nat) (h1 : Nat) (n : Int32) (f : Nat → Int32) (x : Int32) : kC l D (kTY cI cJ cZ cO) yX2_add wsX2_add 0 0 0 0 [.ref h0, .int x] [(h0, .inr (3, [.ref h1, .int n])), (h1, .inl (cI, 12, .inl f))] (fun rv_ rw_ => rv_ = none ∧ rw_ = [(h0, .inr (3, [.ref h1, .int (if ¬ n < 0 ∧ ¬ 12 ≤ n then n + 1 else n)])), (h1, .inl (cI, 12, .inl (if ¬ n < 0 ∧ ¬ 12 ≤ n then upd f n.toNatClampNeg x else f)))]) := by
  refine kEnter (cc := cX2_add) (maxL := 2) (ret := none) (by decide) rfl (Nat.le_of_ble_eq_true rfl) ?_
  intro p e s m args below meth c hx hb hr hml hts hown hlk hnm hK hP hD hS hA ls hl
  have hl : lv_has ls 2 [(0, .ref h0), (1, .int x)] := hl
  have hw_f15 := hts (.fieldLink RX2 15 "WhatToRead$Row" "count" "I") (by decide +kernel)
  have hi_X2 : ∀ w ∈ wsX20, w ∈ wsX2_add := by decide +kernel
  have hw_f9 := hts (.fieldLink RX2 9 "WhatToRead$Row" "items" "[I") (by decide +kernel)
  refine lv_aload_n hx hb dX2_add_0 rfl (lv_at hl 0 rfl) ?_
  refine va_get (D := D) (ci := 3) (v := .int n) (C := RX2) (T := TX2) (N := 2) hx hb hts hi_X2 hown hK.1 hP 0 rfl rfl 1 (by decide) hw_f15 (fun _ h9 => h9) rfl dX2_add_1 ?_
  refine lv_if_lt (tgt := 39) hx hb dX2_add_4 (by decide) (fun c_4 => ?_) (fun c_4 => ?_)
  · skip
    have ew_0 : (n : Int32) = if ¬ n < 0 ∧ ¬ 12 ≤ n then n + 1 else n := by first | rfl | (rw [ex, e12]; done) | (rw [em, e12]; done) | (rw [ey, e12]; done) | (rw [e12]; done) | (simp [c_4]; done) | (simp_all []; done)
    have ew_1 : (f : Nat → Int32) = if ¬ n < 0 ∧ ¬ 12 ≤ n then upd f n.toNatClampNeg x else f := by first | rfl | (rw [ex, e12]; done) | (rw [em, e12]; done) | (rw [ey, e12]; done) | (rw [e12]; done) | (simp [c_4]; done) | (simp_all []; done)
    exact kRetV hx hb hr hlk dX2_add_39 hP hD hS (Nat.le_of_ble_eq_true rfl) (Nat.le_of_ble_eq_true rfl) ⟨rfl, (kw2 (fun (z_0 : Int32) (z_1 : Nat → Int32) => ([(h0, .inr (3, [.ref h1, .int z_0])), (h1, .inl (cI, 12, .inl z_1))] : va_W)) ew_0 ew_1)⟩
  · skip
    refine lv_aload_n hx hb dX2_add_7 rfl (lv_at hl 0 rfl) ?_
    refine va_get (D := D) (ci := 3) (v := .int n) (C := RX2) (T := TX2) (N := 2) hx hb hts hi_X2 hown hK.1 hP 0 rfl rfl 1 (by decide) hw_f15 (fun _ h9 => h9) rfl dX2_add_8 ?_
    refine lv_aload_n hx hb dX2_add_11 rfl (lv_at hl 0 rfl) ?_
    refine va_get (D := D) (ci := 3) (v := .ref h1) (C := RX2) (T := TX2) (N := 2) hx hb hts hi_X2 hown hK.1 hP 0 rfl rfl 0 (by decide) hw_f9 (fun _ h9 => h9) rfl dX2_add_12 ?_
    refine va_alen (v := 12) hx hb hK.1 hP 1 0 rfl rfl rfl dX2_add_15 ?_
    refine lv_icmp_ge (tgt := 39) hx hb dX2_add_16 (by decide) (fun c_16 => ?_) (fun c_16 => ?_)
    · skip
      have ew_0 : (n : Int32) = if ¬ n < 0 ∧ ¬ 12 ≤ n then n + 1 else n := by first | rfl | (rw [ex, e12]; done) | (rw [em, e12]; done) | (rw [ey, e12]; done) | (rw [e12]; done) | (simp [c_4, c_16]; done) | (simp_all []; done)
      have ew_1 : (f : Nat → Int32) = if ¬ n < 0 ∧ ¬ 12 ≤ n then upd f n.toNatClampNeg x else f := by first | rfl | (rw [ex, e12]; done) | (rw [em, e12]; done) | (rw [ey, e12]; done) | (rw [e12]; done) | (simp [c_4, c_16]; done) | (simp_all []; done)
      exact kRetV hx hb hr hlk dX2_add_39 hP hD hS (Nat.le_of_ble_eq_true rfl) (Nat.le_of_ble_eq_true rfl) ⟨rfl, (kw2 (fun (z_0 : Int32) (z_1 : Nat → Int32) => ([(h0, .inr (3, [.ref h1, .int z_0])), (h1, .inl (cI, 12, .inl z_1))] : va_W)) ew_0 ew_1)⟩
    · skip
      refine lv_aload_n hx hb dX2_add_19 rfl (lv_at hl 0 rfl) ?_
      refine va_get (D := D) (ci := 3) (v := .ref h1) (C := RX2) (T := TX2) (N := 2) hx hb hts hi_X2 hown hK.1 hP 0 rfl rfl 0 (by decide) hw_f9 (fun _ h9 => h9) rfl dX2_add_20 ?_
      refine lv_aload_n hx hb dX2_add_23 rfl (lv_at hl 0 rfl) ?_
      refine va_get (D := D) (ci := 3) (v := .int n) (C := RX2) (T := TX2) (N := 2) hx hb hts hi_X2 hown hK.1 hP 0 rfl rfl 1 (by decide) hw_f15 (fun _ h9 => h9) rfl dX2_add_24 ?_
      refine lv_iload_n hx hb dX2_add_27 rfl (lv_at hl 1 rfl) ?_
      refine va_iast hx hb hK.1 hP hD hS 1 0 rfl rfl (kin 12 rfl (by decide) c_4 c_16) dX2_add_28 (fun H locs hP hD hS => ?_)
      have hP : va_P D vwCl [(h0, .inr (3, [.ref h1, .int n])), (h1, .inl (cI, 12, .inl (upd f (n).toNatClampNeg x)))] H := hP
      have hD : va_D _ [(h0, .inr (3, [.ref h1, .int n])), (h1, .inl (cI, 12, .inl (upd f (n).toNatClampNeg x)))] := hD
      refine lv_aload_n hx hb dX2_add_29 rfl (lv_at hl 0 rfl) ?_
      refine lv_dup hx hb dX2_add_30 rfl ?_
      refine va_get (D := D) (ci := 3) (v := .int n) (C := RX2) (T := TX2) (N := 2) hx hb hts hi_X2 hown hK.1 hP 0 rfl rfl 1 (by decide) hw_f15 (fun _ h9 => h9) rfl dX2_add_31 ?_
      refine lv_iconst (v := 1) hx hb dX2_add_34 (by decide) ?_
      refine lv_iadd hx hb dX2_add_35 ?_
      refine va_put (D := D) (ci := 3) (v := .int (n + 1)) (ty := .int) (C := RX2) (T := TX2) (N := 2) hx hb hts hi_X2 tyX2 tyX2_ok nmX2 hown hK.1 hP hD hS 0 rfl rfl 1 (by decide) hw_f15 (fun _ h9 => h9) rfl (by decide +kernel) rfl rfl (Nat.le_of_ble_eq_true rfl) dX2_add_36 (fun H locs hP hD hS => ?_)
      have hP : va_P D vwCl [(h0, .inr (3, [.ref h1, .int (n + 1)])), (h1, .inl (cI, 12, .inl (upd f (n).toNatClampNeg x)))] H := hP
      have hD : va_D _ [(h0, .inr (3, [.ref h1, .int (n + 1)])), (h1, .inl (cI, 12, .inl (upd f (n).toNatClampNeg x)))] := hD
      have ew_0 : (n + 1 : Int32) = if ¬ n < 0 ∧ ¬ 12 ≤ n then n + 1 else n := by first | rfl | (rw [ex, e12]; done) | (rw [em, e12]; done) | (rw [ey, e12]; done) | (rw [e12]; done) | (simp [c_4, c_16]; done) | (simp_all []; done)
      have ew_1 : (upd f (n).toNatClampNeg x : Nat → Int32) = if ¬ n < 0 ∧ ¬ 12 ≤ n then upd f n.toNatClampNeg x else f := by first | rfl | (rw [ex, e12]; done) | (rw [em, e12]; done) | (rw [ey, e12]; done) | (rw [e12]; done) | (simp [c_4, c_16]; done) | (simp_all []; done)
      exact kRetV hx hb hr hlk dX2_add_39 hP hD hS (Nat.le_of_ble_eq_true rfl) (Nat.le_of_ble_eq_true rfl) ⟨rfl, (kw2 (fun (z_0 : Int32) (z_1 : Nat → Int32) => ([(h0, .inr (3, [.ref h1, .int z_0])), (h1, .inl (cI, 12, .inl z_1))] : va_W)) ew_0 ew_1)⟩

set_option maxHeartbeats 4000000 in
set_option maxRecDepth 100000 in
theorem c_X2_add_b (l : Launch) (D : va_G) (cI cJ cZ cO : ClassId) (h0 : Nat) (h1 : Nat) (k : Nat) (f : Nat → Int32) (x : Int32) (hk : k < 12) : kC l D (kTY cI cJ cZ cO) yX2_add wsX2_add 0 0 0 0 [.ref h0, .int x] [(h0, .inr (3, [.ref h1, .int (nI k)])), (h1, .inl (cI, 12, .inl f))] (fun rv_ rw_ => rv_ = none ∧ rw_ = [(h0, .inr (3, [.ref h1, .int (nI (k + 1))])), (h1, .inl (cI, 12, .inl (upd f k x)))]) := by
  refine kEnter (cc := cX2_add) (maxL := 2) (ret := none) (by decide) rfl (Nat.le_of_ble_eq_true rfl) ?_
  intro p e s m args below meth c hx hb hr hml hts hown hlk hnm hK hP hD hS hA ls hl
  have hl : lv_has ls 2 [(0, .ref h0), (1, .int x)] := hl
  have hw_f15 := hts (.fieldLink RX2 15 "WhatToRead$Row" "count" "I") (by decide +kernel)
  have hi_X2 : ∀ w ∈ wsX20, w ∈ wsX2_add := by decide +kernel
  have hw_f9 := hts (.fieldLink RX2 9 "WhatToRead$Row" "items" "[I") (by decide +kernel)
  refine lv_aload_n hx hb dX2_add_0 rfl (lv_at hl 0 rfl) ?_
  refine va_get (D := D) (ci := 3) (v := .int (nI k)) (C := RX2) (T := TX2) (N := 2) hx hb hts hi_X2 hown hK.1 hP 0 rfl rfl 1 (by decide) hw_f15 (fun _ h9 => h9) rfl dX2_add_1 ?_
  refine lv_if_lt (tgt := 39) hx hb dX2_add_4 (by decide) (fun c_4 => ?_) (fun c_4 => ?_)
  · exact absurd c_4 (nI_pos (by omega))
  · skip
    refine lv_aload_n hx hb dX2_add_7 rfl (lv_at hl 0 rfl) ?_
    refine va_get (D := D) (ci := 3) (v := .int (nI k)) (C := RX2) (T := TX2) (N := 2) hx hb hts hi_X2 hown hK.1 hP 0 rfl rfl 1 (by decide) hw_f15 (fun _ h9 => h9) rfl dX2_add_8 ?_
    refine lv_aload_n hx hb dX2_add_11 rfl (lv_at hl 0 rfl) ?_
    refine va_get (D := D) (ci := 3) (v := .ref h1) (C := RX2) (T := TX2) (N := 2) hx hb hts hi_X2 hown hK.1 hP 0 rfl rfl 0 (by decide) hw_f9 (fun _ h9 => h9) rfl dX2_add_12 ?_
    refine va_alen (v := 12) hx hb hK.1 hP 1 0 rfl rfl rfl dX2_add_15 ?_
    refine lv_icmp_ge (tgt := 39) hx hb dX2_add_16 (by decide) (fun c_16 => ?_) (fun c_16 => ?_)
    · exact absurd c_16 ((not_congr (nI_leI (a := 12) (b := k) (by omega) (by omega))).mpr (by omega))
    · skip
      refine lv_aload_n hx hb dX2_add_19 rfl (lv_at hl 0 rfl) ?_
      refine va_get (D := D) (ci := 3) (v := .ref h1) (C := RX2) (T := TX2) (N := 2) hx hb hts hi_X2 hown hK.1 hP 0 rfl rfl 0 (by decide) hw_f9 (fun _ h9 => h9) rfl dX2_add_20 ?_
      refine lv_aload_n hx hb dX2_add_23 rfl (lv_at hl 0 rfl) ?_
      refine va_get (D := D) (ci := 3) (v := .int (nI k)) (C := RX2) (T := TX2) (N := 2) hx hb hts hi_X2 hown hK.1 hP 0 rfl rfl 1 (by decide) hw_f15 (fun _ h9 => h9) rfl dX2_add_24 ?_
      refine lv_iload_n hx hb dX2_add_27 rfl (lv_at hl 1 rfl) ?_
      refine va_iast hx hb hK.1 hP hD hS 1 0 rfl rfl (vp_in_nI (by omega) (by omega)) dX2_add_28 (fun H locs hP hD hS => ?_)
      rw [nI_clamp (by omega)] at hP hD
      have hP : va_P D vwCl [(h0, .inr (3, [.ref h1, .int (nI k)])), (h1, .inl (cI, 12, .inl (upd f k x)))] H := hP
      have hD : va_D _ [(h0, .inr (3, [.ref h1, .int (nI k)])), (h1, .inl (cI, 12, .inl (upd f k x)))] := hD
      refine lv_aload_n hx hb dX2_add_29 rfl (lv_at hl 0 rfl) ?_
      refine lv_dup hx hb dX2_add_30 rfl ?_
      refine va_get (D := D) (ci := 3) (v := .int (nI k)) (C := RX2) (T := TX2) (N := 2) hx hb hts hi_X2 hown hK.1 hP 0 rfl rfl 1 (by decide) hw_f15 (fun _ h9 => h9) rfl dX2_add_31 ?_
      refine lv_iconst (v := 1) hx hb dX2_add_34 (by decide) ?_
      refine lv_iadd hx hb dX2_add_35 ?_
      refine lv_topi (fun nv_1 ev_1 => ?_)
      obtain rfl : nv_1 = nI (k + 1) := ev_1.trans (nI_1 k)
      refine va_put (D := D) (ci := 3) (v := .int (nI (k + 1))) (ty := .int) (C := RX2) (T := TX2) (N := 2) hx hb hts hi_X2 tyX2 tyX2_ok nmX2 hown hK.1 hP hD hS 0 rfl rfl 1 (by decide) hw_f15 (fun _ h9 => h9) rfl (by decide +kernel) rfl rfl (Nat.le_of_ble_eq_true rfl) dX2_add_36 (fun H locs hP hD hS => ?_)
      have hP : va_P D vwCl [(h0, .inr (3, [.ref h1, .int (nI (k + 1))])), (h1, .inl (cI, 12, .inl (upd f k x)))] H := hP
      have hD : va_D _ [(h0, .inr (3, [.ref h1, .int (nI (k + 1))])), (h1, .inl (cI, 12, .inl (upd f k x)))] := hD
      exact kRetV hx hb hr hlk dX2_add_39 hP hD hS (Nat.le_of_ble_eq_true rfl) (Nat.le_of_ble_eq_true rfl) ⟨rfl, rfl⟩

set_option maxHeartbeats 4000000 in
set_option maxRecDepth 100000 in
theorem c_X2_become (l : Launch) (D : va_G) (cI cJ cZ cO : ClassId) (h0 : Nat) (h1 : Nat) (n : Int32) (f : Nat → Int32) (g0 : Nat) (g1 : Nat) (k : Nat) (g : Nat → Int32) (hk : k ≤ 12) : kC l D (kTY cI cJ cZ cO) yX2_become wsX2_become 1 21 0 0 [.ref h0, .ref g0] [(h0, .inr (3, [.ref h1, .int n])), (h1, .inl (cI, 12, .inl f)), (g0, .inr (3, [.ref g1, .int (nI k)])), (g1, .inl (cI, 12, .inl g))] (fun rv_ rw_ => rv_ = none ∧ rw_ = [(h0, .inr (3, [.ref h1, .int (nI k)])), (h1, .inl (cI, 12, .inl (becF f g k))), (g0, .inr (3, [.ref g1, .int (nI k)])), (g1, .inl (cI, 12, .inl g))]) := by
  refine kEnter (cc := cX2_become) (maxL := 3) (ret := none) (by decide) rfl (Nat.le_of_ble_eq_true rfl) ?_
  intro p e s m args below meth c hx hb hr hml hts hown hlk hnm hK hP hD hS hA ls hl
  have hl : lv_has ls 3 [(0, .ref h0), (1, .ref g0)] := hl
  refine lv_aload_n hx hb dX2_become_0 rfl (lv_at hl 0 rfl) ?_
  refine kGo (wc := [(h0, .inr (3, [.ref h1, .int n])), (h1, .inl (cI, 12, .inl f))]) (wr := [(g0, .inr (3, [.ref g1, .int (nI k)])), (g1, .inl (cI, 12, .inl g))]) (va_runV (As := []) (rest := []) ⟨hx, hb, hml, hown, hts⟩ (c_X2_clear l D cI cJ cZ cO h0 h1 n f  _) (cwV 0 hts gX2_become_X2_clear rfl rfl rfl (by decide +kernel) ⟨Nat.le_of_ble_eq_true rfl, Nat.le_of_ble_eq_true rfl⟩) (kPreV (ci := 3) (q0 := 0) hK (kPc_sub hP [0, 1] rfl) ((hD.sub [0, 1] (by decide) rfl).weaken (fun _ _ _ _ => trivial)) rfl rfl rfl) rfl rfl hl.1 rfl (lv_room (Nat.le_of_ble_eq_true rfl)) dX2_become_1 ⟨Nat.le_of_ble_eq_true rfl, Nat.le_of_ble_eq_true rfl⟩) hP hD hS hA [0, 1] [2, 3] rfl rfl (by decide) (by decide) (fun v_1 w_1 H locs hv_1 hP hD hS => ?_)
  obtain ⟨rfl, rfl⟩ := hv_1
  have hP : va_P D vwCl [(h0, .inr (3, [.ref h1, .int 0])), (h1, .inl (cI, 12, .inl f)), (g0, .inr (3, [.ref g1, .int (nI k)])), (g1, .inl (cI, 12, .inl g))] H := hP.sub [2, 3, 0, 1] rfl
  have hD : va_D _ [(h0, .inr (3, [.ref h1, .int 0])), (h1, .inl (cI, 12, .inl f)), (g0, .inr (3, [.ref g1, .int (nI k)])), (g1, .inl (cI, 12, .inl g))] := hD.sub [2, 3, 0, 1] (by decide) rfl
  refine W.eq (g2 := F0 m 4 ls []) rfl ?_
  refine lv_iconst (v := 0) hx hb dX2_become_4 (by decide) ?_
  refine lv_istore_n (lv' := [(2, .int 0), (0, .ref h0), (1, .ref g0)]) hx hb dX2_become_5 rfl hl (by decide) rfl (fun ls hl => ?_)
  have hloop_6 : ∀ (fu : Nat) (i : Nat) (x : Nat → Int32), k - i < fu → i ≤ k → x = becF f g i → ∀ (H : Heap) (locs : List Loc), va_P D vwCl [(h0, .inr (3, [.ref h1, .int (nI i)])), (h1, .inl (cI, 12, .inl x)), (g0, .inr (3, [.ref g1, .int (nI k)])), (g1, .inl (cI, 12, .inl g))] H → va_D (va_A [(h0, .inr (3, [.ref h1, .int n])), (h1, .inl (cI, 12, .inl f)), (g0, .inr (3, [.ref g1, .int (nI k)])), (g1, .inl (cI, 12, .inl g))] s.heap.size) [(h0, .inr (3, [.ref h1, .int (nI i)])), (h1, .inl (cI, 12, .inl x)), (g0, .inr (3, [.ref g1, .int (nI k)])), (g1, .inl (cI, 12, .inl g))] → va_S (va_A [(h0, .inr (3, [.ref h1, .int n])), (h1, .inl (cI, 12, .inl f)), (g0, .inr (3, [.ref g1, .int (nI k)])), (g1, .inl (cI, 12, .inl g))] s.heap.size) s.heap H locs → ∀ ls : Array Slot, lv_has ls 3 [(0, .ref h0), (1, .ref g0), (2, .int (nI i))] → W p l e ({ frames := 1, cells := 0, slots := 0, locals := 21 }) s m args below meth c H locs 0 0 (MQ below (kQ D [(h0, .inr (3, [.ref h1, .int n])), (h1, .inl (cI, 12, .inl f)), (g0, .inr (3, [.ref g1, .int (nI k)])), (g1, .inl (cI, 12, .inl g))] s.heap.size (fun rv_ rw_ => rv_ = none ∧ rw_ = [(h0, .inr (3, [.ref h1, .int (nI k)])), (h1, .inl (cI, 12, .inl (becF f g k))), (g0, .inr (3, [.ref g1, .int (nI k)])), (g1, .inl (cI, 12, .inl g))])) args s 0 0 (va_A [(h0, .inr (3, [.ref h1, .int n])), (h1, .inl (cI, 12, .inl f)), (g0, .inr (3, [.ref g1, .int (nI k)])), (g1, .inl (cI, 12, .inl g))] s.heap.size)) (F0 m 6 ls []) := by
    intro fu
    induction fu with
    | zero => intro i x hmu; exact absurd hmu (Nat.not_lt_zero _)
    | succ fu ih_6 =>
      intro i x hmu_6 hi ex H locs hP hD hS ls hl
      refine lv_iload_n hx hb dX2_become_6 rfl (lv_at hl 2 rfl) ?_
      refine lv_aload_n hx hb dX2_become_7 rfl (lv_at hl 1 rfl) ?_
      refine kGoR (va_runV (As := []) (rest := [.int (nI i)]) ⟨hx, hb, hml, hown, hts⟩ (c_X2_size l D cI cJ cZ cO g0 g1 (nI k) g ) (cwV 0 hts gX2_become_X2_size rfl rfl rfl (by decide +kernel) ⟨Nat.le_of_ble_eq_true rfl, Nat.le_of_ble_eq_true rfl⟩) (kPreVR (ci := 3) (q0 := 0) hK (kPc_sub hP [2, 3] rfl) rfl rfl rfl) rfl rfl hl.1 rfl (lv_room (Nat.le_of_ble_eq_true rfl)) dX2_become_8 ⟨Nat.le_of_ble_eq_true rfl, Nat.le_of_ble_eq_true rfl⟩) (fun v_2 hv_2 => ?_)
      obtain rfl := hv_2
      refine W.eq (g2 := F0 m 11 ls [.int (nI k), .int (nI i)]) rfl ?_
      refine lv_icmp_ge (tgt := 29) hx hb dX2_become_11 (by decide) (fun c_11 => ?_) (fun c_11 => ?_)
      · skip
        have nc_11 : k ≤ i := (nI_leI (a := k) (b := i) (by omega) (by omega)).mp c_11
        have e12 : i = k := by omega
        have ew_0 : (nI i : Int32) = nI k := by first | rfl | (rw [ex, e12]; done) | (rw [em, e12]; done) | (rw [ey, e12]; done) | (rw [e12]; done) | (simp [hi, ex, c_11]; done) | (simp_all []; done)
        have ew_1 : (x : Nat → Int32) = becF f g k := by first | rfl | (rw [ex, e12]; done) | (rw [em, e12]; done) | (rw [ey, e12]; done) | (rw [e12]; done) | (simp [hi, ex, c_11]; done) | (simp_all []; done)
        exact kRetV hx hb hr hlk dX2_become_29 hP hD hS (Nat.le_of_ble_eq_true rfl) (Nat.le_of_ble_eq_true rfl) ⟨rfl, (kw2 (fun (z_0 : Int32) (z_1 : Nat → Int32) => ([(h0, .inr (3, [.ref h1, .int z_0])), (h1, .inl (cI, 12, .inl z_1)), (g0, .inr (3, [.ref g1, .int (nI k)])), (g1, .inl (cI, 12, .inl g))] : va_W)) ew_0 ew_1)⟩
      · skip
        have nc_11 : ¬ k ≤ i := (not_congr (nI_leI (a := k) (b := i) (by omega) (by omega))).mp c_11
        refine lv_aload_n hx hb dX2_become_14 rfl (lv_at hl 0 rfl) ?_
        refine lv_aload_n hx hb dX2_become_15 rfl (lv_at hl 1 rfl) ?_
        refine lv_iload_n hx hb dX2_become_16 rfl (lv_at hl 2 rfl) ?_
        refine kGoR (va_runV (As := [.int (nI i)]) (rest := [.ref h0]) ⟨hx, hb, hml, hown, hts⟩ (c_X2_at l D cI cJ cZ cO g0 g1 (nI k) g (nI i) ) (cwV 1 hts gX2_become_X2_at rfl rfl rfl (by decide +kernel) ⟨Nat.le_of_ble_eq_true rfl, Nat.le_of_ble_eq_true rfl⟩) (kPreVR (ci := 3) (q0 := 0) hK (kPc_sub hP [2, 3] rfl) rfl rfl rfl) rfl rfl hl.1 rfl (lv_room (Nat.le_of_ble_eq_true rfl)) dX2_become_17 ⟨Nat.le_of_ble_eq_true rfl, Nat.le_of_ble_eq_true rfl⟩) (fun v_3 hv_3 => ?_)
        obtain rfl := hv_3
        refine W.eq (g2 := F0 m 20 ls [.int (rowAt g (nI k) (nI i)), .ref h0]) rfl ?_
        refine lv_topi (fun nv_4 ev_4 => ?_)
        obtain rfl : nv_4 = g i := ev_4.trans (rowAt_nI (by omega) (by omega))
        refine kGo (wc := [(h0, .inr (3, [.ref h1, .int (nI i)])), (h1, .inl (cI, 12, .inl x))]) (wr := [(g0, .inr (3, [.ref g1, .int (nI k)])), (g1, .inl (cI, 12, .inl g))]) (va_runV (As := [.int (g i)]) (rest := []) ⟨hx, hb, hml, hown, hts⟩ (c_X2_add_b l D cI cJ cZ cO h0 h1 i x (g i) (by first | assumption | omega | decide) _) (cwV 1 hts gX2_become_X2_add rfl rfl rfl (by decide +kernel) ⟨Nat.le_of_ble_eq_true rfl, Nat.le_of_ble_eq_true rfl⟩) (kPreV (ci := 3) (q0 := 0) hK (kPc_sub hP [0, 1] rfl) ((hD.sub [0, 1] (by decide) rfl).weaken (fun _ _ _ _ => trivial)) rfl rfl rfl) rfl rfl hl.1 rfl (lv_room (Nat.le_of_ble_eq_true rfl)) dX2_become_20 ⟨Nat.le_of_ble_eq_true rfl, Nat.le_of_ble_eq_true rfl⟩) hP hD hS hA [0, 1] [2, 3] rfl rfl (by decide) (by decide) (fun v_5 w_5 H locs hv_5 hP hD hS => ?_)
        obtain ⟨rfl, rfl⟩ := hv_5
        have hP : va_P D vwCl [(h0, .inr (3, [.ref h1, .int (nI (i + 1))])), (h1, .inl (cI, 12, .inl (upd x i (g i)))), (g0, .inr (3, [.ref g1, .int (nI k)])), (g1, .inl (cI, 12, .inl g))] H := hP.sub [2, 3, 0, 1] rfl
        have hD : va_D _ [(h0, .inr (3, [.ref h1, .int (nI (i + 1))])), (h1, .inl (cI, 12, .inl (upd x i (g i)))), (g0, .inr (3, [.ref g1, .int (nI k)])), (g1, .inl (cI, 12, .inl g))] := hD.sub [2, 3, 0, 1] (by decide) rfl
        refine W.eq (g2 := F0 m 23 ls []) rfl ?_
        refine lv_iinc (v := nI (i + 1)) (lv' := [(2, .int (nI (i + 1))), (0, .ref h0), (1, .ref g0)]) hx hb dX2_become_23 hl (k := 2) rfl (nI_1 _) (by decide) rfl (fun ls hl => ?_)
        refine lv_goto (tgt := 6) hx hb dX2_become_26 (by decide) ?_
        exact ih_6  (i + 1) (upd x i (g i)) (by omega) (by first | omega | assumption) (by rw [ex]; rfl) _ _ hP hD hS _ (lv_sub hl [1, 2, 0] rfl)
  exact hloop_6 ((k - 0) + 1) 0 f (Nat.lt_succ_self _) (by first | omega | assumption) (by rfl) _ _ hP hD hS _ (lv_sub hl [1, 2, 0] rfl)

set_option maxHeartbeats 4000000 in
set_option maxRecDepth 100000 in
theorem c_X7_isWithin (l : Launch) (D : va_G) (cI cJ cZ cO : ClassId) (v : Int32) (a : Int32) (b : Int32) : kR l D (kTY cI cJ cZ cO) yX7_isWithin wsX7_isWithin 0 0 [.int v, .int a, .int b] [] (fun rv_ => rv_ = some (.int (k01 (withinB v a b)))) := by
  refine kEnterR (cc := cX7_isWithin) (maxL := 3) (ret := (some .boolean)) (by decide) rfl (Nat.le_of_ble_eq_true rfl) ?_
  intro p e s m args below meth c hx hb hr hml hts hown hlk hK hP ls hl
  have hl : lv_has ls 3 [(0, .int v), (1, .int a), (2, .int b)] := hl
  refine lv_iload_n hx hb dX7_isWithin_0 rfl (lv_at hl 0 rfl) ?_
  refine lv_iload_n hx hb dX7_isWithin_1 rfl (lv_at hl 1 rfl) ?_
  refine lv_icmp_lt (tgt := 14) hx hb dX7_isWithin_2 (by decide) (fun c_2 => ?_) (fun c_2 => ?_)
  · skip
    refine lv_iconst (v := 0) hx hb dX7_isWithin_14 (by decide) ?_
    exact kRetZr (withinB v a b) (by first | rfl | (rw [ex, e12]; done) | (rw [em, e12]; done) | (rw [ey, e12]; done) | (rw [e12]; done) | (simp [withinB, k01, c_2]; done) | (simp_all [withinB, k01]; done)) hx hb hr hlk dX7_isWithin_15 rfl
  · skip
    refine lv_iload_n hx hb dX7_isWithin_5 rfl (lv_at hl 0 rfl) ?_
    refine lv_iload_n hx hb dX7_isWithin_6 rfl (lv_at hl 2 rfl) ?_
    refine lv_icmp_gt (tgt := 14) hx hb dX7_isWithin_7 (by decide) (fun c_7 => ?_) (fun c_7 => ?_)
    · skip
      refine lv_iconst (v := 0) hx hb dX7_isWithin_14 (by decide) ?_
      exact kRetZr (withinB v a b) (by first | rfl | (rw [ex, e12]; done) | (rw [em, e12]; done) | (rw [ey, e12]; done) | (rw [e12]; done) | (simp [withinB, k01, c_2, c_7]; done) | (simp_all [withinB, k01]; done)) hx hb hr hlk dX7_isWithin_15 rfl
    · skip
      refine lv_iconst (v := 1) hx hb dX7_isWithin_10 (by decide) ?_
      refine lv_goto (tgt := 15) hx hb dX7_isWithin_11 (by decide) ?_
      exact kRetZr (withinB v a b) (by first | rfl | (rw [ex, e12]; done) | (rw [em, e12]; done) | (rw [ey, e12]; done) | (rw [e12]; done) | (simp [withinB, k01, c_2, c_7]; done) | (simp_all [withinB, k01]; done)) hx hb hr hlk dX7_isWithin_15 rfl

set_option maxHeartbeats 4000000 in
set_option maxRecDepth 100000 in
theorem c_X7_isSkimmed (l : Launch) (D : va_G) (cI cJ cZ cO : ClassId) (v : Int32) : kR l D (kTY cI cJ cZ cO) yX7_isSkimmed wsX7_isSkimmed 0 0 [.int v] [] (fun rv_ => rv_ = some (.int (k01 (decide (v &&& 1 = 1))))) := by
  refine kEnterR (cc := cX7_isSkimmed) (maxL := 1) (ret := (some .boolean)) (by decide) rfl (Nat.le_of_ble_eq_true rfl) ?_
  intro p e s m args below meth c hx hb hr hml hts hown hlk hK hP ls hl
  have hl : lv_has ls 1 [(0, .int v)] := hl
  refine lv_iload_n hx hb dX7_isSkimmed_0 rfl (lv_at hl 0 rfl) ?_
  refine lv_iconst (v := 1) hx hb dX7_isSkimmed_1 (by decide) ?_
  refine lv_iand hx hb dX7_isSkimmed_2 ?_
  refine lv_iconst (v := 1) hx hb dX7_isSkimmed_3 (by decide) ?_
  refine lv_icmp_ne (tgt := 11) hx hb dX7_isSkimmed_4 (by decide) (fun c_4 => ?_) (fun c_4 => ?_)
  · skip
    refine lv_iconst (v := 0) hx hb dX7_isSkimmed_11 (by decide) ?_
    exact kRetZr (decide (v &&& 1 = 1)) (by first | rfl | (rw [ex, e12]; done) | (rw [em, e12]; done) | (rw [ey, e12]; done) | (rw [e12]; done) | (simp [k01, c_4]; done) | (simp_all [k01]; done)) hx hb hr hlk dX7_isSkimmed_12 rfl
  · skip
    refine lv_iconst (v := 1) hx hb dX7_isSkimmed_7 (by decide) ?_
    refine lv_goto (tgt := 12) hx hb dX7_isSkimmed_8 (by decide) ?_
    exact kRetZr (decide (v &&& 1 = 1)) (by first | rfl | (rw [ex, e12]; done) | (rw [em, e12]; done) | (rw [ey, e12]; done) | (rw [e12]; done) | (simp [k01, c_4]; done) | (simp_all [k01]; done)) hx hb hr hlk dX7_isSkimmed_12 rfl
