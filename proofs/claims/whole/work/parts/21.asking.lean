/-! ===== what the methods answer: asking ===== -/
def addF (f : Nat → Int32) (n : Nat) (bit imp : Int32) : Nat → (Nat → Int32) × Nat
  | 0 => (f, n)
  | i + 1 => if (addF f n bit imp i).1 i &&& imp = imp then (upd (addF f n bit imp i).1 (addF f n bit imp i).2 ((addF f n bit imp i).1 i ||| bit), (addF f n bit imp i).2 + 1) else addF f n bit imp i
def hasB (v t : Int32) : Bool := decide ((v >>> (t &&& 31)) &&& 1 = 1)
def cntN (f : Nat → Int32) (t : Int32) (a : Nat) : Nat → Nat
  | 0 => 0
  | k + 1 => cntN f t a k + (if hasB (f (a + k)) t then 1 else 0)
def keepF (f : Nat → Int32) (t : Int32) (is : Bool) : Nat → (Nat → Int32) × Nat
  | 0 => (f, 0)
  | i + 1 => if hasB ((keepF f t is i).1 i) t = is then (upd (keepF f t is i).1 (keepF f t is i).2 ((keepF f t is i).1 i), (keepF f t is i).2 + 1) else keepF f t is i
def comF (f : Nat → Int32) : Nat → Int32
  | 0 => 4095
  | i + 1 => comF f i &&& f i
def moreN (f : Nat → Int32) (t : Int32) (a n : Nat) : Nat := max (cntN f t a n) (n - cntN f t a n)
def bestF (f : Nat → Int32) (a n : Nat) : Nat → Int32 × Nat
  | 0 => (-1, n)
  | t + 1 => if moreN f (nI t) a n < (bestF f a n t).2 then (nI t, moreN f (nI t) a n) else bestF f a n t
def splF (f : Nat → Int32) (t : Int32) (a : Nat) : Nat → (Nat → Int32) × Nat
  | 0 => (f, a)
  | k + 1 => if hasB ((splF f t a k).1 (a + k)) t then splF f t a k else (upd (upd (splF f t a k).1 (a + k) ((splF f t a k).1 (splF f t a k).2)) (splF f t a k).2 ((splF f t a k).1 (a + k)), (splF f t a k).2 + 1)
theorem k01_inj {a b : Bool} : k01 a = k01 b ↔ a = b := by cases a <;> cases b <;> simp [k01]
theorem k_and1 (x : Int32) : x &&& 1 = 0 ∨ x &&& 1 = 1 := by
  rw [pk_and x 1 (by decide)]
  have : x.toBitVec.toNat % 2 ^ 1 = 0 ∨ x.toBitVec.toNat % 2 ^ 1 = 1 := by omega
  rcases this with h | h <;> rw [h] <;> simp [nI]
theorem k_bit (v t : Int32) : (v >>> (t &&& 31)) &&& 1 = nI (if hasB v t then 1 else 0) := by
  unfold hasB
  rcases k_and1 (v >>> (t &&& 31)) with h | h <;> simp [h, nI]
theorem kmax_nI {a b : Nat} (ha : a < 2 ^ 31) (hb : b < 2 ^ 31) : kmax (nI a) (nI b) = nI (max a b) := by
  unfold kmax
  by_cases h : a < b
  · rw [if_pos ((nI_ltI ha hb).mpr h), Nat.max_eq_right (by omega)]
  · rw [if_neg (fun q => h ((nI_ltI ha hb).mp q)), Nat.max_eq_left (by omega)]
theorem kmax_0 {a : Nat} (ha : a < 2 ^ 31) : kmax (nI a) 0 = nI a := by
  have h := kmax_nI (a := a) (b := 0) ha (by decide)
  rwa [Nat.max_eq_left (Nat.zero_le _)] at h
theorem cntN_le (f : Nat → Int32) (t : Int32) (a : Nat) : ∀ k, cntN f t a k ≤ k
  | 0 => Nat.le_refl _
  | k + 1 => by
    have := cntN_le f t a k
    show cntN f t a k + (if hasB (f (a + k)) t then 1 else 0) ≤ k + 1
    split <;> omega
theorem addF_le (f : Nat → Int32) (n : Nat) (bit imp : Int32) : ∀ i, (addF f n bit imp i).2 ≤ n + i
  | 0 => Nat.le_refl _
  | i + 1 => by
    have := addF_le f n bit imp i
    unfold addF
    split
    · show (addF f n bit imp i).2 + 1 ≤ _; omega
    · omega
theorem keepF_le (f : Nat → Int32) (t : Int32) (is : Bool) : ∀ i, (keepF f t is i).2 ≤ i
  | 0 => Nat.le_refl _
  | i + 1 => by
    have := keepF_le f t is i
    unfold keepF
    split
    · show (keepF f t is i).2 + 1 ≤ _; omega
    · omega
theorem splF_le (f : Nat → Int32) (t : Int32) (a : Nat) : ∀ k, (splF f t a k).2 ≤ a + k
  | 0 => Nat.le_refl _
  | k + 1 => by
    have := splF_le f t a k
    unfold splF
    split
    · omega
    · show (splF f t a k).2 + 1 ≤ _; omega
theorem splF_ge (f : Nat → Int32) (t : Int32) (a : Nat) : ∀ k, a ≤ (splF f t a k).2
  | 0 => Nat.le_refl _
  | k + 1 => by
    have := splF_ge f t a k
    unfold splF
    split
    · omega
    · show _ ≤ (splF f t a k).2 + 1; omega
theorem moreN_le (f : Nat → Int32) (t : Int32) (a n : Nat) : moreN f t a n ≤ n := by
  have := cntN_le f t a n
  unfold moreN; omega
theorem bestF_le (f : Nat → Int32) (a n : Nat) : ∀ t, (bestF f a n t).2 ≤ n
  | 0 => Nat.le_refl _
  | t + 1 => by
    have := bestF_le f a n t
    unfold bestF
    split
    · exact moreN_le f _ a n
    · exact this
def setAt (f : Nat → Int32) (c i : Int32) : Int32 := if ¬ i < 0 ∧ ¬ c ≤ i ∧ ¬ 4096 ≤ i then f i.toNatClampNeg else -1
def accB (f : Nat → Int32) (n : Nat) (an t : Int32) (is : Bool) : Bool := !hasB an t && decide (¬ (if is then cntN f t 0 n else n - cntN f t 0 n) = 0)

set_option maxHeartbeats 4000000 in
set_option maxRecDepth 100000 in
theorem c_X0_init (l : Launch) (D : va_G) (cI cJ cZ cO : ClassId) (h0 : Nat) : kC l D (kTY cI cJ cZ cO) yX0_init wsX0_init 1 12 2 4160 [.ref h0] [(h0, .inr (1, [.null, .null, .int 0, .int 0]))] (fun rv_ rw_ => ∃ q1 : Nat, ∃ q2 : Nat, rv_ = none ∧ rw_ = [(h0, .inr (1, [.ref q1, .ref q2, .int 1, .int 0])), (q1, .inl (cI, 4096, .inl (fun _ => 0))), (q2, .inl (cI, 64, .inl (fun _ => 0)))]) := by
  refine kEnter (cc := cX0_init) (maxL := 1) (ret := none) (by decide) rfl (Nat.le_of_ble_eq_true rfl) ?_
  intro p e s m args below meth c hx hb hr hml hts hown hlk hnm hK hP hD hS hA ls hl
  have hl : lv_has ls 1 [(0, .ref h0)] := hl
  have hw_m3 := hts (.methodLink RX0 3 objectInit) (by decide +kernel)
  have hw_io := hts (.instanceMethod objectInit) (by decide +kernel)
  have hw_co := hts (.code objectInit ⟨#[0xb1]⟩ 1 none) (by decide +kernel)
  have hw_aI := hts (.arrayClass .int) (by decide +kernel)
  have hw_f9 := hts (.fieldLink RX0 9 "WhatToRead$Asking" "sets" "[I") (by decide +kernel)
  have hi_X0 : ∀ w ∈ wsX00, w ∈ wsX0_init := by decide +kernel
  have hw_f15 := hts (.fieldLink RX0 15 "WhatToRead$Asking" "scratch" "[I") (by decide +kernel)
  have hw_f18 := hts (.fieldLink RX0 18 "WhatToRead$Asking" "count" "I") (by decide +kernel)
  have hw_f22 := hts (.fieldLink RX0 22 "WhatToRead$Asking" "answered" "I") (by decide +kernel)
  refine lv_aload_n hx hb dX0_init_0 rfl (lv_at hl 0 rfl) ?_
  refine W.objInit hx hb hown hw_m3 hw_io hw_co rfl (by rw [hml]; exact hl.1) rfl dX0_init_1 (Nat.le_of_ble_eq_true rfl) (Nat.le_of_ble_eq_true rfl) ?_
  refine W.eq (g2 := F0 m 4 ls []) rfl ?_
  refine lv_aload_n hx hb dX0_init_4 rfl (lv_at hl 0 rfl) ?_
  refine lv_sipush (v := 4096) hx hb dX0_init_5 (by decide) ?_
  refine kNewaI (N' := 4096) hx hb hw_aI hK.1 hP hD hS hA (by decide) (by decide) (Nat.le_of_ble_eq_true rfl) (Nat.le_of_ble_eq_true rfl) (Nat.le_of_ble_eq_true rfl) dX0_init_8 (fun q1 H hP hD hS => ?_)
  have hP : va_P D vwCl [(h0, .inr (1, [.null, .null, .int 0, .int 0])), (q1, .inl (cI, 4096, .inl (fun _ => 0)))] H := hP
  have hD : va_D _ [(h0, .inr (1, [.null, .null, .int 0, .int 0])), (q1, .inl (cI, 4096, .inl (fun _ => 0)))] := hD
  refine va_putF (D := D) (ci := 1) (v := .ref q1) (ty := .array .int) (C := RX0) (T := TX0) (N := 4) hx hb hts hi_X0 tyX0 tyX0_ok nmX0 hown hK.1 hP hD hS 0 rfl rfl 0 (by decide) hw_f9 (fun _ h9 => h9) rfl hnm rfl (by decide +kernel) rfl rfl (Nat.le_of_ble_eq_true rfl) dX0_init_10 (fun H locs hP hD hS => ?_)
  have hP : va_P D vwCl [(h0, .inr (1, [.ref q1, .null, .int 0, .int 0])), (q1, .inl (cI, 4096, .inl (fun _ => 0)))] H := hP
  have hD : va_D _ [(h0, .inr (1, [.ref q1, .null, .int 0, .int 0])), (q1, .inl (cI, 4096, .inl (fun _ => 0)))] := hD
  refine lv_aload_n hx hb dX0_init_13 rfl (lv_at hl 0 rfl) ?_
  refine lv_bipush (v := 64) hx hb dX0_init_14 (by decide) ?_
  refine kNewaI (N' := 64) hx hb hw_aI hK.1 hP hD hS hA (by decide) (by decide) (Nat.le_of_ble_eq_true rfl) (Nat.le_of_ble_eq_true rfl) (Nat.le_of_ble_eq_true rfl) dX0_init_16 (fun q2 H hP hD hS => ?_)
  have hP : va_P D vwCl [(h0, .inr (1, [.ref q1, .null, .int 0, .int 0])), (q1, .inl (cI, 4096, .inl (fun _ => 0))), (q2, .inl (cI, 64, .inl (fun _ => 0)))] H := hP
  have hD : va_D _ [(h0, .inr (1, [.ref q1, .null, .int 0, .int 0])), (q1, .inl (cI, 4096, .inl (fun _ => 0))), (q2, .inl (cI, 64, .inl (fun _ => 0)))] := hD
  refine va_putF (D := D) (ci := 1) (v := .ref q2) (ty := .array .int) (C := RX0) (T := TX0) (N := 4) hx hb hts hi_X0 tyX0 tyX0_ok nmX0 hown hK.1 hP hD hS 0 rfl rfl 1 (by decide) hw_f15 (fun _ h9 => h9) rfl hnm rfl (by decide +kernel) rfl rfl (Nat.le_of_ble_eq_true rfl) dX0_init_18 (fun H locs hP hD hS => ?_)
  have hP : va_P D vwCl [(h0, .inr (1, [.ref q1, .ref q2, .int 0, .int 0])), (q1, .inl (cI, 4096, .inl (fun _ => 0))), (q2, .inl (cI, 64, .inl (fun _ => 0)))] H := hP
  have hD : va_D _ [(h0, .inr (1, [.ref q1, .ref q2, .int 0, .int 0])), (q1, .inl (cI, 4096, .inl (fun _ => 0))), (q2, .inl (cI, 64, .inl (fun _ => 0)))] := hD
  refine lv_aload_n hx hb dX0_init_21 rfl (lv_at hl 0 rfl) ?_
  refine lv_iconst (v := 1) hx hb dX0_init_22 (by decide) ?_
  refine va_put (D := D) (ci := 1) (v := .int 1) (ty := .int) (C := RX0) (T := TX0) (N := 4) hx hb hts hi_X0 tyX0 tyX0_ok nmX0 hown hK.1 hP hD hS 0 rfl rfl 2 (by decide) hw_f18 (fun _ h9 => h9) rfl (by decide +kernel) rfl rfl (Nat.le_of_ble_eq_true rfl) dX0_init_23 (fun H locs hP hD hS => ?_)
  have hP : va_P D vwCl [(h0, .inr (1, [.ref q1, .ref q2, .int 1, .int 0])), (q1, .inl (cI, 4096, .inl (fun _ => 0))), (q2, .inl (cI, 64, .inl (fun _ => 0)))] H := hP
  have hD : va_D _ [(h0, .inr (1, [.ref q1, .ref q2, .int 1, .int 0])), (q1, .inl (cI, 4096, .inl (fun _ => 0))), (q2, .inl (cI, 64, .inl (fun _ => 0)))] := hD
  refine lv_aload_n hx hb dX0_init_26 rfl (lv_at hl 0 rfl) ?_
  refine lv_iconst (v := 0) hx hb dX0_init_27 (by decide) ?_
  refine va_put (D := D) (ci := 1) (v := .int 0) (ty := .int) (C := RX0) (T := TX0) (N := 4) hx hb hts hi_X0 tyX0 tyX0_ok nmX0 hown hK.1 hP hD hS 0 rfl rfl 3 (by decide) hw_f22 (fun _ h9 => h9) rfl (by decide +kernel) rfl rfl (Nat.le_of_ble_eq_true rfl) dX0_init_28 (fun H locs hP hD hS => ?_)
  have hP : va_P D vwCl [(h0, .inr (1, [.ref q1, .ref q2, .int 1, .int 0])), (q1, .inl (cI, 4096, .inl (fun _ => 0))), (q2, .inl (cI, 64, .inl (fun _ => 0)))] H := hP
  have hD : va_D _ [(h0, .inr (1, [.ref q1, .ref q2, .int 1, .int 0])), (q1, .inl (cI, 4096, .inl (fun _ => 0))), (q2, .inl (cI, 64, .inl (fun _ => 0)))] := hD
  exact kRetV hx hb hr hlk dX0_init_31 hP hD hS (Nat.le_of_ble_eq_true rfl) (Nat.le_of_ble_eq_true rfl) ⟨q1, q2, rfl, rfl⟩

set_option maxHeartbeats 4000000 in
set_option maxRecDepth 100000 in
theorem c_X0_size (l : Launch) (D : va_G) (cI cJ cZ cO : ClassId) (h0 : Nat) (h1 : Nat) (h2 : Nat) (n : Nat) (an : Int32) (f : Nat → Int32) (g : Nat → Int32) : kR l D (kTY cI cJ cZ cO) yX0_size wsX0_size 0 0 [.ref h0] [(h0, .inr (1, [.ref h1, .ref h2, .int (nI n), .int an])), (h1, .inl (cI, 4096, .inl f)), (h2, .inl (cI, 64, .inl g))] (fun rv_ => rv_ = some (.int (nI n))) := by
  refine kEnterR (cc := cX0_size) (maxL := 1) (ret := (some .int)) (by decide) rfl (Nat.le_of_ble_eq_true rfl) ?_
  intro p e s m args below meth c hx hb hr hml hts hown hlk hK hP ls hl
  have hl : lv_has ls 1 [(0, .ref h0)] := hl
  have hw_f18 := hts (.fieldLink RX0 18 "WhatToRead$Asking" "count" "I") (by decide +kernel)
  have hi_X0 : ∀ w ∈ wsX00, w ∈ wsX0_size := by decide +kernel
  refine lv_aload_n hx hb dX0_size_0 rfl (lv_at hl 0 rfl) ?_
  refine va_get (D := D) (ci := 1) (v := .int (nI n)) (C := RX0) (T := TX0) (N := 4) hx hb hts hi_X0 hown hK.1 hP 0 rfl rfl 2 (by decide) hw_f18 (fun _ h9 => h9) rfl dX0_size_1 ?_
  exact kRetIr hx hb hr hlk dX0_size_4 rfl

set_option maxHeartbeats 4000000 in
set_option maxRecDepth 100000 in
theorem c_X0_at (l : Launch) (D : va_G) (cI cJ cZ cO : ClassId) (h0 : Nat) (h1 : Nat) (h2 : Nat) (n : Nat) (an : Int32) (f : Nat → Int32) (g : Nat → Int32) (i : Int32) : kR l D (kTY cI cJ cZ cO) yX0_at wsX0_at 0 0 [.ref h0, .int i] [(h0, .inr (1, [.ref h1, .ref h2, .int (nI n), .int an])), (h1, .inl (cI, 4096, .inl f)), (h2, .inl (cI, 64, .inl g))] (fun rv_ => rv_ = some (.int (setAt f (nI n) i))) := by
  refine kEnterR (cc := cX0_at) (maxL := 2) (ret := (some .int)) (by decide) rfl (Nat.le_of_ble_eq_true rfl) ?_
  intro p e s m args below meth c hx hb hr hml hts hown hlk hK hP ls hl
  have hl : lv_has ls 2 [(0, .ref h0), (1, .int i)] := hl
  have hw_f18 := hts (.fieldLink RX0 18 "WhatToRead$Asking" "count" "I") (by decide +kernel)
  have hi_X0 : ∀ w ∈ wsX00, w ∈ wsX0_at := by decide +kernel
  have hw_f9 := hts (.fieldLink RX0 9 "WhatToRead$Asking" "sets" "[I") (by decide +kernel)
  refine lv_iload_n hx hb dX0_at_0 rfl (lv_at hl 1 rfl) ?_
  refine lv_if_lt (tgt := 30) hx hb dX0_at_1 (by decide) (fun c_1 => ?_) (fun c_1 => ?_)
  · skip
    refine lv_iconst (v := (-1)) hx hb dX0_at_30 (by decide) ?_
    exact kRetIr hx hb hr hlk dX0_at_31 (kpi (by first | rfl | (rw [ex, e12]; done) | (rw [em, e12]; done) | (rw [ey, e12]; done) | (rw [e12]; done) | (simp [setAt, c_1]; done) | (simp_all [setAt]; done)))
  · skip
    refine lv_iload_n hx hb dX0_at_4 rfl (lv_at hl 1 rfl) ?_
    refine lv_aload_n hx hb dX0_at_5 rfl (lv_at hl 0 rfl) ?_
    refine va_get (D := D) (ci := 1) (v := .int (nI n)) (C := RX0) (T := TX0) (N := 4) hx hb hts hi_X0 hown hK.1 hP 0 rfl rfl 2 (by decide) hw_f18 (fun _ h9 => h9) rfl dX0_at_6 ?_
    refine lv_icmp_ge (tgt := 30) hx hb dX0_at_9 (by decide) (fun c_9 => ?_) (fun c_9 => ?_)
    · skip
      refine lv_iconst (v := (-1)) hx hb dX0_at_30 (by decide) ?_
      exact kRetIr hx hb hr hlk dX0_at_31 (kpi (by first | rfl | (rw [ex, e12]; done) | (rw [em, e12]; done) | (rw [ey, e12]; done) | (rw [e12]; done) | (simp [setAt, c_1, c_9]; done) | (simp_all [setAt]; done)))
    · skip
      refine lv_iload_n hx hb dX0_at_12 rfl (lv_at hl 1 rfl) ?_
      refine lv_aload_n hx hb dX0_at_13 rfl (lv_at hl 0 rfl) ?_
      refine va_get (D := D) (ci := 1) (v := .ref h1) (C := RX0) (T := TX0) (N := 4) hx hb hts hi_X0 hown hK.1 hP 0 rfl rfl 0 (by decide) hw_f9 (fun _ h9 => h9) rfl dX0_at_14 ?_
      refine va_alen (v := 4096) hx hb hK.1 hP 1 0 rfl rfl rfl dX0_at_17 ?_
      refine lv_icmp_ge (tgt := 30) hx hb dX0_at_18 (by decide) (fun c_18 => ?_) (fun c_18 => ?_)
      · skip
        refine lv_iconst (v := (-1)) hx hb dX0_at_30 (by decide) ?_
        exact kRetIr hx hb hr hlk dX0_at_31 (kpi (by first | rfl | (rw [ex, e12]; done) | (rw [em, e12]; done) | (rw [ey, e12]; done) | (rw [e12]; done) | (simp [setAt, c_1, c_9, c_18]; done) | (simp_all [setAt]; done)))
      · skip
        refine lv_aload_n hx hb dX0_at_21 rfl (lv_at hl 0 rfl) ?_
        refine va_get (D := D) (ci := 1) (v := .ref h1) (C := RX0) (T := TX0) (N := 4) hx hb hts hi_X0 hown hK.1 hP 0 rfl rfl 0 (by decide) hw_f9 (fun _ h9 => h9) rfl dX0_at_22 ?_
        refine lv_iload_n hx hb dX0_at_25 rfl (lv_at hl 1 rfl) ?_
        refine va_iald hx hb hK.1 hP 1 0 rfl rfl (kin 4096 rfl (by decide) c_1 c_18) dX0_at_26 ?_
        refine lv_goto (tgt := 31) hx hb dX0_at_27 (by decide) ?_
        exact kRetIr hx hb hr hlk dX0_at_31 (kpi (by first | rfl | (rw [ex, e12]; done) | (rw [em, e12]; done) | (rw [ey, e12]; done) | (rw [e12]; done) | (simp [setAt, c_1, c_9, c_18]; done) | (simp_all [setAt]; done)))

set_option maxHeartbeats 4000000 in
set_option maxRecDepth 100000 in
theorem c_X0_startAnew (l : Launch) (D : va_G) (cI cJ cZ cO : ClassId) (h0 : Nat) (h1 : Nat) (h2 : Nat) (n : Nat) (an : Int32) (f : Nat → Int32) (g : Nat → Int32) : kC l D (kTY cI cJ cZ cO) yX0_startAnew wsX0_startAnew 0 0 0 0 [.ref h0] [(h0, .inr (1, [.ref h1, .ref h2, .int (nI n), .int an])), (h1, .inl (cI, 4096, .inl f)), (h2, .inl (cI, 64, .inl g))] (fun rv_ rw_ => rv_ = none ∧ rw_ = [(h0, .inr (1, [.ref h1, .ref h2, .int 1, .int 0])), (h1, .inl (cI, 4096, .inl (upd f 0 0))), (h2, .inl (cI, 64, .inl g))]) := by
  refine kEnter (cc := cX0_startAnew) (maxL := 1) (ret := none) (by decide) rfl (Nat.le_of_ble_eq_true rfl) ?_
  intro p e s m args below meth c hx hb hr hml hts hown hlk hnm hK hP hD hS hA ls hl
  have hl : lv_has ls 1 [(0, .ref h0)] := hl
  have hw_f9 := hts (.fieldLink RX0 9 "WhatToRead$Asking" "sets" "[I") (by decide +kernel)
  have hi_X0 : ∀ w ∈ wsX00, w ∈ wsX0_startAnew := by decide +kernel
  have hw_f18 := hts (.fieldLink RX0 18 "WhatToRead$Asking" "count" "I") (by decide +kernel)
  have hw_f22 := hts (.fieldLink RX0 22 "WhatToRead$Asking" "answered" "I") (by decide +kernel)
  refine lv_aload_n hx hb dX0_startAnew_0 rfl (lv_at hl 0 rfl) ?_
  refine va_get (D := D) (ci := 1) (v := .ref h1) (C := RX0) (T := TX0) (N := 4) hx hb hts hi_X0 hown hK.1 hP 0 rfl rfl 0 (by decide) hw_f9 (fun _ h9 => h9) rfl dX0_startAnew_1 ?_
  refine lv_iconst (v := 0) hx hb dX0_startAnew_4 (by decide) ?_
  refine lv_iconst (v := 0) hx hb dX0_startAnew_5 (by decide) ?_
  refine va_iast hx hb hK.1 hP hD hS 1 0 rfl rfl (by unfold vp_in; decide) dX0_startAnew_6 (fun H locs hP hD hS => ?_)
  rw [show (0 : Int32).toNatClampNeg = 0 from rfl] at hP hD
  have hP : va_P D vwCl [(h0, .inr (1, [.ref h1, .ref h2, .int (nI n), .int an])), (h1, .inl (cI, 4096, .inl (upd f 0 0))), (h2, .inl (cI, 64, .inl g))] H := hP
  have hD : va_D _ [(h0, .inr (1, [.ref h1, .ref h2, .int (nI n), .int an])), (h1, .inl (cI, 4096, .inl (upd f 0 0))), (h2, .inl (cI, 64, .inl g))] := hD
  refine lv_aload_n hx hb dX0_startAnew_7 rfl (lv_at hl 0 rfl) ?_
  refine lv_iconst (v := 1) hx hb dX0_startAnew_8 (by decide) ?_
  refine va_put (D := D) (ci := 1) (v := .int 1) (ty := .int) (C := RX0) (T := TX0) (N := 4) hx hb hts hi_X0 tyX0 tyX0_ok nmX0 hown hK.1 hP hD hS 0 rfl rfl 2 (by decide) hw_f18 (fun _ h9 => h9) rfl (by decide +kernel) rfl rfl (Nat.le_of_ble_eq_true rfl) dX0_startAnew_9 (fun H locs hP hD hS => ?_)
  have hP : va_P D vwCl [(h0, .inr (1, [.ref h1, .ref h2, .int 1, .int an])), (h1, .inl (cI, 4096, .inl (upd f 0 0))), (h2, .inl (cI, 64, .inl g))] H := hP
  have hD : va_D _ [(h0, .inr (1, [.ref h1, .ref h2, .int 1, .int an])), (h1, .inl (cI, 4096, .inl (upd f 0 0))), (h2, .inl (cI, 64, .inl g))] := hD
  refine lv_aload_n hx hb dX0_startAnew_12 rfl (lv_at hl 0 rfl) ?_
  refine lv_iconst (v := 0) hx hb dX0_startAnew_13 (by decide) ?_
  refine va_put (D := D) (ci := 1) (v := .int 0) (ty := .int) (C := RX0) (T := TX0) (N := 4) hx hb hts hi_X0 tyX0 tyX0_ok nmX0 hown hK.1 hP hD hS 0 rfl rfl 3 (by decide) hw_f22 (fun _ h9 => h9) rfl (by decide +kernel) rfl rfl (Nat.le_of_ble_eq_true rfl) dX0_startAnew_14 (fun H locs hP hD hS => ?_)
  have hP : va_P D vwCl [(h0, .inr (1, [.ref h1, .ref h2, .int 1, .int 0])), (h1, .inl (cI, 4096, .inl (upd f 0 0))), (h2, .inl (cI, 64, .inl g))] H := hP
  have hD : va_D _ [(h0, .inr (1, [.ref h1, .ref h2, .int 1, .int 0])), (h1, .inl (cI, 4096, .inl (upd f 0 0))), (h2, .inl (cI, 64, .inl g))] := hD
  exact kRetV hx hb hr hlk dX0_startAnew_17 hP hD hS (Nat.le_of_ble_eq_true rfl) (Nat.le_of_ble_eq_true rfl) ⟨rfl, rfl⟩

set_option maxHeartbeats 4000000 in
set_option maxRecDepth 100000 in
theorem c_X0_addTopic (l : Launch) (D : va_G) (cI cJ cZ cO : ClassId) (h0 : Nat) (h1 : Nat) (h2 : Nat) (n : Nat) (an : Int32) (f : Nat → Int32) (g : Nat → Int32) (t : Int32) (im : Int32) (hn : n ≤ 2048) : kC l D (kTY cI cJ cZ cO) yX0_addTopic wsX0_addTopic 0 0 0 0 [.ref h0, .int t, .int im] [(h0, .inr (1, [.ref h1, .ref h2, .int (nI n), .int an])), (h1, .inl (cI, 4096, .inl f)), (h2, .inl (cI, 64, .inl g))] (fun rv_ rw_ => rv_ = none ∧ rw_ = [(h0, .inr (1, [.ref h1, .ref h2, .int (nI (addF f n (1 <<< (t &&& 31)) im n).2), .int an])), (h1, .inl (cI, 4096, .inl ((addF f n (1 <<< (t &&& 31)) im n).1))), (h2, .inl (cI, 64, .inl g))]) := by
  refine kEnter (cc := cX0_addTopic) (maxL := 5) (ret := none) (by decide) rfl (Nat.le_of_ble_eq_true rfl) ?_
  intro p e s m args below meth c hx hb hr hml hts hown hlk hnm hK hP hD hS hA ls hl
  have hl : lv_has ls 5 [(0, .ref h0), (1, .int t), (2, .int im)] := hl
  have hw_f18 := hts (.fieldLink RX0 18 "WhatToRead$Asking" "count" "I") (by decide +kernel)
  have hi_X0 : ∀ w ∈ wsX00, w ∈ wsX0_addTopic := by decide +kernel
  have hw_f9 := hts (.fieldLink RX0 9 "WhatToRead$Asking" "sets" "[I") (by decide +kernel)
  refine lv_aload_n hx hb dX0_addTopic_0 rfl (lv_at hl 0 rfl) ?_
  refine va_get (D := D) (ci := 1) (v := .int (nI n)) (C := RX0) (T := TX0) (N := 4) hx hb hts hi_X0 hown hK.1 hP 0 rfl rfl 2 (by decide) hw_f18 (fun _ h9 => h9) rfl dX0_addTopic_1 ?_
  refine lv_istore_n (lv' := [(3, .int (nI n)), (0, .ref h0), (1, .int t), (2, .int im)]) hx hb dX0_addTopic_4 rfl hl (by decide) rfl (fun ls hl => ?_)
  refine lv_iconst (v := 0) hx hb dX0_addTopic_5 (by decide) ?_
  refine lv_istore (lv' := [(4, .int 0), (3, .int (nI n)), (0, .ref h0), (1, .int t), (2, .int im)]) hx hb dX0_addTopic_6 hl (by decide) rfl (fun ls hl => ?_)
  have hloop_8 : ∀ (fu : Nat) (i : Nat) (mm : Nat) (x : Nat → Int32), n - i < fu → i ≤ n → mm ≤ n + i → mm = (addF f n (1 <<< (t &&& 31)) im i).2 → x = (addF f n (1 <<< (t &&& 31)) im i).1 → ∀ (H : Heap) (locs : List Loc), va_P D vwCl [(h0, .inr (1, [.ref h1, .ref h2, .int (nI mm), .int an])), (h1, .inl (cI, 4096, .inl x)), (h2, .inl (cI, 64, .inl g))] H → va_D (va_A [(h0, .inr (1, [.ref h1, .ref h2, .int (nI n), .int an])), (h1, .inl (cI, 4096, .inl f)), (h2, .inl (cI, 64, .inl g))] s.heap.size) [(h0, .inr (1, [.ref h1, .ref h2, .int (nI mm), .int an])), (h1, .inl (cI, 4096, .inl x)), (h2, .inl (cI, 64, .inl g))] → va_S (va_A [(h0, .inr (1, [.ref h1, .ref h2, .int (nI n), .int an])), (h1, .inl (cI, 4096, .inl f)), (h2, .inl (cI, 64, .inl g))] s.heap.size) s.heap H locs → ∀ ls : Array Slot, lv_has ls 5 [(0, .ref h0), (1, .int t), (2, .int im), (3, .int (nI n)), (4, .int (nI i))] → W p l e ({ frames := 0, cells := 0, slots := 0, locals := 0 }) s m args below meth c H locs 0 0 (MQ below (kQ D [(h0, .inr (1, [.ref h1, .ref h2, .int (nI n), .int an])), (h1, .inl (cI, 4096, .inl f)), (h2, .inl (cI, 64, .inl g))] s.heap.size (fun rv_ rw_ => rv_ = none ∧ rw_ = [(h0, .inr (1, [.ref h1, .ref h2, .int (nI (addF f n (1 <<< (t &&& 31)) im n).2), .int an])), (h1, .inl (cI, 4096, .inl ((addF f n (1 <<< (t &&& 31)) im n).1))), (h2, .inl (cI, 64, .inl g))])) args s 0 0 (va_A [(h0, .inr (1, [.ref h1, .ref h2, .int (nI n), .int an])), (h1, .inl (cI, 4096, .inl f)), (h2, .inl (cI, 64, .inl g))] s.heap.size)) (F0 m 8 ls []) := by
    intro fu
    induction fu with
    | zero => intro i mm x hmu; exact absurd hmu (Nat.not_lt_zero _)
    | succ fu ih_8 =>
      intro i mm x hmu_8 hi hm em ex H locs hP hD hS ls hl
      refine lv_iload hx hb dX0_addTopic_8 (lv_at hl 4 rfl) ?_
      refine lv_iload_n hx hb dX0_addTopic_10 rfl (lv_at hl 3 rfl) ?_
      refine lv_icmp_ge (tgt := 75) hx hb dX0_addTopic_11 (by decide) (fun c_11 => ?_) (fun c_11 => ?_)
      · skip
        have nc_11 : n ≤ i := (nI_leI (a := n) (b := i) (by omega) (by omega)).mp c_11
        have e12 : i = n := by omega
        have ew_0 : (nI mm : Int32) = nI (addF f n (1 <<< (t &&& 31)) im n).2 := by first | rfl | (rw [ex, e12]; done) | (rw [em, e12]; done) | (rw [ey, e12]; done) | (rw [e12]; done) | (simp [hi, hm, em, ex, c_11, nc_11]; done) | (simp_all []; done)
        have ew_1 : (x : Nat → Int32) = (addF f n (1 <<< (t &&& 31)) im n).1 := by first | rfl | (rw [ex, e12]; done) | (rw [em, e12]; done) | (rw [ey, e12]; done) | (rw [e12]; done) | (simp [hi, hm, em, ex, c_11, nc_11]; done) | (simp_all []; done)
        exact kRetV hx hb hr hlk dX0_addTopic_75 hP hD hS (Nat.le_of_ble_eq_true rfl) (Nat.le_of_ble_eq_true rfl) ⟨rfl, (kw2 (fun (z_0 : Int32) (z_1 : Nat → Int32) => ([(h0, .inr (1, [.ref h1, .ref h2, .int z_0, .int an])), (h1, .inl (cI, 4096, .inl z_1)), (h2, .inl (cI, 64, .inl g))] : va_W)) ew_0 ew_1)⟩
      · skip
        have nc_11 : ¬ n ≤ i := (not_congr (nI_leI (a := n) (b := i) (by omega) (by omega))).mp c_11
        refine lv_aload_n hx hb dX0_addTopic_14 rfl (lv_at hl 0 rfl) ?_
        refine va_get (D := D) (ci := 1) (v := .int (nI mm)) (C := RX0) (T := TX0) (N := 4) hx hb hts hi_X0 hown hK.1 hP 0 rfl rfl 2 (by decide) hw_f18 (fun _ h9 => h9) rfl dX0_addTopic_15 ?_
        refine lv_aload_n hx hb dX0_addTopic_18 rfl (lv_at hl 0 rfl) ?_
        refine va_get (D := D) (ci := 1) (v := .ref h1) (C := RX0) (T := TX0) (N := 4) hx hb hts hi_X0 hown hK.1 hP 0 rfl rfl 0 (by decide) hw_f9 (fun _ h9 => h9) rfl dX0_addTopic_19 ?_
        refine va_alen (v := 4096) hx hb hK.1 hP 1 0 rfl rfl rfl dX0_addTopic_22 ?_
        refine lv_icmp_ge (tgt := 75) hx hb dX0_addTopic_23 (by decide) (fun c_23 => ?_) (fun c_23 => ?_)
        · exact absurd c_23 (by have := (nI_leI (a := 4096) (b := mm) (by omega) (by omega)).mp c_23; omega)
        · skip
          refine lv_aload_n hx hb dX0_addTopic_26 rfl (lv_at hl 0 rfl) ?_
          refine va_get (D := D) (ci := 1) (v := .ref h1) (C := RX0) (T := TX0) (N := 4) hx hb hts hi_X0 hown hK.1 hP 0 rfl rfl 0 (by decide) hw_f9 (fun _ h9 => h9) rfl dX0_addTopic_27 ?_
          refine lv_iload hx hb dX0_addTopic_30 (lv_at hl 4 rfl) ?_
          refine va_iald hx hb hK.1 hP 1 0 rfl rfl (vp_in_nI (by omega) (by omega)) dX0_addTopic_32 ?_
          refine lv_topi (fun nv_1 ev_1 => ?_)
          obtain rfl : nv_1 = x i := by rw [ev_1, nI_clamp (by omega)]
          refine lv_iload_n hx hb dX0_addTopic_33 rfl (lv_at hl 2 rfl) ?_
          refine lv_iand hx hb dX0_addTopic_34 ?_
          refine lv_iload_n hx hb dX0_addTopic_35 rfl (lv_at hl 2 rfl) ?_
          refine lv_icmp_ne (tgt := 69) hx hb dX0_addTopic_36 (by decide) (fun c_36 => ?_) (fun c_36 => ?_)
          · skip
            refine lv_iinc (v := nI (i + 1)) (lv' := [(4, .int (nI (i + 1))), (0, .ref h0), (1, .int t), (2, .int im), (3, .int (nI n))]) hx hb dX0_addTopic_69 hl (k := 4) rfl (nI_1 _) (by decide) rfl (fun ls hl => ?_)
            refine lv_goto (tgt := 8) hx hb dX0_addTopic_72 (by decide) ?_
            exact ih_8  (i + 1) mm x (by omega) (by first | omega | assumption | exact Nat.zero_le _) (by first | omega | assumption | exact Nat.zero_le _) (by subst em; subst ex; simp [addF, c_36]) (by subst em; subst ex; simp [addF, c_36]) _ _ hP hD hS _ (lv_sub hl [1, 2, 3, 4, 0] rfl)
          · skip
            refine lv_aload_n hx hb dX0_addTopic_39 rfl (lv_at hl 0 rfl) ?_
            refine va_get (D := D) (ci := 1) (v := .ref h1) (C := RX0) (T := TX0) (N := 4) hx hb hts hi_X0 hown hK.1 hP 0 rfl rfl 0 (by decide) hw_f9 (fun _ h9 => h9) rfl dX0_addTopic_40 ?_
            refine lv_aload_n hx hb dX0_addTopic_43 rfl (lv_at hl 0 rfl) ?_
            refine va_get (D := D) (ci := 1) (v := .int (nI mm)) (C := RX0) (T := TX0) (N := 4) hx hb hts hi_X0 hown hK.1 hP 0 rfl rfl 2 (by decide) hw_f18 (fun _ h9 => h9) rfl dX0_addTopic_44 ?_
            refine lv_aload_n hx hb dX0_addTopic_47 rfl (lv_at hl 0 rfl) ?_
            refine va_get (D := D) (ci := 1) (v := .ref h1) (C := RX0) (T := TX0) (N := 4) hx hb hts hi_X0 hown hK.1 hP 0 rfl rfl 0 (by decide) hw_f9 (fun _ h9 => h9) rfl dX0_addTopic_48 ?_
            refine lv_iload hx hb dX0_addTopic_51 (lv_at hl 4 rfl) ?_
            refine va_iald hx hb hK.1 hP 1 0 rfl rfl (vp_in_nI (by omega) (by omega)) dX0_addTopic_53 ?_
            refine lv_topi (fun nv_2 ev_2 => ?_)
            obtain rfl : nv_2 = x i := by rw [ev_2, nI_clamp (by omega)]
            refine lv_iconst (v := 1) hx hb dX0_addTopic_54 (by decide) ?_
            refine lv_iload_n hx hb dX0_addTopic_55 rfl (lv_at hl 1 rfl) ?_
            refine lv_ishl hx hb dX0_addTopic_56 ?_
            refine lv_ior hx hb dX0_addTopic_57 ?_
            refine va_iast hx hb hK.1 hP hD hS 1 0 rfl rfl (vp_in_nI (by omega) (by omega)) dX0_addTopic_58 (fun H locs hP hD hS => ?_)
            rw [nI_clamp (by omega)] at hP hD
            have hP : va_P D vwCl [(h0, .inr (1, [.ref h1, .ref h2, .int (nI mm), .int an])), (h1, .inl (cI, 4096, .inl (upd x mm ((x i) ||| (1 <<< (t &&& 31)))))), (h2, .inl (cI, 64, .inl g))] H := hP
            have hD : va_D _ [(h0, .inr (1, [.ref h1, .ref h2, .int (nI mm), .int an])), (h1, .inl (cI, 4096, .inl (upd x mm ((x i) ||| (1 <<< (t &&& 31)))))), (h2, .inl (cI, 64, .inl g))] := hD
            refine lv_aload_n hx hb dX0_addTopic_59 rfl (lv_at hl 0 rfl) ?_
            refine lv_dup hx hb dX0_addTopic_60 rfl ?_
            refine va_get (D := D) (ci := 1) (v := .int (nI mm)) (C := RX0) (T := TX0) (N := 4) hx hb hts hi_X0 hown hK.1 hP 0 rfl rfl 2 (by decide) hw_f18 (fun _ h9 => h9) rfl dX0_addTopic_61 ?_
            refine lv_iconst (v := 1) hx hb dX0_addTopic_64 (by decide) ?_
            refine lv_iadd hx hb dX0_addTopic_65 ?_
            refine lv_topi (fun nv_3 ev_3 => ?_)
            obtain rfl : nv_3 = nI (mm + 1) := ev_3.trans (nI_1 mm)
            refine va_put (D := D) (ci := 1) (v := .int (nI (mm + 1))) (ty := .int) (C := RX0) (T := TX0) (N := 4) hx hb hts hi_X0 tyX0 tyX0_ok nmX0 hown hK.1 hP hD hS 0 rfl rfl 2 (by decide) hw_f18 (fun _ h9 => h9) rfl (by decide +kernel) rfl rfl (Nat.le_of_ble_eq_true rfl) dX0_addTopic_66 (fun H locs hP hD hS => ?_)
            have hP : va_P D vwCl [(h0, .inr (1, [.ref h1, .ref h2, .int (nI (mm + 1)), .int an])), (h1, .inl (cI, 4096, .inl (upd x mm ((x i) ||| (1 <<< (t &&& 31)))))), (h2, .inl (cI, 64, .inl g))] H := hP
            have hD : va_D _ [(h0, .inr (1, [.ref h1, .ref h2, .int (nI (mm + 1)), .int an])), (h1, .inl (cI, 4096, .inl (upd x mm ((x i) ||| (1 <<< (t &&& 31)))))), (h2, .inl (cI, 64, .inl g))] := hD
            refine lv_iinc (v := nI (i + 1)) (lv' := [(4, .int (nI (i + 1))), (0, .ref h0), (1, .int t), (2, .int im), (3, .int (nI n))]) hx hb dX0_addTopic_69 hl (k := 4) rfl (nI_1 _) (by decide) rfl (fun ls hl => ?_)
            refine lv_goto (tgt := 8) hx hb dX0_addTopic_72 (by decide) ?_
            exact ih_8  (i + 1) (mm + 1) (upd x mm ((x i) ||| (1 <<< (t &&& 31)))) (by omega) (by first | omega | assumption | exact Nat.zero_le _) (by first | omega | assumption | exact Nat.zero_le _) (by subst em; subst ex; simp [addF, c_36]) (by subst em; subst ex; simp [addF, c_36]) _ _ hP hD hS _ (lv_sub hl [1, 2, 3, 4, 0] rfl)
  exact hloop_8 ((n - 0) + 1) 0 n f (Nat.lt_succ_self _) (by first | omega | assumption | exact Nat.zero_le _) (by first | omega | assumption | exact Nat.zero_le _) (by rfl) (by rfl) _ _ hP hD hS _ (lv_sub hl [2, 3, 4, 1, 0] rfl)

set_option maxHeartbeats 4000000 in
set_option maxRecDepth 100000 in
theorem c_X0_countHaving (l : Launch) (D : va_G) (cI cJ cZ cO : ClassId) (h : Nat) (LN : Nat) (f : Nat → Int32) (a : Nat) (b : Nat) (t : Int32) (hL : LN ≤ 4096) (hab : a ≤ b) (hb2 : b ≤ LN) : kR l D (kTY cI cJ cZ cO) yX0_countHaving wsX0_countHaving 1 21 [.ref h, .int (nI a), .int (nI b), .int t] [(h, .inl (cI, LN, .inl f))] (fun rv_ => rv_ = some (.int (nI (cntN f t a (b - a))))) := by
  refine kEnterR (cc := cX0_countHaving) (maxL := 6) (ret := (some .int)) (by decide) rfl (Nat.le_of_ble_eq_true rfl) ?_
  intro p e s m args below meth c hx hb hr hml hts hown hlk hK hP ls hl
  have hl : lv_has ls 6 [(0, .ref h), (1, .int (nI a)), (2, .int (nI b)), (3, .int t)] := hl
  have hw_m47 := hts (.methodLink RX0 47 Lib.Math.max.name) (by decide +kernel)
  have hw_stmax := hts (.static Lib.Math.max.name) (by decide +kernel)
  have hw_iM := hts (.initialized "java/lang/Math") (by decide +kernel)
  have hw_cMmax := hts (.code Lib.Math.max.name Lib.Math.max.code 2 (some .int)) (by decide +kernel)
  refine lv_iconst (v := 0) hx hb dX0_countHaving_0 (by decide) ?_
  refine lv_istore (lv' := [(4, .int 0), (0, .ref h), (1, .int (nI a)), (2, .int (nI b)), (3, .int t)]) hx hb dX0_countHaving_1 hl (by decide) rfl (fun ls hl => ?_)
  refine lv_iload_n hx hb dX0_countHaving_3 rfl (lv_at hl 2 rfl) ?_
  refine lv_iconst (v := 0) hx hb dX0_countHaving_4 (by decide) ?_
  refine va_mmax hx hb (by rw [hml]; exact hl.1.symm) hown hw_m47 hw_stmax hw_iM hw_cMmax (Nat.le_of_ble_eq_true rfl) (Nat.le_of_ble_eq_true rfl) (Nat.le_of_ble_eq_true rfl) (Nat.le_of_ble_eq_true rfl) dX0_countHaving_5 ?_
  refine W.eq (g2 := F0 m 8 ls [.int (kmax (nI a) 0)]) rfl ?_
  refine lv_topi (fun nv_1 ev_1 => ?_)
  obtain rfl : nv_1 = nI a := ev_1.trans (kmax_0 (by omega))
  refine lv_istore (lv' := [(5, .int (nI a)), (4, .int 0), (0, .ref h), (1, .int (nI a)), (2, .int (nI b)), (3, .int t)]) hx hb dX0_countHaving_8 hl (by decide) rfl (fun ls hl => ?_)
  have hloop_10 : ∀ (fu : Nat) (k : Nat) (x : Int32), b - a - k < fu → k ≤ b - a → x = nI (cntN f t a k) → ∀ ls : Array Slot, lv_has ls 6 [(0, .ref h), (1, .int (nI a)), (2, .int (nI b)), (3, .int t), (4, .int x), (5, .int (nI (a + k)))] → W p l e ({ frames := 1, cells := 0, slots := 0, locals := 21 }) s m args below meth c s.heap [] 0 0 (MQ below (kQr (fun rv_ => rv_ = some (.int (nI (cntN f t a (b - a)))))) args s 0 0 (fun _ => False)) (F0 m 10 ls []) := by
    intro fu
    induction fu with
    | zero => intro k x hmu; exact absurd hmu (Nat.not_lt_zero _)
    | succ fu ih_10 =>
      intro k x hmu_10 hk ex ls hl
      refine lv_iload hx hb dX0_countHaving_10 (lv_at hl 5 rfl) ?_
      refine lv_iload_n hx hb dX0_countHaving_12 rfl (lv_at hl 2 rfl) ?_
      refine lv_icmp_ge (tgt := 42) hx hb dX0_countHaving_13 (by decide) (fun c_13 => ?_) (fun c_13 => ?_)
      · skip
        have nc_13 : b ≤ (a + k) := (nI_leI (a := b) (b := a + k) (by omega) (by omega)).mp c_13
        have e12 : b - a = k := by omega
        subst e12
        refine lv_iload hx hb dX0_countHaving_42 (lv_at hl 4 rfl) ?_
        exact kRetIr hx hb hr hlk dX0_countHaving_44 (kpi (by exact ex))
      · skip
        have nc_13 : ¬ b ≤ (a + k) := (not_congr (nI_leI (a := b) (b := a + k) (by omega) (by omega))).mp c_13
        refine lv_iload hx hb dX0_countHaving_16 (lv_at hl 5 rfl) ?_
        refine lv_aload_n hx hb dX0_countHaving_18 rfl (lv_at hl 0 rfl) ?_
        refine va_alen (v := nI LN) hx hb hK.1 hP 0 0 rfl rfl rfl dX0_countHaving_19 ?_
        refine lv_icmp_ge (tgt := 42) hx hb dX0_countHaving_20 (by decide) (fun c_20 => ?_) (fun c_20 => ?_)
        · exact absurd c_20 (by have := (nI_leI (a := LN) (b := a + k) (by omega) (by omega)).mp c_20; omega)
        · skip
          refine lv_iload hx hb dX0_countHaving_23 (lv_at hl 4 rfl) ?_
          refine lv_aload_n hx hb dX0_countHaving_25 rfl (lv_at hl 0 rfl) ?_
          refine lv_iload hx hb dX0_countHaving_26 (lv_at hl 5 rfl) ?_
          refine va_iald hx hb hK.1 hP 0 0 rfl rfl (vp_in_nI (by omega) (by omega)) dX0_countHaving_28 ?_
          refine lv_topi (fun nv_2 ev_2 => ?_)
          obtain rfl : nv_2 = f (a + k) := by rw [ev_2, nI_clamp (by omega)]
          refine lv_iload_n hx hb dX0_countHaving_29 rfl (lv_at hl 3 rfl) ?_
          refine lv_ishr hx hb dX0_countHaving_30 ?_
          refine lv_iconst (v := 1) hx hb dX0_countHaving_31 (by decide) ?_
          refine lv_iand hx hb dX0_countHaving_32 ?_
          refine lv_iadd hx hb dX0_countHaving_33 ?_
          refine lv_istore (lv' := [(4, .int (x + (((f (a + k)) >>> (t &&& 31)) &&& 1))), (0, .ref h), (1, .int (nI a)), (2, .int (nI b)), (3, .int t), (5, .int (nI (a + k)))]) hx hb dX0_countHaving_34 hl (by decide) rfl (fun ls hl => ?_)
          refine lv_iinc (v := nI ((a + k) + 1)) (lv' := [(5, .int (nI ((a + k) + 1))), (4, .int (x + (((f (a + k)) >>> (t &&& 31)) &&& 1))), (0, .ref h), (1, .int (nI a)), (2, .int (nI b)), (3, .int t)]) hx hb dX0_countHaving_36 hl (k := 5) rfl (nI_1 _) (by decide) rfl (fun ls hl => ?_)
          refine lv_goto (tgt := 10) hx hb dX0_countHaving_39 (by decide) ?_
          exact ih_10  (k + 1) (x + (((f (a + k)) >>> (t &&& 31)) &&& 1)) (by omega) (by first | omega | assumption | exact Nat.zero_le _) (by rw [ex, k_bit, nI_add]; rfl) _ (lv_sub hl [2, 3, 4, 5, 1, 0] rfl)
  exact hloop_10 ((b - a - 0) + 1) 0 0 (Nat.lt_succ_self _) (by first | omega | assumption | exact Nat.zero_le _) (by rfl) _ (lv_sub hl [2, 3, 4, 5, 1, 0] rfl)

set_option maxHeartbeats 4000000 in
set_option maxRecDepth 100000 in
theorem c_X0_has (l : Launch) (D : va_G) (cI cJ cZ cO : ClassId) (v : Int32) (t : Int32) : kR l D (kTY cI cJ cZ cO) yX0_has wsX0_has 0 0 [.int v, .int t] [] (fun rv_ => rv_ = some (.int (k01 (hasB v t)))) := by
  refine kEnterR (cc := cX0_has) (maxL := 2) (ret := (some .boolean)) (by decide) rfl (Nat.le_of_ble_eq_true rfl) ?_
  intro p e s m args below meth c hx hb hr hml hts hown hlk hK hP ls hl
  have hl : lv_has ls 2 [(0, .int v), (1, .int t)] := hl
  refine lv_iload_n hx hb dX0_has_0 rfl (lv_at hl 0 rfl) ?_
  refine lv_iload_n hx hb dX0_has_1 rfl (lv_at hl 1 rfl) ?_
  refine lv_ishr hx hb dX0_has_2 ?_
  refine lv_iconst (v := 1) hx hb dX0_has_3 (by decide) ?_
  refine lv_iand hx hb dX0_has_4 ?_
  refine lv_iconst (v := 1) hx hb dX0_has_5 (by decide) ?_
  refine lv_icmp_ne (tgt := 13) hx hb dX0_has_6 (by decide) (fun c_6 => ?_) (fun c_6 => ?_)
  · skip
    refine lv_iconst (v := 0) hx hb dX0_has_13 (by decide) ?_
    exact kRetZr (hasB v t) (by first | rfl | (rw [ex, e12]; done) | (rw [em, e12]; done) | (rw [ey, e12]; done) | (rw [e12]; done) | (simp [hasB, k01, c_6]; done) | (simp_all [hasB, k01]; done)) hx hb hr hlk dX0_has_14 rfl
  · skip
    refine lv_iconst (v := 1) hx hb dX0_has_9 (by decide) ?_
    refine lv_goto (tgt := 14) hx hb dX0_has_10 (by decide) ?_
    exact kRetZr (hasB v t) (by first | rfl | (rw [ex, e12]; done) | (rw [em, e12]; done) | (rw [ey, e12]; done) | (rw [e12]; done) | (simp [hasB, k01, c_6]; done) | (simp_all [hasB, k01]; done)) hx hb hr hlk dX0_has_14 rfl

set_option maxHeartbeats 4000000 in
set_option maxRecDepth 100000 in
theorem c_X0_keep (l : Launch) (D : va_G) (cI cJ cZ cO : ClassId) (h0 : Nat) (h1 : Nat) (h2 : Nat) (n : Nat) (an : Int32) (f : Nat → Int32) (g : Nat → Int32) (t : Int32) (is : Bool) (hn : n ≤ 4096) : kC l D (kTY cI cJ cZ cO) yX0_keep wsX0_keep 1 21 0 0 [.ref h0, .int t, .int (k01 is)] [(h0, .inr (1, [.ref h1, .ref h2, .int (nI n), .int an])), (h1, .inl (cI, 4096, .inl f)), (h2, .inl (cI, 64, .inl g))] (fun rv_ rw_ => rv_ = none ∧ rw_ = [(h0, .inr (1, [.ref h1, .ref h2, .int (nI (keepF f t is n).2), .int an])), (h1, .inl (cI, 4096, .inl ((keepF f t is n).1))), (h2, .inl (cI, 64, .inl g))]) := by
  refine kEnter (cc := cX0_keep) (maxL := 5) (ret := none) (by decide) rfl (Nat.le_of_ble_eq_true rfl) ?_
  intro p e s m args below meth c hx hb hr hml hts hown hlk hnm hK hP hD hS hA ls hl
  have hl : lv_has ls 5 [(0, .ref h0), (1, .int t), (2, .int (k01 is))] := hl
  have hw_f18 := hts (.fieldLink RX0 18 "WhatToRead$Asking" "count" "I") (by decide +kernel)
  have hi_X0 : ∀ w ∈ wsX00, w ∈ wsX0_keep := by decide +kernel
  have hw_f9 := hts (.fieldLink RX0 9 "WhatToRead$Asking" "sets" "[I") (by decide +kernel)
  refine lv_iconst (v := 0) hx hb dX0_keep_0 (by decide) ?_
  refine lv_istore_n (lv' := [(3, .int 0), (0, .ref h0), (1, .int t), (2, .int (k01 is))]) hx hb dX0_keep_1 rfl hl (by decide) rfl (fun ls hl => ?_)
  refine lv_iconst (v := 0) hx hb dX0_keep_2 (by decide) ?_
  refine lv_istore (lv' := [(4, .int 0), (3, .int 0), (0, .ref h0), (1, .int t), (2, .int (k01 is))]) hx hb dX0_keep_3 hl (by decide) rfl (fun ls hl => ?_)
  have hloop_5 : ∀ (fu : Nat) (i : Nat) (mm : Nat) (x : Nat → Int32), n - i < fu → i ≤ n → mm ≤ i → mm = (keepF f t is i).2 → x = (keepF f t is i).1 → ∀ (H : Heap) (locs : List Loc), va_P D vwCl [(h0, .inr (1, [.ref h1, .ref h2, .int (nI n), .int an])), (h1, .inl (cI, 4096, .inl x)), (h2, .inl (cI, 64, .inl g))] H → va_D (va_A [(h0, .inr (1, [.ref h1, .ref h2, .int (nI n), .int an])), (h1, .inl (cI, 4096, .inl f)), (h2, .inl (cI, 64, .inl g))] s.heap.size) [(h0, .inr (1, [.ref h1, .ref h2, .int (nI n), .int an])), (h1, .inl (cI, 4096, .inl x)), (h2, .inl (cI, 64, .inl g))] → va_S (va_A [(h0, .inr (1, [.ref h1, .ref h2, .int (nI n), .int an])), (h1, .inl (cI, 4096, .inl f)), (h2, .inl (cI, 64, .inl g))] s.heap.size) s.heap H locs → ∀ ls : Array Slot, lv_has ls 5 [(0, .ref h0), (1, .int t), (2, .int (k01 is)), (3, .int (nI mm)), (4, .int (nI i))] → W p l e ({ frames := 1, cells := 0, slots := 0, locals := 21 }) s m args below meth c H locs 0 0 (MQ below (kQ D [(h0, .inr (1, [.ref h1, .ref h2, .int (nI n), .int an])), (h1, .inl (cI, 4096, .inl f)), (h2, .inl (cI, 64, .inl g))] s.heap.size (fun rv_ rw_ => rv_ = none ∧ rw_ = [(h0, .inr (1, [.ref h1, .ref h2, .int (nI (keepF f t is n).2), .int an])), (h1, .inl (cI, 4096, .inl ((keepF f t is n).1))), (h2, .inl (cI, 64, .inl g))])) args s 0 0 (va_A [(h0, .inr (1, [.ref h1, .ref h2, .int (nI n), .int an])), (h1, .inl (cI, 4096, .inl f)), (h2, .inl (cI, 64, .inl g))] s.heap.size)) (F0 m 5 ls []) := by
    intro fu
    induction fu with
    | zero => intro i mm x hmu; exact absurd hmu (Nat.not_lt_zero _)
    | succ fu ih_5 =>
      intro i mm x hmu_5 hi hm em ex H locs hP hD hS ls hl
      refine lv_iload hx hb dX0_keep_5 (lv_at hl 4 rfl) ?_
      refine lv_aload_n hx hb dX0_keep_7 rfl (lv_at hl 0 rfl) ?_
      refine va_get (D := D) (ci := 1) (v := .int (nI n)) (C := RX0) (T := TX0) (N := 4) hx hb hts hi_X0 hown hK.1 hP 0 rfl rfl 2 (by decide) hw_f18 (fun _ h9 => h9) rfl dX0_keep_8 ?_
      refine lv_icmp_ge (tgt := 61) hx hb dX0_keep_11 (by decide) (fun c_11 => ?_) (fun c_11 => ?_)
      · skip
        have nc_11 : n ≤ i := (nI_leI (a := n) (b := i) (by omega) (by omega)).mp c_11
        have e12 : i = n := by omega
        refine lv_aload_n hx hb dX0_keep_61 rfl (lv_at hl 0 rfl) ?_
        refine lv_iload_n hx hb dX0_keep_62 rfl (lv_at hl 3 rfl) ?_
        refine va_put (D := D) (ci := 1) (v := .int (nI mm)) (ty := .int) (C := RX0) (T := TX0) (N := 4) hx hb hts hi_X0 tyX0 tyX0_ok nmX0 hown hK.1 hP hD hS 0 rfl rfl 2 (by decide) hw_f18 (fun _ h9 => h9) rfl (by decide +kernel) rfl rfl (Nat.le_of_ble_eq_true rfl) dX0_keep_63 (fun H locs hP hD hS => ?_)
        have hP : va_P D vwCl [(h0, .inr (1, [.ref h1, .ref h2, .int (nI mm), .int an])), (h1, .inl (cI, 4096, .inl x)), (h2, .inl (cI, 64, .inl g))] H := hP
        have hD : va_D _ [(h0, .inr (1, [.ref h1, .ref h2, .int (nI mm), .int an])), (h1, .inl (cI, 4096, .inl x)), (h2, .inl (cI, 64, .inl g))] := hD
        have ew_0 : (nI mm : Int32) = nI (keepF f t is n).2 := by first | rfl | (rw [ex, e12]; done) | (rw [em, e12]; done) | (rw [ey, e12]; done) | (rw [e12]; done) | (simp [hi, hm, em, ex, c_11, nc_11]; done) | (simp_all []; done)
        have ew_1 : (x : Nat → Int32) = (keepF f t is n).1 := by first | rfl | (rw [ex, e12]; done) | (rw [em, e12]; done) | (rw [ey, e12]; done) | (rw [e12]; done) | (simp [hi, hm, em, ex, c_11, nc_11]; done) | (simp_all []; done)
        exact kRetV hx hb hr hlk dX0_keep_66 hP hD hS (Nat.le_of_ble_eq_true rfl) (Nat.le_of_ble_eq_true rfl) ⟨rfl, (kw2 (fun (z_0 : Int32) (z_1 : Nat → Int32) => ([(h0, .inr (1, [.ref h1, .ref h2, .int z_0, .int an])), (h1, .inl (cI, 4096, .inl z_1)), (h2, .inl (cI, 64, .inl g))] : va_W)) ew_0 ew_1)⟩
      · skip
        have nc_11 : ¬ n ≤ i := (not_congr (nI_leI (a := n) (b := i) (by omega) (by omega))).mp c_11
        refine lv_iload hx hb dX0_keep_14 (lv_at hl 4 rfl) ?_
        refine lv_aload_n hx hb dX0_keep_16 rfl (lv_at hl 0 rfl) ?_
        refine va_get (D := D) (ci := 1) (v := .ref h1) (C := RX0) (T := TX0) (N := 4) hx hb hts hi_X0 hown hK.1 hP 0 rfl rfl 0 (by decide) hw_f9 (fun _ h9 => h9) rfl dX0_keep_17 ?_
        refine va_alen (v := 4096) hx hb hK.1 hP 1 0 rfl rfl rfl dX0_keep_20 ?_
        refine lv_icmp_ge (tgt := 61) hx hb dX0_keep_21 (by decide) (fun c_21 => ?_) (fun c_21 => ?_)
        · exact absurd c_21 (by have := (nI_leI (a := 4096) (b := i) (by omega) (by omega)).mp c_21; omega)
        · skip
          refine lv_aload_n hx hb dX0_keep_24 rfl (lv_at hl 0 rfl) ?_
          refine va_get (D := D) (ci := 1) (v := .ref h1) (C := RX0) (T := TX0) (N := 4) hx hb hts hi_X0 hown hK.1 hP 0 rfl rfl 0 (by decide) hw_f9 (fun _ h9 => h9) rfl dX0_keep_25 ?_
          refine lv_iload hx hb dX0_keep_28 (lv_at hl 4 rfl) ?_
          refine va_iald hx hb hK.1 hP 1 0 rfl rfl (vp_in_nI (by omega) (by omega)) dX0_keep_30 ?_
          refine lv_topi (fun nv_1 ev_1 => ?_)
          obtain rfl : nv_1 = x i := by rw [ev_1, nI_clamp (by omega)]
          refine lv_iload_n hx hb dX0_keep_31 rfl (lv_at hl 1 rfl) ?_
          refine kGoR (va_runS (As := [.int (x i), .int t]) (rest := []) ⟨hx, hb, hml, hown, hts⟩ (c_X0_has l D cI cJ cZ cO (x i) t ) (va_cwS 2 hts gX0_keep_X0_has rfl rfl rfl (by decide +kernel) ⟨Nat.le_of_ble_eq_true rfl, Nat.le_of_ble_eq_true rfl⟩) (kPreSR hK (kPc_sub hP [] rfl)) rfl rfl hl.1 rfl (lv_room (Nat.le_of_ble_eq_true rfl)) dX0_keep_32 ⟨Nat.le_of_ble_eq_true rfl, Nat.le_of_ble_eq_true rfl⟩) (fun v_2 hv_2 => ?_)
          obtain rfl := hv_2
          refine W.eq (g2 := F0 m 35 ls [.int (k01 (hasB (x i) t))]) rfl ?_
          refine lv_iload_n hx hb dX0_keep_35 rfl (lv_at hl 2 rfl) ?_
          refine lv_icmp_ne (tgt := 55) hx hb dX0_keep_36 (by decide) (fun c_36 => ?_) (fun c_36 => ?_)
          · skip
            have c_36 := fun q => c_36 (k01_inj.mpr q)
            refine lv_iinc (v := nI (i + 1)) (lv' := [(4, .int (nI (i + 1))), (0, .ref h0), (1, .int t), (2, .int (k01 is)), (3, .int (nI mm))]) hx hb dX0_keep_55 hl (k := 4) rfl (nI_1 _) (by decide) rfl (fun ls hl => ?_)
            refine lv_goto (tgt := 5) hx hb dX0_keep_58 (by decide) ?_
            exact ih_5  (i + 1) mm x (by omega) (by first | omega | assumption | exact Nat.zero_le _) (by first | omega | assumption | exact Nat.zero_le _) (by subst em; subst ex; rw [keepF]; first | (rw [if_neg c_36]; done) | (rw [if_pos c_36]; done)) (by subst em; subst ex; rw [keepF]; first | (rw [if_neg c_36]; done) | (rw [if_pos c_36]; done)) _ _ hP hD hS _ (lv_sub hl [1, 2, 3, 4, 0] rfl)
          · skip
            have c_36 := k01_inj.mp c_36
            refine lv_aload_n hx hb dX0_keep_39 rfl (lv_at hl 0 rfl) ?_
            refine va_get (D := D) (ci := 1) (v := .ref h1) (C := RX0) (T := TX0) (N := 4) hx hb hts hi_X0 hown hK.1 hP 0 rfl rfl 0 (by decide) hw_f9 (fun _ h9 => h9) rfl dX0_keep_40 ?_
            refine lv_iload_n hx hb dX0_keep_43 rfl (lv_at hl 3 rfl) ?_
            refine lv_aload_n hx hb dX0_keep_44 rfl (lv_at hl 0 rfl) ?_
            refine va_get (D := D) (ci := 1) (v := .ref h1) (C := RX0) (T := TX0) (N := 4) hx hb hts hi_X0 hown hK.1 hP 0 rfl rfl 0 (by decide) hw_f9 (fun _ h9 => h9) rfl dX0_keep_45 ?_
            refine lv_iload hx hb dX0_keep_48 (lv_at hl 4 rfl) ?_
            refine va_iald hx hb hK.1 hP 1 0 rfl rfl (vp_in_nI (by omega) (by omega)) dX0_keep_50 ?_
            refine lv_topi (fun nv_3 ev_3 => ?_)
            obtain rfl : nv_3 = x i := by rw [ev_3, nI_clamp (by omega)]
            refine va_iast hx hb hK.1 hP hD hS 1 0 rfl rfl (vp_in_nI (by omega) (by omega)) dX0_keep_51 (fun H locs hP hD hS => ?_)
            rw [nI_clamp (by omega)] at hP hD
            have hP : va_P D vwCl [(h0, .inr (1, [.ref h1, .ref h2, .int (nI n), .int an])), (h1, .inl (cI, 4096, .inl (upd x mm (x i)))), (h2, .inl (cI, 64, .inl g))] H := hP
            have hD : va_D _ [(h0, .inr (1, [.ref h1, .ref h2, .int (nI n), .int an])), (h1, .inl (cI, 4096, .inl (upd x mm (x i)))), (h2, .inl (cI, 64, .inl g))] := hD
            refine lv_iinc (v := nI (mm + 1)) (lv' := [(3, .int (nI (mm + 1))), (0, .ref h0), (1, .int t), (2, .int (k01 is)), (4, .int (nI i))]) hx hb dX0_keep_52 hl (k := 3) rfl (nI_1 _) (by decide) rfl (fun ls hl => ?_)
            refine lv_iinc (v := nI (i + 1)) (lv' := [(4, .int (nI (i + 1))), (3, .int (nI (mm + 1))), (0, .ref h0), (1, .int t), (2, .int (k01 is))]) hx hb dX0_keep_55 hl (k := 4) rfl (nI_1 _) (by decide) rfl (fun ls hl => ?_)
            refine lv_goto (tgt := 5) hx hb dX0_keep_58 (by decide) ?_
            exact ih_5  (i + 1) (mm + 1) (upd x mm (x i)) (by omega) (by first | omega | assumption | exact Nat.zero_le _) (by first | omega | assumption | exact Nat.zero_le _) (by subst em; subst ex; rw [keepF]; first | (rw [if_neg c_36]; done) | (rw [if_pos c_36]; done)) (by subst em; subst ex; rw [keepF]; first | (rw [if_neg c_36]; done) | (rw [if_pos c_36]; done)) _ _ hP hD hS _ (lv_sub hl [2, 3, 4, 1, 0] rfl)
  exact hloop_5 ((n - 0) + 1) 0 0 f (Nat.lt_succ_self _) (by first | omega | assumption | exact Nat.zero_le _) (by first | omega | assumption | exact Nat.zero_le _) (by rfl) (by rfl) _ _ hP hD hS _ (lv_sub hl [2, 3, 4, 1, 0] rfl)

set_option maxHeartbeats 4000000 in
set_option maxRecDepth 100000 in
theorem c_X0_accept (l : Launch) (D : va_G) (cI cJ cZ cO : ClassId) (h0 : Nat) (h1 : Nat) (h2 : Nat) (n : Nat) (an : Int32) (f : Nat → Int32) (g : Nat → Int32) (t : Int32) (is : Bool) (hn : n ≤ 4096) : kC l D (kTY cI cJ cZ cO) yX0_accept wsX0_accept 2 46 0 0 [.ref h0, .int t, .int (k01 is)] [(h0, .inr (1, [.ref h1, .ref h2, .int (nI n), .int an])), (h1, .inl (cI, 4096, .inl f)), (h2, .inl (cI, 64, .inl g))] (fun rv_ rw_ => rv_ = some (.int (if accB f n an t is then nI (keepF f t is n).2 else -1)) ∧ rw_ = [(h0, .inr (1, [.ref h1, .ref h2, .int (if accB f n an t is then nI (keepF f t is n).2 else nI n), .int (if accB f n an t is then an ||| (1 <<< (t &&& 31)) else an)])), (h1, .inl (cI, 4096, .inl (if accB f n an t is then (keepF f t is n).1 else f))), (h2, .inl (cI, 64, .inl g))]) := by
  refine kEnter (cc := cX0_accept) (maxL := 5) (ret := (some .int)) (by decide) rfl (Nat.le_of_ble_eq_true rfl) ?_
  intro p e s m args below meth c hx hb hr hml hts hown hlk hnm hK hP hD hS hA ls hl
  have hl : lv_has ls 5 [(0, .ref h0), (1, .int t), (2, .int (k01 is))] := hl
  have hw_f9 := hts (.fieldLink RX0 9 "WhatToRead$Asking" "sets" "[I") (by decide +kernel)
  have hi_X0 : ∀ w ∈ wsX00, w ∈ wsX0_accept := by decide +kernel
  have hw_f18 := hts (.fieldLink RX0 18 "WhatToRead$Asking" "count" "I") (by decide +kernel)
  have hw_f22 := hts (.fieldLink RX0 22 "WhatToRead$Asking" "answered" "I") (by decide +kernel)
  refine lv_aload_n hx hb dX0_accept_0 rfl (lv_at hl 0 rfl) ?_
  refine va_get (D := D) (ci := 1) (v := .ref h1) (C := RX0) (T := TX0) (N := 4) hx hb hts hi_X0 hown hK.1 hP 0 rfl rfl 0 (by decide) hw_f9 (fun _ h9 => h9) rfl dX0_accept_1 ?_
  refine lv_iconst (v := 0) hx hb dX0_accept_4 (by decide) ?_
  refine lv_aload_n hx hb dX0_accept_5 rfl (lv_at hl 0 rfl) ?_
  refine va_get (D := D) (ci := 1) (v := .int (nI n)) (C := RX0) (T := TX0) (N := 4) hx hb hts hi_X0 hown hK.1 hP 0 rfl rfl 2 (by decide) hw_f18 (fun _ h9 => h9) rfl dX0_accept_6 ?_
  refine lv_iload_n hx hb dX0_accept_9 rfl (lv_at hl 1 rfl) ?_
  refine kGoR (va_runS (As := [.ref h1, .int 0, .int (nI n), .int t]) (rest := []) ⟨hx, hb, hml, hown, hts⟩ (c_X0_countHaving l D cI cJ cZ cO h1 4096 f 0 n t (by first | assumption | omega | decide) (Nat.zero_le _) (by first | assumption | omega | decide)) (va_cwS 4 hts gX0_accept_X0_countHaving rfl rfl rfl (by decide +kernel) ⟨Nat.le_of_ble_eq_true rfl, Nat.le_of_ble_eq_true rfl⟩) (kPreSR hK (kPc_sub hP [1] rfl)) rfl rfl hl.1 rfl (lv_room (Nat.le_of_ble_eq_true rfl)) dX0_accept_10 ⟨Nat.le_of_ble_eq_true rfl, Nat.le_of_ble_eq_true rfl⟩) (fun v_1 hv_1 => ?_)
  obtain rfl := hv_1
  refine W.eq (g2 := F0 m 13 ls [.int (nI (cntN f t 0 (n - 0)))]) rfl ?_
  refine lv_topi (fun nv_2 ev_2 => ?_)
  obtain rfl : nv_2 = nI (cntN f t 0 n) := ev_2.trans (by rw [Nat.sub_zero])
  refine lv_istore_n (lv' := [(3, .int (nI (cntN f t 0 n))), (0, .ref h0), (1, .int t), (2, .int (k01 is))]) hx hb dX0_accept_13 rfl hl (by decide) rfl (fun ls hl => ?_)
  refine lv_iload_n hx hb dX0_accept_14 rfl (lv_at hl 3 rfl) ?_
  refine lv_if_eq (tgt := 22) hx hb dX0_accept_15 (by decide) (fun c_15 => ?_) (fun c_15 => ?_)
  · skip
    have c_15 := k01_z c_15
    have hcl := cntN_le f t 0 n
    refine lv_aload_n hx hb dX0_accept_22 rfl (lv_at hl 1 rfl) ?_
    refine va_get (D := D) (ci := 1) (v := .int (nI n)) (C := RX0) (T := TX0) (N := 4) hx hb hts hi_X0 hown hK.1 hP 0 rfl rfl 2 (by decide) hw_f18 (fun _ h9 => h9) rfl dX0_accept_23 ?_
    refine lv_iload_n hx hb dX0_accept_26 rfl (lv_at hl 0 rfl) ?_
    refine lv_isub hx hb dX0_accept_27 ?_
    refine lv_topi (fun nv_3 ev_3 => ?_)
    obtain rfl : nv_3 = nI (n - cntN f t 0 n) := ev_3.trans (pk_sub (cntN_le f t 0 n))
    refine lv_istore (lv' := [(4, .int (nI (n - cntN f t 0 n))), (3, .int (nI (cntN f t 0 n))), (0, .ref h0), (1, .int t), (2, .int (k01 is))]) hx hb dX0_accept_28 hl (by decide) rfl (fun ls hl => ?_)
    refine lv_aload_n hx hb dX0_accept_30 rfl (lv_at hl 2 rfl) ?_
    refine va_get (D := D) (ci := 1) (v := .int an) (C := RX0) (T := TX0) (N := 4) hx hb hts hi_X0 hown hK.1 hP 0 rfl rfl 3 (by decide) hw_f22 (fun _ h9 => h9) rfl dX0_accept_31 ?_
    refine lv_iload_n hx hb dX0_accept_34 rfl (lv_at hl 3 rfl) ?_
    refine lv_ishr hx hb dX0_accept_35 ?_
    refine lv_iconst (v := 1) hx hb dX0_accept_36 (by decide) ?_
    refine lv_iand hx hb dX0_accept_37 ?_
    refine lv_iconst (v := 1) hx hb dX0_accept_38 (by decide) ?_
    refine lv_icmp_eq (tgt := 47) hx hb dX0_accept_39 (by decide) (fun c_39 => ?_) (fun c_39 => ?_)
    · skip
      refine lv_iconst (v := (-1)) hx hb dX0_accept_47 (by decide) ?_
      have ew_0 : (nI n : Int32) = if accB f n an t is then nI (keepF f t is n).2 else nI n := by first | (have hacc : accB f n an t is = true := (by simp [accB, hasB, c_15, c_39]; done); simp [hacc]; done) | (have hacc : accB f n an t is = false := (by simp [accB, hasB, c_15, c_39]; done); simp [hacc]; done)
      have ew_1 : (an : Int32) = if accB f n an t is then an ||| (1 <<< (t &&& 31)) else an := by first | (have hacc : accB f n an t is = true := (by simp [accB, hasB, c_15, c_39]; done); simp [hacc]; done) | (have hacc : accB f n an t is = false := (by simp [accB, hasB, c_15, c_39]; done); simp [hacc]; done)
      have ew_2 : (f : Nat → Int32) = if accB f n an t is then (keepF f t is n).1 else f := by first | (have hacc : accB f n an t is = true := (by simp [accB, hasB, c_15, c_39]; done); simp [hacc]; done) | (have hacc : accB f n an t is = false := (by simp [accB, hasB, c_15, c_39]; done); simp [hacc]; done)
      exact kRetI hx hb hr hlk dX0_accept_48 hP hD hS (Nat.le_of_ble_eq_true rfl) (Nat.le_of_ble_eq_true rfl) ⟨(kpi (by first | (have hacc : accB f n an t is = true := (by simp [accB, hasB, c_15, c_39]; done); simp [hacc]; done) | (have hacc : accB f n an t is = false := (by simp [accB, hasB, c_15, c_39]; done); simp [hacc]; done))), (kw3 (fun (z_0 : Int32) (z_1 : Int32) (z_2 : Nat → Int32) => ([(h0, .inr (1, [.ref h1, .ref h2, .int z_0, .int z_1])), (h1, .inl (cI, 4096, .inl z_2)), (h2, .inl (cI, 64, .inl g))] : va_W)) ew_0 ew_1 ew_2)⟩
    · skip
      refine lv_iload hx hb dX0_accept_42 (lv_at hl 0 rfl) ?_
      refine lv_if_ne (tgt := 49) hx hb dX0_accept_44 (by decide) (fun c_44 => ?_) (fun c_44 => ?_)
      · skip
        have nc_44 : ¬ (n - cntN f t 0 n) = 0 := (not_congr (nI_eq (a := n - cntN f t 0 n) (b := 0) (by omega) (by omega))).mp c_44
        refine lv_aload_n hx hb dX0_accept_49 rfl (lv_at hl 2 rfl) ?_
        refine lv_dup hx hb dX0_accept_50 rfl ?_
        refine va_get (D := D) (ci := 1) (v := .int an) (C := RX0) (T := TX0) (N := 4) hx hb hts hi_X0 hown hK.1 hP 0 rfl rfl 3 (by decide) hw_f22 (fun _ h9 => h9) rfl dX0_accept_51 ?_
        refine lv_iconst (v := 1) hx hb dX0_accept_54 (by decide) ?_
        refine lv_iload_n hx hb dX0_accept_55 rfl (lv_at hl 3 rfl) ?_
        refine lv_ishl hx hb dX0_accept_56 ?_
        refine lv_ior hx hb dX0_accept_57 ?_
        refine va_put (D := D) (ci := 1) (v := .int (an ||| (1 <<< (t &&& 31)))) (ty := .int) (C := RX0) (T := TX0) (N := 4) hx hb hts hi_X0 tyX0 tyX0_ok nmX0 hown hK.1 hP hD hS 0 rfl rfl 3 (by decide) hw_f22 (fun _ h9 => h9) rfl (by decide +kernel) rfl rfl (Nat.le_of_ble_eq_true rfl) dX0_accept_58 (fun H locs hP hD hS => ?_)
        have hP : va_P D vwCl [(h0, .inr (1, [.ref h1, .ref h2, .int (nI n), .int (an ||| (1 <<< (t &&& 31)))])), (h1, .inl (cI, 4096, .inl f)), (h2, .inl (cI, 64, .inl g))] H := hP
        have hD : va_D _ [(h0, .inr (1, [.ref h1, .ref h2, .int (nI n), .int (an ||| (1 <<< (t &&& 31)))])), (h1, .inl (cI, 4096, .inl f)), (h2, .inl (cI, 64, .inl g))] := hD
        refine lv_aload_n hx hb dX0_accept_61 rfl (lv_at hl 2 rfl) ?_
        refine lv_iload_n hx hb dX0_accept_62 rfl (lv_at hl 3 rfl) ?_
        refine lv_iload_n hx hb dX0_accept_63 rfl (lv_at hl 4 rfl) ?_
        refine kGo (wc := [(h0, .inr (1, [.ref h1, .ref h2, .int (nI n), .int (an ||| (1 <<< (t &&& 31)))])), (h1, .inl (cI, 4096, .inl f)), (h2, .inl (cI, 64, .inl g))]) (wr := []) (va_runV (As := [.int t, .int (k01 is)]) (rest := []) ⟨hx, hb, hml, hown, hts⟩ (c_X0_keep l D cI cJ cZ cO h0 h1 h2 n (an ||| (1 <<< (t &&& 31))) f g t is (by first | assumption | omega | decide) _) (cwV 2 hts gX0_accept_X0_keep rfl rfl rfl (by decide +kernel) ⟨Nat.le_of_ble_eq_true rfl, Nat.le_of_ble_eq_true rfl⟩) (kPreV (ci := 1) (q0 := 0) hK (kPc_sub hP [0, 1, 2] rfl) ((hD.sub [0, 1, 2] (by decide) rfl).weaken (fun _ _ _ _ => trivial)) rfl rfl rfl) rfl rfl hl.1 rfl (lv_room (Nat.le_of_ble_eq_true rfl)) dX0_accept_64 ⟨Nat.le_of_ble_eq_true rfl, Nat.le_of_ble_eq_true rfl⟩) hP hD hS hA [0, 1, 2] [] rfl rfl (by decide) (by decide) (fun v_4 w_4 H locs hv_4 hP hD hS => ?_)
        obtain ⟨rfl, rfl⟩ := hv_4
        have hP : va_P D vwCl [(h0, .inr (1, [.ref h1, .ref h2, .int (nI (keepF f t is n).2), .int (an ||| (1 <<< (t &&& 31)))])), (h1, .inl (cI, 4096, .inl ((keepF f t is n).1))), (h2, .inl (cI, 64, .inl g))] H := hP.sub [0, 1, 2] rfl
        have hD : va_D _ [(h0, .inr (1, [.ref h1, .ref h2, .int (nI (keepF f t is n).2), .int (an ||| (1 <<< (t &&& 31)))])), (h1, .inl (cI, 4096, .inl ((keepF f t is n).1))), (h2, .inl (cI, 64, .inl g))] := hD.sub [0, 1, 2] (by decide) rfl
        refine W.eq (g2 := F0 m 67 ls []) rfl ?_
        refine lv_aload_n hx hb dX0_accept_67 rfl (lv_at hl 2 rfl) ?_
        refine va_get (D := D) (ci := 1) (v := .int (nI (keepF f t is n).2)) (C := RX0) (T := TX0) (N := 4) hx hb hts hi_X0 hown hK.1 hP 0 rfl rfl 2 (by decide) hw_f18 (fun _ h9 => h9) rfl dX0_accept_68 ?_
        have ew_0 : (nI (keepF f t is n).2 : Int32) = if accB f n an t is then nI (keepF f t is n).2 else nI n := by first | (have hacc : accB f n an t is = true := (by simp [accB, hasB, c_15, c_39, c_44, nc_44]; done); simp [hacc]; done) | (have hacc : accB f n an t is = false := (by simp [accB, hasB, c_15, c_39, c_44, nc_44]; done); simp [hacc]; done)
        have ew_1 : ((an ||| (1 <<< (t &&& 31))) : Int32) = if accB f n an t is then an ||| (1 <<< (t &&& 31)) else an := by first | (have hacc : accB f n an t is = true := (by simp [accB, hasB, c_15, c_39, c_44, nc_44]; done); simp [hacc]; done) | (have hacc : accB f n an t is = false := (by simp [accB, hasB, c_15, c_39, c_44, nc_44]; done); simp [hacc]; done)
        have ew_2 : ((keepF f t is n).1 : Nat → Int32) = if accB f n an t is then (keepF f t is n).1 else f := by first | (have hacc : accB f n an t is = true := (by simp [accB, hasB, c_15, c_39, c_44, nc_44]; done); simp [hacc]; done) | (have hacc : accB f n an t is = false := (by simp [accB, hasB, c_15, c_39, c_44, nc_44]; done); simp [hacc]; done)
        exact kRetI hx hb hr hlk dX0_accept_71 hP hD hS (Nat.le_of_ble_eq_true rfl) (Nat.le_of_ble_eq_true rfl) ⟨(kpi (by first | (have hacc : accB f n an t is = true := (by simp [accB, hasB, c_15, c_39, c_44, nc_44]; done); simp [hacc]; done) | (have hacc : accB f n an t is = false := (by simp [accB, hasB, c_15, c_39, c_44, nc_44]; done); simp [hacc]; done))), (kw3 (fun (z_0 : Int32) (z_1 : Int32) (z_2 : Nat → Int32) => ([(h0, .inr (1, [.ref h1, .ref h2, .int z_0, .int z_1])), (h1, .inl (cI, 4096, .inl z_2)), (h2, .inl (cI, 64, .inl g))] : va_W)) ew_0 ew_1 ew_2)⟩
      · skip
        have nc_44 : (n - cntN f t 0 n) = 0 := (nI_eq (a := n - cntN f t 0 n) (b := 0) (by omega) (by omega)).mp c_44
        refine lv_iconst (v := (-1)) hx hb dX0_accept_47 (by decide) ?_
        have ew_0 : (nI n : Int32) = if accB f n an t is then nI (keepF f t is n).2 else nI n := by first | (have hacc : accB f n an t is = true := (by simp [accB, hasB, c_15, c_39, c_44, nc_44]; done); simp [hacc]; done) | (have hacc : accB f n an t is = false := (by simp [accB, hasB, c_15, c_39, c_44, nc_44]; done); simp [hacc]; done)
        have ew_1 : (an : Int32) = if accB f n an t is then an ||| (1 <<< (t &&& 31)) else an := by first | (have hacc : accB f n an t is = true := (by simp [accB, hasB, c_15, c_39, c_44, nc_44]; done); simp [hacc]; done) | (have hacc : accB f n an t is = false := (by simp [accB, hasB, c_15, c_39, c_44, nc_44]; done); simp [hacc]; done)
        have ew_2 : (f : Nat → Int32) = if accB f n an t is then (keepF f t is n).1 else f := by first | (have hacc : accB f n an t is = true := (by simp [accB, hasB, c_15, c_39, c_44, nc_44]; done); simp [hacc]; done) | (have hacc : accB f n an t is = false := (by simp [accB, hasB, c_15, c_39, c_44, nc_44]; done); simp [hacc]; done)
        exact kRetI hx hb hr hlk dX0_accept_48 hP hD hS (Nat.le_of_ble_eq_true rfl) (Nat.le_of_ble_eq_true rfl) ⟨(kpi (by first | (have hacc : accB f n an t is = true := (by simp [accB, hasB, c_15, c_39, c_44, nc_44]; done); simp [hacc]; done) | (have hacc : accB f n an t is = false := (by simp [accB, hasB, c_15, c_39, c_44, nc_44]; done); simp [hacc]; done))), (kw3 (fun (z_0 : Int32) (z_1 : Int32) (z_2 : Nat → Int32) => ([(h0, .inr (1, [.ref h1, .ref h2, .int z_0, .int z_1])), (h1, .inl (cI, 4096, .inl z_2)), (h2, .inl (cI, 64, .inl g))] : va_W)) ew_0 ew_1 ew_2)⟩
  · skip
    have c_15 := k01_n c_15
    have hcl := cntN_le f t 0 n
    refine lv_iload_n hx hb dX0_accept_18 rfl (lv_at hl 0 rfl) ?_
    refine lv_goto (tgt := 28) hx hb dX0_accept_19 (by decide) ?_
    refine lv_istore (lv' := [(4, .int (nI (cntN f t 0 n))), (3, .int (nI (cntN f t 0 n))), (0, .ref h0), (1, .int t), (2, .int (k01 is))]) hx hb dX0_accept_28 hl (by decide) rfl (fun ls hl => ?_)
    refine lv_aload_n hx hb dX0_accept_30 rfl (lv_at hl 2 rfl) ?_
    refine va_get (D := D) (ci := 1) (v := .int an) (C := RX0) (T := TX0) (N := 4) hx hb hts hi_X0 hown hK.1 hP 0 rfl rfl 3 (by decide) hw_f22 (fun _ h9 => h9) rfl dX0_accept_31 ?_
    refine lv_iload_n hx hb dX0_accept_34 rfl (lv_at hl 3 rfl) ?_
    refine lv_ishr hx hb dX0_accept_35 ?_
    refine lv_iconst (v := 1) hx hb dX0_accept_36 (by decide) ?_
    refine lv_iand hx hb dX0_accept_37 ?_
    refine lv_iconst (v := 1) hx hb dX0_accept_38 (by decide) ?_
    refine lv_icmp_eq (tgt := 47) hx hb dX0_accept_39 (by decide) (fun c_39 => ?_) (fun c_39 => ?_)
    · skip
      refine lv_iconst (v := (-1)) hx hb dX0_accept_47 (by decide) ?_
      have ew_0 : (nI n : Int32) = if accB f n an t is then nI (keepF f t is n).2 else nI n := by first | (have hacc : accB f n an t is = true := (by simp [accB, hasB, c_15, c_39]; done); simp [hacc]; done) | (have hacc : accB f n an t is = false := (by simp [accB, hasB, c_15, c_39]; done); simp [hacc]; done)
      have ew_1 : (an : Int32) = if accB f n an t is then an ||| (1 <<< (t &&& 31)) else an := by first | (have hacc : accB f n an t is = true := (by simp [accB, hasB, c_15, c_39]; done); simp [hacc]; done) | (have hacc : accB f n an t is = false := (by simp [accB, hasB, c_15, c_39]; done); simp [hacc]; done)
      have ew_2 : (f : Nat → Int32) = if accB f n an t is then (keepF f t is n).1 else f := by first | (have hacc : accB f n an t is = true := (by simp [accB, hasB, c_15, c_39]; done); simp [hacc]; done) | (have hacc : accB f n an t is = false := (by simp [accB, hasB, c_15, c_39]; done); simp [hacc]; done)
      exact kRetI hx hb hr hlk dX0_accept_48 hP hD hS (Nat.le_of_ble_eq_true rfl) (Nat.le_of_ble_eq_true rfl) ⟨(kpi (by first | (have hacc : accB f n an t is = true := (by simp [accB, hasB, c_15, c_39]; done); simp [hacc]; done) | (have hacc : accB f n an t is = false := (by simp [accB, hasB, c_15, c_39]; done); simp [hacc]; done))), (kw3 (fun (z_0 : Int32) (z_1 : Int32) (z_2 : Nat → Int32) => ([(h0, .inr (1, [.ref h1, .ref h2, .int z_0, .int z_1])), (h1, .inl (cI, 4096, .inl z_2)), (h2, .inl (cI, 64, .inl g))] : va_W)) ew_0 ew_1 ew_2)⟩
    · skip
      refine lv_iload hx hb dX0_accept_42 (lv_at hl 0 rfl) ?_
      refine lv_if_ne (tgt := 49) hx hb dX0_accept_44 (by decide) (fun c_44 => ?_) (fun c_44 => ?_)
      · skip
        have nc_44 : ¬ (cntN f t 0 n) = 0 := (not_congr (nI_eq (a := cntN f t 0 n) (b := 0) (by omega) (by omega))).mp c_44
        refine lv_aload_n hx hb dX0_accept_49 rfl (lv_at hl 2 rfl) ?_
        refine lv_dup hx hb dX0_accept_50 rfl ?_
        refine va_get (D := D) (ci := 1) (v := .int an) (C := RX0) (T := TX0) (N := 4) hx hb hts hi_X0 hown hK.1 hP 0 rfl rfl 3 (by decide) hw_f22 (fun _ h9 => h9) rfl dX0_accept_51 ?_
        refine lv_iconst (v := 1) hx hb dX0_accept_54 (by decide) ?_
        refine lv_iload_n hx hb dX0_accept_55 rfl (lv_at hl 3 rfl) ?_
        refine lv_ishl hx hb dX0_accept_56 ?_
        refine lv_ior hx hb dX0_accept_57 ?_
        refine va_put (D := D) (ci := 1) (v := .int (an ||| (1 <<< (t &&& 31)))) (ty := .int) (C := RX0) (T := TX0) (N := 4) hx hb hts hi_X0 tyX0 tyX0_ok nmX0 hown hK.1 hP hD hS 0 rfl rfl 3 (by decide) hw_f22 (fun _ h9 => h9) rfl (by decide +kernel) rfl rfl (Nat.le_of_ble_eq_true rfl) dX0_accept_58 (fun H locs hP hD hS => ?_)
        have hP : va_P D vwCl [(h0, .inr (1, [.ref h1, .ref h2, .int (nI n), .int (an ||| (1 <<< (t &&& 31)))])), (h1, .inl (cI, 4096, .inl f)), (h2, .inl (cI, 64, .inl g))] H := hP
        have hD : va_D _ [(h0, .inr (1, [.ref h1, .ref h2, .int (nI n), .int (an ||| (1 <<< (t &&& 31)))])), (h1, .inl (cI, 4096, .inl f)), (h2, .inl (cI, 64, .inl g))] := hD
        refine lv_aload_n hx hb dX0_accept_61 rfl (lv_at hl 2 rfl) ?_
        refine lv_iload_n hx hb dX0_accept_62 rfl (lv_at hl 3 rfl) ?_
        refine lv_iload_n hx hb dX0_accept_63 rfl (lv_at hl 4 rfl) ?_
        refine kGo (wc := [(h0, .inr (1, [.ref h1, .ref h2, .int (nI n), .int (an ||| (1 <<< (t &&& 31)))])), (h1, .inl (cI, 4096, .inl f)), (h2, .inl (cI, 64, .inl g))]) (wr := []) (va_runV (As := [.int t, .int (k01 is)]) (rest := []) ⟨hx, hb, hml, hown, hts⟩ (c_X0_keep l D cI cJ cZ cO h0 h1 h2 n (an ||| (1 <<< (t &&& 31))) f g t is (by first | assumption | omega | decide) _) (cwV 2 hts gX0_accept_X0_keep rfl rfl rfl (by decide +kernel) ⟨Nat.le_of_ble_eq_true rfl, Nat.le_of_ble_eq_true rfl⟩) (kPreV (ci := 1) (q0 := 0) hK (kPc_sub hP [0, 1, 2] rfl) ((hD.sub [0, 1, 2] (by decide) rfl).weaken (fun _ _ _ _ => trivial)) rfl rfl rfl) rfl rfl hl.1 rfl (lv_room (Nat.le_of_ble_eq_true rfl)) dX0_accept_64 ⟨Nat.le_of_ble_eq_true rfl, Nat.le_of_ble_eq_true rfl⟩) hP hD hS hA [0, 1, 2] [] rfl rfl (by decide) (by decide) (fun v_5 w_5 H locs hv_5 hP hD hS => ?_)
        obtain ⟨rfl, rfl⟩ := hv_5
        have hP : va_P D vwCl [(h0, .inr (1, [.ref h1, .ref h2, .int (nI (keepF f t is n).2), .int (an ||| (1 <<< (t &&& 31)))])), (h1, .inl (cI, 4096, .inl ((keepF f t is n).1))), (h2, .inl (cI, 64, .inl g))] H := hP.sub [0, 1, 2] rfl
        have hD : va_D _ [(h0, .inr (1, [.ref h1, .ref h2, .int (nI (keepF f t is n).2), .int (an ||| (1 <<< (t &&& 31)))])), (h1, .inl (cI, 4096, .inl ((keepF f t is n).1))), (h2, .inl (cI, 64, .inl g))] := hD.sub [0, 1, 2] (by decide) rfl
        refine W.eq (g2 := F0 m 67 ls []) rfl ?_
        refine lv_aload_n hx hb dX0_accept_67 rfl (lv_at hl 2 rfl) ?_
        refine va_get (D := D) (ci := 1) (v := .int (nI (keepF f t is n).2)) (C := RX0) (T := TX0) (N := 4) hx hb hts hi_X0 hown hK.1 hP 0 rfl rfl 2 (by decide) hw_f18 (fun _ h9 => h9) rfl dX0_accept_68 ?_
        have ew_0 : (nI (keepF f t is n).2 : Int32) = if accB f n an t is then nI (keepF f t is n).2 else nI n := by first | (have hacc : accB f n an t is = true := (by simp [accB, hasB, c_15, c_39, c_44, nc_44]; done); simp [hacc]; done) | (have hacc : accB f n an t is = false := (by simp [accB, hasB, c_15, c_39, c_44, nc_44]; done); simp [hacc]; done)
        have ew_1 : ((an ||| (1 <<< (t &&& 31))) : Int32) = if accB f n an t is then an ||| (1 <<< (t &&& 31)) else an := by first | (have hacc : accB f n an t is = true := (by simp [accB, hasB, c_15, c_39, c_44, nc_44]; done); simp [hacc]; done) | (have hacc : accB f n an t is = false := (by simp [accB, hasB, c_15, c_39, c_44, nc_44]; done); simp [hacc]; done)
        have ew_2 : ((keepF f t is n).1 : Nat → Int32) = if accB f n an t is then (keepF f t is n).1 else f := by first | (have hacc : accB f n an t is = true := (by simp [accB, hasB, c_15, c_39, c_44, nc_44]; done); simp [hacc]; done) | (have hacc : accB f n an t is = false := (by simp [accB, hasB, c_15, c_39, c_44, nc_44]; done); simp [hacc]; done)
        exact kRetI hx hb hr hlk dX0_accept_71 hP hD hS (Nat.le_of_ble_eq_true rfl) (Nat.le_of_ble_eq_true rfl) ⟨(kpi (by first | (have hacc : accB f n an t is = true := (by simp [accB, hasB, c_15, c_39, c_44, nc_44]; done); simp [hacc]; done) | (have hacc : accB f n an t is = false := (by simp [accB, hasB, c_15, c_39, c_44, nc_44]; done); simp [hacc]; done))), (kw3 (fun (z_0 : Int32) (z_1 : Int32) (z_2 : Nat → Int32) => ([(h0, .inr (1, [.ref h1, .ref h2, .int z_0, .int z_1])), (h1, .inl (cI, 4096, .inl z_2)), (h2, .inl (cI, 64, .inl g))] : va_W)) ew_0 ew_1 ew_2)⟩
      · skip
        have nc_44 : (cntN f t 0 n) = 0 := (nI_eq (a := cntN f t 0 n) (b := 0) (by omega) (by omega)).mp c_44
        refine lv_iconst (v := (-1)) hx hb dX0_accept_47 (by decide) ?_
        have ew_0 : (nI n : Int32) = if accB f n an t is then nI (keepF f t is n).2 else nI n := by first | (have hacc : accB f n an t is = true := (by simp [accB, hasB, c_15, c_39, c_44, nc_44]; done); simp [hacc]; done) | (have hacc : accB f n an t is = false := (by simp [accB, hasB, c_15, c_39, c_44, nc_44]; done); simp [hacc]; done)
        have ew_1 : (an : Int32) = if accB f n an t is then an ||| (1 <<< (t &&& 31)) else an := by first | (have hacc : accB f n an t is = true := (by simp [accB, hasB, c_15, c_39, c_44, nc_44]; done); simp [hacc]; done) | (have hacc : accB f n an t is = false := (by simp [accB, hasB, c_15, c_39, c_44, nc_44]; done); simp [hacc]; done)
        have ew_2 : (f : Nat → Int32) = if accB f n an t is then (keepF f t is n).1 else f := by first | (have hacc : accB f n an t is = true := (by simp [accB, hasB, c_15, c_39, c_44, nc_44]; done); simp [hacc]; done) | (have hacc : accB f n an t is = false := (by simp [accB, hasB, c_15, c_39, c_44, nc_44]; done); simp [hacc]; done)
        exact kRetI hx hb hr hlk dX0_accept_48 hP hD hS (Nat.le_of_ble_eq_true rfl) (Nat.le_of_ble_eq_true rfl) ⟨(kpi (by first | (have hacc : accB f n an t is = true := (by simp [accB, hasB, c_15, c_39, c_44, nc_44]; done); simp [hacc]; done) | (have hacc : accB f n an t is = false := (by simp [accB, hasB, c_15, c_39, c_44, nc_44]; done); simp [hacc]; done))), (kw3 (fun (z_0 : Int32) (z_1 : Int32) (z_2 : Nat → Int32) => ([(h0, .inr (1, [.ref h1, .ref h2, .int z_0, .int z_1])), (h1, .inl (cI, 4096, .inl z_2)), (h2, .inl (cI, 64, .inl g))] : va_W)) ew_0 ew_1 ew_2)⟩

set_option maxHeartbeats 4000000 in
set_option maxRecDepth 100000 in
theorem c_X0_inCommon (l : Launch) (D : va_G) (cI cJ cZ cO : ClassId) (h0 : Nat) (h1 : Nat) (h2 : Nat) (n : Nat) (an : Int32) (f : Nat → Int32) (g : Nat → Int32) (hn : n ≤ 4096) : kR l D (kTY cI cJ cZ cO) yX0_inCommon wsX0_inCommon 0 0 [.ref h0] [(h0, .inr (1, [.ref h1, .ref h2, .int (nI n), .int an])), (h1, .inl (cI, 4096, .inl f)), (h2, .inl (cI, 64, .inl g))] (fun rv_ => rv_ = some (.int (comF f n))) := by
  refine kEnterR (cc := cX0_inCommon) (maxL := 3) (ret := (some .int)) (by decide) rfl (Nat.le_of_ble_eq_true rfl) ?_
  intro p e s m args below meth c hx hb hr hml hts hown hlk hK hP ls hl
  have hl : lv_has ls 3 [(0, .ref h0)] := hl
  have hw_f18 := hts (.fieldLink RX0 18 "WhatToRead$Asking" "count" "I") (by decide +kernel)
  have hi_X0 : ∀ w ∈ wsX00, w ∈ wsX0_inCommon := by decide +kernel
  have hw_f9 := hts (.fieldLink RX0 9 "WhatToRead$Asking" "sets" "[I") (by decide +kernel)
  refine lv_sipush (v := 4095) hx hb dX0_inCommon_0 (by decide) ?_
  refine lv_istore_n (lv' := [(1, .int 4095), (0, .ref h0)]) hx hb dX0_inCommon_3 rfl hl (by decide) rfl (fun ls hl => ?_)
  refine lv_iconst (v := 0) hx hb dX0_inCommon_4 (by decide) ?_
  refine lv_istore_n (lv' := [(2, .int 0), (1, .int 4095), (0, .ref h0)]) hx hb dX0_inCommon_5 rfl hl (by decide) rfl (fun ls hl => ?_)
  have hloop_6 : ∀ (fu : Nat) (i : Nat) (x : Int32), n - i < fu → i ≤ n → x = comF f i → ∀ ls : Array Slot, lv_has ls 3 [(0, .ref h0), (1, .int x), (2, .int (nI i))] → W p l e ({ frames := 0, cells := 0, slots := 0, locals := 0 }) s m args below meth c s.heap [] 0 0 (MQ below (kQr (fun rv_ => rv_ = some (.int (comF f n)))) args s 0 0 (fun _ => False)) (F0 m 6 ls []) := by
    intro fu
    induction fu with
    | zero => intro i x hmu; exact absurd hmu (Nat.not_lt_zero _)
    | succ fu ih_6 =>
      intro i x hmu_6 hi ex ls hl
      refine lv_iload_n hx hb dX0_inCommon_6 rfl (lv_at hl 2 rfl) ?_
      refine lv_aload_n hx hb dX0_inCommon_7 rfl (lv_at hl 0 rfl) ?_
      refine va_get (D := D) (ci := 1) (v := .int (nI n)) (C := RX0) (T := TX0) (N := 4) hx hb hts hi_X0 hown hK.1 hP 0 rfl rfl 2 (by decide) hw_f18 (fun _ h9 => h9) rfl dX0_inCommon_8 ?_
      refine lv_icmp_ge (tgt := 38) hx hb dX0_inCommon_11 (by decide) (fun c_11 => ?_) (fun c_11 => ?_)
      · skip
        have nc_11 : n ≤ i := (nI_leI (a := n) (b := i) (by omega) (by omega)).mp c_11
        have e12 : n = i := by omega
        subst e12
        refine lv_iload_n hx hb dX0_inCommon_38 rfl (lv_at hl 1 rfl) ?_
        exact kRetIr hx hb hr hlk dX0_inCommon_39 (kpi (by exact ex))
      · skip
        have nc_11 : ¬ n ≤ i := (not_congr (nI_leI (a := n) (b := i) (by omega) (by omega))).mp c_11
        refine lv_iload_n hx hb dX0_inCommon_14 rfl (lv_at hl 2 rfl) ?_
        refine lv_aload_n hx hb dX0_inCommon_15 rfl (lv_at hl 0 rfl) ?_
        refine va_get (D := D) (ci := 1) (v := .ref h1) (C := RX0) (T := TX0) (N := 4) hx hb hts hi_X0 hown hK.1 hP 0 rfl rfl 0 (by decide) hw_f9 (fun _ h9 => h9) rfl dX0_inCommon_16 ?_
        refine va_alen (v := 4096) hx hb hK.1 hP 1 0 rfl rfl rfl dX0_inCommon_19 ?_
        refine lv_icmp_ge (tgt := 38) hx hb dX0_inCommon_20 (by decide) (fun c_20 => ?_) (fun c_20 => ?_)
        · exact absurd c_20 (by have := (nI_leI (a := 4096) (b := i) (by omega) (by omega)).mp c_20; omega)
        · skip
          refine lv_iload_n hx hb dX0_inCommon_23 rfl (lv_at hl 1 rfl) ?_
          refine lv_aload_n hx hb dX0_inCommon_24 rfl (lv_at hl 0 rfl) ?_
          refine va_get (D := D) (ci := 1) (v := .ref h1) (C := RX0) (T := TX0) (N := 4) hx hb hts hi_X0 hown hK.1 hP 0 rfl rfl 0 (by decide) hw_f9 (fun _ h9 => h9) rfl dX0_inCommon_25 ?_
          refine lv_iload_n hx hb dX0_inCommon_28 rfl (lv_at hl 2 rfl) ?_
          refine va_iald hx hb hK.1 hP 1 0 rfl rfl (vp_in_nI (by omega) (by omega)) dX0_inCommon_29 ?_
          refine lv_topi (fun nv_1 ev_1 => ?_)
          obtain rfl : nv_1 = f i := by rw [ev_1, nI_clamp (by omega)]
          refine lv_iand hx hb dX0_inCommon_30 ?_
          refine lv_istore_n (lv' := [(1, .int (x &&& (f i))), (0, .ref h0), (2, .int (nI i))]) hx hb dX0_inCommon_31 rfl hl (by decide) rfl (fun ls hl => ?_)
          refine lv_iinc (v := nI (i + 1)) (lv' := [(2, .int (nI (i + 1))), (1, .int (x &&& (f i))), (0, .ref h0)]) hx hb dX0_inCommon_32 hl (k := 2) rfl (nI_1 _) (by decide) rfl (fun ls hl => ?_)
          refine lv_goto (tgt := 6) hx hb dX0_inCommon_35 (by decide) ?_
          exact ih_6  (i + 1) (x &&& (f i)) (by omega) (by first | omega | assumption | exact Nat.zero_le _) (by rw [ex]; rfl) _ (lv_sub hl [2, 1, 0] rfl)
  exact hloop_6 ((n - 0) + 1) 0 4095 (Nat.lt_succ_self _) (by first | omega | assumption | exact Nat.zero_le _) (by rfl) _ (lv_sub hl [2, 1, 0] rfl)

set_option maxHeartbeats 4000000 in
set_option maxRecDepth 100000 in
theorem c_X0_bestTopic (l : Launch) (D : va_G) (cI cJ cZ cO : ClassId) (h : Nat) (LN : Nat) (f : Nat → Int32) (a : Nat) (b : Nat) (hL : LN ≤ 4096) (hab : a ≤ b) (hb2 : b ≤ LN) : kR l D (kTY cI cJ cZ cO) yX0_bestTopic wsX0_bestTopic 2 46 [.ref h, .int (nI a), .int (nI b)] [(h, .inl (cI, LN, .inl f))] (fun rv_ => rv_ = some (.int ((bestF f a (b - a) 12).1))) := by
  refine kEnterR (cc := cX0_bestTopic) (maxL := 8) (ret := (some .int)) (by decide) rfl (Nat.le_of_ble_eq_true rfl) ?_
  intro p e s m args below meth c hx hb hr hml hts hown hlk hK hP ls hl
  have hl : lv_has ls 8 [(0, .ref h), (1, .int (nI a)), (2, .int (nI b))] := hl
  have hw_m47 := hts (.methodLink RX0 47 Lib.Math.max.name) (by decide +kernel)
  have hw_stmax := hts (.static Lib.Math.max.name) (by decide +kernel)
  have hw_iM := hts (.initialized "java/lang/Math") (by decide +kernel)
  have hw_cMmax := hts (.code Lib.Math.max.name Lib.Math.max.code 2 (some .int)) (by decide +kernel)
  refine lv_iconst (v := (-1)) hx hb dX0_bestTopic_0 (by decide) ?_
  refine lv_istore_n (lv' := [(3, .int (-1)), (0, .ref h), (1, .int (nI a)), (2, .int (nI b))]) hx hb dX0_bestTopic_1 rfl hl (by decide) rfl (fun ls hl => ?_)
  refine lv_iload_n hx hb dX0_bestTopic_2 rfl (lv_at hl 3 rfl) ?_
  refine lv_iload_n hx hb dX0_bestTopic_3 rfl (lv_at hl 2 rfl) ?_
  refine lv_isub hx hb dX0_bestTopic_4 ?_
  refine lv_topi (fun nv_1 ev_1 => ?_)
  obtain rfl : nv_1 = nI (b - a) := ev_1.trans (pk_sub hab)
  refine lv_istore (lv' := [(4, .int (nI (b - a))), (3, .int (-1)), (0, .ref h), (1, .int (nI a)), (2, .int (nI b))]) hx hb dX0_bestTopic_5 hl (by decide) rfl (fun ls hl => ?_)
  refine lv_iconst (v := 0) hx hb dX0_bestTopic_7 (by decide) ?_
  refine lv_istore (lv' := [(5, .int 0), (4, .int (nI (b - a))), (3, .int (-1)), (0, .ref h), (1, .int (nI a)), (2, .int (nI b))]) hx hb dX0_bestTopic_8 hl (by decide) rfl (fun ls hl => ?_)
  have hloop_10 : ∀ (fu : Nat) (t : Nat) (x : Int32) (w : Nat), 12 - t < fu → t ≤ 12 → x = (bestF f a (b - a) t).1 → w = (bestF f a (b - a) t).2 → ∀ ls : Array Slot, lv_has ls 8 [(0, .ref h), (1, .int (nI a)), (2, .int (nI b)), (3, .int x), (4, .int (nI w)), (5, .int (nI t))] → W p l e ({ frames := 2, cells := 0, slots := 0, locals := 46 }) s m args below meth c s.heap [] 0 0 (MQ below (kQr (fun rv_ => rv_ = some (.int ((bestF f a (b - a) 12).1)))) args s 0 0 (fun _ => False)) (F0 m 10 ls []) := by
    intro fu
    induction fu with
    | zero => intro t x w hmu; exact absurd hmu (Nat.not_lt_zero _)
    | succ fu ih_10 =>
      intro t x w hmu_10 ht ex ew ls hl
      have hcl := cntN_le f (nI t) a (b - a)
      have hmo := moreN_le f (nI t) a (b - a)
      have hbl := bestF_le f a (b - a) t
      have hwl : w ≤ b - a := by omega
      refine lv_iload hx hb dX0_bestTopic_10 (lv_at hl 5 rfl) ?_
      refine lv_bipush (v := 12) hx hb dX0_bestTopic_12 (by decide) ?_
      refine lv_icmp_ge (tgt := 60) hx hb dX0_bestTopic_14 (by decide) (fun c_14 => ?_) (fun c_14 => ?_)
      · skip
        have nc_14 : 12 ≤ t := (nI_leI (a := 12) (b := t) (by omega) (by omega)).mp c_14
        have e12 : 12 = t := by omega
        subst e12
        refine lv_iload_n hx hb dX0_bestTopic_60 rfl (lv_at hl 3 rfl) ?_
        exact kRetIr hx hb hr hlk dX0_bestTopic_61 (kpi (by exact ex))
      · skip
        have nc_14 : ¬ 12 ≤ t := (not_congr (nI_leI (a := 12) (b := t) (by omega) (by omega))).mp c_14
        refine lv_aload_n hx hb dX0_bestTopic_17 rfl (lv_at hl 0 rfl) ?_
        refine lv_iload_n hx hb dX0_bestTopic_18 rfl (lv_at hl 1 rfl) ?_
        refine lv_iload_n hx hb dX0_bestTopic_19 rfl (lv_at hl 2 rfl) ?_
        refine lv_iload hx hb dX0_bestTopic_20 (lv_at hl 5 rfl) ?_
        refine kGoR (va_runS (As := [.ref h, .int (nI a), .int (nI b), .int (nI t)]) (rest := []) ⟨hx, hb, hml, hown, hts⟩ (c_X0_countHaving l D cI cJ cZ cO h LN f a b (nI t) (by first | assumption | omega | decide) (by first | assumption | omega | decide) (by first | assumption | omega | decide)) (va_cwS 4 hts gX0_bestTopic_X0_countHaving rfl rfl rfl (by decide +kernel) ⟨Nat.le_of_ble_eq_true rfl, Nat.le_of_ble_eq_true rfl⟩) (kPreSR hK (kPc_sub hP [0] rfl)) rfl rfl hl.1 rfl (lv_room (Nat.le_of_ble_eq_true rfl)) dX0_bestTopic_22 ⟨Nat.le_of_ble_eq_true rfl, Nat.le_of_ble_eq_true rfl⟩) (fun v_2 hv_2 => ?_)
        obtain rfl := hv_2
        refine W.eq (g2 := F0 m 25 ls [.int (nI (cntN f (nI t) a (b - a)))]) rfl ?_
        refine lv_istore (lv' := [(6, .int (nI (cntN f (nI t) a (b - a)))), (0, .ref h), (1, .int (nI a)), (2, .int (nI b)), (3, .int x), (4, .int (nI w)), (5, .int (nI t))]) hx hb dX0_bestTopic_25 hl (by decide) rfl (fun ls hl => ?_)
        refine lv_iload hx hb dX0_bestTopic_27 (lv_at hl 0 rfl) ?_
        refine lv_iload_n hx hb dX0_bestTopic_29 rfl (lv_at hl 3 rfl) ?_
        refine lv_iload_n hx hb dX0_bestTopic_30 rfl (lv_at hl 2 rfl) ?_
        refine lv_isub hx hb dX0_bestTopic_31 ?_
        refine lv_topi (fun nv_3 ev_3 => ?_)
        obtain rfl : nv_3 = nI (b - a) := ev_3.trans (pk_sub hab)
        refine lv_iload hx hb dX0_bestTopic_32 (lv_at hl 0 rfl) ?_
        refine lv_isub hx hb dX0_bestTopic_34 ?_
        refine lv_topi (fun nv_4 ev_4 => ?_)
        obtain rfl : nv_4 = nI (b - a - cntN f (nI t) a (b - a)) := ev_4.trans (pk_sub (cntN_le f (nI t) a (b - a)))
        refine va_mmax hx hb (by rw [hml]; exact hl.1.symm) hown hw_m47 hw_stmax hw_iM hw_cMmax (Nat.le_of_ble_eq_true rfl) (Nat.le_of_ble_eq_true rfl) (Nat.le_of_ble_eq_true rfl) (Nat.le_of_ble_eq_true rfl) dX0_bestTopic_35 ?_
        refine W.eq (g2 := F0 m 38 ls [.int (kmax (nI (cntN f (nI t) a (b - a))) (nI (b - a - cntN f (nI t) a (b - a))))]) rfl ?_
        refine lv_topi (fun nv_5 ev_5 => ?_)
        obtain rfl : nv_5 = nI (moreN f (nI t) a (b - a)) := ev_5.trans (kmax_nI (by omega) (by omega))
        refine lv_istore (lv' := [(7, .int (nI (moreN f (nI t) a (b - a)))), (6, .int (nI (cntN f (nI t) a (b - a)))), (0, .ref h), (1, .int (nI a)), (2, .int (nI b)), (3, .int x), (4, .int (nI w)), (5, .int (nI t))]) hx hb dX0_bestTopic_38 hl (by decide) rfl (fun ls hl => ?_)
        refine lv_iload hx hb dX0_bestTopic_40 (lv_at hl 0 rfl) ?_
        refine lv_iload hx hb dX0_bestTopic_42 (lv_at hl 6 rfl) ?_
        refine lv_icmp_ge (tgt := 54) hx hb dX0_bestTopic_44 (by decide) (fun c_44 => ?_) (fun c_44 => ?_)
        · skip
          have nc_44 : w ≤ (moreN f (nI t) a (b - a)) := (nI_leI (a := w) (b := moreN f (nI t) a (b - a)) (by omega) (by omega)).mp c_44
          refine lv_iinc (v := nI (t + 1)) (lv' := [(5, .int (nI (t + 1))), (7, .int (nI (moreN f (nI t) a (b - a)))), (6, .int (nI (cntN f (nI t) a (b - a)))), (0, .ref h), (1, .int (nI a)), (2, .int (nI b)), (3, .int x), (4, .int (nI w))]) hx hb dX0_bestTopic_54 hl (k := 7) rfl (nI_1 _) (by decide) rfl (fun ls hl => ?_)
          refine lv_goto (tgt := 10) hx hb dX0_bestTopic_57 (by decide) ?_
          exact ih_10  (t + 1) x w (by omega) (by first | omega | assumption | exact Nat.zero_le _) (by subst ew; subst ex; rw [bestF]; first | (rw [if_neg (by omega)]; done) | (rw [if_pos (by omega)]; done)) (by subst ew; subst ex; rw [bestF]; first | (rw [if_neg (by omega)]; done) | (rw [if_pos (by omega)]; done)) _ (lv_sub hl [3, 4, 5, 6, 7, 0] rfl)
        · skip
          have nc_44 : ¬ w ≤ (moreN f (nI t) a (b - a)) := (not_congr (nI_leI (a := w) (b := moreN f (nI t) a (b - a)) (by omega) (by omega))).mp c_44
          refine lv_iload hx hb dX0_bestTopic_47 (lv_at hl 7 rfl) ?_
          refine lv_istore_n (lv' := [(3, .int (nI t)), (7, .int (nI (moreN f (nI t) a (b - a)))), (6, .int (nI (cntN f (nI t) a (b - a)))), (0, .ref h), (1, .int (nI a)), (2, .int (nI b)), (4, .int (nI w)), (5, .int (nI t))]) hx hb dX0_bestTopic_49 rfl hl (by decide) rfl (fun ls hl => ?_)
          refine lv_iload hx hb dX0_bestTopic_50 (lv_at hl 1 rfl) ?_
          refine lv_istore (lv' := [(4, .int (nI (moreN f (nI t) a (b - a)))), (3, .int (nI t)), (7, .int (nI (moreN f (nI t) a (b - a)))), (6, .int (nI (cntN f (nI t) a (b - a)))), (0, .ref h), (1, .int (nI a)), (2, .int (nI b)), (5, .int (nI t))]) hx hb dX0_bestTopic_52 hl (by decide) rfl (fun ls hl => ?_)
          refine lv_iinc (v := nI (t + 1)) (lv' := [(5, .int (nI (t + 1))), (4, .int (nI (moreN f (nI t) a (b - a)))), (3, .int (nI t)), (7, .int (nI (moreN f (nI t) a (b - a)))), (6, .int (nI (cntN f (nI t) a (b - a)))), (0, .ref h), (1, .int (nI a)), (2, .int (nI b))]) hx hb dX0_bestTopic_54 hl (k := 7) rfl (nI_1 _) (by decide) rfl (fun ls hl => ?_)
          refine lv_goto (tgt := 10) hx hb dX0_bestTopic_57 (by decide) ?_
          exact ih_10  (t + 1) (nI t) (moreN f (nI t) a (b - a)) (by omega) (by first | omega | assumption | exact Nat.zero_le _) (by subst ew; subst ex; rw [bestF]; first | (rw [if_neg (by omega)]; done) | (rw [if_pos (by omega)]; done)) (by subst ew; subst ex; rw [bestF]; first | (rw [if_neg (by omega)]; done) | (rw [if_pos (by omega)]; done)) _ (lv_sub hl [5, 6, 7, 2, 1, 0] rfl)
  exact hloop_10 ((12 - 0) + 1) 0 (-1) (b - a) (Nat.lt_succ_self _) (by first | omega | assumption | exact Nat.zero_le _) (by rfl) (by rfl) _ (lv_sub hl [3, 4, 5, 2, 1, 0] rfl)

set_option maxHeartbeats 4000000 in
set_option maxRecDepth 100000 in
theorem c_X0_nextQuestion (l : Launch) (D : va_G) (cI cJ cZ cO : ClassId) (h0 : Nat) (h1 : Nat) (h2 : Nat) (n : Nat) (an : Int32) (f : Nat → Int32) (g : Nat → Int32) (hn : n ≤ 4096) : kR l D (kTY cI cJ cZ cO) yX0_nextQuestion wsX0_nextQuestion 3 73 [.ref h0] [(h0, .inr (1, [.ref h1, .ref h2, .int (nI n), .int an])), (h1, .inl (cI, 4096, .inl f)), (h2, .inl (cI, 64, .inl g))] (fun rv_ => rv_ = some (.int ((bestF f 0 n 12).1))) := by
  refine kEnterR (cc := cX0_nextQuestion) (maxL := 1) (ret := (some .int)) (by decide) rfl (Nat.le_of_ble_eq_true rfl) ?_
  intro p e s m args below meth c hx hb hr hml hts hown hlk hK hP ls hl
  have hl : lv_has ls 1 [(0, .ref h0)] := hl
  have hw_f9 := hts (.fieldLink RX0 9 "WhatToRead$Asking" "sets" "[I") (by decide +kernel)
  have hi_X0 : ∀ w ∈ wsX00, w ∈ wsX0_nextQuestion := by decide +kernel
  have hw_f18 := hts (.fieldLink RX0 18 "WhatToRead$Asking" "count" "I") (by decide +kernel)
  refine lv_aload_n hx hb dX0_nextQuestion_0 rfl (lv_at hl 0 rfl) ?_
  refine va_get (D := D) (ci := 1) (v := .ref h1) (C := RX0) (T := TX0) (N := 4) hx hb hts hi_X0 hown hK.1 hP 0 rfl rfl 0 (by decide) hw_f9 (fun _ h9 => h9) rfl dX0_nextQuestion_1 ?_
  refine lv_iconst (v := 0) hx hb dX0_nextQuestion_4 (by decide) ?_
  refine lv_aload_n hx hb dX0_nextQuestion_5 rfl (lv_at hl 0 rfl) ?_
  refine va_get (D := D) (ci := 1) (v := .int (nI n)) (C := RX0) (T := TX0) (N := 4) hx hb hts hi_X0 hown hK.1 hP 0 rfl rfl 2 (by decide) hw_f18 (fun _ h9 => h9) rfl dX0_nextQuestion_6 ?_
  refine kGoR (va_runS (As := [.ref h1, .int 0, .int (nI n)]) (rest := []) ⟨hx, hb, hml, hown, hts⟩ (c_X0_bestTopic l D cI cJ cZ cO h1 4096 f 0 n (by decide) (by first | assumption | omega | decide) (by first | assumption | omega | decide)) (va_cwS 3 hts gX0_nextQuestion_X0_bestTopic rfl rfl rfl (by decide +kernel) ⟨Nat.le_of_ble_eq_true rfl, Nat.le_of_ble_eq_true rfl⟩) (kPreSR hK (kPc_sub hP [1] rfl)) rfl rfl hl.1 rfl (lv_room (Nat.le_of_ble_eq_true rfl)) dX0_nextQuestion_9 ⟨Nat.le_of_ble_eq_true rfl, Nat.le_of_ble_eq_true rfl⟩) (fun v_1 hv_1 => ?_)
  obtain rfl := hv_1
  refine W.eq (g2 := F0 m 12 ls [.int ((bestF f 0 (n - 0) 12).1)]) rfl ?_
  exact kRetIr hx hb hr hlk dX0_nextQuestion_12 (kpi (by simp))

set_option maxHeartbeats 4000000 in
set_option maxRecDepth 100000 in
theorem c_X0_split (l : Launch) (D : va_G) (cI cJ cZ cO : ClassId) (h : Nat) (LN : Nat) (f : Nat → Int32) (a : Nat) (b : Nat) (t : Int32) (hL : LN ≤ 4096) (hab : a ≤ b) (hb2 : b ≤ LN) : kC l D (kTY cI cJ cZ cO) yX0_split wsX0_split 1 21 0 0 [.ref h, .int (nI a), .int (nI b), .int t] [(h, .inl (cI, LN, .inl f))] (fun rv_ rw_ => rv_ = some (.int (nI (splF f t a (b - a)).2)) ∧ rw_ = [(h, .inl (cI, LN, .inl ((splF f t a (b - a)).1)))]) := by
  refine kEnter (cc := cX0_split) (maxL := 7) (ret := (some .int)) (by decide) rfl (Nat.le_of_ble_eq_true rfl) ?_
  intro p e s m args below meth c hx hb hr hml hts hown hlk hnm hK hP hD hS hA ls hl
  have hl : lv_has ls 7 [(0, .ref h), (1, .int (nI a)), (2, .int (nI b)), (3, .int t)] := hl
  have hw_m47 := hts (.methodLink RX0 47 Lib.Math.max.name) (by decide +kernel)
  have hw_stmax := hts (.static Lib.Math.max.name) (by decide +kernel)
  have hw_iM := hts (.initialized "java/lang/Math") (by decide +kernel)
  have hw_cMmax := hts (.code Lib.Math.max.name Lib.Math.max.code 2 (some .int)) (by decide +kernel)
  refine lv_iload_n hx hb dX0_split_0 rfl (lv_at hl 1 rfl) ?_
  refine lv_iconst (v := 0) hx hb dX0_split_1 (by decide) ?_
  refine va_mmax hx hb (by rw [hml]; exact hl.1.symm) hown hw_m47 hw_stmax hw_iM hw_cMmax (Nat.le_of_ble_eq_true rfl) (Nat.le_of_ble_eq_true rfl) (Nat.le_of_ble_eq_true rfl) (Nat.le_of_ble_eq_true rfl) dX0_split_2 ?_
  refine W.eq (g2 := F0 m 5 ls [.int (kmax (nI a) 0)]) rfl ?_
  refine lv_topi (fun nv_1 ev_1 => ?_)
  obtain rfl : nv_1 = nI a := ev_1.trans (kmax_0 (by omega))
  refine lv_istore (lv' := [(4, .int (nI a)), (0, .ref h), (1, .int (nI a)), (2, .int (nI b)), (3, .int t)]) hx hb dX0_split_5 hl (by decide) rfl (fun ls hl => ?_)
  refine lv_iload hx hb dX0_split_7 (lv_at hl 0 rfl) ?_
  refine lv_istore (lv' := [(5, .int (nI a)), (4, .int (nI a)), (0, .ref h), (1, .int (nI a)), (2, .int (nI b)), (3, .int t)]) hx hb dX0_split_9 hl (by decide) rfl (fun ls hl => ?_)
  have hloop_11 : ∀ (fu : Nat) (k : Nat) (mm : Nat) (x : Nat → Int32), b - a - k < fu → k ≤ b - a → mm ≤ a + k → mm = (splF f t a k).2 → x = (splF f t a k).1 → ∀ (H : Heap) (locs : List Loc), va_P D vwCl [(h, .inl (cI, LN, .inl x))] H → va_D (va_A [(h, .inl (cI, LN, .inl f))] s.heap.size) [(h, .inl (cI, LN, .inl x))] → va_S (va_A [(h, .inl (cI, LN, .inl f))] s.heap.size) s.heap H locs → ∀ ls : Array Slot, lv_has ls 7 [(0, .ref h), (1, .int (nI a)), (2, .int (nI b)), (3, .int t), (4, .int (nI mm)), (5, .int (nI (a + k)))] → W p l e ({ frames := 1, cells := 0, slots := 0, locals := 21 }) s m args below meth c H locs 0 0 (MQ below (kQ D [(h, .inl (cI, LN, .inl f))] s.heap.size (fun rv_ rw_ => rv_ = some (.int (nI (splF f t a (b - a)).2)) ∧ rw_ = [(h, .inl (cI, LN, .inl ((splF f t a (b - a)).1)))])) args s 0 0 (va_A [(h, .inl (cI, LN, .inl f))] s.heap.size)) (F0 m 11 ls []) := by
    intro fu
    induction fu with
    | zero => intro k mm x hmu; exact absurd hmu (Nat.not_lt_zero _)
    | succ fu ih_11 =>
      intro k mm x hmu_11 hk hm em ex H locs hP hD hS ls hl
      refine lv_iload hx hb dX0_split_11 (lv_at hl 5 rfl) ?_
      refine lv_iload_n hx hb dX0_split_13 rfl (lv_at hl 2 rfl) ?_
      refine lv_icmp_ge (tgt := 62) hx hb dX0_split_14 (by decide) (fun c_14 => ?_) (fun c_14 => ?_)
      · skip
        have nc_14 : b ≤ (a + k) := (nI_leI (a := b) (b := a + k) (by omega) (by omega)).mp c_14
        have e12 : k = b - a := by omega
        refine lv_iload hx hb dX0_split_62 (lv_at hl 4 rfl) ?_
        have ew_0 : (x : Nat → Int32) = (splF f t a (b - a)).1 := by first | rfl | (rw [ex, e12]; done) | (rw [em, e12]; done) | (rw [ey, e12]; done) | (rw [e12]; done) | (simp [hk, hm, em, ex, c_14, nc_14]; done) | (simp_all []; done)
        exact kRetI hx hb hr hlk dX0_split_64 hP hD hS (Nat.le_of_ble_eq_true rfl) (Nat.le_of_ble_eq_true rfl) ⟨(kpi (by first | rfl | (rw [ex, e12]; done) | (rw [em, e12]; done) | (rw [ey, e12]; done) | (rw [e12]; done) | (simp [hk, hm, em, ex, c_14, nc_14]; done) | (simp_all []; done))), (kw1 (fun (z_0 : Nat → Int32) => ([(h, .inl (cI, LN, .inl z_0))] : va_W)) ew_0)⟩
      · skip
        have nc_14 : ¬ b ≤ (a + k) := (not_congr (nI_leI (a := b) (b := a + k) (by omega) (by omega))).mp c_14
        refine lv_iload hx hb dX0_split_17 (lv_at hl 5 rfl) ?_
        refine lv_aload_n hx hb dX0_split_19 rfl (lv_at hl 0 rfl) ?_
        refine va_alen (v := nI LN) hx hb hK.1 hP 0 0 rfl rfl rfl dX0_split_20 ?_
        refine lv_icmp_ge (tgt := 62) hx hb dX0_split_21 (by decide) (fun c_21 => ?_) (fun c_21 => ?_)
        · skip
          have nc_21 : LN ≤ (a + k) := (nI_leI (a := LN) (b := a + k) (by omega) (by omega)).mp c_21
          have e12 : k = b - a := by omega
          refine lv_iload hx hb dX0_split_62 (lv_at hl 4 rfl) ?_
          have ew_0 : (x : Nat → Int32) = (splF f t a (b - a)).1 := by first | rfl | (rw [ex, e12]; done) | (rw [em, e12]; done) | (rw [ey, e12]; done) | (rw [e12]; done) | (simp [hk, hm, em, ex, c_14, nc_14, c_21, nc_21]; done) | (simp_all []; done)
          exact kRetI hx hb hr hlk dX0_split_64 hP hD hS (Nat.le_of_ble_eq_true rfl) (Nat.le_of_ble_eq_true rfl) ⟨(kpi (by first | rfl | (rw [ex, e12]; done) | (rw [em, e12]; done) | (rw [ey, e12]; done) | (rw [e12]; done) | (simp [hk, hm, em, ex, c_14, nc_14, c_21, nc_21]; done) | (simp_all []; done))), (kw1 (fun (z_0 : Nat → Int32) => ([(h, .inl (cI, LN, .inl z_0))] : va_W)) ew_0)⟩
        · skip
          have nc_21 : ¬ LN ≤ (a + k) := (not_congr (nI_leI (a := LN) (b := a + k) (by omega) (by omega))).mp c_21
          refine lv_aload_n hx hb dX0_split_24 rfl (lv_at hl 0 rfl) ?_
          refine lv_iload hx hb dX0_split_25 (lv_at hl 5 rfl) ?_
          refine va_iald hx hb hK.1 hP 0 0 rfl rfl (vp_in_nI (by omega) (by omega)) dX0_split_27 ?_
          refine lv_topi (fun nv_2 ev_2 => ?_)
          obtain rfl : nv_2 = x (a + k) := by rw [ev_2, nI_clamp (by omega)]
          refine lv_istore (lv' := [(6, .int (x (a + k))), (0, .ref h), (1, .int (nI a)), (2, .int (nI b)), (3, .int t), (4, .int (nI mm)), (5, .int (nI (a + k)))]) hx hb dX0_split_28 hl (by decide) rfl (fun ls hl => ?_)
          refine lv_iload hx hb dX0_split_30 (lv_at hl 0 rfl) ?_
          refine lv_iload_n hx hb dX0_split_32 rfl (lv_at hl 4 rfl) ?_
          refine kGoR (va_runS (As := [.int (x (a + k)), .int t]) (rest := []) ⟨hx, hb, hml, hown, hts⟩ (c_X0_has l D cI cJ cZ cO (x (a + k)) t ) (va_cwS 2 hts gX0_split_X0_has rfl rfl rfl (by decide +kernel) ⟨Nat.le_of_ble_eq_true rfl, Nat.le_of_ble_eq_true rfl⟩) (kPreSR hK (kPc_sub hP [] rfl)) rfl rfl hl.1 rfl (lv_room (Nat.le_of_ble_eq_true rfl)) dX0_split_33 ⟨Nat.le_of_ble_eq_true rfl, Nat.le_of_ble_eq_true rfl⟩) (fun v_3 hv_3 => ?_)
          obtain rfl := hv_3
          refine W.eq (g2 := F0 m 36 ls [.int (k01 (hasB (x (a + k)) t))]) rfl ?_
          refine lv_if_ne (tgt := 56) hx hb dX0_split_36 (by decide) (fun c_36 => ?_) (fun c_36 => ?_)
          · skip
            have c_36 := k01_n c_36
            refine lv_iinc (v := nI ((a + k) + 1)) (lv' := [(5, .int (nI ((a + k) + 1))), (6, .int (x (a + k))), (0, .ref h), (1, .int (nI a)), (2, .int (nI b)), (3, .int t), (4, .int (nI mm))]) hx hb dX0_split_56 hl (k := 6) rfl (nI_1 _) (by decide) rfl (fun ls hl => ?_)
            refine lv_goto (tgt := 11) hx hb dX0_split_59 (by decide) ?_
            exact ih_11  (k + 1) mm x (by omega) (by first | omega | assumption | exact Nat.zero_le _) (by first | omega | assumption | exact Nat.zero_le _) (by subst em; subst ex; simp [splF, c_36]) (by subst em; subst ex; simp [splF, c_36]) _ _ hP hD hS _ (lv_sub hl [2, 3, 4, 5, 6, 0] rfl)
          · skip
            have c_36 := k01_z c_36
            refine lv_aload_n hx hb dX0_split_39 rfl (lv_at hl 1 rfl) ?_
            refine lv_iload hx hb dX0_split_40 (lv_at hl 6 rfl) ?_
            refine lv_aload_n hx hb dX0_split_42 rfl (lv_at hl 1 rfl) ?_
            refine lv_iload hx hb dX0_split_43 (lv_at hl 5 rfl) ?_
            refine va_iald hx hb hK.1 hP 0 0 rfl rfl (vp_in_nI (by omega) (by omega)) dX0_split_45 ?_
            refine lv_topi (fun nv_4 ev_4 => ?_)
            obtain rfl : nv_4 = x mm := by rw [ev_4, nI_clamp (by omega)]
            refine va_iast hx hb hK.1 hP hD hS 0 0 rfl rfl (vp_in_nI (by omega) (by omega)) dX0_split_46 (fun H locs hP hD hS => ?_)
            rw [nI_clamp (by omega)] at hP hD
            have hP : va_P D vwCl [(h, .inl (cI, LN, .inl (upd x (a + k) (x mm))))] H := hP
            have hD : va_D _ [(h, .inl (cI, LN, .inl (upd x (a + k) (x mm))))] := hD
            refine lv_aload_n hx hb dX0_split_47 rfl (lv_at hl 1 rfl) ?_
            refine lv_iload hx hb dX0_split_48 (lv_at hl 5 rfl) ?_
            refine lv_iload hx hb dX0_split_50 (lv_at hl 0 rfl) ?_
            refine va_iast hx hb hK.1 hP hD hS 0 0 rfl rfl (vp_in_nI (by omega) (by omega)) dX0_split_52 (fun H locs hP hD hS => ?_)
            rw [nI_clamp (by omega)] at hP hD
            have hP : va_P D vwCl [(h, .inl (cI, LN, .inl (upd (upd x (a + k) (x mm)) mm (x (a + k)))))] H := hP
            have hD : va_D _ [(h, .inl (cI, LN, .inl (upd (upd x (a + k) (x mm)) mm (x (a + k)))))] := hD
            refine lv_iinc (v := nI (mm + 1)) (lv' := [(4, .int (nI (mm + 1))), (6, .int (x (a + k))), (0, .ref h), (1, .int (nI a)), (2, .int (nI b)), (3, .int t), (5, .int (nI (a + k)))]) hx hb dX0_split_53 hl (k := 5) rfl (nI_1 _) (by decide) rfl (fun ls hl => ?_)
            refine lv_iinc (v := nI ((a + k) + 1)) (lv' := [(5, .int (nI ((a + k) + 1))), (4, .int (nI (mm + 1))), (6, .int (x (a + k))), (0, .ref h), (1, .int (nI a)), (2, .int (nI b)), (3, .int t)]) hx hb dX0_split_56 hl (k := 6) rfl (nI_1 _) (by decide) rfl (fun ls hl => ?_)
            refine lv_goto (tgt := 11) hx hb dX0_split_59 (by decide) ?_
            exact ih_11  (k + 1) (mm + 1) (upd (upd x (a + k) (x mm)) mm (x (a + k))) (by omega) (by first | omega | assumption | exact Nat.zero_le _) (by first | omega | assumption | exact Nat.zero_le _) (by subst em; subst ex; simp [splF, c_36]) (by subst em; subst ex; simp [splF, c_36]) _ _ hP hD hS _ (lv_sub hl [3, 4, 5, 6, 1, 0] rfl)
  exact hloop_11 ((b - a - 0) + 1) 0 a f (Nat.lt_succ_self _) (by first | omega | assumption | exact Nat.zero_le _) (by first | omega | assumption | exact Nat.zero_le _) (by rfl) (by rfl) _ _ hP hD hS _ (lv_sub hl [2, 3, 4, 5, 1, 0] rfl)
