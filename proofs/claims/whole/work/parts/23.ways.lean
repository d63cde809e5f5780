/-! ===== the ways ===== -/
def befB (f : Nat → Int32) (g : Nat → Int64) (c : Int32) (st : Int64) (j : Nat) : Bool := if c = f j then decide (¬ (0 : Int32) ≤ lg_cmp st (g j)) else decide (¬ f j ≤ c)
def betB (f : Nat → Int32) (g : Nat → Int64) (v : Nat) (e : Int32) : Bool := if e = -1 then true else befB f g (f v) (g v) e.toNatClampNeg
def endF (f : Nat → Int32) (g : Nat → Int64) (w : Int32) : Nat → Int32
  | 0 => -1
  | i + 1 => if f i = -1 then endF f g w i else if nI i &&& w = w then (if betB f g i (endF f g w i) then nI i else endF f g w i) else endF f g w i
def costF (f : Nat → Int32) (a : Nat) (mi : Int32) : Int32 := (f a + 16 * mi) + 1
def stepF (g : Nat → Int64) (a : Nat) (st : Int32) : Int64 := (g a <<< ((5 : Int32).toInt64 &&& 63)) ||| st.toInt64
def offerB (N : Nat) (f : Nat → Int32) (g : Nat → Int64) (a : Nat) (to mi st : Int32) : Bool := if to ≤ nI a then false else if nI N ≤ to then false else if f to.toNatClampNeg = -1 then true else befB f g (costF f a mi) (stepF g a st) to.toNatClampNeg
def offerF (N : Nat) (s : (Nat → Int32) × (Nat → Int64)) (a : Nat) (to mi st : Int32) : (Nat → Int32) × (Nat → Int64) :=
  if offerB N s.1 s.2 a to mi st then (upd s.1 to.toNatClampNeg (costF s.1 a mi), vp_updL s.2 to.toNatClampNeg (stepF s.2 a st)) else s
def goF (N : Nat) (ne ei gv sk pg : Nat → Int32) (pc wt : Int32) (v : Nat) (s : (Nat → Int32) × (Nat → Int64)) : Nat → (Nat → Int32) × (Nat → Int64)
  | 0 => s
  | k + 1 => if nI (k / 2) = wt then goF N ne ei gv sk pg pc wt v s k else if openB (ne (k / 2)) (ei (k / 2)) (nI v) then offerF N (goF N ne ei gv sk pg pc wt v s k) v (nI v ||| (if decide (nI k &&& 1 = 1) then sk (k / 2) else gv (k / 2))) (timeF (pg (k / 2)) pc (decide (nI k &&& 1 = 1))) (nI k) else goF N ne ei gv sk pg pc wt v s k
def fillF (f : Nat → Int32) (i : Nat) : Nat → Int32 := fun j => if j < i then -1 else f j
def expF (N n : Nat) (ne ei gv sk pg : Nat → Int32) (pc wt : Int32) (K : Nat) (s : (Nat → Int32) × (Nat → Int64)) : Nat → (Nat → Int32) × (Nat → Int64)
  | 0 => s
  | i + 1 => if (expF N n ne ei gv sk pg pc wt K s i).1 (K + i) = -1 then expF N n ne ei gv sk pg pc wt K s i else goF N ne ei gv sk pg pc wt (K + i) (expF N n ne ei gv sk pg pc wt K s i) (2 * n)
def richF (f : Nat → Int32) (g : Nat → Int64) (wo : Nat → Int32) (mi : Int32) : Nat → Int32 × Int32
  | 0 => (-1, 0)
  | i + 1 => if f i = -1 then richF f g wo mi i else if ¬ f i / 16 ≤ mi then richF f g wo mi i else if (richF f g wo mi i).2 < worthF wo (nI i) 12 then (nI i, worthF wo (nI i) 12) else if worthF wo (nI i) 12 = (richF f g wo mi i).2 then (if betB f g i (richF f g wo mi i).1 then (nI i, worthF wo (nI i) 12) else richF f g wo mi i) else richF f g wo mi i
def digF (c : Int64) (d : Nat) : Int32 := (c >>> ((5 * nI d).toInt64 &&& 63)).toInt32 &&& 31
def copyF (f : Nat → Int32) (c : Int64) (q : Nat) : Nat → Nat → Int32
  | 0 => f
  | k + 1 => upd (copyF f c q k) k (digF c (q - 1 - k))
theorem fillF_0 (f : Nat → Int32) : fillF f 0 = f := by funext j; simp [fillF]
theorem fillF_s (f : Nat → Int32) (i : Nat) : upd (fillF f i) i (-1) = fillF f (i + 1) := by
  funext j
  unfold upd fillF
  by_cases h1 : j = i
  · subst h1; simp
  · by_cases h2 : j < i
    · rw [if_neg h1, if_pos h2, if_pos (by omega)]
    · rw [if_neg h1, if_neg h2, if_neg (by omega)]
theorem kshl1 : ∀ T, T ≤ 12 → (1 : Int32) <<< (nI T &&& 31) = nI (2 ^ T) := by
  intro T hT
  rcases (show T = 0 ∨ T = 1 ∨ T = 2 ∨ T = 3 ∨ T = 4 ∨ T = 5 ∨ T = 6 ∨ T = 7 ∨ T = 8 ∨ T = 9 ∨ T = 10 ∨ T = 11 ∨ T = 12 by omega) with rfl | rfl | rfl | rfl | rfl | rfl | rfl | rfl | rfl | rfl | rfl | rfl | rfl <;> decide
theorem kpow {T : Nat} (hT : T ≤ 12) : 2 ^ T ≤ 4096 := by
  have := Nat.pow_le_pow_right (n := 2) (by decide) hT
  exact this
theorem kmin_nI {a b : Nat} (hb : b < 2 ^ 31) (h : a ≤ b) : kmin (nI a) (nI b) = nI a := by
  unfold kmin
  rw [if_neg (fun q => by have := (nI_ltI hb (by omega)).mp q; omega)]
theorem kto {to : Int32} {a N : Nat} (ha : a < 2 ^ 31) (hN : N ≤ 4096) (h1 : ¬ to ≤ nI a) (h2 : to < nI N) : vp_in to 4096 := by
  have h0 : ¬ to < 0 := fun q => h1 (by
    rw [Int32.le_iff_toInt_le, nI_toInt ha]
    have := Int32.lt_iff_toInt_lt.mp q
    have e0 : (0 : Int32).toInt = 0 := by decide
    omega)
  obtain ⟨j, hj, rfl⟩ := nI_of h0
  have := (nI_ltI hj (by omega)).mp h2
  exact vp_in_nI (by omega) (by decide)
theorem kpred {q : Nat} (h : 0 < q) : nI q - 1 = nI (q - 1) := pk_sub (a := q) (b := 1) h
theorem kdec {q : Nat} (h : 0 < q) : (nI q - 1) + Int32.ofInt (-1) = nI (q - 1) - 1 := by
  rw [kpred h, Int32.sub_eq_add_neg]
  rfl
theorem kq0 {q : Nat} (hq : q < 4096) : nI q - 1 < 0 ↔ q = 0 := by
  rcases Nat.eq_zero_or_pos q with rfl | h
  · simp [nI]
  · have e : nI q - 1 = nI (q - 1) := pk_sub (a := q) (b := 1) h
    rw [e]
    constructor
    · intro z; exact absurd z (nI_pos (by omega))
    · intro z; omega

set_option maxHeartbeats 4000000 in
set_option maxRecDepth 100000 in
theorem c_X5_init (l : Launch) (D : va_G) (cI cJ cZ cO : ClassId) (h0 : Nat) : kC l D (kTY cI cJ cZ cO) yX5_init wsX5_init 1 12 2 8192 [.ref h0] [(h0, .inr (6, [.null, .null, .int 0]))] (fun rv_ rw_ => ∃ q1 : Nat, ∃ q2 : Nat, rv_ = none ∧ rw_ = [(h0, .inr (6, [.ref q1, .ref q2, .int 0])), (q1, .inl (cI, 4096, .inl (fun _ => 0))), (q2, .inl (cJ, 4096, .inr (.inl (fun _ => 0))))]) := by
  refine kEnter (cc := cX5_init) (maxL := 1) (ret := none) (by decide) rfl (Nat.le_of_ble_eq_true rfl) ?_
  intro p e s m args below meth c hx hb hr hml hts hown hlk hnm hK hP hD hS hA ls hl
  have hl : lv_has ls 1 [(0, .ref h0)] := hl
  have hw_m5 := hts (.methodLink RX5 5 objectInit) (by decide +kernel)
  have hw_io := hts (.instanceMethod objectInit) (by decide +kernel)
  have hw_co := hts (.code objectInit ⟨#[0xb1]⟩ 1 none) (by decide +kernel)
  have hw_aI := hts (.arrayClass .int) (by decide +kernel)
  have hw_f11 := hts (.fieldLink RX5 11 "WhatToRead$Ways" "costs" "[I") (by decide +kernel)
  have hi_X5 : ∀ w ∈ wsX50, w ∈ wsX5_init := by decide +kernel
  have hw_aJ := hts (.arrayClass .long) (by decide +kernel)
  have hw_f15 := hts (.fieldLink RX5 15 "WhatToRead$Ways" "rows" "[J") (by decide +kernel)
  have hw_f19 := hts (.fieldLink RX5 19 "WhatToRead$Ways" "sets" "I") (by decide +kernel)
  refine lv_aload_n hx hb dX5_init_0 rfl (lv_at hl 0 rfl) ?_
  refine W.objInit hx hb hown hw_m5 hw_io hw_co rfl (by rw [hml]; exact hl.1) rfl dX5_init_1 (Nat.le_of_ble_eq_true rfl) (Nat.le_of_ble_eq_true rfl) ?_
  refine W.eq (g2 := F0 m 4 ls []) rfl ?_
  refine lv_aload_n hx hb dX5_init_4 rfl (lv_at hl 0 rfl) ?_
  refine lv_sipush (v := 4096) hx hb dX5_init_5 (by decide) ?_
  refine kNewaI (N' := 4096) hx hb hw_aI hK.1 hP hD hS hA (by decide) (by decide) (Nat.le_of_ble_eq_true rfl) (Nat.le_of_ble_eq_true rfl) (Nat.le_of_ble_eq_true rfl) dX5_init_8 (fun q1 H hP hD hS => ?_)
  have hP : va_P D vwCl [(h0, .inr (6, [.null, .null, .int 0])), (q1, .inl (cI, 4096, .inl (fun _ => 0)))] H := hP
  have hD : va_D _ [(h0, .inr (6, [.null, .null, .int 0])), (q1, .inl (cI, 4096, .inl (fun _ => 0)))] := hD
  refine va_putF (D := D) (ci := 6) (v := .ref q1) (ty := .array .int) (C := RX5) (T := TX5) (N := 3) hx hb hts hi_X5 tyX5 tyX5_ok nmX5 hown hK.1 hP hD hS 0 rfl rfl 0 (by decide) hw_f11 (fun _ h9 => h9) rfl hnm rfl (by decide +kernel) rfl rfl (Nat.le_of_ble_eq_true rfl) dX5_init_10 (fun H locs hP hD hS => ?_)
  have hP : va_P D vwCl [(h0, .inr (6, [.ref q1, .null, .int 0])), (q1, .inl (cI, 4096, .inl (fun _ => 0)))] H := hP
  have hD : va_D _ [(h0, .inr (6, [.ref q1, .null, .int 0])), (q1, .inl (cI, 4096, .inl (fun _ => 0)))] := hD
  refine lv_aload_n hx hb dX5_init_13 rfl (lv_at hl 0 rfl) ?_
  refine lv_sipush (v := 4096) hx hb dX5_init_14 (by decide) ?_
  refine kNewaJ (N' := 4096) hx hb hw_aJ hK.1 hP hD hS hA (by decide) (by decide) (Nat.le_of_ble_eq_true rfl) (Nat.le_of_ble_eq_true rfl) (Nat.le_of_ble_eq_true rfl) dX5_init_17 (fun q2 H hP hD hS => ?_)
  have hP : va_P D vwCl [(h0, .inr (6, [.ref q1, .null, .int 0])), (q1, .inl (cI, 4096, .inl (fun _ => 0))), (q2, .inl (cJ, 4096, .inr (.inl (fun _ => 0))))] H := hP
  have hD : va_D _ [(h0, .inr (6, [.ref q1, .null, .int 0])), (q1, .inl (cI, 4096, .inl (fun _ => 0))), (q2, .inl (cJ, 4096, .inr (.inl (fun _ => 0))))] := hD
  refine va_putF (D := D) (ci := 6) (v := .ref q2) (ty := .array .long) (C := RX5) (T := TX5) (N := 3) hx hb hts hi_X5 tyX5 tyX5_ok nmX5 hown hK.1 hP hD hS 0 rfl rfl 1 (by decide) hw_f15 (fun _ h9 => h9) rfl hnm rfl (by decide +kernel) rfl rfl (Nat.le_of_ble_eq_true rfl) dX5_init_19 (fun H locs hP hD hS => ?_)
  have hP : va_P D vwCl [(h0, .inr (6, [.ref q1, .ref q2, .int 0])), (q1, .inl (cI, 4096, .inl (fun _ => 0))), (q2, .inl (cJ, 4096, .inr (.inl (fun _ => 0))))] H := hP
  have hD : va_D _ [(h0, .inr (6, [.ref q1, .ref q2, .int 0])), (q1, .inl (cI, 4096, .inl (fun _ => 0))), (q2, .inl (cJ, 4096, .inr (.inl (fun _ => 0))))] := hD
  refine lv_aload_n hx hb dX5_init_22 rfl (lv_at hl 0 rfl) ?_
  refine lv_iconst (v := 0) hx hb dX5_init_23 (by decide) ?_
  refine va_put (D := D) (ci := 6) (v := .int 0) (ty := .int) (C := RX5) (T := TX5) (N := 3) hx hb hts hi_X5 tyX5 tyX5_ok nmX5 hown hK.1 hP hD hS 0 rfl rfl 2 (by decide) hw_f19 (fun _ h9 => h9) rfl (by decide +kernel) rfl rfl (Nat.le_of_ble_eq_true rfl) dX5_init_24 (fun H locs hP hD hS => ?_)
  have hP : va_P D vwCl [(h0, .inr (6, [.ref q1, .ref q2, .int 0])), (q1, .inl (cI, 4096, .inl (fun _ => 0))), (q2, .inl (cJ, 4096, .inr (.inl (fun _ => 0))))] H := hP
  have hD : va_D _ [(h0, .inr (6, [.ref q1, .ref q2, .int 0])), (q1, .inl (cI, 4096, .inl (fun _ => 0))), (q2, .inl (cJ, 4096, .inr (.inl (fun _ => 0))))] := hD
  exact kRetV hx hb hr hlk dX5_init_27 hP hD hS (Nat.le_of_ble_eq_true rfl) (Nat.le_of_ble_eq_true rfl) ⟨q1, q2, rfl, rfl⟩

set_option maxHeartbeats 4000000 in
set_option maxRecDepth 100000 in
theorem c_X5_isBefore (l : Launch) (D : va_G) (cI cJ cZ cO : ClassId) (w0 : Nat) (w1 : Nat) (w2 : Nat) (N : Nat) (f : Nat → Int32) (g : Nat → Int64) (c1 : Int32) (st : Int64) (x : Int32) (hx1 : vp_in x 4096) : kR l D (kTY cI cJ cZ cO) yX5_isBefore wsX5_isBefore 0 0 [.ref w0, .int c1, .long st, .int x] [(w0, .inr (6, [.ref w1, .ref w2, .int (nI N)])), (w1, .inl (cI, 4096, .inl f)), (w2, .inl (cJ, 4096, .inr (.inl g)))] (fun rv_ => rv_ = some (.int (k01 (befB f g c1 st x.toNatClampNeg)))) := by
  refine kEnterR (cc := cX5_isBefore) (maxL := 5) (ret := (some .boolean)) (by decide) rfl (Nat.le_of_ble_eq_true rfl) ?_
  intro p e s m args below meth c hx hb hr hml hts hown hlk hK hP ls hl
  have hl : lv_has ls 5 [(0, .ref w0), (1, .int c1), (2, .long st), (4, .int x)] := hl
  have hw_f11 := hts (.fieldLink RX5 11 "WhatToRead$Ways" "costs" "[I") (by decide +kernel)
  have hi_X5 : ∀ w ∈ wsX50, w ∈ wsX5_isBefore := by decide +kernel
  have hw_f15 := hts (.fieldLink RX5 15 "WhatToRead$Ways" "rows" "[J") (by decide +kernel)
  refine lv_iload_n hx hb dX5_isBefore_0 rfl (lv_at hl 1 rfl) ?_
  refine lv_aload_n hx hb dX5_isBefore_1 rfl (lv_at hl 0 rfl) ?_
  refine va_get (D := D) (ci := 6) (v := .ref w1) (C := RX5) (T := TX5) (N := 3) hx hb hts hi_X5 hown hK.1 hP 0 rfl rfl 0 (by decide) hw_f11 (fun _ h9 => h9) rfl dX5_isBefore_2 ?_
  refine lv_iload hx hb dX5_isBefore_5 (lv_at hl 3 rfl) ?_
  refine va_iald hx hb hK.1 hP 1 0 rfl rfl (by assumption) dX5_isBefore_7 ?_
  refine lv_icmp_eq (tgt := 30) hx hb dX5_isBefore_8 (by decide) (fun c_8 => ?_) (fun c_8 => ?_)
  · skip
    refine lv_lload_n hx hb dX5_isBefore_30 rfl (lv_at hl 2 rfl) ?_
    refine lv_aload_n hx hb dX5_isBefore_31 rfl (lv_at hl 0 rfl) ?_
    refine va_get (D := D) (ci := 6) (v := .ref w2) (C := RX5) (T := TX5) (N := 3) hx hb hts hi_X5 hown hK.1 hP 0 rfl rfl 1 (by decide) hw_f15 (fun _ h9 => h9) rfl dX5_isBefore_32 ?_
    refine lv_iload hx hb dX5_isBefore_35 (lv_at hl 3 rfl) ?_
    refine va_lald hx hb hK.1 hP 2 1 rfl rfl (by assumption) dX5_isBefore_37 ?_
    refine W.lcmp hx hb dX5_isBefore_38 ?_
    refine lv_if_ge (tgt := 46) hx hb dX5_isBefore_39 (by decide) (fun c_39 => ?_) (fun c_39 => ?_)
    · skip
      refine lv_iconst (v := 0) hx hb dX5_isBefore_46 (by decide) ?_
      exact kRetZr (befB f g c1 st x.toNatClampNeg) (by first | rfl | (rw [ex, e12]; done) | (rw [em, e12]; done) | (rw [ey, e12]; done) | (rw [e12]; done) | (simp [befB, k01, c_8, c_39]; done) | (simp_all [befB, k01]; done)) hx hb hr hlk dX5_isBefore_47 rfl
    · skip
      refine lv_iconst (v := 1) hx hb dX5_isBefore_42 (by decide) ?_
      refine lv_goto (tgt := 47) hx hb dX5_isBefore_43 (by decide) ?_
      exact kRetZr (befB f g c1 st x.toNatClampNeg) (by first | rfl | (rw [ex, e12]; done) | (rw [em, e12]; done) | (rw [ey, e12]; done) | (rw [e12]; done) | (simp [befB, k01, c_8, c_39]; done) | (simp_all [befB, k01]; done)) hx hb hr hlk dX5_isBefore_47 rfl
  · skip
    refine lv_iload_n hx hb dX5_isBefore_11 rfl (lv_at hl 1 rfl) ?_
    refine lv_aload_n hx hb dX5_isBefore_12 rfl (lv_at hl 0 rfl) ?_
    refine va_get (D := D) (ci := 6) (v := .ref w1) (C := RX5) (T := TX5) (N := 3) hx hb hts hi_X5 hown hK.1 hP 0 rfl rfl 0 (by decide) hw_f11 (fun _ h9 => h9) rfl dX5_isBefore_13 ?_
    refine lv_iload hx hb dX5_isBefore_16 (lv_at hl 3 rfl) ?_
    refine va_iald hx hb hK.1 hP 1 0 rfl rfl (by assumption) dX5_isBefore_18 ?_
    refine lv_icmp_ge (tgt := 26) hx hb dX5_isBefore_19 (by decide) (fun c_19 => ?_) (fun c_19 => ?_)
    · skip
      refine lv_iconst (v := 0) hx hb dX5_isBefore_26 (by decide) ?_
      refine lv_goto (tgt := 47) hx hb dX5_isBefore_27 (by decide) ?_
      exact kRetZr (befB f g c1 st x.toNatClampNeg) (by first | rfl | (rw [ex, e12]; done) | (rw [em, e12]; done) | (rw [ey, e12]; done) | (rw [e12]; done) | (simp [befB, k01, c_8, c_19]; done) | (simp_all [befB, k01]; done)) hx hb hr hlk dX5_isBefore_47 rfl
    · skip
      refine lv_iconst (v := 1) hx hb dX5_isBefore_22 (by decide) ?_
      refine lv_goto (tgt := 47) hx hb dX5_isBefore_23 (by decide) ?_
      exact kRetZr (befB f g c1 st x.toNatClampNeg) (by first | rfl | (rw [ex, e12]; done) | (rw [em, e12]; done) | (rw [ey, e12]; done) | (rw [e12]; done) | (simp [befB, k01, c_8, c_19]; done) | (simp_all [befB, k01]; done)) hx hb hr hlk dX5_isBefore_47 rfl

set_option maxHeartbeats 4000000 in
set_option maxRecDepth 100000 in
theorem c_X5_isBetter (l : Launch) (D : va_G) (cI cJ cZ cO : ClassId) (w0 : Nat) (w1 : Nat) (w2 : Nat) (N : Nat) (f : Nat → Int32) (g : Nat → Int64) (v : Nat) (x : Int32) (hv : v < 4096) (hx1 : x = -1 ∨ vp_in x 4096) : kR l D (kTY cI cJ cZ cO) yX5_isBetter wsX5_isBetter 1 24 [.ref w0, .int (nI v), .int x] [(w0, .inr (6, [.ref w1, .ref w2, .int (nI N)])), (w1, .inl (cI, 4096, .inl f)), (w2, .inl (cJ, 4096, .inr (.inl g)))] (fun rv_ => rv_ = some (.int (k01 (betB f g v x)))) := by
  refine kEnterR (cc := cX5_isBetter) (maxL := 3) (ret := (some .boolean)) (by decide) rfl (Nat.le_of_ble_eq_true rfl) ?_
  intro p e s m args below meth c hx hb hr hml hts hown hlk hK hP ls hl
  have hl : lv_has ls 3 [(0, .ref w0), (1, .int (nI v)), (2, .int x)] := hl
  have hw_f11 := hts (.fieldLink RX5 11 "WhatToRead$Ways" "costs" "[I") (by decide +kernel)
  have hi_X5 : ∀ w ∈ wsX50, w ∈ wsX5_isBetter := by decide +kernel
  have hw_f15 := hts (.fieldLink RX5 15 "WhatToRead$Ways" "rows" "[J") (by decide +kernel)
  refine lv_iload_n hx hb dX5_isBetter_0 rfl (lv_at hl 2 rfl) ?_
  refine lv_iconst (v := (-1)) hx hb dX5_isBetter_1 (by decide) ?_
  refine lv_icmp_eq (tgt := 25) hx hb dX5_isBetter_2 (by decide) (fun c_2 => ?_) (fun c_2 => ?_)
  · skip
    refine lv_iconst (v := 1) hx hb dX5_isBetter_25 (by decide) ?_
    refine lv_goto (tgt := 30) hx hb dX5_isBetter_26 (by decide) ?_
    exact kRetZr (betB f g v x) (by first | rfl | (rw [ex, e12]; done) | (rw [em, e12]; done) | (rw [ey, e12]; done) | (rw [e12]; done) | (simp [betB, k01, c_2]; done) | (simp_all [betB, k01]; done)) hx hb hr hlk dX5_isBetter_30 rfl
  · skip
    refine lv_aload_n hx hb dX5_isBetter_5 rfl (lv_at hl 0 rfl) ?_
    refine lv_aload_n hx hb dX5_isBetter_6 rfl (lv_at hl 0 rfl) ?_
    refine va_get (D := D) (ci := 6) (v := .ref w1) (C := RX5) (T := TX5) (N := 3) hx hb hts hi_X5 hown hK.1 hP 0 rfl rfl 0 (by decide) hw_f11 (fun _ h9 => h9) rfl dX5_isBetter_7 ?_
    refine lv_iload_n hx hb dX5_isBetter_10 rfl (lv_at hl 1 rfl) ?_
    refine va_iald hx hb hK.1 hP 1 0 rfl rfl (vp_in_nI (by omega) (by omega)) dX5_isBetter_11 ?_
    refine lv_topi (fun nv_1 ev_1 => ?_)
    obtain rfl : nv_1 = f v := by rw [ev_1, nI_clamp (by omega)]
    refine lv_aload_n hx hb dX5_isBetter_12 rfl (lv_at hl 0 rfl) ?_
    refine va_get (D := D) (ci := 6) (v := .ref w2) (C := RX5) (T := TX5) (N := 3) hx hb hts hi_X5 hown hK.1 hP 0 rfl rfl 1 (by decide) hw_f15 (fun _ h9 => h9) rfl dX5_isBetter_13 ?_
    refine lv_iload_n hx hb dX5_isBetter_16 rfl (lv_at hl 1 rfl) ?_
    refine va_lald hx hb hK.1 hP 2 1 rfl rfl (vp_in_nI (by omega) (by omega)) dX5_isBetter_17 ?_
    refine lv_topl (fun nv_2 ev_2 => ?_)
    obtain rfl : nv_2 = g v := by rw [ev_2, nI_clamp (by omega)]
    refine lv_iload_n hx hb dX5_isBetter_18 rfl (lv_at hl 2 rfl) ?_
    refine kGoR (va_runV (As := [.int (f v), .long (g v), .int x]) (rest := []) ⟨hx, hb, hml, hown, hts⟩ (c_X5_isBefore l D cI cJ cZ cO w0 w1 w2 N f g (f v) (g v) x (hx1.resolve_left c_2)) (cwV 3 hts gX5_isBetter_X5_isBefore rfl rfl rfl (by decide +kernel) ⟨Nat.le_of_ble_eq_true rfl, Nat.le_of_ble_eq_true rfl⟩) (kPreVR (ci := 6) (q0 := 0) hK (kPc_sub hP [0, 1, 2] rfl) rfl rfl rfl) rfl rfl hl.1 rfl (lv_room (Nat.le_of_ble_eq_true rfl)) dX5_isBetter_19 ⟨Nat.le_of_ble_eq_true rfl, Nat.le_of_ble_eq_true rfl⟩) (fun v_3 hv_3 => ?_)
    obtain rfl := hv_3
    refine W.eq (g2 := F0 m 22 ls [.int (k01 (befB f g (f v) (g v) x.toNatClampNeg))]) rfl ?_
    refine lv_if_eq (tgt := 29) hx hb dX5_isBetter_22 (by decide) (fun c_22 => ?_) (fun c_22 => ?_)
    · skip
      have c_22 := k01_z c_22
      refine lv_iconst (v := 0) hx hb dX5_isBetter_29 (by decide) ?_
      exact kRetZr (betB f g v x) (by first | rfl | (rw [ex, e12]; done) | (rw [em, e12]; done) | (rw [ey, e12]; done) | (rw [e12]; done) | (simp [betB, k01, c_2, c_22]; done) | (simp_all [betB, k01]; done)) hx hb hr hlk dX5_isBetter_30 rfl
    · skip
      have c_22 := k01_n c_22
      refine lv_iconst (v := 1) hx hb dX5_isBetter_25 (by decide) ?_
      refine lv_goto (tgt := 30) hx hb dX5_isBetter_26 (by decide) ?_
      exact kRetZr (betB f g v x) (by first | rfl | (rw [ex, e12]; done) | (rw [em, e12]; done) | (rw [ey, e12]; done) | (rw [e12]; done) | (simp [betB, k01, c_2, c_22]; done) | (simp_all [betB, k01]; done)) hx hb hr hlk dX5_isBetter_30 rfl

set_option maxHeartbeats 4000000 in
set_option maxRecDepth 100000 in
theorem c_X5_endWith (l : Launch) (D : va_G) (cI cJ cZ cO : ClassId) (w0 : Nat) (w1 : Nat) (w2 : Nat) (N : Nat) (f : Nat → Int32) (g : Nat → Int64) (w : Int32) (hN : N ≤ 4096) : kR l D (kTY cI cJ cZ cO) yX5_endWith wsX5_endWith 2 46 [.ref w0, .int w] [(w0, .inr (6, [.ref w1, .ref w2, .int (nI N)])), (w1, .inl (cI, 4096, .inl f)), (w2, .inl (cJ, 4096, .inr (.inl g)))] (fun rv_ => rv_ = some (.int (endF f g w N))) := by
  refine kEnterR (cc := cX5_endWith) (maxL := 4) (ret := (some .int)) (by decide) rfl (Nat.le_of_ble_eq_true rfl) ?_
  intro p e s m args below meth c hx hb hr hml hts hown hlk hK hP ls hl
  have hl : lv_has ls 4 [(0, .ref w0), (1, .int w)] := hl
  have hw_f19 := hts (.fieldLink RX5 19 "WhatToRead$Ways" "sets" "I") (by decide +kernel)
  have hi_X5 : ∀ w ∈ wsX50, w ∈ wsX5_endWith := by decide +kernel
  have hw_f11 := hts (.fieldLink RX5 11 "WhatToRead$Ways" "costs" "[I") (by decide +kernel)
  refine lv_iconst (v := (-1)) hx hb dX5_endWith_0 (by decide) ?_
  refine lv_istore_n (lv' := [(2, .int (-1)), (0, .ref w0), (1, .int w)]) hx hb dX5_endWith_1 rfl hl (by decide) rfl (fun ls hl => ?_)
  refine lv_iconst (v := 0) hx hb dX5_endWith_2 (by decide) ?_
  refine lv_istore_n (lv' := [(3, .int 0), (2, .int (-1)), (0, .ref w0), (1, .int w)]) hx hb dX5_endWith_3 rfl hl (by decide) rfl (fun ls hl => ?_)
  have hloop_4 : ∀ (fu : Nat) (i : Nat) (x : Int32), N - i < fu → i ≤ N → x = -1 ∨ vp_in x 4096 → x = endF f g w i → ∀ ls : Array Slot, lv_has ls 4 [(0, .ref w0), (1, .int w), (2, .int x), (3, .int (nI i))] → W p l e ({ frames := 2, cells := 0, slots := 0, locals := 46 }) s m args below meth c s.heap [] 0 0 (MQ below (kQr (fun rv_ => rv_ = some (.int (endF f g w N)))) args s 0 0 (fun _ => False)) (F0 m 4 ls []) := by
    intro fu
    induction fu with
    | zero => intro i x hmu; exact absurd hmu (Nat.not_lt_zero _)
    | succ fu ih_4 =>
      intro i x hmu_4 hi hx1 ex ls hl
      refine lv_iload_n hx hb dX5_endWith_4 rfl (lv_at hl 3 rfl) ?_
      refine lv_aload_n hx hb dX5_endWith_5 rfl (lv_at hl 0 rfl) ?_
      refine va_get (D := D) (ci := 6) (v := .int (nI N)) (C := RX5) (T := TX5) (N := 3) hx hb hts hi_X5 hown hK.1 hP 0 rfl rfl 2 (by decide) hw_f19 (fun _ h9 => h9) rfl dX5_endWith_6 ?_
      refine lv_icmp_ge (tgt := 46) hx hb dX5_endWith_9 (by decide) (fun c_9 => ?_) (fun c_9 => ?_)
      · skip
        have nc_9 : N ≤ i := (nI_leI (a := N) (b := i) (by omega) (by omega)).mp c_9
        have e12 : N = i := by omega
        subst e12
        refine lv_iload_n hx hb dX5_endWith_46 rfl (lv_at hl 2 rfl) ?_
        exact kRetIr hx hb hr hlk dX5_endWith_47 (kpi (by exact ex))
      · skip
        have nc_9 : ¬ N ≤ i := (not_congr (nI_leI (a := N) (b := i) (by omega) (by omega))).mp c_9
        refine lv_aload_n hx hb dX5_endWith_12 rfl (lv_at hl 0 rfl) ?_
        refine va_get (D := D) (ci := 6) (v := .ref w1) (C := RX5) (T := TX5) (N := 3) hx hb hts hi_X5 hown hK.1 hP 0 rfl rfl 0 (by decide) hw_f11 (fun _ h9 => h9) rfl dX5_endWith_13 ?_
        refine lv_iload_n hx hb dX5_endWith_16 rfl (lv_at hl 3 rfl) ?_
        refine va_iald hx hb hK.1 hP 1 0 rfl rfl (vp_in_nI (by omega) (by omega)) dX5_endWith_17 ?_
        refine lv_topi (fun nv_1 ev_1 => ?_)
        obtain rfl : nv_1 = f i := by rw [ev_1, nI_clamp (by omega)]
        refine lv_iconst (v := (-1)) hx hb dX5_endWith_18 (by decide) ?_
        refine lv_icmp_eq (tgt := 40) hx hb dX5_endWith_19 (by decide) (fun c_19 => ?_) (fun c_19 => ?_)
        · skip
          refine lv_iinc (v := nI (i + 1)) (lv' := [(3, .int (nI (i + 1))), (0, .ref w0), (1, .int w), (2, .int x)]) hx hb dX5_endWith_40 hl (k := 3) rfl (nI_1 _) (by decide) rfl (fun ls hl => ?_)
          refine lv_goto (tgt := 4) hx hb dX5_endWith_43 (by decide) ?_
          exact ih_4  (i + 1) x (by omega) (by first | omega | assumption) (by first | assumption | exact Or.inr (vp_in_nI (by omega) (by decide))) (by subst ex; simp [endF, c_9, nc_9, c_19]) _ (lv_sub hl [1, 2, 3, 0] rfl)
        · skip
          refine lv_iload_n hx hb dX5_endWith_22 rfl (lv_at hl 3 rfl) ?_
          refine lv_iload_n hx hb dX5_endWith_23 rfl (lv_at hl 1 rfl) ?_
          refine lv_iand hx hb dX5_endWith_24 ?_
          refine lv_iload_n hx hb dX5_endWith_25 rfl (lv_at hl 1 rfl) ?_
          refine lv_icmp_ne (tgt := 40) hx hb dX5_endWith_26 (by decide) (fun c_26 => ?_) (fun c_26 => ?_)
          · skip
            refine lv_iinc (v := nI (i + 1)) (lv' := [(3, .int (nI (i + 1))), (0, .ref w0), (1, .int w), (2, .int x)]) hx hb dX5_endWith_40 hl (k := 3) rfl (nI_1 _) (by decide) rfl (fun ls hl => ?_)
            refine lv_goto (tgt := 4) hx hb dX5_endWith_43 (by decide) ?_
            exact ih_4  (i + 1) x (by omega) (by first | omega | assumption) (by first | assumption | exact Or.inr (vp_in_nI (by omega) (by decide))) (by subst ex; simp [endF, c_9, nc_9, c_19, c_26]) _ (lv_sub hl [1, 2, 3, 0] rfl)
          · skip
            refine lv_aload_n hx hb dX5_endWith_29 rfl (lv_at hl 0 rfl) ?_
            refine lv_iload_n hx hb dX5_endWith_30 rfl (lv_at hl 3 rfl) ?_
            refine lv_iload_n hx hb dX5_endWith_31 rfl (lv_at hl 2 rfl) ?_
            refine kGoR (va_runV (As := [.int (nI i), .int x]) (rest := []) ⟨hx, hb, hml, hown, hts⟩ (c_X5_isBetter l D cI cJ cZ cO w0 w1 w2 N f g i x (by first | assumption | omega | decide) (by first | assumption | omega | decide)) (cwV 2 hts gX5_endWith_X5_isBetter rfl rfl rfl (by decide +kernel) ⟨Nat.le_of_ble_eq_true rfl, Nat.le_of_ble_eq_true rfl⟩) (kPreVR (ci := 6) (q0 := 0) hK (kPc_sub hP [0, 1, 2] rfl) rfl rfl rfl) rfl rfl hl.1 rfl (lv_room (Nat.le_of_ble_eq_true rfl)) dX5_endWith_32 ⟨Nat.le_of_ble_eq_true rfl, Nat.le_of_ble_eq_true rfl⟩) (fun v_2 hv_2 => ?_)
            obtain rfl := hv_2
            refine W.eq (g2 := F0 m 35 ls [.int (k01 (betB f g i x))]) rfl ?_
            refine lv_if_eq (tgt := 40) hx hb dX5_endWith_35 (by decide) (fun c_35 => ?_) (fun c_35 => ?_)
            · skip
              have c_35 := k01_z c_35
              refine lv_iinc (v := nI (i + 1)) (lv' := [(3, .int (nI (i + 1))), (0, .ref w0), (1, .int w), (2, .int x)]) hx hb dX5_endWith_40 hl (k := 3) rfl (nI_1 _) (by decide) rfl (fun ls hl => ?_)
              refine lv_goto (tgt := 4) hx hb dX5_endWith_43 (by decide) ?_
              exact ih_4  (i + 1) x (by omega) (by first | omega | assumption) (by first | assumption | exact Or.inr (vp_in_nI (by omega) (by decide))) (by subst ex; simp [endF, c_9, nc_9, c_19, c_26, c_35]) _ (lv_sub hl [1, 2, 3, 0] rfl)
            · skip
              have c_35 := k01_n c_35
              refine lv_iload_n hx hb dX5_endWith_38 rfl (lv_at hl 3 rfl) ?_
              refine lv_istore_n (lv' := [(2, .int (nI i)), (0, .ref w0), (1, .int w), (3, .int (nI i))]) hx hb dX5_endWith_39 rfl hl (by decide) rfl (fun ls hl => ?_)
              refine lv_iinc (v := nI (i + 1)) (lv' := [(3, .int (nI (i + 1))), (2, .int (nI i)), (0, .ref w0), (1, .int w)]) hx hb dX5_endWith_40 hl (k := 3) rfl (nI_1 _) (by decide) rfl (fun ls hl => ?_)
              refine lv_goto (tgt := 4) hx hb dX5_endWith_43 (by decide) ?_
              exact ih_4  (i + 1) (nI i) (by omega) (by first | omega | assumption) (by first | assumption | exact Or.inr (vp_in_nI (by omega) (by decide))) (by subst ex; simp [endF, c_9, nc_9, c_19, c_26, c_35]) _ (lv_sub hl [2, 3, 1, 0] rfl)
  exact hloop_4 ((N - 0) + 1) 0 (-1) (Nat.lt_succ_self _) (by first | omega | assumption) (by exact Or.inl rfl) (by rfl) _ (lv_sub hl [2, 3, 1, 0] rfl)

set_option maxHeartbeats 4000000 in
set_option maxRecDepth 100000 in
theorem c_X5_minutesTo (l : Launch) (D : va_G) (cI cJ cZ cO : ClassId) (w0 : Nat) (w1 : Nat) (w2 : Nat) (N : Nat) (f : Nat → Int32) (g : Nat → Int64) (v : Nat) (hN : N ≤ 4096) (hv : v < N) : kR l D (kTY cI cJ cZ cO) yX5_minutesTo wsX5_minutesTo 0 0 [.ref w0, .int (nI v)] [(w0, .inr (6, [.ref w1, .ref w2, .int (nI N)])), (w1, .inl (cI, 4096, .inl f)), (w2, .inl (cJ, 4096, .inr (.inl g)))] (fun rv_ => rv_ = some (.int (f v / 16))) := by
  refine kEnterR (cc := cX5_minutesTo) (maxL := 2) (ret := (some .int)) (by decide) rfl (Nat.le_of_ble_eq_true rfl) ?_
  intro p e s m args below meth c hx hb hr hml hts hown hlk hK hP ls hl
  have hl : lv_has ls 2 [(0, .ref w0), (1, .int (nI v))] := hl
  have hw_f19 := hts (.fieldLink RX5 19 "WhatToRead$Ways" "sets" "I") (by decide +kernel)
  have hi_X5 : ∀ w ∈ wsX50, w ∈ wsX5_minutesTo := by decide +kernel
  have hw_f11 := hts (.fieldLink RX5 11 "WhatToRead$Ways" "costs" "[I") (by decide +kernel)
  refine lv_iload_n hx hb dX5_minutesTo_0 rfl (lv_at hl 1 rfl) ?_
  refine lv_if_lt (tgt := 24) hx hb dX5_minutesTo_1 (by decide) (fun c_1 => ?_) (fun c_1 => ?_)
  · exact absurd c_1 (nI_pos (by omega))
  · skip
    refine lv_iload_n hx hb dX5_minutesTo_4 rfl (lv_at hl 1 rfl) ?_
    refine lv_aload_n hx hb dX5_minutesTo_5 rfl (lv_at hl 0 rfl) ?_
    refine va_get (D := D) (ci := 6) (v := .int (nI N)) (C := RX5) (T := TX5) (N := 3) hx hb hts hi_X5 hown hK.1 hP 0 rfl rfl 2 (by decide) hw_f19 (fun _ h9 => h9) rfl dX5_minutesTo_6 ?_
    refine lv_icmp_ge (tgt := 24) hx hb dX5_minutesTo_9 (by decide) (fun c_9 => ?_) (fun c_9 => ?_)
    · exact absurd c_9 ((not_congr (nI_leI (a := N) (b := v) (by omega) (by omega))).mpr (by omega))
    · skip
      refine lv_aload_n hx hb dX5_minutesTo_12 rfl (lv_at hl 0 rfl) ?_
      refine va_get (D := D) (ci := 6) (v := .ref w1) (C := RX5) (T := TX5) (N := 3) hx hb hts hi_X5 hown hK.1 hP 0 rfl rfl 0 (by decide) hw_f11 (fun _ h9 => h9) rfl dX5_minutesTo_13 ?_
      refine lv_iload_n hx hb dX5_minutesTo_16 rfl (lv_at hl 1 rfl) ?_
      refine va_iald hx hb hK.1 hP 1 0 rfl rfl (vp_in_nI (by omega) (by omega)) dX5_minutesTo_17 ?_
      refine lv_topi (fun nv_1 ev_1 => ?_)
      obtain rfl : nv_1 = f v := by rw [ev_1, nI_clamp (by omega)]
      refine lv_bipush (v := 16) hx hb dX5_minutesTo_18 (by decide) ?_
      refine lv_idiv hx hb dX5_minutesTo_20 (by decide) ?_
      refine lv_goto (tgt := 25) hx hb dX5_minutesTo_21 (by decide) ?_
      exact kRetIr hx hb hr hlk dX5_minutesTo_25 (kpi (by first | rfl | (rw [ex, e12]; done) | (rw [em, e12]; done) | (rw [ey, e12]; done) | (rw [e12]; done) | (simp [c_1, c_9]; done) | (simp_all []; done)))

set_option maxHeartbeats 4000000 in
set_option maxRecDepth 100000 in
theorem c_X5_richestEnd (l : Launch) (D : va_G) (cI cJ cZ cO : ClassId) (w0 : Nat) (w1 : Nat) (w2 : Nat) (N : Nat) (f : Nat → Int32) (g : Nat → Int64) (t0 : Nat) (t1 : Nat) (t2 : Nat) (cnt : Int32) (wo : Nat → Int32) (cl : Nat → Int32) (mi : Int32) (hN : N ≤ 4096) : kR l D (kTY cI cJ cZ cO) yX5_richestEnd wsX5_richestEnd 2 46 [.ref w0, .ref t0, .int mi] [(w0, .inr (6, [.ref w1, .ref w2, .int (nI N)])), (w1, .inl (cI, 4096, .inl f)), (w2, .inl (cJ, 4096, .inr (.inl g))), (t0, .inr (5, [.ref t1, .ref t2, .int cnt])), (t1, .inl (cI, 12, .inl wo)), (t2, .inl (cI, 12, .inl cl))] (fun rv_ => rv_ = some (.int ((richF f g wo mi N).1))) := by
  refine kEnterR (cc := cX5_richestEnd) (maxL := 7) (ret := (some .int)) (by decide) rfl (Nat.le_of_ble_eq_true rfl) ?_
  intro p e s m args below meth c hx hb hr hml hts hown hlk hK hP ls hl
  have hl : lv_has ls 7 [(0, .ref w0), (1, .ref t0), (2, .int mi)] := hl
  have hw_f19 := hts (.fieldLink RX5 19 "WhatToRead$Ways" "sets" "I") (by decide +kernel)
  have hi_X5 : ∀ w ∈ wsX50, w ∈ wsX5_richestEnd := by decide +kernel
  have hw_f11 := hts (.fieldLink RX5 11 "WhatToRead$Ways" "costs" "[I") (by decide +kernel)
  refine lv_iconst (v := (-1)) hx hb dX5_richestEnd_0 (by decide) ?_
  refine lv_istore_n (lv' := [(3, .int (-1)), (0, .ref w0), (1, .ref t0), (2, .int mi)]) hx hb dX5_richestEnd_1 rfl hl (by decide) rfl (fun ls hl => ?_)
  refine lv_iconst (v := 0) hx hb dX5_richestEnd_2 (by decide) ?_
  refine lv_istore (lv' := [(4, .int 0), (3, .int (-1)), (0, .ref w0), (1, .ref t0), (2, .int mi)]) hx hb dX5_richestEnd_3 hl (by decide) rfl (fun ls hl => ?_)
  refine lv_iconst (v := 0) hx hb dX5_richestEnd_5 (by decide) ?_
  refine lv_istore (lv' := [(5, .int 0), (4, .int 0), (3, .int (-1)), (0, .ref w0), (1, .ref t0), (2, .int mi)]) hx hb dX5_richestEnd_6 hl (by decide) rfl (fun ls hl => ?_)
  have hloop_8 : ∀ (fu : Nat) (i : Nat) (x : Int32) (y : Int32), N - i < fu → i ≤ N → x = -1 ∨ vp_in x 4096 → x = (richF f g wo mi i).1 → y = (richF f g wo mi i).2 → ∀ ls : Array Slot, lv_has ls 7 [(0, .ref w0), (1, .ref t0), (2, .int mi), (3, .int x), (4, .int y), (5, .int (nI i))] → W p l e ({ frames := 2, cells := 0, slots := 0, locals := 46 }) s m args below meth c s.heap [] 0 0 (MQ below (kQr (fun rv_ => rv_ = some (.int ((richF f g wo mi N).1)))) args s 0 0 (fun _ => False)) (F0 m 8 ls []) := by
    intro fu
    induction fu with
    | zero => intro i x y hmu; exact absurd hmu (Nat.not_lt_zero _)
    | succ fu ih_8 =>
      intro i x y hmu_8 hi hx1 ex ey ls hl
      refine lv_iload hx hb dX5_richestEnd_8 (lv_at hl 5 rfl) ?_
      refine lv_aload_n hx hb dX5_richestEnd_10 rfl (lv_at hl 0 rfl) ?_
      refine va_get (D := D) (ci := 6) (v := .int (nI N)) (C := RX5) (T := TX5) (N := 3) hx hb hts hi_X5 hown hK.1 hP 0 rfl rfl 2 (by decide) hw_f19 (fun _ h9 => h9) rfl dX5_richestEnd_11 ?_
      refine lv_icmp_ge (tgt := 86) hx hb dX5_richestEnd_14 (by decide) (fun c_14 => ?_) (fun c_14 => ?_)
      · skip
        have nc_14 : N ≤ i := (nI_leI (a := N) (b := i) (by omega) (by omega)).mp c_14
        have e12 : N = i := by omega
        subst e12
        refine lv_iload_n hx hb dX5_richestEnd_86 rfl (lv_at hl 3 rfl) ?_
        exact kRetIr hx hb hr hlk dX5_richestEnd_87 (kpi (by exact ex))
      · skip
        have nc_14 : ¬ N ≤ i := (not_congr (nI_leI (a := N) (b := i) (by omega) (by omega))).mp c_14
        refine lv_aload_n hx hb dX5_richestEnd_17 rfl (lv_at hl 0 rfl) ?_
        refine va_get (D := D) (ci := 6) (v := .ref w1) (C := RX5) (T := TX5) (N := 3) hx hb hts hi_X5 hown hK.1 hP 0 rfl rfl 0 (by decide) hw_f11 (fun _ h9 => h9) rfl dX5_richestEnd_18 ?_
        refine lv_iload hx hb dX5_richestEnd_21 (lv_at hl 5 rfl) ?_
        refine va_iald hx hb hK.1 hP 1 0 rfl rfl (vp_in_nI (by omega) (by omega)) dX5_richestEnd_23 ?_
        refine lv_topi (fun nv_1 ev_1 => ?_)
        obtain rfl : nv_1 = f i := by rw [ev_1, nI_clamp (by omega)]
        refine lv_iconst (v := (-1)) hx hb dX5_richestEnd_24 (by decide) ?_
        refine lv_icmp_eq (tgt := 80) hx hb dX5_richestEnd_25 (by decide) (fun c_25 => ?_) (fun c_25 => ?_)
        · skip
          refine lv_iinc (v := nI (i + 1)) (lv' := [(5, .int (nI (i + 1))), (0, .ref w0), (1, .ref t0), (2, .int mi), (3, .int x), (4, .int y)]) hx hb dX5_richestEnd_80 hl (k := 5) rfl (nI_1 _) (by decide) rfl (fun ls hl => ?_)
          refine lv_goto (tgt := 8) hx hb dX5_richestEnd_83 (by decide) ?_
          exact ih_8  (i + 1) x y (by omega) (by first | omega | assumption) (by first | assumption | exact Or.inr (vp_in_nI (by omega) (by decide))) (by subst ex; subst ey; simp [richF, c_14, nc_14, c_25]) (by subst ex; subst ey; simp [richF, c_14, nc_14, c_25]) _ (lv_sub hl [1, 2, 3, 4, 5, 0] rfl)
        · skip
          refine lv_aload_n hx hb dX5_richestEnd_28 rfl (lv_at hl 0 rfl) ?_
          refine lv_iload hx hb dX5_richestEnd_29 (lv_at hl 5 rfl) ?_
          refine kGoR (va_runV (As := [.int (nI i)]) (rest := []) ⟨hx, hb, hml, hown, hts⟩ (c_X5_minutesTo l D cI cJ cZ cO w0 w1 w2 N f g i (by first | assumption | omega | decide) (by first | assumption | omega | decide)) (cwV 1 hts gX5_richestEnd_X5_minutesTo rfl rfl rfl (by decide +kernel) ⟨Nat.le_of_ble_eq_true rfl, Nat.le_of_ble_eq_true rfl⟩) (kPreVR (ci := 6) (q0 := 0) hK (kPc_sub hP [0, 1, 2] rfl) rfl rfl rfl) rfl rfl hl.1 rfl (lv_room (Nat.le_of_ble_eq_true rfl)) dX5_richestEnd_31 ⟨Nat.le_of_ble_eq_true rfl, Nat.le_of_ble_eq_true rfl⟩) (fun v_2 hv_2 => ?_)
          obtain rfl := hv_2
          refine W.eq (g2 := F0 m 34 ls [.int (f i / 16)]) rfl ?_
          refine lv_iload_n hx hb dX5_richestEnd_34 rfl (lv_at hl 2 rfl) ?_
          refine lv_icmp_le (tgt := 41) hx hb dX5_richestEnd_35 (by decide) (fun c_35 => ?_) (fun c_35 => ?_)
          · skip
            refine lv_aload_n hx hb dX5_richestEnd_41 rfl (lv_at hl 1 rfl) ?_
            refine lv_iload hx hb dX5_richestEnd_42 (lv_at hl 5 rfl) ?_
            refine kGoR (va_runV (As := [.int (nI i)]) (rest := []) ⟨hx, hb, hml, hown, hts⟩ (c_X4_worthOf l D cI cJ cZ cO t0 t1 t2 cnt wo cl (nI i) ) (cwV 1 hts gX5_richestEnd_X4_worthOf rfl rfl rfl (by decide +kernel) ⟨Nat.le_of_ble_eq_true rfl, Nat.le_of_ble_eq_true rfl⟩) (kPreVR (ci := 5) (q0 := 0) hK (kPc_sub hP [3, 4, 5] rfl) rfl rfl rfl) rfl rfl hl.1 rfl (lv_room (Nat.le_of_ble_eq_true rfl)) dX5_richestEnd_44 ⟨Nat.le_of_ble_eq_true rfl, Nat.le_of_ble_eq_true rfl⟩) (fun v_3 hv_3 => ?_)
            obtain rfl := hv_3
            refine W.eq (g2 := F0 m 47 ls [.int (worthF wo (nI i) 12)]) rfl ?_
            refine lv_istore (lv' := [(6, .int (worthF wo (nI i) 12)), (0, .ref w0), (1, .ref t0), (2, .int mi), (3, .int x), (4, .int y), (5, .int (nI i))]) hx hb dX5_richestEnd_47 hl (by decide) rfl (fun ls hl => ?_)
            refine lv_iload hx hb dX5_richestEnd_49 (lv_at hl 0 rfl) ?_
            refine lv_iload hx hb dX5_richestEnd_51 (lv_at hl 5 rfl) ?_
            refine lv_icmp_gt (tgt := 73) hx hb dX5_richestEnd_53 (by decide) (fun c_53 => ?_) (fun c_53 => ?_)
            · skip
              refine lv_iload hx hb dX5_richestEnd_73 (lv_at hl 6 rfl) ?_
              refine lv_istore_n (lv' := [(3, .int (nI i)), (6, .int (worthF wo (nI i) 12)), (0, .ref w0), (1, .ref t0), (2, .int mi), (4, .int y), (5, .int (nI i))]) hx hb dX5_richestEnd_75 rfl hl (by decide) rfl (fun ls hl => ?_)
              refine lv_iload hx hb dX5_richestEnd_76 (lv_at hl 1 rfl) ?_
              refine lv_istore (lv' := [(4, .int (worthF wo (nI i) 12)), (3, .int (nI i)), (6, .int (worthF wo (nI i) 12)), (0, .ref w0), (1, .ref t0), (2, .int mi), (5, .int (nI i))]) hx hb dX5_richestEnd_78 hl (by decide) rfl (fun ls hl => ?_)
              refine lv_iinc (v := nI (i + 1)) (lv' := [(5, .int (nI (i + 1))), (4, .int (worthF wo (nI i) 12)), (3, .int (nI i)), (6, .int (worthF wo (nI i) 12)), (0, .ref w0), (1, .ref t0), (2, .int mi)]) hx hb dX5_richestEnd_80 hl (k := 6) rfl (nI_1 _) (by decide) rfl (fun ls hl => ?_)
              refine lv_goto (tgt := 8) hx hb dX5_richestEnd_83 (by decide) ?_
              exact ih_8  (i + 1) (nI i) (worthF wo (nI i) 12) (by omega) (by first | omega | assumption) (by first | assumption | exact Or.inr (vp_in_nI (by omega) (by decide))) (by subst ex; subst ey; simp [richF, c_14, nc_14, c_25, c_35, c_53]) (by subst ex; subst ey; simp [richF, c_14, nc_14, c_25, c_35, c_53]) _ (lv_sub hl [4, 5, 6, 2, 1, 0] rfl)
            · skip
              refine lv_iload hx hb dX5_richestEnd_56 (lv_at hl 0 rfl) ?_
              refine lv_iload hx hb dX5_richestEnd_58 (lv_at hl 5 rfl) ?_
              refine lv_icmp_ne (tgt := 80) hx hb dX5_richestEnd_60 (by decide) (fun c_60 => ?_) (fun c_60 => ?_)
              · skip
                refine lv_iinc (v := nI (i + 1)) (lv' := [(5, .int (nI (i + 1))), (6, .int (worthF wo (nI i) 12)), (0, .ref w0), (1, .ref t0), (2, .int mi), (3, .int x), (4, .int y)]) hx hb dX5_richestEnd_80 hl (k := 6) rfl (nI_1 _) (by decide) rfl (fun ls hl => ?_)
                refine lv_goto (tgt := 8) hx hb dX5_richestEnd_83 (by decide) ?_
                exact ih_8  (i + 1) x y (by omega) (by first | omega | assumption) (by first | assumption | exact Or.inr (vp_in_nI (by omega) (by decide))) (by subst ex; subst ey; simp [richF, c_14, nc_14, c_25, c_35, c_53, c_60]) (by subst ex; subst ey; simp [richF, c_14, nc_14, c_25, c_35, c_53, c_60]) _ (lv_sub hl [2, 3, 4, 5, 6, 0] rfl)
              · skip
                refine lv_aload_n hx hb dX5_richestEnd_63 rfl (lv_at hl 1 rfl) ?_
                refine lv_iload hx hb dX5_richestEnd_64 (lv_at hl 6 rfl) ?_
                refine lv_iload_n hx hb dX5_richestEnd_66 rfl (lv_at hl 4 rfl) ?_
                refine kGoR (va_runV (As := [.int (nI i), .int x]) (rest := []) ⟨hx, hb, hml, hown, hts⟩ (c_X5_isBetter l D cI cJ cZ cO w0 w1 w2 N f g i x (by first | assumption | omega | decide) (by first | assumption | omega | decide)) (cwV 2 hts gX5_richestEnd_X5_isBetter rfl rfl rfl (by decide +kernel) ⟨Nat.le_of_ble_eq_true rfl, Nat.le_of_ble_eq_true rfl⟩) (kPreVR (ci := 6) (q0 := 0) hK (kPc_sub hP [0, 1, 2] rfl) rfl rfl rfl) rfl rfl hl.1 rfl (lv_room (Nat.le_of_ble_eq_true rfl)) dX5_richestEnd_67 ⟨Nat.le_of_ble_eq_true rfl, Nat.le_of_ble_eq_true rfl⟩) (fun v_4 hv_4 => ?_)
                obtain rfl := hv_4
                refine W.eq (g2 := F0 m 70 ls [.int (k01 (betB f g i x))]) rfl ?_
                refine lv_if_eq (tgt := 80) hx hb dX5_richestEnd_70 (by decide) (fun c_70 => ?_) (fun c_70 => ?_)
                · skip
                  have c_70 := k01_z c_70
                  refine lv_iinc (v := nI (i + 1)) (lv' := [(5, .int (nI (i + 1))), (6, .int (worthF wo (nI i) 12)), (0, .ref w0), (1, .ref t0), (2, .int mi), (3, .int x), (4, .int y)]) hx hb dX5_richestEnd_80 hl (k := 6) rfl (nI_1 _) (by decide) rfl (fun ls hl => ?_)
                  refine lv_goto (tgt := 8) hx hb dX5_richestEnd_83 (by decide) ?_
                  exact ih_8  (i + 1) x y (by omega) (by first | omega | assumption) (by first | assumption | exact Or.inr (vp_in_nI (by omega) (by decide))) (by subst ex; subst ey; simp [richF, c_14, nc_14, c_25, c_35, c_53, c_60, c_70]) (by subst ex; subst ey; simp [richF, c_14, nc_14, c_25, c_35, c_53, c_60, c_70]) _ (lv_sub hl [2, 3, 4, 5, 6, 0] rfl)
                · skip
                  have c_70 := k01_n c_70
                  refine lv_iload hx hb dX5_richestEnd_73 (lv_at hl 6 rfl) ?_
                  refine lv_istore_n (lv' := [(3, .int (nI i)), (6, .int (worthF wo (nI i) 12)), (0, .ref w0), (1, .ref t0), (2, .int mi), (4, .int y), (5, .int (nI i))]) hx hb dX5_richestEnd_75 rfl hl (by decide) rfl (fun ls hl => ?_)
                  refine lv_iload hx hb dX5_richestEnd_76 (lv_at hl 1 rfl) ?_
                  refine lv_istore (lv' := [(4, .int (worthF wo (nI i) 12)), (3, .int (nI i)), (6, .int (worthF wo (nI i) 12)), (0, .ref w0), (1, .ref t0), (2, .int mi), (5, .int (nI i))]) hx hb dX5_richestEnd_78 hl (by decide) rfl (fun ls hl => ?_)
                  refine lv_iinc (v := nI (i + 1)) (lv' := [(5, .int (nI (i + 1))), (4, .int (worthF wo (nI i) 12)), (3, .int (nI i)), (6, .int (worthF wo (nI i) 12)), (0, .ref w0), (1, .ref t0), (2, .int mi)]) hx hb dX5_richestEnd_80 hl (k := 6) rfl (nI_1 _) (by decide) rfl (fun ls hl => ?_)
                  refine lv_goto (tgt := 8) hx hb dX5_richestEnd_83 (by decide) ?_
                  exact ih_8  (i + 1) (nI i) (worthF wo (nI i) 12) (by omega) (by first | omega | assumption) (by first | assumption | exact Or.inr (vp_in_nI (by omega) (by decide))) (by subst ex; subst ey; simp [richF, c_14, nc_14, c_25, c_35, c_53, c_60, c_70]) (by subst ex; subst ey; simp [richF, c_14, nc_14, c_25, c_35, c_53, c_60, c_70]) _ (lv_sub hl [4, 5, 6, 2, 1, 0] rfl)
          · skip
            refine lv_goto (tgt := 80) hx hb dX5_richestEnd_38 (by decide) ?_
            refine lv_iinc (v := nI (i + 1)) (lv' := [(5, .int (nI (i + 1))), (0, .ref w0), (1, .ref t0), (2, .int mi), (3, .int x), (4, .int y)]) hx hb dX5_richestEnd_80 hl (k := 5) rfl (nI_1 _) (by decide) rfl (fun ls hl => ?_)
            refine lv_goto (tgt := 8) hx hb dX5_richestEnd_83 (by decide) ?_
            exact ih_8  (i + 1) x y (by omega) (by first | omega | assumption) (by first | assumption | exact Or.inr (vp_in_nI (by omega) (by decide))) (by subst ex; subst ey; simp [richF, c_14, nc_14, c_25, c_35]) (by subst ex; subst ey; simp [richF, c_14, nc_14, c_25, c_35]) _ (lv_sub hl [1, 2, 3, 4, 5, 0] rfl)
  exact hloop_8 ((N - 0) + 1) 0 (-1) 0 (Nat.lt_succ_self _) (by first | omega | assumption) (by exact Or.inl rfl) (by rfl) (by rfl) _ (lv_sub hl [3, 4, 5, 2, 1, 0] rfl)

set_option maxHeartbeats 4000000 in
set_option maxRecDepth 100000 in
theorem c_X5_copyRow (l : Launch) (D : va_G) (cI cJ cZ cO : ClassId) (w0 : Nat) (w1 : Nat) (w2 : Nat) (N : Nat) (f : Nat → Int32) (g : Nat → Int64) (r0 : Nat) (r1 : Nat) (rn : Int32) (rf : Nat → Int32) (v : Nat) (cs : Nat) (hN : N ≤ 4096) (hv : v < N) (hcs : f v = nI cs) (hcs2 : cs < 2 ^ 31) (hq : cs % 16 ≤ 12) : kC l D (kTY cI cJ cZ cO) yX5_copyRow wsX5_copyRow 1 21 0 0 [.ref w0, .int (nI v), .ref r0] [(w0, .inr (6, [.ref w1, .ref w2, .int (nI N)])), (w1, .inl (cI, 4096, .inl f)), (w2, .inl (cJ, 4096, .inr (.inl g))), (r0, .inr (3, [.ref r1, .int rn])), (r1, .inl (cI, 12, .inl rf))] (fun rv_ rw_ => rv_ = none ∧ rw_ = [(w0, .inr (6, [.ref w1, .ref w2, .int (nI N)])), (w1, .inl (cI, 4096, .inl f)), (w2, .inl (cJ, 4096, .inr (.inl g))), (r0, .inr (3, [.ref r1, .int (nI (cs % 16))])), (r1, .inl (cI, 12, .inl (copyF rf (g v) (cs % 16) (cs % 16))))]) := by
  refine kEnter (cc := cX5_copyRow) (maxL := 4) (ret := none) (by decide) rfl (Nat.le_of_ble_eq_true rfl) ?_
  intro p e s m args below meth c hx hb hr hml hts hown hlk hnm hK hP hD hS hA ls hl
  have hl : lv_has ls 4 [(0, .ref w0), (1, .int (nI v)), (2, .ref r0)] := hl
  have hw_f19 := hts (.fieldLink RX5 19 "WhatToRead$Ways" "sets" "I") (by decide +kernel)
  have hi_X5 : ∀ w ∈ wsX50, w ∈ wsX5_copyRow := by decide +kernel
  have hw_f11 := hts (.fieldLink RX5 11 "WhatToRead$Ways" "costs" "[I") (by decide +kernel)
  have hw_f15 := hts (.fieldLink RX5 15 "WhatToRead$Ways" "rows" "[J") (by decide +kernel)
  refine lv_iload_n hx hb dX5_copyRow_0 rfl (lv_at hl 1 rfl) ?_
  refine lv_if_lt (tgt := 12) hx hb dX5_copyRow_1 (by decide) (fun c_1 => ?_) (fun c_1 => ?_)
  · exact absurd c_1 (nI_pos (by omega))
  · skip
    refine lv_iload_n hx hb dX5_copyRow_4 rfl (lv_at hl 1 rfl) ?_
    refine lv_aload_n hx hb dX5_copyRow_5 rfl (lv_at hl 0 rfl) ?_
    refine va_get (D := D) (ci := 6) (v := .int (nI N)) (C := RX5) (T := TX5) (N := 3) hx hb hts hi_X5 hown hK.1 hP 0 rfl rfl 2 (by decide) hw_f19 (fun _ h9 => h9) rfl dX5_copyRow_6 ?_
    refine lv_icmp_lt (tgt := 13) hx hb dX5_copyRow_9 (by decide) (fun c_9 => ?_) (fun c_9 => ?_)
    · skip
      refine lv_aload_n hx hb dX5_copyRow_13 rfl (lv_at hl 2 rfl) ?_
      refine kGo (wc := [(r0, .inr (3, [.ref r1, .int rn])), (r1, .inl (cI, 12, .inl rf))]) (wr := [(w0, .inr (6, [.ref w1, .ref w2, .int (nI N)])), (w1, .inl (cI, 4096, .inl f)), (w2, .inl (cJ, 4096, .inr (.inl g)))]) (va_runV (As := []) (rest := []) ⟨hx, hb, hml, hown, hts⟩ (c_X2_clear l D cI cJ cZ cO r0 r1 rn rf  _) (cwV 0 hts gX5_copyRow_X2_clear rfl rfl rfl (by decide +kernel) ⟨Nat.le_of_ble_eq_true rfl, Nat.le_of_ble_eq_true rfl⟩) (kPreV (ci := 3) (q0 := 0) hK (kPc_sub hP [3, 4] rfl) ((hD.sub [3, 4] (by decide) rfl).weaken (fun _ _ _ _ => trivial)) rfl rfl rfl) rfl rfl hl.1 rfl (lv_room (Nat.le_of_ble_eq_true rfl)) dX5_copyRow_14 ⟨Nat.le_of_ble_eq_true rfl, Nat.le_of_ble_eq_true rfl⟩) hP hD hS hA [3, 4] [0, 1, 2] rfl rfl (by decide) (by decide) (fun v_1 w_1 H locs hv_1 hP hD hS => ?_)
      obtain ⟨rfl, rfl⟩ := hv_1
      have hP : va_P D vwCl [(w0, .inr (6, [.ref w1, .ref w2, .int (nI N)])), (w1, .inl (cI, 4096, .inl f)), (w2, .inl (cJ, 4096, .inr (.inl g))), (r0, .inr (3, [.ref r1, .int 0])), (r1, .inl (cI, 12, .inl rf))] H := hP.sub [0, 1, 2, 3, 4] rfl
      have hD : va_D _ [(w0, .inr (6, [.ref w1, .ref w2, .int (nI N)])), (w1, .inl (cI, 4096, .inl f)), (w2, .inl (cJ, 4096, .inr (.inl g))), (r0, .inr (3, [.ref r1, .int 0])), (r1, .inl (cI, 12, .inl rf))] := hD.sub [0, 1, 2, 3, 4] (by decide) rfl
      refine W.eq (g2 := F0 m 17 ls []) rfl ?_
      refine lv_aload_n hx hb dX5_copyRow_17 rfl (lv_at hl 0 rfl) ?_
      refine va_get (D := D) (ci := 6) (v := .ref w1) (C := RX5) (T := TX5) (N := 3) hx hb hts hi_X5 hown hK.1 hP 0 rfl rfl 0 (by decide) hw_f11 (fun _ h9 => h9) rfl dX5_copyRow_18 ?_
      refine lv_iload_n hx hb dX5_copyRow_21 rfl (lv_at hl 1 rfl) ?_
      refine va_iald hx hb hK.1 hP 1 0 rfl rfl (vp_in_nI (by omega) (by omega)) dX5_copyRow_22 ?_
      refine lv_topi (fun nv_2 ev_2 => ?_)
      obtain rfl : nv_2 = f v := by rw [ev_2, nI_clamp (by omega)]
      refine lv_bipush (v := 16) hx hb dX5_copyRow_23 (by decide) ?_
      refine lv_irem hx hb dX5_copyRow_25 (by decide) ?_
      refine lv_topi (fun nv_3 ev_3 => ?_)
      obtain rfl : nv_3 = nI (cs % 16) := ev_3.trans (by rw [hcs]; exact pk_rem (d := 16) hcs2 (by decide) (by decide))
      refine lv_iconst (v := 1) hx hb dX5_copyRow_26 (by decide) ?_
      refine lv_isub hx hb dX5_copyRow_27 ?_
      refine lv_istore_n (lv' := [(3, .int ((nI (cs % 16)) - 1)), (0, .ref w0), (1, .int (nI v)), (2, .ref r0)]) hx hb dX5_copyRow_28 rfl hl (by decide) rfl (fun ls hl => ?_)
      have hloop_29 : ∀ (fu : Nat) (k : Nat) (x : Nat → Int32), cs % 16 - k < fu → k ≤ cs % 16 → x = copyF rf (g v) (cs % 16) k → ∀ (H : Heap) (locs : List Loc), va_P D vwCl [(w0, .inr (6, [.ref w1, .ref w2, .int (nI N)])), (w1, .inl (cI, 4096, .inl f)), (w2, .inl (cJ, 4096, .inr (.inl g))), (r0, .inr (3, [.ref r1, .int (nI k)])), (r1, .inl (cI, 12, .inl x))] H → va_D (va_A [(w0, .inr (6, [.ref w1, .ref w2, .int (nI N)])), (w1, .inl (cI, 4096, .inl f)), (w2, .inl (cJ, 4096, .inr (.inl g))), (r0, .inr (3, [.ref r1, .int rn])), (r1, .inl (cI, 12, .inl rf))] s.heap.size) [(w0, .inr (6, [.ref w1, .ref w2, .int (nI N)])), (w1, .inl (cI, 4096, .inl f)), (w2, .inl (cJ, 4096, .inr (.inl g))), (r0, .inr (3, [.ref r1, .int (nI k)])), (r1, .inl (cI, 12, .inl x))] → va_S (va_A [(w0, .inr (6, [.ref w1, .ref w2, .int (nI N)])), (w1, .inl (cI, 4096, .inl f)), (w2, .inl (cJ, 4096, .inr (.inl g))), (r0, .inr (3, [.ref r1, .int rn])), (r1, .inl (cI, 12, .inl rf))] s.heap.size) s.heap H locs → ∀ ls : Array Slot, lv_has ls 4 [(0, .ref w0), (1, .int (nI v)), (2, .ref r0), (3, .int (nI (cs % 16 - k) - 1))] → W p l e ({ frames := 1, cells := 0, slots := 0, locals := 21 }) s m args below meth c H locs 0 0 (MQ below (kQ D [(w0, .inr (6, [.ref w1, .ref w2, .int (nI N)])), (w1, .inl (cI, 4096, .inl f)), (w2, .inl (cJ, 4096, .inr (.inl g))), (r0, .inr (3, [.ref r1, .int rn])), (r1, .inl (cI, 12, .inl rf))] s.heap.size (fun rv_ rw_ => rv_ = none ∧ rw_ = [(w0, .inr (6, [.ref w1, .ref w2, .int (nI N)])), (w1, .inl (cI, 4096, .inl f)), (w2, .inl (cJ, 4096, .inr (.inl g))), (r0, .inr (3, [.ref r1, .int (nI (cs % 16))])), (r1, .inl (cI, 12, .inl (copyF rf (g v) (cs % 16) (cs % 16))))])) args s 0 0 (va_A [(w0, .inr (6, [.ref w1, .ref w2, .int (nI N)])), (w1, .inl (cI, 4096, .inl f)), (w2, .inl (cJ, 4096, .inr (.inl g))), (r0, .inr (3, [.ref r1, .int rn])), (r1, .inl (cI, 12, .inl rf))] s.heap.size)) (F0 m 29 ls []) := by
        intro fu
        induction fu with
        | zero => intro k x hmu; exact absurd hmu (Nat.not_lt_zero _)
        | succ fu ih_29 =>
          intro k x hmu_29 hk ex H locs hP hD hS ls hl
          refine lv_iload_n hx hb dX5_copyRow_29 rfl (lv_at hl 3 rfl) ?_
          refine lv_if_lt (tgt := 57) hx hb dX5_copyRow_30 (by decide) (fun c_30 => ?_) (fun c_30 => ?_)
          · skip
            have nc_30 := (kq0 (by omega)).mp c_30
            have e12 : k = cs % 16 := by omega
            have ew_0 : (nI k : Int32) = nI (cs % 16) := by first | rfl | (rw [ex, e12]; done) | (rw [em, e12]; done) | (rw [ey, e12]; done) | (rw [e12]; done) | (simp [c_1, c_9, hk, ex, c_30]; done) | (simp_all []; done)
            have ew_1 : (x : Nat → Int32) = copyF rf (g v) (cs % 16) (cs % 16) := by first | rfl | (rw [ex, e12]; done) | (rw [em, e12]; done) | (rw [ey, e12]; done) | (rw [e12]; done) | (simp [c_1, c_9, hk, ex, c_30]; done) | (simp_all []; done)
            exact kRetV hx hb hr hlk dX5_copyRow_57 hP hD hS (Nat.le_of_ble_eq_true rfl) (Nat.le_of_ble_eq_true rfl) ⟨rfl, (kw2 (fun (z_0 : Int32) (z_1 : Nat → Int32) => ([(w0, .inr (6, [.ref w1, .ref w2, .int (nI N)])), (w1, .inl (cI, 4096, .inl f)), (w2, .inl (cJ, 4096, .inr (.inl g))), (r0, .inr (3, [.ref r1, .int z_0])), (r1, .inl (cI, 12, .inl z_1))] : va_W)) ew_0 ew_1)⟩
          · skip
            have nc_30 := (not_congr (kq0 (by omega))).mp c_30
            refine lv_aload_n hx hb dX5_copyRow_33 rfl (lv_at hl 2 rfl) ?_
            refine lv_aload_n hx hb dX5_copyRow_34 rfl (lv_at hl 0 rfl) ?_
            refine va_get (D := D) (ci := 6) (v := .ref w2) (C := RX5) (T := TX5) (N := 3) hx hb hts hi_X5 hown hK.1 hP 0 rfl rfl 1 (by decide) hw_f15 (fun _ h9 => h9) rfl dX5_copyRow_35 ?_
            refine lv_iload_n hx hb dX5_copyRow_38 rfl (lv_at hl 1 rfl) ?_
            refine va_lald hx hb hK.1 hP 2 1 rfl rfl (vp_in_nI (by omega) (by omega)) dX5_copyRow_39 ?_
            refine lv_topl (fun nv_4 ev_4 => ?_)
            obtain rfl : nv_4 = g v := by rw [ev_4, nI_clamp (by omega)]
            refine lv_iconst (v := 5) hx hb dX5_copyRow_40 (by decide) ?_
            refine lv_iload_n hx hb dX5_copyRow_41 rfl (lv_at hl 3 rfl) ?_
            refine lv_imul hx hb dX5_copyRow_42 ?_
            refine lv_topi (fun nv_5 ev_5 => ?_)
            obtain rfl : nv_5 = 5 * nI (cs % 16 - 1 - k) := ev_5.trans (by rw [kpred (q := cs % 16 - k) (by omega)]; rw [show cs % 16 - k - 1 = cs % 16 - 1 - k by omega])
            refine lv_lshr hx hb dX5_copyRow_43 rfl ?_
            refine lv_l2i hx hb dX5_copyRow_44 rfl ?_
            refine lv_bipush (v := 31) hx hb dX5_copyRow_45 (by decide) ?_
            refine lv_iand hx hb dX5_copyRow_47 ?_
            refine lv_topi (fun nv_6 ev_6 => ?_)
            obtain rfl : nv_6 = digF (g v) (cs % 16 - 1 - k) := ev_6.trans (rfl)
            refine kGo (wc := [(r0, .inr (3, [.ref r1, .int (nI k)])), (r1, .inl (cI, 12, .inl x))]) (wr := [(w0, .inr (6, [.ref w1, .ref w2, .int (nI N)])), (w1, .inl (cI, 4096, .inl f)), (w2, .inl (cJ, 4096, .inr (.inl g)))]) (va_runV (As := [.int (digF (g v) (cs % 16 - 1 - k))]) (rest := []) ⟨hx, hb, hml, hown, hts⟩ (c_X2_add_b l D cI cJ cZ cO r0 r1 k x (digF (g v) (cs % 16 - 1 - k)) (by first | assumption | omega | decide) _) (cwV 1 hts gX5_copyRow_X2_add rfl rfl rfl (by decide +kernel) ⟨Nat.le_of_ble_eq_true rfl, Nat.le_of_ble_eq_true rfl⟩) (kPreV (ci := 3) (q0 := 0) hK (kPc_sub hP [3, 4] rfl) ((hD.sub [3, 4] (by decide) rfl).weaken (fun _ _ _ _ => trivial)) rfl rfl rfl) rfl rfl hl.1 rfl (lv_room (Nat.le_of_ble_eq_true rfl)) dX5_copyRow_48 ⟨Nat.le_of_ble_eq_true rfl, Nat.le_of_ble_eq_true rfl⟩) hP hD hS hA [3, 4] [0, 1, 2] rfl rfl (by decide) (by decide) (fun v_7 w_7 H locs hv_7 hP hD hS => ?_)
            obtain ⟨rfl, rfl⟩ := hv_7
            have hP : va_P D vwCl [(w0, .inr (6, [.ref w1, .ref w2, .int (nI N)])), (w1, .inl (cI, 4096, .inl f)), (w2, .inl (cJ, 4096, .inr (.inl g))), (r0, .inr (3, [.ref r1, .int (nI (k + 1))])), (r1, .inl (cI, 12, .inl (upd x k (digF (g v) (cs % 16 - 1 - k)))))] H := hP.sub [0, 1, 2, 3, 4] rfl
            have hD : va_D _ [(w0, .inr (6, [.ref w1, .ref w2, .int (nI N)])), (w1, .inl (cI, 4096, .inl f)), (w2, .inl (cJ, 4096, .inr (.inl g))), (r0, .inr (3, [.ref r1, .int (nI (k + 1))])), (r1, .inl (cI, 12, .inl (upd x k (digF (g v) (cs % 16 - 1 - k)))))] := hD.sub [0, 1, 2, 3, 4] (by decide) rfl
            refine W.eq (g2 := F0 m 51 ls []) rfl ?_
            refine lv_iinc (v := nI (cs % 16 - (k + 1)) - 1) (lv' := [(3, .int (nI (cs % 16 - (k + 1)) - 1)), (0, .ref w0), (1, .int (nI v)), (2, .ref r0)]) hx hb dX5_copyRow_51 hl (k := 3) rfl (kdec (q := cs % 16 - k) (by omega)) (by decide) rfl (fun ls hl => ?_)
            refine lv_goto (tgt := 29) hx hb dX5_copyRow_54 (by decide) ?_
            exact ih_29  (k + 1) (upd x k (digF (g v) (cs % 16 - 1 - k))) (by omega) (by first | omega | assumption) (by rw [ex]; rfl) _ _ hP hD hS _ (lv_sub hl [1, 2, 3, 0] rfl)
      exact hloop_29 ((cs % 16 - 0) + 1) 0 rf (Nat.lt_succ_self _) (by first | omega | assumption) (by rfl) _ _ hP hD hS _ (lv_sub hl [1, 2, 3, 0] rfl)
    · exact absurd ((nI_ltI (a := v) (b := N) (by omega) (by omega)).mpr hv) c_9

set_option maxHeartbeats 4000000 in
set_option maxRecDepth 100000 in
theorem c_X5_offer (l : Launch) (D : va_G) (cI cJ cZ cO : ClassId) (w0 : Nat) (w1 : Nat) (w2 : Nat) (N : Nat) (f : Nat → Int32) (g : Nat → Int64) (a : Nat) (to : Int32) (mi : Int32) (st : Int32) (hN : N ≤ 4096) (ha : a < 4096) : kC l D (kTY cI cJ cZ cO) yX5_offer wsX5_offer 1 24 0 0 [.ref w0, .int (nI a), .int to, .int mi, .int st] [(w0, .inr (6, [.ref w1, .ref w2, .int (nI N)])), (w1, .inl (cI, 4096, .inl f)), (w2, .inl (cJ, 4096, .inr (.inl g)))] (fun rv_ rw_ => rv_ = none ∧ rw_ = [(w0, .inr (6, [.ref w1, .ref w2, .int (nI N)])), (w1, .inl (cI, 4096, .inl ((offerF N (f, g) a to mi st).1))), (w2, .inl (cJ, 4096, .inr (.inl ((offerF N (f, g) a to mi st).2))))]) := by
  refine kEnter (cc := cX5_offer) (maxL := 8) (ret := none) (by decide) rfl (Nat.le_of_ble_eq_true rfl) ?_
  intro p e s m args below meth c hx hb hr hml hts hown hlk hnm hK hP hD hS hA ls hl
  have hl : lv_has ls 8 [(0, .ref w0), (1, .int (nI a)), (2, .int to), (3, .int mi), (4, .int st)] := hl
  have hw_f19 := hts (.fieldLink RX5 19 "WhatToRead$Ways" "sets" "I") (by decide +kernel)
  have hi_X5 : ∀ w ∈ wsX50, w ∈ wsX5_offer := by decide +kernel
  have hw_f11 := hts (.fieldLink RX5 11 "WhatToRead$Ways" "costs" "[I") (by decide +kernel)
  have hw_f15 := hts (.fieldLink RX5 15 "WhatToRead$Ways" "rows" "[J") (by decide +kernel)
  refine lv_iload_n hx hb dX5_offer_0 rfl (lv_at hl 1 rfl) ?_
  refine lv_if_lt (tgt := 17) hx hb dX5_offer_1 (by decide) (fun c_1 => ?_) (fun c_1 => ?_)
  · exact absurd c_1 (nI_pos (by omega))
  · skip
    refine lv_iload_n hx hb dX5_offer_4 rfl (lv_at hl 2 rfl) ?_
    refine lv_iload_n hx hb dX5_offer_5 rfl (lv_at hl 1 rfl) ?_
    refine lv_icmp_le (tgt := 17) hx hb dX5_offer_6 (by decide) (fun c_6 => ?_) (fun c_6 => ?_)
    · skip
      have ew_0 : (f : Nat → Int32) = (offerF N (f, g) a to mi st).1 := by simp [offerF, offerB, c_1, c_6]
      have ew_1 : (g : Nat → Int64) = (offerF N (f, g) a to mi st).2 := by simp [offerF, offerB, c_1, c_6]
      exact kRetV hx hb hr hlk dX5_offer_17 hP hD hS (Nat.le_of_ble_eq_true rfl) (Nat.le_of_ble_eq_true rfl) ⟨rfl, (kw2 (fun (z_0 : Nat → Int32) (z_1 : Nat → Int64) => ([(w0, .inr (6, [.ref w1, .ref w2, .int (nI N)])), (w1, .inl (cI, 4096, .inl z_0)), (w2, .inl (cJ, 4096, .inr (.inl z_1)))] : va_W)) ew_0 ew_1)⟩
    · skip
      refine lv_iload_n hx hb dX5_offer_9 rfl (lv_at hl 2 rfl) ?_
      refine lv_aload_n hx hb dX5_offer_10 rfl (lv_at hl 0 rfl) ?_
      refine va_get (D := D) (ci := 6) (v := .int (nI N)) (C := RX5) (T := TX5) (N := 3) hx hb hts hi_X5 hown hK.1 hP 0 rfl rfl 2 (by decide) hw_f19 (fun _ h9 => h9) rfl dX5_offer_11 ?_
      refine lv_icmp_lt (tgt := 18) hx hb dX5_offer_14 (by decide) (fun c_14 => ?_) (fun c_14 => ?_)
      · skip
        have hto := kto (by omega) hN c_6 c_14
        refine lv_aload_n hx hb dX5_offer_18 rfl (lv_at hl 0 rfl) ?_
        refine va_get (D := D) (ci := 6) (v := .ref w1) (C := RX5) (T := TX5) (N := 3) hx hb hts hi_X5 hown hK.1 hP 0 rfl rfl 0 (by decide) hw_f11 (fun _ h9 => h9) rfl dX5_offer_19 ?_
        refine lv_iload_n hx hb dX5_offer_22 rfl (lv_at hl 1 rfl) ?_
        refine va_iald hx hb hK.1 hP 1 0 rfl rfl (vp_in_nI (by omega) (by omega)) dX5_offer_23 ?_
        refine lv_topi (fun nv_1 ev_1 => ?_)
        obtain rfl : nv_1 = f a := by rw [ev_1, nI_clamp (by omega)]
        refine lv_bipush (v := 16) hx hb dX5_offer_24 (by decide) ?_
        refine lv_iload_n hx hb dX5_offer_26 rfl (lv_at hl 3 rfl) ?_
        refine lv_imul hx hb dX5_offer_27 ?_
        refine lv_iadd hx hb dX5_offer_28 ?_
        refine lv_iconst (v := 1) hx hb dX5_offer_29 (by decide) ?_
        refine lv_iadd hx hb dX5_offer_30 ?_
        refine lv_topi (fun nv_2 ev_2 => ?_)
        obtain rfl : nv_2 = costF f a mi := ev_2.trans (rfl)
        refine lv_istore (lv' := [(5, .int (costF f a mi)), (0, .ref w0), (1, .int (nI a)), (2, .int to), (3, .int mi), (4, .int st)]) hx hb dX5_offer_31 hl (by decide) rfl (fun ls hl => ?_)
        refine lv_aload_n hx hb dX5_offer_33 rfl (lv_at hl 1 rfl) ?_
        refine va_get (D := D) (ci := 6) (v := .ref w2) (C := RX5) (T := TX5) (N := 3) hx hb hts hi_X5 hown hK.1 hP 0 rfl rfl 1 (by decide) hw_f15 (fun _ h9 => h9) rfl dX5_offer_34 ?_
        refine lv_iload_n hx hb dX5_offer_37 rfl (lv_at hl 2 rfl) ?_
        refine va_lald hx hb hK.1 hP 2 1 rfl rfl (vp_in_nI (by omega) (by omega)) dX5_offer_38 ?_
        refine lv_topl (fun nv_3 ev_3 => ?_)
        obtain rfl : nv_3 = g a := by rw [ev_3, nI_clamp (by omega)]
        refine lv_iconst (v := 5) hx hb dX5_offer_39 (by decide) ?_
        refine lv_lshl hx hb dX5_offer_40 rfl ?_
        refine lv_iload hx hb dX5_offer_41 (lv_at hl 5 rfl) ?_
        refine lv_i2l hx hb dX5_offer_43 rfl ?_
        refine lv_lor hx hb dX5_offer_44 ?_
        refine lv_topl (fun nv_4 ev_4 => ?_)
        obtain rfl : nv_4 = stepF g a st := ev_4.trans (rfl)
        refine lv_lstore (lv' := [(6, .long (stepF g a st)), (5, .int (costF f a mi)), (0, .ref w0), (1, .int (nI a)), (2, .int to), (3, .int mi), (4, .int st)]) hx hb dX5_offer_45 hl (by decide) rfl (fun ls hl => ?_)
        refine lv_aload_n hx hb dX5_offer_47 rfl (lv_at hl 2 rfl) ?_
        refine va_get (D := D) (ci := 6) (v := .ref w1) (C := RX5) (T := TX5) (N := 3) hx hb hts hi_X5 hown hK.1 hP 0 rfl rfl 0 (by decide) hw_f11 (fun _ h9 => h9) rfl dX5_offer_48 ?_
        refine lv_iload_n hx hb dX5_offer_51 rfl (lv_at hl 4 rfl) ?_
        refine va_iald hx hb hK.1 hP 1 0 rfl rfl hto dX5_offer_52 ?_
        refine lv_iconst (v := (-1)) hx hb dX5_offer_53 (by decide) ?_
        refine lv_icmp_eq (tgt := 69) hx hb dX5_offer_54 (by decide) (fun c_54 => ?_) (fun c_54 => ?_)
        · skip
          refine lv_aload_n hx hb dX5_offer_69 rfl (lv_at hl 2 rfl) ?_
          refine va_get (D := D) (ci := 6) (v := .ref w1) (C := RX5) (T := TX5) (N := 3) hx hb hts hi_X5 hown hK.1 hP 0 rfl rfl 0 (by decide) hw_f11 (fun _ h9 => h9) rfl dX5_offer_70 ?_
          refine lv_iload_n hx hb dX5_offer_73 rfl (lv_at hl 4 rfl) ?_
          refine lv_iload hx hb dX5_offer_74 (lv_at hl 1 rfl) ?_
          refine va_iast hx hb hK.1 hP hD hS 1 0 rfl rfl hto dX5_offer_76 (fun H locs hP hD hS => ?_)
          have hP : va_P D vwCl [(w0, .inr (6, [.ref w1, .ref w2, .int (nI N)])), (w1, .inl (cI, 4096, .inl (upd f (to).toNatClampNeg (costF f a mi)))), (w2, .inl (cJ, 4096, .inr (.inl g)))] H := hP
          have hD : va_D _ [(w0, .inr (6, [.ref w1, .ref w2, .int (nI N)])), (w1, .inl (cI, 4096, .inl (upd f (to).toNatClampNeg (costF f a mi)))), (w2, .inl (cJ, 4096, .inr (.inl g)))] := hD
          refine lv_aload_n hx hb dX5_offer_77 rfl (lv_at hl 2 rfl) ?_
          refine va_get (D := D) (ci := 6) (v := .ref w2) (C := RX5) (T := TX5) (N := 3) hx hb hts hi_X5 hown hK.1 hP 0 rfl rfl 1 (by decide) hw_f15 (fun _ h9 => h9) rfl dX5_offer_78 ?_
          refine lv_iload_n hx hb dX5_offer_81 rfl (lv_at hl 4 rfl) ?_
          refine lv_lload hx hb dX5_offer_82 (lv_at hl 0 rfl) ?_
          refine va_last hx hb hK.1 hP hD hS 2 1 rfl rfl hto dX5_offer_84 (fun H locs hP hD hS => ?_)
          have hP : va_P D vwCl [(w0, .inr (6, [.ref w1, .ref w2, .int (nI N)])), (w1, .inl (cI, 4096, .inl (upd f (to).toNatClampNeg (costF f a mi)))), (w2, .inl (cJ, 4096, .inr (.inl (vp_updL g (to).toNatClampNeg (stepF g a st)))))] H := hP
          have hD : va_D _ [(w0, .inr (6, [.ref w1, .ref w2, .int (nI N)])), (w1, .inl (cI, 4096, .inl (upd f (to).toNatClampNeg (costF f a mi)))), (w2, .inl (cJ, 4096, .inr (.inl (vp_updL g (to).toNatClampNeg (stepF g a st)))))] := hD
          have ew_0 : (upd f (to).toNatClampNeg (costF f a mi) : Nat → Int32) = (offerF N (f, g) a to mi st).1 := by simp [offerF, offerB, c_1, c_6, c_14, c_54]
          have ew_1 : (vp_updL g (to).toNatClampNeg (stepF g a st) : Nat → Int64) = (offerF N (f, g) a to mi st).2 := by simp [offerF, offerB, c_1, c_6, c_14, c_54]
          exact kRetV hx hb hr hlk dX5_offer_85 hP hD hS (Nat.le_of_ble_eq_true rfl) (Nat.le_of_ble_eq_true rfl) ⟨rfl, (kw2 (fun (z_0 : Nat → Int32) (z_1 : Nat → Int64) => ([(w0, .inr (6, [.ref w1, .ref w2, .int (nI N)])), (w1, .inl (cI, 4096, .inl z_0)), (w2, .inl (cJ, 4096, .inr (.inl z_1)))] : va_W)) ew_0 ew_1)⟩
        · skip
          refine lv_aload_n hx hb dX5_offer_57 rfl (lv_at hl 2 rfl) ?_
          refine lv_iload hx hb dX5_offer_58 (lv_at hl 1 rfl) ?_
          refine lv_lload hx hb dX5_offer_60 (lv_at hl 0 rfl) ?_
          refine lv_iload_n hx hb dX5_offer_62 rfl (lv_at hl 4 rfl) ?_
          refine kGoR (va_runV (As := [.int (costF f a mi), .long (stepF g a st), .int to]) (rest := []) ⟨hx, hb, hml, hown, hts⟩ (c_X5_isBefore l D cI cJ cZ cO w0 w1 w2 N f g (costF f a mi) (stepF g a st) to (hto)) (cwV 3 hts gX5_offer_X5_isBefore rfl rfl rfl (by decide +kernel) ⟨Nat.le_of_ble_eq_true rfl, Nat.le_of_ble_eq_true rfl⟩) (kPreVR (ci := 6) (q0 := 0) hK (kPc_sub hP [0, 1, 2] rfl) rfl rfl rfl) rfl rfl hl.1 rfl (lv_room (Nat.le_of_ble_eq_true rfl)) dX5_offer_63 ⟨Nat.le_of_ble_eq_true rfl, Nat.le_of_ble_eq_true rfl⟩) (fun v_5 hv_5 => ?_)
          obtain rfl := hv_5
          refine W.eq (g2 := F0 m 66 ls [.int (k01 (befB f g (costF f a mi) (stepF g a st) to.toNatClampNeg))]) rfl ?_
          refine lv_if_eq (tgt := 85) hx hb dX5_offer_66 (by decide) (fun c_66 => ?_) (fun c_66 => ?_)
          · skip
            have c_66 := k01_z c_66
            have ew_0 : (f : Nat → Int32) = (offerF N (f, g) a to mi st).1 := by simp [offerF, offerB, c_1, c_6, c_14, c_54, c_66]
            have ew_1 : (g : Nat → Int64) = (offerF N (f, g) a to mi st).2 := by simp [offerF, offerB, c_1, c_6, c_14, c_54, c_66]
            exact kRetV hx hb hr hlk dX5_offer_85 hP hD hS (Nat.le_of_ble_eq_true rfl) (Nat.le_of_ble_eq_true rfl) ⟨rfl, (kw2 (fun (z_0 : Nat → Int32) (z_1 : Nat → Int64) => ([(w0, .inr (6, [.ref w1, .ref w2, .int (nI N)])), (w1, .inl (cI, 4096, .inl z_0)), (w2, .inl (cJ, 4096, .inr (.inl z_1)))] : va_W)) ew_0 ew_1)⟩
          · skip
            have c_66 := k01_n c_66
            refine lv_aload_n hx hb dX5_offer_69 rfl (lv_at hl 2 rfl) ?_
            refine va_get (D := D) (ci := 6) (v := .ref w1) (C := RX5) (T := TX5) (N := 3) hx hb hts hi_X5 hown hK.1 hP 0 rfl rfl 0 (by decide) hw_f11 (fun _ h9 => h9) rfl dX5_offer_70 ?_
            refine lv_iload_n hx hb dX5_offer_73 rfl (lv_at hl 4 rfl) ?_
            refine lv_iload hx hb dX5_offer_74 (lv_at hl 1 rfl) ?_
            refine va_iast hx hb hK.1 hP hD hS 1 0 rfl rfl hto dX5_offer_76 (fun H locs hP hD hS => ?_)
            have hP : va_P D vwCl [(w0, .inr (6, [.ref w1, .ref w2, .int (nI N)])), (w1, .inl (cI, 4096, .inl (upd f (to).toNatClampNeg (costF f a mi)))), (w2, .inl (cJ, 4096, .inr (.inl g)))] H := hP
            have hD : va_D _ [(w0, .inr (6, [.ref w1, .ref w2, .int (nI N)])), (w1, .inl (cI, 4096, .inl (upd f (to).toNatClampNeg (costF f a mi)))), (w2, .inl (cJ, 4096, .inr (.inl g)))] := hD
            refine lv_aload_n hx hb dX5_offer_77 rfl (lv_at hl 2 rfl) ?_
            refine va_get (D := D) (ci := 6) (v := .ref w2) (C := RX5) (T := TX5) (N := 3) hx hb hts hi_X5 hown hK.1 hP 0 rfl rfl 1 (by decide) hw_f15 (fun _ h9 => h9) rfl dX5_offer_78 ?_
            refine lv_iload_n hx hb dX5_offer_81 rfl (lv_at hl 4 rfl) ?_
            refine lv_lload hx hb dX5_offer_82 (lv_at hl 0 rfl) ?_
            refine va_last hx hb hK.1 hP hD hS 2 1 rfl rfl hto dX5_offer_84 (fun H locs hP hD hS => ?_)
            have hP : va_P D vwCl [(w0, .inr (6, [.ref w1, .ref w2, .int (nI N)])), (w1, .inl (cI, 4096, .inl (upd f (to).toNatClampNeg (costF f a mi)))), (w2, .inl (cJ, 4096, .inr (.inl (vp_updL g (to).toNatClampNeg (stepF g a st)))))] H := hP
            have hD : va_D _ [(w0, .inr (6, [.ref w1, .ref w2, .int (nI N)])), (w1, .inl (cI, 4096, .inl (upd f (to).toNatClampNeg (costF f a mi)))), (w2, .inl (cJ, 4096, .inr (.inl (vp_updL g (to).toNatClampNeg (stepF g a st)))))] := hD
            have ew_0 : (upd f (to).toNatClampNeg (costF f a mi) : Nat → Int32) = (offerF N (f, g) a to mi st).1 := by simp [offerF, offerB, c_1, c_6, c_14, c_54, c_66]
            have ew_1 : (vp_updL g (to).toNatClampNeg (stepF g a st) : Nat → Int64) = (offerF N (f, g) a to mi st).2 := by simp [offerF, offerB, c_1, c_6, c_14, c_54, c_66]
            exact kRetV hx hb hr hlk dX5_offer_85 hP hD hS (Nat.le_of_ble_eq_true rfl) (Nat.le_of_ble_eq_true rfl) ⟨rfl, (kw2 (fun (z_0 : Nat → Int32) (z_1 : Nat → Int64) => ([(w0, .inr (6, [.ref w1, .ref w2, .int (nI N)])), (w1, .inl (cI, 4096, .inl z_0)), (w2, .inl (cJ, 4096, .inr (.inl z_1)))] : va_W)) ew_0 ew_1)⟩
      · skip
        have ew_0 : (f : Nat → Int32) = (offerF N (f, g) a to mi st).1 := by simp [offerF, offerB, c_1, c_6, c_14]
        have ew_1 : (g : Nat → Int64) = (offerF N (f, g) a to mi st).2 := by simp [offerF, offerB, c_1, c_6, c_14]
        exact kRetV hx hb hr hlk dX5_offer_17 hP hD hS (Nat.le_of_ble_eq_true rfl) (Nat.le_of_ble_eq_true rfl) ⟨rfl, (kw2 (fun (z_0 : Nat → Int32) (z_1 : Nat → Int64) => ([(w0, .inr (6, [.ref w1, .ref w2, .int (nI N)])), (w1, .inl (cI, 4096, .inl z_0)), (w2, .inl (cJ, 4096, .inr (.inl z_1)))] : va_W)) ew_0 ew_1)⟩

set_option maxHeartbeats 4000000 in
set_option maxRecDepth 100000 in
theorem c_X5_goOnFrom (l : Launch) (D : va_G) (cI cJ cZ cO : ClassId) (w0 : Nat) (w1 : Nat) (w2 : Nat) (N : Nat) (f : Nat → Int32) (g : Nat → Int64) (h0 : Nat) (la : Nat) (ea : Nat) (pc : Int32) (mo : Int32) (n : Nat) (al : Nat → Option Nat) (cap : Nat) (LP : List Nat) (pf : Nat → va_E) (ad : Nat → Nat) (ne : Nat → Int32) (ei : Nat → Int32) (gv : Nat → Int32) (sk : Nat → Int32) (pg : Nat → Int32) (v : Nat) (wt : Int32) (hN : N ≤ 4096) (hn : n ≤ 14) (hH : shH cO n ea cap al LP pf) (hE : shE n al LP pf ad ne ei gv sk pg) (hv : v < 4096) : kC l D (kTY cI cJ cZ cO) yX5_goOnFrom wsX5_goOnFrom 5 108 0 0 [.ref w0, .int (nI v), .ref h0, .int wt] ([(w0, .inr (6, [.ref w1, .ref w2, .int (nI N)])), (w1, .inl (cI, 4096, .inl f)), (w2, .inl (cJ, 4096, .inr (.inl g))), (h0, .inr (4, [.ref la, .int pc])), (la, .inr (0, [.int mo, .ref ea, .int (nI n)]))] ++ va_pl LP pf) (fun rv_ rw_ => rv_ = none ∧ rw_ = ([(w0, .inr (6, [.ref w1, .ref w2, .int (nI N)])), (w1, .inl (cI, 4096, .inl ((goF N ne ei gv sk pg pc wt v (f, g) (2 * n)).1))), (w2, .inl (cJ, 4096, .inr (.inl ((goF N ne ei gv sk pg pc wt v (f, g) (2 * n)).2)))), (h0, .inr (4, [.ref la, .int pc])), (la, .inr (0, [.int mo, .ref ea, .int (nI n)]))] ++ va_pl LP pf)) := by
  refine kEnter (cc := cX5_goOnFrom) (maxL := 6) (ret := none) (by decide) rfl (Nat.le_of_ble_eq_true rfl) ?_
  intro p e s m args below meth c hx hb hr hml hts hown hlk hnm hK hP hD hS hA ls hl
  have hl : lv_has ls 6 [(0, .ref w0), (1, .int (nI v)), (2, .ref h0), (3, .int wt)] := hl
  have hw_iX7 := hts (.initialized RX7) (by decide +kernel)
  have hw_s_X7_isSkimmed := hts (.static yX7_isSkimmed) (by decide +kernel)
  refine lv_iconst (v := 0) hx hb dX5_goOnFrom_0 (by decide) ?_
  refine lv_istore (lv' := [(4, .int 0), (0, .ref w0), (1, .int (nI v)), (2, .ref h0), (3, .int wt)]) hx hb dX5_goOnFrom_1 hl (by decide) rfl (fun ls hl => ?_)
  have hloop_3 : ∀ (fu : Nat) (k : Nat) (x : Nat → Int32) (y : Nat → Int64), 2 * n - k < fu → k ≤ 2 * n → x = (goF N ne ei gv sk pg pc wt v (f, g) k).1 → y = (goF N ne ei gv sk pg pc wt v (f, g) k).2 → ∀ (H : Heap) (locs : List Loc), va_P D vwCl ([(w0, .inr (6, [.ref w1, .ref w2, .int (nI N)])), (w1, .inl (cI, 4096, .inl x)), (w2, .inl (cJ, 4096, .inr (.inl y))), (h0, .inr (4, [.ref la, .int pc])), (la, .inr (0, [.int mo, .ref ea, .int (nI n)]))] ++ va_pl LP pf) H → va_D (va_A ([(w0, .inr (6, [.ref w1, .ref w2, .int (nI N)])), (w1, .inl (cI, 4096, .inl f)), (w2, .inl (cJ, 4096, .inr (.inl g))), (h0, .inr (4, [.ref la, .int pc])), (la, .inr (0, [.int mo, .ref ea, .int (nI n)]))] ++ va_pl LP pf) s.heap.size) ([(w0, .inr (6, [.ref w1, .ref w2, .int (nI N)])), (w1, .inl (cI, 4096, .inl x)), (w2, .inl (cJ, 4096, .inr (.inl y))), (h0, .inr (4, [.ref la, .int pc])), (la, .inr (0, [.int mo, .ref ea, .int (nI n)]))] ++ va_pl LP pf) → va_S (va_A ([(w0, .inr (6, [.ref w1, .ref w2, .int (nI N)])), (w1, .inl (cI, 4096, .inl f)), (w2, .inl (cJ, 4096, .inr (.inl g))), (h0, .inr (4, [.ref la, .int pc])), (la, .inr (0, [.int mo, .ref ea, .int (nI n)]))] ++ va_pl LP pf) s.heap.size) s.heap H locs → ∀ ls : Array Slot, lv_has ls 6 [(0, .ref w0), (1, .int (nI v)), (2, .ref h0), (3, .int wt), (4, .int (nI k))] → W p l e ({ frames := 5, cells := 0, slots := 0, locals := 108 }) s m args below meth c H locs 0 0 (MQ below (kQ D ([(w0, .inr (6, [.ref w1, .ref w2, .int (nI N)])), (w1, .inl (cI, 4096, .inl f)), (w2, .inl (cJ, 4096, .inr (.inl g))), (h0, .inr (4, [.ref la, .int pc])), (la, .inr (0, [.int mo, .ref ea, .int (nI n)]))] ++ va_pl LP pf) s.heap.size (fun rv_ rw_ => rv_ = none ∧ rw_ = ([(w0, .inr (6, [.ref w1, .ref w2, .int (nI N)])), (w1, .inl (cI, 4096, .inl ((goF N ne ei gv sk pg pc wt v (f, g) (2 * n)).1))), (w2, .inl (cJ, 4096, .inr (.inl ((goF N ne ei gv sk pg pc wt v (f, g) (2 * n)).2)))), (h0, .inr (4, [.ref la, .int pc])), (la, .inr (0, [.int mo, .ref ea, .int (nI n)]))] ++ va_pl LP pf))) args s 0 0 (va_A ([(w0, .inr (6, [.ref w1, .ref w2, .int (nI N)])), (w1, .inl (cI, 4096, .inl f)), (w2, .inl (cJ, 4096, .inr (.inl g))), (h0, .inr (4, [.ref la, .int pc])), (la, .inr (0, [.int mo, .ref ea, .int (nI n)]))] ++ va_pl LP pf) s.heap.size)) (F0 m 3 ls []) := by
    intro fu
    induction fu with
    | zero => intro k x y hmu; exact absurd hmu (Nat.not_lt_zero _)
    | succ fu ih_3 =>
      intro k x y hmu_3 hk ex ey H locs hP hD hS ls hl
      refine lv_iload hx hb dX5_goOnFrom_3 (lv_at hl 4 rfl) ?_
      refine lv_iconst (v := 2) hx hb dX5_goOnFrom_5 (by decide) ?_
      refine lv_aload_n hx hb dX5_goOnFrom_6 rfl (lv_at hl 2 rfl) ?_
      refine kGoR (va_runV (As := []) (rest := [.int 2, .int (nI k)]) ⟨hx, hb, hml, hown, hts⟩ (c_X3_size l D cI cJ cZ cO h0 la ea pc mo n al cap LP pf ad ne ei gv sk pg (by first | assumption | omega | decide) (by first | assumption | omega | decide) (by first | assumption | omega | decide)) (cwV 0 hts gX5_goOnFrom_X3_size rfl rfl rfl (by decide +kernel) ⟨Nat.le_of_ble_eq_true rfl, Nat.le_of_ble_eq_true rfl⟩) (kPreVR (ci := 4) (q0 := 0) hK (hP.part [3, 4] rfl) rfl rfl rfl) rfl rfl hl.1 rfl (lv_room (Nat.le_of_ble_eq_true rfl)) dX5_goOnFrom_7 ⟨Nat.le_of_ble_eq_true rfl, Nat.le_of_ble_eq_true rfl⟩) (fun v_1 hv_1 => ?_)
      obtain rfl := hv_1
      refine W.eq (g2 := F0 m 10 ls [.int (nI n), .int 2, .int (nI k)]) rfl ?_
      refine lv_imul hx hb dX5_goOnFrom_10 ?_
      refine lv_topi (fun nv_2 ev_2 => ?_)
      obtain rfl : nv_2 = nI (2 * n) := ev_2.trans (pk_mul 2 n)
      refine lv_icmp_ge (tgt := 75) hx hb dX5_goOnFrom_11 (by decide) (fun c_11 => ?_) (fun c_11 => ?_)
      · skip
        have nc_11 : (2 * n) ≤ k := (nI_leI (a := 2 * n) (b := k) (by omega) (by omega)).mp c_11
        have e12 : k = 2 * n := by omega
        have ew_0 : (x : Nat → Int32) = (goF N ne ei gv sk pg pc wt v (f, g) (2 * n)).1 := by first | rfl | (rw [ex, e12]; done) | (rw [em, e12]; done) | (rw [ey, e12]; done) | (rw [e12]; done) | (simp [hk, ex, ey, c_11, nc_11]; done) | (simp_all []; done)
        have ew_1 : (y : Nat → Int64) = (goF N ne ei gv sk pg pc wt v (f, g) (2 * n)).2 := by first | rfl | (rw [ex, e12]; done) | (rw [em, e12]; done) | (rw [ey, e12]; done) | (rw [e12]; done) | (simp [hk, ex, ey, c_11, nc_11]; done) | (simp_all []; done)
        exact kRetV hx hb hr hlk dX5_goOnFrom_75 hP hD hS (Nat.le_of_ble_eq_true rfl) (Nat.le_of_ble_eq_true rfl) ⟨rfl, (kw2 (fun (z_0 : Nat → Int32) (z_1 : Nat → Int64) => (([(w0, .inr (6, [.ref w1, .ref w2, .int (nI N)])), (w1, .inl (cI, 4096, .inl z_0)), (w2, .inl (cJ, 4096, .inr (.inl z_1))), (h0, .inr (4, [.ref la, .int pc])), (la, .inr (0, [.int mo, .ref ea, .int (nI n)]))] ++ va_pl LP pf) : va_W)) ew_0 ew_1)⟩
      · skip
        have nc_11 : ¬ (2 * n) ≤ k := (not_congr (nI_leI (a := 2 * n) (b := k) (by omega) (by omega))).mp c_11
        refine lv_aload_n hx hb dX5_goOnFrom_14 rfl (lv_at hl 2 rfl) ?_
        refine lv_iload hx hb dX5_goOnFrom_15 (lv_at hl 4 rfl) ?_
        refine kGoR (va_runV (As := [.int (nI k)]) (rest := []) ⟨hx, hb, hml, hown, hts⟩ (c_X3_pieceOf_a l D cI cJ cZ cO h0 la ea pc mo n al cap LP pf ad ne ei gv sk pg k (by first | assumption | omega | decide) (by first | assumption | omega | decide) (by first | assumption | omega | decide) (by first | assumption | omega | decide)) (cwV 1 hts gX5_goOnFrom_X3_pieceOf rfl rfl rfl (by decide +kernel) ⟨Nat.le_of_ble_eq_true rfl, Nat.le_of_ble_eq_true rfl⟩) (kPreVR (ci := 4) (q0 := 0) hK (hP.part [3, 4] rfl) rfl rfl rfl) rfl rfl hl.1 rfl (lv_room (Nat.le_of_ble_eq_true rfl)) dX5_goOnFrom_17 ⟨Nat.le_of_ble_eq_true rfl, Nat.le_of_ble_eq_true rfl⟩) (fun v_3 hv_3 => ?_)
        obtain rfl := hv_3
        refine W.eq (g2 := F0 m 20 ls [.ref (ad (k / 2))]) rfl ?_
        refine lv_astore (lv' := [(5, .ref (ad (k / 2))), (0, .ref w0), (1, .int (nI v)), (2, .ref h0), (3, .int wt), (4, .int (nI k))]) hx hb dX5_goOnFrom_20 hl (by decide) rfl (fun ls hl => ?_)
        refine lv_aload hx hb dX5_goOnFrom_22 (lv_at hl 0 rfl) ?_
        refine lv_ifnull hx hb dX5_goOnFrom_24 ?_
        refine lv_iload hx hb dX5_goOnFrom_27 (lv_at hl 5 rfl) ?_
        refine lv_iconst (v := 1) hx hb dX5_goOnFrom_29 (by decide) ?_
        refine lv_ishr hx hb dX5_goOnFrom_30 ?_
        refine lv_topi (fun nv_4 ev_4 => ?_)
        obtain rfl : nv_4 = nI (k / 2) := ev_4.trans (pk_shrN (by omega) _ 1 (by decide))
        refine lv_iload_n hx hb dX5_goOnFrom_31 rfl (lv_at hl 4 rfl) ?_
        refine lv_icmp_eq (tgt := 69) hx hb dX5_goOnFrom_32 (by decide) (fun c_32 => ?_) (fun c_32 => ?_)
        · skip
          refine lv_iinc (v := nI (k + 1)) (lv' := [(4, .int (nI (k + 1))), (5, .ref (ad (k / 2))), (0, .ref w0), (1, .int (nI v)), (2, .ref h0), (3, .int wt)]) hx hb dX5_goOnFrom_69 hl (k := 5) rfl (nI_1 _) (by decide) rfl (fun ls hl => ?_)
          refine lv_goto (tgt := 3) hx hb dX5_goOnFrom_72 (by decide) ?_
          exact ih_3  (k + 1) x y (by omega) (by first | omega | assumption) (by first | (subst ex; subst ey; simp [goF, c_11, nc_11, c_32]; done) | (subst ex; subst ey; rw [goF, if_neg c_32, if_pos c_41])) (by first | (subst ex; subst ey; simp [goF, c_11, nc_11, c_32]; done) | (subst ex; subst ey; rw [goF, if_neg c_32, if_pos c_41])) _ _ hP hD hS _ (lv_sub hl [2, 3, 4, 5, 0] rfl)
        · skip
          refine lv_aload hx hb dX5_goOnFrom_35 (lv_at hl 0 rfl) ?_
          refine lv_iload_n hx hb dX5_goOnFrom_37 rfl (lv_at hl 2 rfl) ?_
          refine kGoR (va_runV (As := [.int (nI v)]) (rest := []) ⟨hx, hb, hml, hown, hts⟩ (c_X1_isOpenTo l D cI cJ cZ cO (ad (k / 2)) (ne (k / 2)) (ei (k / 2)) (gv (k / 2)) (sk (k / 2)) (pg (k / 2)) (nI v)) (cwV 1 hts gX5_goOnFrom_X1_isOpenTo rfl rfl rfl (by decide +kernel) ⟨Nat.le_of_ble_eq_true rfl, Nat.le_of_ble_eq_true rfl⟩) (kPreVR (ci := 2) (q0 := 0) hK (kPiece hP (hE (k / 2) (by omega)).2.1 (hE (k / 2) (by omega)).2.2) rfl rfl rfl) rfl rfl hl.1 rfl (lv_room (Nat.le_of_ble_eq_true rfl)) dX5_goOnFrom_38 ⟨Nat.le_of_ble_eq_true rfl, Nat.le_of_ble_eq_true rfl⟩) (fun v_p hv_p => ?_)
          obtain rfl := hv_p
          refine W.eq (g2 := F0 m 41 ls [.int (k01 (openB (ne (k / 2)) (ei (k / 2)) (nI v)))]) rfl ?_
          refine lv_if_eq (tgt := 69) hx hb dX5_goOnFrom_41 (by decide) (fun c_41 => ?_) (fun c_41 => ?_)
          · skip
            have c_41 := k01_z c_41
            refine lv_iinc (v := nI (k + 1)) (lv' := [(4, .int (nI (k + 1))), (5, .ref (ad (k / 2))), (0, .ref w0), (1, .int (nI v)), (2, .ref h0), (3, .int wt)]) hx hb dX5_goOnFrom_69 hl (k := 5) rfl (nI_1 _) (by decide) rfl (fun ls hl => ?_)
            refine lv_goto (tgt := 3) hx hb dX5_goOnFrom_72 (by decide) ?_
            exact ih_3  (k + 1) x y (by omega) (by first | omega | assumption) (by first | (subst ex; subst ey; simp [goF, c_11, nc_11, c_32, c_41]; done) | (subst ex; subst ey; rw [goF, if_neg c_32, if_pos c_41])) (by first | (subst ex; subst ey; simp [goF, c_11, nc_11, c_32, c_41]; done) | (subst ex; subst ey; rw [goF, if_neg c_32, if_pos c_41])) _ _ hP hD hS _ (lv_sub hl [2, 3, 4, 5, 0] rfl)
          · skip
            have c_41 := k01_n c_41
            refine lv_aload_n hx hb dX5_goOnFrom_44 rfl (lv_at hl 1 rfl) ?_
            refine lv_iload_n hx hb dX5_goOnFrom_45 rfl (lv_at hl 2 rfl) ?_
            refine lv_iload_n hx hb dX5_goOnFrom_46 rfl (lv_at hl 2 rfl) ?_
            refine lv_aload hx hb dX5_goOnFrom_47 (lv_at hl 0 rfl) ?_
            refine lv_iload hx hb dX5_goOnFrom_49 (lv_at hl 5 rfl) ?_
            refine kGoR (va_runSN (As := [.int (nI k)]) (rest := [.ref (ad (k / 2)), .int (nI v), .int (nI v), .ref w0]) ⟨hx, hb, hml, hown, hts⟩ (c_X7_isSkimmed l D cI cJ cZ cO (nI k) ) ⟨va_cnB 1 hts gX5_goOnFrom_X7_isSkimmed_n49 rfl rfl rfl hK.2.2.1 hw_iX7 (by decide +kernel) ⟨Nat.le_of_ble_eq_true rfl, Nat.le_of_ble_eq_true rfl⟩, hw_s_X7_isSkimmed, trivial⟩ (kPreSR hK (kPc_sub hP [] rfl)) rfl rfl hl.1 rfl (lv_room (Nat.le_of_ble_eq_true rfl)) dX5_goOnFrom_51 ⟨Nat.le_of_ble_eq_true rfl, Nat.le_of_ble_eq_true rfl⟩) (fun v_5 hv_5 => ?_)
            obtain rfl := hv_5
            refine W.eq (g2 := F0 m 54 ls [.int (k01 (decide ((nI k) &&& 1 = 1))), .ref (ad (k / 2)), .int (nI v), .int (nI v), .ref w0]) rfl ?_
            refine kGoR (va_runV (As := [.int (k01 (decide ((nI k) &&& 1 = 1)))]) (rest := [.int (nI v), .int (nI v), .ref w0]) ⟨hx, hb, hml, hown, hts⟩ (c_X1_brings l D cI cJ cZ cO (ad (k / 2)) (ne (k / 2)) (ei (k / 2)) (gv (k / 2)) (sk (k / 2)) (pg (k / 2)) (decide ((nI k) &&& 1 = 1))) (cwV 1 hts gX5_goOnFrom_X1_brings rfl rfl rfl (by decide +kernel) ⟨Nat.le_of_ble_eq_true rfl, Nat.le_of_ble_eq_true rfl⟩) (kPreVR (ci := 2) (q0 := 0) hK (kPiece hP (hE (k / 2) (by omega)).2.1 (hE (k / 2) (by omega)).2.2) rfl rfl rfl) rfl rfl hl.1 rfl (lv_room (Nat.le_of_ble_eq_true rfl)) dX5_goOnFrom_54 ⟨Nat.le_of_ble_eq_true rfl, Nat.le_of_ble_eq_true rfl⟩) (fun v_p hv_p => ?_)
            obtain rfl := hv_p
            refine W.eq (g2 := F0 m 57 ls [.int (if (decide ((nI k) &&& 1 = 1)) then (sk (k / 2)) else (gv (k / 2))), .int (nI v), .int (nI v), .ref w0]) rfl ?_
            refine lv_ior hx hb dX5_goOnFrom_57 ?_
            refine lv_aload_n hx hb dX5_goOnFrom_58 rfl (lv_at hl 3 rfl) ?_
            refine lv_iload hx hb dX5_goOnFrom_59 (lv_at hl 5 rfl) ?_
            refine kGoR (va_runV (As := [.int (nI k)]) (rest := [.int ((nI v) ||| (if (decide ((nI k) &&& 1 = 1)) then (sk (k / 2)) else (gv (k / 2)))), .int (nI v), .ref w0]) ⟨hx, hb, hml, hown, hts⟩ (c_X3_minutesOf_a l D cI cJ cZ cO h0 la ea pc mo n al cap LP pf ad ne ei gv sk pg k (by first | assumption | omega | decide) (by first | assumption | omega | decide) (by first | assumption | omega | decide) (by first | assumption | omega | decide)) (cwV 1 hts gX5_goOnFrom_X3_minutesOf rfl rfl rfl (by decide +kernel) ⟨Nat.le_of_ble_eq_true rfl, Nat.le_of_ble_eq_true rfl⟩) (kPreVR (ci := 4) (q0 := 0) hK (hP.part [3, 4] rfl) rfl rfl rfl) rfl rfl hl.1 rfl (lv_room (Nat.le_of_ble_eq_true rfl)) dX5_goOnFrom_61 ⟨Nat.le_of_ble_eq_true rfl, Nat.le_of_ble_eq_true rfl⟩) (fun v_6 hv_6 => ?_)
            obtain rfl := hv_6
            refine W.eq (g2 := F0 m 64 ls [.int (timeF (pg (k / 2)) pc (decide (nI k &&& 1 = 1))), .int ((nI v) ||| (if (decide ((nI k) &&& 1 = 1)) then (sk (k / 2)) else (gv (k / 2)))), .int (nI v), .ref w0]) rfl ?_
            refine lv_iload hx hb dX5_goOnFrom_64 (lv_at hl 5 rfl) ?_
            refine kGoQ (cx := [(w0, .inr (6, [.ref w1, .ref w2, .int (nI N)])), (w1, .inl (cI, 4096, .inl x)), (w2, .inl (cJ, 4096, .inr (.inl y)))]) (wr := [(h0, .inr (4, [.ref la, .int pc])), (la, .inr (0, [.int mo, .ref ea, .int (nI n)]))]) (va_runV (As := [.int (nI v), .int ((nI v) ||| (if (decide ((nI k) &&& 1 = 1)) then (sk (k / 2)) else (gv (k / 2)))), .int (timeF (pg (k / 2)) pc (decide (nI k &&& 1 = 1))), .int (nI k)]) (rest := []) ⟨hx, hb, hml, hown, hts⟩ (c_X5_offer l D cI cJ cZ cO w0 w1 w2 N x y v ((nI v) ||| (if (decide ((nI k) &&& 1 = 1)) then (sk (k / 2)) else (gv (k / 2)))) (timeF (pg (k / 2)) pc (decide (nI k &&& 1 = 1))) (nI k) (by first | assumption | omega | decide) (by first | assumption | omega | decide) _) (cwV 4 hts gX5_goOnFrom_X5_offer rfl rfl rfl (by decide +kernel) ⟨Nat.le_of_ble_eq_true rfl, Nat.le_of_ble_eq_true rfl⟩) (kPreV (ci := 6) (q0 := 0) hK (kPl_sub hP [0, 1, 2] rfl) ((kDl_sub hD [0, 1, 2] (by decide) rfl).weaken (fun _ _ _ _ => trivial)) rfl rfl rfl) rfl rfl hl.1 rfl (lv_room (Nat.le_of_ble_eq_true rfl)) dX5_goOnFrom_66 ⟨Nat.le_of_ble_eq_true rfl, Nat.le_of_ble_eq_true rfl⟩) hP hD hS hA [0, 1, 2] [3, 4] rfl rfl (by decide) (by decide) (fun v_7 w_7 H locs hv_7 hP hD hS => ?_)
            obtain ⟨rfl, rfl⟩ := hv_7
            have hP : va_P D vwCl ([(w0, .inr (6, [.ref w1, .ref w2, .int (nI N)])), (w1, .inl (cI, 4096, .inl ((offerF N (x, y) v ((nI v) ||| (if (decide ((nI k) &&& 1 = 1)) then (sk (k / 2)) else (gv (k / 2)))) (timeF (pg (k / 2)) pc (decide (nI k &&& 1 = 1))) (nI k)).1))), (w2, .inl (cJ, 4096, .inr (.inl ((offerF N (x, y) v ((nI v) ||| (if (decide ((nI k) &&& 1 = 1)) then (sk (k / 2)) else (gv (k / 2)))) (timeF (pg (k / 2)) pc (decide (nI k &&& 1 = 1))) (nI k)).2)))), (h0, .inr (4, [.ref la, .int pc])), (la, .inr (0, [.int mo, .ref ea, .int (nI n)]))] ++ va_pl LP pf) H := hP.part [2, 3, 4, 0, 1] rfl
            have hD : va_D _ ([(w0, .inr (6, [.ref w1, .ref w2, .int (nI N)])), (w1, .inl (cI, 4096, .inl ((offerF N (x, y) v ((nI v) ||| (if (decide ((nI k) &&& 1 = 1)) then (sk (k / 2)) else (gv (k / 2)))) (timeF (pg (k / 2)) pc (decide (nI k &&& 1 = 1))) (nI k)).1))), (w2, .inl (cJ, 4096, .inr (.inl ((offerF N (x, y) v ((nI v) ||| (if (decide ((nI k) &&& 1 = 1)) then (sk (k / 2)) else (gv (k / 2)))) (timeF (pg (k / 2)) pc (decide (nI k &&& 1 = 1))) (nI k)).2)))), (h0, .inr (4, [.ref la, .int pc])), (la, .inr (0, [.int mo, .ref ea, .int (nI n)]))] ++ va_pl LP pf) := hD.part [2, 3, 4, 0, 1] (by decide) rfl
            refine W.eq (g2 := F0 m 69 ls []) rfl ?_
            refine lv_iinc (v := nI (k + 1)) (lv' := [(4, .int (nI (k + 1))), (5, .ref (ad (k / 2))), (0, .ref w0), (1, .int (nI v)), (2, .ref h0), (3, .int wt)]) hx hb dX5_goOnFrom_69 hl (k := 5) rfl (nI_1 _) (by decide) rfl (fun ls hl => ?_)
            refine lv_goto (tgt := 3) hx hb dX5_goOnFrom_72 (by decide) ?_
            exact ih_3  (k + 1) ((offerF N (x, y) v ((nI v) ||| (if (decide ((nI k) &&& 1 = 1)) then (sk (k / 2)) else (gv (k / 2)))) (timeF (pg (k / 2)) pc (decide (nI k &&& 1 = 1))) (nI k)).1) ((offerF N (x, y) v ((nI v) ||| (if (decide ((nI k) &&& 1 = 1)) then (sk (k / 2)) else (gv (k / 2)))) (timeF (pg (k / 2)) pc (decide (nI k &&& 1 = 1))) (nI k)).2) (by omega) (by first | omega | assumption) (by first | (subst ex; subst ey; simp [goF, c_11, nc_11, c_32, c_41]; done) | (subst ex; subst ey; rw [goF, if_neg c_32, if_pos c_41])) (by first | (subst ex; subst ey; simp [goF, c_11, nc_11, c_32, c_41]; done) | (subst ex; subst ey; rw [goF, if_neg c_32, if_pos c_41])) _ _ hP hD hS _ (lv_sub hl [2, 3, 4, 5, 0] rfl)
  exact hloop_3 ((2 * n - 0) + 1) 0 f g (Nat.lt_succ_self _) (by first | omega | assumption) (by rfl) (by rfl) _ _ hP hD hS _ (lv_sub hl [1, 2, 3, 4, 0] rfl)

set_option maxHeartbeats 4000000 in
set_option maxRecDepth 100000 in
theorem c_X5_explore (l : Launch) (D : va_G) (cI cJ cZ cO : ClassId) (w0 : Nat) (w1 : Nat) (w2 : Nat) (N0 : Int32) (f : Nat → Int32) (g : Nat → Int64) (h0 : Nat) (la : Nat) (ea : Nat) (pc : Int32) (mo : Int32) (n : Nat) (al : Nat → Option Nat) (cap : Nat) (LP : List Nat) (pf : Nat → va_E) (ad : Nat → Nat) (ne : Nat → Int32) (ei : Nat → Int32) (gv : Nat → Int32) (sk : Nat → Int32) (pg : Nat → Int32) (T : Nat) (K : Nat) (wt : Int32) (hn : n ≤ 14) (hH : shH cO n ea cap al LP pf) (hE : shE n al LP pf ad ne ei gv sk pg) (hT : T ≤ 12) (hK2 : K < 2 ^ T) (hN : 2 ^ T ≤ 4096) : kC l D (kTY cI cJ cZ cO) yX5_explore wsX5_explore 6 133 0 0 [.ref w0, .ref h0, .int (nI T), .int (nI K), .int wt] ([(w0, .inr (6, [.ref w1, .ref w2, .int N0])), (w1, .inl (cI, 4096, .inl f)), (w2, .inl (cJ, 4096, .inr (.inl g))), (h0, .inr (4, [.ref la, .int pc])), (la, .inr (0, [.int mo, .ref ea, .int (nI n)]))] ++ va_pl LP pf) (fun rv_ rw_ => rv_ = none ∧ rw_ = ([(w0, .inr (6, [.ref w1, .ref w2, .int (nI (2 ^ T))])), (w1, .inl (cI, 4096, .inl ((expF (2 ^ T) n ne ei gv sk pg pc wt K (upd (fillF f (2 ^ T)) K 0, vp_updL g K 0) (2 ^ T - K)).1))), (w2, .inl (cJ, 4096, .inr (.inl ((expF (2 ^ T) n ne ei gv sk pg pc wt K (upd (fillF f (2 ^ T)) K 0, vp_updL g K 0) (2 ^ T - K)).2)))), (h0, .inr (4, [.ref la, .int pc])), (la, .inr (0, [.int mo, .ref ea, .int (nI n)]))] ++ va_pl LP pf)) := by
  refine kEnter (cc := cX5_explore) (maxL := 6) (ret := none) (by decide) rfl (Nat.le_of_ble_eq_true rfl) ?_
  intro p e s m args below meth c hx hb hr hml hts hown hlk hnm hK hP hD hS hA ls hl
  have hl : lv_has ls 6 [(0, .ref w0), (1, .ref h0), (2, .int (nI T)), (3, .int (nI K)), (4, .int wt)] := hl
  have hw_m23 := hts (.methodLink RX5 23 Lib.Math.min.name) (by decide +kernel)
  have hw_stmin := hts (.static Lib.Math.min.name) (by decide +kernel)
  have hw_iM := hts (.initialized "java/lang/Math") (by decide +kernel)
  have hw_cMmin := hts (.code Lib.Math.min.name Lib.Math.min.code 2 (some .int)) (by decide +kernel)
  have hw_f19 := hts (.fieldLink RX5 19 "WhatToRead$Ways" "sets" "I") (by decide +kernel)
  have hi_X5 : ∀ w ∈ wsX50, w ∈ wsX5_explore := by decide +kernel
  have hw_f11 := hts (.fieldLink RX5 11 "WhatToRead$Ways" "costs" "[I") (by decide +kernel)
  have hw_f15 := hts (.fieldLink RX5 15 "WhatToRead$Ways" "rows" "[J") (by decide +kernel)
  refine lv_aload_n hx hb dX5_explore_0 rfl (lv_at hl 0 rfl) ?_
  refine lv_iconst (v := 1) hx hb dX5_explore_1 (by decide) ?_
  refine lv_iload_n hx hb dX5_explore_2 rfl (lv_at hl 2 rfl) ?_
  refine lv_ishl hx hb dX5_explore_3 ?_
  refine lv_topi (fun nv_1 ev_1 => ?_)
  obtain rfl : nv_1 = nI (2 ^ T) := ev_1.trans (kshl1 T hT)
  refine lv_sipush (v := 4096) hx hb dX5_explore_4 (by decide) ?_
  refine va_mmin hx hb (by rw [hml]; exact hl.1.symm) hown hw_m23 hw_stmin hw_iM hw_cMmin (Nat.le_of_ble_eq_true rfl) (Nat.le_of_ble_eq_true rfl) (Nat.le_of_ble_eq_true rfl) (Nat.le_of_ble_eq_true rfl) dX5_explore_7 ?_
  refine W.eq (g2 := F0 m 10 ls [.int (kmin (nI (2 ^ T)) 4096), .ref w0]) rfl ?_
  refine lv_topi (fun nv_2 ev_2 => ?_)
  obtain rfl : nv_2 = nI (2 ^ T) := ev_2.trans (kmin_nI (b := 4096) (by decide) hN)
  refine va_put (D := D) (ci := 6) (v := .int (nI (2 ^ T))) (ty := .int) (C := RX5) (T := TX5) (N := 3) hx hb hts hi_X5 tyX5 tyX5_ok nmX5 hown hK.1 hP hD hS 0 rfl rfl 2 (by decide) hw_f19 (fun _ h9 => h9) rfl (by decide +kernel) rfl rfl (Nat.le_of_ble_eq_true rfl) dX5_explore_10 (fun H locs hP hD hS => ?_)
  have hP : va_P D vwCl ([(w0, .inr (6, [.ref w1, .ref w2, .int (nI (2 ^ T))])), (w1, .inl (cI, 4096, .inl f)), (w2, .inl (cJ, 4096, .inr (.inl g))), (h0, .inr (4, [.ref la, .int pc])), (la, .inr (0, [.int mo, .ref ea, .int (nI n)]))] ++ va_pl LP pf) H := hP
  have hD : va_D _ ([(w0, .inr (6, [.ref w1, .ref w2, .int (nI (2 ^ T))])), (w1, .inl (cI, 4096, .inl f)), (w2, .inl (cJ, 4096, .inr (.inl g))), (h0, .inr (4, [.ref la, .int pc])), (la, .inr (0, [.int mo, .ref ea, .int (nI n)]))] ++ va_pl LP pf) := hD
  refine lv_iconst (v := 0) hx hb dX5_explore_13 (by decide) ?_
  refine lv_istore (lv' := [(5, .int 0), (0, .ref w0), (1, .ref h0), (2, .int (nI T)), (3, .int (nI K)), (4, .int wt)]) hx hb dX5_explore_14 hl (by decide) rfl (fun ls hl => ?_)
  have hloop_16 : ∀ (fu : Nat) (i : Nat) (x : Nat → Int32), 2 ^ T - i < fu → i ≤ 2 ^ T → x = fillF f i → ∀ (H : Heap) (locs : List Loc), va_P D vwCl ([(w0, .inr (6, [.ref w1, .ref w2, .int (nI (2 ^ T))])), (w1, .inl (cI, 4096, .inl x)), (w2, .inl (cJ, 4096, .inr (.inl g))), (h0, .inr (4, [.ref la, .int pc])), (la, .inr (0, [.int mo, .ref ea, .int (nI n)]))] ++ va_pl LP pf) H → va_D (va_A ([(w0, .inr (6, [.ref w1, .ref w2, .int N0])), (w1, .inl (cI, 4096, .inl f)), (w2, .inl (cJ, 4096, .inr (.inl g))), (h0, .inr (4, [.ref la, .int pc])), (la, .inr (0, [.int mo, .ref ea, .int (nI n)]))] ++ va_pl LP pf) s.heap.size) ([(w0, .inr (6, [.ref w1, .ref w2, .int (nI (2 ^ T))])), (w1, .inl (cI, 4096, .inl x)), (w2, .inl (cJ, 4096, .inr (.inl g))), (h0, .inr (4, [.ref la, .int pc])), (la, .inr (0, [.int mo, .ref ea, .int (nI n)]))] ++ va_pl LP pf) → va_S (va_A ([(w0, .inr (6, [.ref w1, .ref w2, .int N0])), (w1, .inl (cI, 4096, .inl f)), (w2, .inl (cJ, 4096, .inr (.inl g))), (h0, .inr (4, [.ref la, .int pc])), (la, .inr (0, [.int mo, .ref ea, .int (nI n)]))] ++ va_pl LP pf) s.heap.size) s.heap H locs → ∀ ls : Array Slot, lv_has ls 6 [(0, .ref w0), (1, .ref h0), (2, .int (nI T)), (3, .int (nI K)), (4, .int wt), (5, .int (nI i))] → W p l e ({ frames := 6, cells := 0, slots := 0, locals := 133 }) s m args below meth c H locs 0 0 (MQ below (kQ D ([(w0, .inr (6, [.ref w1, .ref w2, .int N0])), (w1, .inl (cI, 4096, .inl f)), (w2, .inl (cJ, 4096, .inr (.inl g))), (h0, .inr (4, [.ref la, .int pc])), (la, .inr (0, [.int mo, .ref ea, .int (nI n)]))] ++ va_pl LP pf) s.heap.size (fun rv_ rw_ => rv_ = none ∧ rw_ = ([(w0, .inr (6, [.ref w1, .ref w2, .int (nI (2 ^ T))])), (w1, .inl (cI, 4096, .inl ((expF (2 ^ T) n ne ei gv sk pg pc wt K (upd (fillF f (2 ^ T)) K 0, vp_updL g K 0) (2 ^ T - K)).1))), (w2, .inl (cJ, 4096, .inr (.inl ((expF (2 ^ T) n ne ei gv sk pg pc wt K (upd (fillF f (2 ^ T)) K 0, vp_updL g K 0) (2 ^ T - K)).2)))), (h0, .inr (4, [.ref la, .int pc])), (la, .inr (0, [.int mo, .ref ea, .int (nI n)]))] ++ va_pl LP pf))) args s 0 0 (va_A ([(w0, .inr (6, [.ref w1, .ref w2, .int N0])), (w1, .inl (cI, 4096, .inl f)), (w2, .inl (cJ, 4096, .inr (.inl g))), (h0, .inr (4, [.ref la, .int pc])), (la, .inr (0, [.int mo, .ref ea, .int (nI n)]))] ++ va_pl LP pf) s.heap.size)) (F0 m 16 ls []) := by
    intro fu
    induction fu with
    | zero => intro i x hmu; exact absurd hmu (Nat.not_lt_zero _)
    | succ fu ih_16 =>
      intro i x hmu_16 hi ex H locs hP hD hS ls hl
      refine lv_iload hx hb dX5_explore_16 (lv_at hl 5 rfl) ?_
      refine lv_aload_n hx hb dX5_explore_18 rfl (lv_at hl 0 rfl) ?_
      refine va_get (D := D) (ci := 6) (v := .int (nI (2 ^ T))) (C := RX5) (T := TX5) (N := 3) hx hb hts hi_X5 hown hK.1 hP 0 rfl rfl 2 (by decide) hw_f19 (fun _ h9 => h9) rfl dX5_explore_19 ?_
      refine lv_icmp_ge (tgt := 39) hx hb dX5_explore_22 (by decide) (fun c_22 => ?_) (fun c_22 => ?_)
      · skip
        have nc_22 : (2 ^ T) ≤ i := (nI_leI (a := 2 ^ T) (b := i) (by omega) (by omega)).mp c_22
        have e12 : i = 2 ^ T := by omega
        refine lv_iload_n hx hb dX5_explore_39 rfl (lv_at hl 3 rfl) ?_
        refine lv_if_lt (tgt := 51) hx hb dX5_explore_40 (by decide) (fun c_40 => ?_) (fun c_40 => ?_)
        · exact absurd c_40 (nI_pos (by omega))
        · skip
          refine lv_iload_n hx hb dX5_explore_43 rfl (lv_at hl 3 rfl) ?_
          refine lv_aload_n hx hb dX5_explore_44 rfl (lv_at hl 0 rfl) ?_
          refine va_get (D := D) (ci := 6) (v := .int (nI (2 ^ T))) (C := RX5) (T := TX5) (N := 3) hx hb hts hi_X5 hown hK.1 hP 0 rfl rfl 2 (by decide) hw_f19 (fun _ h9 => h9) rfl dX5_explore_45 ?_
          refine lv_icmp_lt (tgt := 52) hx hb dX5_explore_48 (by decide) (fun c_48 => ?_) (fun c_48 => ?_)
          · skip
            refine lv_aload_n hx hb dX5_explore_52 rfl (lv_at hl 0 rfl) ?_
            refine va_get (D := D) (ci := 6) (v := .ref w1) (C := RX5) (T := TX5) (N := 3) hx hb hts hi_X5 hown hK.1 hP 0 rfl rfl 0 (by decide) hw_f11 (fun _ h9 => h9) rfl dX5_explore_53 ?_
            refine lv_iload_n hx hb dX5_explore_56 rfl (lv_at hl 3 rfl) ?_
            refine lv_iconst (v := 0) hx hb dX5_explore_57 (by decide) ?_
            refine va_iast hx hb hK.1 hP hD hS 1 0 rfl rfl (vp_in_nI (by omega) (by omega)) dX5_explore_58 (fun H locs hP hD hS => ?_)
            rw [nI_clamp (by omega)] at hP hD
            have hP : va_P D vwCl ([(w0, .inr (6, [.ref w1, .ref w2, .int (nI (2 ^ T))])), (w1, .inl (cI, 4096, .inl (upd x K 0))), (w2, .inl (cJ, 4096, .inr (.inl g))), (h0, .inr (4, [.ref la, .int pc])), (la, .inr (0, [.int mo, .ref ea, .int (nI n)]))] ++ va_pl LP pf) H := hP
            have hD : va_D _ ([(w0, .inr (6, [.ref w1, .ref w2, .int (nI (2 ^ T))])), (w1, .inl (cI, 4096, .inl (upd x K 0))), (w2, .inl (cJ, 4096, .inr (.inl g))), (h0, .inr (4, [.ref la, .int pc])), (la, .inr (0, [.int mo, .ref ea, .int (nI n)]))] ++ va_pl LP pf) := hD
            refine lv_aload_n hx hb dX5_explore_59 rfl (lv_at hl 0 rfl) ?_
            refine va_get (D := D) (ci := 6) (v := .ref w2) (C := RX5) (T := TX5) (N := 3) hx hb hts hi_X5 hown hK.1 hP 0 rfl rfl 1 (by decide) hw_f15 (fun _ h9 => h9) rfl dX5_explore_60 ?_
            refine lv_iload_n hx hb dX5_explore_63 rfl (lv_at hl 3 rfl) ?_
            refine lv_lconst (v := 0) hx hb dX5_explore_64 (by decide) ?_
            refine va_last hx hb hK.1 hP hD hS 2 1 rfl rfl (vp_in_nI (by omega) (by omega)) dX5_explore_65 (fun H locs hP hD hS => ?_)
            rw [nI_clamp (by omega)] at hP hD
            have hP : va_P D vwCl ([(w0, .inr (6, [.ref w1, .ref w2, .int (nI (2 ^ T))])), (w1, .inl (cI, 4096, .inl (upd x K 0))), (w2, .inl (cJ, 4096, .inr (.inl (vp_updL g K 0)))), (h0, .inr (4, [.ref la, .int pc])), (la, .inr (0, [.int mo, .ref ea, .int (nI n)]))] ++ va_pl LP pf) H := hP
            have hD : va_D _ ([(w0, .inr (6, [.ref w1, .ref w2, .int (nI (2 ^ T))])), (w1, .inl (cI, 4096, .inl (upd x K 0))), (w2, .inl (cJ, 4096, .inr (.inl (vp_updL g K 0)))), (h0, .inr (4, [.ref la, .int pc])), (la, .inr (0, [.int mo, .ref ea, .int (nI n)]))] ++ va_pl LP pf) := hD
            refine lv_iload_n hx hb dX5_explore_66 rfl (lv_at hl 3 rfl) ?_
            refine lv_istore (lv' := [(5, .int (nI K)), (0, .ref w0), (1, .ref h0), (2, .int (nI T)), (3, .int (nI K)), (4, .int wt)]) hx hb dX5_explore_67 hl (by decide) rfl (fun ls hl => ?_)
            have hloop_69 : ∀ (fu : Nat) (i : Nat) (x : Nat → Int32) (y : Nat → Int64), 2 ^ T - K - i < fu → i ≤ 2 ^ T - K → x = (expF (2 ^ T) n ne ei gv sk pg pc wt K (upd (fillF f (2 ^ T)) K 0, vp_updL g K 0) i).1 → y = (expF (2 ^ T) n ne ei gv sk pg pc wt K (upd (fillF f (2 ^ T)) K 0, vp_updL g K 0) i).2 → ∀ (H : Heap) (locs : List Loc), va_P D vwCl ([(w0, .inr (6, [.ref w1, .ref w2, .int (nI (2 ^ T))])), (w1, .inl (cI, 4096, .inl x)), (w2, .inl (cJ, 4096, .inr (.inl y))), (h0, .inr (4, [.ref la, .int pc])), (la, .inr (0, [.int mo, .ref ea, .int (nI n)]))] ++ va_pl LP pf) H → va_D (va_A ([(w0, .inr (6, [.ref w1, .ref w2, .int N0])), (w1, .inl (cI, 4096, .inl f)), (w2, .inl (cJ, 4096, .inr (.inl g))), (h0, .inr (4, [.ref la, .int pc])), (la, .inr (0, [.int mo, .ref ea, .int (nI n)]))] ++ va_pl LP pf) s.heap.size) ([(w0, .inr (6, [.ref w1, .ref w2, .int (nI (2 ^ T))])), (w1, .inl (cI, 4096, .inl x)), (w2, .inl (cJ, 4096, .inr (.inl y))), (h0, .inr (4, [.ref la, .int pc])), (la, .inr (0, [.int mo, .ref ea, .int (nI n)]))] ++ va_pl LP pf) → va_S (va_A ([(w0, .inr (6, [.ref w1, .ref w2, .int N0])), (w1, .inl (cI, 4096, .inl f)), (w2, .inl (cJ, 4096, .inr (.inl g))), (h0, .inr (4, [.ref la, .int pc])), (la, .inr (0, [.int mo, .ref ea, .int (nI n)]))] ++ va_pl LP pf) s.heap.size) s.heap H locs → ∀ ls : Array Slot, lv_has ls 6 [(0, .ref w0), (1, .ref h0), (2, .int (nI T)), (3, .int (nI K)), (4, .int wt), (5, .int (nI (K + i)))] → W p l e ({ frames := 6, cells := 0, slots := 0, locals := 133 }) s m args below meth c H locs 0 0 (MQ below (kQ D ([(w0, .inr (6, [.ref w1, .ref w2, .int N0])), (w1, .inl (cI, 4096, .inl f)), (w2, .inl (cJ, 4096, .inr (.inl g))), (h0, .inr (4, [.ref la, .int pc])), (la, .inr (0, [.int mo, .ref ea, .int (nI n)]))] ++ va_pl LP pf) s.heap.size (fun rv_ rw_ => rv_ = none ∧ rw_ = ([(w0, .inr (6, [.ref w1, .ref w2, .int (nI (2 ^ T))])), (w1, .inl (cI, 4096, .inl ((expF (2 ^ T) n ne ei gv sk pg pc wt K (upd (fillF f (2 ^ T)) K 0, vp_updL g K 0) (2 ^ T - K)).1))), (w2, .inl (cJ, 4096, .inr (.inl ((expF (2 ^ T) n ne ei gv sk pg pc wt K (upd (fillF f (2 ^ T)) K 0, vp_updL g K 0) (2 ^ T - K)).2)))), (h0, .inr (4, [.ref la, .int pc])), (la, .inr (0, [.int mo, .ref ea, .int (nI n)]))] ++ va_pl LP pf))) args s 0 0 (va_A ([(w0, .inr (6, [.ref w1, .ref w2, .int N0])), (w1, .inl (cI, 4096, .inl f)), (w2, .inl (cJ, 4096, .inr (.inl g))), (h0, .inr (4, [.ref la, .int pc])), (la, .inr (0, [.int mo, .ref ea, .int (nI n)]))] ++ va_pl LP pf) s.heap.size)) (F0 m 69 ls []) := by
              intro fu
              induction fu with
              | zero => intro i x y hmu; exact absurd hmu (Nat.not_lt_zero _)
              | succ fu ih_69 =>
                intro i x y hmu_69 hi ex ey H locs hP hD hS ls hl
                refine lv_iload hx hb dX5_explore_69 (lv_at hl 5 rfl) ?_
                refine lv_aload_n hx hb dX5_explore_71 rfl (lv_at hl 0 rfl) ?_
                refine va_get (D := D) (ci := 6) (v := .int (nI (2 ^ T))) (C := RX5) (T := TX5) (N := 3) hx hb hts hi_X5 hown hK.1 hP 0 rfl rfl 2 (by decide) hw_f19 (fun _ h9 => h9) rfl dX5_explore_72 ?_
                refine lv_icmp_ge (tgt := 104) hx hb dX5_explore_75 (by decide) (fun c_75 => ?_) (fun c_75 => ?_)
                · skip
                  have nc_75 : (2 ^ T) ≤ (K + i) := (nI_leI (a := 2 ^ T) (b := K + i) (by omega) (by omega)).mp c_75
                  have e12 : i = 2 ^ T - K := by omega
                  have ew_0 : (x : Nat → Int32) = (expF (2 ^ T) n ne ei gv sk pg pc wt K (upd (fillF f (2 ^ T)) K 0, vp_updL g K 0) (2 ^ T - K)).1 := by first | rfl | (rw [ex, e12]; done) | (rw [em, e12]; done) | (rw [ey, e12]; done) | (rw [e12]; done) | (simp [hi, ex, c_22, nc_22, c_40, c_48, hi, ex, ey, c_75, nc_75]; done) | (simp_all []; done)
                  have ew_1 : (y : Nat → Int64) = (expF (2 ^ T) n ne ei gv sk pg pc wt K (upd (fillF f (2 ^ T)) K 0, vp_updL g K 0) (2 ^ T - K)).2 := by first | rfl | (rw [ex, e12]; done) | (rw [em, e12]; done) | (rw [ey, e12]; done) | (rw [e12]; done) | (simp [hi, ex, c_22, nc_22, c_40, c_48, hi, ex, ey, c_75, nc_75]; done) | (simp_all []; done)
                  exact kRetV hx hb hr hlk dX5_explore_104 hP hD hS (Nat.le_of_ble_eq_true rfl) (Nat.le_of_ble_eq_true rfl) ⟨rfl, (kw2 (fun (z_0 : Nat → Int32) (z_1 : Nat → Int64) => (([(w0, .inr (6, [.ref w1, .ref w2, .int (nI (2 ^ T))])), (w1, .inl (cI, 4096, .inl z_0)), (w2, .inl (cJ, 4096, .inr (.inl z_1))), (h0, .inr (4, [.ref la, .int pc])), (la, .inr (0, [.int mo, .ref ea, .int (nI n)]))] ++ va_pl LP pf) : va_W)) ew_0 ew_1)⟩
                · skip
                  have nc_75 : ¬ (2 ^ T) ≤ (K + i) := (not_congr (nI_leI (a := 2 ^ T) (b := K + i) (by omega) (by omega))).mp c_75
                  refine lv_aload_n hx hb dX5_explore_78 rfl (lv_at hl 0 rfl) ?_
                  refine va_get (D := D) (ci := 6) (v := .ref w1) (C := RX5) (T := TX5) (N := 3) hx hb hts hi_X5 hown hK.1 hP 0 rfl rfl 0 (by decide) hw_f11 (fun _ h9 => h9) rfl dX5_explore_79 ?_
                  refine lv_iload hx hb dX5_explore_82 (lv_at hl 5 rfl) ?_
                  refine va_iald hx hb hK.1 hP 1 0 rfl rfl (vp_in_nI (by omega) (by omega)) dX5_explore_84 ?_
                  refine lv_topi (fun nv_3 ev_3 => ?_)
                  obtain rfl : nv_3 = x (K + i) := by rw [ev_3, nI_clamp (by omega)]
                  refine lv_iconst (v := (-1)) hx hb dX5_explore_85 (by decide) ?_
                  refine lv_icmp_eq (tgt := 98) hx hb dX5_explore_86 (by decide) (fun c_86 => ?_) (fun c_86 => ?_)
                  · skip
                    refine lv_iinc (v := nI ((K + i) + 1)) (lv' := [(5, .int (nI ((K + i) + 1))), (0, .ref w0), (1, .ref h0), (2, .int (nI T)), (3, .int (nI K)), (4, .int wt)]) hx hb dX5_explore_98 hl (k := 5) rfl (nI_1 _) (by decide) rfl (fun ls hl => ?_)
                    refine lv_goto (tgt := 69) hx hb dX5_explore_101 (by decide) ?_
                    exact ih_69  (i + 1) x y (by omega) (by first | omega | assumption) (by subst ex; subst ey; simp [expF, c_22, nc_22, c_40, c_48, c_75, nc_75, c_86]) (by subst ex; subst ey; simp [expF, c_22, nc_22, c_40, c_48, c_75, nc_75, c_86]) _ _ hP hD hS _ (lv_sub hl [1, 2, 3, 4, 5, 0] rfl)
                  · skip
                    refine lv_aload_n hx hb dX5_explore_89 rfl (lv_at hl 0 rfl) ?_
                    refine lv_iload hx hb dX5_explore_90 (lv_at hl 5 rfl) ?_
                    refine lv_aload_n hx hb dX5_explore_92 rfl (lv_at hl 1 rfl) ?_
                    refine lv_iload hx hb dX5_explore_93 (lv_at hl 4 rfl) ?_
                    refine kGoP (cx := [(w0, .inr (6, [.ref w1, .ref w2, .int (nI (2 ^ T))])), (w1, .inl (cI, 4096, .inl x)), (w2, .inl (cJ, 4096, .inr (.inl y))), (h0, .inr (4, [.ref la, .int pc])), (la, .inr (0, [.int mo, .ref ea, .int (nI n)]))]) (wr := []) (va_runV (As := [.int (nI (K + i)), .ref h0, .int wt]) (rest := []) ⟨hx, hb, hml, hown, hts⟩ (c_X5_goOnFrom l D cI cJ cZ cO w0 w1 w2 (2 ^ T) x y h0 la ea pc mo n al cap LP pf ad ne ei gv sk pg (K + i) wt (by first | assumption | omega | decide) (by first | assumption | omega | decide) (by first | assumption | omega | decide) (by first | assumption | omega | decide) (by first | assumption | omega | decide) _) (cwV 3 hts gX5_explore_X5_goOnFrom rfl rfl rfl (by decide +kernel) ⟨Nat.le_of_ble_eq_true rfl, Nat.le_of_ble_eq_true rfl⟩) (kPreV (ci := 6) (q0 := 0) hK (hP.part [0, 1, 2, 3, 4] rfl) ((hD.part [0, 1, 2, 3, 4] (by decide) rfl).weaken (fun _ _ _ _ => trivial)) rfl rfl rfl) rfl rfl hl.1 rfl (lv_room (Nat.le_of_ble_eq_true rfl)) dX5_explore_95 ⟨Nat.le_of_ble_eq_true rfl, Nat.le_of_ble_eq_true rfl⟩) hP hD hS hA [0, 1, 2, 3, 4] [] rfl rfl (by decide) (by decide) (fun v_4 w_4 H locs hv_4 hP hS => ?_)
                    obtain ⟨rfl, rfl⟩ := hv_4
                    obtain ⟨hP, hD⟩ := hP _ _ rfl
                    have hP : va_P D vwCl ([(w0, .inr (6, [.ref w1, .ref w2, .int (nI (2 ^ T))])), (w1, .inl (cI, 4096, .inl ((goF (2 ^ T) ne ei gv sk pg pc wt (K + i) (x, y) (2 * n)).1))), (w2, .inl (cJ, 4096, .inr (.inl ((goF (2 ^ T) ne ei gv sk pg pc wt (K + i) (x, y) (2 * n)).2)))), (h0, .inr (4, [.ref la, .int pc])), (la, .inr (0, [.int mo, .ref ea, .int (nI n)]))] ++ va_pl LP pf) H := hP.part [0, 1, 2, 3, 4] rfl
                    have hD : va_D _ ([(w0, .inr (6, [.ref w1, .ref w2, .int (nI (2 ^ T))])), (w1, .inl (cI, 4096, .inl ((goF (2 ^ T) ne ei gv sk pg pc wt (K + i) (x, y) (2 * n)).1))), (w2, .inl (cJ, 4096, .inr (.inl ((goF (2 ^ T) ne ei gv sk pg pc wt (K + i) (x, y) (2 * n)).2)))), (h0, .inr (4, [.ref la, .int pc])), (la, .inr (0, [.int mo, .ref ea, .int (nI n)]))] ++ va_pl LP pf) := hD.part [0, 1, 2, 3, 4] (by decide) rfl
                    refine W.eq (g2 := F0 m 98 ls []) rfl ?_
                    refine lv_iinc (v := nI ((K + i) + 1)) (lv' := [(5, .int (nI ((K + i) + 1))), (0, .ref w0), (1, .ref h0), (2, .int (nI T)), (3, .int (nI K)), (4, .int wt)]) hx hb dX5_explore_98 hl (k := 5) rfl (nI_1 _) (by decide) rfl (fun ls hl => ?_)
                    refine lv_goto (tgt := 69) hx hb dX5_explore_101 (by decide) ?_
                    exact ih_69  (i + 1) ((goF (2 ^ T) ne ei gv sk pg pc wt (K + i) (x, y) (2 * n)).1) ((goF (2 ^ T) ne ei gv sk pg pc wt (K + i) (x, y) (2 * n)).2) (by omega) (by first | omega | assumption) (by subst ex; subst ey; simp [expF, c_22, nc_22, c_40, c_48, c_75, nc_75, c_86]) (by subst ex; subst ey; simp [expF, c_22, nc_22, c_40, c_48, c_75, nc_75, c_86]) _ _ hP hD hS _ (lv_sub hl [1, 2, 3, 4, 5, 0] rfl)
            exact hloop_69 ((2 ^ T - K - 0) + 1) 0 (upd x K 0) (vp_updL g K 0) (Nat.lt_succ_self _) (by first | omega | assumption) (by rw [ex, e12]; rfl) (by rfl) _ _ hP hD hS _ (lv_sub hl [1, 2, 3, 4, 5, 0] rfl)
          · exact absurd ((nI_ltI (a := K) (b := 2 ^ T) (by omega) (by omega)).mpr hK2) c_48
      · skip
        have nc_22 : ¬ (2 ^ T) ≤ i := (not_congr (nI_leI (a := 2 ^ T) (b := i) (by omega) (by omega))).mp c_22
        refine lv_aload_n hx hb dX5_explore_25 rfl (lv_at hl 0 rfl) ?_
        refine va_get (D := D) (ci := 6) (v := .ref w1) (C := RX5) (T := TX5) (N := 3) hx hb hts hi_X5 hown hK.1 hP 0 rfl rfl 0 (by decide) hw_f11 (fun _ h9 => h9) rfl dX5_explore_26 ?_
        refine lv_iload hx hb dX5_explore_29 (lv_at hl 5 rfl) ?_
        refine lv_iconst (v := (-1)) hx hb dX5_explore_31 (by decide) ?_
        refine va_iast hx hb hK.1 hP hD hS 1 0 rfl rfl (vp_in_nI (by omega) (by omega)) dX5_explore_32 (fun H locs hP hD hS => ?_)
        rw [nI_clamp (by omega)] at hP hD
        have hP : va_P D vwCl ([(w0, .inr (6, [.ref w1, .ref w2, .int (nI (2 ^ T))])), (w1, .inl (cI, 4096, .inl (upd x i (-1)))), (w2, .inl (cJ, 4096, .inr (.inl g))), (h0, .inr (4, [.ref la, .int pc])), (la, .inr (0, [.int mo, .ref ea, .int (nI n)]))] ++ va_pl LP pf) H := hP
        have hD : va_D _ ([(w0, .inr (6, [.ref w1, .ref w2, .int (nI (2 ^ T))])), (w1, .inl (cI, 4096, .inl (upd x i (-1)))), (w2, .inl (cJ, 4096, .inr (.inl g))), (h0, .inr (4, [.ref la, .int pc])), (la, .inr (0, [.int mo, .ref ea, .int (nI n)]))] ++ va_pl LP pf) := hD
        refine lv_iinc (v := nI (i + 1)) (lv' := [(5, .int (nI (i + 1))), (0, .ref w0), (1, .ref h0), (2, .int (nI T)), (3, .int (nI K)), (4, .int wt)]) hx hb dX5_explore_33 hl (k := 5) rfl (nI_1 _) (by decide) rfl (fun ls hl => ?_)
        refine lv_goto (tgt := 16) hx hb dX5_explore_36 (by decide) ?_
        exact ih_16  (i + 1) (upd x i (-1)) (by omega) (by first | omega | assumption) (by rw [ex]; exact fillF_s f i) _ _ hP hD hS _ (lv_sub hl [1, 2, 3, 4, 5, 0] rfl)
  exact hloop_16 ((2 ^ T - 0) + 1) 0 f (Nat.lt_succ_self _) (by first | omega | assumption) (by exact (fillF_0 f).symm) _ _ hP hD hS _ (lv_sub hl [1, 2, 3, 4, 5, 0] rfl)
