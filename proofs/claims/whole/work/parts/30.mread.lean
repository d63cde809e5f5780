/-! ===== the reference: its readers ===== -/
theorem ksw6 (x : Int32) : ((x.toInt < 0 ∨ 5 < x.toInt) ∧ ¬ x = 0 ∧ ¬ x = 1 ∧ ¬ x = 2 ∧ ¬ x = 3 ∧ ¬ x = 4 ∧ ¬ x = 5) ∨ x = 0 ∨ x = 1 ∨ x = 2 ∨ x = 3 ∨ x = 4 ∨ x = 5 := by
  have e : ∀ k : Nat, k < 2 ^ 31 → x.toInt = (k : Int) → x = nI k := fun k hk h => Int32.toInt_inj.mp (by rw [h, nI_toInt hk])
  by_cases h : x.toInt < 0 ∨ 5 < x.toInt
  · left
    refine ⟨h, ?_, ?_, ?_, ?_, ?_, ?_⟩ <;> (intro q; rw [q] at h; exact absurd h (by decide))
  · right
    rcases (show x.toInt = ((0 : Nat) : Int) ∨ x.toInt = ((1 : Nat) : Int) ∨ x.toInt = ((2 : Nat) : Int) ∨ x.toInt = ((3 : Nat) : Int) ∨ x.toInt = ((4 : Nat) : Int) ∨ x.toInt = ((5 : Nat) : Int) by omega) with q | q | q | q | q | q
    · exact Or.inl (e 0 (by decide) q)
    · exact Or.inr (Or.inl (e 1 (by decide) q))
    · exact Or.inr (Or.inr (Or.inl (e 2 (by decide) q)))
    · exact Or.inr (Or.inr (Or.inr (Or.inl (e 3 (by decide) q))))
    · exact Or.inr (Or.inr (Or.inr (Or.inr (Or.inl (e 4 (by decide) q)))))
    · exact Or.inr (Or.inr (Or.inr (Or.inr (Or.inr (e 5 (by decide) q)))))
theorem ksw26 (x : Int32) : ((x.toInt < 0 ∨ 25 < x.toInt) ∧ ¬ x = 0 ∧ ¬ x = 1 ∧ ¬ x = 2 ∧ ¬ x = 3 ∧ ¬ x = 4 ∧ ¬ x = 5 ∧ ¬ x = 6 ∧ ¬ x = 7 ∧ ¬ x = 8 ∧ ¬ x = 9 ∧ ¬ x = 10 ∧ ¬ x = 11 ∧ ¬ x = 12 ∧ ¬ x = 13 ∧ ¬ x = 14 ∧ ¬ x = 15 ∧ ¬ x = 16 ∧ ¬ x = 17 ∧ ¬ x = 18 ∧ ¬ x = 19 ∧ ¬ x = 20 ∧ ¬ x = 21 ∧ ¬ x = 22 ∧ ¬ x = 23 ∧ ¬ x = 24 ∧ ¬ x = 25) ∨ x = 0 ∨ x = 1 ∨ x = 2 ∨ x = 3 ∨ x = 4 ∨ x = 5 ∨ x = 6 ∨ x = 7 ∨ x = 8 ∨ x = 9 ∨ x = 10 ∨ x = 11 ∨ x = 12 ∨ x = 13 ∨ x = 14 ∨ x = 15 ∨ x = 16 ∨ x = 17 ∨ x = 18 ∨ x = 19 ∨ x = 20 ∨ x = 21 ∨ x = 22 ∨ x = 23 ∨ x = 24 ∨ x = 25 := by
  have e : ∀ k : Nat, k < 2 ^ 31 → x.toInt = (k : Int) → x = nI k := fun k hk h => Int32.toInt_inj.mp (by rw [h, nI_toInt hk])
  by_cases h : x.toInt < 0 ∨ 25 < x.toInt
  · left
    refine ⟨h, ?_, ?_, ?_, ?_, ?_, ?_, ?_, ?_, ?_, ?_, ?_, ?_, ?_, ?_, ?_, ?_, ?_, ?_, ?_, ?_, ?_, ?_, ?_, ?_, ?_, ?_⟩ <;> (intro q; rw [q] at h; exact absurd h (by decide))
  · right
    rcases (show x.toInt = ((0 : Nat) : Int) ∨ x.toInt = ((1 : Nat) : Int) ∨ x.toInt = ((2 : Nat) : Int) ∨ x.toInt = ((3 : Nat) : Int) ∨ x.toInt = ((4 : Nat) : Int) ∨ x.toInt = ((5 : Nat) : Int) ∨ x.toInt = ((6 : Nat) : Int) ∨ x.toInt = ((7 : Nat) : Int) ∨ x.toInt = ((8 : Nat) : Int) ∨ x.toInt = ((9 : Nat) : Int) ∨ x.toInt = ((10 : Nat) : Int) ∨ x.toInt = ((11 : Nat) : Int) ∨ x.toInt = ((12 : Nat) : Int) ∨ x.toInt = ((13 : Nat) : Int) ∨ x.toInt = ((14 : Nat) : Int) ∨ x.toInt = ((15 : Nat) : Int) ∨ x.toInt = ((16 : Nat) : Int) ∨ x.toInt = ((17 : Nat) : Int) ∨ x.toInt = ((18 : Nat) : Int) ∨ x.toInt = ((19 : Nat) : Int) ∨ x.toInt = ((20 : Nat) : Int) ∨ x.toInt = ((21 : Nat) : Int) ∨ x.toInt = ((22 : Nat) : Int) ∨ x.toInt = ((23 : Nat) : Int) ∨ x.toInt = ((24 : Nat) : Int) ∨ x.toInt = ((25 : Nat) : Int) by omega) with q | q | q | q | q | q | q | q | q | q | q | q | q | q | q | q | q | q | q | q | q | q | q | q | q | q
    · exact Or.inl (e 0 (by decide) q)
    · exact Or.inr (Or.inl (e 1 (by decide) q))
    · exact Or.inr (Or.inr (Or.inl (e 2 (by decide) q)))
    · exact Or.inr (Or.inr (Or.inr (Or.inl (e 3 (by decide) q))))
    · exact Or.inr (Or.inr (Or.inr (Or.inr (Or.inl (e 4 (by decide) q)))))
    · exact Or.inr (Or.inr (Or.inr (Or.inr (Or.inr (Or.inl (e 5 (by decide) q))))))
    · exact Or.inr (Or.inr (Or.inr (Or.inr (Or.inr (Or.inr (Or.inl (e 6 (by decide) q)))))))
    · exact Or.inr (Or.inr (Or.inr (Or.inr (Or.inr (Or.inr (Or.inr (Or.inl (e 7 (by decide) q))))))))
    · exact Or.inr (Or.inr (Or.inr (Or.inr (Or.inr (Or.inr (Or.inr (Or.inr (Or.inl (e 8 (by decide) q)))))))))
    · exact Or.inr (Or.inr (Or.inr (Or.inr (Or.inr (Or.inr (Or.inr (Or.inr (Or.inr (Or.inl (e 9 (by decide) q))))))))))
    · exact Or.inr (Or.inr (Or.inr (Or.inr (Or.inr (Or.inr (Or.inr (Or.inr (Or.inr (Or.inr (Or.inl (e 10 (by decide) q)))))))))))
    · exact Or.inr (Or.inr (Or.inr (Or.inr (Or.inr (Or.inr (Or.inr (Or.inr (Or.inr (Or.inr (Or.inr (Or.inl (e 11 (by decide) q))))))))))))
    · exact Or.inr (Or.inr (Or.inr (Or.inr (Or.inr (Or.inr (Or.inr (Or.inr (Or.inr (Or.inr (Or.inr (Or.inr (Or.inl (e 12 (by decide) q)))))))))))))
    · exact Or.inr (Or.inr (Or.inr (Or.inr (Or.inr (Or.inr (Or.inr (Or.inr (Or.inr (Or.inr (Or.inr (Or.inr (Or.inr (Or.inl (e 13 (by decide) q))))))))))))))
    · exact Or.inr (Or.inr (Or.inr (Or.inr (Or.inr (Or.inr (Or.inr (Or.inr (Or.inr (Or.inr (Or.inr (Or.inr (Or.inr (Or.inr (Or.inl (e 14 (by decide) q)))))))))))))))
    · exact Or.inr (Or.inr (Or.inr (Or.inr (Or.inr (Or.inr (Or.inr (Or.inr (Or.inr (Or.inr (Or.inr (Or.inr (Or.inr (Or.inr (Or.inr (Or.inl (e 15 (by decide) q))))))))))))))))
    · exact Or.inr (Or.inr (Or.inr (Or.inr (Or.inr (Or.inr (Or.inr (Or.inr (Or.inr (Or.inr (Or.inr (Or.inr (Or.inr (Or.inr (Or.inr (Or.inr (Or.inl (e 16 (by decide) q)))))))))))))))))
    · exact Or.inr (Or.inr (Or.inr (Or.inr (Or.inr (Or.inr (Or.inr (Or.inr (Or.inr (Or.inr (Or.inr (Or.inr (Or.inr (Or.inr (Or.inr (Or.inr (Or.inr (Or.inl (e 17 (by decide) q))))))))))))))))))
    · exact Or.inr (Or.inr (Or.inr (Or.inr (Or.inr (Or.inr (Or.inr (Or.inr (Or.inr (Or.inr (Or.inr (Or.inr (Or.inr (Or.inr (Or.inr (Or.inr (Or.inr (Or.inr (Or.inl (e 18 (by decide) q)))))))))))))))))))
    · exact Or.inr (Or.inr (Or.inr (Or.inr (Or.inr (Or.inr (Or.inr (Or.inr (Or.inr (Or.inr (Or.inr (Or.inr (Or.inr (Or.inr (Or.inr (Or.inr (Or.inr (Or.inr (Or.inr (Or.inl (e 19 (by decide) q))))))))))))))))))))
    · exact Or.inr (Or.inr (Or.inr (Or.inr (Or.inr (Or.inr (Or.inr (Or.inr (Or.inr (Or.inr (Or.inr (Or.inr (Or.inr (Or.inr (Or.inr (Or.inr (Or.inr (Or.inr (Or.inr (Or.inr (Or.inl (e 20 (by decide) q)))))))))))))))))))))
    · exact Or.inr (Or.inr (Or.inr (Or.inr (Or.inr (Or.inr (Or.inr (Or.inr (Or.inr (Or.inr (Or.inr (Or.inr (Or.inr (Or.inr (Or.inr (Or.inr (Or.inr (Or.inr (Or.inr (Or.inr (Or.inr (Or.inl (e 21 (by decide) q))))))))))))))))))))))
    · exact Or.inr (Or.inr (Or.inr (Or.inr (Or.inr (Or.inr (Or.inr (Or.inr (Or.inr (Or.inr (Or.inr (Or.inr (Or.inr (Or.inr (Or.inr (Or.inr (Or.inr (Or.inr (Or.inr (Or.inr (Or.inr (Or.inr (Or.inl (e 22 (by decide) q)))))))))))))))))))))))
    · exact Or.inr (Or.inr (Or.inr (Or.inr (Or.inr (Or.inr (Or.inr (Or.inr (Or.inr (Or.inr (Or.inr (Or.inr (Or.inr (Or.inr (Or.inr (Or.inr (Or.inr (Or.inr (Or.inr (Or.inr (Or.inr (Or.inr (Or.inr (Or.inl (e 23 (by decide) q))))))))))))))))))))))))
    · exact Or.inr (Or.inr (Or.inr (Or.inr (Or.inr (Or.inr (Or.inr (Or.inr (Or.inr (Or.inr (Or.inr (Or.inr (Or.inr (Or.inr (Or.inr (Or.inr (Or.inr (Or.inr (Or.inr (Or.inr (Or.inr (Or.inr (Or.inr (Or.inr (Or.inl (e 24 (by decide) q)))))))))))))))))))))))))
    · exact Or.inr (Or.inr (Or.inr (Or.inr (Or.inr (Or.inr (Or.inr (Or.inr (Or.inr (Or.inr (Or.inr (Or.inr (Or.inr (Or.inr (Or.inr (Or.inr (Or.inr (Or.inr (Or.inr (Or.inr (Or.inr (Or.inr (Or.inr (Or.inr (Or.inr (e 25 (by decide) q)))))))))))))))))))))))))
def areB (T : Nat) (b : Int32) : Bool := withinB b 0 ((1 <<< (nI T &&& 31)) - 1)
def stpB (P : Nat) (b : Int32) : Bool := withinB b 0 (2 * nI P - 1)
def mtimeF (pg : Nat → Int32) (pa : Int32) (k : Nat) : Int32 := if k % 2 = 0 then pg (k / 2) * pa else (pg (k / 2) * pa + 2) / 3
def canB (ne ei : Nat → Int32) (k : Nat) (v : Int32) : Bool := decide (ne (k / 2) &&& (v ^^^ (-1)) = 0) && (decide (ei (k / 2) = 0) || decide (¬ ei (k / 2) &&& v = 0))
def bhF (im gi sk : Nat → Int32) (T k : Nat) (v : Int32) : Int32 := v ||| closF im (if k % 2 = 0 then gi (k / 2) else sk (k / 2)) T
def nbF (ne ei im gi sk : Nat → Int32) (T : Nat) (wt : Int32) (k : Nat) (v : Int32) : Int32 := if nI (k / 2) = wt then -1 else if canB ne ei k v then (if bhF im gi sk T k v = v then -1 else bhF im gi sk T k v) else -1
def tightB (co st pg : Nat → Int32) (pa : Int32) (k a b : Nat) : Bool := decide (co a + mtimeF pg pa k = co b) && decide (st a + 1 = st b)
def ansB (an : Nat → Int32) (v : Int32) : Nat → Bool
  | 0 => true
  | t + 1 => ansB an v t && (decide (an t = 0) || decide ((v >>> (nI t &&& 31)) &&& 1 = k01 (decide (an t = 1))))
def stateB (im an : Nat → Int32) (T : Nat) (v : Int32) : Bool := decide (closF im v T = v) && ansB an v T
def manyF (im an : Nat → Int32) (T : Nat) : Nat → Nat
  | 0 => 0
  | v + 1 => if stateB im an T (nI v) then manyF im an T v + 1 else manyF im an T v
theorem manyF_le (im an : Nat → Int32) (T : Nat) : ∀ v, manyF im an T v ≤ v
  | 0 => Nat.le_refl _
  | v + 1 => by
    have := manyF_le im an T v
    unfold manyF
    split <;> omega
theorem ansB_no {an : Nat → Int32} {v : Int32} {t : Nat} (h : (decide (an t = 0) || decide ((v >>> (nI t &&& 31)) &&& 1 = k01 (decide (an t = 1)))) = false) : ∀ T, t < T → ansB an v T = false := by
  intro T hT
  induction T with
  | zero => omega
  | succ n ih =>
    unfold ansB
    rcases Nat.lt_or_ge t n with h1 | h1
    · rw [ih h1]; rfl
    · rw [show n = t by omega, h, Bool.and_false]
def rchF (ne ei im gi sk : Nat → Int32) (T : Nat) (v : Int32) : Nat → Int32
  | 0 => v
  | p + 1 => if canB ne ei (2 * p) (rchF ne ei im gi sk T v p) then bhF im gi sk T (2 * p) (rchF ne ei im gi sk T v p) else rchF ne ei im gi sk T v p
def wantF (ne : Nat → Int32) : Nat → Int32
  | 0 => 0
  | p + 1 => wantF ne p ||| ne p
def gvnF (im gi : Nat → Int32) (T : Nat) (kn : Int32) : Nat → Int32
  | 0 => kn
  | p + 1 => gvnF im gi T kn p ||| closF im (gi p) T

set_option maxHeartbeats 4000000 in
set_option maxRecDepth 100000 in
theorem c_X8_in (l : Launch) (D : va_G) (cI cJ cZ cO : ClassId) (v : Int32) (a : Int32) (b : Int32) : kR l D (kTY cI cJ cZ cO) yX8_in wsX8_in 0 0 [.int v, .int a, .int b] [] (fun rv_ => rv_ = some (.int (k01 (withinB v a b)))) := by
  refine kEnterR (cc := cX8_in) (maxL := 3) (ret := (some .boolean)) (by decide) rfl (Nat.le_of_ble_eq_true rfl) ?_
  intro p e s m args below meth c hx hb hr hml hts hown hlk hK hP ls hl
  have hl : lv_has ls 3 [(0, .int v), (1, .int a), (2, .int b)] := hl
  refine lv_iload_n hx hb dX8_in_0 rfl (lv_at hl 0 rfl) ?_
  refine lv_iload_n hx hb dX8_in_1 rfl (lv_at hl 1 rfl) ?_
  refine lv_icmp_lt (tgt := 14) hx hb dX8_in_2 (by decide) (fun c_2 => ?_) (fun c_2 => ?_)
  · skip
    refine lv_iconst (v := 0) hx hb dX8_in_14 (by decide) ?_
    exact kRetZr (withinB v a b) (by first | rfl | (rw [ex, e12]; done) | (rw [em, e12]; done) | (rw [ey, e12]; done) | (rw [e12]; done) | (simp [withinB, k01, c_2]; done) | (simp_all [withinB, k01]; done)) hx hb hr hlk dX8_in_15 rfl
  · skip
    refine lv_iload_n hx hb dX8_in_5 rfl (lv_at hl 0 rfl) ?_
    refine lv_iload_n hx hb dX8_in_6 rfl (lv_at hl 2 rfl) ?_
    refine lv_icmp_gt (tgt := 14) hx hb dX8_in_7 (by decide) (fun c_7 => ?_) (fun c_7 => ?_)
    · skip
      refine lv_iconst (v := 0) hx hb dX8_in_14 (by decide) ?_
      exact kRetZr (withinB v a b) (by first | rfl | (rw [ex, e12]; done) | (rw [em, e12]; done) | (rw [ey, e12]; done) | (rw [e12]; done) | (simp [withinB, k01, c_2, c_7]; done) | (simp_all [withinB, k01]; done)) hx hb hr hlk dX8_in_15 rfl
    · skip
      refine lv_iconst (v := 1) hx hb dX8_in_10 (by decide) ?_
      refine lv_goto (tgt := 15) hx hb dX8_in_11 (by decide) ?_
      exact kRetZr (withinB v a b) (by first | rfl | (rw [ex, e12]; done) | (rw [em, e12]; done) | (rw [ey, e12]; done) | (rw [e12]; done) | (simp [withinB, k01, c_2, c_7]; done) | (simp_all [withinB, k01]; done)) hx hb hr hlk dX8_in_15 rfl

set_option maxHeartbeats 4000000 in
set_option maxRecDepth 100000 in
theorem c_X8_thrown (l : Launch) (D : va_G) (cI cJ cZ cO : ClassId) (z : Nat) (a0 : Nat) (a1 : Nat) (a2 : Nat) (a3 : Nat) (a4 : Nat) (a5 : Nat) (a6 : Nat) (a7 : Nat) (a8 : Nat) (a9 : Nat) (a10 : Nat) (a11 : Nat) (a12 : Nat) (a13 : Nat) (a14 : Nat) (a15 : Nat) (T : Nat) (P : Nat) (pa : Int32) (kn : Int32) (rn : Nat) (ln : Nat) (th : Int32) (wt : Int32) : kR l D (kTY cI cJ cZ cO) yX8_thrown wsX8_thrown 0 0 [.ref z] [(z, .inr (9, [.ref a0, .ref a1, .int (nI T), .ref a2, .ref a3, .ref a4, .ref a5, .ref a6, .int (nI P), .int pa, .int kn, .ref a7, .int (nI rn), .ref a8, .ref a9, .int (nI ln), .ref a10, .int th, .ref a11, .ref a12, .int wt, .ref a13, .ref a14, .ref a15]))] (fun rv_ => rv_ = some (.int th)) := by
  refine kEnterR (cc := cX8_thrown) (maxL := 1) (ret := (some .int)) (by decide) rfl (Nat.le_of_ble_eq_true rfl) ?_
  intro p e s m args below meth c hx hb hr hml hts hown hlk hK hP ls hl
  have hl : lv_has ls 1 [(0, .ref z)] := hl
  have hw_f63 := hts (.fieldLink RX8 63 "WhatToReadModel" "thrown" "I") (by decide +kernel)
  have hi_X8 : ∀ w ∈ wsX80, w ∈ wsX8_thrown := by decide +kernel
  refine lv_aload_n hx hb dX8_thrown_0 rfl (lv_at hl 0 rfl) ?_
  refine va_get (D := D) (ci := 9) (v := .int th) (C := RX8) (T := TX8) (N := 24) hx hb hts hi_X8 hown hK.1 hP 0 rfl rfl 17 (by decide) hw_f63 (fun _ h9 => h9) rfl dX8_thrown_1 ?_
  exact kRetIr hx hb hr hlk dX8_thrown_4 rfl

set_option maxHeartbeats 4000000 in
set_option maxRecDepth 100000 in
theorem c_X8_areBits (l : Launch) (D : va_G) (cI cJ cZ cO : ClassId) (z : Nat) (a0 : Nat) (a1 : Nat) (a2 : Nat) (a3 : Nat) (a4 : Nat) (a5 : Nat) (a6 : Nat) (a7 : Nat) (a8 : Nat) (a9 : Nat) (a10 : Nat) (a11 : Nat) (a12 : Nat) (a13 : Nat) (a14 : Nat) (a15 : Nat) (T : Nat) (P : Nat) (pa : Int32) (kn : Int32) (rn : Nat) (ln : Nat) (th : Int32) (wt : Int32) (b : Int32) : kR l D (kTY cI cJ cZ cO) yX8_areBits wsX8_areBits 1 22 [.ref z, .int b] [(z, .inr (9, [.ref a0, .ref a1, .int (nI T), .ref a2, .ref a3, .ref a4, .ref a5, .ref a6, .int (nI P), .int pa, .int kn, .ref a7, .int (nI rn), .ref a8, .ref a9, .int (nI ln), .ref a10, .int th, .ref a11, .ref a12, .int wt, .ref a13, .ref a14, .ref a15]))] (fun rv_ => rv_ = some (.int (k01 (areB T b)))) := by
  refine kEnterR (cc := cX8_areBits) (maxL := 2) (ret := (some .boolean)) (by decide) rfl (Nat.le_of_ble_eq_true rfl) ?_
  intro p e s m args below meth c hx hb hr hml hts hown hlk hK hP ls hl
  have hl : lv_has ls 2 [(0, .ref z), (1, .int b)] := hl
  have hw_f66 := hts (.fieldLink RX8 66 "WhatToReadModel" "topics" "I") (by decide +kernel)
  have hi_X8 : ∀ w ∈ wsX80, w ∈ wsX8_areBits := by decide +kernel
  refine lv_iload_n hx hb dX8_areBits_0 rfl (lv_at hl 1 rfl) ?_
  refine lv_iconst (v := 0) hx hb dX8_areBits_1 (by decide) ?_
  refine lv_iconst (v := 1) hx hb dX8_areBits_2 (by decide) ?_
  refine lv_aload_n hx hb dX8_areBits_3 rfl (lv_at hl 0 rfl) ?_
  refine va_get (D := D) (ci := 9) (v := .int (nI T)) (C := RX8) (T := TX8) (N := 24) hx hb hts hi_X8 hown hK.1 hP 0 rfl rfl 2 (by decide) hw_f66 (fun _ h9 => h9) rfl dX8_areBits_4 ?_
  refine lv_ishl hx hb dX8_areBits_7 ?_
  refine lv_iconst (v := 1) hx hb dX8_areBits_8 (by decide) ?_
  refine lv_isub hx hb dX8_areBits_9 ?_
  refine kGoR (va_runS (As := [.int b, .int 0, .int ((1 <<< ((nI T) &&& 31)) - 1)]) (rest := []) ⟨hx, hb, hml, hown, hts⟩ (c_X8_in l D cI cJ cZ cO b 0 ((1 <<< ((nI T) &&& 31)) - 1) ) (va_cwS 3 hts gX8_areBits_X8_in rfl rfl rfl (by decide +kernel) ⟨Nat.le_of_ble_eq_true rfl, Nat.le_of_ble_eq_true rfl⟩) (kPreSR hK (kPc_sub hP [] rfl)) rfl rfl hl.1 rfl (lv_room (Nat.le_of_ble_eq_true rfl)) dX8_areBits_10 ⟨Nat.le_of_ble_eq_true rfl, Nat.le_of_ble_eq_true rfl⟩) (fun v_1 hv_1 => ?_)
  obtain rfl := hv_1
  refine W.eq (g2 := F0 m 13 ls [.int (k01 (withinB b 0 ((1 <<< ((nI T) &&& 31)) - 1)))]) rfl ?_
  exact kRetZr (areB T b) (by first | rfl | (rw [ex, e12]; done) | (rw [em, e12]; done) | (rw [ey, e12]; done) | (rw [e12]; done) | (simp []; done) | (simp_all []; done)) hx hb hr hlk dX8_areBits_13 rfl

set_option maxHeartbeats 4000000 in
set_option maxRecDepth 100000 in
theorem c_X8_isStep (l : Launch) (D : va_G) (cI cJ cZ cO : ClassId) (z : Nat) (a0 : Nat) (a1 : Nat) (a2 : Nat) (a3 : Nat) (a4 : Nat) (a5 : Nat) (a6 : Nat) (a7 : Nat) (a8 : Nat) (a9 : Nat) (a10 : Nat) (a11 : Nat) (a12 : Nat) (a13 : Nat) (a14 : Nat) (a15 : Nat) (T : Nat) (P : Nat) (pa : Int32) (kn : Int32) (rn : Nat) (ln : Nat) (th : Int32) (wt : Int32) (b : Int32) : kR l D (kTY cI cJ cZ cO) yX8_isStep wsX8_isStep 1 22 [.ref z, .int b] [(z, .inr (9, [.ref a0, .ref a1, .int (nI T), .ref a2, .ref a3, .ref a4, .ref a5, .ref a6, .int (nI P), .int pa, .int kn, .ref a7, .int (nI rn), .ref a8, .ref a9, .int (nI ln), .ref a10, .int th, .ref a11, .ref a12, .int wt, .ref a13, .ref a14, .ref a15]))] (fun rv_ => rv_ = some (.int (k01 (stpB P b)))) := by
  refine kEnterR (cc := cX8_isStep) (maxL := 2) (ret := (some .boolean)) (by decide) rfl (Nat.le_of_ble_eq_true rfl) ?_
  intro p e s m args below meth c hx hb hr hml hts hown hlk hK hP ls hl
  have hl : lv_has ls 2 [(0, .ref z), (1, .int b)] := hl
  have hw_f73 := hts (.fieldLink RX8 73 "WhatToReadModel" "pieces" "I") (by decide +kernel)
  have hi_X8 : ∀ w ∈ wsX80, w ∈ wsX8_isStep := by decide +kernel
  refine lv_iload_n hx hb dX8_isStep_0 rfl (lv_at hl 1 rfl) ?_
  refine lv_iconst (v := 0) hx hb dX8_isStep_1 (by decide) ?_
  refine lv_iconst (v := 2) hx hb dX8_isStep_2 (by decide) ?_
  refine lv_aload_n hx hb dX8_isStep_3 rfl (lv_at hl 0 rfl) ?_
  refine va_get (D := D) (ci := 9) (v := .int (nI P)) (C := RX8) (T := TX8) (N := 24) hx hb hts hi_X8 hown hK.1 hP 0 rfl rfl 8 (by decide) hw_f73 (fun _ h9 => h9) rfl dX8_isStep_4 ?_
  refine lv_imul hx hb dX8_isStep_7 ?_
  refine lv_iconst (v := 1) hx hb dX8_isStep_8 (by decide) ?_
  refine lv_isub hx hb dX8_isStep_9 ?_
  refine kGoR (va_runS (As := [.int b, .int 0, .int ((2 * (nI P)) - 1)]) (rest := []) ⟨hx, hb, hml, hown, hts⟩ (c_X8_in l D cI cJ cZ cO b 0 ((2 * (nI P)) - 1) ) (va_cwS 3 hts gX8_isStep_X8_in rfl rfl rfl (by decide +kernel) ⟨Nat.le_of_ble_eq_true rfl, Nat.le_of_ble_eq_true rfl⟩) (kPreSR hK (kPc_sub hP [] rfl)) rfl rfl hl.1 rfl (lv_room (Nat.le_of_ble_eq_true rfl)) dX8_isStep_10 ⟨Nat.le_of_ble_eq_true rfl, Nat.le_of_ble_eq_true rfl⟩) (fun v_1 hv_1 => ?_)
  obtain rfl := hv_1
  refine W.eq (g2 := F0 m 13 ls [.int (k01 (withinB b 0 ((2 * (nI P)) - 1)))]) rfl ?_
  exact kRetZr (stpB P b) (by first | rfl | (rw [ex, e12]; done) | (rw [em, e12]; done) | (rw [ey, e12]; done) | (rw [e12]; done) | (simp []; done) | (simp_all []; done)) hx hb hr hlk dX8_isStep_13 rfl

set_option maxHeartbeats 4000000 in
set_option maxRecDepth 100000 in
theorem c_X8_withAll (l : Launch) (D : va_G) (cI cJ cZ cO : ClassId) (z : Nat) (a0 : Nat) (a1 : Nat) (a2 : Nat) (a3 : Nat) (a4 : Nat) (a5 : Nat) (a6 : Nat) (a7 : Nat) (a8 : Nat) (a9 : Nat) (a10 : Nat) (a11 : Nat) (a12 : Nat) (a13 : Nat) (a14 : Nat) (a15 : Nat) (T : Nat) (P : Nat) (pa : Int32) (kn : Int32) (rn : Nat) (ln : Nat) (th : Int32) (wt : Int32) (im : Nat → Int32) (b : Int32) (hT : T ≤ 12) : kR l D (kTY cI cJ cZ cO) yX8_withAll wsX8_withAll 0 0 [.ref z, .int b] [(z, .inr (9, [.ref a0, .ref a1, .int (nI T), .ref a2, .ref a3, .ref a4, .ref a5, .ref a6, .int (nI P), .int pa, .int kn, .ref a7, .int (nI rn), .ref a8, .ref a9, .int (nI ln), .ref a10, .int th, .ref a11, .ref a12, .int wt, .ref a13, .ref a14, .ref a15])), (a1, .inl (cI, 12, .inl im))] (fun rv_ => rv_ = some (.int (closF im b T))) := by
  refine kEnterR (cc := cX8_withAll) (maxL := 4) (ret := (some .int)) (by decide) rfl (Nat.le_of_ble_eq_true rfl) ?_
  intro p e s m args below meth c hx hb hr hml hts hown hlk hK hP ls hl
  have hl : lv_has ls 4 [(0, .ref z), (1, .int b)] := hl
  have hw_f66 := hts (.fieldLink RX8 66 "WhatToReadModel" "topics" "I") (by decide +kernel)
  have hi_X8 : ∀ w ∈ wsX80, w ∈ wsX8_withAll := by decide +kernel
  have hw_f13 := hts (.fieldLink RX8 13 "WhatToReadModel" "implies" "[I") (by decide +kernel)
  refine lv_iload_n hx hb dX8_withAll_0 rfl (lv_at hl 1 rfl) ?_
  refine lv_istore_n (lv' := [(2, .int b), (0, .ref z), (1, .int b)]) hx hb dX8_withAll_1 rfl hl (by decide) rfl (fun ls hl => ?_)
  refine lv_iconst (v := 0) hx hb dX8_withAll_2 (by decide) ?_
  refine lv_istore_n (lv' := [(3, .int 0), (2, .int b), (0, .ref z), (1, .int b)]) hx hb dX8_withAll_3 rfl hl (by decide) rfl (fun ls hl => ?_)
  have hloop_4 : ∀ (fu : Nat) (i : Nat) (x2 : Int32), T - i < fu → i ≤ T → x2 = closF im b i → ∀ ls : Array Slot, lv_has ls 4 [(0, .ref z), (1, .int b), (2, .int x2), (3, .int (nI i))] → W p l e ({ frames := 0, cells := 0, slots := 0, locals := 0 }) s m args below meth c s.heap [] 0 0 (MQ below (kQr (fun rv_ => rv_ = some (.int (closF im b T)))) args s 0 0 (fun _ => False)) (F0 m 4 ls []) := by
    intro fu
    induction fu with
    | zero => intro i x2 hmu; exact absurd hmu (Nat.not_lt_zero _)
    | succ fu ih_4 =>
      intro i x2 hmu_4 hi e2 ls hl
      refine lv_iload_n hx hb dX8_withAll_4 rfl (lv_at hl 3 rfl) ?_
      refine lv_aload_n hx hb dX8_withAll_5 rfl (lv_at hl 0 rfl) ?_
      refine va_get (D := D) (ci := 9) (v := .int (nI T)) (C := RX8) (T := TX8) (N := 24) hx hb hts hi_X8 hown hK.1 hP 0 rfl rfl 2 (by decide) hw_f66 (fun _ h9 => h9) rfl dX8_withAll_6 ?_
      refine lv_icmp_ge (tgt := 36) hx hb dX8_withAll_9 (by decide) (fun c_9 => ?_) (fun c_9 => ?_)
      · skip
        have nc_9 : T ≤ i := (nI_leI (a := T) (b := i) (by omega) (by omega)).mp c_9
        have e12 : i = T := by omega
        refine lv_iload_n hx hb dX8_withAll_36 rfl (lv_at hl 2 rfl) ?_
        exact kRetIr hx hb hr hlk dX8_withAll_37 (kpi (by rw [e2, e12]))
      · skip
        have nc_9 : ¬ T ≤ i := (not_congr (nI_leI (a := T) (b := i) (by omega) (by omega))).mp c_9
        refine lv_iload_n hx hb dX8_withAll_12 rfl (lv_at hl 1 rfl) ?_
        refine lv_iload_n hx hb dX8_withAll_13 rfl (lv_at hl 3 rfl) ?_
        refine lv_ishr hx hb dX8_withAll_14 ?_
        refine lv_iconst (v := 1) hx hb dX8_withAll_15 (by decide) ?_
        refine lv_iand hx hb dX8_withAll_16 ?_
        refine lv_iconst (v := 1) hx hb dX8_withAll_17 (by decide) ?_
        refine lv_icmp_ne (tgt := 30) hx hb dX8_withAll_18 (by decide) (fun c_18 => ?_) (fun c_18 => ?_)
        · skip
          refine lv_iinc (v := nI (i + 1)) (lv' := [(3, .int (nI (i + 1))), (0, .ref z), (1, .int b), (2, .int x2)]) hx hb dX8_withAll_30 hl (k := 3) rfl (nI_1 _) (by decide) rfl (fun ls hl => ?_)
          refine lv_goto (tgt := 4) hx hb dX8_withAll_33 (by decide) ?_
          exact ih_4  (i + 1) x2 (by omega) (by first | omega | assumption | exact Nat.zero_le _) (by rw [e2]; simp [closF, worthF, c_9, nc_9, c_18]) _ (lv_sub hl [1, 2, 3, 0] rfl)
        · skip
          refine lv_iload_n hx hb dX8_withAll_21 rfl (lv_at hl 2 rfl) ?_
          refine lv_aload_n hx hb dX8_withAll_22 rfl (lv_at hl 0 rfl) ?_
          refine va_get (D := D) (ci := 9) (v := .ref a1) (C := RX8) (T := TX8) (N := 24) hx hb hts hi_X8 hown hK.1 hP 0 rfl rfl 1 (by decide) hw_f13 (fun _ h9 => h9) rfl dX8_withAll_23 ?_
          refine lv_iload_n hx hb dX8_withAll_26 rfl (lv_at hl 3 rfl) ?_
          refine va_iald hx hb hK.1 hP 1 0 rfl rfl (vp_in_nI (by omega) (by omega)) dX8_withAll_27 ?_
          refine lv_topi (fun nv_1 ev_1 => ?_)
          obtain rfl : nv_1 = im i := by rw [ev_1, nI_clamp (by omega)]
          refine lv_ior hx hb dX8_withAll_28 ?_
          refine lv_istore_n (lv' := [(2, .int (x2 ||| (im i))), (0, .ref z), (1, .int b), (3, .int (nI i))]) hx hb dX8_withAll_29 rfl hl (by decide) rfl (fun ls hl => ?_)
          refine lv_iinc (v := nI (i + 1)) (lv' := [(3, .int (nI (i + 1))), (2, .int (x2 ||| (im i))), (0, .ref z), (1, .int b)]) hx hb dX8_withAll_30 hl (k := 3) rfl (nI_1 _) (by decide) rfl (fun ls hl => ?_)
          refine lv_goto (tgt := 4) hx hb dX8_withAll_33 (by decide) ?_
          exact ih_4  (i + 1) (x2 ||| (im i)) (by omega) (by first | omega | assumption | exact Nat.zero_le _) (by rw [e2]; simp [closF, worthF, c_9, nc_9, c_18]) _ (lv_sub hl [2, 3, 1, 0] rfl)
  exact hloop_4 ((T - 0) + 1) 0 b (Nat.lt_succ_self _) (by first | omega | assumption | exact Nat.zero_le _) (by rfl) _ (lv_sub hl [2, 3, 1, 0] rfl)

set_option maxHeartbeats 4000000 in
set_option maxRecDepth 100000 in
theorem c_X8_worthOf (l : Launch) (D : va_G) (cI cJ cZ cO : ClassId) (z : Nat) (a0 : Nat) (a1 : Nat) (a2 : Nat) (a3 : Nat) (a4 : Nat) (a5 : Nat) (a6 : Nat) (a7 : Nat) (a8 : Nat) (a9 : Nat) (a10 : Nat) (a11 : Nat) (a12 : Nat) (a13 : Nat) (a14 : Nat) (a15 : Nat) (T : Nat) (P : Nat) (pa : Int32) (kn : Int32) (rn : Nat) (ln : Nat) (th : Int32) (wt : Int32) (wo : Nat → Int32) (b : Int32) (hT : T ≤ 12) : kR l D (kTY cI cJ cZ cO) yX8_worthOf wsX8_worthOf 0 0 [.ref z, .int b] [(z, .inr (9, [.ref a0, .ref a1, .int (nI T), .ref a2, .ref a3, .ref a4, .ref a5, .ref a6, .int (nI P), .int pa, .int kn, .ref a7, .int (nI rn), .ref a8, .ref a9, .int (nI ln), .ref a10, .int th, .ref a11, .ref a12, .int wt, .ref a13, .ref a14, .ref a15])), (a0, .inl (cI, 12, .inl wo))] (fun rv_ => rv_ = some (.int (worthF wo b T))) := by
  refine kEnterR (cc := cX8_worthOf) (maxL := 4) (ret := (some .int)) (by decide) rfl (Nat.le_of_ble_eq_true rfl) ?_
  intro p e s m args below meth c hx hb hr hml hts hown hlk hK hP ls hl
  have hl : lv_has ls 4 [(0, .ref z), (1, .int b)] := hl
  have hw_f66 := hts (.fieldLink RX8 66 "WhatToReadModel" "topics" "I") (by decide +kernel)
  have hi_X8 : ∀ w ∈ wsX80, w ∈ wsX8_worthOf := by decide +kernel
  have hw_f9 := hts (.fieldLink RX8 9 "WhatToReadModel" "worth" "[I") (by decide +kernel)
  refine lv_iconst (v := 0) hx hb dX8_worthOf_0 (by decide) ?_
  refine lv_istore_n (lv' := [(2, .int 0), (0, .ref z), (1, .int b)]) hx hb dX8_worthOf_1 rfl hl (by decide) rfl (fun ls hl => ?_)
  refine lv_iconst (v := 0) hx hb dX8_worthOf_2 (by decide) ?_
  refine lv_istore_n (lv' := [(3, .int 0), (2, .int 0), (0, .ref z), (1, .int b)]) hx hb dX8_worthOf_3 rfl hl (by decide) rfl (fun ls hl => ?_)
  have hloop_4 : ∀ (fu : Nat) (i : Nat) (x2 : Int32), T - i < fu → i ≤ T → x2 = worthF wo b i → ∀ ls : Array Slot, lv_has ls 4 [(0, .ref z), (1, .int b), (2, .int x2), (3, .int (nI i))] → W p l e ({ frames := 0, cells := 0, slots := 0, locals := 0 }) s m args below meth c s.heap [] 0 0 (MQ below (kQr (fun rv_ => rv_ = some (.int (worthF wo b T)))) args s 0 0 (fun _ => False)) (F0 m 4 ls []) := by
    intro fu
    induction fu with
    | zero => intro i x2 hmu; exact absurd hmu (Nat.not_lt_zero _)
    | succ fu ih_4 =>
      intro i x2 hmu_4 hi e2 ls hl
      refine lv_iload_n hx hb dX8_worthOf_4 rfl (lv_at hl 3 rfl) ?_
      refine lv_aload_n hx hb dX8_worthOf_5 rfl (lv_at hl 0 rfl) ?_
      refine va_get (D := D) (ci := 9) (v := .int (nI T)) (C := RX8) (T := TX8) (N := 24) hx hb hts hi_X8 hown hK.1 hP 0 rfl rfl 2 (by decide) hw_f66 (fun _ h9 => h9) rfl dX8_worthOf_6 ?_
      refine lv_icmp_ge (tgt := 36) hx hb dX8_worthOf_9 (by decide) (fun c_9 => ?_) (fun c_9 => ?_)
      · skip
        have nc_9 : T ≤ i := (nI_leI (a := T) (b := i) (by omega) (by omega)).mp c_9
        have e12 : i = T := by omega
        refine lv_iload_n hx hb dX8_worthOf_36 rfl (lv_at hl 2 rfl) ?_
        exact kRetIr hx hb hr hlk dX8_worthOf_37 (kpi (by rw [e2, e12]))
      · skip
        have nc_9 : ¬ T ≤ i := (not_congr (nI_leI (a := T) (b := i) (by omega) (by omega))).mp c_9
        refine lv_iload_n hx hb dX8_worthOf_12 rfl (lv_at hl 1 rfl) ?_
        refine lv_iload_n hx hb dX8_worthOf_13 rfl (lv_at hl 3 rfl) ?_
        refine lv_ishr hx hb dX8_worthOf_14 ?_
        refine lv_iconst (v := 1) hx hb dX8_worthOf_15 (by decide) ?_
        refine lv_iand hx hb dX8_worthOf_16 ?_
        refine lv_iconst (v := 1) hx hb dX8_worthOf_17 (by decide) ?_
        refine lv_icmp_ne (tgt := 30) hx hb dX8_worthOf_18 (by decide) (fun c_18 => ?_) (fun c_18 => ?_)
        · skip
          refine lv_iinc (v := nI (i + 1)) (lv' := [(3, .int (nI (i + 1))), (0, .ref z), (1, .int b), (2, .int x2)]) hx hb dX8_worthOf_30 hl (k := 3) rfl (nI_1 _) (by decide) rfl (fun ls hl => ?_)
          refine lv_goto (tgt := 4) hx hb dX8_worthOf_33 (by decide) ?_
          exact ih_4  (i + 1) x2 (by omega) (by first | omega | assumption | exact Nat.zero_le _) (by rw [e2]; simp [closF, worthF, c_9, nc_9, c_18]) _ (lv_sub hl [1, 2, 3, 0] rfl)
        · skip
          refine lv_iload_n hx hb dX8_worthOf_21 rfl (lv_at hl 2 rfl) ?_
          refine lv_aload_n hx hb dX8_worthOf_22 rfl (lv_at hl 0 rfl) ?_
          refine va_get (D := D) (ci := 9) (v := .ref a0) (C := RX8) (T := TX8) (N := 24) hx hb hts hi_X8 hown hK.1 hP 0 rfl rfl 0 (by decide) hw_f9 (fun _ h9 => h9) rfl dX8_worthOf_23 ?_
          refine lv_iload_n hx hb dX8_worthOf_26 rfl (lv_at hl 3 rfl) ?_
          refine va_iald hx hb hK.1 hP 1 0 rfl rfl (vp_in_nI (by omega) (by omega)) dX8_worthOf_27 ?_
          refine lv_topi (fun nv_1 ev_1 => ?_)
          obtain rfl : nv_1 = wo i := by rw [ev_1, nI_clamp (by omega)]
          refine lv_iadd hx hb dX8_worthOf_28 ?_
          refine lv_istore_n (lv' := [(2, .int (x2 + (wo i))), (0, .ref z), (1, .int b), (3, .int (nI i))]) hx hb dX8_worthOf_29 rfl hl (by decide) rfl (fun ls hl => ?_)
          refine lv_iinc (v := nI (i + 1)) (lv' := [(3, .int (nI (i + 1))), (2, .int (x2 + (wo i))), (0, .ref z), (1, .int b)]) hx hb dX8_worthOf_30 hl (k := 3) rfl (nI_1 _) (by decide) rfl (fun ls hl => ?_)
          refine lv_goto (tgt := 4) hx hb dX8_worthOf_33 (by decide) ?_
          exact ih_4  (i + 1) (x2 + (wo i)) (by omega) (by first | omega | assumption | exact Nat.zero_le _) (by rw [e2]; simp [closF, worthF, c_9, nc_9, c_18]) _ (lv_sub hl [2, 3, 1, 0] rfl)
  exact hloop_4 ((T - 0) + 1) 0 0 (Nat.lt_succ_self _) (by first | omega | assumption | exact Nat.zero_le _) (by rfl) _ (lv_sub hl [2, 3, 1, 0] rfl)

set_option maxHeartbeats 4000000 in
set_option maxRecDepth 100000 in
theorem c_X8_time (l : Launch) (D : va_G) (cI cJ cZ cO : ClassId) (z : Nat) (a0 : Nat) (a1 : Nat) (a2 : Nat) (a3 : Nat) (a4 : Nat) (a5 : Nat) (a6 : Nat) (a7 : Nat) (a8 : Nat) (a9 : Nat) (a10 : Nat) (a11 : Nat) (a12 : Nat) (a13 : Nat) (a14 : Nat) (a15 : Nat) (T : Nat) (P : Nat) (pa : Int32) (kn : Int32) (rn : Nat) (ln : Nat) (th : Int32) (wt : Int32) (pg : Nat → Int32) (k : Nat) (hk : k < 28) : kR l D (kTY cI cJ cZ cO) yX8_time wsX8_time 0 0 [.ref z, .int (nI k)] [(z, .inr (9, [.ref a0, .ref a1, .int (nI T), .ref a2, .ref a3, .ref a4, .ref a5, .ref a6, .int (nI P), .int pa, .int kn, .ref a7, .int (nI rn), .ref a8, .ref a9, .int (nI ln), .ref a10, .int th, .ref a11, .ref a12, .int wt, .ref a13, .ref a14, .ref a15])), (a6, .inl (cI, 14, .inl pg))] (fun rv_ => rv_ = some (.int (mtimeF pg pa k))) := by
  refine kEnterR (cc := cX8_time) (maxL := 3) (ret := (some .int)) (by decide) rfl (Nat.le_of_ble_eq_true rfl) ?_
  intro p e s m args below meth c hx hb hr hml hts hown hlk hK hP ls hl
  have hl : lv_has ls 3 [(0, .ref z), (1, .int (nI k))] := hl
  have hw_f28 := hts (.fieldLink RX8 28 "WhatToReadModel" "pages" "[I") (by decide +kernel)
  have hi_X8 : ∀ w ∈ wsX80, w ∈ wsX8_time := by decide +kernel
  have hw_f31 := hts (.fieldLink RX8 31 "WhatToReadModel" "pace" "I") (by decide +kernel)
  refine lv_aload_n hx hb dX8_time_0 rfl (lv_at hl 0 rfl) ?_
  refine va_get (D := D) (ci := 9) (v := .ref a6) (C := RX8) (T := TX8) (N := 24) hx hb hts hi_X8 hown hK.1 hP 0 rfl rfl 7 (by decide) hw_f28 (fun _ h9 => h9) rfl dX8_time_1 ?_
  refine lv_iload_n hx hb dX8_time_4 rfl (lv_at hl 1 rfl) ?_
  refine lv_iconst (v := 2) hx hb dX8_time_5 (by decide) ?_
  refine lv_idiv hx hb dX8_time_6 (by decide) ?_
  refine lv_topi (fun nv_1 ev_1 => ?_)
  obtain rfl : nv_1 = nI (k / 2) := ev_1.trans (pk_div (d := 2) (by omega) (by decide) (by decide))
  refine va_iald hx hb hK.1 hP 1 0 rfl rfl (vp_in_nI (by omega) (by omega)) dX8_time_7 ?_
  refine lv_topi (fun nv_2 ev_2 => ?_)
  obtain rfl : nv_2 = pg (k / 2) := by rw [ev_2, nI_clamp (by omega)]
  refine lv_aload_n hx hb dX8_time_8 rfl (lv_at hl 0 rfl) ?_
  refine va_get (D := D) (ci := 9) (v := .int pa) (C := RX8) (T := TX8) (N := 24) hx hb hts hi_X8 hown hK.1 hP 0 rfl rfl 9 (by decide) hw_f31 (fun _ h9 => h9) rfl dX8_time_9 ?_
  refine lv_imul hx hb dX8_time_12 ?_
  refine lv_istore_n (lv' := [(2, .int ((pg (k / 2)) * pa)), (0, .ref z), (1, .int (nI k))]) hx hb dX8_time_13 rfl hl (by decide) rfl (fun ls hl => ?_)
  refine lv_iload_n hx hb dX8_time_14 rfl (lv_at hl 2 rfl) ?_
  refine lv_iconst (v := 2) hx hb dX8_time_15 (by decide) ?_
  refine lv_irem hx hb dX8_time_16 (by decide) ?_
  refine lv_topi (fun nv_3 ev_3 => ?_)
  obtain rfl : nv_3 = nI (k % 2) := ev_3.trans (pk_rem (d := 2) (by omega) (by decide) (by decide))
  refine lv_if_ne (tgt := 24) hx hb dX8_time_17 (by decide) (fun c_17 => ?_) (fun c_17 => ?_)
  · skip
    have nc_17 : ¬ (k % 2) = 0 := (not_congr (nI_eq (a := k % 2) (b := 0) (by omega) (by omega))).mp c_17
    refine lv_iload_n hx hb dX8_time_24 rfl (lv_at hl 0 rfl) ?_
    refine lv_iconst (v := 2) hx hb dX8_time_25 (by decide) ?_
    refine lv_iadd hx hb dX8_time_26 ?_
    refine lv_iconst (v := 3) hx hb dX8_time_27 (by decide) ?_
    refine lv_idiv hx hb dX8_time_28 (by decide) ?_
    exact kRetIr hx hb hr hlk dX8_time_29 (kpi (by first | rfl | (rw [ex, e12]; done) | (rw [em, e12]; done) | (rw [ey, e12]; done) | (rw [e12]; done) | (simp [mtimeF, c_17, nc_17]; done) | (simp_all [mtimeF]; done)))
  · skip
    have nc_17 : (k % 2) = 0 := (nI_eq (a := k % 2) (b := 0) (by omega) (by omega)).mp c_17
    refine lv_iload_n hx hb dX8_time_20 rfl (lv_at hl 0 rfl) ?_
    refine lv_goto (tgt := 29) hx hb dX8_time_21 (by decide) ?_
    exact kRetIr hx hb hr hlk dX8_time_29 (kpi (by first | rfl | (rw [ex, e12]; done) | (rw [em, e12]; done) | (rw [ey, e12]; done) | (rw [e12]; done) | (simp [mtimeF, c_17, nc_17]; done) | (simp_all [mtimeF]; done)))

set_option maxHeartbeats 4000000 in
set_option maxRecDepth 100000 in
theorem c_X8_canDo (l : Launch) (D : va_G) (cI cJ cZ cO : ClassId) (z : Nat) (a0 : Nat) (a1 : Nat) (a2 : Nat) (a3 : Nat) (a4 : Nat) (a5 : Nat) (a6 : Nat) (a7 : Nat) (a8 : Nat) (a9 : Nat) (a10 : Nat) (a11 : Nat) (a12 : Nat) (a13 : Nat) (a14 : Nat) (a15 : Nat) (T : Nat) (P : Nat) (pa : Int32) (kn : Int32) (rn : Nat) (ln : Nat) (th : Int32) (wt : Int32) (ne : Nat → Int32) (ei : Nat → Int32) (k : Nat) (v : Int32) (hk : k < 28) : kR l D (kTY cI cJ cZ cO) yX8_canDo wsX8_canDo 0 0 [.ref z, .int (nI k), .int v] [(z, .inr (9, [.ref a0, .ref a1, .int (nI T), .ref a2, .ref a3, .ref a4, .ref a5, .ref a6, .int (nI P), .int pa, .int kn, .ref a7, .int (nI rn), .ref a8, .ref a9, .int (nI ln), .ref a10, .int th, .ref a11, .ref a12, .int wt, .ref a13, .ref a14, .ref a15])), (a2, .inl (cI, 14, .inl ne)), (a3, .inl (cI, 14, .inl ei))] (fun rv_ => rv_ = some (.int (k01 (canB ne ei k v)))) := by
  refine kEnterR (cc := cX8_canDo) (maxL := 4) (ret := (some .boolean)) (by decide) rfl (Nat.le_of_ble_eq_true rfl) ?_
  intro p e s m args below meth c hx hb hr hml hts hown hlk hK hP ls hl
  have hl : lv_has ls 4 [(0, .ref z), (1, .int (nI k)), (2, .int v)] := hl
  have hw_f16 := hts (.fieldLink RX8 16 "WhatToReadModel" "needs" "[I") (by decide +kernel)
  have hi_X8 : ∀ w ∈ wsX80, w ∈ wsX8_canDo := by decide +kernel
  have hw_f19 := hts (.fieldLink RX8 19 "WhatToReadModel" "either" "[I") (by decide +kernel)
  refine lv_iload_n hx hb dX8_canDo_0 rfl (lv_at hl 1 rfl) ?_
  refine lv_iconst (v := 2) hx hb dX8_canDo_1 (by decide) ?_
  refine lv_idiv hx hb dX8_canDo_2 (by decide) ?_
  refine lv_topi (fun nv_1 ev_1 => ?_)
  obtain rfl : nv_1 = nI (k / 2) := ev_1.trans (pk_div (d := 2) (by omega) (by decide) (by decide))
  refine lv_istore_n (lv' := [(3, .int (nI (k / 2))), (0, .ref z), (1, .int (nI k)), (2, .int v)]) hx hb dX8_canDo_3 rfl hl (by decide) rfl (fun ls hl => ?_)
  refine lv_aload_n hx hb dX8_canDo_4 rfl (lv_at hl 1 rfl) ?_
  refine va_get (D := D) (ci := 9) (v := .ref a2) (C := RX8) (T := TX8) (N := 24) hx hb hts hi_X8 hown hK.1 hP 0 rfl rfl 3 (by decide) hw_f16 (fun _ h9 => h9) rfl dX8_canDo_5 ?_
  refine lv_iload_n hx hb dX8_canDo_8 rfl (lv_at hl 0 rfl) ?_
  refine va_iald hx hb hK.1 hP 1 0 rfl rfl (vp_in_nI (by omega) (by omega)) dX8_canDo_9 ?_
  refine lv_topi (fun nv_2 ev_2 => ?_)
  obtain rfl : nv_2 = ne (k / 2) := by rw [ev_2, nI_clamp (by omega)]
  refine lv_iload_n hx hb dX8_canDo_10 rfl (lv_at hl 3 rfl) ?_
  refine lv_iconst (v := (-1)) hx hb dX8_canDo_11 (by decide) ?_
  refine lv_ixor hx hb dX8_canDo_12 ?_
  refine lv_iand hx hb dX8_canDo_13 ?_
  refine lv_if_ne (tgt := 41) hx hb dX8_canDo_14 (by decide) (fun c_14 => ?_) (fun c_14 => ?_)
  · skip
    refine lv_iconst (v := 0) hx hb dX8_canDo_41 (by decide) ?_
    exact kRetZr (canB ne ei k v) (by first | rfl | (rw [ex, e12]; done) | (rw [em, e12]; done) | (rw [ey, e12]; done) | (rw [e12]; done) | (simp [canB, k01, c_14]; done) | (simp_all [canB, k01]; done)) hx hb hr hlk dX8_canDo_42 rfl
  · skip
    refine lv_aload_n hx hb dX8_canDo_17 rfl (lv_at hl 1 rfl) ?_
    refine va_get (D := D) (ci := 9) (v := .ref a3) (C := RX8) (T := TX8) (N := 24) hx hb hts hi_X8 hown hK.1 hP 0 rfl rfl 4 (by decide) hw_f19 (fun _ h9 => h9) rfl dX8_canDo_18 ?_
    refine lv_iload_n hx hb dX8_canDo_21 rfl (lv_at hl 0 rfl) ?_
    refine va_iald hx hb hK.1 hP 2 0 rfl rfl (vp_in_nI (by omega) (by omega)) dX8_canDo_22 ?_
    refine lv_topi (fun nv_3 ev_3 => ?_)
    obtain rfl : nv_3 = ei (k / 2) := by rw [ev_3, nI_clamp (by omega)]
    refine lv_if_eq (tgt := 37) hx hb dX8_canDo_23 (by decide) (fun c_23 => ?_) (fun c_23 => ?_)
    · skip
      refine lv_iconst (v := 1) hx hb dX8_canDo_37 (by decide) ?_
      refine lv_goto (tgt := 42) hx hb dX8_canDo_38 (by decide) ?_
      exact kRetZr (canB ne ei k v) (by first | rfl | (rw [ex, e12]; done) | (rw [em, e12]; done) | (rw [ey, e12]; done) | (rw [e12]; done) | (simp [canB, k01, c_14, c_23]; done) | (simp_all [canB, k01]; done)) hx hb hr hlk dX8_canDo_42 rfl
    · skip
      refine lv_aload_n hx hb dX8_canDo_26 rfl (lv_at hl 1 rfl) ?_
      refine va_get (D := D) (ci := 9) (v := .ref a3) (C := RX8) (T := TX8) (N := 24) hx hb hts hi_X8 hown hK.1 hP 0 rfl rfl 4 (by decide) hw_f19 (fun _ h9 => h9) rfl dX8_canDo_27 ?_
      refine lv_iload_n hx hb dX8_canDo_30 rfl (lv_at hl 0 rfl) ?_
      refine va_iald hx hb hK.1 hP 2 0 rfl rfl (vp_in_nI (by omega) (by omega)) dX8_canDo_31 ?_
      refine lv_topi (fun nv_4 ev_4 => ?_)
      obtain rfl : nv_4 = ei (k / 2) := by rw [ev_4, nI_clamp (by omega)]
      refine lv_iload_n hx hb dX8_canDo_32 rfl (lv_at hl 3 rfl) ?_
      refine lv_iand hx hb dX8_canDo_33 ?_
      refine lv_if_eq (tgt := 41) hx hb dX8_canDo_34 (by decide) (fun c_34 => ?_) (fun c_34 => ?_)
      · skip
        refine lv_iconst (v := 0) hx hb dX8_canDo_41 (by decide) ?_
        exact kRetZr (canB ne ei k v) (by first | rfl | (rw [ex, e12]; done) | (rw [em, e12]; done) | (rw [ey, e12]; done) | (rw [e12]; done) | (simp [canB, k01, c_14, c_23, c_34]; done) | (simp_all [canB, k01]; done)) hx hb hr hlk dX8_canDo_42 rfl
      · skip
        refine lv_iconst (v := 1) hx hb dX8_canDo_37 (by decide) ?_
        refine lv_goto (tgt := 42) hx hb dX8_canDo_38 (by decide) ?_
        exact kRetZr (canB ne ei k v) (by first | rfl | (rw [ex, e12]; done) | (rw [em, e12]; done) | (rw [ey, e12]; done) | (rw [e12]; done) | (simp [canB, k01, c_14, c_23, c_34]; done) | (simp_all [canB, k01]; done)) hx hb hr hlk dX8_canDo_42 rfl

set_option maxHeartbeats 4000000 in
set_option maxRecDepth 100000 in
theorem c_X8_behind (l : Launch) (D : va_G) (cI cJ cZ cO : ClassId) (z : Nat) (a0 : Nat) (a1 : Nat) (a2 : Nat) (a3 : Nat) (a4 : Nat) (a5 : Nat) (a6 : Nat) (a7 : Nat) (a8 : Nat) (a9 : Nat) (a10 : Nat) (a11 : Nat) (a12 : Nat) (a13 : Nat) (a14 : Nat) (a15 : Nat) (T : Nat) (P : Nat) (pa : Int32) (kn : Int32) (rn : Nat) (ln : Nat) (th : Int32) (wt : Int32) (im : Nat → Int32) (gi : Nat → Int32) (sk : Nat → Int32) (k : Nat) (v : Int32) (hT : T ≤ 12) (hk : k < 28) : kR l D (kTY cI cJ cZ cO) yX8_behind wsX8_behind 1 23 [.ref z, .int (nI k), .int v] [(z, .inr (9, [.ref a0, .ref a1, .int (nI T), .ref a2, .ref a3, .ref a4, .ref a5, .ref a6, .int (nI P), .int pa, .int kn, .ref a7, .int (nI rn), .ref a8, .ref a9, .int (nI ln), .ref a10, .int th, .ref a11, .ref a12, .int wt, .ref a13, .ref a14, .ref a15])), (a1, .inl (cI, 12, .inl im)), (a4, .inl (cI, 14, .inl gi)), (a5, .inl (cI, 14, .inl sk))] (fun rv_ => rv_ = some (.int (bhF im gi sk T k v))) := by
  refine kEnterR (cc := cX8_behind) (maxL := 3) (ret := (some .int)) (by decide) rfl (Nat.le_of_ble_eq_true rfl) ?_
  intro p e s m args below meth c hx hb hr hml hts hown hlk hK hP ls hl
  have hl : lv_has ls 3 [(0, .ref z), (1, .int (nI k)), (2, .int v)] := hl
  have hw_f25 := hts (.fieldLink RX8 25 "WhatToReadModel" "skim" "[I") (by decide +kernel)
  have hi_X8 : ∀ w ∈ wsX80, w ∈ wsX8_behind := by decide +kernel
  have hw_f22 := hts (.fieldLink RX8 22 "WhatToReadModel" "gives" "[I") (by decide +kernel)
  refine lv_iload_n hx hb dX8_behind_0 rfl (lv_at hl 2 rfl) ?_
  refine lv_aload_n hx hb dX8_behind_1 rfl (lv_at hl 0 rfl) ?_
  refine lv_iload_n hx hb dX8_behind_2 rfl (lv_at hl 1 rfl) ?_
  refine lv_iconst (v := 2) hx hb dX8_behind_3 (by decide) ?_
  refine lv_irem hx hb dX8_behind_4 (by decide) ?_
  refine lv_topi (fun nv_1 ev_1 => ?_)
  obtain rfl : nv_1 = nI (k % 2) := ev_1.trans (pk_rem (d := 2) (by omega) (by decide) (by decide))
  refine lv_if_ne (tgt := 19) hx hb dX8_behind_5 (by decide) (fun c_5 => ?_) (fun c_5 => ?_)
  · skip
    have nc_5 : ¬ (k % 2) = 0 := (not_congr (nI_eq (a := k % 2) (b := 0) (by omega) (by omega))).mp c_5
    refine lv_aload_n hx hb dX8_behind_19 rfl (lv_at hl 0 rfl) ?_
    refine va_get (D := D) (ci := 9) (v := .ref a5) (C := RX8) (T := TX8) (N := 24) hx hb hts hi_X8 hown hK.1 hP 0 rfl rfl 6 (by decide) hw_f25 (fun _ h9 => h9) rfl dX8_behind_20 ?_
    refine lv_iload_n hx hb dX8_behind_23 rfl (lv_at hl 1 rfl) ?_
    refine lv_iconst (v := 2) hx hb dX8_behind_24 (by decide) ?_
    refine lv_idiv hx hb dX8_behind_25 (by decide) ?_
    refine lv_topi (fun nv_2 ev_2 => ?_)
    obtain rfl : nv_2 = nI (k / 2) := ev_2.trans (pk_div (d := 2) (by omega) (by decide) (by decide))
    refine va_iald hx hb hK.1 hP 3 0 rfl rfl (vp_in_nI (by omega) (by omega)) dX8_behind_26 ?_
    refine lv_topi (fun nv_3 ev_3 => ?_)
    obtain rfl : nv_3 = sk (k / 2) := by rw [ev_3, nI_clamp (by omega)]
    refine kGoR (va_runV (As := [.int (sk (k / 2))]) (rest := [.int v]) ⟨hx, hb, hml, hown, hts⟩ (c_X8_withAll l D cI cJ cZ cO z a0 a1 a2 a3 a4 a5 a6 a7 a8 a9 a10 a11 a12 a13 a14 a15 T P pa kn rn ln th wt im (sk (k / 2)) (by first | assumption | omega | decide)) (cwV 1 hts gX8_behind_X8_withAll rfl rfl rfl (by decide +kernel) ⟨Nat.le_of_ble_eq_true rfl, Nat.le_of_ble_eq_true rfl⟩) (kPreVR (ci := 9) (q0 := 0) hK (kPc_sub hP [0, 1] rfl) rfl rfl rfl) rfl rfl hl.1 rfl (lv_room (Nat.le_of_ble_eq_true rfl)) dX8_behind_27 ⟨Nat.le_of_ble_eq_true rfl, Nat.le_of_ble_eq_true rfl⟩) (fun v_4 hv_4 => ?_)
    obtain rfl := hv_4
    refine W.eq (g2 := F0 m 30 ls [.int (closF im (sk (k / 2)) T), .int v]) rfl ?_
    refine lv_ior hx hb dX8_behind_30 ?_
    exact kRetIr hx hb hr hlk dX8_behind_31 (kpi (by first | rfl | (rw [ex, e12]; done) | (rw [em, e12]; done) | (rw [ey, e12]; done) | (rw [e12]; done) | (simp [bhF, c_5, nc_5]; done) | (simp_all [bhF]; done)))
  · skip
    have nc_5 : (k % 2) = 0 := (nI_eq (a := k % 2) (b := 0) (by omega) (by omega)).mp c_5
    refine lv_aload_n hx hb dX8_behind_8 rfl (lv_at hl 0 rfl) ?_
    refine va_get (D := D) (ci := 9) (v := .ref a4) (C := RX8) (T := TX8) (N := 24) hx hb hts hi_X8 hown hK.1 hP 0 rfl rfl 5 (by decide) hw_f22 (fun _ h9 => h9) rfl dX8_behind_9 ?_
    refine lv_iload_n hx hb dX8_behind_12 rfl (lv_at hl 1 rfl) ?_
    refine lv_iconst (v := 2) hx hb dX8_behind_13 (by decide) ?_
    refine lv_idiv hx hb dX8_behind_14 (by decide) ?_
    refine lv_topi (fun nv_5 ev_5 => ?_)
    obtain rfl : nv_5 = nI (k / 2) := ev_5.trans (pk_div (d := 2) (by omega) (by decide) (by decide))
    refine va_iald hx hb hK.1 hP 2 0 rfl rfl (vp_in_nI (by omega) (by omega)) dX8_behind_15 ?_
    refine lv_topi (fun nv_6 ev_6 => ?_)
    obtain rfl : nv_6 = gi (k / 2) := by rw [ev_6, nI_clamp (by omega)]
    refine lv_goto (tgt := 27) hx hb dX8_behind_16 (by decide) ?_
    refine kGoR (va_runV (As := [.int (gi (k / 2))]) (rest := [.int v]) ⟨hx, hb, hml, hown, hts⟩ (c_X8_withAll l D cI cJ cZ cO z a0 a1 a2 a3 a4 a5 a6 a7 a8 a9 a10 a11 a12 a13 a14 a15 T P pa kn rn ln th wt im (gi (k / 2)) (by first | assumption | omega | decide)) (cwV 1 hts gX8_behind_X8_withAll rfl rfl rfl (by decide +kernel) ⟨Nat.le_of_ble_eq_true rfl, Nat.le_of_ble_eq_true rfl⟩) (kPreVR (ci := 9) (q0 := 0) hK (kPc_sub hP [0, 1] rfl) rfl rfl rfl) rfl rfl hl.1 rfl (lv_room (Nat.le_of_ble_eq_true rfl)) dX8_behind_27 ⟨Nat.le_of_ble_eq_true rfl, Nat.le_of_ble_eq_true rfl⟩) (fun v_7 hv_7 => ?_)
    obtain rfl := hv_7
    refine W.eq (g2 := F0 m 30 ls [.int (closF im (gi (k / 2)) T), .int v]) rfl ?_
    refine lv_ior hx hb dX8_behind_30 ?_
    exact kRetIr hx hb hr hlk dX8_behind_31 (kpi (by first | rfl | (rw [ex, e12]; done) | (rw [em, e12]; done) | (rw [ey, e12]; done) | (rw [e12]; done) | (simp [bhF, c_5, nc_5]; done) | (simp_all [bhF]; done)))

set_option maxHeartbeats 4000000 in
set_option maxRecDepth 100000 in
theorem c_X8_newBehind (l : Launch) (D : va_G) (cI cJ cZ cO : ClassId) (z : Nat) (a0 : Nat) (a1 : Nat) (a2 : Nat) (a3 : Nat) (a4 : Nat) (a5 : Nat) (a6 : Nat) (a7 : Nat) (a8 : Nat) (a9 : Nat) (a10 : Nat) (a11 : Nat) (a12 : Nat) (a13 : Nat) (a14 : Nat) (a15 : Nat) (T : Nat) (P : Nat) (pa : Int32) (kn : Int32) (rn : Nat) (ln : Nat) (th : Int32) (wt : Int32) (ne : Nat → Int32) (ei : Nat → Int32) (im : Nat → Int32) (gi : Nat → Int32) (sk : Nat → Int32) (k : Nat) (v : Int32) (hT : T ≤ 12) (hk : k < 28) : kR l D (kTY cI cJ cZ cO) yX8_newBehind wsX8_newBehind 2 45 [.ref z, .int (nI k), .int v] [(z, .inr (9, [.ref a0, .ref a1, .int (nI T), .ref a2, .ref a3, .ref a4, .ref a5, .ref a6, .int (nI P), .int pa, .int kn, .ref a7, .int (nI rn), .ref a8, .ref a9, .int (nI ln), .ref a10, .int th, .ref a11, .ref a12, .int wt, .ref a13, .ref a14, .ref a15])), (a2, .inl (cI, 14, .inl ne)), (a3, .inl (cI, 14, .inl ei)), (a1, .inl (cI, 12, .inl im)), (a4, .inl (cI, 14, .inl gi)), (a5, .inl (cI, 14, .inl sk))] (fun rv_ => rv_ = some (.int (nbF ne ei im gi sk T wt k v))) := by
  refine kEnterR (cc := cX8_newBehind) (maxL := 4) (ret := (some .int)) (by decide) rfl (Nat.le_of_ble_eq_true rfl) ?_
  intro p e s m args below meth c hx hb hr hml hts hown hlk hK hP ls hl
  have hl : lv_has ls 4 [(0, .ref z), (1, .int (nI k)), (2, .int v)] := hl
  have hw_f107 := hts (.fieldLink RX8 107 "WhatToReadModel" "without" "I") (by decide +kernel)
  have hi_X8 : ∀ w ∈ wsX80, w ∈ wsX8_newBehind := by decide +kernel
  refine lv_iload_n hx hb dX8_newBehind_0 rfl (lv_at hl 1 rfl) ?_
  refine lv_iconst (v := 2) hx hb dX8_newBehind_1 (by decide) ?_
  refine lv_idiv hx hb dX8_newBehind_2 (by decide) ?_
  refine lv_topi (fun nv_1 ev_1 => ?_)
  obtain rfl : nv_1 = nI (k / 2) := ev_1.trans (pk_div (d := 2) (by omega) (by decide) (by decide))
  refine lv_aload_n hx hb dX8_newBehind_3 rfl (lv_at hl 0 rfl) ?_
  refine va_get (D := D) (ci := 9) (v := .int wt) (C := RX8) (T := TX8) (N := 24) hx hb hts hi_X8 hown hK.1 hP 0 rfl rfl 20 (by decide) hw_f107 (fun _ h9 => h9) rfl dX8_newBehind_4 ?_
  refine lv_icmp_eq (tgt := 19) hx hb dX8_newBehind_7 (by decide) (fun c_7 => ?_) (fun c_7 => ?_)
  · skip
    refine lv_iconst (v := (-1)) hx hb dX8_newBehind_19 (by decide) ?_
    exact kRetIr hx hb hr hlk dX8_newBehind_20 (kpi (by simp [nbF, c_7]))
  · skip
    refine lv_aload_n hx hb dX8_newBehind_10 rfl (lv_at hl 0 rfl) ?_
    refine lv_iload_n hx hb dX8_newBehind_11 rfl (lv_at hl 1 rfl) ?_
    refine lv_iload_n hx hb dX8_newBehind_12 rfl (lv_at hl 2 rfl) ?_
    refine kGoR (va_runV (As := [.int (nI k), .int v]) (rest := []) ⟨hx, hb, hml, hown, hts⟩ (c_X8_canDo l D cI cJ cZ cO z a0 a1 a2 a3 a4 a5 a6 a7 a8 a9 a10 a11 a12 a13 a14 a15 T P pa kn rn ln th wt ne ei k v (by first | assumption | omega | decide)) (cwV 2 hts gX8_newBehind_X8_canDo rfl rfl rfl (by decide +kernel) ⟨Nat.le_of_ble_eq_true rfl, Nat.le_of_ble_eq_true rfl⟩) (kPreVR (ci := 9) (q0 := 0) hK (kPc_sub hP [0, 1, 2] rfl) rfl rfl rfl) rfl rfl hl.1 rfl (lv_room (Nat.le_of_ble_eq_true rfl)) dX8_newBehind_13 ⟨Nat.le_of_ble_eq_true rfl, Nat.le_of_ble_eq_true rfl⟩) (fun v_2 hv_2 => ?_)
    obtain rfl := hv_2
    refine W.eq (g2 := F0 m 16 ls [.int (k01 (canB ne ei k v))]) rfl ?_
    refine lv_if_ne (tgt := 21) hx hb dX8_newBehind_16 (by decide) (fun c_16 => ?_) (fun c_16 => ?_)
    · skip
      have c_16 := k01_n c_16
      refine lv_aload_n hx hb dX8_newBehind_21 rfl (lv_at hl 0 rfl) ?_
      refine lv_iload_n hx hb dX8_newBehind_22 rfl (lv_at hl 1 rfl) ?_
      refine lv_iload_n hx hb dX8_newBehind_23 rfl (lv_at hl 2 rfl) ?_
      refine kGoR (va_runV (As := [.int (nI k), .int v]) (rest := []) ⟨hx, hb, hml, hown, hts⟩ (c_X8_behind l D cI cJ cZ cO z a0 a1 a2 a3 a4 a5 a6 a7 a8 a9 a10 a11 a12 a13 a14 a15 T P pa kn rn ln th wt im gi sk k v (by first | assumption | omega | decide) (by first | assumption | omega | decide)) (cwV 2 hts gX8_newBehind_X8_behind rfl rfl rfl (by decide +kernel) ⟨Nat.le_of_ble_eq_true rfl, Nat.le_of_ble_eq_true rfl⟩) (kPreVR (ci := 9) (q0 := 0) hK (kPc_sub hP [0, 3, 4, 5] rfl) rfl rfl rfl) rfl rfl hl.1 rfl (lv_room (Nat.le_of_ble_eq_true rfl)) dX8_newBehind_24 ⟨Nat.le_of_ble_eq_true rfl, Nat.le_of_ble_eq_true rfl⟩) (fun v_3 hv_3 => ?_)
      obtain rfl := hv_3
      refine W.eq (g2 := F0 m 27 ls [.int (bhF im gi sk T k v)]) rfl ?_
      refine lv_istore_n (lv' := [(3, .int (bhF im gi sk T k v)), (0, .ref z), (1, .int (nI k)), (2, .int v)]) hx hb dX8_newBehind_27 rfl hl (by decide) rfl (fun ls hl => ?_)
      refine lv_iload_n hx hb dX8_newBehind_28 rfl (lv_at hl 0 rfl) ?_
      refine lv_iload_n hx hb dX8_newBehind_29 rfl (lv_at hl 3 rfl) ?_
      refine lv_icmp_ne (tgt := 37) hx hb dX8_newBehind_30 (by decide) (fun c_30 => ?_) (fun c_30 => ?_)
      · skip
        refine lv_iload_n hx hb dX8_newBehind_37 rfl (lv_at hl 0 rfl) ?_
        exact kRetIr hx hb hr hlk dX8_newBehind_38 (kpi (by simp [nbF, c_7, c_16, c_30]))
      · skip
        refine lv_iconst (v := (-1)) hx hb dX8_newBehind_33 (by decide) ?_
        refine lv_goto (tgt := 38) hx hb dX8_newBehind_34 (by decide) ?_
        exact kRetIr hx hb hr hlk dX8_newBehind_38 (kpi (by simp [nbF, c_7, c_16, c_30]))
    · skip
      have c_16 := k01_z c_16
      refine lv_iconst (v := (-1)) hx hb dX8_newBehind_19 (by decide) ?_
      exact kRetIr hx hb hr hlk dX8_newBehind_20 (kpi (by simp [nbF, c_7, c_16]))

set_option maxHeartbeats 4000000 in
set_option maxRecDepth 100000 in
theorem c_X8_isTight (l : Launch) (D : va_G) (cI cJ cZ cO : ClassId) (z : Nat) (a0 : Nat) (a1 : Nat) (a2 : Nat) (a3 : Nat) (a4 : Nat) (a5 : Nat) (a6 : Nat) (a7 : Nat) (a8 : Nat) (a9 : Nat) (a10 : Nat) (a11 : Nat) (a12 : Nat) (a13 : Nat) (a14 : Nat) (a15 : Nat) (T : Nat) (P : Nat) (pa : Int32) (kn : Int32) (rn : Nat) (ln : Nat) (th : Int32) (wt : Int32) (co : Nat → Int32) (st : Nat → Int32) (pg : Nat → Int32) (k : Nat) (a : Nat) (b : Nat) (hk : k < 28) (ha : a < 4096) (hb4 : b < 4096) : kR l D (kTY cI cJ cZ cO) yX8_isTight wsX8_isTight 1 22 [.ref z, .int (nI k), .int (nI a), .int (nI b)] [(z, .inr (9, [.ref a0, .ref a1, .int (nI T), .ref a2, .ref a3, .ref a4, .ref a5, .ref a6, .int (nI P), .int pa, .int kn, .ref a7, .int (nI rn), .ref a8, .ref a9, .int (nI ln), .ref a10, .int th, .ref a11, .ref a12, .int wt, .ref a13, .ref a14, .ref a15])), (a11, .inl (cI, 4096, .inl co)), (a12, .inl (cI, 4096, .inl st)), (a6, .inl (cI, 14, .inl pg))] (fun rv_ => rv_ = some (.int (k01 (tightB co st pg pa k a b)))) := by
  refine kEnterR (cc := cX8_isTight) (maxL := 4) (ret := (some .boolean)) (by decide) rfl (Nat.le_of_ble_eq_true rfl) ?_
  intro p e s m args below meth c hx hb hr hml hts hown hlk hK hP ls hl
  have hl : lv_has ls 4 [(0, .ref z), (1, .int (nI k)), (2, .int (nI a)), (3, .int (nI b))] := hl
  have hw_f47 := hts (.fieldLink RX8 47 "WhatToReadModel" "cost" "[I") (by decide +kernel)
  have hi_X8 : ∀ w ∈ wsX80, w ∈ wsX8_isTight := by decide +kernel
  have hw_f50 := hts (.fieldLink RX8 50 "WhatToReadModel" "steps" "[I") (by decide +kernel)
  refine lv_aload_n hx hb dX8_isTight_0 rfl (lv_at hl 0 rfl) ?_
  refine va_get (D := D) (ci := 9) (v := .ref a11) (C := RX8) (T := TX8) (N := 24) hx hb hts hi_X8 hown hK.1 hP 0 rfl rfl 18 (by decide) hw_f47 (fun _ h9 => h9) rfl dX8_isTight_1 ?_
  refine lv_iload_n hx hb dX8_isTight_4 rfl (lv_at hl 2 rfl) ?_
  refine va_iald hx hb hK.1 hP 1 0 rfl rfl (vp_in_nI (by omega) (by omega)) dX8_isTight_5 ?_
  refine lv_topi (fun nv_1 ev_1 => ?_)
  obtain rfl : nv_1 = co a := by rw [ev_1, nI_clamp (by omega)]
  refine lv_aload_n hx hb dX8_isTight_6 rfl (lv_at hl 0 rfl) ?_
  refine lv_iload_n hx hb dX8_isTight_7 rfl (lv_at hl 1 rfl) ?_
  refine kGoR (va_runV (As := [.int (nI k)]) (rest := [.int (co a)]) ⟨hx, hb, hml, hown, hts⟩ (c_X8_time l D cI cJ cZ cO z a0 a1 a2 a3 a4 a5 a6 a7 a8 a9 a10 a11 a12 a13 a14 a15 T P pa kn rn ln th wt pg k (by first | assumption | omega | decide)) (cwV 1 hts gX8_isTight_X8_time rfl rfl rfl (by decide +kernel) ⟨Nat.le_of_ble_eq_true rfl, Nat.le_of_ble_eq_true rfl⟩) (kPreVR (ci := 9) (q0 := 0) hK (kPc_sub hP [0, 3] rfl) rfl rfl rfl) rfl rfl hl.1 rfl (lv_room (Nat.le_of_ble_eq_true rfl)) dX8_isTight_8 ⟨Nat.le_of_ble_eq_true rfl, Nat.le_of_ble_eq_true rfl⟩) (fun v_2 hv_2 => ?_)
  obtain rfl := hv_2
  refine W.eq (g2 := F0 m 11 ls [.int (mtimeF pg pa k), .int (co a)]) rfl ?_
  refine lv_iadd hx hb dX8_isTight_11 ?_
  refine lv_aload_n hx hb dX8_isTight_12 rfl (lv_at hl 0 rfl) ?_
  refine va_get (D := D) (ci := 9) (v := .ref a11) (C := RX8) (T := TX8) (N := 24) hx hb hts hi_X8 hown hK.1 hP 0 rfl rfl 18 (by decide) hw_f47 (fun _ h9 => h9) rfl dX8_isTight_13 ?_
  refine lv_iload_n hx hb dX8_isTight_16 rfl (lv_at hl 3 rfl) ?_
  refine va_iald hx hb hK.1 hP 1 0 rfl rfl (vp_in_nI (by omega) (by omega)) dX8_isTight_17 ?_
  refine lv_topi (fun nv_3 ev_3 => ?_)
  obtain rfl : nv_3 = co b := by rw [ev_3, nI_clamp (by omega)]
  refine lv_icmp_ne (tgt := 42) hx hb dX8_isTight_18 (by decide) (fun c_18 => ?_) (fun c_18 => ?_)
  · skip
    refine lv_iconst (v := 0) hx hb dX8_isTight_42 (by decide) ?_
    exact kRetZr (tightB co st pg pa k a b) (by first | rfl | (rw [ex, e12]; done) | (rw [em, e12]; done) | (rw [ey, e12]; done) | (rw [e12]; done) | (simp [tightB, k01, c_18]; done) | (simp_all [tightB, k01]; done)) hx hb hr hlk dX8_isTight_43 rfl
  · skip
    refine lv_aload_n hx hb dX8_isTight_21 rfl (lv_at hl 0 rfl) ?_
    refine va_get (D := D) (ci := 9) (v := .ref a12) (C := RX8) (T := TX8) (N := 24) hx hb hts hi_X8 hown hK.1 hP 0 rfl rfl 19 (by decide) hw_f50 (fun _ h9 => h9) rfl dX8_isTight_22 ?_
    refine lv_iload_n hx hb dX8_isTight_25 rfl (lv_at hl 2 rfl) ?_
    refine va_iald hx hb hK.1 hP 2 0 rfl rfl (vp_in_nI (by omega) (by omega)) dX8_isTight_26 ?_
    refine lv_topi (fun nv_4 ev_4 => ?_)
    obtain rfl : nv_4 = st a := by rw [ev_4, nI_clamp (by omega)]
    refine lv_iconst (v := 1) hx hb dX8_isTight_27 (by decide) ?_
    refine lv_iadd hx hb dX8_isTight_28 ?_
    refine lv_aload_n hx hb dX8_isTight_29 rfl (lv_at hl 0 rfl) ?_
    refine va_get (D := D) (ci := 9) (v := .ref a12) (C := RX8) (T := TX8) (N := 24) hx hb hts hi_X8 hown hK.1 hP 0 rfl rfl 19 (by decide) hw_f50 (fun _ h9 => h9) rfl dX8_isTight_30 ?_
    refine lv_iload_n hx hb dX8_isTight_33 rfl (lv_at hl 3 rfl) ?_
    refine va_iald hx hb hK.1 hP 2 0 rfl rfl (vp_in_nI (by omega) (by omega)) dX8_isTight_34 ?_
    refine lv_topi (fun nv_5 ev_5 => ?_)
    obtain rfl : nv_5 = st b := by rw [ev_5, nI_clamp (by omega)]
    refine lv_icmp_ne (tgt := 42) hx hb dX8_isTight_35 (by decide) (fun c_35 => ?_) (fun c_35 => ?_)
    · skip
      refine lv_iconst (v := 0) hx hb dX8_isTight_42 (by decide) ?_
      exact kRetZr (tightB co st pg pa k a b) (by first | rfl | (rw [ex, e12]; done) | (rw [em, e12]; done) | (rw [ey, e12]; done) | (rw [e12]; done) | (simp [tightB, k01, c_18, c_35]; done) | (simp_all [tightB, k01]; done)) hx hb hr hlk dX8_isTight_43 rfl
    · skip
      refine lv_iconst (v := 1) hx hb dX8_isTight_38 (by decide) ?_
      refine lv_goto (tgt := 43) hx hb dX8_isTight_39 (by decide) ?_
      exact kRetZr (tightB co st pg pa k a b) (by first | rfl | (rw [ex, e12]; done) | (rw [em, e12]; done) | (rw [ey, e12]; done) | (rw [e12]; done) | (simp [tightB, k01, c_18, c_35]; done) | (simp_all [tightB, k01]; done)) hx hb hr hlk dX8_isTight_43 rfl

set_option maxHeartbeats 4000000 in
set_option maxRecDepth 100000 in
theorem c_X8_isState (l : Launch) (D : va_G) (cI cJ cZ cO : ClassId) (z : Nat) (a0 : Nat) (a1 : Nat) (a2 : Nat) (a3 : Nat) (a4 : Nat) (a5 : Nat) (a6 : Nat) (a7 : Nat) (a8 : Nat) (a9 : Nat) (a10 : Nat) (a11 : Nat) (a12 : Nat) (a13 : Nat) (a14 : Nat) (a15 : Nat) (T : Nat) (P : Nat) (pa : Int32) (kn : Int32) (rn : Nat) (ln : Nat) (th : Int32) (wt : Int32) (im : Nat → Int32) (an : Nat → Int32) (v : Int32) (hT : T ≤ 12) : kR l D (kTY cI cJ cZ cO) yX8_isState wsX8_isState 1 23 [.ref z, .int v] [(z, .inr (9, [.ref a0, .ref a1, .int (nI T), .ref a2, .ref a3, .ref a4, .ref a5, .ref a6, .int (nI P), .int pa, .int kn, .ref a7, .int (nI rn), .ref a8, .ref a9, .int (nI ln), .ref a10, .int th, .ref a11, .ref a12, .int wt, .ref a13, .ref a14, .ref a15])), (a1, .inl (cI, 12, .inl im)), (a10, .inl (cI, 12, .inl an))] (fun rv_ => rv_ = some (.int (k01 (stateB im an T v)))) := by
  refine kEnterR (cc := cX8_isState) (maxL := 3) (ret := (some .boolean)) (by decide) rfl (Nat.le_of_ble_eq_true rfl) ?_
  intro p e s m args below meth c hx hb hr hml hts hown hlk hK hP ls hl
  have hl : lv_has ls 3 [(0, .ref z), (1, .int v)] := hl
  have hw_f66 := hts (.fieldLink RX8 66 "WhatToReadModel" "topics" "I") (by decide +kernel)
  have hi_X8 : ∀ w ∈ wsX80, w ∈ wsX8_isState := by decide +kernel
  have hw_f44 := hts (.fieldLink RX8 44 "WhatToReadModel" "answers" "[I") (by decide +kernel)
  refine lv_aload_n hx hb dX8_isState_0 rfl (lv_at hl 0 rfl) ?_
  refine lv_iload_n hx hb dX8_isState_1 rfl (lv_at hl 1 rfl) ?_
  refine kGoR (va_runV (As := [.int v]) (rest := []) ⟨hx, hb, hml, hown, hts⟩ (c_X8_withAll l D cI cJ cZ cO z a0 a1 a2 a3 a4 a5 a6 a7 a8 a9 a10 a11 a12 a13 a14 a15 T P pa kn rn ln th wt im v (by first | assumption | omega | decide)) (cwV 1 hts gX8_isState_X8_withAll rfl rfl rfl (by decide +kernel) ⟨Nat.le_of_ble_eq_true rfl, Nat.le_of_ble_eq_true rfl⟩) (kPreVR (ci := 9) (q0 := 0) hK (kPc_sub hP [0, 1] rfl) rfl rfl rfl) rfl rfl hl.1 rfl (lv_room (Nat.le_of_ble_eq_true rfl)) dX8_isState_2 ⟨Nat.le_of_ble_eq_true rfl, Nat.le_of_ble_eq_true rfl⟩) (fun v_1 hv_1 => ?_)
  obtain rfl := hv_1
  refine W.eq (g2 := F0 m 5 ls [.int (closF im v T)]) rfl ?_
  refine lv_iload_n hx hb dX8_isState_5 rfl (lv_at hl 1 rfl) ?_
  refine lv_icmp_eq (tgt := 11) hx hb dX8_isState_6 (by decide) (fun c_6 => ?_) (fun c_6 => ?_)
  · skip
    refine lv_iconst (v := 0) hx hb dX8_isState_11 (by decide) ?_
    refine lv_istore_n (lv' := [(2, .int 0), (0, .ref z), (1, .int v)]) hx hb dX8_isState_12 rfl hl (by decide) rfl (fun ls hl => ?_)
    have hloop_13 : ∀ (fu : Nat) (t : Nat), T - t < fu → t ≤ T → ansB an v t = true → ∀ ls : Array Slot, lv_has ls 3 [(0, .ref z), (1, .int v), (2, .int (nI t))] → W p l e ({ frames := 1, cells := 0, slots := 0, locals := 23 }) s m args below meth c s.heap [] 0 0 (MQ below (kQr (fun rv_ => rv_ = some (.int (k01 (stateB im an T v))))) args s 0 0 (fun _ => False)) (F0 m 13 ls []) := by
      intro fu
      induction fu with
      | zero => intro t hmu; exact absurd hmu (Nat.not_lt_zero _)
      | succ fu ih_13 =>
        intro t hmu_13 ht eb ls hl
        refine lv_iload_n hx hb dX8_isState_13 rfl (lv_at hl 2 rfl) ?_
        refine lv_aload_n hx hb dX8_isState_14 rfl (lv_at hl 0 rfl) ?_
        refine va_get (D := D) (ci := 9) (v := .int (nI T)) (C := RX8) (T := TX8) (N := 24) hx hb hts hi_X8 hown hK.1 hP 0 rfl rfl 2 (by decide) hw_f66 (fun _ h9 => h9) rfl dX8_isState_15 ?_
        refine lv_icmp_ge (tgt := 61) hx hb dX8_isState_18 (by decide) (fun c_18 => ?_) (fun c_18 => ?_)
        · skip
          have nc_18 : T ≤ t := (nI_leI (a := T) (b := t) (by omega) (by omega)).mp c_18
          have e12 : t = T := by omega
          refine lv_iconst (v := 1) hx hb dX8_isState_61 (by decide) ?_
          exact kRetZr (stateB im an T v) (by rw [e12] at eb; simp [stateB, k01, c_6, eb]) hx hb hr hlk dX8_isState_62 rfl
        · skip
          have nc_18 : ¬ T ≤ t := (not_congr (nI_leI (a := T) (b := t) (by omega) (by omega))).mp c_18
          refine lv_aload_n hx hb dX8_isState_21 rfl (lv_at hl 0 rfl) ?_
          refine va_get (D := D) (ci := 9) (v := .ref a10) (C := RX8) (T := TX8) (N := 24) hx hb hts hi_X8 hown hK.1 hP 0 rfl rfl 16 (by decide) hw_f44 (fun _ h9 => h9) rfl dX8_isState_22 ?_
          refine lv_iload_n hx hb dX8_isState_25 rfl (lv_at hl 2 rfl) ?_
          refine va_iald hx hb hK.1 hP 2 0 rfl rfl (vp_in_nI (by omega) (by omega)) dX8_isState_26 ?_
          refine lv_topi (fun nv_2 ev_2 => ?_)
          obtain rfl : nv_2 = an t := by rw [ev_2, nI_clamp (by omega)]
          refine lv_if_eq (tgt := 55) hx hb dX8_isState_27 (by decide) (fun c_27 => ?_) (fun c_27 => ?_)
          · skip
            refine lv_iinc (v := nI (t + 1)) (lv' := [(2, .int (nI (t + 1))), (0, .ref z), (1, .int v)]) hx hb dX8_isState_55 hl (k := 2) rfl (nI_1 _) (by decide) rfl (fun ls hl => ?_)
            refine lv_goto (tgt := 13) hx hb dX8_isState_58 (by decide) ?_
            exact ih_13  (t + 1) (by omega) (by first | omega | assumption | exact Nat.zero_le _) (by unfold ansB; rw [eb]; simp [c_6, c_18, nc_18, c_27, k01]) _ (lv_sub hl [1, 2, 0] rfl)
          · skip
            refine lv_iload_n hx hb dX8_isState_30 rfl (lv_at hl 1 rfl) ?_
            refine lv_iload_n hx hb dX8_isState_31 rfl (lv_at hl 2 rfl) ?_
            refine lv_ishr hx hb dX8_isState_32 ?_
            refine lv_iconst (v := 1) hx hb dX8_isState_33 (by decide) ?_
            refine lv_iand hx hb dX8_isState_34 ?_
            refine lv_aload_n hx hb dX8_isState_35 rfl (lv_at hl 0 rfl) ?_
            refine va_get (D := D) (ci := 9) (v := .ref a10) (C := RX8) (T := TX8) (N := 24) hx hb hts hi_X8 hown hK.1 hP 0 rfl rfl 16 (by decide) hw_f44 (fun _ h9 => h9) rfl dX8_isState_36 ?_
            refine lv_iload_n hx hb dX8_isState_39 rfl (lv_at hl 2 rfl) ?_
            refine va_iald hx hb hK.1 hP 2 0 rfl rfl (vp_in_nI (by omega) (by omega)) dX8_isState_40 ?_
            refine lv_topi (fun nv_3 ev_3 => ?_)
            obtain rfl : nv_3 = an t := by rw [ev_3, nI_clamp (by omega)]
            refine lv_iconst (v := 1) hx hb dX8_isState_41 (by decide) ?_
            refine lv_icmp_ne (tgt := 49) hx hb dX8_isState_42 (by decide) (fun c_42 => ?_) (fun c_42 => ?_)
            · skip
              refine lv_iconst (v := 0) hx hb dX8_isState_49 (by decide) ?_
              refine lv_icmp_eq (tgt := 55) hx hb dX8_isState_50 (by decide) (fun c_50 => ?_) (fun c_50 => ?_)
              · skip
                refine lv_iinc (v := nI (t + 1)) (lv' := [(2, .int (nI (t + 1))), (0, .ref z), (1, .int v)]) hx hb dX8_isState_55 hl (k := 2) rfl (nI_1 _) (by decide) rfl (fun ls hl => ?_)
                refine lv_goto (tgt := 13) hx hb dX8_isState_58 (by decide) ?_
                exact ih_13  (t + 1) (by omega) (by first | omega | assumption | exact Nat.zero_le _) (by unfold ansB; rw [eb]; simp [c_6, c_18, nc_18, c_27, c_42, c_50, k01]) _ (lv_sub hl [1, 2, 0] rfl)
              · skip
                refine lv_iconst (v := 0) hx hb dX8_isState_53 (by decide) ?_
                exact kRetZr (stateB im an T v) (by have hq := ansB_no (an := an) (v := v) (t := t) (by simp [c_6, c_18, nc_18, c_27, c_42, c_50, k01]) T (by omega); simp [stateB, k01, hq]) hx hb hr hlk dX8_isState_54 rfl
            · skip
              refine lv_iconst (v := 1) hx hb dX8_isState_45 (by decide) ?_
              refine lv_goto (tgt := 50) hx hb dX8_isState_46 (by decide) ?_
              refine lv_icmp_eq (tgt := 55) hx hb dX8_isState_50 (by decide) (fun c_50 => ?_) (fun c_50 => ?_)
              · skip
                refine lv_iinc (v := nI (t + 1)) (lv' := [(2, .int (nI (t + 1))), (0, .ref z), (1, .int v)]) hx hb dX8_isState_55 hl (k := 2) rfl (nI_1 _) (by decide) rfl (fun ls hl => ?_)
                refine lv_goto (tgt := 13) hx hb dX8_isState_58 (by decide) ?_
                exact ih_13  (t + 1) (by omega) (by first | omega | assumption | exact Nat.zero_le _) (by unfold ansB; rw [eb]; simp [c_6, c_18, nc_18, c_27, c_42, c_50, k01]) _ (lv_sub hl [1, 2, 0] rfl)
              · skip
                refine lv_iconst (v := 0) hx hb dX8_isState_53 (by decide) ?_
                exact kRetZr (stateB im an T v) (by have hq := ansB_no (an := an) (v := v) (t := t) (by simp [c_6, c_18, nc_18, c_27, c_42, c_50, k01]) T (by omega); simp [stateB, k01, hq]) hx hb hr hlk dX8_isState_54 rfl
    exact hloop_13 ((T - 0) + 1) 0 (Nat.lt_succ_self _) (by first | omega | assumption | exact Nat.zero_le _) (by rfl) _ (lv_sub hl [1, 2, 0] rfl)
  · skip
    refine lv_iconst (v := 0) hx hb dX8_isState_9 (by decide) ?_
    exact kRetZr (stateB im an T v) (by simp [stateB, k01, c_6]) hx hb hr hlk dX8_isState_10 rfl

set_option maxHeartbeats 4000000 in
set_option maxRecDepth 100000 in
theorem c_X8_stateMany (l : Launch) (D : va_G) (cI cJ cZ cO : ClassId) (z : Nat) (a0 : Nat) (a1 : Nat) (a2 : Nat) (a3 : Nat) (a4 : Nat) (a5 : Nat) (a6 : Nat) (a7 : Nat) (a8 : Nat) (a9 : Nat) (a10 : Nat) (a11 : Nat) (a12 : Nat) (a13 : Nat) (a14 : Nat) (a15 : Nat) (T : Nat) (P : Nat) (pa : Int32) (kn : Int32) (rn : Nat) (ln : Nat) (th : Int32) (wt : Int32) (im : Nat → Int32) (an : Nat → Int32) (hT : T ≤ 12) : kR l D (kTY cI cJ cZ cO) yX8_stateMany wsX8_stateMany 2 45 [.ref z] [(z, .inr (9, [.ref a0, .ref a1, .int (nI T), .ref a2, .ref a3, .ref a4, .ref a5, .ref a6, .int (nI P), .int pa, .int kn, .ref a7, .int (nI rn), .ref a8, .ref a9, .int (nI ln), .ref a10, .int th, .ref a11, .ref a12, .int wt, .ref a13, .ref a14, .ref a15])), (a1, .inl (cI, 12, .inl im)), (a10, .inl (cI, 12, .inl an))] (fun rv_ => rv_ = some (.int (nI (manyF im an T (2 ^ T))))) := by
  refine kEnterR (cc := cX8_stateMany) (maxL := 3) (ret := (some .int)) (by decide) rfl (Nat.le_of_ble_eq_true rfl) ?_
  intro p e s m args below meth c hx hb hr hml hts hown hlk hK hP ls hl
  have hl : lv_has ls 3 [(0, .ref z)] := hl
  have hw_f66 := hts (.fieldLink RX8 66 "WhatToReadModel" "topics" "I") (by decide +kernel)
  have hi_X8 : ∀ w ∈ wsX80, w ∈ wsX8_stateMany := by decide +kernel
  refine lv_iconst (v := 0) hx hb dX8_stateMany_0 (by decide) ?_
  refine lv_istore_n (lv' := [(1, .int 0), (0, .ref z)]) hx hb dX8_stateMany_1 rfl hl (by decide) rfl (fun ls hl => ?_)
  refine lv_iconst (v := 0) hx hb dX8_stateMany_2 (by decide) ?_
  refine lv_istore_n (lv' := [(2, .int 0), (1, .int 0), (0, .ref z)]) hx hb dX8_stateMany_3 rfl hl (by decide) rfl (fun ls hl => ?_)
  have hloop_4 : ∀ (fu : Nat) (v : Nat) (q : Nat), 2 ^ T - v < fu → v ≤ 2 ^ T → q ≤ v → q = manyF im an T v → ∀ ls : Array Slot, lv_has ls 3 [(0, .ref z), (1, .int (nI q)), (2, .int (nI v))] → W p l e ({ frames := 2, cells := 0, slots := 0, locals := 45 }) s m args below meth c s.heap [] 0 0 (MQ below (kQr (fun rv_ => rv_ = some (.int (nI (manyF im an T (2 ^ T)))))) args s 0 0 (fun _ => False)) (F0 m 4 ls []) := by
    intro fu
    induction fu with
    | zero => intro v q hmu; exact absurd hmu (Nat.not_lt_zero _)
    | succ fu ih_4 =>
      intro v q hmu_4 hv hq eq1 ls hl
      have hpw := kpow hT
      refine lv_iload_n hx hb dX8_stateMany_4 rfl (lv_at hl 2 rfl) ?_
      refine lv_iconst (v := 1) hx hb dX8_stateMany_5 (by decide) ?_
      refine lv_aload_n hx hb dX8_stateMany_6 rfl (lv_at hl 0 rfl) ?_
      refine va_get (D := D) (ci := 9) (v := .int (nI T)) (C := RX8) (T := TX8) (N := 24) hx hb hts hi_X8 hown hK.1 hP 0 rfl rfl 2 (by decide) hw_f66 (fun _ h9 => h9) rfl dX8_stateMany_7 ?_
      refine lv_ishl hx hb dX8_stateMany_10 ?_
      refine lv_topi (fun nv_1 ev_1 => ?_)
      obtain rfl : nv_1 = nI (2 ^ T) := ev_1.trans (kshl1 T hT)
      refine lv_icmp_ge (tgt := 31) hx hb dX8_stateMany_11 (by decide) (fun c_11 => ?_) (fun c_11 => ?_)
      · skip
        have nc_11 : (2 ^ T) ≤ v := (nI_leI (a := 2 ^ T) (b := v) (by omega) (by omega)).mp c_11
        have e12 : v = 2 ^ T := by omega
        refine lv_iload_n hx hb dX8_stateMany_31 rfl (lv_at hl 1 rfl) ?_
        exact kRetIr hx hb hr hlk dX8_stateMany_32 (kpi (by rw [eq1, e12]))
      · skip
        have nc_11 : ¬ (2 ^ T) ≤ v := (not_congr (nI_leI (a := 2 ^ T) (b := v) (by omega) (by omega))).mp c_11
        refine lv_aload_n hx hb dX8_stateMany_14 rfl (lv_at hl 0 rfl) ?_
        refine lv_iload_n hx hb dX8_stateMany_15 rfl (lv_at hl 2 rfl) ?_
        refine kGoR (va_runV (As := [.int (nI v)]) (rest := []) ⟨hx, hb, hml, hown, hts⟩ (c_X8_isState l D cI cJ cZ cO z a0 a1 a2 a3 a4 a5 a6 a7 a8 a9 a10 a11 a12 a13 a14 a15 T P pa kn rn ln th wt im an (nI v) (by first | assumption | omega | decide)) (cwV 1 hts gX8_stateMany_X8_isState rfl rfl rfl (by decide +kernel) ⟨Nat.le_of_ble_eq_true rfl, Nat.le_of_ble_eq_true rfl⟩) (kPreVR (ci := 9) (q0 := 0) hK (kPc_sub hP [0, 1, 2] rfl) rfl rfl rfl) rfl rfl hl.1 rfl (lv_room (Nat.le_of_ble_eq_true rfl)) dX8_stateMany_16 ⟨Nat.le_of_ble_eq_true rfl, Nat.le_of_ble_eq_true rfl⟩) (fun v_2 hv_2 => ?_)
        obtain rfl := hv_2
        refine W.eq (g2 := F0 m 19 ls [.int (k01 (stateB im an T (nI v)))]) rfl ?_
        refine lv_if_eq (tgt := 25) hx hb dX8_stateMany_19 (by decide) (fun c_19 => ?_) (fun c_19 => ?_)
        · skip
          have c_19 := k01_z c_19
          refine lv_iinc (v := nI (v + 1)) (lv' := [(2, .int (nI (v + 1))), (0, .ref z), (1, .int (nI q))]) hx hb dX8_stateMany_25 hl (k := 2) rfl (nI_1 _) (by decide) rfl (fun ls hl => ?_)
          refine lv_goto (tgt := 4) hx hb dX8_stateMany_28 (by decide) ?_
          exact ih_4  (v + 1) q (by omega) (by first | omega | assumption | exact Nat.zero_le _) (by first | omega | assumption | exact Nat.zero_le _) (by rw [eq1]; simp [manyF, c_11, nc_11, c_19]) _ (lv_sub hl [1, 2, 0] rfl)
        · skip
          have c_19 := k01_n c_19
          refine lv_iinc (v := nI (q + 1)) (lv' := [(1, .int (nI (q + 1))), (0, .ref z), (2, .int (nI v))]) hx hb dX8_stateMany_22 hl (k := 1) rfl (nI_1 _) (by decide) rfl (fun ls hl => ?_)
          refine lv_iinc (v := nI (v + 1)) (lv' := [(2, .int (nI (v + 1))), (1, .int (nI (q + 1))), (0, .ref z)]) hx hb dX8_stateMany_25 hl (k := 2) rfl (nI_1 _) (by decide) rfl (fun ls hl => ?_)
          refine lv_goto (tgt := 4) hx hb dX8_stateMany_28 (by decide) ?_
          exact ih_4  (v + 1) (q + 1) (by omega) (by first | omega | assumption | exact Nat.zero_le _) (by first | omega | assumption | exact Nat.zero_le _) (by rw [eq1]; simp [manyF, c_11, nc_11, c_19]) _ (lv_sub hl [2, 1, 0] rfl)
  exact hloop_4 ((2 ^ T - 0) + 1) 0 0 (Nat.lt_succ_self _) (by first | omega | assumption | exact Nat.zero_le _) (by first | omega | assumption | exact Nat.zero_le _) (by rfl) _ (lv_sub hl [2, 1, 0] rfl)
