/-! ===== the reference: shortens, lay, reach, the new object ===== -/
def mW (we : Nat → Int32) (tm : Int32) : Nat → Nat → Int32 → Nat × Int32
  | 0, w, u => (w, u)
  | f + 1, w, u => if w < 52 ∧ ¬ u + tm ≤ we w then mW we tm f (w + 1) 0 else (w, u)
def mG (we : Nat → Int32) (ok : Nat → Bool) (tm : Nat → Int32) (i : Nat) (s : Nat × Int32 × (Nat → Int32)) : Option (Nat × Int32 × (Nat → Int32)) :=
  if ok i = false ∨ (mW we (tm i) (52 - s.1) s.1 s.2.1).1 = 52 then none else some ((mW we (tm i) (52 - s.1) s.1 s.2.1).1, (mW we (tm i) (52 - s.1) s.1 s.2.1).2 + tm i, upd s.2.2 i (nI (mW we (tm i) (52 - s.1) s.1 s.2.1).1))
def mS (we : Nat → Int32) (ok : Nat → Bool) (tm : Nat → Int32) (F : Nat) (pl : Nat → Int32) : Nat → Option (Nat × Int32 × (Nat → Int32))
  | 0 => some (F, 0, pl)
  | i + 1 => (mS we ok tm F pl i).bind (mG we ok tm i)
theorem mW_id {we : Nat → Int32} {tm : Int32} {w : Nat} {u : Int32} (h : 52 ≤ w ∨ u + tm ≤ we w) : ∀ f, mW we tm f w u = (w, u)
  | 0 => rfl
  | f + 1 => by
    unfold mW
    rw [if_neg]
    intro q
    rcases h with h | h
    · omega
    · exact q.2 h
theorem mW_go {we : Nat → Int32} {tm : Int32} {w : Nat} {u : Int32} {r : Nat × Int32} (hR : mW we tm (52 - w) w u = r) (hw : ¬ 52 ≤ w) (h : ¬ u + tm ≤ we w) : mW we tm (52 - (w + 1)) (w + 1) 0 = r := by
  rw [show 52 - w = (52 - (w + 1)) + 1 by omega] at hR
  rw [← hR]
  exact (if_pos ⟨by omega, h⟩).symm
theorem mS_stuck {we : Nat → Int32} {ok : Nat → Bool} {tm : Nat → Int32} {F i : Nat} {pl : Nat → Int32} (h : mS we ok tm F pl i = none) : ∀ j, mS we ok tm F pl (i + j) = none
  | 0 => h
  | j + 1 => by
    show (mS we ok tm F pl (i + j)).bind _ = none
    rw [mS_stuck h j]
    rfl
theorem mS_fail {we : Nat → Int32} {ok : Nat → Bool} {tm : Nat → Int32} {F i rn : Nat} {pl : Nat → Int32} {s : Nat × Int32 × (Nat → Int32)} (h : mS we ok tm F pl i = some s) (hi : i < rn) (hg : mG we ok tm i s = none) : mS we ok tm F pl rn = none := by
  have h1 : mS we ok tm F pl (i + 1) = none := by
    show (mS we ok tm F pl i).bind _ = none
    rw [h]; exact hg
  have := mS_stuck h1 (rn - (i + 1))
  rwa [show i + 1 + (rn - (i + 1)) = rn by omega] at this
theorem mS_step {we : Nat → Int32} {ok : Nat → Bool} {tm : Nat → Int32} {F i w w2 : Nat} {pl d : Nat → Int32} {u u2 : Int32} (h : mS we ok tm F pl i = some (w, u, d)) (hR : mW we (tm i) (52 - w2) w2 u2 = mW we (tm i) (52 - w) w u) (hs : 52 ≤ w2 ∨ u2 + tm i ≤ we w2) (h1 : ok i = true) (h2 : ¬ w2 = 52) : mS we ok tm F pl (i + 1) = some (w2, u2 + tm i, upd d i (nI w2)) := by
  show (mS we ok tm F pl i).bind (mG we ok tm i) = _
  rw [h]
  show mG we ok tm i (w, u, d) = _
  unfold mG
  dsimp only
  rw [← hR, mW_id hs, if_neg]
  intro q
  rcases q with q | q
  · rw [h1] at q; cases q
  · exact h2 q
theorem mS_bad {we : Nat → Int32} {ok : Nat → Bool} {tm : Nat → Int32} {F i w w2 rn : Nat} {pl d : Nat → Int32} {u u2 : Int32} (h : mS we ok tm F pl i = some (w, u, d)) (hR : mW we (tm i) (52 - w2) w2 u2 = mW we (tm i) (52 - w) w u) (h2 : w2 = 52) (hi : i < rn) : mS we ok tm F pl rn = none := by
  refine mS_fail h hi ?_
  unfold mG
  dsimp only
  rw [← hR, mW_id (Or.inl (by omega)), if_pos (Or.inr h2)]
theorem mS_bad2 {we : Nat → Int32} {ok : Nat → Bool} {tm : Nat → Int32} {F i w rn : Nat} {pl d : Nat → Int32} {u : Int32} (h : mS we ok tm F pl i = some (w, u, d)) (h2 : ok i = false) (hi : i < rn) : mS we ok tm F pl rn = none := by
  refine mS_fail h hi ?_
  unfold mG
  rw [if_pos (Or.inl h2)]
def rchI (ne ei im gi sk : Nat → Int32) (T P : Nat) (kn : Int32) : Nat → Int32
  | 0 => kn
  | j + 1 => rchF ne ei im gi sk T (rchI ne ei im gi sk T P kn j) P
theorem rchI_fix {ne ei im gi sk : Nat → Int32} {T P : Nat} {kn : Int32} {j : Nat} (h : rchF ne ei im gi sk T (rchI ne ei im gi sk T P kn j) P = rchI ne ei im gi sk T P kn j) : ∀ d, rchI ne ei im gi sk T P kn (j + d) = rchI ne ei im gi sk T P kn j
  | 0 => rfl
  | d + 1 => by
    show rchF ne ei im gi sk T (rchI ne ei im gi sk T P kn (j + d)) P = _
    rw [rchI_fix h d]; exact h
def hRp (im gi sk : Nat → Int32) (T P : Nat) : Prop := ∀ k, k < 2 * P → ∀ v, v < 2 ^ T → ∃ u, v ≤ u ∧ u < 2 ^ T ∧ bhF im gi sk T k (nI v) = nI u

set_option maxHeartbeats 4000000 in
set_option maxRecDepth 100000 in
theorem c_X8_shortens (l : Launch) (D : va_G) (cI cJ cZ cO : ClassId) (z : Nat) (a0 : Nat) (a1 : Nat) (a2 : Nat) (a3 : Nat) (a4 : Nat) (a5 : Nat) (a6 : Nat) (a7 : Nat) (a8 : Nat) (a9 : Nat) (a10 : Nat) (a11 : Nat) (a12 : Nat) (a13 : Nat) (a14 : Nat) (a15 : Nat) (T : Nat) (P : Nat) (pa : Int32) (rn : Nat) (ln : Nat) (th : Int32) (wt : Int32) (K : Nat) (im : Nat → Int32) (ne : Nat → Int32) (ei : Nat → Int32) (gi : Nat → Int32) (sk : Nat → Int32) (pg : Nat → Int32) (co : Nat → Int32) (st : Nat → Int32) (px : Int32) (wi : Int32) (hT : T ≤ 12) (hP14 : P ≤ 14) (hK2 : K < 2 ^ T) (hB : hBp ne ei im gi sk T P (-1)) (hB2 : hBp ne ei im gi sk T P px) : kC l D (kTY cI cJ cZ cO) yX8_shortens wsX8_shortens 4 96 0 0 [.ref z, .int px, .int wi] [(z, .inr (9, [.ref a0, .ref a1, .int (nI T), .ref a2, .ref a3, .ref a4, .ref a5, .ref a6, .int (nI P), .int pa, .int (nI K), .ref a7, .int (nI rn), .ref a8, .ref a9, .int (nI ln), .ref a10, .int th, .ref a11, .ref a12, .int wt, .ref a13, .ref a14, .ref a15])), (a1, .inl (cI, 12, .inl im)), (a2, .inl (cI, 14, .inl ne)), (a3, .inl (cI, 14, .inl ei)), (a4, .inl (cI, 14, .inl gi)), (a5, .inl (cI, 14, .inl sk)), (a6, .inl (cI, 14, .inl pg)), (a11, .inl (cI, 4096, .inl co)), (a12, .inl (cI, 4096, .inl st))] (fun rv_ rw_ => rv_ = some (.int (if withinB px 0 (nI P - 1) && areB T wi then (if (fwF ne ei im gi sk pg co st T P pa (-1) wi (2 ^ T)).1 K = 268435456 then -1 else (if (fwF ne ei im gi sk pg (fwF ne ei im gi sk pg co st T P pa (-1) wi (2 ^ T)).1 (fwF ne ei im gi sk pg co st T P pa (-1) wi (2 ^ T)).2 T P pa px wi (2 ^ T)).1 K = 268435456 then -2 else (fwF ne ei im gi sk pg (fwF ne ei im gi sk pg co st T P pa (-1) wi (2 ^ T)).1 (fwF ne ei im gi sk pg co st T P pa (-1) wi (2 ^ T)).2 T P pa px wi (2 ^ T)).1 K - (fwF ne ei im gi sk pg co st T P pa (-1) wi (2 ^ T)).1 K)) else -1)) ∧ rw_ = [(z, .inr (9, [.ref a0, .ref a1, .int (nI T), .ref a2, .ref a3, .ref a4, .ref a5, .ref a6, .int (nI P), .int pa, .int (nI K), .ref a7, .int (nI rn), .ref a8, .ref a9, .int (nI ln), .ref a10, .int 0, .ref a11, .ref a12, .int (if withinB px 0 (nI P - 1) && areB T wi then (if (fwF ne ei im gi sk pg co st T P pa (-1) wi (2 ^ T)).1 K = 268435456 then -1 else px) else wt), .ref a13, .ref a14, .ref a15])), (a1, .inl (cI, 12, .inl im)), (a2, .inl (cI, 14, .inl ne)), (a3, .inl (cI, 14, .inl ei)), (a4, .inl (cI, 14, .inl gi)), (a5, .inl (cI, 14, .inl sk)), (a6, .inl (cI, 14, .inl pg)), (a11, .inl (cI, 4096, .inl (if withinB px 0 (nI P - 1) && areB T wi then (if (fwF ne ei im gi sk pg co st T P pa (-1) wi (2 ^ T)).1 K = 268435456 then (fwF ne ei im gi sk pg co st T P pa (-1) wi (2 ^ T)).1 else (fwF ne ei im gi sk pg (fwF ne ei im gi sk pg co st T P pa (-1) wi (2 ^ T)).1 (fwF ne ei im gi sk pg co st T P pa (-1) wi (2 ^ T)).2 T P pa px wi (2 ^ T)).1) else co))), (a12, .inl (cI, 4096, .inl (if withinB px 0 (nI P - 1) && areB T wi then (if (fwF ne ei im gi sk pg co st T P pa (-1) wi (2 ^ T)).1 K = 268435456 then (fwF ne ei im gi sk pg co st T P pa (-1) wi (2 ^ T)).2 else (fwF ne ei im gi sk pg (fwF ne ei im gi sk pg co st T P pa (-1) wi (2 ^ T)).1 (fwF ne ei im gi sk pg co st T P pa (-1) wi (2 ^ T)).2 T P pa px wi (2 ^ T)).2) else st)))]) := by
  refine kEnter (cc := cX8_shortens) (maxL := 4) (ret := (some .int)) (by decide) rfl (Nat.le_of_ble_eq_true rfl) ?_
  intro p e s m args below meth c hx hb hr hml hts hown hlk hnm hK hP hD hS hA ls hl
  have hl : lv_has ls 4 [(0, .ref z), (1, .int px), (2, .int wi)] := hl
  have hw_f63 := hts (.fieldLink RX8 63 "WhatToReadModel" "thrown" "I") (by decide +kernel)
  have hi_X8 : ∀ w ∈ wsX80, w ∈ wsX8_shortens := by decide +kernel
  have hw_f73 := hts (.fieldLink RX8 73 "WhatToReadModel" "pieces" "I") (by decide +kernel)
  have hw_f47 := hts (.fieldLink RX8 47 "WhatToReadModel" "cost" "[I") (by decide +kernel)
  have hw_f84 := hts (.fieldLink RX8 84 "WhatToReadModel" "known" "I") (by decide +kernel)
  refine lv_aload_n hx hb dX8_shortens_0 rfl (lv_at hl 0 rfl) ?_
  refine lv_iconst (v := 0) hx hb dX8_shortens_1 (by decide) ?_
  refine va_put (D := D) (ci := 9) (v := .int 0) (ty := .int) (C := RX8) (T := TX8) (N := 24) hx hb hts hi_X8 tyX8 tyX8_ok nmX8 hown hK.1 hP hD hS 0 rfl rfl 17 (by decide) hw_f63 (fun _ h9 => h9) rfl (by decide +kernel) rfl rfl (Nat.le_of_ble_eq_true rfl) dX8_shortens_2 (fun H locs hP hD hS => ?_)
  have hP : va_P D vwCl [(z, .inr (9, [.ref a0, .ref a1, .int (nI T), .ref a2, .ref a3, .ref a4, .ref a5, .ref a6, .int (nI P), .int pa, .int (nI K), .ref a7, .int (nI rn), .ref a8, .ref a9, .int (nI ln), .ref a10, .int 0, .ref a11, .ref a12, .int wt, .ref a13, .ref a14, .ref a15])), (a1, .inl (cI, 12, .inl im)), (a2, .inl (cI, 14, .inl ne)), (a3, .inl (cI, 14, .inl ei)), (a4, .inl (cI, 14, .inl gi)), (a5, .inl (cI, 14, .inl sk)), (a6, .inl (cI, 14, .inl pg)), (a11, .inl (cI, 4096, .inl co)), (a12, .inl (cI, 4096, .inl st))] H := hP
  have hD : va_D _ [(z, .inr (9, [.ref a0, .ref a1, .int (nI T), .ref a2, .ref a3, .ref a4, .ref a5, .ref a6, .int (nI P), .int pa, .int (nI K), .ref a7, .int (nI rn), .ref a8, .ref a9, .int (nI ln), .ref a10, .int 0, .ref a11, .ref a12, .int wt, .ref a13, .ref a14, .ref a15])), (a1, .inl (cI, 12, .inl im)), (a2, .inl (cI, 14, .inl ne)), (a3, .inl (cI, 14, .inl ei)), (a4, .inl (cI, 14, .inl gi)), (a5, .inl (cI, 14, .inl sk)), (a6, .inl (cI, 14, .inl pg)), (a11, .inl (cI, 4096, .inl co)), (a12, .inl (cI, 4096, .inl st))] := hD
  refine lv_iload_n hx hb dX8_shortens_5 rfl (lv_at hl 1 rfl) ?_
  refine lv_iconst (v := 0) hx hb dX8_shortens_6 (by decide) ?_
  refine lv_aload_n hx hb dX8_shortens_7 rfl (lv_at hl 0 rfl) ?_
  refine va_get (D := D) (ci := 9) (v := .int (nI P)) (C := RX8) (T := TX8) (N := 24) hx hb hts hi_X8 hown hK.1 hP 0 rfl rfl 8 (by decide) hw_f73 (fun _ h9 => h9) rfl dX8_shortens_8 ?_
  refine lv_iconst (v := 1) hx hb dX8_shortens_11 (by decide) ?_
  refine lv_isub hx hb dX8_shortens_12 ?_
  refine kGoR (va_runS (As := [.int px, .int 0, .int ((nI P) - 1)]) (rest := []) ⟨hx, hb, hml, hown, hts⟩ (c_X8_in l D cI cJ cZ cO px 0 ((nI P) - 1) ) (va_cwS 3 hts gX8_shortens_X8_in rfl rfl rfl (by decide +kernel) ⟨Nat.le_of_ble_eq_true rfl, Nat.le_of_ble_eq_true rfl⟩) (kPreSR hK (kPc_sub hP [] rfl)) rfl rfl hl.1 rfl (lv_room (Nat.le_of_ble_eq_true rfl)) dX8_shortens_13 ⟨Nat.le_of_ble_eq_true rfl, Nat.le_of_ble_eq_true rfl⟩) (fun v_1 hv_1 => ?_)
  obtain rfl := hv_1
  refine W.eq (g2 := F0 m 16 ls [.int (k01 (withinB px 0 ((nI P) - 1)))]) rfl ?_
  refine lv_if_eq (tgt := 27) hx hb dX8_shortens_16 (by decide) (fun c_16 => ?_) (fun c_16 => ?_)
  · skip
    have c_16 := k01_z c_16
    refine lv_iconst (v := (-1)) hx hb dX8_shortens_27 (by decide) ?_
    have ew_0 : (wt : Int32) = if withinB px 0 (nI P - 1) && areB T wi then (if (fwF ne ei im gi sk pg co st T P pa (-1) wi (2 ^ T)).1 K = 268435456 then -1 else px) else wt := by simp [c_16]
    have ew_1 : (co : Nat → Int32) = if withinB px 0 (nI P - 1) && areB T wi then (if (fwF ne ei im gi sk pg co st T P pa (-1) wi (2 ^ T)).1 K = 268435456 then (fwF ne ei im gi sk pg co st T P pa (-1) wi (2 ^ T)).1 else (fwF ne ei im gi sk pg (fwF ne ei im gi sk pg co st T P pa (-1) wi (2 ^ T)).1 (fwF ne ei im gi sk pg co st T P pa (-1) wi (2 ^ T)).2 T P pa px wi (2 ^ T)).1) else co := by simp [c_16]
    have ew_2 : (st : Nat → Int32) = if withinB px 0 (nI P - 1) && areB T wi then (if (fwF ne ei im gi sk pg co st T P pa (-1) wi (2 ^ T)).1 K = 268435456 then (fwF ne ei im gi sk pg co st T P pa (-1) wi (2 ^ T)).2 else (fwF ne ei im gi sk pg (fwF ne ei im gi sk pg co st T P pa (-1) wi (2 ^ T)).1 (fwF ne ei im gi sk pg co st T P pa (-1) wi (2 ^ T)).2 T P pa px wi (2 ^ T)).2) else st := by simp [c_16]
    exact kRetI hx hb hr hlk dX8_shortens_28 hP hD hS (Nat.le_of_ble_eq_true rfl) (Nat.le_of_ble_eq_true rfl) ⟨(kpi (by simp [c_16])), (kw3 (fun (z_0 : Int32) (z_1 : Nat → Int32) (z_2 : Nat → Int32) => ([(z, .inr (9, [.ref a0, .ref a1, .int (nI T), .ref a2, .ref a3, .ref a4, .ref a5, .ref a6, .int (nI P), .int pa, .int (nI K), .ref a7, .int (nI rn), .ref a8, .ref a9, .int (nI ln), .ref a10, .int 0, .ref a11, .ref a12, .int z_0, .ref a13, .ref a14, .ref a15])), (a1, .inl (cI, 12, .inl im)), (a2, .inl (cI, 14, .inl ne)), (a3, .inl (cI, 14, .inl ei)), (a4, .inl (cI, 14, .inl gi)), (a5, .inl (cI, 14, .inl sk)), (a6, .inl (cI, 14, .inl pg)), (a11, .inl (cI, 4096, .inl z_1)), (a12, .inl (cI, 4096, .inl z_2))] : va_W)) ew_0 ew_1 ew_2)⟩
  · skip
    have c_16 := k01_n c_16
    refine lv_aload_n hx hb dX8_shortens_19 rfl (lv_at hl 0 rfl) ?_
    refine lv_iload_n hx hb dX8_shortens_20 rfl (lv_at hl 2 rfl) ?_
    refine kGoR (va_runV (As := [.int wi]) (rest := []) ⟨hx, hb, hml, hown, hts⟩ (c_X8_areBits l D cI cJ cZ cO z a0 a1 a2 a3 a4 a5 a6 a7 a8 a9 a10 a11 a12 a13 a14 a15 T P pa (nI K) rn ln 0 wt wi ) (cwV 1 hts gX8_shortens_X8_areBits rfl rfl rfl (by decide +kernel) ⟨Nat.le_of_ble_eq_true rfl, Nat.le_of_ble_eq_true rfl⟩) (kPreVR (ci := 9) (q0 := 0) hK (kPc_sub hP [0] rfl) rfl rfl rfl) rfl rfl hl.1 rfl (lv_room (Nat.le_of_ble_eq_true rfl)) dX8_shortens_21 ⟨Nat.le_of_ble_eq_true rfl, Nat.le_of_ble_eq_true rfl⟩) (fun v_2 hv_2 => ?_)
    obtain rfl := hv_2
    refine W.eq (g2 := F0 m 24 ls [.int (k01 (areB T wi))]) rfl ?_
    refine lv_if_ne (tgt := 29) hx hb dX8_shortens_24 (by decide) (fun c_24 => ?_) (fun c_24 => ?_)
    · skip
      have c_24 := k01_n c_24
      have hpw := kpow hT
      refine lv_aload_n hx hb dX8_shortens_29 rfl (lv_at hl 0 rfl) ?_
      refine lv_iload_n hx hb dX8_shortens_30 rfl (lv_at hl 2 rfl) ?_
      refine lv_iconst (v := (-1)) hx hb dX8_shortens_31 (by decide) ?_
      refine kGo (wc := [(z, .inr (9, [.ref a0, .ref a1, .int (nI T), .ref a2, .ref a3, .ref a4, .ref a5, .ref a6, .int (nI P), .int pa, .int (nI K), .ref a7, .int (nI rn), .ref a8, .ref a9, .int (nI ln), .ref a10, .int 0, .ref a11, .ref a12, .int wt, .ref a13, .ref a14, .ref a15])), (a1, .inl (cI, 12, .inl im)), (a2, .inl (cI, 14, .inl ne)), (a3, .inl (cI, 14, .inl ei)), (a4, .inl (cI, 14, .inl gi)), (a5, .inl (cI, 14, .inl sk)), (a6, .inl (cI, 14, .inl pg)), (a11, .inl (cI, 4096, .inl co)), (a12, .inl (cI, 4096, .inl st))]) (wr := []) (va_runV (As := [.int wi, .int (-1)]) (rest := []) ⟨hx, hb, hml, hown, hts⟩ (c_X8_findWays l D cI cJ cZ cO z a0 a1 a2 a3 a4 a5 a6 a7 a8 a9 a10 a11 a12 a13 a14 a15 T P pa (nI K) rn ln 0 wt im ne ei gi sk pg co st wi (-1) (by first | assumption | omega | decide) (by first | assumption | omega | decide) (hB) _) (cwV 2 hts gX8_shortens_X8_findWays rfl rfl rfl (by decide +kernel) ⟨Nat.le_of_ble_eq_true rfl, Nat.le_of_ble_eq_true rfl⟩) (kPreV (ci := 9) (q0 := 0) hK (kPc_sub hP [0, 1, 2, 3, 4, 5, 6, 7, 8] rfl) ((hD.sub [0, 1, 2, 3, 4, 5, 6, 7, 8] (by decide) rfl).weaken (fun _ _ _ _ => trivial)) rfl rfl rfl) rfl rfl hl.1 rfl (lv_room (Nat.le_of_ble_eq_true rfl)) dX8_shortens_32 ⟨Nat.le_of_ble_eq_true rfl, Nat.le_of_ble_eq_true rfl⟩) hP hD hS hA [0, 1, 2, 3, 4, 5, 6, 7, 8] [] rfl rfl (by decide) (by decide) (fun v_3 w_3 H locs hv_3 hP hD hS => ?_)
      obtain ⟨rfl, rfl⟩ := hv_3
      have hP : va_P D vwCl [(z, .inr (9, [.ref a0, .ref a1, .int (nI T), .ref a2, .ref a3, .ref a4, .ref a5, .ref a6, .int (nI P), .int pa, .int (nI K), .ref a7, .int (nI rn), .ref a8, .ref a9, .int (nI ln), .ref a10, .int 0, .ref a11, .ref a12, .int (-1), .ref a13, .ref a14, .ref a15])), (a1, .inl (cI, 12, .inl im)), (a2, .inl (cI, 14, .inl ne)), (a3, .inl (cI, 14, .inl ei)), (a4, .inl (cI, 14, .inl gi)), (a5, .inl (cI, 14, .inl sk)), (a6, .inl (cI, 14, .inl pg)), (a11, .inl (cI, 4096, .inl ((fwF ne ei im gi sk pg co st T P pa (-1) wi (2 ^ T)).1))), (a12, .inl (cI, 4096, .inl ((fwF ne ei im gi sk pg co st T P pa (-1) wi (2 ^ T)).2)))] H := hP.sub [0, 1, 2, 3, 4, 5, 6, 7, 8] rfl
      have hD : va_D _ [(z, .inr (9, [.ref a0, .ref a1, .int (nI T), .ref a2, .ref a3, .ref a4, .ref a5, .ref a6, .int (nI P), .int pa, .int (nI K), .ref a7, .int (nI rn), .ref a8, .ref a9, .int (nI ln), .ref a10, .int 0, .ref a11, .ref a12, .int (-1), .ref a13, .ref a14, .ref a15])), (a1, .inl (cI, 12, .inl im)), (a2, .inl (cI, 14, .inl ne)), (a3, .inl (cI, 14, .inl ei)), (a4, .inl (cI, 14, .inl gi)), (a5, .inl (cI, 14, .inl sk)), (a6, .inl (cI, 14, .inl pg)), (a11, .inl (cI, 4096, .inl ((fwF ne ei im gi sk pg co st T P pa (-1) wi (2 ^ T)).1))), (a12, .inl (cI, 4096, .inl ((fwF ne ei im gi sk pg co st T P pa (-1) wi (2 ^ T)).2)))] := hD.sub [0, 1, 2, 3, 4, 5, 6, 7, 8] (by decide) rfl
      refine W.eq (g2 := F0 m 35 ls []) rfl ?_
      refine lv_aload_n hx hb dX8_shortens_35 rfl (lv_at hl 0 rfl) ?_
      refine va_get (D := D) (ci := 9) (v := .ref a11) (C := RX8) (T := TX8) (N := 24) hx hb hts hi_X8 hown hK.1 hP 0 rfl rfl 18 (by decide) hw_f47 (fun _ h9 => h9) rfl dX8_shortens_36 ?_
      refine lv_aload_n hx hb dX8_shortens_39 rfl (lv_at hl 0 rfl) ?_
      refine va_get (D := D) (ci := 9) (v := .int (nI K)) (C := RX8) (T := TX8) (N := 24) hx hb hts hi_X8 hown hK.1 hP 0 rfl rfl 10 (by decide) hw_f84 (fun _ h9 => h9) rfl dX8_shortens_40 ?_
      refine va_iald hx hb hK.1 hP 7 0 rfl rfl (vp_in_nI (by omega) (by omega)) dX8_shortens_43 ?_
      refine lv_topi (fun nv_4 ev_4 => ?_)
      obtain rfl : nv_4 = ((fwF ne ei im gi sk pg co st T P pa (-1) wi (2 ^ T)).1) K := by rw [ev_4, nI_clamp (by omega)]
      refine lv_istore_n (lv' := [(3, .int (((fwF ne ei im gi sk pg co st T P pa (-1) wi (2 ^ T)).1) K)), (0, .ref z), (1, .int px), (2, .int wi)]) hx hb dX8_shortens_44 rfl hl (by decide) rfl (fun ls hl => ?_)
      refine lv_iload_n hx hb dX8_shortens_45 rfl (lv_at hl 0 rfl) ?_
      refine lv_ldc (v := 268435456) hx hb hown (hts (.constant RX8 110 268435456) (by decide +kernel)) dX8_shortens_46 ?_
      refine lv_icmp_ne (tgt := 53) hx hb dX8_shortens_48 (by decide) (fun c_48 => ?_) (fun c_48 => ?_)
      · skip
        refine lv_aload_n hx hb dX8_shortens_53 rfl (lv_at hl 1 rfl) ?_
        refine lv_iload_n hx hb dX8_shortens_54 rfl (lv_at hl 3 rfl) ?_
        refine lv_iload_n hx hb dX8_shortens_55 rfl (lv_at hl 2 rfl) ?_
        refine kGo (wc := [(z, .inr (9, [.ref a0, .ref a1, .int (nI T), .ref a2, .ref a3, .ref a4, .ref a5, .ref a6, .int (nI P), .int pa, .int (nI K), .ref a7, .int (nI rn), .ref a8, .ref a9, .int (nI ln), .ref a10, .int 0, .ref a11, .ref a12, .int (-1), .ref a13, .ref a14, .ref a15])), (a1, .inl (cI, 12, .inl im)), (a2, .inl (cI, 14, .inl ne)), (a3, .inl (cI, 14, .inl ei)), (a4, .inl (cI, 14, .inl gi)), (a5, .inl (cI, 14, .inl sk)), (a6, .inl (cI, 14, .inl pg)), (a11, .inl (cI, 4096, .inl ((fwF ne ei im gi sk pg co st T P pa (-1) wi (2 ^ T)).1))), (a12, .inl (cI, 4096, .inl ((fwF ne ei im gi sk pg co st T P pa (-1) wi (2 ^ T)).2)))]) (wr := []) (va_runV (As := [.int wi, .int px]) (rest := []) ⟨hx, hb, hml, hown, hts⟩ (c_X8_findWays l D cI cJ cZ cO z a0 a1 a2 a3 a4 a5 a6 a7 a8 a9 a10 a11 a12 a13 a14 a15 T P pa (nI K) rn ln 0 (-1) im ne ei gi sk pg ((fwF ne ei im gi sk pg co st T P pa (-1) wi (2 ^ T)).1) ((fwF ne ei im gi sk pg co st T P pa (-1) wi (2 ^ T)).2) wi px (by first | assumption | omega | decide) (by first | assumption | omega | decide) (hB2) _) (cwV 2 hts gX8_shortens_X8_findWays rfl rfl rfl (by decide +kernel) ⟨Nat.le_of_ble_eq_true rfl, Nat.le_of_ble_eq_true rfl⟩) (kPreV (ci := 9) (q0 := 0) hK (kPc_sub hP [0, 1, 2, 3, 4, 5, 6, 7, 8] rfl) ((hD.sub [0, 1, 2, 3, 4, 5, 6, 7, 8] (by decide) rfl).weaken (fun _ _ _ _ => trivial)) rfl rfl rfl) rfl rfl hl.1 rfl (lv_room (Nat.le_of_ble_eq_true rfl)) dX8_shortens_56 ⟨Nat.le_of_ble_eq_true rfl, Nat.le_of_ble_eq_true rfl⟩) hP hD hS hA [0, 1, 2, 3, 4, 5, 6, 7, 8] [] rfl rfl (by decide) (by decide) (fun v_5 w_5 H locs hv_5 hP hD hS => ?_)
        obtain ⟨rfl, rfl⟩ := hv_5
        have hP : va_P D vwCl [(z, .inr (9, [.ref a0, .ref a1, .int (nI T), .ref a2, .ref a3, .ref a4, .ref a5, .ref a6, .int (nI P), .int pa, .int (nI K), .ref a7, .int (nI rn), .ref a8, .ref a9, .int (nI ln), .ref a10, .int 0, .ref a11, .ref a12, .int px, .ref a13, .ref a14, .ref a15])), (a1, .inl (cI, 12, .inl im)), (a2, .inl (cI, 14, .inl ne)), (a3, .inl (cI, 14, .inl ei)), (a4, .inl (cI, 14, .inl gi)), (a5, .inl (cI, 14, .inl sk)), (a6, .inl (cI, 14, .inl pg)), (a11, .inl (cI, 4096, .inl ((fwF ne ei im gi sk pg ((fwF ne ei im gi sk pg co st T P pa (-1) wi (2 ^ T)).1) ((fwF ne ei im gi sk pg co st T P pa (-1) wi (2 ^ T)).2) T P pa px wi (2 ^ T)).1))), (a12, .inl (cI, 4096, .inl ((fwF ne ei im gi sk pg ((fwF ne ei im gi sk pg co st T P pa (-1) wi (2 ^ T)).1) ((fwF ne ei im gi sk pg co st T P pa (-1) wi (2 ^ T)).2) T P pa px wi (2 ^ T)).2)))] H := hP.sub [0, 1, 2, 3, 4, 5, 6, 7, 8] rfl
        have hD : va_D _ [(z, .inr (9, [.ref a0, .ref a1, .int (nI T), .ref a2, .ref a3, .ref a4, .ref a5, .ref a6, .int (nI P), .int pa, .int (nI K), .ref a7, .int (nI rn), .ref a8, .ref a9, .int (nI ln), .ref a10, .int 0, .ref a11, .ref a12, .int px, .ref a13, .ref a14, .ref a15])), (a1, .inl (cI, 12, .inl im)), (a2, .inl (cI, 14, .inl ne)), (a3, .inl (cI, 14, .inl ei)), (a4, .inl (cI, 14, .inl gi)), (a5, .inl (cI, 14, .inl sk)), (a6, .inl (cI, 14, .inl pg)), (a11, .inl (cI, 4096, .inl ((fwF ne ei im gi sk pg ((fwF ne ei im gi sk pg co st T P pa (-1) wi (2 ^ T)).1) ((fwF ne ei im gi sk pg co st T P pa (-1) wi (2 ^ T)).2) T P pa px wi (2 ^ T)).1))), (a12, .inl (cI, 4096, .inl ((fwF ne ei im gi sk pg ((fwF ne ei im gi sk pg co st T P pa (-1) wi (2 ^ T)).1) ((fwF ne ei im gi sk pg co st T P pa (-1) wi (2 ^ T)).2) T P pa px wi (2 ^ T)).2)))] := hD.sub [0, 1, 2, 3, 4, 5, 6, 7, 8] (by decide) rfl
        refine W.eq (g2 := F0 m 59 ls []) rfl ?_
        refine lv_aload_n hx hb dX8_shortens_59 rfl (lv_at hl 1 rfl) ?_
        refine va_get (D := D) (ci := 9) (v := .ref a11) (C := RX8) (T := TX8) (N := 24) hx hb hts hi_X8 hown hK.1 hP 0 rfl rfl 18 (by decide) hw_f47 (fun _ h9 => h9) rfl dX8_shortens_60 ?_
        refine lv_aload_n hx hb dX8_shortens_63 rfl (lv_at hl 1 rfl) ?_
        refine va_get (D := D) (ci := 9) (v := .int (nI K)) (C := RX8) (T := TX8) (N := 24) hx hb hts hi_X8 hown hK.1 hP 0 rfl rfl 10 (by decide) hw_f84 (fun _ h9 => h9) rfl dX8_shortens_64 ?_
        refine va_iald hx hb hK.1 hP 7 0 rfl rfl (vp_in_nI (by omega) (by omega)) dX8_shortens_67 ?_
        refine lv_topi (fun nv_6 ev_6 => ?_)
        obtain rfl : nv_6 = ((fwF ne ei im gi sk pg ((fwF ne ei im gi sk pg co st T P pa (-1) wi (2 ^ T)).1) ((fwF ne ei im gi sk pg co st T P pa (-1) wi (2 ^ T)).2) T P pa px wi (2 ^ T)).1) K := by rw [ev_6, nI_clamp (by omega)]
        refine lv_ldc (v := 268435456) hx hb hown (hts (.constant RX8 110 268435456) (by decide +kernel)) dX8_shortens_68 ?_
        refine lv_icmp_ne (tgt := 78) hx hb dX8_shortens_70 (by decide) (fun c_70 => ?_) (fun c_70 => ?_)
        · skip
          refine lv_aload_n hx hb dX8_shortens_78 rfl (lv_at hl 1 rfl) ?_
          refine va_get (D := D) (ci := 9) (v := .ref a11) (C := RX8) (T := TX8) (N := 24) hx hb hts hi_X8 hown hK.1 hP 0 rfl rfl 18 (by decide) hw_f47 (fun _ h9 => h9) rfl dX8_shortens_79 ?_
          refine lv_aload_n hx hb dX8_shortens_82 rfl (lv_at hl 1 rfl) ?_
          refine va_get (D := D) (ci := 9) (v := .int (nI K)) (C := RX8) (T := TX8) (N := 24) hx hb hts hi_X8 hown hK.1 hP 0 rfl rfl 10 (by decide) hw_f84 (fun _ h9 => h9) rfl dX8_shortens_83 ?_
          refine va_iald hx hb hK.1 hP 7 0 rfl rfl (vp_in_nI (by omega) (by omega)) dX8_shortens_86 ?_
          refine lv_topi (fun nv_7 ev_7 => ?_)
          obtain rfl : nv_7 = ((fwF ne ei im gi sk pg ((fwF ne ei im gi sk pg co st T P pa (-1) wi (2 ^ T)).1) ((fwF ne ei im gi sk pg co st T P pa (-1) wi (2 ^ T)).2) T P pa px wi (2 ^ T)).1) K := by rw [ev_7, nI_clamp (by omega)]
          refine lv_iload_n hx hb dX8_shortens_87 rfl (lv_at hl 0 rfl) ?_
          refine lv_isub hx hb dX8_shortens_88 ?_
          have ew_0 : (px : Int32) = if withinB px 0 (nI P - 1) && areB T wi then (if (fwF ne ei im gi sk pg co st T P pa (-1) wi (2 ^ T)).1 K = 268435456 then -1 else px) else wt := by simp [c_16, c_24, c_48, c_70]
          have ew_1 : ((fwF ne ei im gi sk pg ((fwF ne ei im gi sk pg co st T P pa (-1) wi (2 ^ T)).1) ((fwF ne ei im gi sk pg co st T P pa (-1) wi (2 ^ T)).2) T P pa px wi (2 ^ T)).1 : Nat → Int32) = if withinB px 0 (nI P - 1) && areB T wi then (if (fwF ne ei im gi sk pg co st T P pa (-1) wi (2 ^ T)).1 K = 268435456 then (fwF ne ei im gi sk pg co st T P pa (-1) wi (2 ^ T)).1 else (fwF ne ei im gi sk pg (fwF ne ei im gi sk pg co st T P pa (-1) wi (2 ^ T)).1 (fwF ne ei im gi sk pg co st T P pa (-1) wi (2 ^ T)).2 T P pa px wi (2 ^ T)).1) else co := by simp [c_16, c_24, c_48, c_70]
          have ew_2 : ((fwF ne ei im gi sk pg ((fwF ne ei im gi sk pg co st T P pa (-1) wi (2 ^ T)).1) ((fwF ne ei im gi sk pg co st T P pa (-1) wi (2 ^ T)).2) T P pa px wi (2 ^ T)).2 : Nat → Int32) = if withinB px 0 (nI P - 1) && areB T wi then (if (fwF ne ei im gi sk pg co st T P pa (-1) wi (2 ^ T)).1 K = 268435456 then (fwF ne ei im gi sk pg co st T P pa (-1) wi (2 ^ T)).2 else (fwF ne ei im gi sk pg (fwF ne ei im gi sk pg co st T P pa (-1) wi (2 ^ T)).1 (fwF ne ei im gi sk pg co st T P pa (-1) wi (2 ^ T)).2 T P pa px wi (2 ^ T)).2) else st := by simp [c_16, c_24, c_48, c_70]
          exact kRetI hx hb hr hlk dX8_shortens_89 hP hD hS (Nat.le_of_ble_eq_true rfl) (Nat.le_of_ble_eq_true rfl) ⟨(kpi (by simp [c_16, c_24, c_48, c_70])), (kw3 (fun (z_0 : Int32) (z_1 : Nat → Int32) (z_2 : Nat → Int32) => ([(z, .inr (9, [.ref a0, .ref a1, .int (nI T), .ref a2, .ref a3, .ref a4, .ref a5, .ref a6, .int (nI P), .int pa, .int (nI K), .ref a7, .int (nI rn), .ref a8, .ref a9, .int (nI ln), .ref a10, .int 0, .ref a11, .ref a12, .int z_0, .ref a13, .ref a14, .ref a15])), (a1, .inl (cI, 12, .inl im)), (a2, .inl (cI, 14, .inl ne)), (a3, .inl (cI, 14, .inl ei)), (a4, .inl (cI, 14, .inl gi)), (a5, .inl (cI, 14, .inl sk)), (a6, .inl (cI, 14, .inl pg)), (a11, .inl (cI, 4096, .inl z_1)), (a12, .inl (cI, 4096, .inl z_2))] : va_W)) ew_0 ew_1 ew_2)⟩
        · skip
          refine lv_bipush (v := (-2)) hx hb dX8_shortens_73 (by decide) ?_
          refine lv_goto (tgt := 89) hx hb dX8_shortens_75 (by decide) ?_
          have ew_0 : (px : Int32) = if withinB px 0 (nI P - 1) && areB T wi then (if (fwF ne ei im gi sk pg co st T P pa (-1) wi (2 ^ T)).1 K = 268435456 then -1 else px) else wt := by simp [c_16, c_24, c_48, c_70]
          have ew_1 : ((fwF ne ei im gi sk pg ((fwF ne ei im gi sk pg co st T P pa (-1) wi (2 ^ T)).1) ((fwF ne ei im gi sk pg co st T P pa (-1) wi (2 ^ T)).2) T P pa px wi (2 ^ T)).1 : Nat → Int32) = if withinB px 0 (nI P - 1) && areB T wi then (if (fwF ne ei im gi sk pg co st T P pa (-1) wi (2 ^ T)).1 K = 268435456 then (fwF ne ei im gi sk pg co st T P pa (-1) wi (2 ^ T)).1 else (fwF ne ei im gi sk pg (fwF ne ei im gi sk pg co st T P pa (-1) wi (2 ^ T)).1 (fwF ne ei im gi sk pg co st T P pa (-1) wi (2 ^ T)).2 T P pa px wi (2 ^ T)).1) else co := by simp [c_16, c_24, c_48, c_70]
          have ew_2 : ((fwF ne ei im gi sk pg ((fwF ne ei im gi sk pg co st T P pa (-1) wi (2 ^ T)).1) ((fwF ne ei im gi sk pg co st T P pa (-1) wi (2 ^ T)).2) T P pa px wi (2 ^ T)).2 : Nat → Int32) = if withinB px 0 (nI P - 1) && areB T wi then (if (fwF ne ei im gi sk pg co st T P pa (-1) wi (2 ^ T)).1 K = 268435456 then (fwF ne ei im gi sk pg co st T P pa (-1) wi (2 ^ T)).2 else (fwF ne ei im gi sk pg (fwF ne ei im gi sk pg co st T P pa (-1) wi (2 ^ T)).1 (fwF ne ei im gi sk pg co st T P pa (-1) wi (2 ^ T)).2 T P pa px wi (2 ^ T)).2) else st := by simp [c_16, c_24, c_48, c_70]
          exact kRetI hx hb hr hlk dX8_shortens_89 hP hD hS (Nat.le_of_ble_eq_true rfl) (Nat.le_of_ble_eq_true rfl) ⟨(kpi (by simp [c_16, c_24, c_48, c_70])), (kw3 (fun (z_0 : Int32) (z_1 : Nat → Int32) (z_2 : Nat → Int32) => ([(z, .inr (9, [.ref a0, .ref a1, .int (nI T), .ref a2, .ref a3, .ref a4, .ref a5, .ref a6, .int (nI P), .int pa, .int (nI K), .ref a7, .int (nI rn), .ref a8, .ref a9, .int (nI ln), .ref a10, .int 0, .ref a11, .ref a12, .int z_0, .ref a13, .ref a14, .ref a15])), (a1, .inl (cI, 12, .inl im)), (a2, .inl (cI, 14, .inl ne)), (a3, .inl (cI, 14, .inl ei)), (a4, .inl (cI, 14, .inl gi)), (a5, .inl (cI, 14, .inl sk)), (a6, .inl (cI, 14, .inl pg)), (a11, .inl (cI, 4096, .inl z_1)), (a12, .inl (cI, 4096, .inl z_2))] : va_W)) ew_0 ew_1 ew_2)⟩
      · skip
        refine lv_iconst (v := (-1)) hx hb dX8_shortens_51 (by decide) ?_
        have ew_0 : ((-1) : Int32) = if withinB px 0 (nI P - 1) && areB T wi then (if (fwF ne ei im gi sk pg co st T P pa (-1) wi (2 ^ T)).1 K = 268435456 then -1 else px) else wt := by simp [c_16, c_24, c_48]
        have ew_1 : ((fwF ne ei im gi sk pg co st T P pa (-1) wi (2 ^ T)).1 : Nat → Int32) = if withinB px 0 (nI P - 1) && areB T wi then (if (fwF ne ei im gi sk pg co st T P pa (-1) wi (2 ^ T)).1 K = 268435456 then (fwF ne ei im gi sk pg co st T P pa (-1) wi (2 ^ T)).1 else (fwF ne ei im gi sk pg (fwF ne ei im gi sk pg co st T P pa (-1) wi (2 ^ T)).1 (fwF ne ei im gi sk pg co st T P pa (-1) wi (2 ^ T)).2 T P pa px wi (2 ^ T)).1) else co := by simp [c_16, c_24, c_48]
        have ew_2 : ((fwF ne ei im gi sk pg co st T P pa (-1) wi (2 ^ T)).2 : Nat → Int32) = if withinB px 0 (nI P - 1) && areB T wi then (if (fwF ne ei im gi sk pg co st T P pa (-1) wi (2 ^ T)).1 K = 268435456 then (fwF ne ei im gi sk pg co st T P pa (-1) wi (2 ^ T)).2 else (fwF ne ei im gi sk pg (fwF ne ei im gi sk pg co st T P pa (-1) wi (2 ^ T)).1 (fwF ne ei im gi sk pg co st T P pa (-1) wi (2 ^ T)).2 T P pa px wi (2 ^ T)).2) else st := by simp [c_16, c_24, c_48]
        exact kRetI hx hb hr hlk dX8_shortens_52 hP hD hS (Nat.le_of_ble_eq_true rfl) (Nat.le_of_ble_eq_true rfl) ⟨(kpi (by simp [c_16, c_24, c_48])), (kw3 (fun (z_0 : Int32) (z_1 : Nat → Int32) (z_2 : Nat → Int32) => ([(z, .inr (9, [.ref a0, .ref a1, .int (nI T), .ref a2, .ref a3, .ref a4, .ref a5, .ref a6, .int (nI P), .int pa, .int (nI K), .ref a7, .int (nI rn), .ref a8, .ref a9, .int (nI ln), .ref a10, .int 0, .ref a11, .ref a12, .int z_0, .ref a13, .ref a14, .ref a15])), (a1, .inl (cI, 12, .inl im)), (a2, .inl (cI, 14, .inl ne)), (a3, .inl (cI, 14, .inl ei)), (a4, .inl (cI, 14, .inl gi)), (a5, .inl (cI, 14, .inl sk)), (a6, .inl (cI, 14, .inl pg)), (a11, .inl (cI, 4096, .inl z_1)), (a12, .inl (cI, 4096, .inl z_2))] : va_W)) ew_0 ew_1 ew_2)⟩
    · skip
      have c_24 := k01_z c_24
      refine lv_iconst (v := (-1)) hx hb dX8_shortens_27 (by decide) ?_
      have ew_0 : (wt : Int32) = if withinB px 0 (nI P - 1) && areB T wi then (if (fwF ne ei im gi sk pg co st T P pa (-1) wi (2 ^ T)).1 K = 268435456 then -1 else px) else wt := by simp [c_16, c_24]
      have ew_1 : (co : Nat → Int32) = if withinB px 0 (nI P - 1) && areB T wi then (if (fwF ne ei im gi sk pg co st T P pa (-1) wi (2 ^ T)).1 K = 268435456 then (fwF ne ei im gi sk pg co st T P pa (-1) wi (2 ^ T)).1 else (fwF ne ei im gi sk pg (fwF ne ei im gi sk pg co st T P pa (-1) wi (2 ^ T)).1 (fwF ne ei im gi sk pg co st T P pa (-1) wi (2 ^ T)).2 T P pa px wi (2 ^ T)).1) else co := by simp [c_16, c_24]
      have ew_2 : (st : Nat → Int32) = if withinB px 0 (nI P - 1) && areB T wi then (if (fwF ne ei im gi sk pg co st T P pa (-1) wi (2 ^ T)).1 K = 268435456 then (fwF ne ei im gi sk pg co st T P pa (-1) wi (2 ^ T)).2 else (fwF ne ei im gi sk pg (fwF ne ei im gi sk pg co st T P pa (-1) wi (2 ^ T)).1 (fwF ne ei im gi sk pg co st T P pa (-1) wi (2 ^ T)).2 T P pa px wi (2 ^ T)).2) else st := by simp [c_16, c_24]
      exact kRetI hx hb hr hlk dX8_shortens_28 hP hD hS (Nat.le_of_ble_eq_true rfl) (Nat.le_of_ble_eq_true rfl) ⟨(kpi (by simp [c_16, c_24])), (kw3 (fun (z_0 : Int32) (z_1 : Nat → Int32) (z_2 : Nat → Int32) => ([(z, .inr (9, [.ref a0, .ref a1, .int (nI T), .ref a2, .ref a3, .ref a4, .ref a5, .ref a6, .int (nI P), .int pa, .int (nI K), .ref a7, .int (nI rn), .ref a8, .ref a9, .int (nI ln), .ref a10, .int 0, .ref a11, .ref a12, .int z_0, .ref a13, .ref a14, .ref a15])), (a1, .inl (cI, 12, .inl im)), (a2, .inl (cI, 14, .inl ne)), (a3, .inl (cI, 14, .inl ei)), (a4, .inl (cI, 14, .inl gi)), (a5, .inl (cI, 14, .inl sk)), (a6, .inl (cI, 14, .inl pg)), (a11, .inl (cI, 4096, .inl z_1)), (a12, .inl (cI, 4096, .inl z_2))] : va_W)) ew_0 ew_1 ew_2)⟩

set_option maxHeartbeats 4000000 in
set_option maxRecDepth 100000 in
theorem c_X8_lay (l : Launch) (D : va_G) (cI cJ cZ cO : ClassId) (z : Nat) (a0 : Nat) (a1 : Nat) (a2 : Nat) (a3 : Nat) (a4 : Nat) (a5 : Nat) (a6 : Nat) (a7 : Nat) (a8 : Nat) (a9 : Nat) (a10 : Nat) (a11 : Nat) (a12 : Nat) (a13 : Nat) (a14 : Nat) (a15 : Nat) (T : Nat) (P : Nat) (pa : Int32) (kn : Int32) (rn : Nat) (ln : Nat) (th : Int32) (wt : Int32) (ro : Nat → Int32) (we : Nat → Int32) (pg : Nat → Int32) (la : Nat → Int32) (pl : Nat → Int32) (x : Int32) (hP14 : P ≤ 14) (hrn : rn ≤ 12) : kC l D (kTY cI cJ cZ cO) yX8_lay wsX8_lay 2 43 0 0 [.ref z, .int x] [(z, .inr (9, [.ref a0, .ref a1, .int (nI T), .ref a2, .ref a3, .ref a4, .ref a5, .ref a6, .int (nI P), .int pa, .int kn, .ref a7, .int (nI rn), .ref a8, .ref a9, .int (nI ln), .ref a10, .int th, .ref a11, .ref a12, .int wt, .ref a13, .ref a14, .ref a15])), (a7, .inl (cI, 12, .inl ro)), (a8, .inl (cI, 52, .inl we)), (a6, .inl (cI, 14, .inl pg)), (a9, .inl (cI, 12, .inl la)), (a14, .inl (cI, 12, .inl pl))] (fun rv_ rw_ => ∃ pl2 : Nat → Int32, rv_ = some (.int (if withinB x 0 51 then layR (mS we (fun i => stpB P (ro i)) (fun i => mtimeF pg pa (ro i).toNatClampNeg) x.toNatClampNeg pl rn) else -1)) ∧ rw_ = [(z, .inr (9, [.ref a0, .ref a1, .int (nI T), .ref a2, .ref a3, .ref a4, .ref a5, .ref a6, .int (nI P), .int pa, .int kn, .ref a7, .int (nI rn), .ref a8, .ref a9, .int (nI (if withinB x 0 51 then layN (mS we (fun i => stpB P (ro i)) (fun i => mtimeF pg pa (ro i).toNatClampNeg) x.toNatClampNeg pl rn) rn ln else ln)), .ref a10, .int 0, .ref a11, .ref a12, .int wt, .ref a13, .ref a14, .ref a15])), (a7, .inl (cI, 12, .inl ro)), (a8, .inl (cI, 52, .inl we)), (a6, .inl (cI, 14, .inl pg)), (a9, .inl (cI, 12, .inl (if withinB x 0 51 then layA (mS we (fun i => stpB P (ro i)) (fun i => mtimeF pg pa (ro i).toNatClampNeg) x.toNatClampNeg pl rn) rn la else la))), (a14, .inl (cI, 12, .inl pl2))]) := by
  refine kEnter (cc := cX8_lay) (maxL := 5) (ret := (some .int)) (by decide) rfl (Nat.le_of_ble_eq_true rfl) ?_
  intro p e s m args below meth c hx hb hr hml hts hown hlk hnm hK hP hD hS hA ls hl
  have hl : lv_has ls 5 [(0, .ref z), (1, .int x)] := hl
  have hw_f63 := hts (.fieldLink RX8 63 "WhatToReadModel" "thrown" "I") (by decide +kernel)
  have hi_X8 : ∀ w ∈ wsX80, w ∈ wsX8_lay := by decide +kernel
  have hw_f90 := hts (.fieldLink RX8 90 "WhatToReadModel" "rowMany" "I") (by decide +kernel)
  have hw_f125 := hts (.fieldLink RX8 125 "WhatToReadModel" "laidMany" "I") (by decide +kernel)
  have hw_f41 := hts (.fieldLink RX8 41 "WhatToReadModel" "laid" "[I") (by decide +kernel)
  have hw_f57 := hts (.fieldLink RX8 57 "WhatToReadModel" "place" "[I") (by decide +kernel)
  have hw_f35 := hts (.fieldLink RX8 35 "WhatToReadModel" "row" "[I") (by decide +kernel)
  have hw_f38 := hts (.fieldLink RX8 38 "WhatToReadModel" "week" "[I") (by decide +kernel)
  refine lv_aload_n hx hb dX8_lay_0 rfl (lv_at hl 0 rfl) ?_
  refine lv_iconst (v := 0) hx hb dX8_lay_1 (by decide) ?_
  refine va_put (D := D) (ci := 9) (v := .int 0) (ty := .int) (C := RX8) (T := TX8) (N := 24) hx hb hts hi_X8 tyX8 tyX8_ok nmX8 hown hK.1 hP hD hS 0 rfl rfl 17 (by decide) hw_f63 (fun _ h9 => h9) rfl (by decide +kernel) rfl rfl (Nat.le_of_ble_eq_true rfl) dX8_lay_2 (fun H locs hP hD hS => ?_)
  have hP : va_P D vwCl [(z, .inr (9, [.ref a0, .ref a1, .int (nI T), .ref a2, .ref a3, .ref a4, .ref a5, .ref a6, .int (nI P), .int pa, .int kn, .ref a7, .int (nI rn), .ref a8, .ref a9, .int (nI ln), .ref a10, .int 0, .ref a11, .ref a12, .int wt, .ref a13, .ref a14, .ref a15])), (a7, .inl (cI, 12, .inl ro)), (a8, .inl (cI, 52, .inl we)), (a6, .inl (cI, 14, .inl pg)), (a9, .inl (cI, 12, .inl la)), (a14, .inl (cI, 12, .inl pl))] H := hP
  have hD : va_D _ [(z, .inr (9, [.ref a0, .ref a1, .int (nI T), .ref a2, .ref a3, .ref a4, .ref a5, .ref a6, .int (nI P), .int pa, .int kn, .ref a7, .int (nI rn), .ref a8, .ref a9, .int (nI ln), .ref a10, .int 0, .ref a11, .ref a12, .int wt, .ref a13, .ref a14, .ref a15])), (a7, .inl (cI, 12, .inl ro)), (a8, .inl (cI, 52, .inl we)), (a6, .inl (cI, 14, .inl pg)), (a9, .inl (cI, 12, .inl la)), (a14, .inl (cI, 12, .inl pl))] := hD
  refine lv_iload_n hx hb dX8_lay_5 rfl (lv_at hl 1 rfl) ?_
  refine lv_iconst (v := 0) hx hb dX8_lay_6 (by decide) ?_
  refine lv_bipush (v := 51) hx hb dX8_lay_7 (by decide) ?_
  refine kGoR (va_runS (As := [.int x, .int 0, .int 51]) (rest := []) ⟨hx, hb, hml, hown, hts⟩ (c_X8_in l D cI cJ cZ cO x 0 51 ) (va_cwS 3 hts gX8_lay_X8_in rfl rfl rfl (by decide +kernel) ⟨Nat.le_of_ble_eq_true rfl, Nat.le_of_ble_eq_true rfl⟩) (kPreSR hK (kPc_sub hP [] rfl)) rfl rfl hl.1 rfl (lv_room (Nat.le_of_ble_eq_true rfl)) dX8_lay_9 ⟨Nat.le_of_ble_eq_true rfl, Nat.le_of_ble_eq_true rfl⟩) (fun v_1 hv_1 => ?_)
  obtain rfl := hv_1
  refine W.eq (g2 := F0 m 12 ls [.int (k01 (withinB x 0 51))]) rfl ?_
  refine lv_if_ne (tgt := 17) hx hb dX8_lay_12 (by decide) (fun c_12 => ?_) (fun c_12 => ?_)
  · skip
    have c_12 := k01_n c_12
    obtain ⟨F, hF, c_ek⟩ := vp_in_of (kwin (n := 52) (N := 52) c_12 (by decide) (by decide)) (by decide)
    have c_kc : (nI F).toNatClampNeg = F := nI_clamp (by omega)
    refine lv_iload_n hx hb dX8_lay_17 rfl (lv_at hl 1 rfl) ?_
    refine lv_topi (fun nv_2 ev_2 => ?_)
    obtain rfl : nv_2 = nI F := ev_2.trans (c_ek)
    refine lv_istore_n (lv' := [(2, .int (nI F)), (0, .ref z), (1, .int x)]) hx hb dX8_lay_18 rfl hl (by decide) rfl (fun ls hl => ?_)
    refine lv_iconst (v := 0) hx hb dX8_lay_19 (by decide) ?_
    refine lv_istore_n (lv' := [(3, .int 0), (2, .int (nI F)), (0, .ref z), (1, .int x)]) hx hb dX8_lay_20 rfl hl (by decide) rfl (fun ls hl => ?_)
    refine lv_iconst (v := 0) hx hb dX8_lay_21 (by decide) ?_
    refine lv_istore (lv' := [(4, .int 0), (3, .int 0), (2, .int (nI F)), (0, .ref z), (1, .int x)]) hx hb dX8_lay_22 hl (by decide) rfl (fun ls hl => ?_)
    have hloop_24 : ∀ (fu : Nat) (i : Nat) (w : Nat) (u : Int32) (d : Nat → Int32), rn - i < fu → i ≤ rn → w < 52 → mS we (fun i => stpB P (ro i)) (fun i => mtimeF pg pa (ro i).toNatClampNeg) F pl i = some (w, u, d) → ∀ (H : Heap) (locs : List Loc), va_P D vwCl [(z, .inr (9, [.ref a0, .ref a1, .int (nI T), .ref a2, .ref a3, .ref a4, .ref a5, .ref a6, .int (nI P), .int pa, .int kn, .ref a7, .int (nI rn), .ref a8, .ref a9, .int (nI ln), .ref a10, .int 0, .ref a11, .ref a12, .int wt, .ref a13, .ref a14, .ref a15])), (a7, .inl (cI, 12, .inl ro)), (a8, .inl (cI, 52, .inl we)), (a6, .inl (cI, 14, .inl pg)), (a9, .inl (cI, 12, .inl la)), (a14, .inl (cI, 12, .inl d))] H → va_D (va_A [(z, .inr (9, [.ref a0, .ref a1, .int (nI T), .ref a2, .ref a3, .ref a4, .ref a5, .ref a6, .int (nI P), .int pa, .int kn, .ref a7, .int (nI rn), .ref a8, .ref a9, .int (nI ln), .ref a10, .int th, .ref a11, .ref a12, .int wt, .ref a13, .ref a14, .ref a15])), (a7, .inl (cI, 12, .inl ro)), (a8, .inl (cI, 52, .inl we)), (a6, .inl (cI, 14, .inl pg)), (a9, .inl (cI, 12, .inl la)), (a14, .inl (cI, 12, .inl pl))] s.heap.size) [(z, .inr (9, [.ref a0, .ref a1, .int (nI T), .ref a2, .ref a3, .ref a4, .ref a5, .ref a6, .int (nI P), .int pa, .int kn, .ref a7, .int (nI rn), .ref a8, .ref a9, .int (nI ln), .ref a10, .int 0, .ref a11, .ref a12, .int wt, .ref a13, .ref a14, .ref a15])), (a7, .inl (cI, 12, .inl ro)), (a8, .inl (cI, 52, .inl we)), (a6, .inl (cI, 14, .inl pg)), (a9, .inl (cI, 12, .inl la)), (a14, .inl (cI, 12, .inl d))] → va_S (va_A [(z, .inr (9, [.ref a0, .ref a1, .int (nI T), .ref a2, .ref a3, .ref a4, .ref a5, .ref a6, .int (nI P), .int pa, .int kn, .ref a7, .int (nI rn), .ref a8, .ref a9, .int (nI ln), .ref a10, .int th, .ref a11, .ref a12, .int wt, .ref a13, .ref a14, .ref a15])), (a7, .inl (cI, 12, .inl ro)), (a8, .inl (cI, 52, .inl we)), (a6, .inl (cI, 14, .inl pg)), (a9, .inl (cI, 12, .inl la)), (a14, .inl (cI, 12, .inl pl))] s.heap.size) s.heap H locs → ∀ ls : Array Slot, lv_has ls 5 [(0, .ref z), (1, .int x), (2, .int (nI w)), (3, .int u), (4, .int (nI i))] → W p l e ({ frames := 2, cells := 0, slots := 0, locals := 43 }) s m args below meth c H locs 0 0 (MQ below (kQ D [(z, .inr (9, [.ref a0, .ref a1, .int (nI T), .ref a2, .ref a3, .ref a4, .ref a5, .ref a6, .int (nI P), .int pa, .int kn, .ref a7, .int (nI rn), .ref a8, .ref a9, .int (nI ln), .ref a10, .int th, .ref a11, .ref a12, .int wt, .ref a13, .ref a14, .ref a15])), (a7, .inl (cI, 12, .inl ro)), (a8, .inl (cI, 52, .inl we)), (a6, .inl (cI, 14, .inl pg)), (a9, .inl (cI, 12, .inl la)), (a14, .inl (cI, 12, .inl pl))] s.heap.size (fun rv_ rw_ => ∃ pl2 : Nat → Int32, rv_ = some (.int (if withinB x 0 51 then layR (mS we (fun i => stpB P (ro i)) (fun i => mtimeF pg pa (ro i).toNatClampNeg) x.toNatClampNeg pl rn) else -1)) ∧ rw_ = [(z, .inr (9, [.ref a0, .ref a1, .int (nI T), .ref a2, .ref a3, .ref a4, .ref a5, .ref a6, .int (nI P), .int pa, .int kn, .ref a7, .int (nI rn), .ref a8, .ref a9, .int (nI (if withinB x 0 51 then layN (mS we (fun i => stpB P (ro i)) (fun i => mtimeF pg pa (ro i).toNatClampNeg) x.toNatClampNeg pl rn) rn ln else ln)), .ref a10, .int 0, .ref a11, .ref a12, .int wt, .ref a13, .ref a14, .ref a15])), (a7, .inl (cI, 12, .inl ro)), (a8, .inl (cI, 52, .inl we)), (a6, .inl (cI, 14, .inl pg)), (a9, .inl (cI, 12, .inl (if withinB x 0 51 then layA (mS we (fun i => stpB P (ro i)) (fun i => mtimeF pg pa (ro i).toNatClampNeg) x.toNatClampNeg pl rn) rn la else la))), (a14, .inl (cI, 12, .inl pl2))])) args s 0 0 (va_A [(z, .inr (9, [.ref a0, .ref a1, .int (nI T), .ref a2, .ref a3, .ref a4, .ref a5, .ref a6, .int (nI P), .int pa, .int kn, .ref a7, .int (nI rn), .ref a8, .ref a9, .int (nI ln), .ref a10, .int th, .ref a11, .ref a12, .int wt, .ref a13, .ref a14, .ref a15])), (a7, .inl (cI, 12, .inl ro)), (a8, .inl (cI, 52, .inl we)), (a6, .inl (cI, 14, .inl pg)), (a9, .inl (cI, 12, .inl la)), (a14, .inl (cI, 12, .inl pl))] s.heap.size)) (F0 m 24 ls []) := by
      intro fu
      induction fu with
      | zero => intro i w u d hmu; exact absurd hmu (Nat.not_lt_zero _)
      | succ fu ih_24 =>
        intro i w u d hmu_24 hi hw ey H locs hP hD hS ls hl
        refine lv_iload hx hb dX8_lay_24 (lv_at hl 4 rfl) ?_
        refine lv_aload_n hx hb dX8_lay_26 rfl (lv_at hl 0 rfl) ?_
        refine va_get (D := D) (ci := 9) (v := .int (nI rn)) (C := RX8) (T := TX8) (N := 24) hx hb hts hi_X8 hown hK.1 hP 0 rfl rfl 12 (by decide) hw_f90 (fun _ h9 => h9) rfl dX8_lay_27 ?_
        refine lv_icmp_ge (tgt := 123) hx hb dX8_lay_30 (by decide) (fun c_30 => ?_) (fun c_30 => ?_)
        · skip
          have nc_30 : rn ≤ i := (nI_leI (a := rn) (b := i) (by omega) (by omega)).mp c_30
          have e12 : i = rn := by omega
          refine lv_aload_n hx hb dX8_lay_123 rfl (lv_at hl 0 rfl) ?_
          refine lv_aload_n hx hb dX8_lay_124 rfl (lv_at hl 0 rfl) ?_
          refine va_get (D := D) (ci := 9) (v := .int (nI rn)) (C := RX8) (T := TX8) (N := 24) hx hb hts hi_X8 hown hK.1 hP 0 rfl rfl 12 (by decide) hw_f90 (fun _ h9 => h9) rfl dX8_lay_125 ?_
          refine va_put (D := D) (ci := 9) (v := .int (nI rn)) (ty := .int) (C := RX8) (T := TX8) (N := 24) hx hb hts hi_X8 tyX8 tyX8_ok nmX8 hown hK.1 hP hD hS 0 rfl rfl 15 (by decide) hw_f125 (fun _ h9 => h9) rfl (by decide +kernel) rfl rfl (Nat.le_of_ble_eq_true rfl) dX8_lay_128 (fun H locs hP hD hS => ?_)
          have hP : va_P D vwCl [(z, .inr (9, [.ref a0, .ref a1, .int (nI T), .ref a2, .ref a3, .ref a4, .ref a5, .ref a6, .int (nI P), .int pa, .int kn, .ref a7, .int (nI rn), .ref a8, .ref a9, .int (nI rn), .ref a10, .int 0, .ref a11, .ref a12, .int wt, .ref a13, .ref a14, .ref a15])), (a7, .inl (cI, 12, .inl ro)), (a8, .inl (cI, 52, .inl we)), (a6, .inl (cI, 14, .inl pg)), (a9, .inl (cI, 12, .inl la)), (a14, .inl (cI, 12, .inl d))] H := hP
          have hD : va_D _ [(z, .inr (9, [.ref a0, .ref a1, .int (nI T), .ref a2, .ref a3, .ref a4, .ref a5, .ref a6, .int (nI P), .int pa, .int kn, .ref a7, .int (nI rn), .ref a8, .ref a9, .int (nI rn), .ref a10, .int 0, .ref a11, .ref a12, .int wt, .ref a13, .ref a14, .ref a15])), (a7, .inl (cI, 12, .inl ro)), (a8, .inl (cI, 52, .inl we)), (a6, .inl (cI, 14, .inl pg)), (a9, .inl (cI, 12, .inl la)), (a14, .inl (cI, 12, .inl d))] := hD
          refine lv_iconst (v := 0) hx hb dX8_lay_131 (by decide) ?_
          refine lv_istore (lv' := [(4, .int 0), (0, .ref z), (1, .int x), (2, .int (nI w)), (3, .int u)]) hx hb dX8_lay_132 hl (by decide) rfl (fun ls hl => ?_)
          have hloop_134 : ∀ (fu : Nat) (i2 : Nat) (x3 : Nat → Int32), rn - i2 < fu → i2 ≤ rn → x3 = becF la d i2 → ∀ (H : Heap) (locs : List Loc), va_P D vwCl [(z, .inr (9, [.ref a0, .ref a1, .int (nI T), .ref a2, .ref a3, .ref a4, .ref a5, .ref a6, .int (nI P), .int pa, .int kn, .ref a7, .int (nI rn), .ref a8, .ref a9, .int (nI rn), .ref a10, .int 0, .ref a11, .ref a12, .int wt, .ref a13, .ref a14, .ref a15])), (a7, .inl (cI, 12, .inl ro)), (a8, .inl (cI, 52, .inl we)), (a6, .inl (cI, 14, .inl pg)), (a9, .inl (cI, 12, .inl x3)), (a14, .inl (cI, 12, .inl d))] H → va_D (va_A [(z, .inr (9, [.ref a0, .ref a1, .int (nI T), .ref a2, .ref a3, .ref a4, .ref a5, .ref a6, .int (nI P), .int pa, .int kn, .ref a7, .int (nI rn), .ref a8, .ref a9, .int (nI ln), .ref a10, .int th, .ref a11, .ref a12, .int wt, .ref a13, .ref a14, .ref a15])), (a7, .inl (cI, 12, .inl ro)), (a8, .inl (cI, 52, .inl we)), (a6, .inl (cI, 14, .inl pg)), (a9, .inl (cI, 12, .inl la)), (a14, .inl (cI, 12, .inl pl))] s.heap.size) [(z, .inr (9, [.ref a0, .ref a1, .int (nI T), .ref a2, .ref a3, .ref a4, .ref a5, .ref a6, .int (nI P), .int pa, .int kn, .ref a7, .int (nI rn), .ref a8, .ref a9, .int (nI rn), .ref a10, .int 0, .ref a11, .ref a12, .int wt, .ref a13, .ref a14, .ref a15])), (a7, .inl (cI, 12, .inl ro)), (a8, .inl (cI, 52, .inl we)), (a6, .inl (cI, 14, .inl pg)), (a9, .inl (cI, 12, .inl x3)), (a14, .inl (cI, 12, .inl d))] → va_S (va_A [(z, .inr (9, [.ref a0, .ref a1, .int (nI T), .ref a2, .ref a3, .ref a4, .ref a5, .ref a6, .int (nI P), .int pa, .int kn, .ref a7, .int (nI rn), .ref a8, .ref a9, .int (nI ln), .ref a10, .int th, .ref a11, .ref a12, .int wt, .ref a13, .ref a14, .ref a15])), (a7, .inl (cI, 12, .inl ro)), (a8, .inl (cI, 52, .inl we)), (a6, .inl (cI, 14, .inl pg)), (a9, .inl (cI, 12, .inl la)), (a14, .inl (cI, 12, .inl pl))] s.heap.size) s.heap H locs → ∀ ls : Array Slot, lv_has ls 5 [(0, .ref z), (1, .int x), (2, .int (nI w)), (3, .int u), (4, .int (nI i2))] → W p l e ({ frames := 2, cells := 0, slots := 0, locals := 43 }) s m args below meth c H locs 0 0 (MQ below (kQ D [(z, .inr (9, [.ref a0, .ref a1, .int (nI T), .ref a2, .ref a3, .ref a4, .ref a5, .ref a6, .int (nI P), .int pa, .int kn, .ref a7, .int (nI rn), .ref a8, .ref a9, .int (nI ln), .ref a10, .int th, .ref a11, .ref a12, .int wt, .ref a13, .ref a14, .ref a15])), (a7, .inl (cI, 12, .inl ro)), (a8, .inl (cI, 52, .inl we)), (a6, .inl (cI, 14, .inl pg)), (a9, .inl (cI, 12, .inl la)), (a14, .inl (cI, 12, .inl pl))] s.heap.size (fun rv_ rw_ => ∃ pl2 : Nat → Int32, rv_ = some (.int (if withinB x 0 51 then layR (mS we (fun i => stpB P (ro i)) (fun i => mtimeF pg pa (ro i).toNatClampNeg) x.toNatClampNeg pl rn) else -1)) ∧ rw_ = [(z, .inr (9, [.ref a0, .ref a1, .int (nI T), .ref a2, .ref a3, .ref a4, .ref a5, .ref a6, .int (nI P), .int pa, .int kn, .ref a7, .int (nI rn), .ref a8, .ref a9, .int (nI (if withinB x 0 51 then layN (mS we (fun i => stpB P (ro i)) (fun i => mtimeF pg pa (ro i).toNatClampNeg) x.toNatClampNeg pl rn) rn ln else ln)), .ref a10, .int 0, .ref a11, .ref a12, .int wt, .ref a13, .ref a14, .ref a15])), (a7, .inl (cI, 12, .inl ro)), (a8, .inl (cI, 52, .inl we)), (a6, .inl (cI, 14, .inl pg)), (a9, .inl (cI, 12, .inl (if withinB x 0 51 then layA (mS we (fun i => stpB P (ro i)) (fun i => mtimeF pg pa (ro i).toNatClampNeg) x.toNatClampNeg pl rn) rn la else la))), (a14, .inl (cI, 12, .inl pl2))])) args s 0 0 (va_A [(z, .inr (9, [.ref a0, .ref a1, .int (nI T), .ref a2, .ref a3, .ref a4, .ref a5, .ref a6, .int (nI P), .int pa, .int kn, .ref a7, .int (nI rn), .ref a8, .ref a9, .int (nI ln), .ref a10, .int th, .ref a11, .ref a12, .int wt, .ref a13, .ref a14, .ref a15])), (a7, .inl (cI, 12, .inl ro)), (a8, .inl (cI, 52, .inl we)), (a6, .inl (cI, 14, .inl pg)), (a9, .inl (cI, 12, .inl la)), (a14, .inl (cI, 12, .inl pl))] s.heap.size)) (F0 m 134 ls []) := by
            intro fu
            induction fu with
            | zero => intro i2 x3 hmu; exact absurd hmu (Nat.not_lt_zero _)
            | succ fu ih_134 =>
              intro i2 x3 hmu_134 hi2 ex3 H locs hP hD hS ls hl
              refine lv_iload hx hb dX8_lay_134 (lv_at hl 4 rfl) ?_
              refine lv_aload_n hx hb dX8_lay_136 rfl (lv_at hl 0 rfl) ?_
              refine va_get (D := D) (ci := 9) (v := .int (nI rn)) (C := RX8) (T := TX8) (N := 24) hx hb hts hi_X8 hown hK.1 hP 0 rfl rfl 12 (by decide) hw_f90 (fun _ h9 => h9) rfl dX8_lay_137 ?_
              refine lv_icmp_ge (tgt := 163) hx hb dX8_lay_140 (by decide) (fun c_140 => ?_) (fun c_140 => ?_)
              · skip
                have nc_140 : rn ≤ i2 := (nI_leI (a := rn) (b := i2) (by omega) (by omega)).mp c_140
                have e13 : i2 = rn := by omega
                refine lv_iload_n hx hb dX8_lay_163 rfl (lv_at hl 2 rfl) ?_
                have ew_0 : (nI rn : Int32) = nI (if withinB x 0 51 then layN (mS we (fun i => stpB P (ro i)) (fun i => mtimeF pg pa (ro i).toNatClampNeg) x.toNatClampNeg pl rn) rn ln else ln) := by first | (simp [c_12, c_30, nc_30, c_140, nc_140]; done) | (rw [if_pos c_12, c_ek, c_kc, ← e12, ey]; rfl) | (rw [if_pos c_12, c_ek, c_kc, mS_bad (ok := fun i => stpB P (ro i)) (tm := fun i => mtimeF pg pa (ro i).toNatClampNeg) ey hR (by omega) (show i < rn by omega)]; rfl) | (rw [if_pos c_12, c_ek, c_kc, mS_bad2 (ok := fun i => stpB P (ro i)) (tm := fun i => mtimeF pg pa (ro i).toNatClampNeg) ey c_44 (show i < rn by omega)]; rfl)
                have ew_1 : (x3 : Nat → Int32) = if withinB x 0 51 then layA (mS we (fun i => stpB P (ro i)) (fun i => mtimeF pg pa (ro i).toNatClampNeg) x.toNatClampNeg pl rn) rn la else la := by first | (simp [c_12, c_30, nc_30, c_140, nc_140]; done) | (rw [if_pos c_12, c_ek, c_kc, ex3, e13, ← e12, ey]; rfl) | (rw [if_pos c_12, c_ek, c_kc, mS_bad (ok := fun i => stpB P (ro i)) (tm := fun i => mtimeF pg pa (ro i).toNatClampNeg) ey hR (by omega) (show i < rn by omega)]; rfl) | (rw [if_pos c_12, c_ek, c_kc, mS_bad2 (ok := fun i => stpB P (ro i)) (tm := fun i => mtimeF pg pa (ro i).toNatClampNeg) ey c_44 (show i < rn by omega)]; rfl)
                exact kRetI hx hb hr hlk dX8_lay_164 hP hD hS (Nat.le_of_ble_eq_true rfl) (Nat.le_of_ble_eq_true rfl) ⟨d, (kpi (by first | (simp [c_12, c_30, nc_30, c_140, nc_140]; done) | (rw [if_pos c_12, c_ek, c_kc, ← e12, ey]; rfl) | (rw [if_pos c_12, c_ek, c_kc, mS_bad (ok := fun i => stpB P (ro i)) (tm := fun i => mtimeF pg pa (ro i).toNatClampNeg) ey hR (by omega) (show i < rn by omega)]; rfl) | (rw [if_pos c_12, c_ek, c_kc, mS_bad2 (ok := fun i => stpB P (ro i)) (tm := fun i => mtimeF pg pa (ro i).toNatClampNeg) ey c_44 (show i < rn by omega)]; rfl))), (kw2 (fun (z_0 : Int32) (z_1 : Nat → Int32) => ([(z, .inr (9, [.ref a0, .ref a1, .int (nI T), .ref a2, .ref a3, .ref a4, .ref a5, .ref a6, .int (nI P), .int pa, .int kn, .ref a7, .int (nI rn), .ref a8, .ref a9, .int z_0, .ref a10, .int 0, .ref a11, .ref a12, .int wt, .ref a13, .ref a14, .ref a15])), (a7, .inl (cI, 12, .inl ro)), (a8, .inl (cI, 52, .inl we)), (a6, .inl (cI, 14, .inl pg)), (a9, .inl (cI, 12, .inl z_1)), (a14, .inl (cI, 12, .inl d))] : va_W)) ew_0 ew_1)⟩
              · skip
                have nc_140 : ¬ rn ≤ i2 := (not_congr (nI_leI (a := rn) (b := i2) (by omega) (by omega))).mp c_140
                refine lv_aload_n hx hb dX8_lay_143 rfl (lv_at hl 0 rfl) ?_
                refine va_get (D := D) (ci := 9) (v := .ref a9) (C := RX8) (T := TX8) (N := 24) hx hb hts hi_X8 hown hK.1 hP 0 rfl rfl 14 (by decide) hw_f41 (fun _ h9 => h9) rfl dX8_lay_144 ?_
                refine lv_iload hx hb dX8_lay_147 (lv_at hl 4 rfl) ?_
                refine lv_aload_n hx hb dX8_lay_149 rfl (lv_at hl 0 rfl) ?_
                refine va_get (D := D) (ci := 9) (v := .ref a14) (C := RX8) (T := TX8) (N := 24) hx hb hts hi_X8 hown hK.1 hP 0 rfl rfl 22 (by decide) hw_f57 (fun _ h9 => h9) rfl dX8_lay_150 ?_
                refine lv_iload hx hb dX8_lay_153 (lv_at hl 4 rfl) ?_
                refine va_iald hx hb hK.1 hP 5 0 rfl rfl (vp_in_nI (by omega) (by omega)) dX8_lay_155 ?_
                refine lv_topi (fun nv_3 ev_3 => ?_)
                obtain rfl : nv_3 = d i2 := by rw [ev_3, nI_clamp (by omega)]
                refine va_iast hx hb hK.1 hP hD hS 4 0 rfl rfl (vp_in_nI (by omega) (by omega)) dX8_lay_156 (fun H locs hP hD hS => ?_)
                rw [nI_clamp (by omega)] at hP hD
                have hP : va_P D vwCl [(z, .inr (9, [.ref a0, .ref a1, .int (nI T), .ref a2, .ref a3, .ref a4, .ref a5, .ref a6, .int (nI P), .int pa, .int kn, .ref a7, .int (nI rn), .ref a8, .ref a9, .int (nI rn), .ref a10, .int 0, .ref a11, .ref a12, .int wt, .ref a13, .ref a14, .ref a15])), (a7, .inl (cI, 12, .inl ro)), (a8, .inl (cI, 52, .inl we)), (a6, .inl (cI, 14, .inl pg)), (a9, .inl (cI, 12, .inl (upd x3 i2 (d i2)))), (a14, .inl (cI, 12, .inl d))] H := hP
                have hD : va_D _ [(z, .inr (9, [.ref a0, .ref a1, .int (nI T), .ref a2, .ref a3, .ref a4, .ref a5, .ref a6, .int (nI P), .int pa, .int kn, .ref a7, .int (nI rn), .ref a8, .ref a9, .int (nI rn), .ref a10, .int 0, .ref a11, .ref a12, .int wt, .ref a13, .ref a14, .ref a15])), (a7, .inl (cI, 12, .inl ro)), (a8, .inl (cI, 52, .inl we)), (a6, .inl (cI, 14, .inl pg)), (a9, .inl (cI, 12, .inl (upd x3 i2 (d i2)))), (a14, .inl (cI, 12, .inl d))] := hD
                refine lv_iinc (v := nI (i2 + 1)) (lv' := [(4, .int (nI (i2 + 1))), (0, .ref z), (1, .int x), (2, .int (nI w)), (3, .int u)]) hx hb dX8_lay_157 hl (k := 4) rfl (nI_1 _) (by decide) rfl (fun ls hl => ?_)
                refine lv_goto (tgt := 134) hx hb dX8_lay_160 (by decide) ?_
                exact ih_134  (i2 + 1) (upd x3 i2 (d i2)) (by omega) (by first | omega | assumption | exact Nat.zero_le _) (by rw [ex3]; rfl) _ _ hP hD hS _ (lv_sub hl [1, 2, 3, 4, 0] rfl)
          exact hloop_134 ((rn - 0) + 1) 0 la (Nat.lt_succ_self _) (by first | omega | assumption | exact Nat.zero_le _) (by rfl) _ _ hP hD hS _ (lv_sub hl [1, 2, 3, 4, 0] rfl)
        · skip
          have nc_30 : ¬ rn ≤ i := (not_congr (nI_leI (a := rn) (b := i) (by omega) (by omega))).mp c_30
          refine lv_aload_n hx hb dX8_lay_33 rfl (lv_at hl 0 rfl) ?_
          refine lv_aload_n hx hb dX8_lay_34 rfl (lv_at hl 0 rfl) ?_
          refine va_get (D := D) (ci := 9) (v := .ref a7) (C := RX8) (T := TX8) (N := 24) hx hb hts hi_X8 hown hK.1 hP 0 rfl rfl 11 (by decide) hw_f35 (fun _ h9 => h9) rfl dX8_lay_35 ?_
          refine lv_iload hx hb dX8_lay_38 (lv_at hl 4 rfl) ?_
          refine va_iald hx hb hK.1 hP 1 0 rfl rfl (vp_in_nI (by omega) (by omega)) dX8_lay_40 ?_
          refine lv_topi (fun nv_4 ev_4 => ?_)
          obtain rfl : nv_4 = ro i := by rw [ev_4, nI_clamp (by omega)]
          refine kGoR (va_runV (As := [.int (ro i)]) (rest := []) ⟨hx, hb, hml, hown, hts⟩ (c_X8_isStep l D cI cJ cZ cO z a0 a1 a2 a3 a4 a5 a6 a7 a8 a9 a10 a11 a12 a13 a14 a15 T P pa kn rn ln 0 wt (ro i) ) (cwV 1 hts gX8_lay_X8_isStep rfl rfl rfl (by decide +kernel) ⟨Nat.le_of_ble_eq_true rfl, Nat.le_of_ble_eq_true rfl⟩) (kPreVR (ci := 9) (q0 := 0) hK (kPc_sub hP [0] rfl) rfl rfl rfl) rfl rfl hl.1 rfl (lv_room (Nat.le_of_ble_eq_true rfl)) dX8_lay_41 ⟨Nat.le_of_ble_eq_true rfl, Nat.le_of_ble_eq_true rfl⟩) (fun v_5 hv_5 => ?_)
          obtain rfl := hv_5
          refine W.eq (g2 := F0 m 44 ls [.int (k01 (stpB P (ro i)))]) rfl ?_
          refine lv_if_ne (tgt := 50) hx hb dX8_lay_44 (by decide) (fun c_44 => ?_) (fun c_44 => ?_)
          · skip
            have c_44 := k01_n c_44
            obtain ⟨k, hk, c_k2⟩ := kstpB hP14 c_44
            have hloop_50 : ∀ (fu : Nat) (w2 : Nat) (u2 : Int32), 52 - w2 < fu → w2 ≤ 52 → mW we (mtimeF pg pa (ro i).toNatClampNeg) (52 - w2) w2 u2 = mW we (mtimeF pg pa (ro i).toNatClampNeg) (52 - w) w u → ∀ (H : Heap) (locs : List Loc), va_P D vwCl [(z, .inr (9, [.ref a0, .ref a1, .int (nI T), .ref a2, .ref a3, .ref a4, .ref a5, .ref a6, .int (nI P), .int pa, .int kn, .ref a7, .int (nI rn), .ref a8, .ref a9, .int (nI ln), .ref a10, .int 0, .ref a11, .ref a12, .int wt, .ref a13, .ref a14, .ref a15])), (a7, .inl (cI, 12, .inl ro)), (a8, .inl (cI, 52, .inl we)), (a6, .inl (cI, 14, .inl pg)), (a9, .inl (cI, 12, .inl la)), (a14, .inl (cI, 12, .inl d))] H → va_D (va_A [(z, .inr (9, [.ref a0, .ref a1, .int (nI T), .ref a2, .ref a3, .ref a4, .ref a5, .ref a6, .int (nI P), .int pa, .int kn, .ref a7, .int (nI rn), .ref a8, .ref a9, .int (nI ln), .ref a10, .int th, .ref a11, .ref a12, .int wt, .ref a13, .ref a14, .ref a15])), (a7, .inl (cI, 12, .inl ro)), (a8, .inl (cI, 52, .inl we)), (a6, .inl (cI, 14, .inl pg)), (a9, .inl (cI, 12, .inl la)), (a14, .inl (cI, 12, .inl pl))] s.heap.size) [(z, .inr (9, [.ref a0, .ref a1, .int (nI T), .ref a2, .ref a3, .ref a4, .ref a5, .ref a6, .int (nI P), .int pa, .int kn, .ref a7, .int (nI rn), .ref a8, .ref a9, .int (nI ln), .ref a10, .int 0, .ref a11, .ref a12, .int wt, .ref a13, .ref a14, .ref a15])), (a7, .inl (cI, 12, .inl ro)), (a8, .inl (cI, 52, .inl we)), (a6, .inl (cI, 14, .inl pg)), (a9, .inl (cI, 12, .inl la)), (a14, .inl (cI, 12, .inl d))] → va_S (va_A [(z, .inr (9, [.ref a0, .ref a1, .int (nI T), .ref a2, .ref a3, .ref a4, .ref a5, .ref a6, .int (nI P), .int pa, .int kn, .ref a7, .int (nI rn), .ref a8, .ref a9, .int (nI ln), .ref a10, .int th, .ref a11, .ref a12, .int wt, .ref a13, .ref a14, .ref a15])), (a7, .inl (cI, 12, .inl ro)), (a8, .inl (cI, 52, .inl we)), (a6, .inl (cI, 14, .inl pg)), (a9, .inl (cI, 12, .inl la)), (a14, .inl (cI, 12, .inl pl))] s.heap.size) s.heap H locs → ∀ ls : Array Slot, lv_has ls 5 [(0, .ref z), (1, .int x), (2, .int (nI w2)), (3, .int u2), (4, .int (nI i))] → W p l e ({ frames := 2, cells := 0, slots := 0, locals := 43 }) s m args below meth c H locs 0 0 (MQ below (kQ D [(z, .inr (9, [.ref a0, .ref a1, .int (nI T), .ref a2, .ref a3, .ref a4, .ref a5, .ref a6, .int (nI P), .int pa, .int kn, .ref a7, .int (nI rn), .ref a8, .ref a9, .int (nI ln), .ref a10, .int th, .ref a11, .ref a12, .int wt, .ref a13, .ref a14, .ref a15])), (a7, .inl (cI, 12, .inl ro)), (a8, .inl (cI, 52, .inl we)), (a6, .inl (cI, 14, .inl pg)), (a9, .inl (cI, 12, .inl la)), (a14, .inl (cI, 12, .inl pl))] s.heap.size (fun rv_ rw_ => ∃ pl2 : Nat → Int32, rv_ = some (.int (if withinB x 0 51 then layR (mS we (fun i => stpB P (ro i)) (fun i => mtimeF pg pa (ro i).toNatClampNeg) x.toNatClampNeg pl rn) else -1)) ∧ rw_ = [(z, .inr (9, [.ref a0, .ref a1, .int (nI T), .ref a2, .ref a3, .ref a4, .ref a5, .ref a6, .int (nI P), .int pa, .int kn, .ref a7, .int (nI rn), .ref a8, .ref a9, .int (nI (if withinB x 0 51 then layN (mS we (fun i => stpB P (ro i)) (fun i => mtimeF pg pa (ro i).toNatClampNeg) x.toNatClampNeg pl rn) rn ln else ln)), .ref a10, .int 0, .ref a11, .ref a12, .int wt, .ref a13, .ref a14, .ref a15])), (a7, .inl (cI, 12, .inl ro)), (a8, .inl (cI, 52, .inl we)), (a6, .inl (cI, 14, .inl pg)), (a9, .inl (cI, 12, .inl (if withinB x 0 51 then layA (mS we (fun i => stpB P (ro i)) (fun i => mtimeF pg pa (ro i).toNatClampNeg) x.toNatClampNeg pl rn) rn la else la))), (a14, .inl (cI, 12, .inl pl2))])) args s 0 0 (va_A [(z, .inr (9, [.ref a0, .ref a1, .int (nI T), .ref a2, .ref a3, .ref a4, .ref a5, .ref a6, .int (nI P), .int pa, .int kn, .ref a7, .int (nI rn), .ref a8, .ref a9, .int (nI ln), .ref a10, .int th, .ref a11, .ref a12, .int wt, .ref a13, .ref a14, .ref a15])), (a7, .inl (cI, 12, .inl ro)), (a8, .inl (cI, 52, .inl we)), (a6, .inl (cI, 14, .inl pg)), (a9, .inl (cI, 12, .inl la)), (a14, .inl (cI, 12, .inl pl))] s.heap.size)) (F0 m 50 ls []) := by
              intro fu
              induction fu with
              | zero => intro w2 u2 hmu; exact absurd hmu (Nat.not_lt_zero _)
              | succ fu ih_50 =>
                intro w2 u2 hmu_50 hw2 hR H locs hP hD hS ls hl
                refine lv_iload_n hx hb dX8_lay_50 rfl (lv_at hl 2 rfl) ?_
                refine lv_bipush (v := 52) hx hb dX8_lay_51 (by decide) ?_
                refine lv_icmp_ge (tgt := 86) hx hb dX8_lay_53 (by decide) (fun c_53 => ?_) (fun c_53 => ?_)
                · skip
                  have nc_53 : 52 ≤ w2 := (nI_leI (a := 52) (b := w2) (by omega) (by omega)).mp c_53
                  refine lv_iload_n hx hb dX8_lay_86 rfl (lv_at hl 2 rfl) ?_
                  refine lv_bipush (v := 52) hx hb dX8_lay_87 (by decide) ?_
                  refine lv_icmp_ne (tgt := 95) hx hb dX8_lay_89 (by decide) (fun c_89 => ?_) (fun c_89 => ?_)
                  · skip
                    have nc_89 : ¬ w2 = 52 := (not_congr (nI_eq (a := w2) (b := 52) (by omega) (by omega))).mp c_89
                    refine lv_iload_n hx hb dX8_lay_95 rfl (lv_at hl 3 rfl) ?_
                    refine lv_aload_n hx hb dX8_lay_96 rfl (lv_at hl 0 rfl) ?_
                    refine lv_aload_n hx hb dX8_lay_97 rfl (lv_at hl 0 rfl) ?_
                    refine va_get (D := D) (ci := 9) (v := .ref a7) (C := RX8) (T := TX8) (N := 24) hx hb hts hi_X8 hown hK.1 hP 0 rfl rfl 11 (by decide) hw_f35 (fun _ h9 => h9) rfl dX8_lay_98 ?_
                    refine lv_iload hx hb dX8_lay_101 (lv_at hl 4 rfl) ?_
                    refine va_iald hx hb hK.1 hP 1 0 rfl rfl (vp_in_nI (by omega) (by omega)) dX8_lay_103 ?_
                    refine lv_topi (fun nv_6 ev_6 => ?_)
                    obtain rfl : nv_6 = ro i := by rw [ev_6, nI_clamp (by omega)]
                    refine lv_topi (fun nv_7 ev_7 => ?_)
                    obtain rfl : nv_7 = nI k := ev_7.trans (c_k2)
                    refine kGoR (va_runV (As := [.int (nI k)]) (rest := [.int u2]) ⟨hx, hb, hml, hown, hts⟩ (c_X8_time l D cI cJ cZ cO z a0 a1 a2 a3 a4 a5 a6 a7 a8 a9 a10 a11 a12 a13 a14 a15 T P pa kn rn ln 0 wt pg k (by first | assumption | omega | decide)) (cwV 1 hts gX8_lay_X8_time rfl rfl rfl (by decide +kernel) ⟨Nat.le_of_ble_eq_true rfl, Nat.le_of_ble_eq_true rfl⟩) (kPreVR (ci := 9) (q0 := 0) hK (kPc_sub hP [0, 3] rfl) rfl rfl rfl) rfl rfl hl.1 rfl (lv_room (Nat.le_of_ble_eq_true rfl)) dX8_lay_104 ⟨Nat.le_of_ble_eq_true rfl, Nat.le_of_ble_eq_true rfl⟩) (fun v_8 hv_8 => ?_)
                    obtain rfl := hv_8
                    refine W.eq (g2 := F0 m 107 ls [.int (mtimeF pg pa k), .int u2]) rfl ?_
                    refine lv_topi (fun nv_9 ev_9 => ?_)
                    obtain rfl : nv_9 = mtimeF pg pa (ro i).toNatClampNeg := ev_9.trans (by rw [c_k2, nI_clamp (by omega)])
                    refine lv_iadd hx hb dX8_lay_107 ?_
                    refine lv_istore_n (lv' := [(3, .int (u2 + (mtimeF pg pa (ro i).toNatClampNeg))), (0, .ref z), (1, .int x), (2, .int (nI w2)), (4, .int (nI i))]) hx hb dX8_lay_108 rfl hl (by decide) rfl (fun ls hl => ?_)
                    refine lv_aload_n hx hb dX8_lay_109 rfl (lv_at hl 1 rfl) ?_
                    refine va_get (D := D) (ci := 9) (v := .ref a14) (C := RX8) (T := TX8) (N := 24) hx hb hts hi_X8 hown hK.1 hP 0 rfl rfl 22 (by decide) hw_f57 (fun _ h9 => h9) rfl dX8_lay_110 ?_
                    refine lv_iload hx hb dX8_lay_113 (lv_at hl 4 rfl) ?_
                    refine lv_iload_n hx hb dX8_lay_115 rfl (lv_at hl 3 rfl) ?_
                    refine va_iast hx hb hK.1 hP hD hS 5 0 rfl rfl (vp_in_nI (by omega) (by omega)) dX8_lay_116 (fun H locs hP hD hS => ?_)
                    rw [nI_clamp (by omega)] at hP hD
                    have hP : va_P D vwCl [(z, .inr (9, [.ref a0, .ref a1, .int (nI T), .ref a2, .ref a3, .ref a4, .ref a5, .ref a6, .int (nI P), .int pa, .int kn, .ref a7, .int (nI rn), .ref a8, .ref a9, .int (nI ln), .ref a10, .int 0, .ref a11, .ref a12, .int wt, .ref a13, .ref a14, .ref a15])), (a7, .inl (cI, 12, .inl ro)), (a8, .inl (cI, 52, .inl we)), (a6, .inl (cI, 14, .inl pg)), (a9, .inl (cI, 12, .inl la)), (a14, .inl (cI, 12, .inl (upd d i (nI w2))))] H := hP
                    have hD : va_D _ [(z, .inr (9, [.ref a0, .ref a1, .int (nI T), .ref a2, .ref a3, .ref a4, .ref a5, .ref a6, .int (nI P), .int pa, .int kn, .ref a7, .int (nI rn), .ref a8, .ref a9, .int (nI ln), .ref a10, .int 0, .ref a11, .ref a12, .int wt, .ref a13, .ref a14, .ref a15])), (a7, .inl (cI, 12, .inl ro)), (a8, .inl (cI, 52, .inl we)), (a6, .inl (cI, 14, .inl pg)), (a9, .inl (cI, 12, .inl la)), (a14, .inl (cI, 12, .inl (upd d i (nI w2))))] := hD
                    refine lv_iinc (v := nI (i + 1)) (lv' := [(4, .int (nI (i + 1))), (3, .int (u2 + (mtimeF pg pa (ro i).toNatClampNeg))), (0, .ref z), (1, .int x), (2, .int (nI w2))]) hx hb dX8_lay_117 hl (k := 4) rfl (nI_1 _) (by decide) rfl (fun ls hl => ?_)
                    refine lv_goto (tgt := 24) hx hb dX8_lay_120 (by decide) ?_
                    exact ih_24  (i + 1) w2 (u2 + (mtimeF pg pa (ro i).toNatClampNeg)) (upd d i (nI w2)) (by omega) (by first | omega | assumption | exact Nat.zero_le _) (by first | omega | assumption | exact Nat.zero_le _) (by exact mS_step (ok := fun i => stpB P (ro i)) (tm := fun i => mtimeF pg pa (ro i).toNatClampNeg) ey hR (by first | exact Or.inl nc_53 | exact Or.inr c_75) c_44 nc_89) _ _ hP hD hS _ (lv_sub hl [2, 3, 4, 1, 0] rfl)
                  · skip
                    have nc_89 : w2 = 52 := (nI_eq (a := w2) (b := 52) (by omega) (by omega)).mp c_89
                    refine lv_bipush (v := (-2)) hx hb dX8_lay_92 (by decide) ?_
                    have ew_0 : (nI ln : Int32) = nI (if withinB x 0 51 then layN (mS we (fun i => stpB P (ro i)) (fun i => mtimeF pg pa (ro i).toNatClampNeg) x.toNatClampNeg pl rn) rn ln else ln) := by first | (simp [c_12, c_30, nc_30, c_44, c_53, nc_53, c_89, nc_89]; done) | (rw [if_pos c_12, c_ek, c_kc, ← e12, ey]; rfl) | (rw [if_pos c_12, c_ek, c_kc, mS_bad (ok := fun i => stpB P (ro i)) (tm := fun i => mtimeF pg pa (ro i).toNatClampNeg) ey hR (by omega) (show i < rn by omega)]; rfl) | (rw [if_pos c_12, c_ek, c_kc, mS_bad2 (ok := fun i => stpB P (ro i)) (tm := fun i => mtimeF pg pa (ro i).toNatClampNeg) ey c_44 (show i < rn by omega)]; rfl)
                    have ew_1 : (la : Nat → Int32) = if withinB x 0 51 then layA (mS we (fun i => stpB P (ro i)) (fun i => mtimeF pg pa (ro i).toNatClampNeg) x.toNatClampNeg pl rn) rn la else la := by first | (simp [c_12, c_30, nc_30, c_44, c_53, nc_53, c_89, nc_89]; done) | (rw [if_pos c_12, c_ek, c_kc, ex3, e13, ← e12, ey]; rfl) | (rw [if_pos c_12, c_ek, c_kc, mS_bad (ok := fun i => stpB P (ro i)) (tm := fun i => mtimeF pg pa (ro i).toNatClampNeg) ey hR (by omega) (show i < rn by omega)]; rfl) | (rw [if_pos c_12, c_ek, c_kc, mS_bad2 (ok := fun i => stpB P (ro i)) (tm := fun i => mtimeF pg pa (ro i).toNatClampNeg) ey c_44 (show i < rn by omega)]; rfl)
                    exact kRetI hx hb hr hlk dX8_lay_94 hP hD hS (Nat.le_of_ble_eq_true rfl) (Nat.le_of_ble_eq_true rfl) ⟨d, (kpi (by first | (simp [c_12, c_30, nc_30, c_44, c_53, nc_53, c_89, nc_89]; done) | (rw [if_pos c_12, c_ek, c_kc, ← e12, ey]; rfl) | (rw [if_pos c_12, c_ek, c_kc, mS_bad (ok := fun i => stpB P (ro i)) (tm := fun i => mtimeF pg pa (ro i).toNatClampNeg) ey hR (by omega) (show i < rn by omega)]; rfl) | (rw [if_pos c_12, c_ek, c_kc, mS_bad2 (ok := fun i => stpB P (ro i)) (tm := fun i => mtimeF pg pa (ro i).toNatClampNeg) ey c_44 (show i < rn by omega)]; rfl))), (kw2 (fun (z_0 : Int32) (z_1 : Nat → Int32) => ([(z, .inr (9, [.ref a0, .ref a1, .int (nI T), .ref a2, .ref a3, .ref a4, .ref a5, .ref a6, .int (nI P), .int pa, .int kn, .ref a7, .int (nI rn), .ref a8, .ref a9, .int z_0, .ref a10, .int 0, .ref a11, .ref a12, .int wt, .ref a13, .ref a14, .ref a15])), (a7, .inl (cI, 12, .inl ro)), (a8, .inl (cI, 52, .inl we)), (a6, .inl (cI, 14, .inl pg)), (a9, .inl (cI, 12, .inl z_1)), (a14, .inl (cI, 12, .inl d))] : va_W)) ew_0 ew_1)⟩
                · skip
                  have nc_53 : ¬ 52 ≤ w2 := (not_congr (nI_leI (a := 52) (b := w2) (by omega) (by omega))).mp c_53
                  refine lv_iload_n hx hb dX8_lay_56 rfl (lv_at hl 3 rfl) ?_
                  refine lv_aload_n hx hb dX8_lay_57 rfl (lv_at hl 0 rfl) ?_
                  refine lv_aload_n hx hb dX8_lay_58 rfl (lv_at hl 0 rfl) ?_
                  refine va_get (D := D) (ci := 9) (v := .ref a7) (C := RX8) (T := TX8) (N := 24) hx hb hts hi_X8 hown hK.1 hP 0 rfl rfl 11 (by decide) hw_f35 (fun _ h9 => h9) rfl dX8_lay_59 ?_
                  refine lv_iload hx hb dX8_lay_62 (lv_at hl 4 rfl) ?_
                  refine va_iald hx hb hK.1 hP 1 0 rfl rfl (vp_in_nI (by omega) (by omega)) dX8_lay_64 ?_
                  refine lv_topi (fun nv_10 ev_10 => ?_)
                  obtain rfl : nv_10 = ro i := by rw [ev_10, nI_clamp (by omega)]
                  refine lv_topi (fun nv_11 ev_11 => ?_)
                  obtain rfl : nv_11 = nI k := ev_11.trans (c_k2)
                  refine kGoR (va_runV (As := [.int (nI k)]) (rest := [.int u2]) ⟨hx, hb, hml, hown, hts⟩ (c_X8_time l D cI cJ cZ cO z a0 a1 a2 a3 a4 a5 a6 a7 a8 a9 a10 a11 a12 a13 a14 a15 T P pa kn rn ln 0 wt pg k (by first | assumption | omega | decide)) (cwV 1 hts gX8_lay_X8_time rfl rfl rfl (by decide +kernel) ⟨Nat.le_of_ble_eq_true rfl, Nat.le_of_ble_eq_true rfl⟩) (kPreVR (ci := 9) (q0 := 0) hK (kPc_sub hP [0, 3] rfl) rfl rfl rfl) rfl rfl hl.1 rfl (lv_room (Nat.le_of_ble_eq_true rfl)) dX8_lay_65 ⟨Nat.le_of_ble_eq_true rfl, Nat.le_of_ble_eq_true rfl⟩) (fun v_12 hv_12 => ?_)
                  obtain rfl := hv_12
                  refine W.eq (g2 := F0 m 68 ls [.int (mtimeF pg pa k), .int u2]) rfl ?_
                  refine lv_topi (fun nv_13 ev_13 => ?_)
                  obtain rfl : nv_13 = mtimeF pg pa (ro i).toNatClampNeg := ev_13.trans (by rw [c_k2, nI_clamp (by omega)])
                  refine lv_iadd hx hb dX8_lay_68 ?_
                  refine lv_aload_n hx hb dX8_lay_69 rfl (lv_at hl 0 rfl) ?_
                  refine va_get (D := D) (ci := 9) (v := .ref a8) (C := RX8) (T := TX8) (N := 24) hx hb hts hi_X8 hown hK.1 hP 0 rfl rfl 13 (by decide) hw_f38 (fun _ h9 => h9) rfl dX8_lay_70 ?_
                  refine lv_iload_n hx hb dX8_lay_73 rfl (lv_at hl 2 rfl) ?_
                  refine va_iald hx hb hK.1 hP 2 0 rfl rfl (vp_in_nI (by omega) (by omega)) dX8_lay_74 ?_
                  refine lv_topi (fun nv_14 ev_14 => ?_)
                  obtain rfl : nv_14 = we w2 := by rw [ev_14, nI_clamp (by omega)]
                  refine lv_icmp_le (tgt := 86) hx hb dX8_lay_75 (by decide) (fun c_75 => ?_) (fun c_75 => ?_)
                  · skip
                    refine lv_iload_n hx hb dX8_lay_86 rfl (lv_at hl 2 rfl) ?_
                    refine lv_bipush (v := 52) hx hb dX8_lay_87 (by decide) ?_
                    refine lv_icmp_ne (tgt := 95) hx hb dX8_lay_89 (by decide) (fun c_89 => ?_) (fun c_89 => ?_)
                    · skip
                      have nc_89 : ¬ w2 = 52 := (not_congr (nI_eq (a := w2) (b := 52) (by omega) (by omega))).mp c_89
                      refine lv_iload_n hx hb dX8_lay_95 rfl (lv_at hl 3 rfl) ?_
                      refine lv_aload_n hx hb dX8_lay_96 rfl (lv_at hl 0 rfl) ?_
                      refine lv_aload_n hx hb dX8_lay_97 rfl (lv_at hl 0 rfl) ?_
                      refine va_get (D := D) (ci := 9) (v := .ref a7) (C := RX8) (T := TX8) (N := 24) hx hb hts hi_X8 hown hK.1 hP 0 rfl rfl 11 (by decide) hw_f35 (fun _ h9 => h9) rfl dX8_lay_98 ?_
                      refine lv_iload hx hb dX8_lay_101 (lv_at hl 4 rfl) ?_
                      refine va_iald hx hb hK.1 hP 1 0 rfl rfl (vp_in_nI (by omega) (by omega)) dX8_lay_103 ?_
                      refine lv_topi (fun nv_15 ev_15 => ?_)
                      obtain rfl : nv_15 = ro i := by rw [ev_15, nI_clamp (by omega)]
                      refine lv_topi (fun nv_16 ev_16 => ?_)
                      obtain rfl : nv_16 = nI k := ev_16.trans (c_k2)
                      refine kGoR (va_runV (As := [.int (nI k)]) (rest := [.int u2]) ⟨hx, hb, hml, hown, hts⟩ (c_X8_time l D cI cJ cZ cO z a0 a1 a2 a3 a4 a5 a6 a7 a8 a9 a10 a11 a12 a13 a14 a15 T P pa kn rn ln 0 wt pg k (by first | assumption | omega | decide)) (cwV 1 hts gX8_lay_X8_time rfl rfl rfl (by decide +kernel) ⟨Nat.le_of_ble_eq_true rfl, Nat.le_of_ble_eq_true rfl⟩) (kPreVR (ci := 9) (q0 := 0) hK (kPc_sub hP [0, 3] rfl) rfl rfl rfl) rfl rfl hl.1 rfl (lv_room (Nat.le_of_ble_eq_true rfl)) dX8_lay_104 ⟨Nat.le_of_ble_eq_true rfl, Nat.le_of_ble_eq_true rfl⟩) (fun v_17 hv_17 => ?_)
                      obtain rfl := hv_17
                      refine W.eq (g2 := F0 m 107 ls [.int (mtimeF pg pa k), .int u2]) rfl ?_
                      refine lv_topi (fun nv_18 ev_18 => ?_)
                      obtain rfl : nv_18 = mtimeF pg pa (ro i).toNatClampNeg := ev_18.trans (by rw [c_k2, nI_clamp (by omega)])
                      refine lv_iadd hx hb dX8_lay_107 ?_
                      refine lv_istore_n (lv' := [(3, .int (u2 + (mtimeF pg pa (ro i).toNatClampNeg))), (0, .ref z), (1, .int x), (2, .int (nI w2)), (4, .int (nI i))]) hx hb dX8_lay_108 rfl hl (by decide) rfl (fun ls hl => ?_)
                      refine lv_aload_n hx hb dX8_lay_109 rfl (lv_at hl 1 rfl) ?_
                      refine va_get (D := D) (ci := 9) (v := .ref a14) (C := RX8) (T := TX8) (N := 24) hx hb hts hi_X8 hown hK.1 hP 0 rfl rfl 22 (by decide) hw_f57 (fun _ h9 => h9) rfl dX8_lay_110 ?_
                      refine lv_iload hx hb dX8_lay_113 (lv_at hl 4 rfl) ?_
                      refine lv_iload_n hx hb dX8_lay_115 rfl (lv_at hl 3 rfl) ?_
                      refine va_iast hx hb hK.1 hP hD hS 5 0 rfl rfl (vp_in_nI (by omega) (by omega)) dX8_lay_116 (fun H locs hP hD hS => ?_)
                      rw [nI_clamp (by omega)] at hP hD
                      have hP : va_P D vwCl [(z, .inr (9, [.ref a0, .ref a1, .int (nI T), .ref a2, .ref a3, .ref a4, .ref a5, .ref a6, .int (nI P), .int pa, .int kn, .ref a7, .int (nI rn), .ref a8, .ref a9, .int (nI ln), .ref a10, .int 0, .ref a11, .ref a12, .int wt, .ref a13, .ref a14, .ref a15])), (a7, .inl (cI, 12, .inl ro)), (a8, .inl (cI, 52, .inl we)), (a6, .inl (cI, 14, .inl pg)), (a9, .inl (cI, 12, .inl la)), (a14, .inl (cI, 12, .inl (upd d i (nI w2))))] H := hP
                      have hD : va_D _ [(z, .inr (9, [.ref a0, .ref a1, .int (nI T), .ref a2, .ref a3, .ref a4, .ref a5, .ref a6, .int (nI P), .int pa, .int kn, .ref a7, .int (nI rn), .ref a8, .ref a9, .int (nI ln), .ref a10, .int 0, .ref a11, .ref a12, .int wt, .ref a13, .ref a14, .ref a15])), (a7, .inl (cI, 12, .inl ro)), (a8, .inl (cI, 52, .inl we)), (a6, .inl (cI, 14, .inl pg)), (a9, .inl (cI, 12, .inl la)), (a14, .inl (cI, 12, .inl (upd d i (nI w2))))] := hD
                      refine lv_iinc (v := nI (i + 1)) (lv' := [(4, .int (nI (i + 1))), (3, .int (u2 + (mtimeF pg pa (ro i).toNatClampNeg))), (0, .ref z), (1, .int x), (2, .int (nI w2))]) hx hb dX8_lay_117 hl (k := 4) rfl (nI_1 _) (by decide) rfl (fun ls hl => ?_)
                      refine lv_goto (tgt := 24) hx hb dX8_lay_120 (by decide) ?_
                      exact ih_24  (i + 1) w2 (u2 + (mtimeF pg pa (ro i).toNatClampNeg)) (upd d i (nI w2)) (by omega) (by first | omega | assumption | exact Nat.zero_le _) (by first | omega | assumption | exact Nat.zero_le _) (by exact mS_step (ok := fun i => stpB P (ro i)) (tm := fun i => mtimeF pg pa (ro i).toNatClampNeg) ey hR (by first | exact Or.inl nc_53 | exact Or.inr c_75) c_44 nc_89) _ _ hP hD hS _ (lv_sub hl [2, 3, 4, 1, 0] rfl)
                    · skip
                      have nc_89 : w2 = 52 := (nI_eq (a := w2) (b := 52) (by omega) (by omega)).mp c_89
                      refine lv_bipush (v := (-2)) hx hb dX8_lay_92 (by decide) ?_
                      have ew_0 : (nI ln : Int32) = nI (if withinB x 0 51 then layN (mS we (fun i => stpB P (ro i)) (fun i => mtimeF pg pa (ro i).toNatClampNeg) x.toNatClampNeg pl rn) rn ln else ln) := by first | (simp [c_12, c_30, nc_30, c_44, c_53, nc_53, c_75, c_89, nc_89]; done) | (rw [if_pos c_12, c_ek, c_kc, ← e12, ey]; rfl) | (rw [if_pos c_12, c_ek, c_kc, mS_bad (ok := fun i => stpB P (ro i)) (tm := fun i => mtimeF pg pa (ro i).toNatClampNeg) ey hR (by omega) (show i < rn by omega)]; rfl) | (rw [if_pos c_12, c_ek, c_kc, mS_bad2 (ok := fun i => stpB P (ro i)) (tm := fun i => mtimeF pg pa (ro i).toNatClampNeg) ey c_44 (show i < rn by omega)]; rfl)
                      have ew_1 : (la : Nat → Int32) = if withinB x 0 51 then layA (mS we (fun i => stpB P (ro i)) (fun i => mtimeF pg pa (ro i).toNatClampNeg) x.toNatClampNeg pl rn) rn la else la := by first | (simp [c_12, c_30, nc_30, c_44, c_53, nc_53, c_75, c_89, nc_89]; done) | (rw [if_pos c_12, c_ek, c_kc, ex3, e13, ← e12, ey]; rfl) | (rw [if_pos c_12, c_ek, c_kc, mS_bad (ok := fun i => stpB P (ro i)) (tm := fun i => mtimeF pg pa (ro i).toNatClampNeg) ey hR (by omega) (show i < rn by omega)]; rfl) | (rw [if_pos c_12, c_ek, c_kc, mS_bad2 (ok := fun i => stpB P (ro i)) (tm := fun i => mtimeF pg pa (ro i).toNatClampNeg) ey c_44 (show i < rn by omega)]; rfl)
                      exact kRetI hx hb hr hlk dX8_lay_94 hP hD hS (Nat.le_of_ble_eq_true rfl) (Nat.le_of_ble_eq_true rfl) ⟨d, (kpi (by first | (simp [c_12, c_30, nc_30, c_44, c_53, nc_53, c_75, c_89, nc_89]; done) | (rw [if_pos c_12, c_ek, c_kc, ← e12, ey]; rfl) | (rw [if_pos c_12, c_ek, c_kc, mS_bad (ok := fun i => stpB P (ro i)) (tm := fun i => mtimeF pg pa (ro i).toNatClampNeg) ey hR (by omega) (show i < rn by omega)]; rfl) | (rw [if_pos c_12, c_ek, c_kc, mS_bad2 (ok := fun i => stpB P (ro i)) (tm := fun i => mtimeF pg pa (ro i).toNatClampNeg) ey c_44 (show i < rn by omega)]; rfl))), (kw2 (fun (z_0 : Int32) (z_1 : Nat → Int32) => ([(z, .inr (9, [.ref a0, .ref a1, .int (nI T), .ref a2, .ref a3, .ref a4, .ref a5, .ref a6, .int (nI P), .int pa, .int kn, .ref a7, .int (nI rn), .ref a8, .ref a9, .int z_0, .ref a10, .int 0, .ref a11, .ref a12, .int wt, .ref a13, .ref a14, .ref a15])), (a7, .inl (cI, 12, .inl ro)), (a8, .inl (cI, 52, .inl we)), (a6, .inl (cI, 14, .inl pg)), (a9, .inl (cI, 12, .inl z_1)), (a14, .inl (cI, 12, .inl d))] : va_W)) ew_0 ew_1)⟩
                  · skip
                    refine lv_iinc (v := nI (w2 + 1)) (lv' := [(2, .int (nI (w2 + 1))), (0, .ref z), (1, .int x), (3, .int u2), (4, .int (nI i))]) hx hb dX8_lay_78 hl (k := 2) rfl (nI_1 _) (by decide) rfl (fun ls hl => ?_)
                    refine lv_iconst (v := 0) hx hb dX8_lay_81 (by decide) ?_
                    refine lv_istore_n (lv' := [(3, .int 0), (2, .int (nI (w2 + 1))), (0, .ref z), (1, .int x), (4, .int (nI i))]) hx hb dX8_lay_82 rfl hl (by decide) rfl (fun ls hl => ?_)
                    refine lv_goto (tgt := 50) hx hb dX8_lay_83 (by decide) ?_
                    exact ih_50  (w2 + 1) 0 (by omega) (by first | omega | assumption | exact Nat.zero_le _) (by exact mW_go hR nc_53 c_75) _ _ hP hD hS _ (lv_sub hl [2, 3, 1, 0, 4] rfl)
            exact hloop_50 ((52 - w) + 1) w u (Nat.lt_succ_self _) (by first | omega | assumption | exact Nat.zero_le _) (by rfl) _ _ hP hD hS _ (lv_sub hl [0, 1, 2, 3, 4] rfl)
          · skip
            have c_44 := k01_z c_44
            refine lv_bipush (v := (-2)) hx hb dX8_lay_47 (by decide) ?_
            have ew_0 : (nI ln : Int32) = nI (if withinB x 0 51 then layN (mS we (fun i => stpB P (ro i)) (fun i => mtimeF pg pa (ro i).toNatClampNeg) x.toNatClampNeg pl rn) rn ln else ln) := by first | (simp [c_12, c_30, nc_30, c_44]; done) | (rw [if_pos c_12, c_ek, c_kc, ← e12, ey]; rfl) | (rw [if_pos c_12, c_ek, c_kc, mS_bad (ok := fun i => stpB P (ro i)) (tm := fun i => mtimeF pg pa (ro i).toNatClampNeg) ey hR (by omega) (show i < rn by omega)]; rfl) | (rw [if_pos c_12, c_ek, c_kc, mS_bad2 (ok := fun i => stpB P (ro i)) (tm := fun i => mtimeF pg pa (ro i).toNatClampNeg) ey c_44 (show i < rn by omega)]; rfl)
            have ew_1 : (la : Nat → Int32) = if withinB x 0 51 then layA (mS we (fun i => stpB P (ro i)) (fun i => mtimeF pg pa (ro i).toNatClampNeg) x.toNatClampNeg pl rn) rn la else la := by first | (simp [c_12, c_30, nc_30, c_44]; done) | (rw [if_pos c_12, c_ek, c_kc, ex3, e13, ← e12, ey]; rfl) | (rw [if_pos c_12, c_ek, c_kc, mS_bad (ok := fun i => stpB P (ro i)) (tm := fun i => mtimeF pg pa (ro i).toNatClampNeg) ey hR (by omega) (show i < rn by omega)]; rfl) | (rw [if_pos c_12, c_ek, c_kc, mS_bad2 (ok := fun i => stpB P (ro i)) (tm := fun i => mtimeF pg pa (ro i).toNatClampNeg) ey c_44 (show i < rn by omega)]; rfl)
            exact kRetI hx hb hr hlk dX8_lay_49 hP hD hS (Nat.le_of_ble_eq_true rfl) (Nat.le_of_ble_eq_true rfl) ⟨d, (kpi (by first | (simp [c_12, c_30, nc_30, c_44]; done) | (rw [if_pos c_12, c_ek, c_kc, ← e12, ey]; rfl) | (rw [if_pos c_12, c_ek, c_kc, mS_bad (ok := fun i => stpB P (ro i)) (tm := fun i => mtimeF pg pa (ro i).toNatClampNeg) ey hR (by omega) (show i < rn by omega)]; rfl) | (rw [if_pos c_12, c_ek, c_kc, mS_bad2 (ok := fun i => stpB P (ro i)) (tm := fun i => mtimeF pg pa (ro i).toNatClampNeg) ey c_44 (show i < rn by omega)]; rfl))), (kw2 (fun (z_0 : Int32) (z_1 : Nat → Int32) => ([(z, .inr (9, [.ref a0, .ref a1, .int (nI T), .ref a2, .ref a3, .ref a4, .ref a5, .ref a6, .int (nI P), .int pa, .int kn, .ref a7, .int (nI rn), .ref a8, .ref a9, .int z_0, .ref a10, .int 0, .ref a11, .ref a12, .int wt, .ref a13, .ref a14, .ref a15])), (a7, .inl (cI, 12, .inl ro)), (a8, .inl (cI, 52, .inl we)), (a6, .inl (cI, 14, .inl pg)), (a9, .inl (cI, 12, .inl z_1)), (a14, .inl (cI, 12, .inl d))] : va_W)) ew_0 ew_1)⟩
    exact hloop_24 ((rn - 0) + 1) 0 F 0 pl (Nat.lt_succ_self _) (by first | omega | assumption | exact Nat.zero_le _) (by first | omega | assumption | exact Nat.zero_le _) (by rfl) _ _ hP hD hS _ (lv_sub hl [3, 4, 2, 1, 0] rfl)
  · skip
    have c_12 := k01_z c_12
    refine lv_iconst (v := (-1)) hx hb dX8_lay_15 (by decide) ?_
    have ew_0 : (nI ln : Int32) = nI (if withinB x 0 51 then layN (mS we (fun i => stpB P (ro i)) (fun i => mtimeF pg pa (ro i).toNatClampNeg) x.toNatClampNeg pl rn) rn ln else ln) := by first | (simp [c_12]; done) | (rw [if_pos c_12, c_ek, c_kc, ← e12, ey]; rfl) | (rw [if_pos c_12, c_ek, c_kc, mS_bad (ok := fun i => stpB P (ro i)) (tm := fun i => mtimeF pg pa (ro i).toNatClampNeg) ey hR (by omega) (show i < rn by omega)]; rfl) | (rw [if_pos c_12, c_ek, c_kc, mS_bad2 (ok := fun i => stpB P (ro i)) (tm := fun i => mtimeF pg pa (ro i).toNatClampNeg) ey c_44 (show i < rn by omega)]; rfl)
    have ew_1 : (la : Nat → Int32) = if withinB x 0 51 then layA (mS we (fun i => stpB P (ro i)) (fun i => mtimeF pg pa (ro i).toNatClampNeg) x.toNatClampNeg pl rn) rn la else la := by first | (simp [c_12]; done) | (rw [if_pos c_12, c_ek, c_kc, ex3, e13, ← e12, ey]; rfl) | (rw [if_pos c_12, c_ek, c_kc, mS_bad (ok := fun i => stpB P (ro i)) (tm := fun i => mtimeF pg pa (ro i).toNatClampNeg) ey hR (by omega) (show i < rn by omega)]; rfl) | (rw [if_pos c_12, c_ek, c_kc, mS_bad2 (ok := fun i => stpB P (ro i)) (tm := fun i => mtimeF pg pa (ro i).toNatClampNeg) ey c_44 (show i < rn by omega)]; rfl)
    exact kRetI hx hb hr hlk dX8_lay_16 hP hD hS (Nat.le_of_ble_eq_true rfl) (Nat.le_of_ble_eq_true rfl) ⟨pl, (kpi (by first | (simp [c_12]; done) | (rw [if_pos c_12, c_ek, c_kc, ← e12, ey]; rfl) | (rw [if_pos c_12, c_ek, c_kc, mS_bad (ok := fun i => stpB P (ro i)) (tm := fun i => mtimeF pg pa (ro i).toNatClampNeg) ey hR (by omega) (show i < rn by omega)]; rfl) | (rw [if_pos c_12, c_ek, c_kc, mS_bad2 (ok := fun i => stpB P (ro i)) (tm := fun i => mtimeF pg pa (ro i).toNatClampNeg) ey c_44 (show i < rn by omega)]; rfl))), (kw2 (fun (z_0 : Int32) (z_1 : Nat → Int32) => ([(z, .inr (9, [.ref a0, .ref a1, .int (nI T), .ref a2, .ref a3, .ref a4, .ref a5, .ref a6, .int (nI P), .int pa, .int kn, .ref a7, .int (nI rn), .ref a8, .ref a9, .int z_0, .ref a10, .int 0, .ref a11, .ref a12, .int wt, .ref a13, .ref a14, .ref a15])), (a7, .inl (cI, 12, .inl ro)), (a8, .inl (cI, 52, .inl we)), (a6, .inl (cI, 14, .inl pg)), (a9, .inl (cI, 12, .inl z_1)), (a14, .inl (cI, 12, .inl pl))] : va_W)) ew_0 ew_1)⟩
