/-! ===== the class: worst ===== -/
def quoF : Nat → (Nat → Int32) → Nat → Nat → Int32 × (Nat → Int32)
  | 0, f, _, _ => (0, f)
  | d + 1, f, a, b =>
    if (bestF f a (b - a) 12).1 = -1 then (0, f)
    else (1 + kmax (quoF d (splF f (bestF f a (b - a) 12).1 a (b - a)).1 a (splF f (bestF f a (b - a) 12).1 a (b - a)).2).1
        (quoF d (quoF d (splF f (bestF f a (b - a) 12).1 a (b - a)).1 a (splF f (bestF f a (b - a) 12).1 a (b - a)).2).2 (splF f (bestF f a (b - a) 12).1 a (b - a)).2 b).1,
      (quoF d (quoF d (splF f (bestF f a (b - a) 12).1 a (b - a)).1 a (splF f (bestF f a (b - a) 12).1 a (b - a)).2).2 (splF f (bestF f a (b - a) 12).1 a (b - a)).2 b).2)
theorem quoF_p {d : Nat} {f : Nat → Int32} {a b : Nat} (h : (bestF f a (b - a) 12).1 = -1) : quoF (d + 1) f a b = (0, f) := if_pos h
theorem quoF_n {d : Nat} {f : Nat → Int32} {a b : Nat} (h : ¬ (bestF f a (b - a) 12).1 = -1) : quoF (d + 1) f a b = (1 + kmax (quoF d (splF f (bestF f a (b - a) 12).1 a (b - a)).1 a (splF f (bestF f a (b - a) 12).1 a (b - a)).2).1
        (quoF d (quoF d (splF f (bestF f a (b - a) 12).1 a (b - a)).1 a (splF f (bestF f a (b - a) 12).1 a (b - a)).2).2 (splF f (bestF f a (b - a) 12).1 a (b - a)).2 b).1,
      (quoF d (quoF d (splF f (bestF f a (b - a) 12).1 a (b - a)).1 a (splF f (bestF f a (b - a) 12).1 a (b - a)).2).2 (splF f (bestF f a (b - a) 12).1 a (b - a)).2 b).2) := if_neg h

set_option maxHeartbeats 4000000 in
set_option maxRecDepth 100000 in
theorem c_X0_quo_12 (l : Launch) (D : va_G) (cI cJ cZ cO : ClassId) (h : Nat) (LN : Nat) (f : Nat → Int32) (a : Nat) (b : Nat) (fq : Nat) (q : Int32 × (Nat → Int32)) (hL : LN ≤ 4096) (hab : a ≤ b) (hb2 : b ≤ LN) (hfu : fq = 12 - 12) (hq : q = quoF fq f a b) : kC l D (kTY cI cJ cZ cO) yX0_questionsUntilOne wsX0_questionsUntilOne 3 73 0 0 [.ref h, .int (nI a), .int (nI b), .int 12] [(h, .inl (cI, LN, .inl f))] (fun rv_ rw_ => rv_ = some (.int q.1) ∧ rw_ = [(h, .inl (cI, LN, .inl q.2))]) := by
  refine kEnter (cc := cX0_questionsUntilOne) (maxL := 8) (ret := (some .int)) (by decide) rfl (Nat.le_of_ble_eq_true rfl) ?_
  intro p e s m args below meth c hx hb hr hml hts hown hlk hnm hK hP hD hS hA ls hl
  have hl : lv_has ls 8 [(0, .ref h), (1, .int (nI a)), (2, .int (nI b)), (3, .int 12)] := hl
  refine lv_aload_n hx hb dX0_questionsUntilOne_0 rfl (lv_at hl 0 rfl) ?_
  refine lv_iload_n hx hb dX0_questionsUntilOne_1 rfl (lv_at hl 1 rfl) ?_
  refine lv_iload_n hx hb dX0_questionsUntilOne_2 rfl (lv_at hl 2 rfl) ?_
  refine kGoR (va_runS (As := [.ref h, .int (nI a), .int (nI b)]) (rest := []) ⟨hx, hb, hml, hown, hts⟩ (c_X0_bestTopic l D cI cJ cZ cO h LN f a b (by first | assumption | omega | decide) (by first | assumption | omega | decide) (by first | assumption | omega | decide)) (va_cwS 3 hts gX0_questionsUntilOne_X0_bestTopic rfl rfl rfl (by decide +kernel) ⟨Nat.le_of_ble_eq_true rfl, Nat.le_of_ble_eq_true rfl⟩) (kPreSR hK (kPc_sub hP [0] rfl)) rfl rfl hl.1 rfl (lv_room (Nat.le_of_ble_eq_true rfl)) dX0_questionsUntilOne_3 ⟨Nat.le_of_ble_eq_true rfl, Nat.le_of_ble_eq_true rfl⟩) (fun v_1 hv_1 => ?_)
  obtain rfl := hv_1
  refine W.eq (g2 := F0 m 6 ls [.int ((bestF f a (b - a) 12).1)]) rfl ?_
  refine lv_istore (lv' := [(4, .int ((bestF f a (b - a) 12).1)), (0, .ref h), (1, .int (nI a)), (2, .int (nI b)), (3, .int 12)]) hx hb dX0_questionsUntilOne_6 hl (by decide) rfl (fun ls hl => ?_)
  refine lv_iload hx hb dX0_questionsUntilOne_8 (lv_at hl 0 rfl) ?_
  refine lv_iconst (v := (-1)) hx hb dX0_questionsUntilOne_10 (by decide) ?_
  refine lv_icmp_eq (tgt := 20) hx hb dX0_questionsUntilOne_11 (by decide) (fun c_11 => ?_) (fun c_11 => ?_)
  · skip
    refine lv_iconst (v := 0) hx hb dX0_questionsUntilOne_20 (by decide) ?_
    have ew_0 : (f : Nat → Int32) = q.2 := by first | (rw [hfin]; done) | (have hz : q = (0, f) := (by rw [hq, hfu]; rfl); rw [hz])
    exact kRetI hx hb hr hlk dX0_questionsUntilOne_21 hP hD hS (Nat.le_of_ble_eq_true rfl) (Nat.le_of_ble_eq_true rfl) ⟨(kpi (by first | (rw [hfin]; done) | (have hz : q = (0, f) := (by rw [hq, hfu]; rfl); rw [hz]))), (kw1 (fun (z_0 : Nat → Int32) => ([(h, .inl (cI, LN, .inl z_0))] : va_W)) ew_0)⟩
  · skip
    refine lv_iload_n hx hb dX0_questionsUntilOne_14 rfl (lv_at hl 4 rfl) ?_
    refine lv_bipush (v := 12) hx hb dX0_questionsUntilOne_15 (by decide) ?_
    refine lv_icmp_lt (tgt := 22) hx hb dX0_questionsUntilOne_17 (by decide) (fun c_17 => ?_) (fun c_17 => ?_)
    · exact absurd c_17 (by decide)
    · skip
      refine lv_iconst (v := 0) hx hb dX0_questionsUntilOne_20 (by decide) ?_
      have ew_0 : (f : Nat → Int32) = q.2 := by first | (rw [hfin]; done) | (have hz : q = (0, f) := (by rw [hq, hfu]; rfl); rw [hz])
      exact kRetI hx hb hr hlk dX0_questionsUntilOne_21 hP hD hS (Nat.le_of_ble_eq_true rfl) (Nat.le_of_ble_eq_true rfl) ⟨(kpi (by first | (rw [hfin]; done) | (have hz : q = (0, f) := (by rw [hq, hfu]; rfl); rw [hz]))), (kw1 (fun (z_0 : Nat → Int32) => ([(h, .inl (cI, LN, .inl z_0))] : va_W)) ew_0)⟩

set_option maxHeartbeats 4000000 in
set_option maxRecDepth 100000 in
theorem c_X0_quo_11 (l : Launch) (D : va_G) (cI cJ cZ cO : ClassId) (h : Nat) (LN : Nat) (f : Nat → Int32) (a : Nat) (b : Nat) (fq : Nat) (q : Int32 × (Nat → Int32)) (hL : LN ≤ 4096) (hab : a ≤ b) (hb2 : b ≤ LN) (hfu : fq = 12 - 11) (hq : q = quoF fq f a b) : kC l D (kTY cI cJ cZ cO) yX0_questionsUntilOne wsX0_questionsUntilOne 4 100 0 0 [.ref h, .int (nI a), .int (nI b), .int 11] [(h, .inl (cI, LN, .inl f))] (fun rv_ rw_ => rv_ = some (.int q.1) ∧ rw_ = [(h, .inl (cI, LN, .inl q.2))]) := by
  refine kEnter (cc := cX0_questionsUntilOne) (maxL := 8) (ret := (some .int)) (by decide) rfl (Nat.le_of_ble_eq_true rfl) ?_
  intro p e s m args below meth c hx hb hr hml hts hown hlk hnm hK hP hD hS hA ls hl
  have hl : lv_has ls 8 [(0, .ref h), (1, .int (nI a)), (2, .int (nI b)), (3, .int 11)] := hl
  have hw_m47 := hts (.methodLink RX0 47 Lib.Math.max.name) (by decide +kernel)
  have hw_stmax := hts (.static Lib.Math.max.name) (by decide +kernel)
  have hw_iM := hts (.initialized "java/lang/Math") (by decide +kernel)
  have hw_cMmax := hts (.code Lib.Math.max.name Lib.Math.max.code 2 (some .int)) (by decide +kernel)
  refine lv_aload_n hx hb dX0_questionsUntilOne_0 rfl (lv_at hl 0 rfl) ?_
  refine lv_iload_n hx hb dX0_questionsUntilOne_1 rfl (lv_at hl 1 rfl) ?_
  refine lv_iload_n hx hb dX0_questionsUntilOne_2 rfl (lv_at hl 2 rfl) ?_
  refine kGoR (va_runS (As := [.ref h, .int (nI a), .int (nI b)]) (rest := []) ⟨hx, hb, hml, hown, hts⟩ (c_X0_bestTopic l D cI cJ cZ cO h LN f a b (by first | assumption | omega | decide) (by first | assumption | omega | decide) (by first | assumption | omega | decide)) (va_cwS 3 hts gX0_questionsUntilOne_X0_bestTopic rfl rfl rfl (by decide +kernel) ⟨Nat.le_of_ble_eq_true rfl, Nat.le_of_ble_eq_true rfl⟩) (kPreSR hK (kPc_sub hP [0] rfl)) rfl rfl hl.1 rfl (lv_room (Nat.le_of_ble_eq_true rfl)) dX0_questionsUntilOne_3 ⟨Nat.le_of_ble_eq_true rfl, Nat.le_of_ble_eq_true rfl⟩) (fun v_1 hv_1 => ?_)
  obtain rfl := hv_1
  refine W.eq (g2 := F0 m 6 ls [.int ((bestF f a (b - a) 12).1)]) rfl ?_
  refine lv_istore (lv' := [(4, .int ((bestF f a (b - a) 12).1)), (0, .ref h), (1, .int (nI a)), (2, .int (nI b)), (3, .int 11)]) hx hb dX0_questionsUntilOne_6 hl (by decide) rfl (fun ls hl => ?_)
  refine lv_iload hx hb dX0_questionsUntilOne_8 (lv_at hl 0 rfl) ?_
  refine lv_iconst (v := (-1)) hx hb dX0_questionsUntilOne_10 (by decide) ?_
  refine lv_icmp_eq (tgt := 20) hx hb dX0_questionsUntilOne_11 (by decide) (fun c_11 => ?_) (fun c_11 => ?_)
  · skip
    refine lv_iconst (v := 0) hx hb dX0_questionsUntilOne_20 (by decide) ?_
    have ew_0 : (f : Nat → Int32) = q.2 := by first | (rw [hfin]; done) | (have hz : q = (0, f) := (by obtain ⟨fd, hfd⟩ : ∃ fd, fq = fd + 1 := (⟨fq - 1, (by omega)⟩); rw [hq, hfd]; exact quoF_p c_11); rw [hz])
    exact kRetI hx hb hr hlk dX0_questionsUntilOne_21 hP hD hS (Nat.le_of_ble_eq_true rfl) (Nat.le_of_ble_eq_true rfl) ⟨(kpi (by first | (rw [hfin]; done) | (have hz : q = (0, f) := (by obtain ⟨fd, hfd⟩ : ∃ fd, fq = fd + 1 := (⟨fq - 1, (by omega)⟩); rw [hq, hfd]; exact quoF_p c_11); rw [hz]))), (kw1 (fun (z_0 : Nat → Int32) => ([(h, .inl (cI, LN, .inl z_0))] : va_W)) ew_0)⟩
  · skip
    refine lv_iload_n hx hb dX0_questionsUntilOne_14 rfl (lv_at hl 4 rfl) ?_
    refine lv_bipush (v := 12) hx hb dX0_questionsUntilOne_15 (by decide) ?_
    refine lv_icmp_lt (tgt := 22) hx hb dX0_questionsUntilOne_17 (by decide) (fun c_17 => ?_) (fun c_17 => ?_)
    · skip
      refine lv_aload_n hx hb dX0_questionsUntilOne_22 rfl (lv_at hl 1 rfl) ?_
      refine lv_iload_n hx hb dX0_questionsUntilOne_23 rfl (lv_at hl 2 rfl) ?_
      refine lv_iload_n hx hb dX0_questionsUntilOne_24 rfl (lv_at hl 3 rfl) ?_
      refine lv_iload hx hb dX0_questionsUntilOne_25 (lv_at hl 0 rfl) ?_
      refine kGo (wc := [(h, .inl (cI, LN, .inl f))]) (wr := []) (va_runS (As := [.ref h, .int (nI a), .int (nI b), .int ((bestF f a (b - a) 12).1)]) (rest := []) ⟨hx, hb, hml, hown, hts⟩ (c_X0_split l D cI cJ cZ cO h LN f a b ((bestF f a (b - a) 12).1) (by first | assumption | omega | decide) (by first | assumption | omega | decide) (by first | assumption | omega | decide) _) (va_cwS 4 hts gX0_questionsUntilOne_X0_split rfl rfl rfl (by decide +kernel) ⟨Nat.le_of_ble_eq_true rfl, Nat.le_of_ble_eq_true rfl⟩) (kPreS hK (kPc_sub hP [0] rfl) ((hD.sub [0] (by decide) rfl).weaken (fun _ _ _ _ => trivial))) rfl rfl hl.1 rfl (lv_room (Nat.le_of_ble_eq_true rfl)) dX0_questionsUntilOne_27 ⟨Nat.le_of_ble_eq_true rfl, Nat.le_of_ble_eq_true rfl⟩) hP hD hS hA [0] [] rfl rfl (by decide) (by decide) (fun v_2 w_2 H locs hv_2 hP hD hS => ?_)
      obtain ⟨rfl, rfl⟩ := hv_2
      have hP : va_P D vwCl [(h, .inl (cI, LN, .inl ((splF f ((bestF f a (b - a) 12).1) a (b - a)).1)))] H := hP.sub [0] rfl
      have hD : va_D _ [(h, .inl (cI, LN, .inl ((splF f ((bestF f a (b - a) 12).1) a (b - a)).1)))] := hD.sub [0] (by decide) rfl
      refine W.eq (g2 := F0 m 30 ls [.int (nI (splF f ((bestF f a (b - a) 12).1) a (b - a)).2)]) rfl ?_
      have hs1 := splF_ge f (bestF f a (b - a) 12).1 a (b - a)
      have hs2 := splF_le f (bestF f a (b - a) 12).1 a (b - a)
      obtain ⟨fd, hfd⟩ : ∃ fd, fq = fd + 1 := ⟨fq - 1, by omega⟩
      obtain ⟨q1, hq1⟩ : ∃ q1, q1 = quoF fd (splF f (bestF f a (b - a) 12).1 a (b - a)).1 a (splF f (bestF f a (b - a) 12).1 a (b - a)).2 := ⟨_, rfl⟩
      obtain ⟨q2, hq2⟩ : ∃ q2, q2 = quoF fd q1.2 (splF f (bestF f a (b - a) 12).1 a (b - a)).2 b := ⟨_, rfl⟩
      have hfin : q = (1 + kmax q1.1 q2.1, q2.2) := by rw [hq, hfd, quoF_n c_11, hq2, hq1]
      refine lv_istore (lv' := [(5, .int (nI (splF f ((bestF f a (b - a) 12).1) a (b - a)).2)), (4, .int ((bestF f a (b - a) 12).1)), (0, .ref h), (1, .int (nI a)), (2, .int (nI b)), (3, .int 11)]) hx hb dX0_questionsUntilOne_30 hl (by decide) rfl (fun ls hl => ?_)
      refine lv_aload_n hx hb dX0_questionsUntilOne_32 rfl (lv_at hl 2 rfl) ?_
      refine lv_iload_n hx hb dX0_questionsUntilOne_33 rfl (lv_at hl 3 rfl) ?_
      refine lv_iload hx hb dX0_questionsUntilOne_34 (lv_at hl 0 rfl) ?_
      refine lv_iload_n hx hb dX0_questionsUntilOne_36 rfl (lv_at hl 5 rfl) ?_
      refine lv_iconst (v := 1) hx hb dX0_questionsUntilOne_37 (by decide) ?_
      refine lv_iadd hx hb dX0_questionsUntilOne_38 ?_
      refine lv_topi (fun nv_3 ev_3 => ?_)
      obtain rfl : nv_3 = 12 := ev_3.trans (by decide)
      refine kGo (wc := [(h, .inl (cI, LN, .inl ((splF f ((bestF f a (b - a) 12).1) a (b - a)).1)))]) (wr := []) (va_runS (As := [.ref h, .int (nI a), .int (nI (splF f ((bestF f a (b - a) 12).1) a (b - a)).2), .int 12]) (rest := []) ⟨hx, hb, hml, hown, hts⟩ (c_X0_quo_12 l D cI cJ cZ cO h LN ((splF f ((bestF f a (b - a) 12).1) a (b - a)).1) a ((splF f ((bestF f a (b - a) 12).1) a (b - a)).2) fd q1 (by first | assumption | omega | decide) (by first | assumption | omega | decide) (by first | assumption | omega | decide) (by omega) (hq1) _) (va_cwS 4 hts gX0_questionsUntilOne_X0_questionsUntilOne rfl rfl rfl (by decide +kernel) ⟨Nat.le_of_ble_eq_true rfl, Nat.le_of_ble_eq_true rfl⟩) (kPreS hK (kPc_sub hP [0] rfl) ((hD.sub [0] (by decide) rfl).weaken (fun _ _ _ _ => trivial))) rfl rfl hl.1 rfl (lv_room (Nat.le_of_ble_eq_true rfl)) dX0_questionsUntilOne_39 ⟨Nat.le_of_ble_eq_true rfl, Nat.le_of_ble_eq_true rfl⟩) hP hD hS hA [0] [] rfl rfl (by decide) (by decide) (fun v_4 w_4 H locs hv_4 hP hD hS => ?_)
      obtain ⟨rfl, rfl⟩ := hv_4
      have hP : va_P D vwCl [(h, .inl (cI, LN, .inl q1.2))] H := hP.sub [0] rfl
      have hD : va_D _ [(h, .inl (cI, LN, .inl q1.2))] := hD.sub [0] (by decide) rfl
      refine W.eq (g2 := F0 m 42 ls [.int q1.1]) rfl ?_
      refine lv_istore (lv' := [(6, .int q1.1), (5, .int (nI (splF f ((bestF f a (b - a) 12).1) a (b - a)).2)), (4, .int ((bestF f a (b - a) 12).1)), (0, .ref h), (1, .int (nI a)), (2, .int (nI b)), (3, .int 11)]) hx hb dX0_questionsUntilOne_42 hl (by decide) rfl (fun ls hl => ?_)
      refine lv_aload_n hx hb dX0_questionsUntilOne_44 rfl (lv_at hl 3 rfl) ?_
      refine lv_iload hx hb dX0_questionsUntilOne_45 (lv_at hl 1 rfl) ?_
      refine lv_iload_n hx hb dX0_questionsUntilOne_47 rfl (lv_at hl 5 rfl) ?_
      refine lv_iload_n hx hb dX0_questionsUntilOne_48 rfl (lv_at hl 6 rfl) ?_
      refine lv_iconst (v := 1) hx hb dX0_questionsUntilOne_49 (by decide) ?_
      refine lv_iadd hx hb dX0_questionsUntilOne_50 ?_
      refine lv_topi (fun nv_5 ev_5 => ?_)
      obtain rfl : nv_5 = 12 := ev_5.trans (by decide)
      refine kGo (wc := [(h, .inl (cI, LN, .inl q1.2))]) (wr := []) (va_runS (As := [.ref h, .int (nI (splF f ((bestF f a (b - a) 12).1) a (b - a)).2), .int (nI b), .int 12]) (rest := []) ⟨hx, hb, hml, hown, hts⟩ (c_X0_quo_12 l D cI cJ cZ cO h LN q1.2 ((splF f ((bestF f a (b - a) 12).1) a (b - a)).2) b fd q2 (by first | assumption | omega | decide) (by first | assumption | omega | decide) (by first | assumption | omega | decide) (by omega) (hq2) _) (va_cwS 4 hts gX0_questionsUntilOne_X0_questionsUntilOne rfl rfl rfl (by decide +kernel) ⟨Nat.le_of_ble_eq_true rfl, Nat.le_of_ble_eq_true rfl⟩) (kPreS hK (kPc_sub hP [0] rfl) ((hD.sub [0] (by decide) rfl).weaken (fun _ _ _ _ => trivial))) rfl rfl hl.1 rfl (lv_room (Nat.le_of_ble_eq_true rfl)) dX0_questionsUntilOne_51 ⟨Nat.le_of_ble_eq_true rfl, Nat.le_of_ble_eq_true rfl⟩) hP hD hS hA [0] [] rfl rfl (by decide) (by decide) (fun v_6 w_6 H locs hv_6 hP hD hS => ?_)
      obtain ⟨rfl, rfl⟩ := hv_6
      have hP : va_P D vwCl [(h, .inl (cI, LN, .inl q2.2))] H := hP.sub [0] rfl
      have hD : va_D _ [(h, .inl (cI, LN, .inl q2.2))] := hD.sub [0] (by decide) rfl
      refine W.eq (g2 := F0 m 54 ls [.int q2.1]) rfl ?_
      refine lv_istore (lv' := [(7, .int q2.1), (6, .int q1.1), (5, .int (nI (splF f ((bestF f a (b - a) 12).1) a (b - a)).2)), (4, .int ((bestF f a (b - a) 12).1)), (0, .ref h), (1, .int (nI a)), (2, .int (nI b)), (3, .int 11)]) hx hb dX0_questionsUntilOne_54 hl (by decide) rfl (fun ls hl => ?_)
      refine lv_iconst (v := 1) hx hb dX0_questionsUntilOne_56 (by decide) ?_
      refine lv_iload hx hb dX0_questionsUntilOne_57 (lv_at hl 1 rfl) ?_
      refine lv_iload hx hb dX0_questionsUntilOne_59 (lv_at hl 0 rfl) ?_
      refine va_mmax hx hb (by rw [hml]; exact hl.1.symm) hown hw_m47 hw_stmax hw_iM hw_cMmax (Nat.le_of_ble_eq_true rfl) (Nat.le_of_ble_eq_true rfl) (Nat.le_of_ble_eq_true rfl) (Nat.le_of_ble_eq_true rfl) dX0_questionsUntilOne_61 ?_
      refine W.eq (g2 := F0 m 64 ls [.int (kmax q1.1 q2.1), .int 1]) rfl ?_
      refine lv_iadd hx hb dX0_questionsUntilOne_64 ?_
      have ew_0 : (q2.2 : Nat → Int32) = q.2 := by first | (rw [hfin]; done) | (have hz : q = (0, f) := (by obtain ⟨fd, hfd⟩ : ∃ fd, fq = fd + 1 := (⟨fq - 1, (by omega)⟩); rw [hq, hfd]; exact quoF_p c_11); rw [hz])
      exact kRetI hx hb hr hlk dX0_questionsUntilOne_65 hP hD hS (Nat.le_of_ble_eq_true rfl) (Nat.le_of_ble_eq_true rfl) ⟨(kpi (by first | (rw [hfin]; done) | (have hz : q = (0, f) := (by obtain ⟨fd, hfd⟩ : ∃ fd, fq = fd + 1 := (⟨fq - 1, (by omega)⟩); rw [hq, hfd]; exact quoF_p c_11); rw [hz]))), (kw1 (fun (z_0 : Nat → Int32) => ([(h, .inl (cI, LN, .inl z_0))] : va_W)) ew_0)⟩
    · exact absurd (by decide) c_17

set_option maxHeartbeats 4000000 in
set_option maxRecDepth 100000 in
theorem c_X0_quo_10 (l : Launch) (D : va_G) (cI cJ cZ cO : ClassId) (h : Nat) (LN : Nat) (f : Nat → Int32) (a : Nat) (b : Nat) (fq : Nat) (q : Int32 × (Nat → Int32)) (hL : LN ≤ 4096) (hab : a ≤ b) (hb2 : b ≤ LN) (hfu : fq = 12 - 10) (hq : q = quoF fq f a b) : kC l D (kTY cI cJ cZ cO) yX0_questionsUntilOne wsX0_questionsUntilOne 5 127 0 0 [.ref h, .int (nI a), .int (nI b), .int 10] [(h, .inl (cI, LN, .inl f))] (fun rv_ rw_ => rv_ = some (.int q.1) ∧ rw_ = [(h, .inl (cI, LN, .inl q.2))]) := by
  refine kEnter (cc := cX0_questionsUntilOne) (maxL := 8) (ret := (some .int)) (by decide) rfl (Nat.le_of_ble_eq_true rfl) ?_
  intro p e s m args below meth c hx hb hr hml hts hown hlk hnm hK hP hD hS hA ls hl
  have hl : lv_has ls 8 [(0, .ref h), (1, .int (nI a)), (2, .int (nI b)), (3, .int 10)] := hl
  have hw_m47 := hts (.methodLink RX0 47 Lib.Math.max.name) (by decide +kernel)
  have hw_stmax := hts (.static Lib.Math.max.name) (by decide +kernel)
  have hw_iM := hts (.initialized "java/lang/Math") (by decide +kernel)
  have hw_cMmax := hts (.code Lib.Math.max.name Lib.Math.max.code 2 (some .int)) (by decide +kernel)
  refine lv_aload_n hx hb dX0_questionsUntilOne_0 rfl (lv_at hl 0 rfl) ?_
  refine lv_iload_n hx hb dX0_questionsUntilOne_1 rfl (lv_at hl 1 rfl) ?_
  refine lv_iload_n hx hb dX0_questionsUntilOne_2 rfl (lv_at hl 2 rfl) ?_
  refine kGoR (va_runS (As := [.ref h, .int (nI a), .int (nI b)]) (rest := []) ⟨hx, hb, hml, hown, hts⟩ (c_X0_bestTopic l D cI cJ cZ cO h LN f a b (by first | assumption | omega | decide) (by first | assumption | omega | decide) (by first | assumption | omega | decide)) (va_cwS 3 hts gX0_questionsUntilOne_X0_bestTopic rfl rfl rfl (by decide +kernel) ⟨Nat.le_of_ble_eq_true rfl, Nat.le_of_ble_eq_true rfl⟩) (kPreSR hK (kPc_sub hP [0] rfl)) rfl rfl hl.1 rfl (lv_room (Nat.le_of_ble_eq_true rfl)) dX0_questionsUntilOne_3 ⟨Nat.le_of_ble_eq_true rfl, Nat.le_of_ble_eq_true rfl⟩) (fun v_1 hv_1 => ?_)
  obtain rfl := hv_1
  refine W.eq (g2 := F0 m 6 ls [.int ((bestF f a (b - a) 12).1)]) rfl ?_
  refine lv_istore (lv' := [(4, .int ((bestF f a (b - a) 12).1)), (0, .ref h), (1, .int (nI a)), (2, .int (nI b)), (3, .int 10)]) hx hb dX0_questionsUntilOne_6 hl (by decide) rfl (fun ls hl => ?_)
  refine lv_iload hx hb dX0_questionsUntilOne_8 (lv_at hl 0 rfl) ?_
  refine lv_iconst (v := (-1)) hx hb dX0_questionsUntilOne_10 (by decide) ?_
  refine lv_icmp_eq (tgt := 20) hx hb dX0_questionsUntilOne_11 (by decide) (fun c_11 => ?_) (fun c_11 => ?_)
  · skip
    refine lv_iconst (v := 0) hx hb dX0_questionsUntilOne_20 (by decide) ?_
    have ew_0 : (f : Nat → Int32) = q.2 := by first | (rw [hfin]; done) | (have hz : q = (0, f) := (by obtain ⟨fd, hfd⟩ : ∃ fd, fq = fd + 1 := (⟨fq - 1, (by omega)⟩); rw [hq, hfd]; exact quoF_p c_11); rw [hz])
    exact kRetI hx hb hr hlk dX0_questionsUntilOne_21 hP hD hS (Nat.le_of_ble_eq_true rfl) (Nat.le_of_ble_eq_true rfl) ⟨(kpi (by first | (rw [hfin]; done) | (have hz : q = (0, f) := (by obtain ⟨fd, hfd⟩ : ∃ fd, fq = fd + 1 := (⟨fq - 1, (by omega)⟩); rw [hq, hfd]; exact quoF_p c_11); rw [hz]))), (kw1 (fun (z_0 : Nat → Int32) => ([(h, .inl (cI, LN, .inl z_0))] : va_W)) ew_0)⟩
  · skip
    refine lv_iload_n hx hb dX0_questionsUntilOne_14 rfl (lv_at hl 4 rfl) ?_
    refine lv_bipush (v := 12) hx hb dX0_questionsUntilOne_15 (by decide) ?_
    refine lv_icmp_lt (tgt := 22) hx hb dX0_questionsUntilOne_17 (by decide) (fun c_17 => ?_) (fun c_17 => ?_)
    · skip
      refine lv_aload_n hx hb dX0_questionsUntilOne_22 rfl (lv_at hl 1 rfl) ?_
      refine lv_iload_n hx hb dX0_questionsUntilOne_23 rfl (lv_at hl 2 rfl) ?_
      refine lv_iload_n hx hb dX0_questionsUntilOne_24 rfl (lv_at hl 3 rfl) ?_
      refine lv_iload hx hb dX0_questionsUntilOne_25 (lv_at hl 0 rfl) ?_
      refine kGo (wc := [(h, .inl (cI, LN, .inl f))]) (wr := []) (va_runS (As := [.ref h, .int (nI a), .int (nI b), .int ((bestF f a (b - a) 12).1)]) (rest := []) ⟨hx, hb, hml, hown, hts⟩ (c_X0_split l D cI cJ cZ cO h LN f a b ((bestF f a (b - a) 12).1) (by first | assumption | omega | decide) (by first | assumption | omega | decide) (by first | assumption | omega | decide) _) (va_cwS 4 hts gX0_questionsUntilOne_X0_split rfl rfl rfl (by decide +kernel) ⟨Nat.le_of_ble_eq_true rfl, Nat.le_of_ble_eq_true rfl⟩) (kPreS hK (kPc_sub hP [0] rfl) ((hD.sub [0] (by decide) rfl).weaken (fun _ _ _ _ => trivial))) rfl rfl hl.1 rfl (lv_room (Nat.le_of_ble_eq_true rfl)) dX0_questionsUntilOne_27 ⟨Nat.le_of_ble_eq_true rfl, Nat.le_of_ble_eq_true rfl⟩) hP hD hS hA [0] [] rfl rfl (by decide) (by decide) (fun v_2 w_2 H locs hv_2 hP hD hS => ?_)
      obtain ⟨rfl, rfl⟩ := hv_2
      have hP : va_P D vwCl [(h, .inl (cI, LN, .inl ((splF f ((bestF f a (b - a) 12).1) a (b - a)).1)))] H := hP.sub [0] rfl
      have hD : va_D _ [(h, .inl (cI, LN, .inl ((splF f ((bestF f a (b - a) 12).1) a (b - a)).1)))] := hD.sub [0] (by decide) rfl
      refine W.eq (g2 := F0 m 30 ls [.int (nI (splF f ((bestF f a (b - a) 12).1) a (b - a)).2)]) rfl ?_
      have hs1 := splF_ge f (bestF f a (b - a) 12).1 a (b - a)
      have hs2 := splF_le f (bestF f a (b - a) 12).1 a (b - a)
      obtain ⟨fd, hfd⟩ : ∃ fd, fq = fd + 1 := ⟨fq - 1, by omega⟩
      obtain ⟨q1, hq1⟩ : ∃ q1, q1 = quoF fd (splF f (bestF f a (b - a) 12).1 a (b - a)).1 a (splF f (bestF f a (b - a) 12).1 a (b - a)).2 := ⟨_, rfl⟩
      obtain ⟨q2, hq2⟩ : ∃ q2, q2 = quoF fd q1.2 (splF f (bestF f a (b - a) 12).1 a (b - a)).2 b := ⟨_, rfl⟩
      have hfin : q = (1 + kmax q1.1 q2.1, q2.2) := by rw [hq, hfd, quoF_n c_11, hq2, hq1]
      refine lv_istore (lv' := [(5, .int (nI (splF f ((bestF f a (b - a) 12).1) a (b - a)).2)), (4, .int ((bestF f a (b - a) 12).1)), (0, .ref h), (1, .int (nI a)), (2, .int (nI b)), (3, .int 10)]) hx hb dX0_questionsUntilOne_30 hl (by decide) rfl (fun ls hl => ?_)
      refine lv_aload_n hx hb dX0_questionsUntilOne_32 rfl (lv_at hl 2 rfl) ?_
      refine lv_iload_n hx hb dX0_questionsUntilOne_33 rfl (lv_at hl 3 rfl) ?_
      refine lv_iload hx hb dX0_questionsUntilOne_34 (lv_at hl 0 rfl) ?_
      refine lv_iload_n hx hb dX0_questionsUntilOne_36 rfl (lv_at hl 5 rfl) ?_
      refine lv_iconst (v := 1) hx hb dX0_questionsUntilOne_37 (by decide) ?_
      refine lv_iadd hx hb dX0_questionsUntilOne_38 ?_
      refine lv_topi (fun nv_3 ev_3 => ?_)
      obtain rfl : nv_3 = 11 := ev_3.trans (by decide)
      refine kGo (wc := [(h, .inl (cI, LN, .inl ((splF f ((bestF f a (b - a) 12).1) a (b - a)).1)))]) (wr := []) (va_runS (As := [.ref h, .int (nI a), .int (nI (splF f ((bestF f a (b - a) 12).1) a (b - a)).2), .int 11]) (rest := []) ⟨hx, hb, hml, hown, hts⟩ (c_X0_quo_11 l D cI cJ cZ cO h LN ((splF f ((bestF f a (b - a) 12).1) a (b - a)).1) a ((splF f ((bestF f a (b - a) 12).1) a (b - a)).2) fd q1 (by first | assumption | omega | decide) (by first | assumption | omega | decide) (by first | assumption | omega | decide) (by omega) (hq1) _) (va_cwS 4 hts gX0_questionsUntilOne_X0_questionsUntilOne rfl rfl rfl (by decide +kernel) ⟨Nat.le_of_ble_eq_true rfl, Nat.le_of_ble_eq_true rfl⟩) (kPreS hK (kPc_sub hP [0] rfl) ((hD.sub [0] (by decide) rfl).weaken (fun _ _ _ _ => trivial))) rfl rfl hl.1 rfl (lv_room (Nat.le_of_ble_eq_true rfl)) dX0_questionsUntilOne_39 ⟨Nat.le_of_ble_eq_true rfl, Nat.le_of_ble_eq_true rfl⟩) hP hD hS hA [0] [] rfl rfl (by decide) (by decide) (fun v_4 w_4 H locs hv_4 hP hD hS => ?_)
      obtain ⟨rfl, rfl⟩ := hv_4
      have hP : va_P D vwCl [(h, .inl (cI, LN, .inl q1.2))] H := hP.sub [0] rfl
      have hD : va_D _ [(h, .inl (cI, LN, .inl q1.2))] := hD.sub [0] (by decide) rfl
      refine W.eq (g2 := F0 m 42 ls [.int q1.1]) rfl ?_
      refine lv_istore (lv' := [(6, .int q1.1), (5, .int (nI (splF f ((bestF f a (b - a) 12).1) a (b - a)).2)), (4, .int ((bestF f a (b - a) 12).1)), (0, .ref h), (1, .int (nI a)), (2, .int (nI b)), (3, .int 10)]) hx hb dX0_questionsUntilOne_42 hl (by decide) rfl (fun ls hl => ?_)
      refine lv_aload_n hx hb dX0_questionsUntilOne_44 rfl (lv_at hl 3 rfl) ?_
      refine lv_iload hx hb dX0_questionsUntilOne_45 (lv_at hl 1 rfl) ?_
      refine lv_iload_n hx hb dX0_questionsUntilOne_47 rfl (lv_at hl 5 rfl) ?_
      refine lv_iload_n hx hb dX0_questionsUntilOne_48 rfl (lv_at hl 6 rfl) ?_
      refine lv_iconst (v := 1) hx hb dX0_questionsUntilOne_49 (by decide) ?_
      refine lv_iadd hx hb dX0_questionsUntilOne_50 ?_
      refine lv_topi (fun nv_5 ev_5 => ?_)
      obtain rfl : nv_5 = 11 := ev_5.trans (by decide)
      refine kGo (wc := [(h, .inl (cI, LN, .inl q1.2))]) (wr := []) (va_runS (As := [.ref h, .int (nI (splF f ((bestF f a (b - a) 12).1) a (b - a)).2), .int (nI b), .int 11]) (rest := []) ⟨hx, hb, hml, hown, hts⟩ (c_X0_quo_11 l D cI cJ cZ cO h LN q1.2 ((splF f ((bestF f a (b - a) 12).1) a (b - a)).2) b fd q2 (by first | assumption | omega | decide) (by first | assumption | omega | decide) (by first | assumption | omega | decide) (by omega) (hq2) _) (va_cwS 4 hts gX0_questionsUntilOne_X0_questionsUntilOne rfl rfl rfl (by decide +kernel) ⟨Nat.le_of_ble_eq_true rfl, Nat.le_of_ble_eq_true rfl⟩) (kPreS hK (kPc_sub hP [0] rfl) ((hD.sub [0] (by decide) rfl).weaken (fun _ _ _ _ => trivial))) rfl rfl hl.1 rfl (lv_room (Nat.le_of_ble_eq_true rfl)) dX0_questionsUntilOne_51 ⟨Nat.le_of_ble_eq_true rfl, Nat.le_of_ble_eq_true rfl⟩) hP hD hS hA [0] [] rfl rfl (by decide) (by decide) (fun v_6 w_6 H locs hv_6 hP hD hS => ?_)
      obtain ⟨rfl, rfl⟩ := hv_6
      have hP : va_P D vwCl [(h, .inl (cI, LN, .inl q2.2))] H := hP.sub [0] rfl
      have hD : va_D _ [(h, .inl (cI, LN, .inl q2.2))] := hD.sub [0] (by decide) rfl
      refine W.eq (g2 := F0 m 54 ls [.int q2.1]) rfl ?_
      refine lv_istore (lv' := [(7, .int q2.1), (6, .int q1.1), (5, .int (nI (splF f ((bestF f a (b - a) 12).1) a (b - a)).2)), (4, .int ((bestF f a (b - a) 12).1)), (0, .ref h), (1, .int (nI a)), (2, .int (nI b)), (3, .int 10)]) hx hb dX0_questionsUntilOne_54 hl (by decide) rfl (fun ls hl => ?_)
      refine lv_iconst (v := 1) hx hb dX0_questionsUntilOne_56 (by decide) ?_
      refine lv_iload hx hb dX0_questionsUntilOne_57 (lv_at hl 1 rfl) ?_
      refine lv_iload hx hb dX0_questionsUntilOne_59 (lv_at hl 0 rfl) ?_
      refine va_mmax hx hb (by rw [hml]; exact hl.1.symm) hown hw_m47 hw_stmax hw_iM hw_cMmax (Nat.le_of_ble_eq_true rfl) (Nat.le_of_ble_eq_true rfl) (Nat.le_of_ble_eq_true rfl) (Nat.le_of_ble_eq_true rfl) dX0_questionsUntilOne_61 ?_
      refine W.eq (g2 := F0 m 64 ls [.int (kmax q1.1 q2.1), .int 1]) rfl ?_
      refine lv_iadd hx hb dX0_questionsUntilOne_64 ?_
      have ew_0 : (q2.2 : Nat → Int32) = q.2 := by first | (rw [hfin]; done) | (have hz : q = (0, f) := (by obtain ⟨fd, hfd⟩ : ∃ fd, fq = fd + 1 := (⟨fq - 1, (by omega)⟩); rw [hq, hfd]; exact quoF_p c_11); rw [hz])
      exact kRetI hx hb hr hlk dX0_questionsUntilOne_65 hP hD hS (Nat.le_of_ble_eq_true rfl) (Nat.le_of_ble_eq_true rfl) ⟨(kpi (by first | (rw [hfin]; done) | (have hz : q = (0, f) := (by obtain ⟨fd, hfd⟩ : ∃ fd, fq = fd + 1 := (⟨fq - 1, (by omega)⟩); rw [hq, hfd]; exact quoF_p c_11); rw [hz]))), (kw1 (fun (z_0 : Nat → Int32) => ([(h, .inl (cI, LN, .inl z_0))] : va_W)) ew_0)⟩
    · exact absurd (by decide) c_17

set_option maxHeartbeats 4000000 in
set_option maxRecDepth 100000 in
theorem c_X0_quo_9 (l : Launch) (D : va_G) (cI cJ cZ cO : ClassId) (h : Nat) (LN : Nat) (f : Nat → Int32) (a : Nat) (b : Nat) (fq : Nat) (q : Int32 × (Nat → Int32)) (hL : LN ≤ 4096) (hab : a ≤ b) (hb2 : b ≤ LN) (hfu : fq = 12 - 9) (hq : q = quoF fq f a b) : kC l D (kTY cI cJ cZ cO) yX0_questionsUntilOne wsX0_questionsUntilOne 6 154 0 0 [.ref h, .int (nI a), .int (nI b), .int 9] [(h, .inl (cI, LN, .inl f))] (fun rv_ rw_ => rv_ = some (.int q.1) ∧ rw_ = [(h, .inl (cI, LN, .inl q.2))]) := by
  refine kEnter (cc := cX0_questionsUntilOne) (maxL := 8) (ret := (some .int)) (by decide) rfl (Nat.le_of_ble_eq_true rfl) ?_
  intro p e s m args below meth c hx hb hr hml hts hown hlk hnm hK hP hD hS hA ls hl
  have hl : lv_has ls 8 [(0, .ref h), (1, .int (nI a)), (2, .int (nI b)), (3, .int 9)] := hl
  have hw_m47 := hts (.methodLink RX0 47 Lib.Math.max.name) (by decide +kernel)
  have hw_stmax := hts (.static Lib.Math.max.name) (by decide +kernel)
  have hw_iM := hts (.initialized "java/lang/Math") (by decide +kernel)
  have hw_cMmax := hts (.code Lib.Math.max.name Lib.Math.max.code 2 (some .int)) (by decide +kernel)
  refine lv_aload_n hx hb dX0_questionsUntilOne_0 rfl (lv_at hl 0 rfl) ?_
  refine lv_iload_n hx hb dX0_questionsUntilOne_1 rfl (lv_at hl 1 rfl) ?_
  refine lv_iload_n hx hb dX0_questionsUntilOne_2 rfl (lv_at hl 2 rfl) ?_
  refine kGoR (va_runS (As := [.ref h, .int (nI a), .int (nI b)]) (rest := []) ⟨hx, hb, hml, hown, hts⟩ (c_X0_bestTopic l D cI cJ cZ cO h LN f a b (by first | assumption | omega | decide) (by first | assumption | omega | decide) (by first | assumption | omega | decide)) (va_cwS 3 hts gX0_questionsUntilOne_X0_bestTopic rfl rfl rfl (by decide +kernel) ⟨Nat.le_of_ble_eq_true rfl, Nat.le_of_ble_eq_true rfl⟩) (kPreSR hK (kPc_sub hP [0] rfl)) rfl rfl hl.1 rfl (lv_room (Nat.le_of_ble_eq_true rfl)) dX0_questionsUntilOne_3 ⟨Nat.le_of_ble_eq_true rfl, Nat.le_of_ble_eq_true rfl⟩) (fun v_1 hv_1 => ?_)
  obtain rfl := hv_1
  refine W.eq (g2 := F0 m 6 ls [.int ((bestF f a (b - a) 12).1)]) rfl ?_
  refine lv_istore (lv' := [(4, .int ((bestF f a (b - a) 12).1)), (0, .ref h), (1, .int (nI a)), (2, .int (nI b)), (3, .int 9)]) hx hb dX0_questionsUntilOne_6 hl (by decide) rfl (fun ls hl => ?_)
  refine lv_iload hx hb dX0_questionsUntilOne_8 (lv_at hl 0 rfl) ?_
  refine lv_iconst (v := (-1)) hx hb dX0_questionsUntilOne_10 (by decide) ?_
  refine lv_icmp_eq (tgt := 20) hx hb dX0_questionsUntilOne_11 (by decide) (fun c_11 => ?_) (fun c_11 => ?_)
  · skip
    refine lv_iconst (v := 0) hx hb dX0_questionsUntilOne_20 (by decide) ?_
    have ew_0 : (f : Nat → Int32) = q.2 := by first | (rw [hfin]; done) | (have hz : q = (0, f) := (by obtain ⟨fd, hfd⟩ : ∃ fd, fq = fd + 1 := (⟨fq - 1, (by omega)⟩); rw [hq, hfd]; exact quoF_p c_11); rw [hz])
    exact kRetI hx hb hr hlk dX0_questionsUntilOne_21 hP hD hS (Nat.le_of_ble_eq_true rfl) (Nat.le_of_ble_eq_true rfl) ⟨(kpi (by first | (rw [hfin]; done) | (have hz : q = (0, f) := (by obtain ⟨fd, hfd⟩ : ∃ fd, fq = fd + 1 := (⟨fq - 1, (by omega)⟩); rw [hq, hfd]; exact quoF_p c_11); rw [hz]))), (kw1 (fun (z_0 : Nat → Int32) => ([(h, .inl (cI, LN, .inl z_0))] : va_W)) ew_0)⟩
  · skip
    refine lv_iload_n hx hb dX0_questionsUntilOne_14 rfl (lv_at hl 4 rfl) ?_
    refine lv_bipush (v := 12) hx hb dX0_questionsUntilOne_15 (by decide) ?_
    refine lv_icmp_lt (tgt := 22) hx hb dX0_questionsUntilOne_17 (by decide) (fun c_17 => ?_) (fun c_17 => ?_)
    · skip
      refine lv_aload_n hx hb dX0_questionsUntilOne_22 rfl (lv_at hl 1 rfl) ?_
      refine lv_iload_n hx hb dX0_questionsUntilOne_23 rfl (lv_at hl 2 rfl) ?_
      refine lv_iload_n hx hb dX0_questionsUntilOne_24 rfl (lv_at hl 3 rfl) ?_
      refine lv_iload hx hb dX0_questionsUntilOne_25 (lv_at hl 0 rfl) ?_
      refine kGo (wc := [(h, .inl (cI, LN, .inl f))]) (wr := []) (va_runS (As := [.ref h, .int (nI a), .int (nI b), .int ((bestF f a (b - a) 12).1)]) (rest := []) ⟨hx, hb, hml, hown, hts⟩ (c_X0_split l D cI cJ cZ cO h LN f a b ((bestF f a (b - a) 12).1) (by first | assumption | omega | decide) (by first | assumption | omega | decide) (by first | assumption | omega | decide) _) (va_cwS 4 hts gX0_questionsUntilOne_X0_split rfl rfl rfl (by decide +kernel) ⟨Nat.le_of_ble_eq_true rfl, Nat.le_of_ble_eq_true rfl⟩) (kPreS hK (kPc_sub hP [0] rfl) ((hD.sub [0] (by decide) rfl).weaken (fun _ _ _ _ => trivial))) rfl rfl hl.1 rfl (lv_room (Nat.le_of_ble_eq_true rfl)) dX0_questionsUntilOne_27 ⟨Nat.le_of_ble_eq_true rfl, Nat.le_of_ble_eq_true rfl⟩) hP hD hS hA [0] [] rfl rfl (by decide) (by decide) (fun v_2 w_2 H locs hv_2 hP hD hS => ?_)
      obtain ⟨rfl, rfl⟩ := hv_2
      have hP : va_P D vwCl [(h, .inl (cI, LN, .inl ((splF f ((bestF f a (b - a) 12).1) a (b - a)).1)))] H := hP.sub [0] rfl
      have hD : va_D _ [(h, .inl (cI, LN, .inl ((splF f ((bestF f a (b - a) 12).1) a (b - a)).1)))] := hD.sub [0] (by decide) rfl
      refine W.eq (g2 := F0 m 30 ls [.int (nI (splF f ((bestF f a (b - a) 12).1) a (b - a)).2)]) rfl ?_
      have hs1 := splF_ge f (bestF f a (b - a) 12).1 a (b - a)
      have hs2 := splF_le f (bestF f a (b - a) 12).1 a (b - a)
      obtain ⟨fd, hfd⟩ : ∃ fd, fq = fd + 1 := ⟨fq - 1, by omega⟩
      obtain ⟨q1, hq1⟩ : ∃ q1, q1 = quoF fd (splF f (bestF f a (b - a) 12).1 a (b - a)).1 a (splF f (bestF f a (b - a) 12).1 a (b - a)).2 := ⟨_, rfl⟩
      obtain ⟨q2, hq2⟩ : ∃ q2, q2 = quoF fd q1.2 (splF f (bestF f a (b - a) 12).1 a (b - a)).2 b := ⟨_, rfl⟩
      have hfin : q = (1 + kmax q1.1 q2.1, q2.2) := by rw [hq, hfd, quoF_n c_11, hq2, hq1]
      refine lv_istore (lv' := [(5, .int (nI (splF f ((bestF f a (b - a) 12).1) a (b - a)).2)), (4, .int ((bestF f a (b - a) 12).1)), (0, .ref h), (1, .int (nI a)), (2, .int (nI b)), (3, .int 9)]) hx hb dX0_questionsUntilOne_30 hl (by decide) rfl (fun ls hl => ?_)
      refine lv_aload_n hx hb dX0_questionsUntilOne_32 rfl (lv_at hl 2 rfl) ?_
      refine lv_iload_n hx hb dX0_questionsUntilOne_33 rfl (lv_at hl 3 rfl) ?_
      refine lv_iload hx hb dX0_questionsUntilOne_34 (lv_at hl 0 rfl) ?_
      refine lv_iload_n hx hb dX0_questionsUntilOne_36 rfl (lv_at hl 5 rfl) ?_
      refine lv_iconst (v := 1) hx hb dX0_questionsUntilOne_37 (by decide) ?_
      refine lv_iadd hx hb dX0_questionsUntilOne_38 ?_
      refine lv_topi (fun nv_3 ev_3 => ?_)
      obtain rfl : nv_3 = 10 := ev_3.trans (by decide)
      refine kGo (wc := [(h, .inl (cI, LN, .inl ((splF f ((bestF f a (b - a) 12).1) a (b - a)).1)))]) (wr := []) (va_runS (As := [.ref h, .int (nI a), .int (nI (splF f ((bestF f a (b - a) 12).1) a (b - a)).2), .int 10]) (rest := []) ⟨hx, hb, hml, hown, hts⟩ (c_X0_quo_10 l D cI cJ cZ cO h LN ((splF f ((bestF f a (b - a) 12).1) a (b - a)).1) a ((splF f ((bestF f a (b - a) 12).1) a (b - a)).2) fd q1 (by first | assumption | omega | decide) (by first | assumption | omega | decide) (by first | assumption | omega | decide) (by omega) (hq1) _) (va_cwS 4 hts gX0_questionsUntilOne_X0_questionsUntilOne rfl rfl rfl (by decide +kernel) ⟨Nat.le_of_ble_eq_true rfl, Nat.le_of_ble_eq_true rfl⟩) (kPreS hK (kPc_sub hP [0] rfl) ((hD.sub [0] (by decide) rfl).weaken (fun _ _ _ _ => trivial))) rfl rfl hl.1 rfl (lv_room (Nat.le_of_ble_eq_true rfl)) dX0_questionsUntilOne_39 ⟨Nat.le_of_ble_eq_true rfl, Nat.le_of_ble_eq_true rfl⟩) hP hD hS hA [0] [] rfl rfl (by decide) (by decide) (fun v_4 w_4 H locs hv_4 hP hD hS => ?_)
      obtain ⟨rfl, rfl⟩ := hv_4
      have hP : va_P D vwCl [(h, .inl (cI, LN, .inl q1.2))] H := hP.sub [0] rfl
      have hD : va_D _ [(h, .inl (cI, LN, .inl q1.2))] := hD.sub [0] (by decide) rfl
      refine W.eq (g2 := F0 m 42 ls [.int q1.1]) rfl ?_
      refine lv_istore (lv' := [(6, .int q1.1), (5, .int (nI (splF f ((bestF f a (b - a) 12).1) a (b - a)).2)), (4, .int ((bestF f a (b - a) 12).1)), (0, .ref h), (1, .int (nI a)), (2, .int (nI b)), (3, .int 9)]) hx hb dX0_questionsUntilOne_42 hl (by decide) rfl (fun ls hl => ?_)
      refine lv_aload_n hx hb dX0_questionsUntilOne_44 rfl (lv_at hl 3 rfl) ?_
      refine lv_iload hx hb dX0_questionsUntilOne_45 (lv_at hl 1 rfl) ?_
      refine lv_iload_n hx hb dX0_questionsUntilOne_47 rfl (lv_at hl 5 rfl) ?_
      refine lv_iload_n hx hb dX0_questionsUntilOne_48 rfl (lv_at hl 6 rfl) ?_
      refine lv_iconst (v := 1) hx hb dX0_questionsUntilOne_49 (by decide) ?_
      refine lv_iadd hx hb dX0_questionsUntilOne_50 ?_
      refine lv_topi (fun nv_5 ev_5 => ?_)
      obtain rfl : nv_5 = 10 := ev_5.trans (by decide)
      refine kGo (wc := [(h, .inl (cI, LN, .inl q1.2))]) (wr := []) (va_runS (As := [.ref h, .int (nI (splF f ((bestF f a (b - a) 12).1) a (b - a)).2), .int (nI b), .int 10]) (rest := []) ⟨hx, hb, hml, hown, hts⟩ (c_X0_quo_10 l D cI cJ cZ cO h LN q1.2 ((splF f ((bestF f a (b - a) 12).1) a (b - a)).2) b fd q2 (by first | assumption | omega | decide) (by first | assumption | omega | decide) (by first | assumption | omega | decide) (by omega) (hq2) _) (va_cwS 4 hts gX0_questionsUntilOne_X0_questionsUntilOne rfl rfl rfl (by decide +kernel) ⟨Nat.le_of_ble_eq_true rfl, Nat.le_of_ble_eq_true rfl⟩) (kPreS hK (kPc_sub hP [0] rfl) ((hD.sub [0] (by decide) rfl).weaken (fun _ _ _ _ => trivial))) rfl rfl hl.1 rfl (lv_room (Nat.le_of_ble_eq_true rfl)) dX0_questionsUntilOne_51 ⟨Nat.le_of_ble_eq_true rfl, Nat.le_of_ble_eq_true rfl⟩) hP hD hS hA [0] [] rfl rfl (by decide) (by decide) (fun v_6 w_6 H locs hv_6 hP hD hS => ?_)
      obtain ⟨rfl, rfl⟩ := hv_6
      have hP : va_P D vwCl [(h, .inl (cI, LN, .inl q2.2))] H := hP.sub [0] rfl
      have hD : va_D _ [(h, .inl (cI, LN, .inl q2.2))] := hD.sub [0] (by decide) rfl
      refine W.eq (g2 := F0 m 54 ls [.int q2.1]) rfl ?_
      refine lv_istore (lv' := [(7, .int q2.1), (6, .int q1.1), (5, .int (nI (splF f ((bestF f a (b - a) 12).1) a (b - a)).2)), (4, .int ((bestF f a (b - a) 12).1)), (0, .ref h), (1, .int (nI a)), (2, .int (nI b)), (3, .int 9)]) hx hb dX0_questionsUntilOne_54 hl (by decide) rfl (fun ls hl => ?_)
      refine lv_iconst (v := 1) hx hb dX0_questionsUntilOne_56 (by decide) ?_
      refine lv_iload hx hb dX0_questionsUntilOne_57 (lv_at hl 1 rfl) ?_
      refine lv_iload hx hb dX0_questionsUntilOne_59 (lv_at hl 0 rfl) ?_
      refine va_mmax hx hb (by rw [hml]; exact hl.1.symm) hown hw_m47 hw_stmax hw_iM hw_cMmax (Nat.le_of_ble_eq_true rfl) (Nat.le_of_ble_eq_true rfl) (Nat.le_of_ble_eq_true rfl) (Nat.le_of_ble_eq_true rfl) dX0_questionsUntilOne_61 ?_
      refine W.eq (g2 := F0 m 64 ls [.int (kmax q1.1 q2.1), .int 1]) rfl ?_
      refine lv_iadd hx hb dX0_questionsUntilOne_64 ?_
      have ew_0 : (q2.2 : Nat → Int32) = q.2 := by first | (rw [hfin]; done) | (have hz : q = (0, f) := (by obtain ⟨fd, hfd⟩ : ∃ fd, fq = fd + 1 := (⟨fq - 1, (by omega)⟩); rw [hq, hfd]; exact quoF_p c_11); rw [hz])
      exact kRetI hx hb hr hlk dX0_questionsUntilOne_65 hP hD hS (Nat.le_of_ble_eq_true rfl) (Nat.le_of_ble_eq_true rfl) ⟨(kpi (by first | (rw [hfin]; done) | (have hz : q = (0, f) := (by obtain ⟨fd, hfd⟩ : ∃ fd, fq = fd + 1 := (⟨fq - 1, (by omega)⟩); rw [hq, hfd]; exact quoF_p c_11); rw [hz]))), (kw1 (fun (z_0 : Nat → Int32) => ([(h, .inl (cI, LN, .inl z_0))] : va_W)) ew_0)⟩
    · exact absurd (by decide) c_17

set_option maxHeartbeats 4000000 in
set_option maxRecDepth 100000 in
theorem c_X0_quo_8 (l : Launch) (D : va_G) (cI cJ cZ cO : ClassId) (h : Nat) (LN : Nat) (f : Nat → Int32) (a : Nat) (b : Nat) (fq : Nat) (q : Int32 × (Nat → Int32)) (hL : LN ≤ 4096) (hab : a ≤ b) (hb2 : b ≤ LN) (hfu : fq = 12 - 8) (hq : q = quoF fq f a b) : kC l D (kTY cI cJ cZ cO) yX0_questionsUntilOne wsX0_questionsUntilOne 7 181 0 0 [.ref h, .int (nI a), .int (nI b), .int 8] [(h, .inl (cI, LN, .inl f))] (fun rv_ rw_ => rv_ = some (.int q.1) ∧ rw_ = [(h, .inl (cI, LN, .inl q.2))]) := by
  refine kEnter (cc := cX0_questionsUntilOne) (maxL := 8) (ret := (some .int)) (by decide) rfl (Nat.le_of_ble_eq_true rfl) ?_
  intro p e s m args below meth c hx hb hr hml hts hown hlk hnm hK hP hD hS hA ls hl
  have hl : lv_has ls 8 [(0, .ref h), (1, .int (nI a)), (2, .int (nI b)), (3, .int 8)] := hl
  have hw_m47 := hts (.methodLink RX0 47 Lib.Math.max.name) (by decide +kernel)
  have hw_stmax := hts (.static Lib.Math.max.name) (by decide +kernel)
  have hw_iM := hts (.initialized "java/lang/Math") (by decide +kernel)
  have hw_cMmax := hts (.code Lib.Math.max.name Lib.Math.max.code 2 (some .int)) (by decide +kernel)
  refine lv_aload_n hx hb dX0_questionsUntilOne_0 rfl (lv_at hl 0 rfl) ?_
  refine lv_iload_n hx hb dX0_questionsUntilOne_1 rfl (lv_at hl 1 rfl) ?_
  refine lv_iload_n hx hb dX0_questionsUntilOne_2 rfl (lv_at hl 2 rfl) ?_
  refine kGoR (va_runS (As := [.ref h, .int (nI a), .int (nI b)]) (rest := []) ⟨hx, hb, hml, hown, hts⟩ (c_X0_bestTopic l D cI cJ cZ cO h LN f a b (by first | assumption | omega | decide) (by first | assumption | omega | decide) (by first | assumption | omega | decide)) (va_cwS 3 hts gX0_questionsUntilOne_X0_bestTopic rfl rfl rfl (by decide +kernel) ⟨Nat.le_of_ble_eq_true rfl, Nat.le_of_ble_eq_true rfl⟩) (kPreSR hK (kPc_sub hP [0] rfl)) rfl rfl hl.1 rfl (lv_room (Nat.le_of_ble_eq_true rfl)) dX0_questionsUntilOne_3 ⟨Nat.le_of_ble_eq_true rfl, Nat.le_of_ble_eq_true rfl⟩) (fun v_1 hv_1 => ?_)
  obtain rfl := hv_1
  refine W.eq (g2 := F0 m 6 ls [.int ((bestF f a (b - a) 12).1)]) rfl ?_
  refine lv_istore (lv' := [(4, .int ((bestF f a (b - a) 12).1)), (0, .ref h), (1, .int (nI a)), (2, .int (nI b)), (3, .int 8)]) hx hb dX0_questionsUntilOne_6 hl (by decide) rfl (fun ls hl => ?_)
  refine lv_iload hx hb dX0_questionsUntilOne_8 (lv_at hl 0 rfl) ?_
  refine lv_iconst (v := (-1)) hx hb dX0_questionsUntilOne_10 (by decide) ?_
  refine lv_icmp_eq (tgt := 20) hx hb dX0_questionsUntilOne_11 (by decide) (fun c_11 => ?_) (fun c_11 => ?_)
  · skip
    refine lv_iconst (v := 0) hx hb dX0_questionsUntilOne_20 (by decide) ?_
    have ew_0 : (f : Nat → Int32) = q.2 := by first | (rw [hfin]; done) | (have hz : q = (0, f) := (by obtain ⟨fd, hfd⟩ : ∃ fd, fq = fd + 1 := (⟨fq - 1, (by omega)⟩); rw [hq, hfd]; exact quoF_p c_11); rw [hz])
    exact kRetI hx hb hr hlk dX0_questionsUntilOne_21 hP hD hS (Nat.le_of_ble_eq_true rfl) (Nat.le_of_ble_eq_true rfl) ⟨(kpi (by first | (rw [hfin]; done) | (have hz : q = (0, f) := (by obtain ⟨fd, hfd⟩ : ∃ fd, fq = fd + 1 := (⟨fq - 1, (by omega)⟩); rw [hq, hfd]; exact quoF_p c_11); rw [hz]))), (kw1 (fun (z_0 : Nat → Int32) => ([(h, .inl (cI, LN, .inl z_0))] : va_W)) ew_0)⟩
  · skip
    refine lv_iload_n hx hb dX0_questionsUntilOne_14 rfl (lv_at hl 4 rfl) ?_
    refine lv_bipush (v := 12) hx hb dX0_questionsUntilOne_15 (by decide) ?_
    refine lv_icmp_lt (tgt := 22) hx hb dX0_questionsUntilOne_17 (by decide) (fun c_17 => ?_) (fun c_17 => ?_)
    · skip
      refine lv_aload_n hx hb dX0_questionsUntilOne_22 rfl (lv_at hl 1 rfl) ?_
      refine lv_iload_n hx hb dX0_questionsUntilOne_23 rfl (lv_at hl 2 rfl) ?_
      refine lv_iload_n hx hb dX0_questionsUntilOne_24 rfl (lv_at hl 3 rfl) ?_
      refine lv_iload hx hb dX0_questionsUntilOne_25 (lv_at hl 0 rfl) ?_
      refine kGo (wc := [(h, .inl (cI, LN, .inl f))]) (wr := []) (va_runS (As := [.ref h, .int (nI a), .int (nI b), .int ((bestF f a (b - a) 12).1)]) (rest := []) ⟨hx, hb, hml, hown, hts⟩ (c_X0_split l D cI cJ cZ cO h LN f a b ((bestF f a (b - a) 12).1) (by first | assumption | omega | decide) (by first | assumption | omega | decide) (by first | assumption | omega | decide) _) (va_cwS 4 hts gX0_questionsUntilOne_X0_split rfl rfl rfl (by decide +kernel) ⟨Nat.le_of_ble_eq_true rfl, Nat.le_of_ble_eq_true rfl⟩) (kPreS hK (kPc_sub hP [0] rfl) ((hD.sub [0] (by decide) rfl).weaken (fun _ _ _ _ => trivial))) rfl rfl hl.1 rfl (lv_room (Nat.le_of_ble_eq_true rfl)) dX0_questionsUntilOne_27 ⟨Nat.le_of_ble_eq_true rfl, Nat.le_of_ble_eq_true rfl⟩) hP hD hS hA [0] [] rfl rfl (by decide) (by decide) (fun v_2 w_2 H locs hv_2 hP hD hS => ?_)
      obtain ⟨rfl, rfl⟩ := hv_2
      have hP : va_P D vwCl [(h, .inl (cI, LN, .inl ((splF f ((bestF f a (b - a) 12).1) a (b - a)).1)))] H := hP.sub [0] rfl
      have hD : va_D _ [(h, .inl (cI, LN, .inl ((splF f ((bestF f a (b - a) 12).1) a (b - a)).1)))] := hD.sub [0] (by decide) rfl
      refine W.eq (g2 := F0 m 30 ls [.int (nI (splF f ((bestF f a (b - a) 12).1) a (b - a)).2)]) rfl ?_
      have hs1 := splF_ge f (bestF f a (b - a) 12).1 a (b - a)
      have hs2 := splF_le f (bestF f a (b - a) 12).1 a (b - a)
      obtain ⟨fd, hfd⟩ : ∃ fd, fq = fd + 1 := ⟨fq - 1, by omega⟩
      obtain ⟨q1, hq1⟩ : ∃ q1, q1 = quoF fd (splF f (bestF f a (b - a) 12).1 a (b - a)).1 a (splF f (bestF f a (b - a) 12).1 a (b - a)).2 := ⟨_, rfl⟩
      obtain ⟨q2, hq2⟩ : ∃ q2, q2 = quoF fd q1.2 (splF f (bestF f a (b - a) 12).1 a (b - a)).2 b := ⟨_, rfl⟩
      have hfin : q = (1 + kmax q1.1 q2.1, q2.2) := by rw [hq, hfd, quoF_n c_11, hq2, hq1]
      refine lv_istore (lv' := [(5, .int (nI (splF f ((bestF f a (b - a) 12).1) a (b - a)).2)), (4, .int ((bestF f a (b - a) 12).1)), (0, .ref h), (1, .int (nI a)), (2, .int (nI b)), (3, .int 8)]) hx hb dX0_questionsUntilOne_30 hl (by decide) rfl (fun ls hl => ?_)
      refine lv_aload_n hx hb dX0_questionsUntilOne_32 rfl (lv_at hl 2 rfl) ?_
      refine lv_iload_n hx hb dX0_questionsUntilOne_33 rfl (lv_at hl 3 rfl) ?_
      refine lv_iload hx hb dX0_questionsUntilOne_34 (lv_at hl 0 rfl) ?_
      refine lv_iload_n hx hb dX0_questionsUntilOne_36 rfl (lv_at hl 5 rfl) ?_
      refine lv_iconst (v := 1) hx hb dX0_questionsUntilOne_37 (by decide) ?_
      refine lv_iadd hx hb dX0_questionsUntilOne_38 ?_
      refine lv_topi (fun nv_3 ev_3 => ?_)
      obtain rfl : nv_3 = 9 := ev_3.trans (by decide)
      refine kGo (wc := [(h, .inl (cI, LN, .inl ((splF f ((bestF f a (b - a) 12).1) a (b - a)).1)))]) (wr := []) (va_runS (As := [.ref h, .int (nI a), .int (nI (splF f ((bestF f a (b - a) 12).1) a (b - a)).2), .int 9]) (rest := []) ⟨hx, hb, hml, hown, hts⟩ (c_X0_quo_9 l D cI cJ cZ cO h LN ((splF f ((bestF f a (b - a) 12).1) a (b - a)).1) a ((splF f ((bestF f a (b - a) 12).1) a (b - a)).2) fd q1 (by first | assumption | omega | decide) (by first | assumption | omega | decide) (by first | assumption | omega | decide) (by omega) (hq1) _) (va_cwS 4 hts gX0_questionsUntilOne_X0_questionsUntilOne rfl rfl rfl (by decide +kernel) ⟨Nat.le_of_ble_eq_true rfl, Nat.le_of_ble_eq_true rfl⟩) (kPreS hK (kPc_sub hP [0] rfl) ((hD.sub [0] (by decide) rfl).weaken (fun _ _ _ _ => trivial))) rfl rfl hl.1 rfl (lv_room (Nat.le_of_ble_eq_true rfl)) dX0_questionsUntilOne_39 ⟨Nat.le_of_ble_eq_true rfl, Nat.le_of_ble_eq_true rfl⟩) hP hD hS hA [0] [] rfl rfl (by decide) (by decide) (fun v_4 w_4 H locs hv_4 hP hD hS => ?_)
      obtain ⟨rfl, rfl⟩ := hv_4
      have hP : va_P D vwCl [(h, .inl (cI, LN, .inl q1.2))] H := hP.sub [0] rfl
      have hD : va_D _ [(h, .inl (cI, LN, .inl q1.2))] := hD.sub [0] (by decide) rfl
      refine W.eq (g2 := F0 m 42 ls [.int q1.1]) rfl ?_
      refine lv_istore (lv' := [(6, .int q1.1), (5, .int (nI (splF f ((bestF f a (b - a) 12).1) a (b - a)).2)), (4, .int ((bestF f a (b - a) 12).1)), (0, .ref h), (1, .int (nI a)), (2, .int (nI b)), (3, .int 8)]) hx hb dX0_questionsUntilOne_42 hl (by decide) rfl (fun ls hl => ?_)
      refine lv_aload_n hx hb dX0_questionsUntilOne_44 rfl (lv_at hl 3 rfl) ?_
      refine lv_iload hx hb dX0_questionsUntilOne_45 (lv_at hl 1 rfl) ?_
      refine lv_iload_n hx hb dX0_questionsUntilOne_47 rfl (lv_at hl 5 rfl) ?_
      refine lv_iload_n hx hb dX0_questionsUntilOne_48 rfl (lv_at hl 6 rfl) ?_
      refine lv_iconst (v := 1) hx hb dX0_questionsUntilOne_49 (by decide) ?_
      refine lv_iadd hx hb dX0_questionsUntilOne_50 ?_
      refine lv_topi (fun nv_5 ev_5 => ?_)
      obtain rfl : nv_5 = 9 := ev_5.trans (by decide)
      refine kGo (wc := [(h, .inl (cI, LN, .inl q1.2))]) (wr := []) (va_runS (As := [.ref h, .int (nI (splF f ((bestF f a (b - a) 12).1) a (b - a)).2), .int (nI b), .int 9]) (rest := []) ⟨hx, hb, hml, hown, hts⟩ (c_X0_quo_9 l D cI cJ cZ cO h LN q1.2 ((splF f ((bestF f a (b - a) 12).1) a (b - a)).2) b fd q2 (by first | assumption | omega | decide) (by first | assumption | omega | decide) (by first | assumption | omega | decide) (by omega) (hq2) _) (va_cwS 4 hts gX0_questionsUntilOne_X0_questionsUntilOne rfl rfl rfl (by decide +kernel) ⟨Nat.le_of_ble_eq_true rfl, Nat.le_of_ble_eq_true rfl⟩) (kPreS hK (kPc_sub hP [0] rfl) ((hD.sub [0] (by decide) rfl).weaken (fun _ _ _ _ => trivial))) rfl rfl hl.1 rfl (lv_room (Nat.le_of_ble_eq_true rfl)) dX0_questionsUntilOne_51 ⟨Nat.le_of_ble_eq_true rfl, Nat.le_of_ble_eq_true rfl⟩) hP hD hS hA [0] [] rfl rfl (by decide) (by decide) (fun v_6 w_6 H locs hv_6 hP hD hS => ?_)
      obtain ⟨rfl, rfl⟩ := hv_6
      have hP : va_P D vwCl [(h, .inl (cI, LN, .inl q2.2))] H := hP.sub [0] rfl
      have hD : va_D _ [(h, .inl (cI, LN, .inl q2.2))] := hD.sub [0] (by decide) rfl
      refine W.eq (g2 := F0 m 54 ls [.int q2.1]) rfl ?_
      refine lv_istore (lv' := [(7, .int q2.1), (6, .int q1.1), (5, .int (nI (splF f ((bestF f a (b - a) 12).1) a (b - a)).2)), (4, .int ((bestF f a (b - a) 12).1)), (0, .ref h), (1, .int (nI a)), (2, .int (nI b)), (3, .int 8)]) hx hb dX0_questionsUntilOne_54 hl (by decide) rfl (fun ls hl => ?_)
      refine lv_iconst (v := 1) hx hb dX0_questionsUntilOne_56 (by decide) ?_
      refine lv_iload hx hb dX0_questionsUntilOne_57 (lv_at hl 1 rfl) ?_
      refine lv_iload hx hb dX0_questionsUntilOne_59 (lv_at hl 0 rfl) ?_
      refine va_mmax hx hb (by rw [hml]; exact hl.1.symm) hown hw_m47 hw_stmax hw_iM hw_cMmax (Nat.le_of_ble_eq_true rfl) (Nat.le_of_ble_eq_true rfl) (Nat.le_of_ble_eq_true rfl) (Nat.le_of_ble_eq_true rfl) dX0_questionsUntilOne_61 ?_
      refine W.eq (g2 := F0 m 64 ls [.int (kmax q1.1 q2.1), .int 1]) rfl ?_
      refine lv_iadd hx hb dX0_questionsUntilOne_64 ?_
      have ew_0 : (q2.2 : Nat → Int32) = q.2 := by first | (rw [hfin]; done) | (have hz : q = (0, f) := (by obtain ⟨fd, hfd⟩ : ∃ fd, fq = fd + 1 := (⟨fq - 1, (by omega)⟩); rw [hq, hfd]; exact quoF_p c_11); rw [hz])
      exact kRetI hx hb hr hlk dX0_questionsUntilOne_65 hP hD hS (Nat.le_of_ble_eq_true rfl) (Nat.le_of_ble_eq_true rfl) ⟨(kpi (by first | (rw [hfin]; done) | (have hz : q = (0, f) := (by obtain ⟨fd, hfd⟩ : ∃ fd, fq = fd + 1 := (⟨fq - 1, (by omega)⟩); rw [hq, hfd]; exact quoF_p c_11); rw [hz]))), (kw1 (fun (z_0 : Nat → Int32) => ([(h, .inl (cI, LN, .inl z_0))] : va_W)) ew_0)⟩
    · exact absurd (by decide) c_17

set_option maxHeartbeats 4000000 in
set_option maxRecDepth 100000 in
theorem c_X0_quo_7 (l : Launch) (D : va_G) (cI cJ cZ cO : ClassId) (h : Nat) (LN : Nat) (f : Nat → Int32) (a : Nat) (b : Nat) (fq : Nat) (q : Int32 × (Nat → Int32)) (hL : LN ≤ 4096) (hab : a ≤ b) (hb2 : b ≤ LN) (hfu : fq = 12 - 7) (hq : q = quoF fq f a b) : kC l D (kTY cI cJ cZ cO) yX0_questionsUntilOne wsX0_questionsUntilOne 8 208 0 0 [.ref h, .int (nI a), .int (nI b), .int 7] [(h, .inl (cI, LN, .inl f))] (fun rv_ rw_ => rv_ = some (.int q.1) ∧ rw_ = [(h, .inl (cI, LN, .inl q.2))]) := by
  refine kEnter (cc := cX0_questionsUntilOne) (maxL := 8) (ret := (some .int)) (by decide) rfl (Nat.le_of_ble_eq_true rfl) ?_
  intro p e s m args below meth c hx hb hr hml hts hown hlk hnm hK hP hD hS hA ls hl
  have hl : lv_has ls 8 [(0, .ref h), (1, .int (nI a)), (2, .int (nI b)), (3, .int 7)] := hl
  have hw_m47 := hts (.methodLink RX0 47 Lib.Math.max.name) (by decide +kernel)
  have hw_stmax := hts (.static Lib.Math.max.name) (by decide +kernel)
  have hw_iM := hts (.initialized "java/lang/Math") (by decide +kernel)
  have hw_cMmax := hts (.code Lib.Math.max.name Lib.Math.max.code 2 (some .int)) (by decide +kernel)
  refine lv_aload_n hx hb dX0_questionsUntilOne_0 rfl (lv_at hl 0 rfl) ?_
  refine lv_iload_n hx hb dX0_questionsUntilOne_1 rfl (lv_at hl 1 rfl) ?_
  refine lv_iload_n hx hb dX0_questionsUntilOne_2 rfl (lv_at hl 2 rfl) ?_
  refine kGoR (va_runS (As := [.ref h, .int (nI a), .int (nI b)]) (rest := []) ⟨hx, hb, hml, hown, hts⟩ (c_X0_bestTopic l D cI cJ cZ cO h LN f a b (by first | assumption | omega | decide) (by first | assumption | omega | decide) (by first | assumption | omega | decide)) (va_cwS 3 hts gX0_questionsUntilOne_X0_bestTopic rfl rfl rfl (by decide +kernel) ⟨Nat.le_of_ble_eq_true rfl, Nat.le_of_ble_eq_true rfl⟩) (kPreSR hK (kPc_sub hP [0] rfl)) rfl rfl hl.1 rfl (lv_room (Nat.le_of_ble_eq_true rfl)) dX0_questionsUntilOne_3 ⟨Nat.le_of_ble_eq_true rfl, Nat.le_of_ble_eq_true rfl⟩) (fun v_1 hv_1 => ?_)
  obtain rfl := hv_1
  refine W.eq (g2 := F0 m 6 ls [.int ((bestF f a (b - a) 12).1)]) rfl ?_
  refine lv_istore (lv' := [(4, .int ((bestF f a (b - a) 12).1)), (0, .ref h), (1, .int (nI a)), (2, .int (nI b)), (3, .int 7)]) hx hb dX0_questionsUntilOne_6 hl (by decide) rfl (fun ls hl => ?_)
  refine lv_iload hx hb dX0_questionsUntilOne_8 (lv_at hl 0 rfl) ?_
  refine lv_iconst (v := (-1)) hx hb dX0_questionsUntilOne_10 (by decide) ?_
  refine lv_icmp_eq (tgt := 20) hx hb dX0_questionsUntilOne_11 (by decide) (fun c_11 => ?_) (fun c_11 => ?_)
  · skip
    refine lv_iconst (v := 0) hx hb dX0_questionsUntilOne_20 (by decide) ?_
    have ew_0 : (f : Nat → Int32) = q.2 := by first | (rw [hfin]; done) | (have hz : q = (0, f) := (by obtain ⟨fd, hfd⟩ : ∃ fd, fq = fd + 1 := (⟨fq - 1, (by omega)⟩); rw [hq, hfd]; exact quoF_p c_11); rw [hz])
    exact kRetI hx hb hr hlk dX0_questionsUntilOne_21 hP hD hS (Nat.le_of_ble_eq_true rfl) (Nat.le_of_ble_eq_true rfl) ⟨(kpi (by first | (rw [hfin]; done) | (have hz : q = (0, f) := (by obtain ⟨fd, hfd⟩ : ∃ fd, fq = fd + 1 := (⟨fq - 1, (by omega)⟩); rw [hq, hfd]; exact quoF_p c_11); rw [hz]))), (kw1 (fun (z_0 : Nat → Int32) => ([(h, .inl (cI, LN, .inl z_0))] : va_W)) ew_0)⟩
  · skip
    refine lv_iload_n hx hb dX0_questionsUntilOne_14 rfl (lv_at hl 4 rfl) ?_
    refine lv_bipush (v := 12) hx hb dX0_questionsUntilOne_15 (by decide) ?_
    refine lv_icmp_lt (tgt := 22) hx hb dX0_questionsUntilOne_17 (by decide) (fun c_17 => ?_) (fun c_17 => ?_)
    · skip
      refine lv_aload_n hx hb dX0_questionsUntilOne_22 rfl (lv_at hl 1 rfl) ?_
      refine lv_iload_n hx hb dX0_questionsUntilOne_23 rfl (lv_at hl 2 rfl) ?_
      refine lv_iload_n hx hb dX0_questionsUntilOne_24 rfl (lv_at hl 3 rfl) ?_
      refine lv_iload hx hb dX0_questionsUntilOne_25 (lv_at hl 0 rfl) ?_
      refine kGo (wc := [(h, .inl (cI, LN, .inl f))]) (wr := []) (va_runS (As := [.ref h, .int (nI a), .int (nI b), .int ((bestF f a (b - a) 12).1)]) (rest := []) ⟨hx, hb, hml, hown, hts⟩ (c_X0_split l D cI cJ cZ cO h LN f a b ((bestF f a (b - a) 12).1) (by first | assumption | omega | decide) (by first | assumption | omega | decide) (by first | assumption | omega | decide) _) (va_cwS 4 hts gX0_questionsUntilOne_X0_split rfl rfl rfl (by decide +kernel) ⟨Nat.le_of_ble_eq_true rfl, Nat.le_of_ble_eq_true rfl⟩) (kPreS hK (kPc_sub hP [0] rfl) ((hD.sub [0] (by decide) rfl).weaken (fun _ _ _ _ => trivial))) rfl rfl hl.1 rfl (lv_room (Nat.le_of_ble_eq_true rfl)) dX0_questionsUntilOne_27 ⟨Nat.le_of_ble_eq_true rfl, Nat.le_of_ble_eq_true rfl⟩) hP hD hS hA [0] [] rfl rfl (by decide) (by decide) (fun v_2 w_2 H locs hv_2 hP hD hS => ?_)
      obtain ⟨rfl, rfl⟩ := hv_2
      have hP : va_P D vwCl [(h, .inl (cI, LN, .inl ((splF f ((bestF f a (b - a) 12).1) a (b - a)).1)))] H := hP.sub [0] rfl
      have hD : va_D _ [(h, .inl (cI, LN, .inl ((splF f ((bestF f a (b - a) 12).1) a (b - a)).1)))] := hD.sub [0] (by decide) rfl
      refine W.eq (g2 := F0 m 30 ls [.int (nI (splF f ((bestF f a (b - a) 12).1) a (b - a)).2)]) rfl ?_
      have hs1 := splF_ge f (bestF f a (b - a) 12).1 a (b - a)
      have hs2 := splF_le f (bestF f a (b - a) 12).1 a (b - a)
      obtain ⟨fd, hfd⟩ : ∃ fd, fq = fd + 1 := ⟨fq - 1, by omega⟩
      obtain ⟨q1, hq1⟩ : ∃ q1, q1 = quoF fd (splF f (bestF f a (b - a) 12).1 a (b - a)).1 a (splF f (bestF f a (b - a) 12).1 a (b - a)).2 := ⟨_, rfl⟩
      obtain ⟨q2, hq2⟩ : ∃ q2, q2 = quoF fd q1.2 (splF f (bestF f a (b - a) 12).1 a (b - a)).2 b := ⟨_, rfl⟩
      have hfin : q = (1 + kmax q1.1 q2.1, q2.2) := by rw [hq, hfd, quoF_n c_11, hq2, hq1]
      refine lv_istore (lv' := [(5, .int (nI (splF f ((bestF f a (b - a) 12).1) a (b - a)).2)), (4, .int ((bestF f a (b - a) 12).1)), (0, .ref h), (1, .int (nI a)), (2, .int (nI b)), (3, .int 7)]) hx hb dX0_questionsUntilOne_30 hl (by decide) rfl (fun ls hl => ?_)
      refine lv_aload_n hx hb dX0_questionsUntilOne_32 rfl (lv_at hl 2 rfl) ?_
      refine lv_iload_n hx hb dX0_questionsUntilOne_33 rfl (lv_at hl 3 rfl) ?_
      refine lv_iload hx hb dX0_questionsUntilOne_34 (lv_at hl 0 rfl) ?_
      refine lv_iload_n hx hb dX0_questionsUntilOne_36 rfl (lv_at hl 5 rfl) ?_
      refine lv_iconst (v := 1) hx hb dX0_questionsUntilOne_37 (by decide) ?_
      refine lv_iadd hx hb dX0_questionsUntilOne_38 ?_
      refine lv_topi (fun nv_3 ev_3 => ?_)
      obtain rfl : nv_3 = 8 := ev_3.trans (by decide)
      refine kGo (wc := [(h, .inl (cI, LN, .inl ((splF f ((bestF f a (b - a) 12).1) a (b - a)).1)))]) (wr := []) (va_runS (As := [.ref h, .int (nI a), .int (nI (splF f ((bestF f a (b - a) 12).1) a (b - a)).2), .int 8]) (rest := []) ⟨hx, hb, hml, hown, hts⟩ (c_X0_quo_8 l D cI cJ cZ cO h LN ((splF f ((bestF f a (b - a) 12).1) a (b - a)).1) a ((splF f ((bestF f a (b - a) 12).1) a (b - a)).2) fd q1 (by first | assumption | omega | decide) (by first | assumption | omega | decide) (by first | assumption | omega | decide) (by omega) (hq1) _) (va_cwS 4 hts gX0_questionsUntilOne_X0_questionsUntilOne rfl rfl rfl (by decide +kernel) ⟨Nat.le_of_ble_eq_true rfl, Nat.le_of_ble_eq_true rfl⟩) (kPreS hK (kPc_sub hP [0] rfl) ((hD.sub [0] (by decide) rfl).weaken (fun _ _ _ _ => trivial))) rfl rfl hl.1 rfl (lv_room (Nat.le_of_ble_eq_true rfl)) dX0_questionsUntilOne_39 ⟨Nat.le_of_ble_eq_true rfl, Nat.le_of_ble_eq_true rfl⟩) hP hD hS hA [0] [] rfl rfl (by decide) (by decide) (fun v_4 w_4 H locs hv_4 hP hD hS => ?_)
      obtain ⟨rfl, rfl⟩ := hv_4
      have hP : va_P D vwCl [(h, .inl (cI, LN, .inl q1.2))] H := hP.sub [0] rfl
      have hD : va_D _ [(h, .inl (cI, LN, .inl q1.2))] := hD.sub [0] (by decide) rfl
      refine W.eq (g2 := F0 m 42 ls [.int q1.1]) rfl ?_
      refine lv_istore (lv' := [(6, .int q1.1), (5, .int (nI (splF f ((bestF f a (b - a) 12).1) a (b - a)).2)), (4, .int ((bestF f a (b - a) 12).1)), (0, .ref h), (1, .int (nI a)), (2, .int (nI b)), (3, .int 7)]) hx hb dX0_questionsUntilOne_42 hl (by decide) rfl (fun ls hl => ?_)
      refine lv_aload_n hx hb dX0_questionsUntilOne_44 rfl (lv_at hl 3 rfl) ?_
      refine lv_iload hx hb dX0_questionsUntilOne_45 (lv_at hl 1 rfl) ?_
      refine lv_iload_n hx hb dX0_questionsUntilOne_47 rfl (lv_at hl 5 rfl) ?_
      refine lv_iload_n hx hb dX0_questionsUntilOne_48 rfl (lv_at hl 6 rfl) ?_
      refine lv_iconst (v := 1) hx hb dX0_questionsUntilOne_49 (by decide) ?_
      refine lv_iadd hx hb dX0_questionsUntilOne_50 ?_
      refine lv_topi (fun nv_5 ev_5 => ?_)
      obtain rfl : nv_5 = 8 := ev_5.trans (by decide)
      refine kGo (wc := [(h, .inl (cI, LN, .inl q1.2))]) (wr := []) (va_runS (As := [.ref h, .int (nI (splF f ((bestF f a (b - a) 12).1) a (b - a)).2), .int (nI b), .int 8]) (rest := []) ⟨hx, hb, hml, hown, hts⟩ (c_X0_quo_8 l D cI cJ cZ cO h LN q1.2 ((splF f ((bestF f a (b - a) 12).1) a (b - a)).2) b fd q2 (by first | assumption | omega | decide) (by first | assumption | omega | decide) (by first | assumption | omega | decide) (by omega) (hq2) _) (va_cwS 4 hts gX0_questionsUntilOne_X0_questionsUntilOne rfl rfl rfl (by decide +kernel) ⟨Nat.le_of_ble_eq_true rfl, Nat.le_of_ble_eq_true rfl⟩) (kPreS hK (kPc_sub hP [0] rfl) ((hD.sub [0] (by decide) rfl).weaken (fun _ _ _ _ => trivial))) rfl rfl hl.1 rfl (lv_room (Nat.le_of_ble_eq_true rfl)) dX0_questionsUntilOne_51 ⟨Nat.le_of_ble_eq_true rfl, Nat.le_of_ble_eq_true rfl⟩) hP hD hS hA [0] [] rfl rfl (by decide) (by decide) (fun v_6 w_6 H locs hv_6 hP hD hS => ?_)
      obtain ⟨rfl, rfl⟩ := hv_6
      have hP : va_P D vwCl [(h, .inl (cI, LN, .inl q2.2))] H := hP.sub [0] rfl
      have hD : va_D _ [(h, .inl (cI, LN, .inl q2.2))] := hD.sub [0] (by decide) rfl
      refine W.eq (g2 := F0 m 54 ls [.int q2.1]) rfl ?_
      refine lv_istore (lv' := [(7, .int q2.1), (6, .int q1.1), (5, .int (nI (splF f ((bestF f a (b - a) 12).1) a (b - a)).2)), (4, .int ((bestF f a (b - a) 12).1)), (0, .ref h), (1, .int (nI a)), (2, .int (nI b)), (3, .int 7)]) hx hb dX0_questionsUntilOne_54 hl (by decide) rfl (fun ls hl => ?_)
      refine lv_iconst (v := 1) hx hb dX0_questionsUntilOne_56 (by decide) ?_
      refine lv_iload hx hb dX0_questionsUntilOne_57 (lv_at hl 1 rfl) ?_
      refine lv_iload hx hb dX0_questionsUntilOne_59 (lv_at hl 0 rfl) ?_
      refine va_mmax hx hb (by rw [hml]; exact hl.1.symm) hown hw_m47 hw_stmax hw_iM hw_cMmax (Nat.le_of_ble_eq_true rfl) (Nat.le_of_ble_eq_true rfl) (Nat.le_of_ble_eq_true rfl) (Nat.le_of_ble_eq_true rfl) dX0_questionsUntilOne_61 ?_
      refine W.eq (g2 := F0 m 64 ls [.int (kmax q1.1 q2.1), .int 1]) rfl ?_
      refine lv_iadd hx hb dX0_questionsUntilOne_64 ?_
      have ew_0 : (q2.2 : Nat → Int32) = q.2 := by first | (rw [hfin]; done) | (have hz : q = (0, f) := (by obtain ⟨fd, hfd⟩ : ∃ fd, fq = fd + 1 := (⟨fq - 1, (by omega)⟩); rw [hq, hfd]; exact quoF_p c_11); rw [hz])
      exact kRetI hx hb hr hlk dX0_questionsUntilOne_65 hP hD hS (Nat.le_of_ble_eq_true rfl) (Nat.le_of_ble_eq_true rfl) ⟨(kpi (by first | (rw [hfin]; done) | (have hz : q = (0, f) := (by obtain ⟨fd, hfd⟩ : ∃ fd, fq = fd + 1 := (⟨fq - 1, (by omega)⟩); rw [hq, hfd]; exact quoF_p c_11); rw [hz]))), (kw1 (fun (z_0 : Nat → Int32) => ([(h, .inl (cI, LN, .inl z_0))] : va_W)) ew_0)⟩
    · exact absurd (by decide) c_17

set_option maxHeartbeats 4000000 in
set_option maxRecDepth 100000 in
theorem c_X0_quo_6 (l : Launch) (D : va_G) (cI cJ cZ cO : ClassId) (h : Nat) (LN : Nat) (f : Nat → Int32) (a : Nat) (b : Nat) (fq : Nat) (q : Int32 × (Nat → Int32)) (hL : LN ≤ 4096) (hab : a ≤ b) (hb2 : b ≤ LN) (hfu : fq = 12 - 6) (hq : q = quoF fq f a b) : kC l D (kTY cI cJ cZ cO) yX0_questionsUntilOne wsX0_questionsUntilOne 9 235 0 0 [.ref h, .int (nI a), .int (nI b), .int 6] [(h, .inl (cI, LN, .inl f))] (fun rv_ rw_ => rv_ = some (.int q.1) ∧ rw_ = [(h, .inl (cI, LN, .inl q.2))]) := by
  refine kEnter (cc := cX0_questionsUntilOne) (maxL := 8) (ret := (some .int)) (by decide) rfl (Nat.le_of_ble_eq_true rfl) ?_
  intro p e s m args below meth c hx hb hr hml hts hown hlk hnm hK hP hD hS hA ls hl
  have hl : lv_has ls 8 [(0, .ref h), (1, .int (nI a)), (2, .int (nI b)), (3, .int 6)] := hl
  have hw_m47 := hts (.methodLink RX0 47 Lib.Math.max.name) (by decide +kernel)
  have hw_stmax := hts (.static Lib.Math.max.name) (by decide +kernel)
  have hw_iM := hts (.initialized "java/lang/Math") (by decide +kernel)
  have hw_cMmax := hts (.code Lib.Math.max.name Lib.Math.max.code 2 (some .int)) (by decide +kernel)
  refine lv_aload_n hx hb dX0_questionsUntilOne_0 rfl (lv_at hl 0 rfl) ?_
  refine lv_iload_n hx hb dX0_questionsUntilOne_1 rfl (lv_at hl 1 rfl) ?_
  refine lv_iload_n hx hb dX0_questionsUntilOne_2 rfl (lv_at hl 2 rfl) ?_
  refine kGoR (va_runS (As := [.ref h, .int (nI a), .int (nI b)]) (rest := []) ⟨hx, hb, hml, hown, hts⟩ (c_X0_bestTopic l D cI cJ cZ cO h LN f a b (by first | assumption | omega | decide) (by first | assumption | omega | decide) (by first | assumption | omega | decide)) (va_cwS 3 hts gX0_questionsUntilOne_X0_bestTopic rfl rfl rfl (by decide +kernel) ⟨Nat.le_of_ble_eq_true rfl, Nat.le_of_ble_eq_true rfl⟩) (kPreSR hK (kPc_sub hP [0] rfl)) rfl rfl hl.1 rfl (lv_room (Nat.le_of_ble_eq_true rfl)) dX0_questionsUntilOne_3 ⟨Nat.le_of_ble_eq_true rfl, Nat.le_of_ble_eq_true rfl⟩) (fun v_1 hv_1 => ?_)
  obtain rfl := hv_1
  refine W.eq (g2 := F0 m 6 ls [.int ((bestF f a (b - a) 12).1)]) rfl ?_
  refine lv_istore (lv' := [(4, .int ((bestF f a (b - a) 12).1)), (0, .ref h), (1, .int (nI a)), (2, .int (nI b)), (3, .int 6)]) hx hb dX0_questionsUntilOne_6 hl (by decide) rfl (fun ls hl => ?_)
  refine lv_iload hx hb dX0_questionsUntilOne_8 (lv_at hl 0 rfl) ?_
  refine lv_iconst (v := (-1)) hx hb dX0_questionsUntilOne_10 (by decide) ?_
  refine lv_icmp_eq (tgt := 20) hx hb dX0_questionsUntilOne_11 (by decide) (fun c_11 => ?_) (fun c_11 => ?_)
  · skip
    refine lv_iconst (v := 0) hx hb dX0_questionsUntilOne_20 (by decide) ?_
    have ew_0 : (f : Nat → Int32) = q.2 := by first | (rw [hfin]; done) | (have hz : q = (0, f) := (by obtain ⟨fd, hfd⟩ : ∃ fd, fq = fd + 1 := (⟨fq - 1, (by omega)⟩); rw [hq, hfd]; exact quoF_p c_11); rw [hz])
    exact kRetI hx hb hr hlk dX0_questionsUntilOne_21 hP hD hS (Nat.le_of_ble_eq_true rfl) (Nat.le_of_ble_eq_true rfl) ⟨(kpi (by first | (rw [hfin]; done) | (have hz : q = (0, f) := (by obtain ⟨fd, hfd⟩ : ∃ fd, fq = fd + 1 := (⟨fq - 1, (by omega)⟩); rw [hq, hfd]; exact quoF_p c_11); rw [hz]))), (kw1 (fun (z_0 : Nat → Int32) => ([(h, .inl (cI, LN, .inl z_0))] : va_W)) ew_0)⟩
  · skip
    refine lv_iload_n hx hb dX0_questionsUntilOne_14 rfl (lv_at hl 4 rfl) ?_
    refine lv_bipush (v := 12) hx hb dX0_questionsUntilOne_15 (by decide) ?_
    refine lv_icmp_lt (tgt := 22) hx hb dX0_questionsUntilOne_17 (by decide) (fun c_17 => ?_) (fun c_17 => ?_)
    · skip
      refine lv_aload_n hx hb dX0_questionsUntilOne_22 rfl (lv_at hl 1 rfl) ?_
      refine lv_iload_n hx hb dX0_questionsUntilOne_23 rfl (lv_at hl 2 rfl) ?_
      refine lv_iload_n hx hb dX0_questionsUntilOne_24 rfl (lv_at hl 3 rfl) ?_
      refine lv_iload hx hb dX0_questionsUntilOne_25 (lv_at hl 0 rfl) ?_
      refine kGo (wc := [(h, .inl (cI, LN, .inl f))]) (wr := []) (va_runS (As := [.ref h, .int (nI a), .int (nI b), .int ((bestF f a (b - a) 12).1)]) (rest := []) ⟨hx, hb, hml, hown, hts⟩ (c_X0_split l D cI cJ cZ cO h LN f a b ((bestF f a (b - a) 12).1) (by first | assumption | omega | decide) (by first | assumption | omega | decide) (by first | assumption | omega | decide) _) (va_cwS 4 hts gX0_questionsUntilOne_X0_split rfl rfl rfl (by decide +kernel) ⟨Nat.le_of_ble_eq_true rfl, Nat.le_of_ble_eq_true rfl⟩) (kPreS hK (kPc_sub hP [0] rfl) ((hD.sub [0] (by decide) rfl).weaken (fun _ _ _ _ => trivial))) rfl rfl hl.1 rfl (lv_room (Nat.le_of_ble_eq_true rfl)) dX0_questionsUntilOne_27 ⟨Nat.le_of_ble_eq_true rfl, Nat.le_of_ble_eq_true rfl⟩) hP hD hS hA [0] [] rfl rfl (by decide) (by decide) (fun v_2 w_2 H locs hv_2 hP hD hS => ?_)
      obtain ⟨rfl, rfl⟩ := hv_2
      have hP : va_P D vwCl [(h, .inl (cI, LN, .inl ((splF f ((bestF f a (b - a) 12).1) a (b - a)).1)))] H := hP.sub [0] rfl
      have hD : va_D _ [(h, .inl (cI, LN, .inl ((splF f ((bestF f a (b - a) 12).1) a (b - a)).1)))] := hD.sub [0] (by decide) rfl
      refine W.eq (g2 := F0 m 30 ls [.int (nI (splF f ((bestF f a (b - a) 12).1) a (b - a)).2)]) rfl ?_
      have hs1 := splF_ge f (bestF f a (b - a) 12).1 a (b - a)
      have hs2 := splF_le f (bestF f a (b - a) 12).1 a (b - a)
      obtain ⟨fd, hfd⟩ : ∃ fd, fq = fd + 1 := ⟨fq - 1, by omega⟩
      obtain ⟨q1, hq1⟩ : ∃ q1, q1 = quoF fd (splF f (bestF f a (b - a) 12).1 a (b - a)).1 a (splF f (bestF f a (b - a) 12).1 a (b - a)).2 := ⟨_, rfl⟩
      obtain ⟨q2, hq2⟩ : ∃ q2, q2 = quoF fd q1.2 (splF f (bestF f a (b - a) 12).1 a (b - a)).2 b := ⟨_, rfl⟩
      have hfin : q = (1 + kmax q1.1 q2.1, q2.2) := by rw [hq, hfd, quoF_n c_11, hq2, hq1]
      refine lv_istore (lv' := [(5, .int (nI (splF f ((bestF f a (b - a) 12).1) a (b - a)).2)), (4, .int ((bestF f a (b - a) 12).1)), (0, .ref h), (1, .int (nI a)), (2, .int (nI b)), (3, .int 6)]) hx hb dX0_questionsUntilOne_30 hl (by decide) rfl (fun ls hl => ?_)
      refine lv_aload_n hx hb dX0_questionsUntilOne_32 rfl (lv_at hl 2 rfl) ?_
      refine lv_iload_n hx hb dX0_questionsUntilOne_33 rfl (lv_at hl 3 rfl) ?_
      refine lv_iload hx hb dX0_questionsUntilOne_34 (lv_at hl 0 rfl) ?_
      refine lv_iload_n hx hb dX0_questionsUntilOne_36 rfl (lv_at hl 5 rfl) ?_
      refine lv_iconst (v := 1) hx hb dX0_questionsUntilOne_37 (by decide) ?_
      refine lv_iadd hx hb dX0_questionsUntilOne_38 ?_
      refine lv_topi (fun nv_3 ev_3 => ?_)
      obtain rfl : nv_3 = 7 := ev_3.trans (by decide)
      refine kGo (wc := [(h, .inl (cI, LN, .inl ((splF f ((bestF f a (b - a) 12).1) a (b - a)).1)))]) (wr := []) (va_runS (As := [.ref h, .int (nI a), .int (nI (splF f ((bestF f a (b - a) 12).1) a (b - a)).2), .int 7]) (rest := []) ⟨hx, hb, hml, hown, hts⟩ (c_X0_quo_7 l D cI cJ cZ cO h LN ((splF f ((bestF f a (b - a) 12).1) a (b - a)).1) a ((splF f ((bestF f a (b - a) 12).1) a (b - a)).2) fd q1 (by first | assumption | omega | decide) (by first | assumption | omega | decide) (by first | assumption | omega | decide) (by omega) (hq1) _) (va_cwS 4 hts gX0_questionsUntilOne_X0_questionsUntilOne rfl rfl rfl (by decide +kernel) ⟨Nat.le_of_ble_eq_true rfl, Nat.le_of_ble_eq_true rfl⟩) (kPreS hK (kPc_sub hP [0] rfl) ((hD.sub [0] (by decide) rfl).weaken (fun _ _ _ _ => trivial))) rfl rfl hl.1 rfl (lv_room (Nat.le_of_ble_eq_true rfl)) dX0_questionsUntilOne_39 ⟨Nat.le_of_ble_eq_true rfl, Nat.le_of_ble_eq_true rfl⟩) hP hD hS hA [0] [] rfl rfl (by decide) (by decide) (fun v_4 w_4 H locs hv_4 hP hD hS => ?_)
      obtain ⟨rfl, rfl⟩ := hv_4
      have hP : va_P D vwCl [(h, .inl (cI, LN, .inl q1.2))] H := hP.sub [0] rfl
      have hD : va_D _ [(h, .inl (cI, LN, .inl q1.2))] := hD.sub [0] (by decide) rfl
      refine W.eq (g2 := F0 m 42 ls [.int q1.1]) rfl ?_
      refine lv_istore (lv' := [(6, .int q1.1), (5, .int (nI (splF f ((bestF f a (b - a) 12).1) a (b - a)).2)), (4, .int ((bestF f a (b - a) 12).1)), (0, .ref h), (1, .int (nI a)), (2, .int (nI b)), (3, .int 6)]) hx hb dX0_questionsUntilOne_42 hl (by decide) rfl (fun ls hl => ?_)
      refine lv_aload_n hx hb dX0_questionsUntilOne_44 rfl (lv_at hl 3 rfl) ?_
      refine lv_iload hx hb dX0_questionsUntilOne_45 (lv_at hl 1 rfl) ?_
      refine lv_iload_n hx hb dX0_questionsUntilOne_47 rfl (lv_at hl 5 rfl) ?_
      refine lv_iload_n hx hb dX0_questionsUntilOne_48 rfl (lv_at hl 6 rfl) ?_
      refine lv_iconst (v := 1) hx hb dX0_questionsUntilOne_49 (by decide) ?_
      refine lv_iadd hx hb dX0_questionsUntilOne_50 ?_
      refine lv_topi (fun nv_5 ev_5 => ?_)
      obtain rfl : nv_5 = 7 := ev_5.trans (by decide)
      refine kGo (wc := [(h, .inl (cI, LN, .inl q1.2))]) (wr := []) (va_runS (As := [.ref h, .int (nI (splF f ((bestF f a (b - a) 12).1) a (b - a)).2), .int (nI b), .int 7]) (rest := []) ⟨hx, hb, hml, hown, hts⟩ (c_X0_quo_7 l D cI cJ cZ cO h LN q1.2 ((splF f ((bestF f a (b - a) 12).1) a (b - a)).2) b fd q2 (by first | assumption | omega | decide) (by first | assumption | omega | decide) (by first | assumption | omega | decide) (by omega) (hq2) _) (va_cwS 4 hts gX0_questionsUntilOne_X0_questionsUntilOne rfl rfl rfl (by decide +kernel) ⟨Nat.le_of_ble_eq_true rfl, Nat.le_of_ble_eq_true rfl⟩) (kPreS hK (kPc_sub hP [0] rfl) ((hD.sub [0] (by decide) rfl).weaken (fun _ _ _ _ => trivial))) rfl rfl hl.1 rfl (lv_room (Nat.le_of_ble_eq_true rfl)) dX0_questionsUntilOne_51 ⟨Nat.le_of_ble_eq_true rfl, Nat.le_of_ble_eq_true rfl⟩) hP hD hS hA [0] [] rfl rfl (by decide) (by decide) (fun v_6 w_6 H locs hv_6 hP hD hS => ?_)
      obtain ⟨rfl, rfl⟩ := hv_6
      have hP : va_P D vwCl [(h, .inl (cI, LN, .inl q2.2))] H := hP.sub [0] rfl
      have hD : va_D _ [(h, .inl (cI, LN, .inl q2.2))] := hD.sub [0] (by decide) rfl
      refine W.eq (g2 := F0 m 54 ls [.int q2.1]) rfl ?_
      refine lv_istore (lv' := [(7, .int q2.1), (6, .int q1.1), (5, .int (nI (splF f ((bestF f a (b - a) 12).1) a (b - a)).2)), (4, .int ((bestF f a (b - a) 12).1)), (0, .ref h), (1, .int (nI a)), (2, .int (nI b)), (3, .int 6)]) hx hb dX0_questionsUntilOne_54 hl (by decide) rfl (fun ls hl => ?_)
      refine lv_iconst (v := 1) hx hb dX0_questionsUntilOne_56 (by decide) ?_
      refine lv_iload hx hb dX0_questionsUntilOne_57 (lv_at hl 1 rfl) ?_
      refine lv_iload hx hb dX0_questionsUntilOne_59 (lv_at hl 0 rfl) ?_
      refine va_mmax hx hb (by rw [hml]; exact hl.1.symm) hown hw_m47 hw_stmax hw_iM hw_cMmax (Nat.le_of_ble_eq_true rfl) (Nat.le_of_ble_eq_true rfl) (Nat.le_of_ble_eq_true rfl) (Nat.le_of_ble_eq_true rfl) dX0_questionsUntilOne_61 ?_
      refine W.eq (g2 := F0 m 64 ls [.int (kmax q1.1 q2.1), .int 1]) rfl ?_
      refine lv_iadd hx hb dX0_questionsUntilOne_64 ?_
      have ew_0 : (q2.2 : Nat → Int32) = q.2 := by first | (rw [hfin]; done) | (have hz : q = (0, f) := (by obtain ⟨fd, hfd⟩ : ∃ fd, fq = fd + 1 := (⟨fq - 1, (by omega)⟩); rw [hq, hfd]; exact quoF_p c_11); rw [hz])
      exact kRetI hx hb hr hlk dX0_questionsUntilOne_65 hP hD hS (Nat.le_of_ble_eq_true rfl) (Nat.le_of_ble_eq_true rfl) ⟨(kpi (by first | (rw [hfin]; done) | (have hz : q = (0, f) := (by obtain ⟨fd, hfd⟩ : ∃ fd, fq = fd + 1 := (⟨fq - 1, (by omega)⟩); rw [hq, hfd]; exact quoF_p c_11); rw [hz]))), (kw1 (fun (z_0 : Nat → Int32) => ([(h, .inl (cI, LN, .inl z_0))] : va_W)) ew_0)⟩
    · exact absurd (by decide) c_17

set_option maxHeartbeats 4000000 in
set_option maxRecDepth 100000 in
theorem c_X0_quo_5 (l : Launch) (D : va_G) (cI cJ cZ cO : ClassId) (h : Nat) (LN : Nat) (f : Nat → Int32) (a : Nat) (b : Nat) (fq : Nat) (q : Int32 × (Nat → Int32)) (hL : LN ≤ 4096) (hab : a ≤ b) (hb2 : b ≤ LN) (hfu : fq = 12 - 5) (hq : q = quoF fq f a b) : kC l D (kTY cI cJ cZ cO) yX0_questionsUntilOne wsX0_questionsUntilOne 10 262 0 0 [.ref h, .int (nI a), .int (nI b), .int 5] [(h, .inl (cI, LN, .inl f))] (fun rv_ rw_ => rv_ = some (.int q.1) ∧ rw_ = [(h, .inl (cI, LN, .inl q.2))]) := by
  refine kEnter (cc := cX0_questionsUntilOne) (maxL := 8) (ret := (some .int)) (by decide) rfl (Nat.le_of_ble_eq_true rfl) ?_
  intro p e s m args below meth c hx hb hr hml hts hown hlk hnm hK hP hD hS hA ls hl
  have hl : lv_has ls 8 [(0, .ref h), (1, .int (nI a)), (2, .int (nI b)), (3, .int 5)] := hl
  have hw_m47 := hts (.methodLink RX0 47 Lib.Math.max.name) (by decide +kernel)
  have hw_stmax := hts (.static Lib.Math.max.name) (by decide +kernel)
  have hw_iM := hts (.initialized "java/lang/Math") (by decide +kernel)
  have hw_cMmax := hts (.code Lib.Math.max.name Lib.Math.max.code 2 (some .int)) (by decide +kernel)
  refine lv_aload_n hx hb dX0_questionsUntilOne_0 rfl (lv_at hl 0 rfl) ?_
  refine lv_iload_n hx hb dX0_questionsUntilOne_1 rfl (lv_at hl 1 rfl) ?_
  refine lv_iload_n hx hb dX0_questionsUntilOne_2 rfl (lv_at hl 2 rfl) ?_
  refine kGoR (va_runS (As := [.ref h, .int (nI a), .int (nI b)]) (rest := []) ⟨hx, hb, hml, hown, hts⟩ (c_X0_bestTopic l D cI cJ cZ cO h LN f a b (by first | assumption | omega | decide) (by first | assumption | omega | decide) (by first | assumption | omega | decide)) (va_cwS 3 hts gX0_questionsUntilOne_X0_bestTopic rfl rfl rfl (by decide +kernel) ⟨Nat.le_of_ble_eq_true rfl, Nat.le_of_ble_eq_true rfl⟩) (kPreSR hK (kPc_sub hP [0] rfl)) rfl rfl hl.1 rfl (lv_room (Nat.le_of_ble_eq_true rfl)) dX0_questionsUntilOne_3 ⟨Nat.le_of_ble_eq_true rfl, Nat.le_of_ble_eq_true rfl⟩) (fun v_1 hv_1 => ?_)
  obtain rfl := hv_1
  refine W.eq (g2 := F0 m 6 ls [.int ((bestF f a (b - a) 12).1)]) rfl ?_
  refine lv_istore (lv' := [(4, .int ((bestF f a (b - a) 12).1)), (0, .ref h), (1, .int (nI a)), (2, .int (nI b)), (3, .int 5)]) hx hb dX0_questionsUntilOne_6 hl (by decide) rfl (fun ls hl => ?_)
  refine lv_iload hx hb dX0_questionsUntilOne_8 (lv_at hl 0 rfl) ?_
  refine lv_iconst (v := (-1)) hx hb dX0_questionsUntilOne_10 (by decide) ?_
  refine lv_icmp_eq (tgt := 20) hx hb dX0_questionsUntilOne_11 (by decide) (fun c_11 => ?_) (fun c_11 => ?_)
  · skip
    refine lv_iconst (v := 0) hx hb dX0_questionsUntilOne_20 (by decide) ?_
    have ew_0 : (f : Nat → Int32) = q.2 := by first | (rw [hfin]; done) | (have hz : q = (0, f) := (by obtain ⟨fd, hfd⟩ : ∃ fd, fq = fd + 1 := (⟨fq - 1, (by omega)⟩); rw [hq, hfd]; exact quoF_p c_11); rw [hz])
    exact kRetI hx hb hr hlk dX0_questionsUntilOne_21 hP hD hS (Nat.le_of_ble_eq_true rfl) (Nat.le_of_ble_eq_true rfl) ⟨(kpi (by first | (rw [hfin]; done) | (have hz : q = (0, f) := (by obtain ⟨fd, hfd⟩ : ∃ fd, fq = fd + 1 := (⟨fq - 1, (by omega)⟩); rw [hq, hfd]; exact quoF_p c_11); rw [hz]))), (kw1 (fun (z_0 : Nat → Int32) => ([(h, .inl (cI, LN, .inl z_0))] : va_W)) ew_0)⟩
  · skip
    refine lv_iload_n hx hb dX0_questionsUntilOne_14 rfl (lv_at hl 4 rfl) ?_
    refine lv_bipush (v := 12) hx hb dX0_questionsUntilOne_15 (by decide) ?_
    refine lv_icmp_lt (tgt := 22) hx hb dX0_questionsUntilOne_17 (by decide) (fun c_17 => ?_) (fun c_17 => ?_)
    · skip
      refine lv_aload_n hx hb dX0_questionsUntilOne_22 rfl (lv_at hl 1 rfl) ?_
      refine lv_iload_n hx hb dX0_questionsUntilOne_23 rfl (lv_at hl 2 rfl) ?_
      refine lv_iload_n hx hb dX0_questionsUntilOne_24 rfl (lv_at hl 3 rfl) ?_
      refine lv_iload hx hb dX0_questionsUntilOne_25 (lv_at hl 0 rfl) ?_
      refine kGo (wc := [(h, .inl (cI, LN, .inl f))]) (wr := []) (va_runS (As := [.ref h, .int (nI a), .int (nI b), .int ((bestF f a (b - a) 12).1)]) (rest := []) ⟨hx, hb, hml, hown, hts⟩ (c_X0_split l D cI cJ cZ cO h LN f a b ((bestF f a (b - a) 12).1) (by first | assumption | omega | decide) (by first | assumption | omega | decide) (by first | assumption | omega | decide) _) (va_cwS 4 hts gX0_questionsUntilOne_X0_split rfl rfl rfl (by decide +kernel) ⟨Nat.le_of_ble_eq_true rfl, Nat.le_of_ble_eq_true rfl⟩) (kPreS hK (kPc_sub hP [0] rfl) ((hD.sub [0] (by decide) rfl).weaken (fun _ _ _ _ => trivial))) rfl rfl hl.1 rfl (lv_room (Nat.le_of_ble_eq_true rfl)) dX0_questionsUntilOne_27 ⟨Nat.le_of_ble_eq_true rfl, Nat.le_of_ble_eq_true rfl⟩) hP hD hS hA [0] [] rfl rfl (by decide) (by decide) (fun v_2 w_2 H locs hv_2 hP hD hS => ?_)
      obtain ⟨rfl, rfl⟩ := hv_2
      have hP : va_P D vwCl [(h, .inl (cI, LN, .inl ((splF f ((bestF f a (b - a) 12).1) a (b - a)).1)))] H := hP.sub [0] rfl
      have hD : va_D _ [(h, .inl (cI, LN, .inl ((splF f ((bestF f a (b - a) 12).1) a (b - a)).1)))] := hD.sub [0] (by decide) rfl
      refine W.eq (g2 := F0 m 30 ls [.int (nI (splF f ((bestF f a (b - a) 12).1) a (b - a)).2)]) rfl ?_
      have hs1 := splF_ge f (bestF f a (b - a) 12).1 a (b - a)
      have hs2 := splF_le f (bestF f a (b - a) 12).1 a (b - a)
      obtain ⟨fd, hfd⟩ : ∃ fd, fq = fd + 1 := ⟨fq - 1, by omega⟩
      obtain ⟨q1, hq1⟩ : ∃ q1, q1 = quoF fd (splF f (bestF f a (b - a) 12).1 a (b - a)).1 a (splF f (bestF f a (b - a) 12).1 a (b - a)).2 := ⟨_, rfl⟩
      obtain ⟨q2, hq2⟩ : ∃ q2, q2 = quoF fd q1.2 (splF f (bestF f a (b - a) 12).1 a (b - a)).2 b := ⟨_, rfl⟩
      have hfin : q = (1 + kmax q1.1 q2.1, q2.2) := by rw [hq, hfd, quoF_n c_11, hq2, hq1]
      refine lv_istore (lv' := [(5, .int (nI (splF f ((bestF f a (b - a) 12).1) a (b - a)).2)), (4, .int ((bestF f a (b - a) 12).1)), (0, .ref h), (1, .int (nI a)), (2, .int (nI b)), (3, .int 5)]) hx hb dX0_questionsUntilOne_30 hl (by decide) rfl (fun ls hl => ?_)
      refine lv_aload_n hx hb dX0_questionsUntilOne_32 rfl (lv_at hl 2 rfl) ?_
      refine lv_iload_n hx hb dX0_questionsUntilOne_33 rfl (lv_at hl 3 rfl) ?_
      refine lv_iload hx hb dX0_questionsUntilOne_34 (lv_at hl 0 rfl) ?_
      refine lv_iload_n hx hb dX0_questionsUntilOne_36 rfl (lv_at hl 5 rfl) ?_
      refine lv_iconst (v := 1) hx hb dX0_questionsUntilOne_37 (by decide) ?_
      refine lv_iadd hx hb dX0_questionsUntilOne_38 ?_
      refine lv_topi (fun nv_3 ev_3 => ?_)
      obtain rfl : nv_3 = 6 := ev_3.trans (by decide)
      refine kGo (wc := [(h, .inl (cI, LN, .inl ((splF f ((bestF f a (b - a) 12).1) a (b - a)).1)))]) (wr := []) (va_runS (As := [.ref h, .int (nI a), .int (nI (splF f ((bestF f a (b - a) 12).1) a (b - a)).2), .int 6]) (rest := []) ⟨hx, hb, hml, hown, hts⟩ (c_X0_quo_6 l D cI cJ cZ cO h LN ((splF f ((bestF f a (b - a) 12).1) a (b - a)).1) a ((splF f ((bestF f a (b - a) 12).1) a (b - a)).2) fd q1 (by first | assumption | omega | decide) (by first | assumption | omega | decide) (by first | assumption | omega | decide) (by omega) (hq1) _) (va_cwS 4 hts gX0_questionsUntilOne_X0_questionsUntilOne rfl rfl rfl (by decide +kernel) ⟨Nat.le_of_ble_eq_true rfl, Nat.le_of_ble_eq_true rfl⟩) (kPreS hK (kPc_sub hP [0] rfl) ((hD.sub [0] (by decide) rfl).weaken (fun _ _ _ _ => trivial))) rfl rfl hl.1 rfl (lv_room (Nat.le_of_ble_eq_true rfl)) dX0_questionsUntilOne_39 ⟨Nat.le_of_ble_eq_true rfl, Nat.le_of_ble_eq_true rfl⟩) hP hD hS hA [0] [] rfl rfl (by decide) (by decide) (fun v_4 w_4 H locs hv_4 hP hD hS => ?_)
      obtain ⟨rfl, rfl⟩ := hv_4
      have hP : va_P D vwCl [(h, .inl (cI, LN, .inl q1.2))] H := hP.sub [0] rfl
      have hD : va_D _ [(h, .inl (cI, LN, .inl q1.2))] := hD.sub [0] (by decide) rfl
      refine W.eq (g2 := F0 m 42 ls [.int q1.1]) rfl ?_
      refine lv_istore (lv' := [(6, .int q1.1), (5, .int (nI (splF f ((bestF f a (b - a) 12).1) a (b - a)).2)), (4, .int ((bestF f a (b - a) 12).1)), (0, .ref h), (1, .int (nI a)), (2, .int (nI b)), (3, .int 5)]) hx hb dX0_questionsUntilOne_42 hl (by decide) rfl (fun ls hl => ?_)
      refine lv_aload_n hx hb dX0_questionsUntilOne_44 rfl (lv_at hl 3 rfl) ?_
      refine lv_iload hx hb dX0_questionsUntilOne_45 (lv_at hl 1 rfl) ?_
      refine lv_iload_n hx hb dX0_questionsUntilOne_47 rfl (lv_at hl 5 rfl) ?_
      refine lv_iload_n hx hb dX0_questionsUntilOne_48 rfl (lv_at hl 6 rfl) ?_
      refine lv_iconst (v := 1) hx hb dX0_questionsUntilOne_49 (by decide) ?_
      refine lv_iadd hx hb dX0_questionsUntilOne_50 ?_
      refine lv_topi (fun nv_5 ev_5 => ?_)
      obtain rfl : nv_5 = 6 := ev_5.trans (by decide)
      refine kGo (wc := [(h, .inl (cI, LN, .inl q1.2))]) (wr := []) (va_runS (As := [.ref h, .int (nI (splF f ((bestF f a (b - a) 12).1) a (b - a)).2), .int (nI b), .int 6]) (rest := []) ⟨hx, hb, hml, hown, hts⟩ (c_X0_quo_6 l D cI cJ cZ cO h LN q1.2 ((splF f ((bestF f a (b - a) 12).1) a (b - a)).2) b fd q2 (by first | assumption | omega | decide) (by first | assumption | omega | decide) (by first | assumption | omega | decide) (by omega) (hq2) _) (va_cwS 4 hts gX0_questionsUntilOne_X0_questionsUntilOne rfl rfl rfl (by decide +kernel) ⟨Nat.le_of_ble_eq_true rfl, Nat.le_of_ble_eq_true rfl⟩) (kPreS hK (kPc_sub hP [0] rfl) ((hD.sub [0] (by decide) rfl).weaken (fun _ _ _ _ => trivial))) rfl rfl hl.1 rfl (lv_room (Nat.le_of_ble_eq_true rfl)) dX0_questionsUntilOne_51 ⟨Nat.le_of_ble_eq_true rfl, Nat.le_of_ble_eq_true rfl⟩) hP hD hS hA [0] [] rfl rfl (by decide) (by decide) (fun v_6 w_6 H locs hv_6 hP hD hS => ?_)
      obtain ⟨rfl, rfl⟩ := hv_6
      have hP : va_P D vwCl [(h, .inl (cI, LN, .inl q2.2))] H := hP.sub [0] rfl
      have hD : va_D _ [(h, .inl (cI, LN, .inl q2.2))] := hD.sub [0] (by decide) rfl
      refine W.eq (g2 := F0 m 54 ls [.int q2.1]) rfl ?_
      refine lv_istore (lv' := [(7, .int q2.1), (6, .int q1.1), (5, .int (nI (splF f ((bestF f a (b - a) 12).1) a (b - a)).2)), (4, .int ((bestF f a (b - a) 12).1)), (0, .ref h), (1, .int (nI a)), (2, .int (nI b)), (3, .int 5)]) hx hb dX0_questionsUntilOne_54 hl (by decide) rfl (fun ls hl => ?_)
      refine lv_iconst (v := 1) hx hb dX0_questionsUntilOne_56 (by decide) ?_
      refine lv_iload hx hb dX0_questionsUntilOne_57 (lv_at hl 1 rfl) ?_
      refine lv_iload hx hb dX0_questionsUntilOne_59 (lv_at hl 0 rfl) ?_
      refine va_mmax hx hb (by rw [hml]; exact hl.1.symm) hown hw_m47 hw_stmax hw_iM hw_cMmax (Nat.le_of_ble_eq_true rfl) (Nat.le_of_ble_eq_true rfl) (Nat.le_of_ble_eq_true rfl) (Nat.le_of_ble_eq_true rfl) dX0_questionsUntilOne_61 ?_
      refine W.eq (g2 := F0 m 64 ls [.int (kmax q1.1 q2.1), .int 1]) rfl ?_
      refine lv_iadd hx hb dX0_questionsUntilOne_64 ?_
      have ew_0 : (q2.2 : Nat → Int32) = q.2 := by first | (rw [hfin]; done) | (have hz : q = (0, f) := (by obtain ⟨fd, hfd⟩ : ∃ fd, fq = fd + 1 := (⟨fq - 1, (by omega)⟩); rw [hq, hfd]; exact quoF_p c_11); rw [hz])
      exact kRetI hx hb hr hlk dX0_questionsUntilOne_65 hP hD hS (Nat.le_of_ble_eq_true rfl) (Nat.le_of_ble_eq_true rfl) ⟨(kpi (by first | (rw [hfin]; done) | (have hz : q = (0, f) := (by obtain ⟨fd, hfd⟩ : ∃ fd, fq = fd + 1 := (⟨fq - 1, (by omega)⟩); rw [hq, hfd]; exact quoF_p c_11); rw [hz]))), (kw1 (fun (z_0 : Nat → Int32) => ([(h, .inl (cI, LN, .inl z_0))] : va_W)) ew_0)⟩
    · exact absurd (by decide) c_17

set_option maxHeartbeats 4000000 in
set_option maxRecDepth 100000 in
theorem c_X0_quo_4 (l : Launch) (D : va_G) (cI cJ cZ cO : ClassId) (h : Nat) (LN : Nat) (f : Nat → Int32) (a : Nat) (b : Nat) (fq : Nat) (q : Int32 × (Nat → Int32)) (hL : LN ≤ 4096) (hab : a ≤ b) (hb2 : b ≤ LN) (hfu : fq = 12 - 4) (hq : q = quoF fq f a b) : kC l D (kTY cI cJ cZ cO) yX0_questionsUntilOne wsX0_questionsUntilOne 11 289 0 0 [.ref h, .int (nI a), .int (nI b), .int 4] [(h, .inl (cI, LN, .inl f))] (fun rv_ rw_ => rv_ = some (.int q.1) ∧ rw_ = [(h, .inl (cI, LN, .inl q.2))]) := by
  refine kEnter (cc := cX0_questionsUntilOne) (maxL := 8) (ret := (some .int)) (by decide) rfl (Nat.le_of_ble_eq_true rfl) ?_
  intro p e s m args below meth c hx hb hr hml hts hown hlk hnm hK hP hD hS hA ls hl
  have hl : lv_has ls 8 [(0, .ref h), (1, .int (nI a)), (2, .int (nI b)), (3, .int 4)] := hl
  have hw_m47 := hts (.methodLink RX0 47 Lib.Math.max.name) (by decide +kernel)
  have hw_stmax := hts (.static Lib.Math.max.name) (by decide +kernel)
  have hw_iM := hts (.initialized "java/lang/Math") (by decide +kernel)
  have hw_cMmax := hts (.code Lib.Math.max.name Lib.Math.max.code 2 (some .int)) (by decide +kernel)
  refine lv_aload_n hx hb dX0_questionsUntilOne_0 rfl (lv_at hl 0 rfl) ?_
  refine lv_iload_n hx hb dX0_questionsUntilOne_1 rfl (lv_at hl 1 rfl) ?_
  refine lv_iload_n hx hb dX0_questionsUntilOne_2 rfl (lv_at hl 2 rfl) ?_
  refine kGoR (va_runS (As := [.ref h, .int (nI a), .int (nI b)]) (rest := []) ⟨hx, hb, hml, hown, hts⟩ (c_X0_bestTopic l D cI cJ cZ cO h LN f a b (by first | assumption | omega | decide) (by first | assumption | omega | decide) (by first | assumption | omega | decide)) (va_cwS 3 hts gX0_questionsUntilOne_X0_bestTopic rfl rfl rfl (by decide +kernel) ⟨Nat.le_of_ble_eq_true rfl, Nat.le_of_ble_eq_true rfl⟩) (kPreSR hK (kPc_sub hP [0] rfl)) rfl rfl hl.1 rfl (lv_room (Nat.le_of_ble_eq_true rfl)) dX0_questionsUntilOne_3 ⟨Nat.le_of_ble_eq_true rfl, Nat.le_of_ble_eq_true rfl⟩) (fun v_1 hv_1 => ?_)
  obtain rfl := hv_1
  refine W.eq (g2 := F0 m 6 ls [.int ((bestF f a (b - a) 12).1)]) rfl ?_
  refine lv_istore (lv' := [(4, .int ((bestF f a (b - a) 12).1)), (0, .ref h), (1, .int (nI a)), (2, .int (nI b)), (3, .int 4)]) hx hb dX0_questionsUntilOne_6 hl (by decide) rfl (fun ls hl => ?_)
  refine lv_iload hx hb dX0_questionsUntilOne_8 (lv_at hl 0 rfl) ?_
  refine lv_iconst (v := (-1)) hx hb dX0_questionsUntilOne_10 (by decide) ?_
  refine lv_icmp_eq (tgt := 20) hx hb dX0_questionsUntilOne_11 (by decide) (fun c_11 => ?_) (fun c_11 => ?_)
  · skip
    refine lv_iconst (v := 0) hx hb dX0_questionsUntilOne_20 (by decide) ?_
    have ew_0 : (f : Nat → Int32) = q.2 := by first | (rw [hfin]; done) | (have hz : q = (0, f) := (by obtain ⟨fd, hfd⟩ : ∃ fd, fq = fd + 1 := (⟨fq - 1, (by omega)⟩); rw [hq, hfd]; exact quoF_p c_11); rw [hz])
    exact kRetI hx hb hr hlk dX0_questionsUntilOne_21 hP hD hS (Nat.le_of_ble_eq_true rfl) (Nat.le_of_ble_eq_true rfl) ⟨(kpi (by first | (rw [hfin]; done) | (have hz : q = (0, f) := (by obtain ⟨fd, hfd⟩ : ∃ fd, fq = fd + 1 := (⟨fq - 1, (by omega)⟩); rw [hq, hfd]; exact quoF_p c_11); rw [hz]))), (kw1 (fun (z_0 : Nat → Int32) => ([(h, .inl (cI, LN, .inl z_0))] : va_W)) ew_0)⟩
  · skip
    refine lv_iload_n hx hb dX0_questionsUntilOne_14 rfl (lv_at hl 4 rfl) ?_
    refine lv_bipush (v := 12) hx hb dX0_questionsUntilOne_15 (by decide) ?_
    refine lv_icmp_lt (tgt := 22) hx hb dX0_questionsUntilOne_17 (by decide) (fun c_17 => ?_) (fun c_17 => ?_)
    · skip
      refine lv_aload_n hx hb dX0_questionsUntilOne_22 rfl (lv_at hl 1 rfl) ?_
      refine lv_iload_n hx hb dX0_questionsUntilOne_23 rfl (lv_at hl 2 rfl) ?_
      refine lv_iload_n hx hb dX0_questionsUntilOne_24 rfl (lv_at hl 3 rfl) ?_
      refine lv_iload hx hb dX0_questionsUntilOne_25 (lv_at hl 0 rfl) ?_
      refine kGo (wc := [(h, .inl (cI, LN, .inl f))]) (wr := []) (va_runS (As := [.ref h, .int (nI a), .int (nI b), .int ((bestF f a (b - a) 12).1)]) (rest := []) ⟨hx, hb, hml, hown, hts⟩ (c_X0_split l D cI cJ cZ cO h LN f a b ((bestF f a (b - a) 12).1) (by first | assumption | omega | decide) (by first | assumption | omega | decide) (by first | assumption | omega | decide) _) (va_cwS 4 hts gX0_questionsUntilOne_X0_split rfl rfl rfl (by decide +kernel) ⟨Nat.le_of_ble_eq_true rfl, Nat.le_of_ble_eq_true rfl⟩) (kPreS hK (kPc_sub hP [0] rfl) ((hD.sub [0] (by decide) rfl).weaken (fun _ _ _ _ => trivial))) rfl rfl hl.1 rfl (lv_room (Nat.le_of_ble_eq_true rfl)) dX0_questionsUntilOne_27 ⟨Nat.le_of_ble_eq_true rfl, Nat.le_of_ble_eq_true rfl⟩) hP hD hS hA [0] [] rfl rfl (by decide) (by decide) (fun v_2 w_2 H locs hv_2 hP hD hS => ?_)
      obtain ⟨rfl, rfl⟩ := hv_2
      have hP : va_P D vwCl [(h, .inl (cI, LN, .inl ((splF f ((bestF f a (b - a) 12).1) a (b - a)).1)))] H := hP.sub [0] rfl
      have hD : va_D _ [(h, .inl (cI, LN, .inl ((splF f ((bestF f a (b - a) 12).1) a (b - a)).1)))] := hD.sub [0] (by decide) rfl
      refine W.eq (g2 := F0 m 30 ls [.int (nI (splF f ((bestF f a (b - a) 12).1) a (b - a)).2)]) rfl ?_
      have hs1 := splF_ge f (bestF f a (b - a) 12).1 a (b - a)
      have hs2 := splF_le f (bestF f a (b - a) 12).1 a (b - a)
      obtain ⟨fd, hfd⟩ : ∃ fd, fq = fd + 1 := ⟨fq - 1, by omega⟩
      obtain ⟨q1, hq1⟩ : ∃ q1, q1 = quoF fd (splF f (bestF f a (b - a) 12).1 a (b - a)).1 a (splF f (bestF f a (b - a) 12).1 a (b - a)).2 := ⟨_, rfl⟩
      obtain ⟨q2, hq2⟩ : ∃ q2, q2 = quoF fd q1.2 (splF f (bestF f a (b - a) 12).1 a (b - a)).2 b := ⟨_, rfl⟩
      have hfin : q = (1 + kmax q1.1 q2.1, q2.2) := by rw [hq, hfd, quoF_n c_11, hq2, hq1]
      refine lv_istore (lv' := [(5, .int (nI (splF f ((bestF f a (b - a) 12).1) a (b - a)).2)), (4, .int ((bestF f a (b - a) 12).1)), (0, .ref h), (1, .int (nI a)), (2, .int (nI b)), (3, .int 4)]) hx hb dX0_questionsUntilOne_30 hl (by decide) rfl (fun ls hl => ?_)
      refine lv_aload_n hx hb dX0_questionsUntilOne_32 rfl (lv_at hl 2 rfl) ?_
      refine lv_iload_n hx hb dX0_questionsUntilOne_33 rfl (lv_at hl 3 rfl) ?_
      refine lv_iload hx hb dX0_questionsUntilOne_34 (lv_at hl 0 rfl) ?_
      refine lv_iload_n hx hb dX0_questionsUntilOne_36 rfl (lv_at hl 5 rfl) ?_
      refine lv_iconst (v := 1) hx hb dX0_questionsUntilOne_37 (by decide) ?_
      refine lv_iadd hx hb dX0_questionsUntilOne_38 ?_
      refine lv_topi (fun nv_3 ev_3 => ?_)
      obtain rfl : nv_3 = 5 := ev_3.trans (by decide)
      refine kGo (wc := [(h, .inl (cI, LN, .inl ((splF f ((bestF f a (b - a) 12).1) a (b - a)).1)))]) (wr := []) (va_runS (As := [.ref h, .int (nI a), .int (nI (splF f ((bestF f a (b - a) 12).1) a (b - a)).2), .int 5]) (rest := []) ⟨hx, hb, hml, hown, hts⟩ (c_X0_quo_5 l D cI cJ cZ cO h LN ((splF f ((bestF f a (b - a) 12).1) a (b - a)).1) a ((splF f ((bestF f a (b - a) 12).1) a (b - a)).2) fd q1 (by first | assumption | omega | decide) (by first | assumption | omega | decide) (by first | assumption | omega | decide) (by omega) (hq1) _) (va_cwS 4 hts gX0_questionsUntilOne_X0_questionsUntilOne rfl rfl rfl (by decide +kernel) ⟨Nat.le_of_ble_eq_true rfl, Nat.le_of_ble_eq_true rfl⟩) (kPreS hK (kPc_sub hP [0] rfl) ((hD.sub [0] (by decide) rfl).weaken (fun _ _ _ _ => trivial))) rfl rfl hl.1 rfl (lv_room (Nat.le_of_ble_eq_true rfl)) dX0_questionsUntilOne_39 ⟨Nat.le_of_ble_eq_true rfl, Nat.le_of_ble_eq_true rfl⟩) hP hD hS hA [0] [] rfl rfl (by decide) (by decide) (fun v_4 w_4 H locs hv_4 hP hD hS => ?_)
      obtain ⟨rfl, rfl⟩ := hv_4
      have hP : va_P D vwCl [(h, .inl (cI, LN, .inl q1.2))] H := hP.sub [0] rfl
      have hD : va_D _ [(h, .inl (cI, LN, .inl q1.2))] := hD.sub [0] (by decide) rfl
      refine W.eq (g2 := F0 m 42 ls [.int q1.1]) rfl ?_
      refine lv_istore (lv' := [(6, .int q1.1), (5, .int (nI (splF f ((bestF f a (b - a) 12).1) a (b - a)).2)), (4, .int ((bestF f a (b - a) 12).1)), (0, .ref h), (1, .int (nI a)), (2, .int (nI b)), (3, .int 4)]) hx hb dX0_questionsUntilOne_42 hl (by decide) rfl (fun ls hl => ?_)
      refine lv_aload_n hx hb dX0_questionsUntilOne_44 rfl (lv_at hl 3 rfl) ?_
      refine lv_iload hx hb dX0_questionsUntilOne_45 (lv_at hl 1 rfl) ?_
      refine lv_iload_n hx hb dX0_questionsUntilOne_47 rfl (lv_at hl 5 rfl) ?_
      refine lv_iload_n hx hb dX0_questionsUntilOne_48 rfl (lv_at hl 6 rfl) ?_
      refine lv_iconst (v := 1) hx hb dX0_questionsUntilOne_49 (by decide) ?_
      refine lv_iadd hx hb dX0_questionsUntilOne_50 ?_
      refine lv_topi (fun nv_5 ev_5 => ?_)
      obtain rfl : nv_5 = 5 := ev_5.trans (by decide)
      refine kGo (wc := [(h, .inl (cI, LN, .inl q1.2))]) (wr := []) (va_runS (As := [.ref h, .int (nI (splF f ((bestF f a (b - a) 12).1) a (b - a)).2), .int (nI b), .int 5]) (rest := []) ⟨hx, hb, hml, hown, hts⟩ (c_X0_quo_5 l D cI cJ cZ cO h LN q1.2 ((splF f ((bestF f a (b - a) 12).1) a (b - a)).2) b fd q2 (by first | assumption | omega | decide) (by first | assumption | omega | decide) (by first | assumption | omega | decide) (by omega) (hq2) _) (va_cwS 4 hts gX0_questionsUntilOne_X0_questionsUntilOne rfl rfl rfl (by decide +kernel) ⟨Nat.le_of_ble_eq_true rfl, Nat.le_of_ble_eq_true rfl⟩) (kPreS hK (kPc_sub hP [0] rfl) ((hD.sub [0] (by decide) rfl).weaken (fun _ _ _ _ => trivial))) rfl rfl hl.1 rfl (lv_room (Nat.le_of_ble_eq_true rfl)) dX0_questionsUntilOne_51 ⟨Nat.le_of_ble_eq_true rfl, Nat.le_of_ble_eq_true rfl⟩) hP hD hS hA [0] [] rfl rfl (by decide) (by decide) (fun v_6 w_6 H locs hv_6 hP hD hS => ?_)
      obtain ⟨rfl, rfl⟩ := hv_6
      have hP : va_P D vwCl [(h, .inl (cI, LN, .inl q2.2))] H := hP.sub [0] rfl
      have hD : va_D _ [(h, .inl (cI, LN, .inl q2.2))] := hD.sub [0] (by decide) rfl
      refine W.eq (g2 := F0 m 54 ls [.int q2.1]) rfl ?_
      refine lv_istore (lv' := [(7, .int q2.1), (6, .int q1.1), (5, .int (nI (splF f ((bestF f a (b - a) 12).1) a (b - a)).2)), (4, .int ((bestF f a (b - a) 12).1)), (0, .ref h), (1, .int (nI a)), (2, .int (nI b)), (3, .int 4)]) hx hb dX0_questionsUntilOne_54 hl (by decide) rfl (fun ls hl => ?_)
      refine lv_iconst (v := 1) hx hb dX0_questionsUntilOne_56 (by decide) ?_
      refine lv_iload hx hb dX0_questionsUntilOne_57 (lv_at hl 1 rfl) ?_
      refine lv_iload hx hb dX0_questionsUntilOne_59 (lv_at hl 0 rfl) ?_
      refine va_mmax hx hb (by rw [hml]; exact hl.1.symm) hown hw_m47 hw_stmax hw_iM hw_cMmax (Nat.le_of_ble_eq_true rfl) (Nat.le_of_ble_eq_true rfl) (Nat.le_of_ble_eq_true rfl) (Nat.le_of_ble_eq_true rfl) dX0_questionsUntilOne_61 ?_
      refine W.eq (g2 := F0 m 64 ls [.int (kmax q1.1 q2.1), .int 1]) rfl ?_
      refine lv_iadd hx hb dX0_questionsUntilOne_64 ?_
      have ew_0 : (q2.2 : Nat → Int32) = q.2 := by first | (rw [hfin]; done) | (have hz : q = (0, f) := (by obtain ⟨fd, hfd⟩ : ∃ fd, fq = fd + 1 := (⟨fq - 1, (by omega)⟩); rw [hq, hfd]; exact quoF_p c_11); rw [hz])
      exact kRetI hx hb hr hlk dX0_questionsUntilOne_65 hP hD hS (Nat.le_of_ble_eq_true rfl) (Nat.le_of_ble_eq_true rfl) ⟨(kpi (by first | (rw [hfin]; done) | (have hz : q = (0, f) := (by obtain ⟨fd, hfd⟩ : ∃ fd, fq = fd + 1 := (⟨fq - 1, (by omega)⟩); rw [hq, hfd]; exact quoF_p c_11); rw [hz]))), (kw1 (fun (z_0 : Nat → Int32) => ([(h, .inl (cI, LN, .inl z_0))] : va_W)) ew_0)⟩
    · exact absurd (by decide) c_17

set_option maxHeartbeats 4000000 in
set_option maxRecDepth 100000 in
theorem c_X0_quo_3 (l : Launch) (D : va_G) (cI cJ cZ cO : ClassId) (h : Nat) (LN : Nat) (f : Nat → Int32) (a : Nat) (b : Nat) (fq : Nat) (q : Int32 × (Nat → Int32)) (hL : LN ≤ 4096) (hab : a ≤ b) (hb2 : b ≤ LN) (hfu : fq = 12 - 3) (hq : q = quoF fq f a b) : kC l D (kTY cI cJ cZ cO) yX0_questionsUntilOne wsX0_questionsUntilOne 12 316 0 0 [.ref h, .int (nI a), .int (nI b), .int 3] [(h, .inl (cI, LN, .inl f))] (fun rv_ rw_ => rv_ = some (.int q.1) ∧ rw_ = [(h, .inl (cI, LN, .inl q.2))]) := by
  refine kEnter (cc := cX0_questionsUntilOne) (maxL := 8) (ret := (some .int)) (by decide) rfl (Nat.le_of_ble_eq_true rfl) ?_
  intro p e s m args below meth c hx hb hr hml hts hown hlk hnm hK hP hD hS hA ls hl
  have hl : lv_has ls 8 [(0, .ref h), (1, .int (nI a)), (2, .int (nI b)), (3, .int 3)] := hl
  have hw_m47 := hts (.methodLink RX0 47 Lib.Math.max.name) (by decide +kernel)
  have hw_stmax := hts (.static Lib.Math.max.name) (by decide +kernel)
  have hw_iM := hts (.initialized "java/lang/Math") (by decide +kernel)
  have hw_cMmax := hts (.code Lib.Math.max.name Lib.Math.max.code 2 (some .int)) (by decide +kernel)
  refine lv_aload_n hx hb dX0_questionsUntilOne_0 rfl (lv_at hl 0 rfl) ?_
  refine lv_iload_n hx hb dX0_questionsUntilOne_1 rfl (lv_at hl 1 rfl) ?_
  refine lv_iload_n hx hb dX0_questionsUntilOne_2 rfl (lv_at hl 2 rfl) ?_
  refine kGoR (va_runS (As := [.ref h, .int (nI a), .int (nI b)]) (rest := []) ⟨hx, hb, hml, hown, hts⟩ (c_X0_bestTopic l D cI cJ cZ cO h LN f a b (by first | assumption | omega | decide) (by first | assumption | omega | decide) (by first | assumption | omega | decide)) (va_cwS 3 hts gX0_questionsUntilOne_X0_bestTopic rfl rfl rfl (by decide +kernel) ⟨Nat.le_of_ble_eq_true rfl, Nat.le_of_ble_eq_true rfl⟩) (kPreSR hK (kPc_sub hP [0] rfl)) rfl rfl hl.1 rfl (lv_room (Nat.le_of_ble_eq_true rfl)) dX0_questionsUntilOne_3 ⟨Nat.le_of_ble_eq_true rfl, Nat.le_of_ble_eq_true rfl⟩) (fun v_1 hv_1 => ?_)
  obtain rfl := hv_1
  refine W.eq (g2 := F0 m 6 ls [.int ((bestF f a (b - a) 12).1)]) rfl ?_
  refine lv_istore (lv' := [(4, .int ((bestF f a (b - a) 12).1)), (0, .ref h), (1, .int (nI a)), (2, .int (nI b)), (3, .int 3)]) hx hb dX0_questionsUntilOne_6 hl (by decide) rfl (fun ls hl => ?_)
  refine lv_iload hx hb dX0_questionsUntilOne_8 (lv_at hl 0 rfl) ?_
  refine lv_iconst (v := (-1)) hx hb dX0_questionsUntilOne_10 (by decide) ?_
  refine lv_icmp_eq (tgt := 20) hx hb dX0_questionsUntilOne_11 (by decide) (fun c_11 => ?_) (fun c_11 => ?_)
  · skip
    refine lv_iconst (v := 0) hx hb dX0_questionsUntilOne_20 (by decide) ?_
    have ew_0 : (f : Nat → Int32) = q.2 := by first | (rw [hfin]; done) | (have hz : q = (0, f) := (by obtain ⟨fd, hfd⟩ : ∃ fd, fq = fd + 1 := (⟨fq - 1, (by omega)⟩); rw [hq, hfd]; exact quoF_p c_11); rw [hz])
    exact kRetI hx hb hr hlk dX0_questionsUntilOne_21 hP hD hS (Nat.le_of_ble_eq_true rfl) (Nat.le_of_ble_eq_true rfl) ⟨(kpi (by first | (rw [hfin]; done) | (have hz : q = (0, f) := (by obtain ⟨fd, hfd⟩ : ∃ fd, fq = fd + 1 := (⟨fq - 1, (by omega)⟩); rw [hq, hfd]; exact quoF_p c_11); rw [hz]))), (kw1 (fun (z_0 : Nat → Int32) => ([(h, .inl (cI, LN, .inl z_0))] : va_W)) ew_0)⟩
  · skip
    refine lv_iload_n hx hb dX0_questionsUntilOne_14 rfl (lv_at hl 4 rfl) ?_
    refine lv_bipush (v := 12) hx hb dX0_questionsUntilOne_15 (by decide) ?_
    refine lv_icmp_lt (tgt := 22) hx hb dX0_questionsUntilOne_17 (by decide) (fun c_17 => ?_) (fun c_17 => ?_)
    · skip
      refine lv_aload_n hx hb dX0_questionsUntilOne_22 rfl (lv_at hl 1 rfl) ?_
      refine lv_iload_n hx hb dX0_questionsUntilOne_23 rfl (lv_at hl 2 rfl) ?_
      refine lv_iload_n hx hb dX0_questionsUntilOne_24 rfl (lv_at hl 3 rfl) ?_
      refine lv_iload hx hb dX0_questionsUntilOne_25 (lv_at hl 0 rfl) ?_
      refine kGo (wc := [(h, .inl (cI, LN, .inl f))]) (wr := []) (va_runS (As := [.ref h, .int (nI a), .int (nI b), .int ((bestF f a (b - a) 12).1)]) (rest := []) ⟨hx, hb, hml, hown, hts⟩ (c_X0_split l D cI cJ cZ cO h LN f a b ((bestF f a (b - a) 12).1) (by first | assumption | omega | decide) (by first | assumption | omega | decide) (by first | assumption | omega | decide) _) (va_cwS 4 hts gX0_questionsUntilOne_X0_split rfl rfl rfl (by decide +kernel) ⟨Nat.le_of_ble_eq_true rfl, Nat.le_of_ble_eq_true rfl⟩) (kPreS hK (kPc_sub hP [0] rfl) ((hD.sub [0] (by decide) rfl).weaken (fun _ _ _ _ => trivial))) rfl rfl hl.1 rfl (lv_room (Nat.le_of_ble_eq_true rfl)) dX0_questionsUntilOne_27 ⟨Nat.le_of_ble_eq_true rfl, Nat.le_of_ble_eq_true rfl⟩) hP hD hS hA [0] [] rfl rfl (by decide) (by decide) (fun v_2 w_2 H locs hv_2 hP hD hS => ?_)
      obtain ⟨rfl, rfl⟩ := hv_2
      have hP : va_P D vwCl [(h, .inl (cI, LN, .inl ((splF f ((bestF f a (b - a) 12).1) a (b - a)).1)))] H := hP.sub [0] rfl
      have hD : va_D _ [(h, .inl (cI, LN, .inl ((splF f ((bestF f a (b - a) 12).1) a (b - a)).1)))] := hD.sub [0] (by decide) rfl
      refine W.eq (g2 := F0 m 30 ls [.int (nI (splF f ((bestF f a (b - a) 12).1) a (b - a)).2)]) rfl ?_
      have hs1 := splF_ge f (bestF f a (b - a) 12).1 a (b - a)
      have hs2 := splF_le f (bestF f a (b - a) 12).1 a (b - a)
      obtain ⟨fd, hfd⟩ : ∃ fd, fq = fd + 1 := ⟨fq - 1, by omega⟩
      obtain ⟨q1, hq1⟩ : ∃ q1, q1 = quoF fd (splF f (bestF f a (b - a) 12).1 a (b - a)).1 a (splF f (bestF f a (b - a) 12).1 a (b - a)).2 := ⟨_, rfl⟩
      obtain ⟨q2, hq2⟩ : ∃ q2, q2 = quoF fd q1.2 (splF f (bestF f a (b - a) 12).1 a (b - a)).2 b := ⟨_, rfl⟩
      have hfin : q = (1 + kmax q1.1 q2.1, q2.2) := by rw [hq, hfd, quoF_n c_11, hq2, hq1]
      refine lv_istore (lv' := [(5, .int (nI (splF f ((bestF f a (b - a) 12).1) a (b - a)).2)), (4, .int ((bestF f a (b - a) 12).1)), (0, .ref h), (1, .int (nI a)), (2, .int (nI b)), (3, .int 3)]) hx hb dX0_questionsUntilOne_30 hl (by decide) rfl (fun ls hl => ?_)
      refine lv_aload_n hx hb dX0_questionsUntilOne_32 rfl (lv_at hl 2 rfl) ?_
      refine lv_iload_n hx hb dX0_questionsUntilOne_33 rfl (lv_at hl 3 rfl) ?_
      refine lv_iload hx hb dX0_questionsUntilOne_34 (lv_at hl 0 rfl) ?_
      refine lv_iload_n hx hb dX0_questionsUntilOne_36 rfl (lv_at hl 5 rfl) ?_
      refine lv_iconst (v := 1) hx hb dX0_questionsUntilOne_37 (by decide) ?_
      refine lv_iadd hx hb dX0_questionsUntilOne_38 ?_
      refine lv_topi (fun nv_3 ev_3 => ?_)
      obtain rfl : nv_3 = 4 := ev_3.trans (by decide)
      refine kGo (wc := [(h, .inl (cI, LN, .inl ((splF f ((bestF f a (b - a) 12).1) a (b - a)).1)))]) (wr := []) (va_runS (As := [.ref h, .int (nI a), .int (nI (splF f ((bestF f a (b - a) 12).1) a (b - a)).2), .int 4]) (rest := []) ⟨hx, hb, hml, hown, hts⟩ (c_X0_quo_4 l D cI cJ cZ cO h LN ((splF f ((bestF f a (b - a) 12).1) a (b - a)).1) a ((splF f ((bestF f a (b - a) 12).1) a (b - a)).2) fd q1 (by first | assumption | omega | decide) (by first | assumption | omega | decide) (by first | assumption | omega | decide) (by omega) (hq1) _) (va_cwS 4 hts gX0_questionsUntilOne_X0_questionsUntilOne rfl rfl rfl (by decide +kernel) ⟨Nat.le_of_ble_eq_true rfl, Nat.le_of_ble_eq_true rfl⟩) (kPreS hK (kPc_sub hP [0] rfl) ((hD.sub [0] (by decide) rfl).weaken (fun _ _ _ _ => trivial))) rfl rfl hl.1 rfl (lv_room (Nat.le_of_ble_eq_true rfl)) dX0_questionsUntilOne_39 ⟨Nat.le_of_ble_eq_true rfl, Nat.le_of_ble_eq_true rfl⟩) hP hD hS hA [0] [] rfl rfl (by decide) (by decide) (fun v_4 w_4 H locs hv_4 hP hD hS => ?_)
      obtain ⟨rfl, rfl⟩ := hv_4
      have hP : va_P D vwCl [(h, .inl (cI, LN, .inl q1.2))] H := hP.sub [0] rfl
      have hD : va_D _ [(h, .inl (cI, LN, .inl q1.2))] := hD.sub [0] (by decide) rfl
      refine W.eq (g2 := F0 m 42 ls [.int q1.1]) rfl ?_
      refine lv_istore (lv' := [(6, .int q1.1), (5, .int (nI (splF f ((bestF f a (b - a) 12).1) a (b - a)).2)), (4, .int ((bestF f a (b - a) 12).1)), (0, .ref h), (1, .int (nI a)), (2, .int (nI b)), (3, .int 3)]) hx hb dX0_questionsUntilOne_42 hl (by decide) rfl (fun ls hl => ?_)
      refine lv_aload_n hx hb dX0_questionsUntilOne_44 rfl (lv_at hl 3 rfl) ?_
      refine lv_iload hx hb dX0_questionsUntilOne_45 (lv_at hl 1 rfl) ?_
      refine lv_iload_n hx hb dX0_questionsUntilOne_47 rfl (lv_at hl 5 rfl) ?_
      refine lv_iload_n hx hb dX0_questionsUntilOne_48 rfl (lv_at hl 6 rfl) ?_
      refine lv_iconst (v := 1) hx hb dX0_questionsUntilOne_49 (by decide) ?_
      refine lv_iadd hx hb dX0_questionsUntilOne_50 ?_
      refine lv_topi (fun nv_5 ev_5 => ?_)
      obtain rfl : nv_5 = 4 := ev_5.trans (by decide)
      refine kGo (wc := [(h, .inl (cI, LN, .inl q1.2))]) (wr := []) (va_runS (As := [.ref h, .int (nI (splF f ((bestF f a (b - a) 12).1) a (b - a)).2), .int (nI b), .int 4]) (rest := []) ⟨hx, hb, hml, hown, hts⟩ (c_X0_quo_4 l D cI cJ cZ cO h LN q1.2 ((splF f ((bestF f a (b - a) 12).1) a (b - a)).2) b fd q2 (by first | assumption | omega | decide) (by first | assumption | omega | decide) (by first | assumption | omega | decide) (by omega) (hq2) _) (va_cwS 4 hts gX0_questionsUntilOne_X0_questionsUntilOne rfl rfl rfl (by decide +kernel) ⟨Nat.le_of_ble_eq_true rfl, Nat.le_of_ble_eq_true rfl⟩) (kPreS hK (kPc_sub hP [0] rfl) ((hD.sub [0] (by decide) rfl).weaken (fun _ _ _ _ => trivial))) rfl rfl hl.1 rfl (lv_room (Nat.le_of_ble_eq_true rfl)) dX0_questionsUntilOne_51 ⟨Nat.le_of_ble_eq_true rfl, Nat.le_of_ble_eq_true rfl⟩) hP hD hS hA [0] [] rfl rfl (by decide) (by decide) (fun v_6 w_6 H locs hv_6 hP hD hS => ?_)
      obtain ⟨rfl, rfl⟩ := hv_6
      have hP : va_P D vwCl [(h, .inl (cI, LN, .inl q2.2))] H := hP.sub [0] rfl
      have hD : va_D _ [(h, .inl (cI, LN, .inl q2.2))] := hD.sub [0] (by decide) rfl
      refine W.eq (g2 := F0 m 54 ls [.int q2.1]) rfl ?_
      refine lv_istore (lv' := [(7, .int q2.1), (6, .int q1.1), (5, .int (nI (splF f ((bestF f a (b - a) 12).1) a (b - a)).2)), (4, .int ((bestF f a (b - a) 12).1)), (0, .ref h), (1, .int (nI a)), (2, .int (nI b)), (3, .int 3)]) hx hb dX0_questionsUntilOne_54 hl (by decide) rfl (fun ls hl => ?_)
      refine lv_iconst (v := 1) hx hb dX0_questionsUntilOne_56 (by decide) ?_
      refine lv_iload hx hb dX0_questionsUntilOne_57 (lv_at hl 1 rfl) ?_
      refine lv_iload hx hb dX0_questionsUntilOne_59 (lv_at hl 0 rfl) ?_
      refine va_mmax hx hb (by rw [hml]; exact hl.1.symm) hown hw_m47 hw_stmax hw_iM hw_cMmax (Nat.le_of_ble_eq_true rfl) (Nat.le_of_ble_eq_true rfl) (Nat.le_of_ble_eq_true rfl) (Nat.le_of_ble_eq_true rfl) dX0_questionsUntilOne_61 ?_
      refine W.eq (g2 := F0 m 64 ls [.int (kmax q1.1 q2.1), .int 1]) rfl ?_
      refine lv_iadd hx hb dX0_questionsUntilOne_64 ?_
      have ew_0 : (q2.2 : Nat → Int32) = q.2 := by first | (rw [hfin]; done) | (have hz : q = (0, f) := (by obtain ⟨fd, hfd⟩ : ∃ fd, fq = fd + 1 := (⟨fq - 1, (by omega)⟩); rw [hq, hfd]; exact quoF_p c_11); rw [hz])
      exact kRetI hx hb hr hlk dX0_questionsUntilOne_65 hP hD hS (Nat.le_of_ble_eq_true rfl) (Nat.le_of_ble_eq_true rfl) ⟨(kpi (by first | (rw [hfin]; done) | (have hz : q = (0, f) := (by obtain ⟨fd, hfd⟩ : ∃ fd, fq = fd + 1 := (⟨fq - 1, (by omega)⟩); rw [hq, hfd]; exact quoF_p c_11); rw [hz]))), (kw1 (fun (z_0 : Nat → Int32) => ([(h, .inl (cI, LN, .inl z_0))] : va_W)) ew_0)⟩
    · exact absurd (by decide) c_17

set_option maxHeartbeats 4000000 in
set_option maxRecDepth 100000 in
theorem c_X0_quo_2 (l : Launch) (D : va_G) (cI cJ cZ cO : ClassId) (h : Nat) (LN : Nat) (f : Nat → Int32) (a : Nat) (b : Nat) (fq : Nat) (q : Int32 × (Nat → Int32)) (hL : LN ≤ 4096) (hab : a ≤ b) (hb2 : b ≤ LN) (hfu : fq = 12 - 2) (hq : q = quoF fq f a b) : kC l D (kTY cI cJ cZ cO) yX0_questionsUntilOne wsX0_questionsUntilOne 13 343 0 0 [.ref h, .int (nI a), .int (nI b), .int 2] [(h, .inl (cI, LN, .inl f))] (fun rv_ rw_ => rv_ = some (.int q.1) ∧ rw_ = [(h, .inl (cI, LN, .inl q.2))]) := by
  refine kEnter (cc := cX0_questionsUntilOne) (maxL := 8) (ret := (some .int)) (by decide) rfl (Nat.le_of_ble_eq_true rfl) ?_
  intro p e s m args below meth c hx hb hr hml hts hown hlk hnm hK hP hD hS hA ls hl
  have hl : lv_has ls 8 [(0, .ref h), (1, .int (nI a)), (2, .int (nI b)), (3, .int 2)] := hl
  have hw_m47 := hts (.methodLink RX0 47 Lib.Math.max.name) (by decide +kernel)
  have hw_stmax := hts (.static Lib.Math.max.name) (by decide +kernel)
  have hw_iM := hts (.initialized "java/lang/Math") (by decide +kernel)
  have hw_cMmax := hts (.code Lib.Math.max.name Lib.Math.max.code 2 (some .int)) (by decide +kernel)
  refine lv_aload_n hx hb dX0_questionsUntilOne_0 rfl (lv_at hl 0 rfl) ?_
  refine lv_iload_n hx hb dX0_questionsUntilOne_1 rfl (lv_at hl 1 rfl) ?_
  refine lv_iload_n hx hb dX0_questionsUntilOne_2 rfl (lv_at hl 2 rfl) ?_
  refine kGoR (va_runS (As := [.ref h, .int (nI a), .int (nI b)]) (rest := []) ⟨hx, hb, hml, hown, hts⟩ (c_X0_bestTopic l D cI cJ cZ cO h LN f a b (by first | assumption | omega | decide) (by first | assumption | omega | decide) (by first | assumption | omega | decide)) (va_cwS 3 hts gX0_questionsUntilOne_X0_bestTopic rfl rfl rfl (by decide +kernel) ⟨Nat.le_of_ble_eq_true rfl, Nat.le_of_ble_eq_true rfl⟩) (kPreSR hK (kPc_sub hP [0] rfl)) rfl rfl hl.1 rfl (lv_room (Nat.le_of_ble_eq_true rfl)) dX0_questionsUntilOne_3 ⟨Nat.le_of_ble_eq_true rfl, Nat.le_of_ble_eq_true rfl⟩) (fun v_1 hv_1 => ?_)
  obtain rfl := hv_1
  refine W.eq (g2 := F0 m 6 ls [.int ((bestF f a (b - a) 12).1)]) rfl ?_
  refine lv_istore (lv' := [(4, .int ((bestF f a (b - a) 12).1)), (0, .ref h), (1, .int (nI a)), (2, .int (nI b)), (3, .int 2)]) hx hb dX0_questionsUntilOne_6 hl (by decide) rfl (fun ls hl => ?_)
  refine lv_iload hx hb dX0_questionsUntilOne_8 (lv_at hl 0 rfl) ?_
  refine lv_iconst (v := (-1)) hx hb dX0_questionsUntilOne_10 (by decide) ?_
  refine lv_icmp_eq (tgt := 20) hx hb dX0_questionsUntilOne_11 (by decide) (fun c_11 => ?_) (fun c_11 => ?_)
  · skip
    refine lv_iconst (v := 0) hx hb dX0_questionsUntilOne_20 (by decide) ?_
    have ew_0 : (f : Nat → Int32) = q.2 := by first | (rw [hfin]; done) | (have hz : q = (0, f) := (by obtain ⟨fd, hfd⟩ : ∃ fd, fq = fd + 1 := (⟨fq - 1, (by omega)⟩); rw [hq, hfd]; exact quoF_p c_11); rw [hz])
    exact kRetI hx hb hr hlk dX0_questionsUntilOne_21 hP hD hS (Nat.le_of_ble_eq_true rfl) (Nat.le_of_ble_eq_true rfl) ⟨(kpi (by first | (rw [hfin]; done) | (have hz : q = (0, f) := (by obtain ⟨fd, hfd⟩ : ∃ fd, fq = fd + 1 := (⟨fq - 1, (by omega)⟩); rw [hq, hfd]; exact quoF_p c_11); rw [hz]))), (kw1 (fun (z_0 : Nat → Int32) => ([(h, .inl (cI, LN, .inl z_0))] : va_W)) ew_0)⟩
  · skip
    refine lv_iload_n hx hb dX0_questionsUntilOne_14 rfl (lv_at hl 4 rfl) ?_
    refine lv_bipush (v := 12) hx hb dX0_questionsUntilOne_15 (by decide) ?_
    refine lv_icmp_lt (tgt := 22) hx hb dX0_questionsUntilOne_17 (by decide) (fun c_17 => ?_) (fun c_17 => ?_)
    · skip
      refine lv_aload_n hx hb dX0_questionsUntilOne_22 rfl (lv_at hl 1 rfl) ?_
      refine lv_iload_n hx hb dX0_questionsUntilOne_23 rfl (lv_at hl 2 rfl) ?_
      refine lv_iload_n hx hb dX0_questionsUntilOne_24 rfl (lv_at hl 3 rfl) ?_
      refine lv_iload hx hb dX0_questionsUntilOne_25 (lv_at hl 0 rfl) ?_
      refine kGo (wc := [(h, .inl (cI, LN, .inl f))]) (wr := []) (va_runS (As := [.ref h, .int (nI a), .int (nI b), .int ((bestF f a (b - a) 12).1)]) (rest := []) ⟨hx, hb, hml, hown, hts⟩ (c_X0_split l D cI cJ cZ cO h LN f a b ((bestF f a (b - a) 12).1) (by first | assumption | omega | decide) (by first | assumption | omega | decide) (by first | assumption | omega | decide) _) (va_cwS 4 hts gX0_questionsUntilOne_X0_split rfl rfl rfl (by decide +kernel) ⟨Nat.le_of_ble_eq_true rfl, Nat.le_of_ble_eq_true rfl⟩) (kPreS hK (kPc_sub hP [0] rfl) ((hD.sub [0] (by decide) rfl).weaken (fun _ _ _ _ => trivial))) rfl rfl hl.1 rfl (lv_room (Nat.le_of_ble_eq_true rfl)) dX0_questionsUntilOne_27 ⟨Nat.le_of_ble_eq_true rfl, Nat.le_of_ble_eq_true rfl⟩) hP hD hS hA [0] [] rfl rfl (by decide) (by decide) (fun v_2 w_2 H locs hv_2 hP hD hS => ?_)
      obtain ⟨rfl, rfl⟩ := hv_2
      have hP : va_P D vwCl [(h, .inl (cI, LN, .inl ((splF f ((bestF f a (b - a) 12).1) a (b - a)).1)))] H := hP.sub [0] rfl
      have hD : va_D _ [(h, .inl (cI, LN, .inl ((splF f ((bestF f a (b - a) 12).1) a (b - a)).1)))] := hD.sub [0] (by decide) rfl
      refine W.eq (g2 := F0 m 30 ls [.int (nI (splF f ((bestF f a (b - a) 12).1) a (b - a)).2)]) rfl ?_
      have hs1 := splF_ge f (bestF f a (b - a) 12).1 a (b - a)
      have hs2 := splF_le f (bestF f a (b - a) 12).1 a (b - a)
      obtain ⟨fd, hfd⟩ : ∃ fd, fq = fd + 1 := ⟨fq - 1, by omega⟩
      obtain ⟨q1, hq1⟩ : ∃ q1, q1 = quoF fd (splF f (bestF f a (b - a) 12).1 a (b - a)).1 a (splF f (bestF f a (b - a) 12).1 a (b - a)).2 := ⟨_, rfl⟩
      obtain ⟨q2, hq2⟩ : ∃ q2, q2 = quoF fd q1.2 (splF f (bestF f a (b - a) 12).1 a (b - a)).2 b := ⟨_, rfl⟩
      have hfin : q = (1 + kmax q1.1 q2.1, q2.2) := by rw [hq, hfd, quoF_n c_11, hq2, hq1]
      refine lv_istore (lv' := [(5, .int (nI (splF f ((bestF f a (b - a) 12).1) a (b - a)).2)), (4, .int ((bestF f a (b - a) 12).1)), (0, .ref h), (1, .int (nI a)), (2, .int (nI b)), (3, .int 2)]) hx hb dX0_questionsUntilOne_30 hl (by decide) rfl (fun ls hl => ?_)
      refine lv_aload_n hx hb dX0_questionsUntilOne_32 rfl (lv_at hl 2 rfl) ?_
      refine lv_iload_n hx hb dX0_questionsUntilOne_33 rfl (lv_at hl 3 rfl) ?_
      refine lv_iload hx hb dX0_questionsUntilOne_34 (lv_at hl 0 rfl) ?_
      refine lv_iload_n hx hb dX0_questionsUntilOne_36 rfl (lv_at hl 5 rfl) ?_
      refine lv_iconst (v := 1) hx hb dX0_questionsUntilOne_37 (by decide) ?_
      refine lv_iadd hx hb dX0_questionsUntilOne_38 ?_
      refine lv_topi (fun nv_3 ev_3 => ?_)
      obtain rfl : nv_3 = 3 := ev_3.trans (by decide)
      refine kGo (wc := [(h, .inl (cI, LN, .inl ((splF f ((bestF f a (b - a) 12).1) a (b - a)).1)))]) (wr := []) (va_runS (As := [.ref h, .int (nI a), .int (nI (splF f ((bestF f a (b - a) 12).1) a (b - a)).2), .int 3]) (rest := []) ⟨hx, hb, hml, hown, hts⟩ (c_X0_quo_3 l D cI cJ cZ cO h LN ((splF f ((bestF f a (b - a) 12).1) a (b - a)).1) a ((splF f ((bestF f a (b - a) 12).1) a (b - a)).2) fd q1 (by first | assumption | omega | decide) (by first | assumption | omega | decide) (by first | assumption | omega | decide) (by omega) (hq1) _) (va_cwS 4 hts gX0_questionsUntilOne_X0_questionsUntilOne rfl rfl rfl (by decide +kernel) ⟨Nat.le_of_ble_eq_true rfl, Nat.le_of_ble_eq_true rfl⟩) (kPreS hK (kPc_sub hP [0] rfl) ((hD.sub [0] (by decide) rfl).weaken (fun _ _ _ _ => trivial))) rfl rfl hl.1 rfl (lv_room (Nat.le_of_ble_eq_true rfl)) dX0_questionsUntilOne_39 ⟨Nat.le_of_ble_eq_true rfl, Nat.le_of_ble_eq_true rfl⟩) hP hD hS hA [0] [] rfl rfl (by decide) (by decide) (fun v_4 w_4 H locs hv_4 hP hD hS => ?_)
      obtain ⟨rfl, rfl⟩ := hv_4
      have hP : va_P D vwCl [(h, .inl (cI, LN, .inl q1.2))] H := hP.sub [0] rfl
      have hD : va_D _ [(h, .inl (cI, LN, .inl q1.2))] := hD.sub [0] (by decide) rfl
      refine W.eq (g2 := F0 m 42 ls [.int q1.1]) rfl ?_
      refine lv_istore (lv' := [(6, .int q1.1), (5, .int (nI (splF f ((bestF f a (b - a) 12).1) a (b - a)).2)), (4, .int ((bestF f a (b - a) 12).1)), (0, .ref h), (1, .int (nI a)), (2, .int (nI b)), (3, .int 2)]) hx hb dX0_questionsUntilOne_42 hl (by decide) rfl (fun ls hl => ?_)
      refine lv_aload_n hx hb dX0_questionsUntilOne_44 rfl (lv_at hl 3 rfl) ?_
      refine lv_iload hx hb dX0_questionsUntilOne_45 (lv_at hl 1 rfl) ?_
      refine lv_iload_n hx hb dX0_questionsUntilOne_47 rfl (lv_at hl 5 rfl) ?_
      refine lv_iload_n hx hb dX0_questionsUntilOne_48 rfl (lv_at hl 6 rfl) ?_
      refine lv_iconst (v := 1) hx hb dX0_questionsUntilOne_49 (by decide) ?_
      refine lv_iadd hx hb dX0_questionsUntilOne_50 ?_
      refine lv_topi (fun nv_5 ev_5 => ?_)
      obtain rfl : nv_5 = 3 := ev_5.trans (by decide)
      refine kGo (wc := [(h, .inl (cI, LN, .inl q1.2))]) (wr := []) (va_runS (As := [.ref h, .int (nI (splF f ((bestF f a (b - a) 12).1) a (b - a)).2), .int (nI b), .int 3]) (rest := []) ⟨hx, hb, hml, hown, hts⟩ (c_X0_quo_3 l D cI cJ cZ cO h LN q1.2 ((splF f ((bestF f a (b - a) 12).1) a (b - a)).2) b fd q2 (by first | assumption | omega | decide) (by first | assumption | omega | decide) (by first | assumption | omega | decide) (by omega) (hq2) _) (va_cwS 4 hts gX0_questionsUntilOne_X0_questionsUntilOne rfl rfl rfl (by decide +kernel) ⟨Nat.le_of_ble_eq_true rfl, Nat.le_of_ble_eq_true rfl⟩) (kPreS hK (kPc_sub hP [0] rfl) ((hD.sub [0] (by decide) rfl).weaken (fun _ _ _ _ => trivial))) rfl rfl hl.1 rfl (lv_room (Nat.le_of_ble_eq_true rfl)) dX0_questionsUntilOne_51 ⟨Nat.le_of_ble_eq_true rfl, Nat.le_of_ble_eq_true rfl⟩) hP hD hS hA [0] [] rfl rfl (by decide) (by decide) (fun v_6 w_6 H locs hv_6 hP hD hS => ?_)
      obtain ⟨rfl, rfl⟩ := hv_6
      have hP : va_P D vwCl [(h, .inl (cI, LN, .inl q2.2))] H := hP.sub [0] rfl
      have hD : va_D _ [(h, .inl (cI, LN, .inl q2.2))] := hD.sub [0] (by decide) rfl
      refine W.eq (g2 := F0 m 54 ls [.int q2.1]) rfl ?_
      refine lv_istore (lv' := [(7, .int q2.1), (6, .int q1.1), (5, .int (nI (splF f ((bestF f a (b - a) 12).1) a (b - a)).2)), (4, .int ((bestF f a (b - a) 12).1)), (0, .ref h), (1, .int (nI a)), (2, .int (nI b)), (3, .int 2)]) hx hb dX0_questionsUntilOne_54 hl (by decide) rfl (fun ls hl => ?_)
      refine lv_iconst (v := 1) hx hb dX0_questionsUntilOne_56 (by decide) ?_
      refine lv_iload hx hb dX0_questionsUntilOne_57 (lv_at hl 1 rfl) ?_
      refine lv_iload hx hb dX0_questionsUntilOne_59 (lv_at hl 0 rfl) ?_
      refine va_mmax hx hb (by rw [hml]; exact hl.1.symm) hown hw_m47 hw_stmax hw_iM hw_cMmax (Nat.le_of_ble_eq_true rfl) (Nat.le_of_ble_eq_true rfl) (Nat.le_of_ble_eq_true rfl) (Nat.le_of_ble_eq_true rfl) dX0_questionsUntilOne_61 ?_
      refine W.eq (g2 := F0 m 64 ls [.int (kmax q1.1 q2.1), .int 1]) rfl ?_
      refine lv_iadd hx hb dX0_questionsUntilOne_64 ?_
      have ew_0 : (q2.2 : Nat → Int32) = q.2 := by first | (rw [hfin]; done) | (have hz : q = (0, f) := (by obtain ⟨fd, hfd⟩ : ∃ fd, fq = fd + 1 := (⟨fq - 1, (by omega)⟩); rw [hq, hfd]; exact quoF_p c_11); rw [hz])
      exact kRetI hx hb hr hlk dX0_questionsUntilOne_65 hP hD hS (Nat.le_of_ble_eq_true rfl) (Nat.le_of_ble_eq_true rfl) ⟨(kpi (by first | (rw [hfin]; done) | (have hz : q = (0, f) := (by obtain ⟨fd, hfd⟩ : ∃ fd, fq = fd + 1 := (⟨fq - 1, (by omega)⟩); rw [hq, hfd]; exact quoF_p c_11); rw [hz]))), (kw1 (fun (z_0 : Nat → Int32) => ([(h, .inl (cI, LN, .inl z_0))] : va_W)) ew_0)⟩
    · exact absurd (by decide) c_17

set_option maxHeartbeats 4000000 in
set_option maxRecDepth 100000 in
theorem c_X0_quo_1 (l : Launch) (D : va_G) (cI cJ cZ cO : ClassId) (h : Nat) (LN : Nat) (f : Nat → Int32) (a : Nat) (b : Nat) (fq : Nat) (q : Int32 × (Nat → Int32)) (hL : LN ≤ 4096) (hab : a ≤ b) (hb2 : b ≤ LN) (hfu : fq = 12 - 1) (hq : q = quoF fq f a b) : kC l D (kTY cI cJ cZ cO) yX0_questionsUntilOne wsX0_questionsUntilOne 14 370 0 0 [.ref h, .int (nI a), .int (nI b), .int 1] [(h, .inl (cI, LN, .inl f))] (fun rv_ rw_ => rv_ = some (.int q.1) ∧ rw_ = [(h, .inl (cI, LN, .inl q.2))]) := by
  refine kEnter (cc := cX0_questionsUntilOne) (maxL := 8) (ret := (some .int)) (by decide) rfl (Nat.le_of_ble_eq_true rfl) ?_
  intro p e s m args below meth c hx hb hr hml hts hown hlk hnm hK hP hD hS hA ls hl
  have hl : lv_has ls 8 [(0, .ref h), (1, .int (nI a)), (2, .int (nI b)), (3, .int 1)] := hl
  have hw_m47 := hts (.methodLink RX0 47 Lib.Math.max.name) (by decide +kernel)
  have hw_stmax := hts (.static Lib.Math.max.name) (by decide +kernel)
  have hw_iM := hts (.initialized "java/lang/Math") (by decide +kernel)
  have hw_cMmax := hts (.code Lib.Math.max.name Lib.Math.max.code 2 (some .int)) (by decide +kernel)
  refine lv_aload_n hx hb dX0_questionsUntilOne_0 rfl (lv_at hl 0 rfl) ?_
  refine lv_iload_n hx hb dX0_questionsUntilOne_1 rfl (lv_at hl 1 rfl) ?_
  refine lv_iload_n hx hb dX0_questionsUntilOne_2 rfl (lv_at hl 2 rfl) ?_
  refine kGoR (va_runS (As := [.ref h, .int (nI a), .int (nI b)]) (rest := []) ⟨hx, hb, hml, hown, hts⟩ (c_X0_bestTopic l D cI cJ cZ cO h LN f a b (by first | assumption | omega | decide) (by first | assumption | omega | decide) (by first | assumption | omega | decide)) (va_cwS 3 hts gX0_questionsUntilOne_X0_bestTopic rfl rfl rfl (by decide +kernel) ⟨Nat.le_of_ble_eq_true rfl, Nat.le_of_ble_eq_true rfl⟩) (kPreSR hK (kPc_sub hP [0] rfl)) rfl rfl hl.1 rfl (lv_room (Nat.le_of_ble_eq_true rfl)) dX0_questionsUntilOne_3 ⟨Nat.le_of_ble_eq_true rfl, Nat.le_of_ble_eq_true rfl⟩) (fun v_1 hv_1 => ?_)
  obtain rfl := hv_1
  refine W.eq (g2 := F0 m 6 ls [.int ((bestF f a (b - a) 12).1)]) rfl ?_
  refine lv_istore (lv' := [(4, .int ((bestF f a (b - a) 12).1)), (0, .ref h), (1, .int (nI a)), (2, .int (nI b)), (3, .int 1)]) hx hb dX0_questionsUntilOne_6 hl (by decide) rfl (fun ls hl => ?_)
  refine lv_iload hx hb dX0_questionsUntilOne_8 (lv_at hl 0 rfl) ?_
  refine lv_iconst (v := (-1)) hx hb dX0_questionsUntilOne_10 (by decide) ?_
  refine lv_icmp_eq (tgt := 20) hx hb dX0_questionsUntilOne_11 (by decide) (fun c_11 => ?_) (fun c_11 => ?_)
  · skip
    refine lv_iconst (v := 0) hx hb dX0_questionsUntilOne_20 (by decide) ?_
    have ew_0 : (f : Nat → Int32) = q.2 := by first | (rw [hfin]; done) | (have hz : q = (0, f) := (by obtain ⟨fd, hfd⟩ : ∃ fd, fq = fd + 1 := (⟨fq - 1, (by omega)⟩); rw [hq, hfd]; exact quoF_p c_11); rw [hz])
    exact kRetI hx hb hr hlk dX0_questionsUntilOne_21 hP hD hS (Nat.le_of_ble_eq_true rfl) (Nat.le_of_ble_eq_true rfl) ⟨(kpi (by first | (rw [hfin]; done) | (have hz : q = (0, f) := (by obtain ⟨fd, hfd⟩ : ∃ fd, fq = fd + 1 := (⟨fq - 1, (by omega)⟩); rw [hq, hfd]; exact quoF_p c_11); rw [hz]))), (kw1 (fun (z_0 : Nat → Int32) => ([(h, .inl (cI, LN, .inl z_0))] : va_W)) ew_0)⟩
  · skip
    refine lv_iload_n hx hb dX0_questionsUntilOne_14 rfl (lv_at hl 4 rfl) ?_
    refine lv_bipush (v := 12) hx hb dX0_questionsUntilOne_15 (by decide) ?_
    refine lv_icmp_lt (tgt := 22) hx hb dX0_questionsUntilOne_17 (by decide) (fun c_17 => ?_) (fun c_17 => ?_)
    · skip
      refine lv_aload_n hx hb dX0_questionsUntilOne_22 rfl (lv_at hl 1 rfl) ?_
      refine lv_iload_n hx hb dX0_questionsUntilOne_23 rfl (lv_at hl 2 rfl) ?_
      refine lv_iload_n hx hb dX0_questionsUntilOne_24 rfl (lv_at hl 3 rfl) ?_
      refine lv_iload hx hb dX0_questionsUntilOne_25 (lv_at hl 0 rfl) ?_
      refine kGo (wc := [(h, .inl (cI, LN, .inl f))]) (wr := []) (va_runS (As := [.ref h, .int (nI a), .int (nI b), .int ((bestF f a (b - a) 12).1)]) (rest := []) ⟨hx, hb, hml, hown, hts⟩ (c_X0_split l D cI cJ cZ cO h LN f a b ((bestF f a (b - a) 12).1) (by first | assumption | omega | decide) (by first | assumption | omega | decide) (by first | assumption | omega | decide) _) (va_cwS 4 hts gX0_questionsUntilOne_X0_split rfl rfl rfl (by decide +kernel) ⟨Nat.le_of_ble_eq_true rfl, Nat.le_of_ble_eq_true rfl⟩) (kPreS hK (kPc_sub hP [0] rfl) ((hD.sub [0] (by decide) rfl).weaken (fun _ _ _ _ => trivial))) rfl rfl hl.1 rfl (lv_room (Nat.le_of_ble_eq_true rfl)) dX0_questionsUntilOne_27 ⟨Nat.le_of_ble_eq_true rfl, Nat.le_of_ble_eq_true rfl⟩) hP hD hS hA [0] [] rfl rfl (by decide) (by decide) (fun v_2 w_2 H locs hv_2 hP hD hS => ?_)
      obtain ⟨rfl, rfl⟩ := hv_2
      have hP : va_P D vwCl [(h, .inl (cI, LN, .inl ((splF f ((bestF f a (b - a) 12).1) a (b - a)).1)))] H := hP.sub [0] rfl
      have hD : va_D _ [(h, .inl (cI, LN, .inl ((splF f ((bestF f a (b - a) 12).1) a (b - a)).1)))] := hD.sub [0] (by decide) rfl
      refine W.eq (g2 := F0 m 30 ls [.int (nI (splF f ((bestF f a (b - a) 12).1) a (b - a)).2)]) rfl ?_
      have hs1 := splF_ge f (bestF f a (b - a) 12).1 a (b - a)
      have hs2 := splF_le f (bestF f a (b - a) 12).1 a (b - a)
      obtain ⟨fd, hfd⟩ : ∃ fd, fq = fd + 1 := ⟨fq - 1, by omega⟩
      obtain ⟨q1, hq1⟩ : ∃ q1, q1 = quoF fd (splF f (bestF f a (b - a) 12).1 a (b - a)).1 a (splF f (bestF f a (b - a) 12).1 a (b - a)).2 := ⟨_, rfl⟩
      obtain ⟨q2, hq2⟩ : ∃ q2, q2 = quoF fd q1.2 (splF f (bestF f a (b - a) 12).1 a (b - a)).2 b := ⟨_, rfl⟩
      have hfin : q = (1 + kmax q1.1 q2.1, q2.2) := by rw [hq, hfd, quoF_n c_11, hq2, hq1]
      refine lv_istore (lv' := [(5, .int (nI (splF f ((bestF f a (b - a) 12).1) a (b - a)).2)), (4, .int ((bestF f a (b - a) 12).1)), (0, .ref h), (1, .int (nI a)), (2, .int (nI b)), (3, .int 1)]) hx hb dX0_questionsUntilOne_30 hl (by decide) rfl (fun ls hl => ?_)
      refine lv_aload_n hx hb dX0_questionsUntilOne_32 rfl (lv_at hl 2 rfl) ?_
      refine lv_iload_n hx hb dX0_questionsUntilOne_33 rfl (lv_at hl 3 rfl) ?_
      refine lv_iload hx hb dX0_questionsUntilOne_34 (lv_at hl 0 rfl) ?_
      refine lv_iload_n hx hb dX0_questionsUntilOne_36 rfl (lv_at hl 5 rfl) ?_
      refine lv_iconst (v := 1) hx hb dX0_questionsUntilOne_37 (by decide) ?_
      refine lv_iadd hx hb dX0_questionsUntilOne_38 ?_
      refine lv_topi (fun nv_3 ev_3 => ?_)
      obtain rfl : nv_3 = 2 := ev_3.trans (by decide)
      refine kGo (wc := [(h, .inl (cI, LN, .inl ((splF f ((bestF f a (b - a) 12).1) a (b - a)).1)))]) (wr := []) (va_runS (As := [.ref h, .int (nI a), .int (nI (splF f ((bestF f a (b - a) 12).1) a (b - a)).2), .int 2]) (rest := []) ⟨hx, hb, hml, hown, hts⟩ (c_X0_quo_2 l D cI cJ cZ cO h LN ((splF f ((bestF f a (b - a) 12).1) a (b - a)).1) a ((splF f ((bestF f a (b - a) 12).1) a (b - a)).2) fd q1 (by first | assumption | omega | decide) (by first | assumption | omega | decide) (by first | assumption | omega | decide) (by omega) (hq1) _) (va_cwS 4 hts gX0_questionsUntilOne_X0_questionsUntilOne rfl rfl rfl (by decide +kernel) ⟨Nat.le_of_ble_eq_true rfl, Nat.le_of_ble_eq_true rfl⟩) (kPreS hK (kPc_sub hP [0] rfl) ((hD.sub [0] (by decide) rfl).weaken (fun _ _ _ _ => trivial))) rfl rfl hl.1 rfl (lv_room (Nat.le_of_ble_eq_true rfl)) dX0_questionsUntilOne_39 ⟨Nat.le_of_ble_eq_true rfl, Nat.le_of_ble_eq_true rfl⟩) hP hD hS hA [0] [] rfl rfl (by decide) (by decide) (fun v_4 w_4 H locs hv_4 hP hD hS => ?_)
      obtain ⟨rfl, rfl⟩ := hv_4
      have hP : va_P D vwCl [(h, .inl (cI, LN, .inl q1.2))] H := hP.sub [0] rfl
      have hD : va_D _ [(h, .inl (cI, LN, .inl q1.2))] := hD.sub [0] (by decide) rfl
      refine W.eq (g2 := F0 m 42 ls [.int q1.1]) rfl ?_
      refine lv_istore (lv' := [(6, .int q1.1), (5, .int (nI (splF f ((bestF f a (b - a) 12).1) a (b - a)).2)), (4, .int ((bestF f a (b - a) 12).1)), (0, .ref h), (1, .int (nI a)), (2, .int (nI b)), (3, .int 1)]) hx hb dX0_questionsUntilOne_42 hl (by decide) rfl (fun ls hl => ?_)
      refine lv_aload_n hx hb dX0_questionsUntilOne_44 rfl (lv_at hl 3 rfl) ?_
      refine lv_iload hx hb dX0_questionsUntilOne_45 (lv_at hl 1 rfl) ?_
      refine lv_iload_n hx hb dX0_questionsUntilOne_47 rfl (lv_at hl 5 rfl) ?_
      refine lv_iload_n hx hb dX0_questionsUntilOne_48 rfl (lv_at hl 6 rfl) ?_
      refine lv_iconst (v := 1) hx hb dX0_questionsUntilOne_49 (by decide) ?_
      refine lv_iadd hx hb dX0_questionsUntilOne_50 ?_
      refine lv_topi (fun nv_5 ev_5 => ?_)
      obtain rfl : nv_5 = 2 := ev_5.trans (by decide)
      refine kGo (wc := [(h, .inl (cI, LN, .inl q1.2))]) (wr := []) (va_runS (As := [.ref h, .int (nI (splF f ((bestF f a (b - a) 12).1) a (b - a)).2), .int (nI b), .int 2]) (rest := []) ⟨hx, hb, hml, hown, hts⟩ (c_X0_quo_2 l D cI cJ cZ cO h LN q1.2 ((splF f ((bestF f a (b - a) 12).1) a (b - a)).2) b fd q2 (by first | assumption | omega | decide) (by first | assumption | omega | decide) (by first | assumption | omega | decide) (by omega) (hq2) _) (va_cwS 4 hts gX0_questionsUntilOne_X0_questionsUntilOne rfl rfl rfl (by decide +kernel) ⟨Nat.le_of_ble_eq_true rfl, Nat.le_of_ble_eq_true rfl⟩) (kPreS hK (kPc_sub hP [0] rfl) ((hD.sub [0] (by decide) rfl).weaken (fun _ _ _ _ => trivial))) rfl rfl hl.1 rfl (lv_room (Nat.le_of_ble_eq_true rfl)) dX0_questionsUntilOne_51 ⟨Nat.le_of_ble_eq_true rfl, Nat.le_of_ble_eq_true rfl⟩) hP hD hS hA [0] [] rfl rfl (by decide) (by decide) (fun v_6 w_6 H locs hv_6 hP hD hS => ?_)
      obtain ⟨rfl, rfl⟩ := hv_6
      have hP : va_P D vwCl [(h, .inl (cI, LN, .inl q2.2))] H := hP.sub [0] rfl
      have hD : va_D _ [(h, .inl (cI, LN, .inl q2.2))] := hD.sub [0] (by decide) rfl
      refine W.eq (g2 := F0 m 54 ls [.int q2.1]) rfl ?_
      refine lv_istore (lv' := [(7, .int q2.1), (6, .int q1.1), (5, .int (nI (splF f ((bestF f a (b - a) 12).1) a (b - a)).2)), (4, .int ((bestF f a (b - a) 12).1)), (0, .ref h), (1, .int (nI a)), (2, .int (nI b)), (3, .int 1)]) hx hb dX0_questionsUntilOne_54 hl (by decide) rfl (fun ls hl => ?_)
      refine lv_iconst (v := 1) hx hb dX0_questionsUntilOne_56 (by decide) ?_
      refine lv_iload hx hb dX0_questionsUntilOne_57 (lv_at hl 1 rfl) ?_
      refine lv_iload hx hb dX0_questionsUntilOne_59 (lv_at hl 0 rfl) ?_
      refine va_mmax hx hb (by rw [hml]; exact hl.1.symm) hown hw_m47 hw_stmax hw_iM hw_cMmax (Nat.le_of_ble_eq_true rfl) (Nat.le_of_ble_eq_true rfl) (Nat.le_of_ble_eq_true rfl) (Nat.le_of_ble_eq_true rfl) dX0_questionsUntilOne_61 ?_
      refine W.eq (g2 := F0 m 64 ls [.int (kmax q1.1 q2.1), .int 1]) rfl ?_
      refine lv_iadd hx hb dX0_questionsUntilOne_64 ?_
      have ew_0 : (q2.2 : Nat → Int32) = q.2 := by first | (rw [hfin]; done) | (have hz : q = (0, f) := (by obtain ⟨fd, hfd⟩ : ∃ fd, fq = fd + 1 := (⟨fq - 1, (by omega)⟩); rw [hq, hfd]; exact quoF_p c_11); rw [hz])
      exact kRetI hx hb hr hlk dX0_questionsUntilOne_65 hP hD hS (Nat.le_of_ble_eq_true rfl) (Nat.le_of_ble_eq_true rfl) ⟨(kpi (by first | (rw [hfin]; done) | (have hz : q = (0, f) := (by obtain ⟨fd, hfd⟩ : ∃ fd, fq = fd + 1 := (⟨fq - 1, (by omega)⟩); rw [hq, hfd]; exact quoF_p c_11); rw [hz]))), (kw1 (fun (z_0 : Nat → Int32) => ([(h, .inl (cI, LN, .inl z_0))] : va_W)) ew_0)⟩
    · exact absurd (by decide) c_17

set_option maxHeartbeats 4000000 in
set_option maxRecDepth 100000 in
theorem c_X0_quo_0 (l : Launch) (D : va_G) (cI cJ cZ cO : ClassId) (h : Nat) (LN : Nat) (f : Nat → Int32) (a : Nat) (b : Nat) (fq : Nat) (q : Int32 × (Nat → Int32)) (hL : LN ≤ 4096) (hab : a ≤ b) (hb2 : b ≤ LN) (hfu : fq = 12 - 0) (hq : q = quoF fq f a b) : kC l D (kTY cI cJ cZ cO) yX0_questionsUntilOne wsX0_questionsUntilOne 15 397 0 0 [.ref h, .int (nI a), .int (nI b), .int 0] [(h, .inl (cI, LN, .inl f))] (fun rv_ rw_ => rv_ = some (.int q.1) ∧ rw_ = [(h, .inl (cI, LN, .inl q.2))]) := by
  refine kEnter (cc := cX0_questionsUntilOne) (maxL := 8) (ret := (some .int)) (by decide) rfl (Nat.le_of_ble_eq_true rfl) ?_
  intro p e s m args below meth c hx hb hr hml hts hown hlk hnm hK hP hD hS hA ls hl
  have hl : lv_has ls 8 [(0, .ref h), (1, .int (nI a)), (2, .int (nI b)), (3, .int 0)] := hl
  have hw_m47 := hts (.methodLink RX0 47 Lib.Math.max.name) (by decide +kernel)
  have hw_stmax := hts (.static Lib.Math.max.name) (by decide +kernel)
  have hw_iM := hts (.initialized "java/lang/Math") (by decide +kernel)
  have hw_cMmax := hts (.code Lib.Math.max.name Lib.Math.max.code 2 (some .int)) (by decide +kernel)
  refine lv_aload_n hx hb dX0_questionsUntilOne_0 rfl (lv_at hl 0 rfl) ?_
  refine lv_iload_n hx hb dX0_questionsUntilOne_1 rfl (lv_at hl 1 rfl) ?_
  refine lv_iload_n hx hb dX0_questionsUntilOne_2 rfl (lv_at hl 2 rfl) ?_
  refine kGoR (va_runS (As := [.ref h, .int (nI a), .int (nI b)]) (rest := []) ⟨hx, hb, hml, hown, hts⟩ (c_X0_bestTopic l D cI cJ cZ cO h LN f a b (by first | assumption | omega | decide) (by first | assumption | omega | decide) (by first | assumption | omega | decide)) (va_cwS 3 hts gX0_questionsUntilOne_X0_bestTopic rfl rfl rfl (by decide +kernel) ⟨Nat.le_of_ble_eq_true rfl, Nat.le_of_ble_eq_true rfl⟩) (kPreSR hK (kPc_sub hP [0] rfl)) rfl rfl hl.1 rfl (lv_room (Nat.le_of_ble_eq_true rfl)) dX0_questionsUntilOne_3 ⟨Nat.le_of_ble_eq_true rfl, Nat.le_of_ble_eq_true rfl⟩) (fun v_1 hv_1 => ?_)
  obtain rfl := hv_1
  refine W.eq (g2 := F0 m 6 ls [.int ((bestF f a (b - a) 12).1)]) rfl ?_
  refine lv_istore (lv' := [(4, .int ((bestF f a (b - a) 12).1)), (0, .ref h), (1, .int (nI a)), (2, .int (nI b)), (3, .int 0)]) hx hb dX0_questionsUntilOne_6 hl (by decide) rfl (fun ls hl => ?_)
  refine lv_iload hx hb dX0_questionsUntilOne_8 (lv_at hl 0 rfl) ?_
  refine lv_iconst (v := (-1)) hx hb dX0_questionsUntilOne_10 (by decide) ?_
  refine lv_icmp_eq (tgt := 20) hx hb dX0_questionsUntilOne_11 (by decide) (fun c_11 => ?_) (fun c_11 => ?_)
  · skip
    refine lv_iconst (v := 0) hx hb dX0_questionsUntilOne_20 (by decide) ?_
    have ew_0 : (f : Nat → Int32) = q.2 := by first | (rw [hfin]; done) | (have hz : q = (0, f) := (by obtain ⟨fd, hfd⟩ : ∃ fd, fq = fd + 1 := (⟨fq - 1, (by omega)⟩); rw [hq, hfd]; exact quoF_p c_11); rw [hz])
    exact kRetI hx hb hr hlk dX0_questionsUntilOne_21 hP hD hS (Nat.le_of_ble_eq_true rfl) (Nat.le_of_ble_eq_true rfl) ⟨(kpi (by first | (rw [hfin]; done) | (have hz : q = (0, f) := (by obtain ⟨fd, hfd⟩ : ∃ fd, fq = fd + 1 := (⟨fq - 1, (by omega)⟩); rw [hq, hfd]; exact quoF_p c_11); rw [hz]))), (kw1 (fun (z_0 : Nat → Int32) => ([(h, .inl (cI, LN, .inl z_0))] : va_W)) ew_0)⟩
  · skip
    refine lv_iload_n hx hb dX0_questionsUntilOne_14 rfl (lv_at hl 4 rfl) ?_
    refine lv_bipush (v := 12) hx hb dX0_questionsUntilOne_15 (by decide) ?_
    refine lv_icmp_lt (tgt := 22) hx hb dX0_questionsUntilOne_17 (by decide) (fun c_17 => ?_) (fun c_17 => ?_)
    · skip
      refine lv_aload_n hx hb dX0_questionsUntilOne_22 rfl (lv_at hl 1 rfl) ?_
      refine lv_iload_n hx hb dX0_questionsUntilOne_23 rfl (lv_at hl 2 rfl) ?_
      refine lv_iload_n hx hb dX0_questionsUntilOne_24 rfl (lv_at hl 3 rfl) ?_
      refine lv_iload hx hb dX0_questionsUntilOne_25 (lv_at hl 0 rfl) ?_
      refine kGo (wc := [(h, .inl (cI, LN, .inl f))]) (wr := []) (va_runS (As := [.ref h, .int (nI a), .int (nI b), .int ((bestF f a (b - a) 12).1)]) (rest := []) ⟨hx, hb, hml, hown, hts⟩ (c_X0_split l D cI cJ cZ cO h LN f a b ((bestF f a (b - a) 12).1) (by first | assumption | omega | decide) (by first | assumption | omega | decide) (by first | assumption | omega | decide) _) (va_cwS 4 hts gX0_questionsUntilOne_X0_split rfl rfl rfl (by decide +kernel) ⟨Nat.le_of_ble_eq_true rfl, Nat.le_of_ble_eq_true rfl⟩) (kPreS hK (kPc_sub hP [0] rfl) ((hD.sub [0] (by decide) rfl).weaken (fun _ _ _ _ => trivial))) rfl rfl hl.1 rfl (lv_room (Nat.le_of_ble_eq_true rfl)) dX0_questionsUntilOne_27 ⟨Nat.le_of_ble_eq_true rfl, Nat.le_of_ble_eq_true rfl⟩) hP hD hS hA [0] [] rfl rfl (by decide) (by decide) (fun v_2 w_2 H locs hv_2 hP hD hS => ?_)
      obtain ⟨rfl, rfl⟩ := hv_2
      have hP : va_P D vwCl [(h, .inl (cI, LN, .inl ((splF f ((bestF f a (b - a) 12).1) a (b - a)).1)))] H := hP.sub [0] rfl
      have hD : va_D _ [(h, .inl (cI, LN, .inl ((splF f ((bestF f a (b - a) 12).1) a (b - a)).1)))] := hD.sub [0] (by decide) rfl
      refine W.eq (g2 := F0 m 30 ls [.int (nI (splF f ((bestF f a (b - a) 12).1) a (b - a)).2)]) rfl ?_
      have hs1 := splF_ge f (bestF f a (b - a) 12).1 a (b - a)
      have hs2 := splF_le f (bestF f a (b - a) 12).1 a (b - a)
      obtain ⟨fd, hfd⟩ : ∃ fd, fq = fd + 1 := ⟨fq - 1, by omega⟩
      obtain ⟨q1, hq1⟩ : ∃ q1, q1 = quoF fd (splF f (bestF f a (b - a) 12).1 a (b - a)).1 a (splF f (bestF f a (b - a) 12).1 a (b - a)).2 := ⟨_, rfl⟩
      obtain ⟨q2, hq2⟩ : ∃ q2, q2 = quoF fd q1.2 (splF f (bestF f a (b - a) 12).1 a (b - a)).2 b := ⟨_, rfl⟩
      have hfin : q = (1 + kmax q1.1 q2.1, q2.2) := by rw [hq, hfd, quoF_n c_11, hq2, hq1]
      refine lv_istore (lv' := [(5, .int (nI (splF f ((bestF f a (b - a) 12).1) a (b - a)).2)), (4, .int ((bestF f a (b - a) 12).1)), (0, .ref h), (1, .int (nI a)), (2, .int (nI b)), (3, .int 0)]) hx hb dX0_questionsUntilOne_30 hl (by decide) rfl (fun ls hl => ?_)
      refine lv_aload_n hx hb dX0_questionsUntilOne_32 rfl (lv_at hl 2 rfl) ?_
      refine lv_iload_n hx hb dX0_questionsUntilOne_33 rfl (lv_at hl 3 rfl) ?_
      refine lv_iload hx hb dX0_questionsUntilOne_34 (lv_at hl 0 rfl) ?_
      refine lv_iload_n hx hb dX0_questionsUntilOne_36 rfl (lv_at hl 5 rfl) ?_
      refine lv_iconst (v := 1) hx hb dX0_questionsUntilOne_37 (by decide) ?_
      refine lv_iadd hx hb dX0_questionsUntilOne_38 ?_
      refine lv_topi (fun nv_3 ev_3 => ?_)
      obtain rfl : nv_3 = 1 := ev_3.trans (by decide)
      refine kGo (wc := [(h, .inl (cI, LN, .inl ((splF f ((bestF f a (b - a) 12).1) a (b - a)).1)))]) (wr := []) (va_runS (As := [.ref h, .int (nI a), .int (nI (splF f ((bestF f a (b - a) 12).1) a (b - a)).2), .int 1]) (rest := []) ⟨hx, hb, hml, hown, hts⟩ (c_X0_quo_1 l D cI cJ cZ cO h LN ((splF f ((bestF f a (b - a) 12).1) a (b - a)).1) a ((splF f ((bestF f a (b - a) 12).1) a (b - a)).2) fd q1 (by first | assumption | omega | decide) (by first | assumption | omega | decide) (by first | assumption | omega | decide) (by omega) (hq1) _) (va_cwS 4 hts gX0_questionsUntilOne_X0_questionsUntilOne rfl rfl rfl (by decide +kernel) ⟨Nat.le_of_ble_eq_true rfl, Nat.le_of_ble_eq_true rfl⟩) (kPreS hK (kPc_sub hP [0] rfl) ((hD.sub [0] (by decide) rfl).weaken (fun _ _ _ _ => trivial))) rfl rfl hl.1 rfl (lv_room (Nat.le_of_ble_eq_true rfl)) dX0_questionsUntilOne_39 ⟨Nat.le_of_ble_eq_true rfl, Nat.le_of_ble_eq_true rfl⟩) hP hD hS hA [0] [] rfl rfl (by decide) (by decide) (fun v_4 w_4 H locs hv_4 hP hD hS => ?_)
      obtain ⟨rfl, rfl⟩ := hv_4
      have hP : va_P D vwCl [(h, .inl (cI, LN, .inl q1.2))] H := hP.sub [0] rfl
      have hD : va_D _ [(h, .inl (cI, LN, .inl q1.2))] := hD.sub [0] (by decide) rfl
      refine W.eq (g2 := F0 m 42 ls [.int q1.1]) rfl ?_
      refine lv_istore (lv' := [(6, .int q1.1), (5, .int (nI (splF f ((bestF f a (b - a) 12).1) a (b - a)).2)), (4, .int ((bestF f a (b - a) 12).1)), (0, .ref h), (1, .int (nI a)), (2, .int (nI b)), (3, .int 0)]) hx hb dX0_questionsUntilOne_42 hl (by decide) rfl (fun ls hl => ?_)
      refine lv_aload_n hx hb dX0_questionsUntilOne_44 rfl (lv_at hl 3 rfl) ?_
      refine lv_iload hx hb dX0_questionsUntilOne_45 (lv_at hl 1 rfl) ?_
      refine lv_iload_n hx hb dX0_questionsUntilOne_47 rfl (lv_at hl 5 rfl) ?_
      refine lv_iload_n hx hb dX0_questionsUntilOne_48 rfl (lv_at hl 6 rfl) ?_
      refine lv_iconst (v := 1) hx hb dX0_questionsUntilOne_49 (by decide) ?_
      refine lv_iadd hx hb dX0_questionsUntilOne_50 ?_
      refine lv_topi (fun nv_5 ev_5 => ?_)
      obtain rfl : nv_5 = 1 := ev_5.trans (by decide)
      refine kGo (wc := [(h, .inl (cI, LN, .inl q1.2))]) (wr := []) (va_runS (As := [.ref h, .int (nI (splF f ((bestF f a (b - a) 12).1) a (b - a)).2), .int (nI b), .int 1]) (rest := []) ⟨hx, hb, hml, hown, hts⟩ (c_X0_quo_1 l D cI cJ cZ cO h LN q1.2 ((splF f ((bestF f a (b - a) 12).1) a (b - a)).2) b fd q2 (by first | assumption | omega | decide) (by first | assumption | omega | decide) (by first | assumption | omega | decide) (by omega) (hq2) _) (va_cwS 4 hts gX0_questionsUntilOne_X0_questionsUntilOne rfl rfl rfl (by decide +kernel) ⟨Nat.le_of_ble_eq_true rfl, Nat.le_of_ble_eq_true rfl⟩) (kPreS hK (kPc_sub hP [0] rfl) ((hD.sub [0] (by decide) rfl).weaken (fun _ _ _ _ => trivial))) rfl rfl hl.1 rfl (lv_room (Nat.le_of_ble_eq_true rfl)) dX0_questionsUntilOne_51 ⟨Nat.le_of_ble_eq_true rfl, Nat.le_of_ble_eq_true rfl⟩) hP hD hS hA [0] [] rfl rfl (by decide) (by decide) (fun v_6 w_6 H locs hv_6 hP hD hS => ?_)
      obtain ⟨rfl, rfl⟩ := hv_6
      have hP : va_P D vwCl [(h, .inl (cI, LN, .inl q2.2))] H := hP.sub [0] rfl
      have hD : va_D _ [(h, .inl (cI, LN, .inl q2.2))] := hD.sub [0] (by decide) rfl
      refine W.eq (g2 := F0 m 54 ls [.int q2.1]) rfl ?_
      refine lv_istore (lv' := [(7, .int q2.1), (6, .int q1.1), (5, .int (nI (splF f ((bestF f a (b - a) 12).1) a (b - a)).2)), (4, .int ((bestF f a (b - a) 12).1)), (0, .ref h), (1, .int (nI a)), (2, .int (nI b)), (3, .int 0)]) hx hb dX0_questionsUntilOne_54 hl (by decide) rfl (fun ls hl => ?_)
      refine lv_iconst (v := 1) hx hb dX0_questionsUntilOne_56 (by decide) ?_
      refine lv_iload hx hb dX0_questionsUntilOne_57 (lv_at hl 1 rfl) ?_
      refine lv_iload hx hb dX0_questionsUntilOne_59 (lv_at hl 0 rfl) ?_
      refine va_mmax hx hb (by rw [hml]; exact hl.1.symm) hown hw_m47 hw_stmax hw_iM hw_cMmax (Nat.le_of_ble_eq_true rfl) (Nat.le_of_ble_eq_true rfl) (Nat.le_of_ble_eq_true rfl) (Nat.le_of_ble_eq_true rfl) dX0_questionsUntilOne_61 ?_
      refine W.eq (g2 := F0 m 64 ls [.int (kmax q1.1 q2.1), .int 1]) rfl ?_
      refine lv_iadd hx hb dX0_questionsUntilOne_64 ?_
      have ew_0 : (q2.2 : Nat → Int32) = q.2 := by first | (rw [hfin]; done) | (have hz : q = (0, f) := (by obtain ⟨fd, hfd⟩ : ∃ fd, fq = fd + 1 := (⟨fq - 1, (by omega)⟩); rw [hq, hfd]; exact quoF_p c_11); rw [hz])
      exact kRetI hx hb hr hlk dX0_questionsUntilOne_65 hP hD hS (Nat.le_of_ble_eq_true rfl) (Nat.le_of_ble_eq_true rfl) ⟨(kpi (by first | (rw [hfin]; done) | (have hz : q = (0, f) := (by obtain ⟨fd, hfd⟩ : ∃ fd, fq = fd + 1 := (⟨fq - 1, (by omega)⟩); rw [hq, hfd]; exact quoF_p c_11); rw [hz]))), (kw1 (fun (z_0 : Nat → Int32) => ([(h, .inl (cI, LN, .inl z_0))] : va_W)) ew_0)⟩
    · exact absurd (by decide) c_17

set_option maxHeartbeats 4000000 in
set_option maxRecDepth 100000 in
theorem c_X0_mostQuestions (l : Launch) (D : va_G) (cI cJ cZ cO : ClassId) (h0 : Nat) (h1 : Nat) (h2 : Nat) (n : Nat) (an : Int32) (f : Nat → Int32) (g : Nat → Int32) (fq : Nat) (q : Int32 × (Nat → Int32)) (hn : n ≤ 4096) (hfu : fq = 12) (hq : q = quoF fq (becF g f n) 0 n) : kC l D (kTY cI cJ cZ cO) yX0_mostQuestions wsX0_mostQuestions 16 424 0 0 [.ref h0] [(h0, .inr (1, [.ref h1, .ref h2, .int (nI n), .int an])), (h1, .inl (cI, 4096, .inl f)), (h2, .inl (cI, 64, .inl g))] (fun rv_ rw_ => rv_ = some (.int (if n ≤ 64 then q.1 else -1)) ∧ rw_ = [(h0, .inr (1, [.ref h1, .ref h2, .int (nI n), .int an])), (h1, .inl (cI, 4096, .inl f)), (h2, .inl (cI, 64, .inl (if n ≤ 64 then q.2 else g)))]) := by
  refine kEnter (cc := cX0_mostQuestions) (maxL := 2) (ret := (some .int)) (by decide) rfl (Nat.le_of_ble_eq_true rfl) ?_
  intro p e s m args below meth c hx hb hr hml hts hown hlk hnm hK hP hD hS hA ls hl
  have hl : lv_has ls 2 [(0, .ref h0)] := hl
  have hw_f18 := hts (.fieldLink RX0 18 "WhatToRead$Asking" "count" "I") (by decide +kernel)
  have hi_X0 : ∀ w ∈ wsX00, w ∈ wsX0_mostQuestions := by decide +kernel
  have hw_f15 := hts (.fieldLink RX0 15 "WhatToRead$Asking" "scratch" "[I") (by decide +kernel)
  have hw_f9 := hts (.fieldLink RX0 9 "WhatToRead$Asking" "sets" "[I") (by decide +kernel)
  refine lv_aload_n hx hb dX0_mostQuestions_0 rfl (lv_at hl 0 rfl) ?_
  refine va_get (D := D) (ci := 1) (v := .int (nI n)) (C := RX0) (T := TX0) (N := 4) hx hb hts hi_X0 hown hK.1 hP 0 rfl rfl 2 (by decide) hw_f18 (fun _ h9 => h9) rfl dX0_mostQuestions_1 ?_
  refine lv_aload_n hx hb dX0_mostQuestions_4 rfl (lv_at hl 0 rfl) ?_
  refine va_get (D := D) (ci := 1) (v := .ref h2) (C := RX0) (T := TX0) (N := 4) hx hb hts hi_X0 hown hK.1 hP 0 rfl rfl 1 (by decide) hw_f15 (fun _ h9 => h9) rfl dX0_mostQuestions_5 ?_
  refine va_alen (v := 64) hx hb hK.1 hP 2 0 rfl rfl rfl dX0_mostQuestions_8 ?_
  refine lv_icmp_le (tgt := 14) hx hb dX0_mostQuestions_9 (by decide) (fun c_9 => ?_) (fun c_9 => ?_)
  · skip
    have nc_9 : n ≤ 64 := (nI_leI (a := n) (b := 64) (by omega) (by omega)).mp c_9
    refine lv_iconst (v := 0) hx hb dX0_mostQuestions_14 (by decide) ?_
    refine lv_istore_n (lv' := [(1, .int 0), (0, .ref h0)]) hx hb dX0_mostQuestions_15 rfl hl (by decide) rfl (fun ls hl => ?_)
    have hloop_16 : ∀ (fu : Nat) (i : Nat) (x : Nat → Int32), n - i < fu → i ≤ n → x = becF g f i → ∀ (H : Heap) (locs : List Loc), va_P D vwCl [(h0, .inr (1, [.ref h1, .ref h2, .int (nI n), .int an])), (h1, .inl (cI, 4096, .inl f)), (h2, .inl (cI, 64, .inl x))] H → va_D (va_A [(h0, .inr (1, [.ref h1, .ref h2, .int (nI n), .int an])), (h1, .inl (cI, 4096, .inl f)), (h2, .inl (cI, 64, .inl g))] s.heap.size) [(h0, .inr (1, [.ref h1, .ref h2, .int (nI n), .int an])), (h1, .inl (cI, 4096, .inl f)), (h2, .inl (cI, 64, .inl x))] → va_S (va_A [(h0, .inr (1, [.ref h1, .ref h2, .int (nI n), .int an])), (h1, .inl (cI, 4096, .inl f)), (h2, .inl (cI, 64, .inl g))] s.heap.size) s.heap H locs → ∀ ls : Array Slot, lv_has ls 2 [(0, .ref h0), (1, .int (nI i))] → W p l e ({ frames := 16, cells := 0, slots := 0, locals := 424 }) s m args below meth c H locs 0 0 (MQ below (kQ D [(h0, .inr (1, [.ref h1, .ref h2, .int (nI n), .int an])), (h1, .inl (cI, 4096, .inl f)), (h2, .inl (cI, 64, .inl g))] s.heap.size (fun rv_ rw_ => rv_ = some (.int (if n ≤ 64 then q.1 else -1)) ∧ rw_ = [(h0, .inr (1, [.ref h1, .ref h2, .int (nI n), .int an])), (h1, .inl (cI, 4096, .inl f)), (h2, .inl (cI, 64, .inl (if n ≤ 64 then q.2 else g)))])) args s 0 0 (va_A [(h0, .inr (1, [.ref h1, .ref h2, .int (nI n), .int an])), (h1, .inl (cI, 4096, .inl f)), (h2, .inl (cI, 64, .inl g))] s.heap.size)) (F0 m 16 ls []) := by
      intro fu
      induction fu with
      | zero => intro i x hmu; exact absurd hmu (Nat.not_lt_zero _)
      | succ fu ih_16 =>
        intro i x hmu_16 hi ex H locs hP hD hS ls hl
        refine lv_iload_n hx hb dX0_mostQuestions_16 rfl (lv_at hl 1 rfl) ?_
        refine lv_aload_n hx hb dX0_mostQuestions_17 rfl (lv_at hl 0 rfl) ?_
        refine va_get (D := D) (ci := 1) (v := .int (nI n)) (C := RX0) (T := TX0) (N := 4) hx hb hts hi_X0 hown hK.1 hP 0 rfl rfl 2 (by decide) hw_f18 (fun _ h9 => h9) rfl dX0_mostQuestions_18 ?_
        refine lv_icmp_ge (tgt := 51) hx hb dX0_mostQuestions_21 (by decide) (fun c_21 => ?_) (fun c_21 => ?_)
        · skip
          have nc_21 : n ≤ i := (nI_leI (a := n) (b := i) (by omega) (by omega)).mp c_21
          have e12 : i = n := by omega
          rw [show (x : Nat → Int32) = becF g f n from by rw [ex, e12]] at hP hD
          refine lv_aload_n hx hb dX0_mostQuestions_51 rfl (lv_at hl 0 rfl) ?_
          refine va_get (D := D) (ci := 1) (v := .ref h2) (C := RX0) (T := TX0) (N := 4) hx hb hts hi_X0 hown hK.1 hP 0 rfl rfl 1 (by decide) hw_f15 (fun _ h9 => h9) rfl dX0_mostQuestions_52 ?_
          refine lv_iconst (v := 0) hx hb dX0_mostQuestions_55 (by decide) ?_
          refine lv_aload_n hx hb dX0_mostQuestions_56 rfl (lv_at hl 0 rfl) ?_
          refine va_get (D := D) (ci := 1) (v := .int (nI n)) (C := RX0) (T := TX0) (N := 4) hx hb hts hi_X0 hown hK.1 hP 0 rfl rfl 2 (by decide) hw_f18 (fun _ h9 => h9) rfl dX0_mostQuestions_57 ?_
          refine lv_iconst (v := 0) hx hb dX0_mostQuestions_60 (by decide) ?_
          refine kGo (wc := [(h2, .inl (cI, 64, .inl (becF g f n)))]) (wr := [(h0, .inr (1, [.ref h1, .ref h2, .int (nI n), .int an])), (h1, .inl (cI, 4096, .inl f))]) (va_runS (As := [.ref h2, .int 0, .int (nI n), .int 0]) (rest := []) ⟨hx, hb, hml, hown, hts⟩ (c_X0_quo_0 l D cI cJ cZ cO h2 64 (becF g f n) 0 n fq q (by decide) (Nat.zero_le _) (by omega) (by omega) (hq) _) (va_cwS 4 hts gX0_mostQuestions_X0_questionsUntilOne rfl rfl rfl (by decide +kernel) ⟨Nat.le_of_ble_eq_true rfl, Nat.le_of_ble_eq_true rfl⟩) (kPreS hK (kPc_sub hP [2] rfl) ((hD.sub [2] (by decide) rfl).weaken (fun _ _ _ _ => trivial))) rfl rfl hl.1 rfl (lv_room (Nat.le_of_ble_eq_true rfl)) dX0_mostQuestions_61 ⟨Nat.le_of_ble_eq_true rfl, Nat.le_of_ble_eq_true rfl⟩) hP hD hS hA [2] [0, 1] rfl rfl (by decide) (by decide) (fun v_1 w_1 H locs hv_1 hP hD hS => ?_)
          obtain ⟨rfl, rfl⟩ := hv_1
          have hP : va_P D vwCl [(h0, .inr (1, [.ref h1, .ref h2, .int (nI n), .int an])), (h1, .inl (cI, 4096, .inl f)), (h2, .inl (cI, 64, .inl q.2))] H := hP.sub [0, 1, 2] rfl
          have hD : va_D _ [(h0, .inr (1, [.ref h1, .ref h2, .int (nI n), .int an])), (h1, .inl (cI, 4096, .inl f)), (h2, .inl (cI, 64, .inl q.2))] := hD.sub [0, 1, 2] (by decide) rfl
          refine W.eq (g2 := F0 m 64 ls [.int q.1]) rfl ?_
          have ew_0 : (q.2 : Nat → Int32) = if n ≤ 64 then q.2 else g := by simp [c_9, nc_9, c_21, nc_21]
          exact kRetI hx hb hr hlk dX0_mostQuestions_64 hP hD hS (Nat.le_of_ble_eq_true rfl) (Nat.le_of_ble_eq_true rfl) ⟨(kpi (by simp [c_9, nc_9, c_21, nc_21])), (kw1 (fun (z_0 : Nat → Int32) => ([(h0, .inr (1, [.ref h1, .ref h2, .int (nI n), .int an])), (h1, .inl (cI, 4096, .inl f)), (h2, .inl (cI, 64, .inl z_0))] : va_W)) ew_0)⟩
        · skip
          have nc_21 : ¬ n ≤ i := (not_congr (nI_leI (a := n) (b := i) (by omega) (by omega))).mp c_21
          refine lv_iload_n hx hb dX0_mostQuestions_24 rfl (lv_at hl 1 rfl) ?_
          refine lv_aload_n hx hb dX0_mostQuestions_25 rfl (lv_at hl 0 rfl) ?_
          refine va_get (D := D) (ci := 1) (v := .ref h1) (C := RX0) (T := TX0) (N := 4) hx hb hts hi_X0 hown hK.1 hP 0 rfl rfl 0 (by decide) hw_f9 (fun _ h9 => h9) rfl dX0_mostQuestions_26 ?_
          refine va_alen (v := 4096) hx hb hK.1 hP 1 0 rfl rfl rfl dX0_mostQuestions_29 ?_
          refine lv_icmp_ge (tgt := 51) hx hb dX0_mostQuestions_30 (by decide) (fun c_30 => ?_) (fun c_30 => ?_)
          · exact absurd c_30 (by have := (nI_leI (a := 4096) (b := i) (by omega) (by omega)).mp c_30; omega)
          · skip
            refine lv_aload_n hx hb dX0_mostQuestions_33 rfl (lv_at hl 0 rfl) ?_
            refine va_get (D := D) (ci := 1) (v := .ref h2) (C := RX0) (T := TX0) (N := 4) hx hb hts hi_X0 hown hK.1 hP 0 rfl rfl 1 (by decide) hw_f15 (fun _ h9 => h9) rfl dX0_mostQuestions_34 ?_
            refine lv_iload_n hx hb dX0_mostQuestions_37 rfl (lv_at hl 1 rfl) ?_
            refine lv_aload_n hx hb dX0_mostQuestions_38 rfl (lv_at hl 0 rfl) ?_
            refine va_get (D := D) (ci := 1) (v := .ref h1) (C := RX0) (T := TX0) (N := 4) hx hb hts hi_X0 hown hK.1 hP 0 rfl rfl 0 (by decide) hw_f9 (fun _ h9 => h9) rfl dX0_mostQuestions_39 ?_
            refine lv_iload_n hx hb dX0_mostQuestions_42 rfl (lv_at hl 1 rfl) ?_
            refine va_iald hx hb hK.1 hP 1 0 rfl rfl (vp_in_nI (by omega) (by omega)) dX0_mostQuestions_43 ?_
            refine lv_topi (fun nv_2 ev_2 => ?_)
            obtain rfl : nv_2 = f i := by rw [ev_2, nI_clamp (by omega)]
            refine va_iast hx hb hK.1 hP hD hS 2 0 rfl rfl (vp_in_nI (by omega) (by omega)) dX0_mostQuestions_44 (fun H locs hP hD hS => ?_)
            rw [nI_clamp (by omega)] at hP hD
            have hP : va_P D vwCl [(h0, .inr (1, [.ref h1, .ref h2, .int (nI n), .int an])), (h1, .inl (cI, 4096, .inl f)), (h2, .inl (cI, 64, .inl (upd x i (f i))))] H := hP
            have hD : va_D _ [(h0, .inr (1, [.ref h1, .ref h2, .int (nI n), .int an])), (h1, .inl (cI, 4096, .inl f)), (h2, .inl (cI, 64, .inl (upd x i (f i))))] := hD
            refine lv_iinc (v := nI (i + 1)) (lv' := [(1, .int (nI (i + 1))), (0, .ref h0)]) hx hb dX0_mostQuestions_45 hl (k := 1) rfl (nI_1 _) (by decide) rfl (fun ls hl => ?_)
            refine lv_goto (tgt := 16) hx hb dX0_mostQuestions_48 (by decide) ?_
            exact ih_16  (i + 1) (upd x i (f i)) (by omega) (by first | omega | assumption | exact Nat.zero_le _) (by rw [ex]; rfl) _ _ hP hD hS _ (lv_sub hl [1, 0] rfl)
    exact hloop_16 ((n - 0) + 1) 0 g (Nat.lt_succ_self _) (by exact Nat.zero_le _) (by rfl) _ _ hP hD hS _ (lv_sub hl [1, 0] rfl)
  · skip
    have nc_9 : ¬ n ≤ 64 := (not_congr (nI_leI (a := n) (b := 64) (by omega) (by omega))).mp c_9
    refine lv_iconst (v := (-1)) hx hb dX0_mostQuestions_12 (by decide) ?_
    have ew_0 : (g : Nat → Int32) = if n ≤ 64 then q.2 else g := by simp [c_9, nc_9]
    exact kRetI hx hb hr hlk dX0_mostQuestions_13 hP hD hS (Nat.le_of_ble_eq_true rfl) (Nat.le_of_ble_eq_true rfl) ⟨(kpi (by simp [c_9, nc_9])), (kw1 (fun (z_0 : Nat → Int32) => ([(h0, .inr (1, [.ref h1, .ref h2, .int (nI n), .int an])), (h1, .inl (cI, 4096, .inl f)), (h2, .inl (cI, 64, .inl z_0))] : va_W)) ew_0)⟩

set_option maxHeartbeats 4000000 in
set_option maxRecDepth 100000 in
theorem c_X7_worst (l : Launch) (D : va_G) (cI cJ cZ cO : ClassId) (o : Nat) (t0 : Nat) (h0 : Nat) (w0 : Nat) (r0 : Nat) (k0 : Nat) (s0 : Nat) (kn : Int32) (s1 : Nat) (s2 : Nat) (ns : Nat) (an : Int32) (sf : Nat → Int32) (sg : Nat → Int32) (fq : Nat) (q : Int32 × (Nat → Int32)) (hns : ns ≤ 4096) (hfu : fq = 12) (hq : q = quoF fq (becF sg sf ns) 0 ns) : kC l D (kTY cI cJ cZ cO) yX7_worst wsX7_worst 17 445 0 0 [.ref o] [(o, .inr (8, [.ref t0, .ref h0, .ref w0, .ref r0, .ref k0, .ref s0, .int kn])), (s0, .inr (1, [.ref s1, .ref s2, .int (nI ns), .int an])), (s1, .inl (cI, 4096, .inl sf)), (s2, .inl (cI, 64, .inl sg))] (fun rv_ rw_ => rv_ = some (.int (if ns ≤ 64 then q.1 else -1)) ∧ rw_ = [(o, .inr (8, [.ref t0, .ref h0, .ref w0, .ref r0, .ref k0, .ref s0, .int kn])), (s0, .inr (1, [.ref s1, .ref s2, .int (nI ns), .int an])), (s1, .inl (cI, 4096, .inl sf)), (s2, .inl (cI, 64, .inl (if ns ≤ 64 then q.2 else sg)))]) := by
  refine kEnter (cc := cX7_worst) (maxL := 1) (ret := (some .int)) (by decide) rfl (Nat.le_of_ble_eq_true rfl) ?_
  intro p e s m args below meth c hx hb hr hml hts hown hlk hnm hK hP hD hS hA ls hl
  have hl : lv_has ls 1 [(0, .ref o)] := hl
  have hw_f47 := hts (.fieldLink RX7 47 "WhatToRead" "asking" "LWhatToRead$Asking;") (by decide +kernel)
  have hi_X7 : ∀ w ∈ wsX70, w ∈ wsX7_worst := by decide +kernel
  refine lv_aload_n hx hb dX7_worst_0 rfl (lv_at hl 0 rfl) ?_
  refine va_get (D := D) (ci := 8) (v := .ref s0) (C := RX7) (T := TX7) (N := 7) hx hb hts hi_X7 hown hK.1 hP 0 rfl rfl 5 (by decide) hw_f47 (fun _ h9 => h9) rfl dX7_worst_1 ?_
  refine kGo (wc := [(s0, .inr (1, [.ref s1, .ref s2, .int (nI ns), .int an])), (s1, .inl (cI, 4096, .inl sf)), (s2, .inl (cI, 64, .inl sg))]) (wr := [(o, .inr (8, [.ref t0, .ref h0, .ref w0, .ref r0, .ref k0, .ref s0, .int kn]))]) (va_runV (As := []) (rest := []) ⟨hx, hb, hml, hown, hts⟩ (c_X0_mostQuestions l D cI cJ cZ cO s0 s1 s2 ns an sf sg fq q (by first | assumption | omega | decide) (by first | assumption | omega | decide) (by first | assumption | omega | decide) _) (cwV 0 hts gX7_worst_X0_mostQuestions rfl rfl rfl (by decide +kernel) ⟨Nat.le_of_ble_eq_true rfl, Nat.le_of_ble_eq_true rfl⟩) (kPreV (ci := 1) (q0 := 0) hK (kPc_sub hP [1, 2, 3] rfl) ((hD.sub [1, 2, 3] (by decide) rfl).weaken (fun _ _ _ _ => trivial)) rfl rfl rfl) rfl rfl hl.1 rfl (lv_room (Nat.le_of_ble_eq_true rfl)) dX7_worst_4 ⟨Nat.le_of_ble_eq_true rfl, Nat.le_of_ble_eq_true rfl⟩) hP hD hS hA [1, 2, 3] [0] rfl rfl (by decide) (by decide) (fun v_1 w_1 H locs hv_1 hP hD hS => ?_)
  obtain ⟨rfl, rfl⟩ := hv_1
  have hP : va_P D vwCl [(o, .inr (8, [.ref t0, .ref h0, .ref w0, .ref r0, .ref k0, .ref s0, .int kn])), (s0, .inr (1, [.ref s1, .ref s2, .int (nI ns), .int an])), (s1, .inl (cI, 4096, .inl sf)), (s2, .inl (cI, 64, .inl (if ns ≤ 64 then q.2 else sg)))] H := hP.sub [0, 1, 2, 3] rfl
  have hD : va_D _ [(o, .inr (8, [.ref t0, .ref h0, .ref w0, .ref r0, .ref k0, .ref s0, .int kn])), (s0, .inr (1, [.ref s1, .ref s2, .int (nI ns), .int an])), (s1, .inl (cI, 4096, .inl sf)), (s2, .inl (cI, 64, .inl (if ns ≤ 64 then q.2 else sg)))] := hD.sub [0, 1, 2, 3] (by decide) rfl
  refine W.eq (g2 := F0 m 7 ls [.int (if ns ≤ 64 then q.1 else -1)]) rfl ?_
  exact kRetI hx hb hr hlk dX7_worst_7 hP hD hS (Nat.le_of_ble_eq_true rfl) (Nat.le_of_ble_eq_true rfl) ⟨rfl, rfl⟩
