/-! ===== the class's list: add and remove ===== -/
theorem kPush {A : Nat → Prop} {X : va_W} {LP : List Nat} {pf : Nat → va_E} {q : Nat} {x : va_E} (hD : va_D A ((X ++ va_pl LP pf) ++ [(q, x)])) : q ∉ LP := by
  intro h
  obtain ⟨k, hk⟩ := va_pl_get (X := X) (f := pf) h
  have hlt := (List.getElem?_eq_some_iff.mp hk).1
  have h1 : ((X ++ va_pl LP pf) ++ [(q, x)])[k]? = some (q, pf q) := by rw [List.getElem?_append_left hlt]; exact hk
  have h2 : ((X ++ va_pl LP pf) ++ [(q, x)])[(X ++ va_pl LP pf).length]? = some (q, x) := by simp
  have := hD.1 k _ _ _ h1 h2 rfl
  omega
theorem kPushW {X : va_W} {LP : List Nat} {pf : Nat → va_E} {q : Nat} {x : va_E} (h : q ∉ LP) : ((X ++ va_pl LP pf) ++ [(q, x)]) = X ++ va_pl (LP ++ [q]) (va_up pf q x) := by rw [List.append_assoc, va_pl_push h]
theorem kup_s {α : Type} {f : Nat → α} {k : Nat} {v : α} : va_up f k v k = v := if_pos rfl
theorem kup_n {α : Type} {f : Nat → α} {k j : Nat} {v : α} (h : j ≠ k) : va_up f k v j = f j := if_neg h
theorem kup_up {α : Type} {f : Nat → α} {k : Nat} {v w : α} : va_up (va_up f k v) k w = va_up f k w := by
  funext j
  by_cases h : j = k
  · subst h; rw [kup_s, kup_s]
  · rw [kup_n h, kup_n h, kup_n h]
theorem kAsg {s : State} (h : va_Nw (.castable RX1 "java/lang/Object") s) : ∀ comp c0 : ClassId, s.vm.findClass "java/lang/Object" = some comp → s.vm.findClass RX1 = some c0 → s.vm.assignable c0 comp = true := by
  intro comp c0 h1 h2
  obtain ⟨c1, t1, f1, f2, f3⟩ := Cond.castable_spec (va_Nw.use (A := #[]) rfl h)
  cases f1.symm.trans h2
  cases f2.symm.trans h1
  exact f3
/-- the array of a list, and its pieces -/
def arE (cO : ClassId) (cap : Nat) (al : Nat → Option Nat) : va_E := .inl (cO, cap, .inr (.inr (.inr (.inr al))))
def pcs (al : Nat → Option Nat) (LP : List Nat) (pf : Nat → va_E) : Prop := ∀ i y, al i = some y → y ∈ LP ∧ ∃ a b c d e, pf y = pcE a b c d e
theorem arE_ne {cO : ClassId} {cap : Nat} {al : Nat → Option Nat} {a b c d e : Int32} : arE cO cap al ≠ pcE a b c d e := by
  intro h
  cases h

set_option maxHeartbeats 4000000 in
set_option maxRecDepth 100000 in
theorem c_J8_newLength_cabcc (l : Launch) (D : va_G) (cI cJ cZ cO : ClassId)  : kR l D (kTY cI cJ cZ cO) yJ8_newLength_cabcc wsJ8_newLength_cabcc 1 21 [.int 10, .int 1, .int 5] [] (fun rv_ => rv_ = some (.int 15)) := by
  refine kEnterR (cc := cJ8_newLength_cabcc) (maxL := 4) (ret := (some .int)) (by decide) rfl (Nat.le_of_ble_eq_true rfl) ?_
  intro p e s m args below meth c hx hb hr hml hts hown hlk hK hP ls hl
  have hl : lv_has ls 4 [(0, .int 10), (1, .int 1), (2, .int 5)] := hl
  have hw_m194 := hts (.methodLink RJ8 194 Lib.Math.max.name) (by decide +kernel)
  have hw_stmax := hts (.static Lib.Math.max.name) (by decide +kernel)
  have hw_iM := hts (.initialized "java/lang/Math") (by decide +kernel)
  have hw_cMmax := hts (.code Lib.Math.max.name Lib.Math.max.code 2 (some .int)) (by decide +kernel)
  refine lv_iload_n hx hb dJ8_newLength_cabcc_0 rfl (lv_at hl 0 rfl) ?_
  refine lv_iload_n hx hb dJ8_newLength_cabcc_1 rfl (lv_at hl 1 rfl) ?_
  refine lv_iload_n hx hb dJ8_newLength_cabcc_2 rfl (lv_at hl 2 rfl) ?_
  refine va_mmax hx hb (by rw [hml]; exact hl.1.symm) hown hw_m194 hw_stmax hw_iM hw_cMmax (Nat.le_of_ble_eq_true rfl) (Nat.le_of_ble_eq_true rfl) (Nat.le_of_ble_eq_true rfl) (Nat.le_of_ble_eq_true rfl) dJ8_newLength_cabcc_3 ?_
  refine W.eq (g2 := F0 m 6 ls [.int (kmax 1 5), .int 10]) rfl ?_
  refine lv_topi (fun nv_1 ev_1 => ?_)
  obtain rfl : nv_1 = 5 := ev_1.trans (by decide)
  refine lv_iadd hx hb dJ8_newLength_cabcc_6 ?_
  refine lv_topi (fun nv_2 ev_2 => ?_)
  obtain rfl : nv_2 = 15 := ev_2.trans (by decide)
  refine lv_istore_n (lv' := [(3, .int 15), (0, .int 10), (1, .int 1), (2, .int 5)]) hx hb dJ8_newLength_cabcc_7 rfl hl (by decide) rfl (fun ls hl => ?_)
  refine lv_iconst (v := 0) hx hb dJ8_newLength_cabcc_8 (by decide) ?_
  refine lv_iload_n hx hb dJ8_newLength_cabcc_9 rfl (lv_at hl 0 rfl) ?_
  refine lv_icmp_ge (tgt := 21) hx hb dJ8_newLength_cabcc_10 (by decide) (fun c_10 => ?_) (fun c_10 => ?_)
  · exact absurd c_10 (by decide)
  · skip
    refine lv_iload_n hx hb dJ8_newLength_cabcc_13 rfl (lv_at hl 0 rfl) ?_
    refine lv_ldc (v := 2147483639) hx hb hown (hts (.constant RJ8 200 2147483639) (by decide +kernel)) dJ8_newLength_cabcc_14 ?_
    refine lv_icmp_gt (tgt := 21) hx hb dJ8_newLength_cabcc_16 (by decide) (fun c_16 => ?_) (fun c_16 => ?_)
    · exact absurd c_16 (by decide)
    · skip
      refine lv_iload_n hx hb dJ8_newLength_cabcc_19 rfl (lv_at hl 0 rfl) ?_
      exact kRetIr hx hb hr hlk dJ8_newLength_cabcc_20 rfl

set_option maxHeartbeats 4000000 in
set_option maxRecDepth 100000 in
theorem c_J7_copyOf_6403c (l : Launch) (D : va_G) (cI cJ cZ cO : ClassId) (e0 : Nat) (mi : Nat) (ea : Nat) (al : Nat → Option Nat) (LP : List Nat) (pf : Nat → va_E) (hm : ea ∈ LP) (hpf : pf ea = arE cO 10 al) (hel : pcs al LP pf) : kCx l D (kTY cI cJ cZ cO) e0 mi yJ7_copyOf_6403c wsJ7_copyOf_6403c 1 21 1 15 [.ref ea, .int 15, .ref mi] ([] ++ va_pl LP pf) (fun rv_ rw_ => ∃ q_7 : Nat, rv_ = some (.ref q_7) ∧ rw_ = ([] ++ va_pl (LP ++ [q_7]) (va_up pf q_7 (arE cO 15 (fun i => if i < 10 then al i else none)))) ∧ q_7 ∉ LP) := by
  refine kEnterX (cc := cJ7_copyOf_6403c) (maxL := 4) (ret := (some (.array (.object "java/lang/Object")))) (by decide) rfl (Nat.le_of_ble_eq_true rfl) ?_
  intro p e s m args below meth c hx hb hr hml hts hown hlk hnm hK hX hP hD hS hA ls hl
  have hl : lv_has ls 4 [(0, .ref ea), (1, .int 15), (2, .ref mi)] := hl
  have hw_M110 := hts (.classLink RJ7 110 "[Ljava/lang/Object;") (by decide +kernel)
  have hw_O2 := hts (.classLink RJ7 2 "java/lang/Object") (by decide +kernel)
  have hw_m304 := hts (.methodLink RJ7 304 Lib.Math.min.name) (by decide +kernel)
  have hw_stmin := hts (.static Lib.Math.min.name) (by decide +kernel)
  have hw_iM := hts (.initialized "java/lang/Math") (by decide +kernel)
  have hw_cMmin := hts (.code Lib.Math.min.name Lib.Math.min.code 2 (some .int)) (by decide +kernel)
  have hw_l := hts (.methodLink RJ7 150 arraycopyName) (by decide +kernel)
  have hw_n := hts (.native arraycopyName) (by decide +kernel)
  have hw_s := hts (.static arraycopyName) (by decide +kernel)
  have hw_i := hts (.initialized "java/lang/System") (by decide +kernel)
  refine lv_aload_n hx hb dJ7_copyOf_6403c_0 rfl (lv_at hl 2 rfl) ?_
  refine va_ldcM hx hb hown hw_M110 hX.2.2.1 dJ7_copyOf_6403c_1 ?_
  refine lv_acmp_ne (rx := some mi) (ry := some mi) (tgt := 13) hx hb dJ7_copyOf_6403c_3 (by decide) (fun h9 => absurd rfl h9) (fun _ => ?_)
  refine lv_iload_n hx hb dJ7_copyOf_6403c_6 rfl (lv_at hl 1 rfl) ?_
  refine kNewaO (N' := 15) hx hb hown hw_O2 hX.2.2.2.2 hK.1 hP hD hS hA (by decide) (by decide) (by decide) (Nat.le_of_ble_eq_true rfl) (Nat.le_of_ble_eq_true rfl) dJ7_copyOf_6403c_7 (fun q_7 H hP hD hS => ?_)
  have hq_7 := kPush hD
  rw [kPushW hq_7] at hP hD
  have hP : va_P D vwCl ([] ++ va_pl (LP ++ [q_7]) (va_up pf q_7 (arE cO 15 (fun _ => none)))) H := hP
  have hD : va_D _ ([] ++ va_pl (LP ++ [q_7]) (va_up pf q_7 (arE cO 15 (fun _ => none)))) := hD
  refine lv_goto (tgt := 24) hx hb dJ7_copyOf_6403c_10 (by decide) ?_
  refine lv_astore_n (lv' := [(3, .ref q_7), (0, .ref ea), (1, .int 15), (2, .ref mi)]) hx hb dJ7_copyOf_6403c_24 rfl hl (by decide) rfl (fun ls hl => ?_)
  have hea : ea ≠ q_7 := fun z => hq_7 (z ▸ hm)
  refine lv_aload_n hx hb dJ7_copyOf_6403c_25 rfl (lv_at hl 1 rfl) ?_
  refine lv_iconst (v := 0) hx hb dJ7_copyOf_6403c_26 (by decide) ?_
  refine lv_aload_n hx hb dJ7_copyOf_6403c_27 rfl (lv_at hl 0 rfl) ?_
  refine lv_iconst (v := 0) hx hb dJ7_copyOf_6403c_28 (by decide) ?_
  refine lv_aload_n hx hb dJ7_copyOf_6403c_29 rfl (lv_at hl 1 rfl) ?_
  have hm_e : ea ∈ (LP ++ [q_7]) := List.mem_append_left _ hm
  obtain ⟨k_e, hk0_e⟩ := va_pl_get (X := []) (f := (va_up pf q_7 (arE cO 15 (fun _ => none)))) hm_e
  have hk_e := hk0_e
  rw [show va_up pf q_7 _ ea = arE cO 10 al from (kup_n hea).trans hpf] at hk_e
  refine va_alen (v := 10) hx hb hK.1 hP k_e 3 hk_e rfl rfl dJ7_copyOf_6403c_30 ?_
  refine lv_iload_n hx hb dJ7_copyOf_6403c_31 rfl (lv_at hl 2 rfl) ?_
  refine va_mmin hx hb (by rw [hml]; exact hl.1.symm) hown hw_m304 hw_stmin hw_iM hw_cMmin (Nat.le_of_ble_eq_true rfl) (Nat.le_of_ble_eq_true rfl) (Nat.le_of_ble_eq_true rfl) (Nat.le_of_ble_eq_true rfl) dJ7_copyOf_6403c_32 ?_
  refine W.eq (g2 := F0 m 35 ls [.int (kmin 10 15), .int 0, .ref q_7, .int 0, .ref ea]) rfl ?_
  refine lv_topi (fun nv_1 ev_1 => ?_)
  obtain rfl : nv_1 = 10 := ev_1.trans (by decide)
  have hm_ea : ea ∈ (LP ++ [q_7]) := List.mem_append_left _ hm
  obtain ⟨k_ea, hk0_ea⟩ := va_pl_get (X := []) (f := (va_up pf q_7 (arE cO 15 (fun _ => none)))) hm_ea
  have hk_ea := hk0_ea
  rw [show va_up pf q_7 _ ea = arE cO 10 al from (kup_n hea).trans hpf] at hk_ea
  have hm_q : q_7 ∈ (LP ++ [q_7]) := List.mem_append_right _ List.mem_cons_self
  obtain ⟨k_q, hk0_q⟩ := va_pl_get (X := []) (f := (va_up pf q_7 (arE cO 15 (fun _ => none)))) hm_q
  have hk_q := hk0_q
  rw [show va_up pf q_7 _ q_7 = arE cO 15 (fun _ => none) from kup_s] at hk_q
  have hset := va_pl_set (e := arE cO 15 (va_cpy al (fun _ => none) 0 0 10)) hD hm_q hk0_q
  refine va_copyq (C := RX1) (sp := 0) (dp := 0) (n := 10) hx hb (by rw [hml]; exact hl.1.symm) hown hw_l hw_n hw_s hw_i hK.1 hP hD hS k_ea k_q 3 3 hk_ea hk_q rfl rfl (by decide) (by decide) (by decide) (by decide) (by decide) (fun i _ y hy => ?_) (kAsg hK.2.2.2.2.2.2.2.2) (Nat.le_of_ble_eq_true rfl) (Nat.le_of_ble_eq_true rfl) dJ7_copyOf_6403c_35 (fun H locs hP hD hS => ?_)
  · obtain ⟨hy1, a9, b9, c9, d9, e9, hy2⟩ := hel _ y hy
    have hyq : y ≠ q_7 := fun z => hq_7 (z ▸ hy1)
    obtain ⟨k9, hk9⟩ := va_pl_get (X := []) (f := va_up pf q_7 (arE cO 15 (fun _ => none))) (List.mem_append_left [q_7] hy1)
    rw [kup_n hyq, hy2] at hk9
    exact va_recv hK.1 hP (ci := 2) (q0 := k9) rfl hk9
  have hcp : va_cpy al (fun _ => (none : Option Nat)) 0 0 10 = fun i => if i < 10 then al i else none := by funext i; simp [va_cpy]
  have hset2 : ([] ++ va_pl (LP ++ [q_7]) (va_up pf q_7 (arE cO 15 (fun _ => none)))).set k_q (q_7, arE cO 15 (va_cpy al (fun _ => none) 0 0 10)) = [] ++ va_pl (LP ++ [q_7]) (va_up pf q_7 (arE cO 15 (fun i => if i < 10 then al i else none))) := by rw [hset, kup_up, hcp]
  have hP : va_P D vwCl (([] ++ va_pl (LP ++ [q_7]) (va_up pf q_7 (arE cO 15 (fun _ => none)))).set k_q (q_7, arE cO 15 (va_cpy al (fun _ => none) 0 0 10))) H := hP
  have hD : va_D _ (([] ++ va_pl (LP ++ [q_7]) (va_up pf q_7 (arE cO 15 (fun _ => none)))).set k_q (q_7, arE cO 15 (va_cpy al (fun _ => none) 0 0 10))) := hD
  rw [hset2] at hP hD
  have hP : va_P D vwCl ([] ++ va_pl (LP ++ [q_7]) (va_up pf q_7 (arE cO 15 (fun i => if i < 10 then al i else none)))) H := hP
  have hD : va_D _ ([] ++ va_pl (LP ++ [q_7]) (va_up pf q_7 (arE cO 15 (fun i => if i < 10 then al i else none)))) := hD
  refine lv_aload_n hx hb dJ7_copyOf_6403c_38 rfl (lv_at hl 0 rfl) ?_
  exact kRetA hx hb (Or.inr ⟨_, hr⟩) hlk dJ7_copyOf_6403c_39 (Or.inr ⟨_, rfl⟩) hP hD hS (Nat.le_of_ble_eq_true rfl) (Nat.le_of_ble_eq_true rfl) ⟨q_7, rfl, rfl, hq_7⟩
