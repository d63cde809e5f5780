/-! ===== the class's list: add and remove ===== -/
theorem kPush {A : Nat → Prop} {X : va_W} {LP : List Nat} {pf : Nat → va_E} {q : Nat} {x : va_E} (hD : va_D A ((X ++ va_pl LP pf) ++ [(q, x)])) : q ∉ LP := by
  intro h
  obtain ⟨k, hk⟩ := va_pl_get (X := X) (f := pf) h
  have hlt := (List.getElem?_eq_some_iff.mp hk).1
  have h1 : ((X ++ va_pl LP pf) ++ [(q, x)])[k]? = some (q, pf q) := by rw [List.getElem?_append_left hlt]; exact hk
  have h2 : ((X ++ va_pl LP pf) ++ [(q, x)])[(X ++ va_pl LP pf).length]? = some (q, x) := by simp
  have := hD.1 k _ _ _ h1 h2 rfl
  omega
theorem kPushW {X : va_W} {LP : List Nat} {pf : Nat → va_E} {q : Nat} {x : va_E} (h : q ∉ LP) : ((X ++ va_pl LP pf) ++ [(q, x)]) = X ++ va_pl (LP ++ [q]) (va_up pf q x) := by rw [List.append_assoc, va_pl_push h]
theorem kup_s {α : Type} {f : Nat → α} {k : Nat} {v : α} : va_up f k v k = v := if_pos rfl
theorem kup_n {α : Type} {f : Nat → α} {k j : Nat} {v : α} (h : j ≠ k) : va_up f k v j = f j := if_neg h
theorem kup_up {α : Type} {f : Nat → α} {k : Nat} {v w : α} : va_up (va_up f k v) k w = va_up f k w := by
  funext j
  by_cases h : j = k
  · subst h; rw [kup_s, kup_s]
  · rw [kup_n h, kup_n h, kup_n h]
theorem kAsg {s : State} (h : va_Nw (.castable RX1 "java/lang/Object") s) : ∀ comp c0 : ClassId, s.vm.findClass "java/lang/Object" = some comp → s.vm.findClass RX1 = some c0 → s.vm.assignable c0 comp = true := by
  intro comp c0 h1 h2
  obtain ⟨c1, t1, f1, f2, f3⟩ := Cond.castable_spec (va_Nw.use (A := #[]) rfl h)
  cases f1.symm.trans h2
  cases f2.symm.trans h1
  exact f3
/-- the array of a list, and its pieces -/
def arE (cO : ClassId) (cap : Nat) (al : Nat → Option Nat) : va_E := .inl (cO, cap, .inr (.inr (.inr (.inr al))))
def pcs (al : Nat → Option Nat) (LP : List Nat) (pf : Nat → va_E) : Prop := ∀ i y, al i = some y → y ∈ LP ∧ ∃ a b c d e, pf y = pcE a b c d e
theorem arE_ne {cO : ClassId} {cap : Nat} {al : Nat → Option Nat} {a b c d e : Int32} : arE cO cap al ≠ pcE a b c d e := by
  intro h
  cases h

set_option maxHeartbeats 4000000 in
set_option maxRecDepth 100000 in
theorem c_J8_newLength_cabcc (l : Launch) (D : va_G) (cI cJ cZ cO : ClassId)  : kR l D (kTY cI cJ cZ cO) yJ8_newLength_cabcc wsJ8_newLength_cabcc 1 21 [.int 10, .int 1, .int 5] [] (fun rv_ => rv_ = some (.int 15)) := by
  refine kEnterR (cc := cJ8_newLength_cabcc) (maxL := 4) (ret := (some .int)) (by decide) rfl (Nat.le_of_ble_eq_true rfl) ?_
  intro p e s m args below meth c hx hb hr hml hts hown hlk hK hP ls hl
  have hl : lv_has ls 4 [(0, .int 10), (1, .int 1), (2, .int 5)] := hl
  have hw_m194 := hts (.methodLink RJ8 194 Lib.Math.max.name) (by decide +kernel)
  have hw_stmax := hts (.static Lib.Math.max.name) (by decide +kernel)
  have hw_iM := hts (.initialized "java/lang/Math") (by decide +kernel)
  have hw_cMmax := hts (.code Lib.Math.max.name Lib.Math.max.code 2 (some .int)) (by decide +kernel)
  refine lv_iload_n hx hb dJ8_newLength_cabcc_0 rfl (lv_at hl 0 rfl) ?_
  refine lv_iload_n hx hb dJ8_newLength_cabcc_1 rfl (lv_at hl 1 rfl) ?_
  refine lv_iload_n hx hb dJ8_newLength_cabcc_2 rfl (lv_at hl 2 rfl) ?_
  refine va_mmax hx hb (by rw [hml]; exact hl.1.symm) hown hw_m194 hw_stmax hw_iM hw_cMmax (Nat.le_of_ble_eq_true rfl) (Nat.le_of_ble_eq_true rfl) (Nat.le_of_ble_eq_true rfl) (Nat.le_of_ble_eq_true rfl) dJ8_newLength_cabcc_3 ?_
  refine W.eq (g2 := F0 m 6 ls [.int (kmax 1 5), .int 10]) rfl ?_
  refine lv_topi (fun nv_1 ev_1 => ?_)
  obtain rfl : nv_1 = 5 := ev_1.trans (by decide)
  refine lv_iadd hx hb dJ8_newLength_cabcc_6 ?_
  refine lv_topi (fun nv_2 ev_2 => ?_)
  obtain rfl : nv_2 = 15 := ev_2.trans (by decide)
  refine lv_istore_n (lv' := [(3, .int 15), (0, .int 10), (1, .int 1), (2, .int 5)]) hx hb dJ8_newLength_cabcc_7 rfl hl (by decide) rfl (fun ls hl => ?_)
  refine lv_iconst (v := 0) hx hb dJ8_newLength_cabcc_8 (by decide) ?_
  refine lv_iload_n hx hb dJ8_newLength_cabcc_9 rfl (lv_at hl 0 rfl) ?_
  refine lv_icmp_ge (tgt := 21) hx hb dJ8_newLength_cabcc_10 (by decide) (fun c_10 => ?_) (fun c_10 => ?_)
  · exact absurd c_10 (by decide)
  · skip
    refine lv_iload_n hx hb dJ8_newLength_cabcc_13 rfl (lv_at hl 0 rfl) ?_
    refine lv_ldc (v := 2147483639) hx hb hown (hts (.constant RJ8 200 2147483639) (by decide +kernel)) dJ8_newLength_cabcc_14 ?_
    refine lv_icmp_gt (tgt := 21) hx hb dJ8_newLength_cabcc_16 (by decide) (fun c_16 => ?_) (fun c_16 => ?_)
    · exact absurd c_16 (by decide)
    · skip
      refine lv_iload_n hx hb dJ8_newLength_cabcc_19 rfl (lv_at hl 0 rfl) ?_
      exact kRetIr hx hb hr hlk dJ8_newLength_cabcc_20 rfl

set_option maxHeartbeats 4000000 in
set_option maxRecDepth 100000 in
theorem c_J7_copyOf_6403c (l : Launch) (D : va_G) (cI cJ cZ cO : ClassId) (e0 : Nat) (mi : Nat) (ea : Nat) (al : Nat → Option Nat) (LP : List Nat) (pf : Nat → va_E) (hm : ea ∈ LP) (hpf : pf ea = arE cO 10 al) (hel : pcs al LP pf) : kCx l D (kTY cI cJ cZ cO) e0 mi yJ7_copyOf_6403c wsJ7_copyOf_6403c 1 21 1 15 [.ref ea, .int 15, .ref mi] ([] ++ va_pl LP pf) (fun rv_ rw_ => ∃ q_7 : Nat, rv_ = some (.ref q_7) ∧ rw_ = ([] ++ va_pl (LP ++ [q_7]) (va_up pf q_7 (arE cO 15 (fun i => if i < 10 then al i else none)))) ∧ q_7 ∉ LP) := by
  refine kEnterX (cc := cJ7_copyOf_6403c) (maxL := 4) (ret := (some (.array (.object "java/lang/Object")))) (by decide) rfl (Nat.le_of_ble_eq_true rfl) ?_
  intro p e s m args below meth c hx hb hr hml hts hown hlk hnm hK hX hP hD hS hA ls hl
  have hl : lv_has ls 4 [(0, .ref ea), (1, .int 15), (2, .ref mi)] := hl
  have hw_M110 := hts (.classLink RJ7 110 "[Ljava/lang/Object;") (by decide +kernel)
  have hw_O2 := hts (.classLink RJ7 2 "java/lang/Object") (by decide +kernel)
  have hw_m304 := hts (.methodLink RJ7 304 Lib.Math.min.name) (by decide +kernel)
  have hw_stmin := hts (.static Lib.Math.min.name) (by decide +kernel)
  have hw_iM := hts (.initialized "java/lang/Math") (by decide +kernel)
  have hw_cMmin := hts (.code Lib.Math.min.name Lib.Math.min.code 2 (some .int)) (by decide +kernel)
  have hw_l := hts (.methodLink RJ7 150 arraycopyName) (by decide +kernel)
  have hw_n := hts (.native arraycopyName) (by decide +kernel)
  have hw_s := hts (.static arraycopyName) (by decide +kernel)
  have hw_i := hts (.initialized "java/lang/System") (by decide +kernel)
  refine lv_aload_n hx hb dJ7_copyOf_6403c_0 rfl (lv_at hl 2 rfl) ?_
  refine va_ldcM hx hb hown hw_M110 hX.2.2.1 dJ7_copyOf_6403c_1 ?_
  refine lv_acmp_ne (rx := some mi) (ry := some mi) (tgt := 13) hx hb dJ7_copyOf_6403c_3 (by decide) (fun h9 => absurd rfl h9) (fun _ => ?_)
  refine lv_iload_n hx hb dJ7_copyOf_6403c_6 rfl (lv_at hl 1 rfl) ?_
  refine kNewaO (N' := 15) hx hb hown hw_O2 hX.2.2.2.2 hK.1 hP hD hS hA (by decide) (by decide) (by decide) (Nat.le_of_ble_eq_true rfl) (Nat.le_of_ble_eq_true rfl) dJ7_copyOf_6403c_7 (fun q_7 H hP hD hS => ?_)
  have hq_7 := kPush hD
  rw [kPushW hq_7] at hP hD
  have hP : va_P D vwCl ([] ++ va_pl (LP ++ [q_7]) (va_up pf q_7 (arE cO 15 (fun _ => none)))) H := hP
  have hD : va_D _ ([] ++ va_pl (LP ++ [q_7]) (va_up pf q_7 (arE cO 15 (fun _ => none)))) := hD
  refine lv_goto (tgt := 24) hx hb dJ7_copyOf_6403c_10 (by decide) ?_
  refine lv_astore_n (lv' := [(3, .ref q_7), (0, .ref ea), (1, .int 15), (2, .ref mi)]) hx hb dJ7_copyOf_6403c_24 rfl hl (by decide) rfl (fun ls hl => ?_)
  have hea : ea ≠ q_7 := fun z => hq_7 (z ▸ hm)
  refine lv_aload_n hx hb dJ7_copyOf_6403c_25 rfl (lv_at hl 1 rfl) ?_
  refine lv_iconst (v := 0) hx hb dJ7_copyOf_6403c_26 (by decide) ?_
  refine lv_aload_n hx hb dJ7_copyOf_6403c_27 rfl (lv_at hl 0 rfl) ?_
  refine lv_iconst (v := 0) hx hb dJ7_copyOf_6403c_28 (by decide) ?_
  refine lv_aload_n hx hb dJ7_copyOf_6403c_29 rfl (lv_at hl 1 rfl) ?_
  have hm_e : ea ∈ (LP ++ [q_7]) := List.mem_append_left _ hm
  obtain ⟨k_e, hk0_e⟩ := va_pl_get (X := []) (f := (va_up pf q_7 (arE cO 15 (fun _ => none)))) hm_e
  have hk_e := hk0_e
  rw [show va_up pf q_7 _ ea = arE cO 10 al from (kup_n hea).trans hpf] at hk_e
  refine va_alen (v := 10) hx hb hK.1 hP k_e 3 hk_e rfl rfl dJ7_copyOf_6403c_30 ?_
  refine lv_iload_n hx hb dJ7_copyOf_6403c_31 rfl (lv_at hl 2 rfl) ?_
  refine va_mmin hx hb (by rw [hml]; exact hl.1.symm) hown hw_m304 hw_stmin hw_iM hw_cMmin (Nat.le_of_ble_eq_true rfl) (Nat.le_of_ble_eq_true rfl) (Nat.le_of_ble_eq_true rfl) (Nat.le_of_ble_eq_true rfl) dJ7_copyOf_6403c_32 ?_
  refine W.eq (g2 := F0 m 35 ls [.int (kmin 10 15), .int 0, .ref q_7, .int 0, .ref ea]) rfl ?_
  refine lv_topi (fun nv_1 ev_1 => ?_)
  obtain rfl : nv_1 = 10 := ev_1.trans (by decide)
  have hm_ea : ea ∈ (LP ++ [q_7]) := List.mem_append_left _ hm
  obtain ⟨k_ea, hk0_ea⟩ := va_pl_get (X := []) (f := (va_up pf q_7 (arE cO 15 (fun _ => none)))) hm_ea
  have hk_ea := hk0_ea
  rw [show va_up pf q_7 _ ea = arE cO 10 al from (kup_n hea).trans hpf] at hk_ea
  have hm_q : q_7 ∈ (LP ++ [q_7]) := List.mem_append_right _ List.mem_cons_self
  obtain ⟨k_q, hk0_q⟩ := va_pl_get (X := []) (f := (va_up pf q_7 (arE cO 15 (fun _ => none)))) hm_q
  have hk_q := hk0_q
  rw [show va_up pf q_7 _ q_7 = arE cO 15 (fun _ => none) from kup_s] at hk_q
  have hset := va_pl_set (e := arE cO 15 (va_cpy al (fun _ => none) 0 0 10)) hD hm_q hk0_q
  refine va_copyq (C := RX1) (sp := 0) (dp := 0) (n := 10) hx hb (by rw [hml]; exact hl.1.symm) hown hw_l hw_n hw_s hw_i hK.1 hP hD hS k_ea k_q 3 3 hk_ea hk_q rfl rfl (by decide) (by decide) (by decide) (by decide) (by decide) (fun i _ y hy => ?_) (kAsg hK.2.2.2.2.2.2.2.2) (Nat.le_of_ble_eq_true rfl) (Nat.le_of_ble_eq_true rfl) dJ7_copyOf_6403c_35 (fun H locs hP hD hS => ?_)
  · obtain ⟨hy1, a9, b9, c9, d9, e9, hy2⟩ := hel _ y hy
    have hyq : y ≠ q_7 := fun z => hq_7 (z ▸ hy1)
    obtain ⟨k9, hk9⟩ := va_pl_get (X := []) (f := va_up pf q_7 (arE cO 15 (fun _ => none))) (List.mem_append_left [q_7] hy1)
    rw [kup_n hyq, hy2] at hk9
    exact va_recv hK.1 hP (ci := 2) (q0 := k9) rfl hk9
  have hcp : va_cpy al (fun _ => (none : Option Nat)) 0 0 10 = fun i => if i < 10 then al i else none := by funext i; simp [va_cpy]
  have hset2 : ([] ++ va_pl (LP ++ [q_7]) (va_up pf q_7 (arE cO 15 (fun _ => none)))).set k_q (q_7, arE cO 15 (va_cpy al (fun _ => none) 0 0 10)) = [] ++ va_pl (LP ++ [q_7]) (va_up pf q_7 (arE cO 15 (fun i => if i < 10 then al i else none))) := by rw [hset, kup_up, hcp]
  have hP : va_P D vwCl (([] ++ va_pl (LP ++ [q_7]) (va_up pf q_7 (arE cO 15 (fun _ => none)))).set k_q (q_7, arE cO 15 (va_cpy al (fun _ => none) 0 0 10))) H := hP
  have hD : va_D _ (([] ++ va_pl (LP ++ [q_7]) (va_up pf q_7 (arE cO 15 (fun _ => none)))).set k_q (q_7, arE cO 15 (va_cpy al (fun _ => none) 0 0 10))) := hD
  rw [hset2] at hP hD
  have hP : va_P D vwCl ([] ++ va_pl (LP ++ [q_7]) (va_up pf q_7 (arE cO 15 (fun i => if i < 10 then al i else none)))) H := hP
  have hD : va_D _ ([] ++ va_pl (LP ++ [q_7]) (va_up pf q_7 (arE cO 15 (fun i => if i < 10 then al i else none)))) := hD
  refine lv_aload_n hx hb dJ7_copyOf_6403c_38 rfl (lv_at hl 0 rfl) ?_
  exact kRetA hx hb (Or.inr ⟨_, hr⟩) hlk dJ7_copyOf_6403c_39 (Or.inr ⟨_, rfl⟩) hP hD hS (Nat.le_of_ble_eq_true rfl) (Nat.le_of_ble_eq_true rfl) ⟨q_7, rfl, rfl, hq_7⟩

set_option maxHeartbeats 4000000 in
set_option maxRecDepth 100000 in
theorem c_J7_copyOf_1904c (l : Launch) (D : va_G) (cI cJ cZ cO : ClassId) (e0 : Nat) (mi : Nat) (ea : Nat) (al : Nat → Option Nat) (LP : List Nat) (pf : Nat → va_E) (hm : ea ∈ LP) (hpf : pf ea = arE cO 10 al) (hel : pcs al LP pf) : kCx l D (kTY cI cJ cZ cO) e0 mi yJ7_copyOf_1904c wsJ7_copyOf_1904c 2 44 1 15 [.ref ea, .int 15] ([] ++ va_pl LP pf) (fun rv_ rw_ => ∃ q_7_6 : Nat, rv_ = some (.ref q_7_6) ∧ rw_ = ([] ++ va_pl (LP ++ [q_7_6]) (va_up pf q_7_6 (arE cO 15 (fun i => if i < 10 then al i else none)))) ∧ q_7_6 ∉ LP) := by
  refine kEnterX (cc := cJ7_copyOf_1904c) (maxL := 2) (ret := (some (.array (.object "java/lang/Object")))) (by decide) rfl (Nat.le_of_ble_eq_true rfl) ?_
  intro p e s m args below meth c hx hb hr hml hts hown hlk hnm hK hX hP hD hS hA ls hl
  have hl : lv_has ls 2 [(0, .ref ea), (1, .int 15)] := hl
  have hw_gl := hts (.methodLink RJ7 86 ⟨"java/lang/Object", "getClass", "()Ljava/lang/Class;"⟩) (by decide +kernel)
  have hw_gs := hts (.selects "[Ljava/lang/Object;" ⟨"java/lang/Object", "getClass", "()Ljava/lang/Class;"⟩ ⟨"java/lang/Object", "getClass", "()Ljava/lang/Class;"⟩) (by decide +kernel)
  have hw_gi := hts (.instanceMethod ⟨"java/lang/Object", "getClass", "()Ljava/lang/Class;"⟩) (by decide +kernel)
  have hw_gn := hts (.native ⟨"java/lang/Object", "getClass", "()Ljava/lang/Class;"⟩) (by decide +kernel)
  refine lv_aload_n hx hb dJ7_copyOf_1904c_0 rfl (lv_at hl 0 rfl) ?_
  refine lv_iload_n hx hb dJ7_copyOf_1904c_1 rfl (lv_at hl 1 rfl) ?_
  refine lv_aload_n hx hb dJ7_copyOf_1904c_2 rfl (lv_at hl 0 rfl) ?_
  have hm_g : ea ∈ LP := hm
  obtain ⟨k_g, hk0_g⟩ := va_pl_get (X := []) (f := pf) hm_g
  have hk_g := hk0_g
  rw [hpf] at hk_g
  refine va_getC hx hb (by rw [hml]; exact hl.1.symm) hown hw_gl (va_Dc.use hX.2.2.2.1) hw_gs hw_gi hw_gn hX.2.2.1 ⟨_, hP k_g _ hk_g, rfl, va_nmO (hK.1.2 3 _ rfl).2 rfl⟩ (Nat.le_of_ble_eq_true rfl) (Nat.le_of_ble_eq_true rfl) dJ7_copyOf_1904c_3 ?_
  refine kGoP (cx := []) (wr := []) (va_runS (As := [.ref ea, .int 15, .ref mi]) (rest := []) ⟨hx, hb, hml, hown, hts⟩ (c_J7_copyOf_6403c l D cI cJ cZ cO e0 mi ea al LP pf (by first | assumption | omega | decide) (by first | assumption | omega | decide) (by first | assumption | omega | decide) _) (va_cwS 3 hts gJ7_copyOf_1904c_J7_copyOf_6403c rfl rfl rfl (by decide +kernel) ⟨Nat.le_of_ble_eq_true rfl, Nat.le_of_ble_eq_true rfl⟩) (kPreSX hK hX hS (va_freeP hD hS hA [] rfl) (hP.part [] rfl) ((hD.part [] (by decide) rfl).weaken (fun _ _ _ _ => trivial))) rfl rfl hl.1 rfl (lv_room (Nat.le_of_ble_eq_true rfl)) dJ7_copyOf_1904c_6 ⟨Nat.le_of_ble_eq_true rfl, Nat.le_of_ble_eq_true rfl⟩) hP hD hS hA [] [] rfl rfl (by decide) (by decide) (fun v_1 w_1 H locs hv_1 hP hS => ?_)
  obtain ⟨q_7_6, rfl, rfl, hqn_6⟩ := hv_1
  obtain ⟨hP, hD⟩ := hP _ _ rfl
  have hP : va_P D vwCl ([] ++ va_pl (LP ++ [q_7_6]) (va_up pf q_7_6 (arE cO 15 (fun i => if i < 10 then al i else none)))) H := hP.part [] rfl
  have hD : va_D _ ([] ++ va_pl (LP ++ [q_7_6]) (va_up pf q_7_6 (arE cO 15 (fun i => if i < 10 then al i else none)))) := hD.part [] (by decide) rfl
  refine W.eq (g2 := F0 m 9 ls [.ref q_7_6]) rfl ?_
  exact kRetA hx hb (Or.inr ⟨_, hr⟩) hlk dJ7_copyOf_1904c_9 (Or.inr ⟨_, rfl⟩) hP hD hS (Nat.le_of_ble_eq_true rfl) (Nat.le_of_ble_eq_true rfl) ⟨q_7_6, rfl, rfl, hqn_6⟩

set_option maxHeartbeats 4000000 in
set_option maxRecDepth 100000 in
theorem c_Jx4a65c_grow_92f84_a (l : Launch) (D : va_G) (cI cJ cZ cO : ClassId) (e0 : Nat) (mi : Nat) (la : Nat) (mo : Int32) (LP : List Nat) (pf : Nat → va_E) : kCx l D (kTY cI cJ cZ cO) e0 mi yJx4a65c_grow_92f84 wsJx4a65c_grow_92f84 1 21 1 10 [.ref la, .int 1] ([(la, .inr (0, [.int mo, .ref e0, .int 0]))] ++ va_pl LP pf) (fun rv_ rw_ => ∃ q_52 : Nat, rv_ = some (.ref q_52) ∧ rw_ = ([(la, .inr (0, [.int mo, .ref q_52, .int 0]))] ++ va_pl (LP ++ [q_52]) (va_up pf q_52 (arE cO 10 (fun _ => none)))) ∧ q_52 ∉ LP) := by
  refine kEnterX (cc := cJx4a65c_grow_92f84) (maxL := 4) (ret := (some (.array (.object "java/lang/Object")))) (by decide) rfl (Nat.le_of_ble_eq_true rfl) ?_
  intro p e s m args below meth c hx hb hr hml hts hown hlk hnm hK hX hP hD hS hA ls hl
  have hl : lv_has ls 4 [(0, .ref la), (1, .int 1)] := hl
  have hw_f9 := hts (.fieldLink RJx4a65c 9 "java/util/ArrayList" "elementData" "[Ljava/lang/Object;") (by decide +kernel)
  have hi_Jx4a65c : ∀ w ∈ wsJx4a65c0, w ∈ wsJx4a65c_grow_92f84 := by decide +kernel
  have hw_z39 := hts (.fieldLink RJx4a65c 39 "java/util/ArrayList" "DEFAULTCAPACITY_EMPTY_ELEMENTDATA" "[Ljava/lang/Object;") (by decide +kernel)
  have hw_m79 := hts (.methodLink RJx4a65c 79 Lib.Math.max.name) (by decide +kernel)
  have hw_stmax := hts (.static Lib.Math.max.name) (by decide +kernel)
  have hw_iM := hts (.initialized "java/lang/Math") (by decide +kernel)
  have hw_cMmax := hts (.code Lib.Math.max.name Lib.Math.max.code 2 (some .int)) (by decide +kernel)
  have hw_O7 := hts (.classLink RJx4a65c 7 "java/lang/Object") (by decide +kernel)
  refine lv_aload_n hx hb dJx4a65c_grow_92f84_0 rfl (lv_at hl 0 rfl) ?_
  refine va_get (D := D) (ci := 0) (v := .ref e0) (C := RJx4a65c) (T := TJx4a65c) (N := 3) hx hb hts hi_Jx4a65c hown hK.1 hP 0 rfl rfl 1 (by decide) hw_f9 (fun _ h9 => h9) rfl dJx4a65c_grow_92f84_1 ?_
  refine va_tlen hx hb hX.2.1 hS (v := 0) rfl dJx4a65c_grow_92f84_4 ?_
  refine lv_istore_n (lv' := [(2, .int 0), (0, .ref la), (1, .int 1)]) hx hb dJx4a65c_grow_92f84_5 rfl hl (by decide) rfl (fun ls hl => ?_)
  refine lv_iload_n hx hb dJx4a65c_grow_92f84_6 rfl (lv_at hl 0 rfl) ?_
  refine lv_if_gt (tgt := 20) hx hb dJx4a65c_grow_92f84_7 (by decide) (fun c_7 => ?_) (fun c_7 => ?_)
  · exact absurd c_7 (by decide)
  · skip
    refine lv_aload_n hx hb dJx4a65c_grow_92f84_10 rfl (lv_at hl 1 rfl) ?_
    refine va_get (D := D) (ci := 0) (v := .ref e0) (C := RJx4a65c) (T := TJx4a65c) (N := 3) hx hb hts hi_Jx4a65c hown hK.1 hP 0 rfl rfl 1 (by decide) hw_f9 (fun _ h9 => h9) rfl dJx4a65c_grow_92f84_11 ?_
    refine va_gets hx hb hX.1 hS hown hw_z39 (fun _ h9 => h9) dJx4a65c_grow_92f84_14 ?_
    refine lv_acmp_eq (rx := some e0) (ry := some e0) (tgt := 45) hx hb dJx4a65c_grow_92f84_17 (by decide) (fun _ => ?_) (fun h9 => absurd rfl h9)
    refine lv_aload_n hx hb dJx4a65c_grow_92f84_45 rfl (lv_at hl 1 rfl) ?_
    refine lv_bipush (v := 10) hx hb dJx4a65c_grow_92f84_46 (by decide) ?_
    refine lv_iload_n hx hb dJx4a65c_grow_92f84_48 rfl (lv_at hl 2 rfl) ?_
    refine va_mmax hx hb (by rw [hml]; exact hl.1.symm) hown hw_m79 hw_stmax hw_iM hw_cMmax (Nat.le_of_ble_eq_true rfl) (Nat.le_of_ble_eq_true rfl) (Nat.le_of_ble_eq_true rfl) (Nat.le_of_ble_eq_true rfl) dJx4a65c_grow_92f84_49 ?_
    refine W.eq (g2 := F0 m 52 ls [.int (kmax 10 1), .ref la]) rfl ?_
    refine lv_topi (fun nv_1 ev_1 => ?_)
    obtain rfl : nv_1 = 10 := ev_1.trans (by decide)
    refine kNewaO (N' := 10) hx hb hown hw_O7 hX.2.2.2.2 hK.1 hP hD hS hA (by decide) (by decide) (by decide) (Nat.le_of_ble_eq_true rfl) (Nat.le_of_ble_eq_true rfl) dJx4a65c_grow_92f84_52 (fun q_52 H hP hD hS => ?_)
    have hq_52 := kPush hD
    rw [kPushW hq_52] at hP hD
    have hP : va_P D vwCl ([(la, .inr (0, [.int mo, .ref e0, .int 0]))] ++ va_pl (LP ++ [q_52]) (va_up pf q_52 (arE cO 10 (fun _ => none)))) H := hP
    have hD : va_D _ ([(la, .inr (0, [.int mo, .ref e0, .int 0]))] ++ va_pl (LP ++ [q_52]) (va_up pf q_52 (arE cO 10 (fun _ => none)))) := hD
    refine lv_dup_x1 hx hb dJx4a65c_grow_92f84_55 rfl rfl ?_
    refine va_put (D := D) (ci := 0) (v := .ref q_52) (ty := .array (.object "java/lang/Object")) (C := RJx4a65c) (T := TJx4a65c) (N := 3) hx hb hts hi_Jx4a65c tyJx4a65c tyJx4a65c_ok nmJx4a65c hown hK.1 hP hD hS 0 rfl rfl 1 (by decide) hw_f9 (fun _ h9 => h9) rfl (by decide +kernel) rfl rfl (Nat.le_of_ble_eq_true rfl) dJx4a65c_grow_92f84_56 (fun H locs hP hD hS => ?_)
    have hP : va_P D vwCl ([(la, .inr (0, [.int mo, .ref q_52, .int 0]))] ++ va_pl (LP ++ [q_52]) (va_up pf q_52 (arE cO 10 (fun _ => none)))) H := hP
    have hD : va_D _ ([(la, .inr (0, [.int mo, .ref q_52, .int 0]))] ++ va_pl (LP ++ [q_52]) (va_up pf q_52 (arE cO 10 (fun _ => none)))) := hD
    exact kRetA hx hb (Or.inr ⟨_, hr⟩) hlk dJx4a65c_grow_92f84_59 (Or.inr ⟨_, rfl⟩) hP hD hS (Nat.le_of_ble_eq_true rfl) (Nat.le_of_ble_eq_true rfl) ⟨q_52, rfl, rfl, hq_52⟩

set_option maxHeartbeats 4000000 in
set_option maxRecDepth 100000 in
theorem c_Jx4a65c_grow_92f84_b (l : Launch) (D : va_G) (cI cJ cZ cO : ClassId) (e0 : Nat) (mi : Nat) (la : Nat) (mo : Int32) (ea : Nat) (al : Nat → Option Nat) (LP : List Nat) (pf : Nat → va_E) (hm : ea ∈ LP) (hpf : pf ea = arE cO 10 al) (hel : pcs al LP pf) : kCx l D (kTY cI cJ cZ cO) e0 mi yJx4a65c_grow_92f84 wsJx4a65c_grow_92f84 3 65 1 15 [.ref la, .int 11] ([(la, .inr (0, [.int mo, .ref ea, .int 10]))] ++ va_pl LP pf) (fun rv_ rw_ => ∃ q_7_6_37 : Nat, rv_ = some (.ref q_7_6_37) ∧ rw_ = ([(la, .inr (0, [.int mo, .ref q_7_6_37, .int 10]))] ++ va_pl (LP ++ [q_7_6_37]) (va_up pf q_7_6_37 (arE cO 15 (fun i => if i < 10 then al i else none)))) ∧ q_7_6_37 ∉ LP) := by
  refine kEnterX (cc := cJx4a65c_grow_92f84) (maxL := 4) (ret := (some (.array (.object "java/lang/Object")))) (by decide) rfl (Nat.le_of_ble_eq_true rfl) ?_
  intro p e s m args below meth c hx hb hr hml hts hown hlk hnm hK hX hP hD hS hA ls hl
  have hl : lv_has ls 4 [(0, .ref la), (1, .int 11)] := hl
  have hw_f9 := hts (.fieldLink RJx4a65c 9 "java/util/ArrayList" "elementData" "[Ljava/lang/Object;") (by decide +kernel)
  have hi_Jx4a65c : ∀ w ∈ wsJx4a65c0, w ∈ wsJx4a65c_grow_92f84 := by decide +kernel
  refine lv_aload_n hx hb dJx4a65c_grow_92f84_0 rfl (lv_at hl 0 rfl) ?_
  refine va_get (D := D) (ci := 0) (v := .ref ea) (C := RJx4a65c) (T := TJx4a65c) (N := 3) hx hb hts hi_Jx4a65c hown hK.1 hP 0 rfl rfl 1 (by decide) hw_f9 (fun _ h9 => h9) rfl dJx4a65c_grow_92f84_1 ?_
  have hm_e : ea ∈ LP := hm
  obtain ⟨k_e, hk0_e⟩ := va_pl_get (X := [(la, .inr (0, [.int mo, .ref ea, .int 10]))]) (f := pf) hm_e
  have hk_e := hk0_e
  rw [hpf] at hk_e
  refine va_alen (v := 10) hx hb hK.1 hP k_e 3 hk_e rfl rfl dJx4a65c_grow_92f84_4 ?_
  refine lv_istore_n (lv' := [(2, .int 10), (0, .ref la), (1, .int 11)]) hx hb dJx4a65c_grow_92f84_5 rfl hl (by decide) rfl (fun ls hl => ?_)
  refine lv_iload_n hx hb dJx4a65c_grow_92f84_6 rfl (lv_at hl 0 rfl) ?_
  refine lv_if_gt (tgt := 20) hx hb dJx4a65c_grow_92f84_7 (by decide) (fun c_7 => ?_) (fun c_7 => ?_)
  · skip
    refine lv_iload_n hx hb dJx4a65c_grow_92f84_20 rfl (lv_at hl 0 rfl) ?_
    refine lv_iload_n hx hb dJx4a65c_grow_92f84_21 rfl (lv_at hl 2 rfl) ?_
    refine lv_iload_n hx hb dJx4a65c_grow_92f84_22 rfl (lv_at hl 0 rfl) ?_
    refine lv_isub hx hb dJx4a65c_grow_92f84_23 ?_
    refine lv_topi (fun nv_1 ev_1 => ?_)
    obtain rfl : nv_1 = 1 := ev_1.trans (by decide)
    refine lv_iload_n hx hb dJx4a65c_grow_92f84_24 rfl (lv_at hl 0 rfl) ?_
    refine lv_iconst (v := 1) hx hb dJx4a65c_grow_92f84_25 (by decide) ?_
    refine lv_ishr hx hb dJx4a65c_grow_92f84_26 ?_
    refine lv_topi (fun nv_2 ev_2 => ?_)
    obtain rfl : nv_2 = 5 := ev_2.trans (by decide)
    refine kGoR (va_runS (As := [.int 10, .int 1, .int 5]) (rest := []) ⟨hx, hb, hml, hown, hts⟩ (c_J8_newLength_cabcc l D cI cJ cZ cO  ) (va_cwS 3 hts gJx4a65c_grow_92f84_J8_newLength_cabcc rfl rfl rfl (by decide +kernel) ⟨Nat.le_of_ble_eq_true rfl, Nat.le_of_ble_eq_true rfl⟩) (kPreSR hK (kPc_sub hP [] rfl)) rfl rfl hl.1 rfl (lv_room (Nat.le_of_ble_eq_true rfl)) dJx4a65c_grow_92f84_27 ⟨Nat.le_of_ble_eq_true rfl, Nat.le_of_ble_eq_true rfl⟩) (fun v_3 hv_3 => ?_)
    obtain rfl := hv_3
    refine W.eq (g2 := F0 m 30 ls [.int 15]) rfl ?_
    refine lv_istore_n (lv' := [(3, .int 15), (2, .int 10), (0, .ref la), (1, .int 11)]) hx hb dJx4a65c_grow_92f84_30 rfl hl (by decide) rfl (fun ls hl => ?_)
    refine lv_aload_n hx hb dJx4a65c_grow_92f84_31 rfl (lv_at hl 2 rfl) ?_
    refine lv_aload_n hx hb dJx4a65c_grow_92f84_32 rfl (lv_at hl 2 rfl) ?_
    refine va_get (D := D) (ci := 0) (v := .ref ea) (C := RJx4a65c) (T := TJx4a65c) (N := 3) hx hb hts hi_Jx4a65c hown hK.1 hP 0 rfl rfl 1 (by decide) hw_f9 (fun _ h9 => h9) rfl dJx4a65c_grow_92f84_33 ?_
    refine lv_iload_n hx hb dJx4a65c_grow_92f84_36 rfl (lv_at hl 0 rfl) ?_
    refine kGoP (cx := []) (wr := [(la, .inr (0, [.int mo, .ref ea, .int 10]))]) (va_runS (As := [.ref ea, .int 15]) (rest := [.ref la]) ⟨hx, hb, hml, hown, hts⟩ (c_J7_copyOf_1904c l D cI cJ cZ cO e0 mi ea al LP pf (by first | assumption | omega | decide) (by first | assumption | omega | decide) (by first | assumption | omega | decide) _) (va_cwS 2 hts gJx4a65c_grow_92f84_J7_copyOf_1904c rfl rfl rfl (by decide +kernel) ⟨Nat.le_of_ble_eq_true rfl, Nat.le_of_ble_eq_true rfl⟩) (kPreSX hK hX hS (va_freeP hD hS hA [] rfl) (hP.part [] rfl) ((hD.part [] (by decide) rfl).weaken (fun _ _ _ _ => trivial))) rfl rfl hl.1 rfl (lv_room (Nat.le_of_ble_eq_true rfl)) dJx4a65c_grow_92f84_37 ⟨Nat.le_of_ble_eq_true rfl, Nat.le_of_ble_eq_true rfl⟩) hP hD hS hA [] [0] rfl rfl (by decide) (by decide) (fun v_4 w_4 H locs hv_4 hP hS => ?_)
    obtain ⟨q_7_6_37, rfl, rfl, hqn_37⟩ := hv_4
    obtain ⟨hP, hD⟩ := hP _ _ rfl
    have hP : va_P D vwCl ([(la, .inr (0, [.int mo, .ref ea, .int 10]))] ++ va_pl (LP ++ [q_7_6_37]) (va_up pf q_7_6_37 (arE cO 15 (fun i => if i < 10 then al i else none)))) H := hP.part [0] rfl
    have hD : va_D _ ([(la, .inr (0, [.int mo, .ref ea, .int 10]))] ++ va_pl (LP ++ [q_7_6_37]) (va_up pf q_7_6_37 (arE cO 15 (fun i => if i < 10 then al i else none)))) := hD.part [0] (by decide) rfl
    refine W.eq (g2 := F0 m 40 ls [.ref q_7_6_37, .ref la]) rfl ?_
    refine lv_dup_x1 hx hb dJx4a65c_grow_92f84_40 rfl rfl ?_
    refine va_put (D := D) (ci := 0) (v := .ref q_7_6_37) (ty := .array (.object "java/lang/Object")) (C := RJx4a65c) (T := TJx4a65c) (N := 3) hx hb hts hi_Jx4a65c tyJx4a65c tyJx4a65c_ok nmJx4a65c hown hK.1 hP hD hS 0 rfl rfl 1 (by decide) hw_f9 (fun _ h9 => h9) rfl (by decide +kernel) rfl rfl (Nat.le_of_ble_eq_true rfl) dJx4a65c_grow_92f84_41 (fun H locs hP hD hS => ?_)
    have hP : va_P D vwCl ([(la, .inr (0, [.int mo, .ref q_7_6_37, .int 10]))] ++ va_pl (LP ++ [q_7_6_37]) (va_up pf q_7_6_37 (arE cO 15 (fun i => if i < 10 then al i else none)))) H := hP
    have hD : va_D _ ([(la, .inr (0, [.int mo, .ref q_7_6_37, .int 10]))] ++ va_pl (LP ++ [q_7_6_37]) (va_up pf q_7_6_37 (arE cO 15 (fun i => if i < 10 then al i else none)))) := hD
    exact kRetA hx hb (Or.inr ⟨_, hr⟩) hlk dJx4a65c_grow_92f84_44 (Or.inr ⟨_, rfl⟩) hP hD hS (Nat.le_of_ble_eq_true rfl) (Nat.le_of_ble_eq_true rfl) ⟨q_7_6_37, rfl, rfl, hqn_37⟩
  · exact absurd (by decide) c_7

set_option maxHeartbeats 4000000 in
set_option maxRecDepth 100000 in
theorem c_Jx4a65c_grow_d5877_a (l : Launch) (D : va_G) (cI cJ cZ cO : ClassId) (e0 : Nat) (mi : Nat) (la : Nat) (mo : Int32) (LP : List Nat) (pf : Nat → va_E) : kCx l D (kTY cI cJ cZ cO) e0 mi yJx4a65c_grow_d5877 wsJx4a65c_grow_d5877 4 88 1 10 [.ref la] ([(la, .inr (0, [.int mo, .ref e0, .int 0]))] ++ va_pl LP pf) (fun rv_ rw_ => ∃ q_52_7 : Nat, rv_ = some (.ref q_52_7) ∧ rw_ = ([(la, .inr (0, [.int mo, .ref q_52_7, .int 0]))] ++ va_pl (LP ++ [q_52_7]) (va_up pf q_52_7 (arE cO 10 (fun _ => none)))) ∧ q_52_7 ∉ LP) := by
  refine kEnterX (cc := cJx4a65c_grow_d5877) (maxL := 1) (ret := (some (.array (.object "java/lang/Object")))) (by decide) rfl (Nat.le_of_ble_eq_true rfl) ?_
  intro p e s m args below meth c hx hb hr hml hts hown hlk hnm hK hX hP hD hS hA ls hl
  have hl : lv_has ls 1 [(0, .ref la)] := hl
  have hw_f48 := hts (.fieldLink RJx4a65c 48 "java/util/ArrayList" "size" "I") (by decide +kernel)
  have hi_Jx4a65c : ∀ w ∈ wsJx4a65c0, w ∈ wsJx4a65c_grow_d5877 := by decide +kernel
  refine lv_aload_n hx hb dJx4a65c_grow_d5877_0 rfl (lv_at hl 0 rfl) ?_
  refine lv_aload_n hx hb dJx4a65c_grow_d5877_1 rfl (lv_at hl 0 rfl) ?_
  refine va_get (D := D) (ci := 0) (v := .int 0) (C := RJx4a65c) (T := TJx4a65c) (N := 3) hx hb hts hi_Jx4a65c hown hK.1 hP 0 rfl rfl 2 (by decide) hw_f48 (fun _ h9 => h9) rfl dJx4a65c_grow_d5877_2 ?_
  refine lv_iconst (v := 1) hx hb dJx4a65c_grow_d5877_5 (by decide) ?_
  refine lv_iadd hx hb dJx4a65c_grow_d5877_6 ?_
  refine lv_topi (fun nv_1 ev_1 => ?_)
  obtain rfl : nv_1 = 1 := ev_1.trans (by decide)
  refine kGoP (cx := [(la, .inr (0, [.int mo, .ref e0, .int 0]))]) (wr := []) (va_runV (As := [.int 1]) (rest := []) ⟨hx, hb, hml, hown, hts⟩ (c_Jx4a65c_grow_92f84_a l D cI cJ cZ cO e0 mi la mo LP pf  _) (cwV 1 hts gJx4a65c_grow_d5877_Jx4a65c_grow_92f84 rfl rfl rfl (by decide +kernel) ⟨Nat.le_of_ble_eq_true rfl, Nat.le_of_ble_eq_true rfl⟩) (kPreVX (ci := 0) (q0 := 0) hK hX hS (va_freeP hD hS hA [0] rfl) (hP.part [0] rfl) ((hD.part [0] (by decide) rfl).weaken (fun _ _ _ _ => trivial)) rfl rfl rfl) rfl rfl hl.1 rfl (lv_room (Nat.le_of_ble_eq_true rfl)) dJx4a65c_grow_d5877_7 ⟨Nat.le_of_ble_eq_true rfl, Nat.le_of_ble_eq_true rfl⟩) hP hD hS hA [0] [] rfl rfl (by decide) (by decide) (fun v_2 w_2 H locs hv_2 hP hS => ?_)
  obtain ⟨q_52_7, rfl, rfl, hqn_7⟩ := hv_2
  obtain ⟨hP, hD⟩ := hP _ _ rfl
  have hP : va_P D vwCl ([(la, .inr (0, [.int mo, .ref q_52_7, .int 0]))] ++ va_pl (LP ++ [q_52_7]) (va_up pf q_52_7 (arE cO 10 (fun _ => none)))) H := hP.part [0] rfl
  have hD : va_D _ ([(la, .inr (0, [.int mo, .ref q_52_7, .int 0]))] ++ va_pl (LP ++ [q_52_7]) (va_up pf q_52_7 (arE cO 10 (fun _ => none)))) := hD.part [0] (by decide) rfl
  refine W.eq (g2 := F0 m 10 ls [.ref q_52_7]) rfl ?_
  exact kRetA hx hb (Or.inr ⟨_, hr⟩) hlk dJx4a65c_grow_d5877_10 (Or.inr ⟨_, rfl⟩) hP hD hS (Nat.le_of_ble_eq_true rfl) (Nat.le_of_ble_eq_true rfl) ⟨q_52_7, rfl, rfl, hqn_7⟩

set_option maxHeartbeats 4000000 in
set_option maxRecDepth 100000 in
theorem c_Jx4a65c_grow_d5877_b (l : Launch) (D : va_G) (cI cJ cZ cO : ClassId) (e0 : Nat) (mi : Nat) (la : Nat) (mo : Int32) (ea : Nat) (al : Nat → Option Nat) (LP : List Nat) (pf : Nat → va_E) (hm : ea ∈ LP) (hpf : pf ea = arE cO 10 al) (hel : pcs al LP pf) : kCx l D (kTY cI cJ cZ cO) e0 mi yJx4a65c_grow_d5877 wsJx4a65c_grow_d5877 4 88 1 15 [.ref la] ([(la, .inr (0, [.int mo, .ref ea, .int 10]))] ++ va_pl LP pf) (fun rv_ rw_ => ∃ q_7_6_37_7 : Nat, rv_ = some (.ref q_7_6_37_7) ∧ rw_ = ([(la, .inr (0, [.int mo, .ref q_7_6_37_7, .int 10]))] ++ va_pl (LP ++ [q_7_6_37_7]) (va_up pf q_7_6_37_7 (arE cO 15 (fun i => if i < 10 then al i else none)))) ∧ q_7_6_37_7 ∉ LP) := by
  refine kEnterX (cc := cJx4a65c_grow_d5877) (maxL := 1) (ret := (some (.array (.object "java/lang/Object")))) (by decide) rfl (Nat.le_of_ble_eq_true rfl) ?_
  intro p e s m args below meth c hx hb hr hml hts hown hlk hnm hK hX hP hD hS hA ls hl
  have hl : lv_has ls 1 [(0, .ref la)] := hl
  have hw_f48 := hts (.fieldLink RJx4a65c 48 "java/util/ArrayList" "size" "I") (by decide +kernel)
  have hi_Jx4a65c : ∀ w ∈ wsJx4a65c0, w ∈ wsJx4a65c_grow_d5877 := by decide +kernel
  refine lv_aload_n hx hb dJx4a65c_grow_d5877_0 rfl (lv_at hl 0 rfl) ?_
  refine lv_aload_n hx hb dJx4a65c_grow_d5877_1 rfl (lv_at hl 0 rfl) ?_
  refine va_get (D := D) (ci := 0) (v := .int 10) (C := RJx4a65c) (T := TJx4a65c) (N := 3) hx hb hts hi_Jx4a65c hown hK.1 hP 0 rfl rfl 2 (by decide) hw_f48 (fun _ h9 => h9) rfl dJx4a65c_grow_d5877_2 ?_
  refine lv_iconst (v := 1) hx hb dJx4a65c_grow_d5877_5 (by decide) ?_
  refine lv_iadd hx hb dJx4a65c_grow_d5877_6 ?_
  refine lv_topi (fun nv_1 ev_1 => ?_)
  obtain rfl : nv_1 = 11 := ev_1.trans (by decide)
  refine kGoP (cx := [(la, .inr (0, [.int mo, .ref ea, .int 10]))]) (wr := []) (va_runV (As := [.int 11]) (rest := []) ⟨hx, hb, hml, hown, hts⟩ (c_Jx4a65c_grow_92f84_b l D cI cJ cZ cO e0 mi la mo ea al LP pf (by first | assumption | omega | decide) (by first | assumption | omega | decide) (by first | assumption | omega | decide) _) (cwV 1 hts gJx4a65c_grow_d5877_Jx4a65c_grow_92f84 rfl rfl rfl (by decide +kernel) ⟨Nat.le_of_ble_eq_true rfl, Nat.le_of_ble_eq_true rfl⟩) (kPreVX (ci := 0) (q0 := 0) hK hX hS (va_freeP hD hS hA [0] rfl) (hP.part [0] rfl) ((hD.part [0] (by decide) rfl).weaken (fun _ _ _ _ => trivial)) rfl rfl rfl) rfl rfl hl.1 rfl (lv_room (Nat.le_of_ble_eq_true rfl)) dJx4a65c_grow_d5877_7 ⟨Nat.le_of_ble_eq_true rfl, Nat.le_of_ble_eq_true rfl⟩) hP hD hS hA [0] [] rfl rfl (by decide) (by decide) (fun v_2 w_2 H locs hv_2 hP hS => ?_)
  obtain ⟨q_7_6_37_7, rfl, rfl, hqn_7⟩ := hv_2
  obtain ⟨hP, hD⟩ := hP _ _ rfl
  have hP : va_P D vwCl ([(la, .inr (0, [.int mo, .ref q_7_6_37_7, .int 10]))] ++ va_pl (LP ++ [q_7_6_37_7]) (va_up pf q_7_6_37_7 (arE cO 15 (fun i => if i < 10 then al i else none)))) H := hP.part [0] rfl
  have hD : va_D _ ([(la, .inr (0, [.int mo, .ref q_7_6_37_7, .int 10]))] ++ va_pl (LP ++ [q_7_6_37_7]) (va_up pf q_7_6_37_7 (arE cO 15 (fun i => if i < 10 then al i else none)))) := hD.part [0] (by decide) rfl
  refine W.eq (g2 := F0 m 10 ls [.ref q_7_6_37_7]) rfl ?_
  exact kRetA hx hb (Or.inr ⟨_, hr⟩) hlk dJx4a65c_grow_d5877_10 (Or.inr ⟨_, rfl⟩) hP hD hS (Nat.le_of_ble_eq_true rfl) (Nat.le_of_ble_eq_true rfl) ⟨q_7_6_37_7, rfl, rfl, hqn_7⟩

set_option maxHeartbeats 4000000 in
set_option maxRecDepth 100000 in
theorem c_Jx4a65c_add_72be8_a (l : Launch) (D : va_G) (cI cJ cZ cO : ClassId) (e0 : Nat) (mi : Nat) (la : Nat) (mo : Int32) (LP : List Nat) (pf : Nat → va_E) (pa : Nat) (ne : Int32) (ei : Int32) (gv : Int32) (sk : Int32) (pg : Int32) (hpa : pa ∈ LP) (hpe : pf pa = pcE ne ei gv sk pg) : kCx l D (kTY cI cJ cZ cO) e0 mi yJx4a65c_add_72be8 wsJx4a65c_add_72be8 5 108 1 10 [.ref la, .ref pa, .ref e0, .int 0] ([(la, .inr (0, [.int mo, .ref e0, .int 0]))] ++ va_pl LP pf) (fun rv_ rw_ => ∃ q_52_7_7 : Nat, rv_ = none ∧ rw_ = ([(la, .inr (0, [.int mo, .ref q_52_7_7, .int 1]))] ++ va_pl (LP ++ [q_52_7_7]) (va_up pf q_52_7_7 (arE cO 10 (va_up (fun _ => none) 0 (some pa))))) ∧ q_52_7_7 ∉ LP) := by
  refine kEnterX (cc := cJx4a65c_add_72be8) (maxL := 4) (ret := none) (by decide) rfl (Nat.le_of_ble_eq_true rfl) ?_
  intro p e s m args below meth c hx hb hr hml hts hown hlk hnm hK hX hP hD hS hA ls hl
  have hl : lv_has ls 4 [(0, .ref la), (1, .ref pa), (2, .ref e0), (3, .int 0)] := hl
  have hw_f48 := hts (.fieldLink RJx4a65c 48 "java/util/ArrayList" "size" "I") (by decide +kernel)
  have hi_Jx4a65c : ∀ w ∈ wsJx4a65c0, w ∈ wsJx4a65c_add_72be8 := by decide +kernel
  refine lv_iload_n hx hb dJx4a65c_add_72be8_0 rfl (lv_at hl 3 rfl) ?_
  refine lv_aload_n hx hb dJx4a65c_add_72be8_1 rfl (lv_at hl 2 rfl) ?_
  refine va_tlen hx hb hX.2.1 hS (v := 0) rfl dJx4a65c_add_72be8_2 ?_
  refine lv_icmp_ne (tgt := 11) hx hb dJx4a65c_add_72be8_3 (by decide) (fun c_3 => ?_) (fun c_3 => ?_)
  · exact absurd (by decide) c_3
  · skip
    refine lv_aload_n hx hb dJx4a65c_add_72be8_6 rfl (lv_at hl 0 rfl) ?_
    refine kGoP (cx := [(la, .inr (0, [.int mo, .ref e0, .int 0]))]) (wr := []) (va_runV (As := []) (rest := []) ⟨hx, hb, hml, hown, hts⟩ (c_Jx4a65c_grow_d5877_a l D cI cJ cZ cO e0 mi la mo LP pf  _) (cwV 0 hts gJx4a65c_add_72be8_Jx4a65c_grow_d5877 rfl rfl rfl (by decide +kernel) ⟨Nat.le_of_ble_eq_true rfl, Nat.le_of_ble_eq_true rfl⟩) (kPreVX (ci := 0) (q0 := 0) hK hX hS (va_freeP hD hS hA [0] rfl) (hP.part [0] rfl) ((hD.part [0] (by decide) rfl).weaken (fun _ _ _ _ => trivial)) rfl rfl rfl) rfl rfl hl.1 rfl (lv_room (Nat.le_of_ble_eq_true rfl)) dJx4a65c_add_72be8_7 ⟨Nat.le_of_ble_eq_true rfl, Nat.le_of_ble_eq_true rfl⟩) hP hD hS hA [0] [] rfl rfl (by decide) (by decide) (fun v_1 w_1 H locs hv_1 hP hS => ?_)
    obtain ⟨q_52_7_7, rfl, rfl, hqn_7⟩ := hv_1
    obtain ⟨hP, hD⟩ := hP _ _ rfl
    have hP : va_P D vwCl ([(la, .inr (0, [.int mo, .ref q_52_7_7, .int 0]))] ++ va_pl (LP ++ [q_52_7_7]) (va_up pf q_52_7_7 (arE cO 10 (fun _ => none)))) H := hP.part [0] rfl
    have hD : va_D _ ([(la, .inr (0, [.int mo, .ref q_52_7_7, .int 0]))] ++ va_pl (LP ++ [q_52_7_7]) (va_up pf q_52_7_7 (arE cO 10 (fun _ => none)))) := hD.part [0] (by decide) rfl
    refine W.eq (g2 := F0 m 10 ls [.ref q_52_7_7]) rfl ?_
    refine lv_astore_n (lv' := [(2, .ref q_52_7_7), (0, .ref la), (1, .ref pa), (3, .int 0)]) hx hb dJx4a65c_add_72be8_10 rfl hl (by decide) rfl (fun ls hl => ?_)
    have hpq : pa ≠ q_52_7_7 := fun z => hqn_7 (z ▸ hpa)
    refine lv_aload_n hx hb dJx4a65c_add_72be8_11 rfl (lv_at hl 0 rfl) ?_
    refine lv_iload_n hx hb dJx4a65c_add_72be8_12 rfl (lv_at hl 3 rfl) ?_
    refine lv_aload_n hx hb dJx4a65c_add_72be8_13 rfl (lv_at hl 2 rfl) ?_
    have hm_r : q_52_7_7 ∈ (LP ++ [q_52_7_7]) := List.mem_append_right _ List.mem_cons_self
    obtain ⟨k_r, hk0_r⟩ := va_pl_get (X := [(la, .inr (0, [.int mo, .ref q_52_7_7, .int 0]))]) (f := (va_up pf q_52_7_7 (arE cO 10 (fun _ => none)))) hm_r
    have hk_r := hk0_r
    rw [show va_up pf q_52_7_7 _ q_52_7_7 = arE cO 10 (fun _ => none) from kup_s] at hk_r
    have hm_v : pa ∈ (LP ++ [q_52_7_7]) := List.mem_append_left _ hpa
    obtain ⟨k_v, hk0_v⟩ := va_pl_get (X := [(la, .inr (0, [.int mo, .ref q_52_7_7, .int 0]))]) (f := (va_up pf q_52_7_7 (arE cO 10 (fun _ => none)))) hm_v
    have hk_v := hk0_v
    rw [show va_up pf q_52_7_7 _ pa = pcE ne ei gv sk pg from (kup_n hpq).trans hpe] at hk_v
    have hset := va_pl_set (e := arE cO 10 (va_up (fun _ => none) 0 (some pa))) hD hm_r hk0_r
    refine va_astqO hx hb hK.1 hP hD hS k_r 3 k_v 2 hk_r rfl hK.2.2.2.2.2.2.2.2 hk_v rfl (by unfold vp_in; decide) dJx4a65c_add_72be8_14 (fun H locs hP hD hS => ?_)
    rw [show (0 : Int32).toNatClampNeg = 0 from rfl] at hP hD
    have hP : va_P D vwCl ((([(la, .inr (0, [.int mo, .ref q_52_7_7, .int 0]))] ++ va_pl (LP ++ [q_52_7_7]) (va_up pf q_52_7_7 (arE cO 10 (fun _ => none)))) : va_W).set k_r (q_52_7_7, arE cO 10 (va_up (fun _ => none) 0 (some pa)))) H := hP
    have hD : va_D _ ((([(la, .inr (0, [.int mo, .ref q_52_7_7, .int 0]))] ++ va_pl (LP ++ [q_52_7_7]) (va_up pf q_52_7_7 (arE cO 10 (fun _ => none)))) : va_W).set k_r (q_52_7_7, arE cO 10 (va_up (fun _ => none) 0 (some pa)))) := hD
    rw [hset] at hP hD
    rw [kup_up] at hP hD
    have hP : va_P D vwCl ([(la, .inr (0, [.int mo, .ref q_52_7_7, .int 0]))] ++ va_pl (LP ++ [q_52_7_7]) (va_up pf q_52_7_7 (arE cO 10 (va_up (fun _ => none) 0 (some pa))))) H := hP
    have hD : va_D _ ([(la, .inr (0, [.int mo, .ref q_52_7_7, .int 0]))] ++ va_pl (LP ++ [q_52_7_7]) (va_up pf q_52_7_7 (arE cO 10 (va_up (fun _ => none) 0 (some pa))))) := hD
    refine lv_aload_n hx hb dJx4a65c_add_72be8_15 rfl (lv_at hl 1 rfl) ?_
    refine lv_iload_n hx hb dJx4a65c_add_72be8_16 rfl (lv_at hl 3 rfl) ?_
    refine lv_iconst (v := 1) hx hb dJx4a65c_add_72be8_17 (by decide) ?_
    refine lv_iadd hx hb dJx4a65c_add_72be8_18 ?_
    refine lv_topi (fun nv_2 ev_2 => ?_)
    obtain rfl : nv_2 = 1 := ev_2.trans (by decide)
    refine va_put (D := D) (ci := 0) (v := .int 1) (ty := .int) (C := RJx4a65c) (T := TJx4a65c) (N := 3) hx hb hts hi_Jx4a65c tyJx4a65c tyJx4a65c_ok nmJx4a65c hown hK.1 hP hD hS 0 rfl rfl 2 (by decide) hw_f48 (fun _ h9 => h9) rfl (by decide +kernel) rfl rfl (Nat.le_of_ble_eq_true rfl) dJx4a65c_add_72be8_19 (fun H locs hP hD hS => ?_)
    have hP : va_P D vwCl ([(la, .inr (0, [.int mo, .ref q_52_7_7, .int 1]))] ++ va_pl (LP ++ [q_52_7_7]) (va_up pf q_52_7_7 (arE cO 10 (va_up (fun _ => none) 0 (some pa))))) H := hP
    have hD : va_D _ ([(la, .inr (0, [.int mo, .ref q_52_7_7, .int 1]))] ++ va_pl (LP ++ [q_52_7_7]) (va_up pf q_52_7_7 (arE cO 10 (va_up (fun _ => none) 0 (some pa))))) := hD
    exact kRetV hx hb hr hlk dJx4a65c_add_72be8_22 hP hD hS (Nat.le_of_ble_eq_true rfl) (Nat.le_of_ble_eq_true rfl) ⟨q_52_7_7, rfl, rfl, hqn_7⟩

set_option maxHeartbeats 4000000 in
set_option maxRecDepth 100000 in
theorem c_Jx4a65c_add_72be8_b (l : Launch) (D : va_G) (cI cJ cZ cO : ClassId) (e0 : Nat) (mi : Nat) (la : Nat) (mo : Int32) (ea : Nat) (al : Nat → Option Nat) (LP : List Nat) (pf : Nat → va_E) (pa : Nat) (ne : Int32) (ei : Int32) (gv : Int32) (sk : Int32) (pg : Int32) (hm : ea ∈ LP) (hpf : pf ea = arE cO 10 al) (hel : pcs al LP pf) (hpa : pa ∈ LP) (hpe : pf pa = pcE ne ei gv sk pg) : kCx l D (kTY cI cJ cZ cO) e0 mi yJx4a65c_add_72be8 wsJx4a65c_add_72be8 5 108 1 15 [.ref la, .ref pa, .ref ea, .int 10] ([(la, .inr (0, [.int mo, .ref ea, .int 10]))] ++ va_pl LP pf) (fun rv_ rw_ => ∃ q_7_6_37_7_7 : Nat, rv_ = none ∧ rw_ = ([(la, .inr (0, [.int mo, .ref q_7_6_37_7_7, .int 11]))] ++ va_pl (LP ++ [q_7_6_37_7_7]) (va_up pf q_7_6_37_7_7 (arE cO 15 (va_up (fun i => if i < 10 then al i else none) 10 (some pa))))) ∧ q_7_6_37_7_7 ∉ LP) := by
  refine kEnterX (cc := cJx4a65c_add_72be8) (maxL := 4) (ret := none) (by decide) rfl (Nat.le_of_ble_eq_true rfl) ?_
  intro p e s m args below meth c hx hb hr hml hts hown hlk hnm hK hX hP hD hS hA ls hl
  have hl : lv_has ls 4 [(0, .ref la), (1, .ref pa), (2, .ref ea), (3, .int 10)] := hl
  have hw_f48 := hts (.fieldLink RJx4a65c 48 "java/util/ArrayList" "size" "I") (by decide +kernel)
  have hi_Jx4a65c : ∀ w ∈ wsJx4a65c0, w ∈ wsJx4a65c_add_72be8 := by decide +kernel
  refine lv_iload_n hx hb dJx4a65c_add_72be8_0 rfl (lv_at hl 3 rfl) ?_
  refine lv_aload_n hx hb dJx4a65c_add_72be8_1 rfl (lv_at hl 2 rfl) ?_
  have hm_e : ea ∈ LP := hm
  obtain ⟨k_e, hk0_e⟩ := va_pl_get (X := [(la, .inr (0, [.int mo, .ref ea, .int 10]))]) (f := pf) hm_e
  have hk_e := hk0_e
  rw [hpf] at hk_e
  refine va_alen (v := 10) hx hb hK.1 hP k_e 3 hk_e rfl rfl dJx4a65c_add_72be8_2 ?_
  refine lv_icmp_ne (tgt := 11) hx hb dJx4a65c_add_72be8_3 (by decide) (fun c_3 => ?_) (fun c_3 => ?_)
  · exact absurd (by decide) c_3
  · skip
    refine lv_aload_n hx hb dJx4a65c_add_72be8_6 rfl (lv_at hl 0 rfl) ?_
    refine kGoP (cx := [(la, .inr (0, [.int mo, .ref ea, .int 10]))]) (wr := []) (va_runV (As := []) (rest := []) ⟨hx, hb, hml, hown, hts⟩ (c_Jx4a65c_grow_d5877_b l D cI cJ cZ cO e0 mi la mo ea al LP pf (by first | assumption | omega | decide) (by first | assumption | omega | decide) (by first | assumption | omega | decide) _) (cwV 0 hts gJx4a65c_add_72be8_Jx4a65c_grow_d5877 rfl rfl rfl (by decide +kernel) ⟨Nat.le_of_ble_eq_true rfl, Nat.le_of_ble_eq_true rfl⟩) (kPreVX (ci := 0) (q0 := 0) hK hX hS (va_freeP hD hS hA [0] rfl) (hP.part [0] rfl) ((hD.part [0] (by decide) rfl).weaken (fun _ _ _ _ => trivial)) rfl rfl rfl) rfl rfl hl.1 rfl (lv_room (Nat.le_of_ble_eq_true rfl)) dJx4a65c_add_72be8_7 ⟨Nat.le_of_ble_eq_true rfl, Nat.le_of_ble_eq_true rfl⟩) hP hD hS hA [0] [] rfl rfl (by decide) (by decide) (fun v_1 w_1 H locs hv_1 hP hS => ?_)
    obtain ⟨q_7_6_37_7_7, rfl, rfl, hqn_7⟩ := hv_1
    obtain ⟨hP, hD⟩ := hP _ _ rfl
    have hP : va_P D vwCl ([(la, .inr (0, [.int mo, .ref q_7_6_37_7_7, .int 10]))] ++ va_pl (LP ++ [q_7_6_37_7_7]) (va_up pf q_7_6_37_7_7 (arE cO 15 (fun i => if i < 10 then al i else none)))) H := hP.part [0] rfl
    have hD : va_D _ ([(la, .inr (0, [.int mo, .ref q_7_6_37_7_7, .int 10]))] ++ va_pl (LP ++ [q_7_6_37_7_7]) (va_up pf q_7_6_37_7_7 (arE cO 15 (fun i => if i < 10 then al i else none)))) := hD.part [0] (by decide) rfl
    refine W.eq (g2 := F0 m 10 ls [.ref q_7_6_37_7_7]) rfl ?_
    refine lv_astore_n (lv' := [(2, .ref q_7_6_37_7_7), (0, .ref la), (1, .ref pa), (3, .int 10)]) hx hb dJx4a65c_add_72be8_10 rfl hl (by decide) rfl (fun ls hl => ?_)
    have hpq : pa ≠ q_7_6_37_7_7 := fun z => hqn_7 (z ▸ hpa)
    refine lv_aload_n hx hb dJx4a65c_add_72be8_11 rfl (lv_at hl 0 rfl) ?_
    refine lv_iload_n hx hb dJx4a65c_add_72be8_12 rfl (lv_at hl 3 rfl) ?_
    refine lv_aload_n hx hb dJx4a65c_add_72be8_13 rfl (lv_at hl 2 rfl) ?_
    have hm_r : q_7_6_37_7_7 ∈ (LP ++ [q_7_6_37_7_7]) := List.mem_append_right _ List.mem_cons_self
    obtain ⟨k_r, hk0_r⟩ := va_pl_get (X := [(la, .inr (0, [.int mo, .ref q_7_6_37_7_7, .int 10]))]) (f := (va_up pf q_7_6_37_7_7 (arE cO 15 (fun i => if i < 10 then al i else none)))) hm_r
    have hk_r := hk0_r
    rw [show va_up pf q_7_6_37_7_7 _ q_7_6_37_7_7 = arE cO 15 (fun i => if i < 10 then al i else none) from kup_s] at hk_r
    have hm_v : pa ∈ (LP ++ [q_7_6_37_7_7]) := List.mem_append_left _ hpa
    obtain ⟨k_v, hk0_v⟩ := va_pl_get (X := [(la, .inr (0, [.int mo, .ref q_7_6_37_7_7, .int 10]))]) (f := (va_up pf q_7_6_37_7_7 (arE cO 15 (fun i => if i < 10 then al i else none)))) hm_v
    have hk_v := hk0_v
    rw [show va_up pf q_7_6_37_7_7 _ pa = pcE ne ei gv sk pg from (kup_n hpq).trans hpe] at hk_v
    have hset := va_pl_set (e := arE cO 15 (va_up (fun i => if i < 10 then al i else none) 10 (some pa))) hD hm_r hk0_r
    refine va_astqO hx hb hK.1 hP hD hS k_r 3 k_v 2 hk_r rfl hK.2.2.2.2.2.2.2.2 hk_v rfl (by unfold vp_in; decide) dJx4a65c_add_72be8_14 (fun H locs hP hD hS => ?_)
    rw [show (10 : Int32).toNatClampNeg = 10 from rfl] at hP hD
    have hP : va_P D vwCl ((([(la, .inr (0, [.int mo, .ref q_7_6_37_7_7, .int 10]))] ++ va_pl (LP ++ [q_7_6_37_7_7]) (va_up pf q_7_6_37_7_7 (arE cO 15 (fun i => if i < 10 then al i else none)))) : va_W).set k_r (q_7_6_37_7_7, arE cO 15 (va_up (fun i => if i < 10 then al i else none) 10 (some pa)))) H := hP
    have hD : va_D _ ((([(la, .inr (0, [.int mo, .ref q_7_6_37_7_7, .int 10]))] ++ va_pl (LP ++ [q_7_6_37_7_7]) (va_up pf q_7_6_37_7_7 (arE cO 15 (fun i => if i < 10 then al i else none)))) : va_W).set k_r (q_7_6_37_7_7, arE cO 15 (va_up (fun i => if i < 10 then al i else none) 10 (some pa)))) := hD
    rw [hset] at hP hD
    rw [kup_up] at hP hD
    have hP : va_P D vwCl ([(la, .inr (0, [.int mo, .ref q_7_6_37_7_7, .int 10]))] ++ va_pl (LP ++ [q_7_6_37_7_7]) (va_up pf q_7_6_37_7_7 (arE cO 15 (va_up (fun i => if i < 10 then al i else none) 10 (some pa))))) H := hP
    have hD : va_D _ ([(la, .inr (0, [.int mo, .ref q_7_6_37_7_7, .int 10]))] ++ va_pl (LP ++ [q_7_6_37_7_7]) (va_up pf q_7_6_37_7_7 (arE cO 15 (va_up (fun i => if i < 10 then al i else none) 10 (some pa))))) := hD
    refine lv_aload_n hx hb dJx4a65c_add_72be8_15 rfl (lv_at hl 1 rfl) ?_
    refine lv_iload_n hx hb dJx4a65c_add_72be8_16 rfl (lv_at hl 3 rfl) ?_
    refine lv_iconst (v := 1) hx hb dJx4a65c_add_72be8_17 (by decide) ?_
    refine lv_iadd hx hb dJx4a65c_add_72be8_18 ?_
    refine lv_topi (fun nv_2 ev_2 => ?_)
    obtain rfl : nv_2 = 11 := ev_2.trans (by decide)
    refine va_put (D := D) (ci := 0) (v := .int 11) (ty := .int) (C := RJx4a65c) (T := TJx4a65c) (N := 3) hx hb hts hi_Jx4a65c tyJx4a65c tyJx4a65c_ok nmJx4a65c hown hK.1 hP hD hS 0 rfl rfl 2 (by decide) hw_f48 (fun _ h9 => h9) rfl (by decide +kernel) rfl rfl (Nat.le_of_ble_eq_true rfl) dJx4a65c_add_72be8_19 (fun H locs hP hD hS => ?_)
    have hP : va_P D vwCl ([(la, .inr (0, [.int mo, .ref q_7_6_37_7_7, .int 11]))] ++ va_pl (LP ++ [q_7_6_37_7_7]) (va_up pf q_7_6_37_7_7 (arE cO 15 (va_up (fun i => if i < 10 then al i else none) 10 (some pa))))) H := hP
    have hD : va_D _ ([(la, .inr (0, [.int mo, .ref q_7_6_37_7_7, .int 11]))] ++ va_pl (LP ++ [q_7_6_37_7_7]) (va_up pf q_7_6_37_7_7 (arE cO 15 (va_up (fun i => if i < 10 then al i else none) 10 (some pa))))) := hD
    exact kRetV hx hb hr hlk dJx4a65c_add_72be8_22 hP hD hS (Nat.le_of_ble_eq_true rfl) (Nat.le_of_ble_eq_true rfl) ⟨q_7_6_37_7_7, rfl, rfl, hqn_7⟩

set_option maxHeartbeats 4000000 in
set_option maxRecDepth 100000 in
theorem c_Jx4a65c_add_72be8_c (l : Launch) (D : va_G) (cI cJ cZ cO : ClassId) (e0 : Nat) (mi : Nat) (la : Nat) (mo : Int32) (ea : Nat) (al : Nat → Option Nat) (LP : List Nat) (pf : Nat → va_E) (cap : Nat) (n : Nat) (pa : Nat) (ne : Int32) (ei : Int32) (gv : Int32) (sk : Int32) (pg : Int32) (hm : ea ∈ LP) (hpf : pf ea = arE cO cap al) (hnc : n < cap) (hcap : cap < 4096) (hpa : pa ∈ LP) (hpe : pf pa = pcE ne ei gv sk pg) : kCx l D (kTY cI cJ cZ cO) e0 mi yJx4a65c_add_72be8 wsJx4a65c_add_72be8 0 0 0 0 [.ref la, .ref pa, .ref ea, .int (nI n)] ([(la, .inr (0, [.int mo, .ref ea, .int (nI n)]))] ++ va_pl LP pf) (fun rv_ rw_ => rv_ = none ∧ rw_ = ([(la, .inr (0, [.int mo, .ref ea, .int (nI (n + 1))]))] ++ va_pl LP (va_up pf ea (arE cO cap (va_up al n (some pa)))))) := by
  refine kEnterX (cc := cJx4a65c_add_72be8) (maxL := 4) (ret := none) (by decide) rfl (Nat.le_of_ble_eq_true rfl) ?_
  intro p e s m args below meth c hx hb hr hml hts hown hlk hnm hK hX hP hD hS hA ls hl
  have hl : lv_has ls 4 [(0, .ref la), (1, .ref pa), (2, .ref ea), (3, .int (nI n))] := hl
  have hw_f48 := hts (.fieldLink RJx4a65c 48 "java/util/ArrayList" "size" "I") (by decide +kernel)
  have hi_Jx4a65c : ∀ w ∈ wsJx4a65c0, w ∈ wsJx4a65c_add_72be8 := by decide +kernel
  refine lv_iload_n hx hb dJx4a65c_add_72be8_0 rfl (lv_at hl 3 rfl) ?_
  refine lv_aload_n hx hb dJx4a65c_add_72be8_1 rfl (lv_at hl 2 rfl) ?_
  have hm_e : ea ∈ LP := hm
  obtain ⟨k_e, hk0_e⟩ := va_pl_get (X := [(la, .inr (0, [.int mo, .ref ea, .int (nI n)]))]) (f := pf) hm_e
  have hk_e := hk0_e
  rw [hpf] at hk_e
  refine va_alen (v := nI cap) hx hb hK.1 hP k_e 3 hk_e rfl rfl dJx4a65c_add_72be8_2 ?_
  refine lv_icmp_ne (tgt := 11) hx hb dJx4a65c_add_72be8_3 (by decide) (fun c_3 => ?_) (fun c_3 => ?_)
  · skip
    refine lv_aload_n hx hb dJx4a65c_add_72be8_11 rfl (lv_at hl 2 rfl) ?_
    refine lv_iload_n hx hb dJx4a65c_add_72be8_12 rfl (lv_at hl 3 rfl) ?_
    refine lv_aload_n hx hb dJx4a65c_add_72be8_13 rfl (lv_at hl 1 rfl) ?_
    have hm_r : ea ∈ LP := hm
    obtain ⟨k_r, hk0_r⟩ := va_pl_get (X := [(la, .inr (0, [.int mo, .ref ea, .int (nI n)]))]) (f := pf) hm_r
    have hk_r := hk0_r
    rw [hpf] at hk_r
    have hm_v : pa ∈ LP := hpa
    obtain ⟨k_v, hk0_v⟩ := va_pl_get (X := [(la, .inr (0, [.int mo, .ref ea, .int (nI n)]))]) (f := pf) hm_v
    have hk_v := hk0_v
    rw [hpe] at hk_v
    have hset := va_pl_set (e := arE cO cap (va_up al n (some pa))) hD hm_r hk0_r
    refine va_astqO hx hb hK.1 hP hD hS k_r 3 k_v 2 hk_r rfl hK.2.2.2.2.2.2.2.2 hk_v rfl (vp_in_nI (by omega) (by omega)) dJx4a65c_add_72be8_14 (fun H locs hP hD hS => ?_)
    rw [nI_clamp (by omega)] at hP hD
    have hP : va_P D vwCl ((([(la, .inr (0, [.int mo, .ref ea, .int (nI n)]))] ++ va_pl LP pf) : va_W).set k_r (ea, arE cO cap (va_up al n (some pa)))) H := hP
    have hD : va_D _ ((([(la, .inr (0, [.int mo, .ref ea, .int (nI n)]))] ++ va_pl LP pf) : va_W).set k_r (ea, arE cO cap (va_up al n (some pa)))) := hD
    rw [hset] at hP hD
    have hP : va_P D vwCl ([(la, .inr (0, [.int mo, .ref ea, .int (nI n)]))] ++ va_pl LP (va_up pf ea (arE cO cap (va_up al n (some pa))))) H := hP
    have hD : va_D _ ([(la, .inr (0, [.int mo, .ref ea, .int (nI n)]))] ++ va_pl LP (va_up pf ea (arE cO cap (va_up al n (some pa))))) := hD
    refine lv_aload_n hx hb dJx4a65c_add_72be8_15 rfl (lv_at hl 0 rfl) ?_
    refine lv_iload_n hx hb dJx4a65c_add_72be8_16 rfl (lv_at hl 3 rfl) ?_
    refine lv_iconst (v := 1) hx hb dJx4a65c_add_72be8_17 (by decide) ?_
    refine lv_iadd hx hb dJx4a65c_add_72be8_18 ?_
    refine lv_topi (fun nv_1 ev_1 => ?_)
    obtain rfl : nv_1 = nI (n + 1) := ev_1.trans (nI_1 n)
    refine va_put (D := D) (ci := 0) (v := .int (nI (n + 1))) (ty := .int) (C := RJx4a65c) (T := TJx4a65c) (N := 3) hx hb hts hi_Jx4a65c tyJx4a65c tyJx4a65c_ok nmJx4a65c hown hK.1 hP hD hS 0 rfl rfl 2 (by decide) hw_f48 (fun _ h9 => h9) rfl (by decide +kernel) rfl rfl (Nat.le_of_ble_eq_true rfl) dJx4a65c_add_72be8_19 (fun H locs hP hD hS => ?_)
    have hP : va_P D vwCl ([(la, .inr (0, [.int mo, .ref ea, .int (nI (n + 1))]))] ++ va_pl LP (va_up pf ea (arE cO cap (va_up al n (some pa))))) H := hP
    have hD : va_D _ ([(la, .inr (0, [.int mo, .ref ea, .int (nI (n + 1))]))] ++ va_pl LP (va_up pf ea (arE cO cap (va_up al n (some pa))))) := hD
    exact kRetV hx hb hr hlk dJx4a65c_add_72be8_22 hP hD hS (Nat.le_of_ble_eq_true rfl) (Nat.le_of_ble_eq_true rfl) ⟨rfl, rfl⟩
  · exact absurd c_3 (by intro z; rw [nI_eq (by omega) (by omega)] at z; omega)

set_option maxHeartbeats 4000000 in
set_option maxRecDepth 100000 in
theorem c_Jx4a65c_add_9ea2d_a (l : Launch) (D : va_G) (cI cJ cZ cO : ClassId) (e0 : Nat) (mi : Nat) (la : Nat) (mo : Int32) (LP : List Nat) (pf : Nat → va_E) (pa : Nat) (ne : Int32) (ei : Int32) (gv : Int32) (sk : Int32) (pg : Int32) (hpa : pa ∈ LP) (hpe : pf pa = pcE ne ei gv sk pg) : kCx l D (kTY cI cJ cZ cO) e0 mi yJx4a65c_add_9ea2d wsJx4a65c_add_9ea2d 6 131 1 10 [.ref la, .ref pa] ([(la, .inr (0, [.int mo, .ref e0, .int 0]))] ++ va_pl LP pf) (fun rv_ rw_ => ∃ q_52_7_7_20 : Nat, rv_ = some (.int (k01 true)) ∧ rw_ = ([(la, .inr (0, [.int (mo + 1), .ref q_52_7_7_20, .int 1]))] ++ va_pl (LP ++ [q_52_7_7_20]) (va_up pf q_52_7_7_20 (arE cO 10 (va_up (fun _ => none) 0 (some pa))))) ∧ q_52_7_7_20 ∉ LP) := by
  refine kEnterX (cc := cJx4a65c_add_9ea2d) (maxL := 2) (ret := (some .boolean)) (by decide) rfl (Nat.le_of_ble_eq_true rfl) ?_
  intro p e s m args below meth c hx hb hr hml hts hown hlk hnm hK hX hP hD hS hA ls hl
  have hl : lv_has ls 2 [(0, .ref la), (1, .ref pa)] := hl
  have hw_f63 := hts (.fieldLink RJx4a65c 63 "java/util/ArrayList" "modCount" "I") (by decide +kernel)
  have hw_s63 := hts (.sameField "java/util/ArrayList" "java/util/AbstractList" "modCount" "I") (by decide +kernel)
  have hi_Jx4a65c : ∀ w ∈ wsJx4a65c0, w ∈ wsJx4a65c_add_9ea2d := by decide +kernel
  have hw_f9 := hts (.fieldLink RJx4a65c 9 "java/util/ArrayList" "elementData" "[Ljava/lang/Object;") (by decide +kernel)
  have hw_f48 := hts (.fieldLink RJx4a65c 48 "java/util/ArrayList" "size" "I") (by decide +kernel)
  refine lv_aload_n hx hb dJx4a65c_add_9ea2d_0 rfl (lv_at hl 0 rfl) ?_
  refine lv_dup hx hb dJx4a65c_add_9ea2d_1 rfl ?_
  refine va_get (D := D) (ci := 0) (v := .int mo) (C := RJx4a65c) (T := TJx4a65c) (N := 3) hx hb hts hi_Jx4a65c hown hK.1 hP 0 rfl rfl 0 (by decide) hw_f63 (fun x h9 => u_same hw_s63 x h9) rfl dJx4a65c_add_9ea2d_2 ?_
  refine lv_iconst (v := 1) hx hb dJx4a65c_add_9ea2d_5 (by decide) ?_
  refine lv_iadd hx hb dJx4a65c_add_9ea2d_6 ?_
  refine va_put (D := D) (ci := 0) (v := .int (mo + 1)) (ty := .int) (C := RJx4a65c) (T := TJx4a65c) (N := 3) hx hb hts hi_Jx4a65c tyJx4a65c tyJx4a65c_ok nmJx4a65c hown hK.1 hP hD hS 0 rfl rfl 0 (by decide) hw_f63 (fun x h9 => u_same hw_s63 x h9) rfl (by decide +kernel) rfl rfl (Nat.le_of_ble_eq_true rfl) dJx4a65c_add_9ea2d_7 (fun H locs hP hD hS => ?_)
  have hP : va_P D vwCl ([(la, .inr (0, [.int (mo + 1), .ref e0, .int 0]))] ++ va_pl LP pf) H := hP
  have hD : va_D _ ([(la, .inr (0, [.int (mo + 1), .ref e0, .int 0]))] ++ va_pl LP pf) := hD
  refine lv_aload_n hx hb dJx4a65c_add_9ea2d_10 rfl (lv_at hl 0 rfl) ?_
  refine lv_aload_n hx hb dJx4a65c_add_9ea2d_11 rfl (lv_at hl 1 rfl) ?_
  refine lv_aload_n hx hb dJx4a65c_add_9ea2d_12 rfl (lv_at hl 0 rfl) ?_
  refine va_get (D := D) (ci := 0) (v := .ref e0) (C := RJx4a65c) (T := TJx4a65c) (N := 3) hx hb hts hi_Jx4a65c hown hK.1 hP 0 rfl rfl 1 (by decide) hw_f9 (fun _ h9 => h9) rfl dJx4a65c_add_9ea2d_13 ?_
  refine lv_aload_n hx hb dJx4a65c_add_9ea2d_16 rfl (lv_at hl 0 rfl) ?_
  refine va_get (D := D) (ci := 0) (v := .int 0) (C := RJx4a65c) (T := TJx4a65c) (N := 3) hx hb hts hi_Jx4a65c hown hK.1 hP 0 rfl rfl 2 (by decide) hw_f48 (fun _ h9 => h9) rfl dJx4a65c_add_9ea2d_17 ?_
  refine kGoP (cx := [(la, .inr (0, [.int (mo + 1), .ref e0, .int 0]))]) (wr := []) (va_runV (As := [.ref pa, .ref e0, .int 0]) (rest := []) ⟨hx, hb, hml, hown, hts⟩ (c_Jx4a65c_add_72be8_a l D cI cJ cZ cO e0 mi la (mo + 1) LP pf pa ne ei gv sk pg (by first | assumption | omega | decide) (by first | assumption | omega | decide) _) (cwV 3 hts gJx4a65c_add_9ea2d_Jx4a65c_add_72be8 rfl rfl rfl (by decide +kernel) ⟨Nat.le_of_ble_eq_true rfl, Nat.le_of_ble_eq_true rfl⟩) (kPreVX (ci := 0) (q0 := 0) hK hX hS (va_freeP hD hS hA [0] rfl) (hP.part [0] rfl) ((hD.part [0] (by decide) rfl).weaken (fun _ _ _ _ => trivial)) rfl rfl rfl) rfl rfl hl.1 rfl (lv_room (Nat.le_of_ble_eq_true rfl)) dJx4a65c_add_9ea2d_20 ⟨Nat.le_of_ble_eq_true rfl, Nat.le_of_ble_eq_true rfl⟩) hP hD hS hA [0] [] rfl rfl (by decide) (by decide) (fun v_1 w_1 H locs hv_1 hP hS => ?_)
  obtain ⟨q_52_7_7_20, rfl, rfl, hqn_20⟩ := hv_1
  obtain ⟨hP, hD⟩ := hP _ _ rfl
  have hP : va_P D vwCl ([(la, .inr (0, [.int (mo + 1), .ref q_52_7_7_20, .int 1]))] ++ va_pl (LP ++ [q_52_7_7_20]) (va_up pf q_52_7_7_20 (arE cO 10 (va_up (fun _ => none) 0 (some pa))))) H := hP.part [0] rfl
  have hD : va_D _ ([(la, .inr (0, [.int (mo + 1), .ref q_52_7_7_20, .int 1]))] ++ va_pl (LP ++ [q_52_7_7_20]) (va_up pf q_52_7_7_20 (arE cO 10 (va_up (fun _ => none) 0 (some pa))))) := hD.part [0] (by decide) rfl
  refine W.eq (g2 := F0 m 23 ls []) rfl ?_
  refine lv_iconst (v := 1) hx hb dJx4a65c_add_9ea2d_23 (by decide) ?_
  exact kRetZ true (by first | rfl | (rw [ex, e12]; done) | (rw [em, e12]; done) | (rw [ey, e12]; done) | (rw [e12]; done) | (simp []; done) | (simp_all []; done)) hx hb hr hlk dJx4a65c_add_9ea2d_24 hP hD hS (Nat.le_of_ble_eq_true rfl) (Nat.le_of_ble_eq_true rfl) ⟨q_52_7_7_20, rfl, rfl, hqn_20⟩

set_option maxHeartbeats 4000000 in
set_option maxRecDepth 100000 in
theorem c_Jx4a65c_add_9ea2d_b (l : Launch) (D : va_G) (cI cJ cZ cO : ClassId) (e0 : Nat) (mi : Nat) (la : Nat) (mo : Int32) (ea : Nat) (al : Nat → Option Nat) (LP : List Nat) (pf : Nat → va_E) (pa : Nat) (ne : Int32) (ei : Int32) (gv : Int32) (sk : Int32) (pg : Int32) (hm : ea ∈ LP) (hpf : pf ea = arE cO 10 al) (hel : pcs al LP pf) (hpa : pa ∈ LP) (hpe : pf pa = pcE ne ei gv sk pg) : kCx l D (kTY cI cJ cZ cO) e0 mi yJx4a65c_add_9ea2d wsJx4a65c_add_9ea2d 6 131 1 15 [.ref la, .ref pa] ([(la, .inr (0, [.int mo, .ref ea, .int 10]))] ++ va_pl LP pf) (fun rv_ rw_ => ∃ q_7_6_37_7_7_20 : Nat, rv_ = some (.int (k01 true)) ∧ rw_ = ([(la, .inr (0, [.int (mo + 1), .ref q_7_6_37_7_7_20, .int 11]))] ++ va_pl (LP ++ [q_7_6_37_7_7_20]) (va_up pf q_7_6_37_7_7_20 (arE cO 15 (va_up (fun i => if i < 10 then al i else none) 10 (some pa))))) ∧ q_7_6_37_7_7_20 ∉ LP) := by
  refine kEnterX (cc := cJx4a65c_add_9ea2d) (maxL := 2) (ret := (some .boolean)) (by decide) rfl (Nat.le_of_ble_eq_true rfl) ?_
  intro p e s m args below meth c hx hb hr hml hts hown hlk hnm hK hX hP hD hS hA ls hl
  have hl : lv_has ls 2 [(0, .ref la), (1, .ref pa)] := hl
  have hw_f63 := hts (.fieldLink RJx4a65c 63 "java/util/ArrayList" "modCount" "I") (by decide +kernel)
  have hw_s63 := hts (.sameField "java/util/ArrayList" "java/util/AbstractList" "modCount" "I") (by decide +kernel)
  have hi_Jx4a65c : ∀ w ∈ wsJx4a65c0, w ∈ wsJx4a65c_add_9ea2d := by decide +kernel
  have hw_f9 := hts (.fieldLink RJx4a65c 9 "java/util/ArrayList" "elementData" "[Ljava/lang/Object;") (by decide +kernel)
  have hw_f48 := hts (.fieldLink RJx4a65c 48 "java/util/ArrayList" "size" "I") (by decide +kernel)
  refine lv_aload_n hx hb dJx4a65c_add_9ea2d_0 rfl (lv_at hl 0 rfl) ?_
  refine lv_dup hx hb dJx4a65c_add_9ea2d_1 rfl ?_
  refine va_get (D := D) (ci := 0) (v := .int mo) (C := RJx4a65c) (T := TJx4a65c) (N := 3) hx hb hts hi_Jx4a65c hown hK.1 hP 0 rfl rfl 0 (by decide) hw_f63 (fun x h9 => u_same hw_s63 x h9) rfl dJx4a65c_add_9ea2d_2 ?_
  refine lv_iconst (v := 1) hx hb dJx4a65c_add_9ea2d_5 (by decide) ?_
  refine lv_iadd hx hb dJx4a65c_add_9ea2d_6 ?_
  refine va_put (D := D) (ci := 0) (v := .int (mo + 1)) (ty := .int) (C := RJx4a65c) (T := TJx4a65c) (N := 3) hx hb hts hi_Jx4a65c tyJx4a65c tyJx4a65c_ok nmJx4a65c hown hK.1 hP hD hS 0 rfl rfl 0 (by decide) hw_f63 (fun x h9 => u_same hw_s63 x h9) rfl (by decide +kernel) rfl rfl (Nat.le_of_ble_eq_true rfl) dJx4a65c_add_9ea2d_7 (fun H locs hP hD hS => ?_)
  have hP : va_P D vwCl ([(la, .inr (0, [.int (mo + 1), .ref ea, .int 10]))] ++ va_pl LP pf) H := hP
  have hD : va_D _ ([(la, .inr (0, [.int (mo + 1), .ref ea, .int 10]))] ++ va_pl LP pf) := hD
  refine lv_aload_n hx hb dJx4a65c_add_9ea2d_10 rfl (lv_at hl 0 rfl) ?_
  refine lv_aload_n hx hb dJx4a65c_add_9ea2d_11 rfl (lv_at hl 1 rfl) ?_
  refine lv_aload_n hx hb dJx4a65c_add_9ea2d_12 rfl (lv_at hl 0 rfl) ?_
  refine va_get (D := D) (ci := 0) (v := .ref ea) (C := RJx4a65c) (T := TJx4a65c) (N := 3) hx hb hts hi_Jx4a65c hown hK.1 hP 0 rfl rfl 1 (by decide) hw_f9 (fun _ h9 => h9) rfl dJx4a65c_add_9ea2d_13 ?_
  refine lv_aload_n hx hb dJx4a65c_add_9ea2d_16 rfl (lv_at hl 0 rfl) ?_
  refine va_get (D := D) (ci := 0) (v := .int 10) (C := RJx4a65c) (T := TJx4a65c) (N := 3) hx hb hts hi_Jx4a65c hown hK.1 hP 0 rfl rfl 2 (by decide) hw_f48 (fun _ h9 => h9) rfl dJx4a65c_add_9ea2d_17 ?_
  refine kGoP (cx := [(la, .inr (0, [.int (mo + 1), .ref ea, .int 10]))]) (wr := []) (va_runV (As := [.ref pa, .ref ea, .int 10]) (rest := []) ⟨hx, hb, hml, hown, hts⟩ (c_Jx4a65c_add_72be8_b l D cI cJ cZ cO e0 mi la (mo + 1) ea al LP pf pa ne ei gv sk pg (by first | assumption | omega | decide) (by first | assumption | omega | decide) (by first | assumption | omega | decide) (by first | assumption | omega | decide) (by first | assumption | omega | decide) _) (cwV 3 hts gJx4a65c_add_9ea2d_Jx4a65c_add_72be8 rfl rfl rfl (by decide +kernel) ⟨Nat.le_of_ble_eq_true rfl, Nat.le_of_ble_eq_true rfl⟩) (kPreVX (ci := 0) (q0 := 0) hK hX hS (va_freeP hD hS hA [0] rfl) (hP.part [0] rfl) ((hD.part [0] (by decide) rfl).weaken (fun _ _ _ _ => trivial)) rfl rfl rfl) rfl rfl hl.1 rfl (lv_room (Nat.le_of_ble_eq_true rfl)) dJx4a65c_add_9ea2d_20 ⟨Nat.le_of_ble_eq_true rfl, Nat.le_of_ble_eq_true rfl⟩) hP hD hS hA [0] [] rfl rfl (by decide) (by decide) (fun v_1 w_1 H locs hv_1 hP hS => ?_)
  obtain ⟨q_7_6_37_7_7_20, rfl, rfl, hqn_20⟩ := hv_1
  obtain ⟨hP, hD⟩ := hP _ _ rfl
  have hP : va_P D vwCl ([(la, .inr (0, [.int (mo + 1), .ref q_7_6_37_7_7_20, .int 11]))] ++ va_pl (LP ++ [q_7_6_37_7_7_20]) (va_up pf q_7_6_37_7_7_20 (arE cO 15 (va_up (fun i => if i < 10 then al i else none) 10 (some pa))))) H := hP.part [0] rfl
  have hD : va_D _ ([(la, .inr (0, [.int (mo + 1), .ref q_7_6_37_7_7_20, .int 11]))] ++ va_pl (LP ++ [q_7_6_37_7_7_20]) (va_up pf q_7_6_37_7_7_20 (arE cO 15 (va_up (fun i => if i < 10 then al i else none) 10 (some pa))))) := hD.part [0] (by decide) rfl
  refine W.eq (g2 := F0 m 23 ls []) rfl ?_
  refine lv_iconst (v := 1) hx hb dJx4a65c_add_9ea2d_23 (by decide) ?_
  exact kRetZ true (by first | rfl | (rw [ex, e12]; done) | (rw [em, e12]; done) | (rw [ey, e12]; done) | (rw [e12]; done) | (simp []; done) | (simp_all []; done)) hx hb hr hlk dJx4a65c_add_9ea2d_24 hP hD hS (Nat.le_of_ble_eq_true rfl) (Nat.le_of_ble_eq_true rfl) ⟨q_7_6_37_7_7_20, rfl, rfl, hqn_20⟩

set_option maxHeartbeats 4000000 in
set_option maxRecDepth 100000 in
theorem c_Jx4a65c_add_9ea2d_c (l : Launch) (D : va_G) (cI cJ cZ cO : ClassId) (e0 : Nat) (mi : Nat) (la : Nat) (mo : Int32) (ea : Nat) (al : Nat → Option Nat) (LP : List Nat) (pf : Nat → va_E) (cap : Nat) (n : Nat) (pa : Nat) (ne : Int32) (ei : Int32) (gv : Int32) (sk : Int32) (pg : Int32) (hm : ea ∈ LP) (hpf : pf ea = arE cO cap al) (hnc : n < cap) (hcap : cap < 4096) (hpa : pa ∈ LP) (hpe : pf pa = pcE ne ei gv sk pg) : kCx l D (kTY cI cJ cZ cO) e0 mi yJx4a65c_add_9ea2d wsJx4a65c_add_9ea2d 6 131 0 0 [.ref la, .ref pa] ([(la, .inr (0, [.int mo, .ref ea, .int (nI n)]))] ++ va_pl LP pf) (fun rv_ rw_ => rv_ = some (.int (k01 true)) ∧ rw_ = ([(la, .inr (0, [.int (mo + 1), .ref ea, .int (nI (n + 1))]))] ++ va_pl LP (va_up pf ea (arE cO cap (va_up al n (some pa)))))) := by
  refine kEnterX (cc := cJx4a65c_add_9ea2d) (maxL := 2) (ret := (some .boolean)) (by decide) rfl (Nat.le_of_ble_eq_true rfl) ?_
  intro p e s m args below meth c hx hb hr hml hts hown hlk hnm hK hX hP hD hS hA ls hl
  have hl : lv_has ls 2 [(0, .ref la), (1, .ref pa)] := hl
  have hw_f63 := hts (.fieldLink RJx4a65c 63 "java/util/ArrayList" "modCount" "I") (by decide +kernel)
  have hw_s63 := hts (.sameField "java/util/ArrayList" "java/util/AbstractList" "modCount" "I") (by decide +kernel)
  have hi_Jx4a65c : ∀ w ∈ wsJx4a65c0, w ∈ wsJx4a65c_add_9ea2d := by decide +kernel
  have hw_f9 := hts (.fieldLink RJx4a65c 9 "java/util/ArrayList" "elementData" "[Ljava/lang/Object;") (by decide +kernel)
  have hw_f48 := hts (.fieldLink RJx4a65c 48 "java/util/ArrayList" "size" "I") (by decide +kernel)
  refine lv_aload_n hx hb dJx4a65c_add_9ea2d_0 rfl (lv_at hl 0 rfl) ?_
  refine lv_dup hx hb dJx4a65c_add_9ea2d_1 rfl ?_
  refine va_get (D := D) (ci := 0) (v := .int mo) (C := RJx4a65c) (T := TJx4a65c) (N := 3) hx hb hts hi_Jx4a65c hown hK.1 hP 0 rfl rfl 0 (by decide) hw_f63 (fun x h9 => u_same hw_s63 x h9) rfl dJx4a65c_add_9ea2d_2 ?_
  refine lv_iconst (v := 1) hx hb dJx4a65c_add_9ea2d_5 (by decide) ?_
  refine lv_iadd hx hb dJx4a65c_add_9ea2d_6 ?_
  refine va_put (D := D) (ci := 0) (v := .int (mo + 1)) (ty := .int) (C := RJx4a65c) (T := TJx4a65c) (N := 3) hx hb hts hi_Jx4a65c tyJx4a65c tyJx4a65c_ok nmJx4a65c hown hK.1 hP hD hS 0 rfl rfl 0 (by decide) hw_f63 (fun x h9 => u_same hw_s63 x h9) rfl (by decide +kernel) rfl rfl (Nat.le_of_ble_eq_true rfl) dJx4a65c_add_9ea2d_7 (fun H locs hP hD hS => ?_)
  have hP : va_P D vwCl ([(la, .inr (0, [.int (mo + 1), .ref ea, .int (nI n)]))] ++ va_pl LP pf) H := hP
  have hD : va_D _ ([(la, .inr (0, [.int (mo + 1), .ref ea, .int (nI n)]))] ++ va_pl LP pf) := hD
  refine lv_aload_n hx hb dJx4a65c_add_9ea2d_10 rfl (lv_at hl 0 rfl) ?_
  refine lv_aload_n hx hb dJx4a65c_add_9ea2d_11 rfl (lv_at hl 1 rfl) ?_
  refine lv_aload_n hx hb dJx4a65c_add_9ea2d_12 rfl (lv_at hl 0 rfl) ?_
  refine va_get (D := D) (ci := 0) (v := .ref ea) (C := RJx4a65c) (T := TJx4a65c) (N := 3) hx hb hts hi_Jx4a65c hown hK.1 hP 0 rfl rfl 1 (by decide) hw_f9 (fun _ h9 => h9) rfl dJx4a65c_add_9ea2d_13 ?_
  refine lv_aload_n hx hb dJx4a65c_add_9ea2d_16 rfl (lv_at hl 0 rfl) ?_
  refine va_get (D := D) (ci := 0) (v := .int (nI n)) (C := RJx4a65c) (T := TJx4a65c) (N := 3) hx hb hts hi_Jx4a65c hown hK.1 hP 0 rfl rfl 2 (by decide) hw_f48 (fun _ h9 => h9) rfl dJx4a65c_add_9ea2d_17 ?_
  refine kGoP (cx := [(la, .inr (0, [.int (mo + 1), .ref ea, .int (nI n)]))]) (wr := []) (va_runV (As := [.ref pa, .ref ea, .int (nI n)]) (rest := []) ⟨hx, hb, hml, hown, hts⟩ (c_Jx4a65c_add_72be8_c l D cI cJ cZ cO e0 mi la (mo + 1) ea al LP pf cap n pa ne ei gv sk pg (by first | assumption | omega | decide) (by first | assumption | omega | decide) (by first | assumption | omega | decide) (by first | assumption | omega | decide) (by first | assumption | omega | decide) (by first | assumption | omega | decide) _) (cwV 3 hts gJx4a65c_add_9ea2d_Jx4a65c_add_72be8 rfl rfl rfl (by decide +kernel) ⟨Nat.le_of_ble_eq_true rfl, Nat.le_of_ble_eq_true rfl⟩) (kPreVX (ci := 0) (q0 := 0) hK hX hS (va_freeP hD hS hA [0] rfl) (hP.part [0] rfl) ((hD.part [0] (by decide) rfl).weaken (fun _ _ _ _ => trivial)) rfl rfl rfl) rfl rfl hl.1 rfl (lv_room (Nat.le_of_ble_eq_true rfl)) dJx4a65c_add_9ea2d_20 ⟨Nat.le_of_ble_eq_true rfl, Nat.le_of_ble_eq_true rfl⟩) hP hD hS hA [0] [] rfl rfl (by decide) (by decide) (fun v_1 w_1 H locs hv_1 hP hS => ?_)
  obtain ⟨rfl, rfl⟩ := hv_1
  obtain ⟨hP, hD⟩ := hP _ _ rfl
  have hP : va_P D vwCl ([(la, .inr (0, [.int (mo + 1), .ref ea, .int (nI (n + 1))]))] ++ va_pl LP (va_up pf ea (arE cO cap (va_up al n (some pa))))) H := hP.part [0] rfl
  have hD : va_D _ ([(la, .inr (0, [.int (mo + 1), .ref ea, .int (nI (n + 1))]))] ++ va_pl LP (va_up pf ea (arE cO cap (va_up al n (some pa))))) := hD.part [0] (by decide) rfl
  refine W.eq (g2 := F0 m 23 ls []) rfl ?_
  refine lv_iconst (v := 1) hx hb dJx4a65c_add_9ea2d_23 (by decide) ?_
  exact kRetZ true (by first | rfl | (rw [ex, e12]; done) | (rw [em, e12]; done) | (rw [ey, e12]; done) | (rw [e12]; done) | (simp []; done) | (simp_all []; done)) hx hb hr hlk dJx4a65c_add_9ea2d_24 hP hD hS (Nat.le_of_ble_eq_true rfl) (Nat.le_of_ble_eq_true rfl) ⟨rfl, rfl⟩
