/-! ===== the class: state, which throws ===== -/
def kYB : List Cond := (vx_atS RX7 183 "java/util/NoSuchElementException" ["java/lang/RuntimeException", "java/lang/Exception"]).filter (fun w => !goodWord w)
def kFa (w : Cond) : Bool := match w with
  | .castable _ _ => true
  | .declares _ => true
  | _ => false
theorem kFa_warm {w : Cond} (h : kFa w = true) {s U : State} (hW : s.WarmedH U.vm) (hZ : va_Nw w s) : va_Nw w U := by
  unfold kFa at h
  split at h
  · exact va_Nw.warmC hW hZ
  · exact va_Nw.warmD hW hZ
  · cases h
theorem kFa_tab {w : Cond} (h : kFa w = true) : w.onTables = true := by
  unfold kFa at h
  split at h
  · rfl
  · rfl
  · cases h
theorem kYB_fa : ∀ w ∈ kYB, kFa w = true := by decide +kernel
def kY (sa : Nat) (A : Nat → Prop) (U : State) (H : Heap) : Prop := vk_R RX7 181 "no such state" sa U ∧ (∀ w ∈ kYB, va_Nw w U) ∧ vx_Zq Bundle.tN "UNASSIGNED_STACK" Bundle.steD A U H ∧ vx_Zq Bundle.tN "SUPPRESSED_SENTINEL" Bundle.listD A U H ∧ va_Nw (.castable "java/util/NoSuchElementException" "java/util/NoSuchElementException") U
theorem kY.use {sa : Nat} {A B : Nat → Prop} {s U : State} {H : Heap} {locs : List Loc} (h : kY sa A s s.heap) (hS : va_S A s.heap H locs) (hF : ∀ q, B q → A q) (hW : s.WarmedH U.vm) (hU : U.heap = H) : kY sa B U U.heap := by
  rw [hU]
  exact ⟨h.1.warm hW, fun w hw => kFa_warm (kYB_fa w hw) hW (h.2.1 w hw), ((h.2.2.1.kept hS.2.1).narrow hF).moved hW.alike, ((h.2.2.2.1.kept hS.2.1).narrow hF).moved hW.alike, va_Nw.warmC hW h.2.2.2.2⟩
theorem kY.same {sa : Nat} {A : Nat → Prop} {u U : State} (hv : u.vm = U.vm) (hh : u.heap = U.heap) (h : kY sa A u u.heap) : kY sa A U U.heap := by
  have ha : u.vm.Alike U.vm := by rw [hv]; exact Vm.Alike.refl U.vm
  rw [← hh]
  exact ⟨vk_R.same hv.symm h.1, fun w hw => va_Nw.same (kFa_tab (kYB_fa w hw)) hv (h.2.1 w hw), h.2.2.1.moved ha, h.2.2.2.1.moved ha, va_Nw.same rfl hv h.2.2.2.2⟩
def kPt (D : va_G) (TY : List (ClassId × FieldType)) (sa : Nat) (w : va_W) : State → Prop := fun U => kPr D TY w U ∧ kY sa (fun _ => False) U U.heap
theorem kBlindT {D : va_G} {TY : List (ClassId × FieldType)} {sa : Nat} {av : List Value} {w : va_W} : FrameBlind (va_Pc av (kPt D TY sa w)) := fun a U g mk h => by
  obtain ⟨h1, ⟨h3, h4⟩, h6⟩ := h
  exact ⟨h1, ⟨h3, kK.same (u := U) (U := U.calling g mk a) rfl h4⟩, kY.same (u := U) (U := U.calling g mk a) rfl rfl h6⟩
/-- what a call of state leaves when it throws -/
def kXC (P : Prop) : String → State → State → Prop := fun E st t => E = "java/util/NoSuchElementException" ∧ P ∧ st.heap.size ≤ t.heap.size ∧ ∀ q : Nat, q < st.heap.size → t.heap[q]? = st.heap[q]?
theorem c_X7_state (l : Launch) (hlf : l.stackTraces = false) (D : va_G) (cI cJ cZ cO : ClassId) (sa : Nat) (o t0 h0 w0 r0 k0 s0 : Nat) (kn : Int32) (s1 s2 ns : Nat) (an : Int32) (sf sg : Nat → Int32) (x : Int32) :
    vx_Met l yX7_state wsX7_state ({ frames := 6, cells := 1, slots := 6, locals := 82 }) (va_Pc [.ref o, .int x] (kPt D (kTY cI cJ cZ cO) sa [(o, .inr (8, [.ref t0, .ref h0, .ref w0, .ref r0, .ref k0, .ref s0, .int kn])), (s0, .inr (1, [.ref s1, .ref s2, .int (nI ns), .int an])), (s1, .inl (cI, 4096, .inl sf)), (s2, .inl (cI, 64, .inl sg))]))
      (kQr (fun rv_ => rv_ = some (.int (setAt sf (nI ns) x)) ∧ ¬ setAt sf (nI ns) x = -1)) (kXC (setAt sf (nI ns) x = -1)) 1 6 (fun _ => False) := by
  refine vx_ofW (cc := cX7_state) (maxL := 3) (ret := (some .int)) (by decide) rfl ?_
  intro p e s m args below meth c s₁ B hml hexc hv
  obtain ⟨rfl, ⟨hP, hK⟩, hY⟩ := hv
  have hl := lv_entry [.ref o, .int x] (n := 3) (Nat.le_of_ble_eq_true rfl)
  rw [lg_entry_eq]
  generalize (lg_sl [Value.ref o, Value.int x] ++ List.replicate (3 - (lg_sl [Value.ref o, Value.int x]).length) Slot.unset).toArray = ls at hl ⊢
  have hl : lv_has ls 3 [(0, .ref o), (1, .int x)] := hl
  have hx := B.exec
  have hb := B.bytes
  have hr := B.returns
  have hlk := B.notSynchronized
  have hts : ∀ q ∈ wsX7_state, q.before ([.ref o, .int x] : List Value).toArray s = true := atoms_spec (ws := wsX7_state) B.pre
  have hown : s.vm.findClass RX7 = some m.cls := findClass_of_methodNamed B.named
  have hw_f47 := hts (.fieldLink RX7 47 "WhatToRead" "asking" "LWhatToRead$Asking;") (by decide +kernel)
  have hi_X7 : ∀ w ∈ wsX70, w ∈ wsX7_state := fun _ h => List.mem_cons_of_mem _ (List.mem_append_left _ (List.mem_append_left _ (List.mem_append_right _ h)))
  refine lv_aload_n hx hb dX7_state_0 rfl (lv_at hl 0 rfl) ?_
  refine va_get (D := D) (ci := 8) (v := .ref s0) (C := RX7) (T := TX7) (N := 7) hx hb hts hi_X7 hown hK.1 hP 0 rfl rfl 5 (by decide) hw_f47 (fun _ h9 => h9) rfl dX7_state_1 ?_
  refine lv_iload_n hx hb dX7_state_4 rfl (lv_at hl 1 rfl) ?_
  refine kGoR (va_runV (As := [.int x]) (rest := []) ⟨hx, hb, hml, hown, hts⟩ (c_X0_at l D cI cJ cZ cO s0 s1 s2 ns an sf sg x) (cwV 1 hts gX7_state_X0_at rfl rfl rfl (by decide +kernel) ⟨Nat.le_of_ble_eq_true rfl, Nat.le_of_ble_eq_true rfl⟩) (kPreVR (ci := 1) (q0 := 0) hK (kPc_sub hP [1, 2, 3] rfl) rfl rfl rfl) rfl rfl hl.1 rfl (lv_room (Nat.le_of_ble_eq_true rfl)) dX7_state_5 ⟨Nat.le_of_ble_eq_true rfl, Nat.le_of_ble_eq_true rfl⟩) (fun v_1 hv_1 => ?_)
  obtain rfl := hv_1
  refine W.eq (g2 := F0 m 8 ls [.int (setAt sf (nI ns) x)]) rfl ?_
  refine lv_istore_n (lv' := [(2, .int (setAt sf (nI ns) x)), (0, .ref o), (1, .int x)]) hx hb dX7_state_8 rfl hl (by decide) rfl (fun ls hl => ?_)
  refine lv_iload_n hx hb dX7_state_9 rfl (lv_at hl 0 rfl) ?_
  refine lv_iconst (v := -1) hx hb dX7_state_10 (by decide) ?_
  refine lv_icmp_ne (tgt := 24) hx hb dX7_state_11 (by decide) (fun c_11 => ?_) (fun c_11 => ?_)
  · refine lv_iload_n hx hb dX7_state_24 rfl (lv_at hl 0 rfl) ?_
    refine vx_ret (W.widen (k := 1) (n := 6) (Nat.zero_le 1) (Nat.zero_le 6) ?_)
    exact W.iret hx hb hr (fun t ht _ => ⟨_, rfl, ⟨rfl, c_11⟩, ht⟩) (fun _ h => nomatch h) dX7_state_25 hlk
  · have hneg : setAt sf (nI ns) x = -1 := c_11
    exact vx_throwS (A := fun _ => False) (own := RX7) (cls := "java/util/NoSuchElementException") (names := ["java/lang/RuntimeException", "java/lang/Exception"]) (text := "no such state") hx hb hlf hown (by decide +kernel) (by decide +kernel) (hts _ (by decide +kernel)) (hts _ (by decide +kernel)) hY.1
      (vx_hat (B := kYB) (fun w h => hts w (List.mem_cons_of_mem _ (List.mem_append_right _ h))) (fun w h => h) (fun w hw => va_Nw.use (kFa_tab (kYB_fa w hw)) (hY.2.1 w hw)))
      (by decide +kernel) hY.2.2.1 hY.2.2.2.1 va_S.rf (hl.1.trans hml.symm) dX7_state_14 dX7_state_17 dX7_state_18 dX7_state_20 dX7_state_23 (fun x h => (hexc x h).elim) (by decide) (by decide) (Nat.le_of_ble_eq_true rfl) (Nat.le_of_ble_eq_true rfl) hlk
      (fun t _ h1 h2 => ⟨rfl, hneg, h1, h2⟩) (fun _ h => nomatch h) (Nat.le_refl _) (Nat.le_refl _)

/-! ===== the law's helper, which catches ===== -/
def kPy (D : va_G) (TY : List (ClassId × FieldType)) (sa : Nat) (w : va_W) (sz : Nat) : State → Prop := fun U => kP D TY w sz U ∧ kY sa (va_A w sz) U U.heap
theorem kBlindY {D : va_G} {TY : List (ClassId × FieldType)} {sa : Nat} {av : List Value} {w : va_W} {sz : Nat} : FrameBlind (va_Pc av (kPy D TY sa w sz)) := fun a U g mk h => by
  obtain ⟨h1, ⟨h2, h3, h4, h5⟩, h6⟩ := h
  exact ⟨h1, ⟨h2, h3, kK.same (u := U) (U := U.calling g mk a) rfl h4, h5⟩, kY.same (u := U) (U := U.calling g mk a) rfl rfl h6⟩
section KTT
variable {p : Program} {l : Launch} {e : Env} {R : Room} {s : State} {m : MethodId} {args : Array Value} {below : List Frame} {meth : Method} {c : Code} {H : Heap} {locs : List Loc} {cells slots : Nat} {Q : State → Prop}
variable {pc : Nat} {ls : Array Slot} {st0 rest : List Value} {a : Array Value} {A : Nat → Prop} {mc ms : Nat}
/-- behind a call that only read, or threw -/
theorem kGoT {post : Option Value → Prop} {P : Prop} (hr : vx_Run p l e R s m args below meth c H locs cells slots mc ms (F0 m pc ls st0) rest (kQr post a) (kXC P) (fun _ => False)) (hS : va_S A s.heap H locs)
    (kk : ∀ v : Option Value, post v → W p l e R s m args below meth c H locs (cells + mc) (slots + ms) Q (F0 m (pc + 3) ls (v.toList ++ rest)))
    (kx : ∀ (q9 : Addr) (ce : Cell) (H1 : Heap), P → H.size ≤ H1.size → (∀ q : Nat, q < H.size → H1[q]? = H[q]?) → va_S A s.heap H1 locs → H1[q9]? = some ce → ce.vm = .none → s.vm.findClass "java/util/NoSuchElementException" = some ce.cls → vx_W p l e R s m args below meth c H1 locs (cells + mc) (slots + ms) Q (F0 m pc ls rest) q9) : W p l e R s m args below meth c H locs cells slots Q (F0 m pc ls st0) := by
  intro T hT X
  rcases hr T hT X with ⟨v, st₀, t, T', L, h0, X', hL, e1, e2, ⟨v2, hv, hp, hh⟩, st⟩ | ⟨q, st₀, t, T', L, E, ce, h0, X', hL, e1, e2, ⟨rfl, hp, hz, hq⟩, hce, hcv, hcl, st⟩
  · cases hv
    obtain ⟨t2, a1, b1⟩ := kk v hp T' (by rw [e1, hh, h0]) (Stand.forget X' (fun q h => (hL q h).elim))
    exact ⟨t2, st t2 a1, b1⟩
  · rw [h0] at hz hq
    have hq1 : ∀ z : Nat, z < H.size → T'.heap[z]? = H[z]? := fun z h => by rw [e1]; exact hq z h
    have hz1 : H.size ≤ T'.heap.size := by rw [e1]; exact hz
    have hS1 : va_S A s.heap T'.heap locs := ⟨Nat.le_trans hS.1 hz1, fun z h1 h2 => (hq1 z (Nat.lt_of_lt_of_le h1 hS.1)).trans (hS.2.1 z h1 h2), hS.2.2⟩
    obtain ⟨t2, a1, b1⟩ := kx q ce T'.heap hp hz1 hq1 hS1 (by rw [e1]; exact hce) hcv hcl T' rfl (Stand.forget X' (fun q h => (hL q h).elim))
    exact ⟨t2, st.trans a1, b1⟩
end KTT
theorem c_L_state (l : Launch) (hlf : l.stackTraces = false) (D : va_G) (cI cJ cZ cO : ClassId) (sa : Nat) (o t0 h0 w0 r0 k0 s0 : Nat) (kn : Int32) (s1 s2 ns : Nat) (an : Int32) (sf sg : Nat → Int32) (q : Nat) (of : Nat → Int64) (x : Int32) (w : va_W)
    (hw : w = [(o, .inr (8, [.ref t0, .ref h0, .ref w0, .ref r0, .ref k0, .ref s0, .int kn])), (s0, .inr (1, [.ref s1, .ref s2, .int (nI ns), .int an])), (s1, .inl (cI, 4096, .inl sf)), (s2, .inl (cI, 64, .inl sg)), (q, .inl (cJ, 1, .inr (.inl of)))]) (sz : Nat) :
    Met l yL_state wsL_state ({ frames := 7, cells := 1, slots := 6, locals := 104 }) (va_Pc [.ref o, .int x, .ref q] (kPy D (kTY cI cJ cZ cO) sa w sz))
      (kQ D w sz (fun rv_ rw_ => (setAt sf (nI ns) x = -1 ∧ rv_ = some (.int 1) ∧ rw_ = w) ∨ (¬ setAt sf (nI ns) x = -1 ∧ rv_ = some (.int 0) ∧ rw_ = [(o, .inr (8, [.ref t0, .ref h0, .ref w0, .ref r0, .ref k0, .ref s0, .int kn])), (s0, .inr (1, [.ref s1, .ref s2, .int (nI ns), .int an])), (s1, .inl (cI, 4096, .inl sf)), (s2, .inl (cI, 64, .inl sg)), (q, .inl (cJ, 1, .inr (.inl (vp_updL of 0 (setAt sf (nI ns) x).toInt64))))]))) 1 6 (va_A w sz) := by
  have hh : vx_Met l yL_state wsL_state ({ frames := 7, cells := 1, slots := 6, locals := 104 }) (va_Pc [.ref o, .int x, .ref q] (kPy D (kTY cI cJ cZ cO) sa w sz))
      (kQ D w sz (fun rv_ rw_ => (setAt sf (nI ns) x = -1 ∧ rv_ = some (.int 1) ∧ rw_ = w) ∨ (¬ setAt sf (nI ns) x = -1 ∧ rv_ = some (.int 0) ∧ rw_ = [(o, .inr (8, [.ref t0, .ref h0, .ref w0, .ref r0, .ref k0, .ref s0, .int kn])), (s0, .inr (1, [.ref s1, .ref s2, .int (nI ns), .int an])), (s1, .inl (cI, 4096, .inl sf)), (s2, .inl (cI, 64, .inl sg)), (q, .inl (cJ, 1, .inr (.inl (vp_updL of 0 (setAt sf (nI ns) x).toInt64))))]))) (fun _ _ _ => False) 1 6 (va_A w sz) := by
    subst hw
    refine vx_ofWH (cc := cL_state) (maxL := 4) (ret := (some .int)) (hh := [(0, 9, 12, 13)]) (by decide) rfl ?_
    intro p e s m args below meth c s₁ B hml hv
    obtain ⟨rfl, ⟨rfl, hP, hK, hD0⟩, hY⟩ := hv
    have hD := hD0.self (sz := s.heap.size)
    have hl := lv_entry [.ref o, .int x, .ref q] (n := 4) (Nat.le_of_ble_eq_true rfl)
    rw [lg_entry_eq]
    generalize (lg_sl [Value.ref o, Value.int x, Value.ref q] ++ List.replicate (4 - (lg_sl [Value.ref o, Value.int x, Value.ref q]).length) Slot.unset).toArray = ls at hl ⊢
    have hl : lv_has ls 4 [(0, .ref o), (1, .int x), (2, .ref q)] := hl
    have hx := B.exec
    have hb := B.bytes
    have hr := B.returns
    have hlk := B.notSynchronized
    have hts : ∀ q9 ∈ wsL_state, q9.before ([.ref o, .int x, .ref q] : List Value).toArray s = true := atoms_spec (ws := wsL_state) B.pre
    have hown : s.vm.findClass RL = some m.cls := findClass_of_methodNamed B.named
    have htab : c.exceptionTable.toList = [({ startPc := 0, endPc := 9, handlerPc := 12, catchType := 13 } : ExceptionTableEntry)] := (vx_table (x := yL_state) B (hts (.codeWith yL_state cL_state 4 (some .int) [(0, 9, 12, 13)]) List.mem_cons_self)).trans rfl
    refine lv_aload_n hx hb dL_state_0 rfl (lv_at hl 2 rfl) ?_
    refine lv_iconst (v := 0) hx hb dL_state_1 (by decide) ?_
    refine lv_aload_n hx hb dL_state_2 rfl (lv_at hl 0 rfl) ?_
    refine lv_iload_n hx hb dL_state_3 rfl (lv_at hl 1 rfl) ?_
    have hPs : va_P D vwCl [(o, .inr (8, [.ref t0, .ref h0, .ref w0, .ref r0, .ref k0, .ref s0, .int kn])), (s0, .inr (1, [.ref s1, .ref s2, .int (nI ns), .int an])), (s1, .inl (cI, 4096, .inl sf)), (s2, .inl (cI, 64, .inl sg))] s.heap := kPc_sub hP [0, 1, 2, 3] rfl
    have hpre : PreV s s.heap RX7 o (va_Pc (.ref o :: [.int x]) (kPt D (kTY cI cJ cZ cO) sa [(o, .inr (8, [.ref t0, .ref h0, .ref w0, .ref r0, .ref k0, .ref s0, .int kn])), (s0, .inr (1, [.ref s1, .ref s2, .int (nI ns), .int an])), (s1, .inl (cI, 4096, .inl sf)), (s2, .inl (cI, 64, .inl sg))])) [.int x] :=
      ⟨kBlindT, va_recv (ci := 8) (q0 := 0) hK.1 hPs rfl rfl, fun U hU hW => ⟨rfl, ⟨by rw [hU]; exact hPs, hK.warm hW⟩, hY.use (A := va_A _ s.heap.size) va_S.rf (fun _ h => h.elim) hW hU⟩⟩
    refine kGoT (A := va_A [(o, .inr (8, [.ref t0, .ref h0, .ref w0, .ref r0, .ref k0, .ref s0, .int kn])), (s0, .inr (1, [.ref s1, .ref s2, .int (nI ns), .int an])), (s1, .inl (cI, 4096, .inl sf)), (s2, .inl (cI, 64, .inl sg)), (q, .inl (cJ, 1, .inr (.inl of)))] s.heap.size) (vx_runV (As := [.int x]) (rest := [.int 0, .ref q]) ⟨hx, hb, hml, hown, hts⟩ (c_X7_state l hlf D cI cJ cZ cO sa o t0 h0 w0 r0 k0 s0 kn s1 s2 ns an sf sg x) (cwV 1 hts gL_state_X7_state rfl rfl rfl (by decide +kernel) ⟨Nat.le_of_ble_eq_true rfl, Nat.le_of_ble_eq_true rfl⟩) hpre rfl rfl hl.1 rfl (lv_room (Nat.le_of_ble_eq_true rfl)) dL_state_4 ⟨Nat.le_of_ble_eq_true rfl, Nat.le_of_ble_eq_true rfl⟩) va_S.rf (fun v_1 hv_1 => ?_) (fun q9 ce H1 hneg hz hq hS hce hcv hcl => ?_)
    · obtain ⟨rfl, hne⟩ := hv_1
      refine W.eq (g2 := F0 m 7 ls [.int (setAt sf (nI ns) x), .int 0, .ref q]) rfl ?_
      refine lv_i2l (v := (setAt sf (nI ns) x).toInt64) hx hb dL_state_7 rfl ?_
      refine va_last hx hb hK.1 hP hD va_S.rf 4 1 rfl rfl (vp_in_nI (n := 0) (by omega) (by omega)) dL_state_8 (fun H locs hP hD hS => ?_)
      have e0 : (nI 0).toNatClampNeg = 0 := rfl
      refine lv_goto hx hb (tgt := 15) dL_state_9 (by decide) ?_
      refine lv_iconst (v := 0) hx hb dL_state_15 (by decide) ?_
      exact vx_ret (kRetI hx hb hr hlk dL_state_16 hP hD hS (Nat.le_refl _) (Nat.le_refl _) (Or.inr ⟨hne, rfl, rfl⟩))
    · refine vx_catch (own := RL) (name := "java/util/NoSuchElementException") (E := "java/util/NoSuchElementException") (ce := ce) hown [] ({ startPc := 0, endPc := 9, handlerPc := 12, catchType := 13 } : ExceptionTableEntry) [] htab (fun _ h => nomatch h) (by decide) (by decide) (hts _ (by decide +kernel)) (va_Nw.use rfl hY.2.2.2.2) hce hcv hcl ?_
      refine lv_astore_n (lv' := [(3, .ref q9), (0, .ref o), (1, .int x), (2, .ref q)]) hx hb dL_state_12 rfl hl (by decide) rfl (fun ls hl => ?_)
      refine lv_iconst (v := 1) hx hb dL_state_13 (by decide) ?_
      have hP1 := hP.kept (H1 := H1) (fun k z hk => hq z.1 (vx_lt hP hk))
      exact vx_ret (kRetI hx hb hr hlk dL_state_14 hP1 hD hS (Nat.le_refl _) (Nat.le_refl _) (Or.inl ⟨hneg, rfl, rfl⟩))
  refine MetFree.mono hh (fun _ _ h => h) (fun _ _ _ _ _ h => h) (fun a st oc t _ h => ?_)
  rcases h with h | ⟨z, -, E, ce, L, hf, -⟩
  · exact h
  · exact hf.elim
