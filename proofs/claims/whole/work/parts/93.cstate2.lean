/-! ===== the class: state, which throws; the law's helper, which catches ===== -/
def wsX7_state2 : List Cond := .code yX7_state cX7_state 3 (some .int) :: ([.classLink RX7 179 "java/util/NoSuchElementException", .initialized "java/util/NoSuchElementException", .fieldLink RX7 47 "WhatToRead" "asking" "LWhatToRead$Asking;", .methodLink RX7 178 yX0_at, .instanceMethod yX0_at, .selects RX0 yX0_at yX0_at, .initialized RX0, .code yX0_at cX0_at 2 (some .int), .fieldLink RX0 18 "WhatToRead$Asking" "count" "I", .fieldLink RX0 9 "WhatToRead$Asking" "sets" "[I"] ++ wsX70 ++ wsX00 ++ nsA.filter goodWord)
def wsL_state2 : List Cond := .codeWith yL_state cL_state 4 (some .int) [(0, 9, 12, 13)] :: ([.classLink RL 13 "java/util/NoSuchElementException", .methodLink RL 7 yX7_state, .instanceMethod yX7_state, .selects RX7 yX7_state yX7_state, .initialized RX7, .code yX7_state cX7_state 3 (some .int), .classLink RX7 179 "java/util/NoSuchElementException", .initialized "java/util/NoSuchElementException", .fieldLink RX7 47 "WhatToRead" "asking" "LWhatToRead$Asking;", .methodLink RX7 178 yX0_at, .instanceMethod yX0_at, .selects RX0 yX0_at yX0_at, .initialized RX0, .code yX0_at cX0_at 2 (some .int), .fieldLink RX0 18 "WhatToRead$Asking" "count" "I", .fieldLink RX0 9 "WhatToRead$Asking" "sets" "[I"] ++ wsX70 ++ wsX00 ++ nsA.filter goodWord)
def wsL_law2 : List Cond := wsL_law0 ++ nsA.filter goodWord
set_option maxRecDepth 20000 in
theorem nsA_in : ∀ w ∈ nsA.filter goodWord, w ∈ lw_tbl := by decide +kernel
set_option maxRecDepth 20000 in
theorem kYB2_in : ∀ w ∈ nsA.filter (fun w => !goodWord w), w ∈ lw_tbl := by decide +kernel
theorem wsL_law2_in : ∀ w ∈ wsL_law2, w ∈ lw_tbl := List.forall_mem_append.mpr ⟨wsL_law_in0, nsA_in⟩
set_option maxRecDepth 20000 in
theorem ggX7_state2_X0_at : GoodIn wsX7_state2 wsX0_at := goodIn_r _ [8, 9, 10, 18, 19, 20, 21] (by decide +kernel) (by decide +kernel)
set_option maxRecDepth 20000 in
theorem gX7_state2_X0_at : GoodIn wsX7_state2 (wsV RX7 178 RX0 yX0_at wsX0_at) := goodIn_app (goodIn_of _ (by decide +kernel)) ggX7_state2_X0_at
set_option maxRecDepth 20000 in
theorem ggL_state2_X7_state : GoodIn wsL_state2 wsX7_state2 := goodIn_ca (goodIn_r _ [6, 7, 8, 9, 10, 11, 12, 13, 14, 15, 16, 17, 18, 19, 20, 21, 22, 23, 24, 25, 26, 27] (by decide +kernel) (by decide +kernel)) (goodIn_sub (fun _ h => List.mem_cons_of_mem _ (List.mem_append_right _ h)) (by decide +kernel))
set_option maxRecDepth 20000 in
theorem gL_state2_X7_state : GoodIn wsL_state2 (wsV RL 7 RX7 yX7_state wsX7_state2) := goodIn_app (goodIn_of _ (by decide +kernel)) ggL_state2_X7_state
set_option maxRecDepth 20000 in
theorem ggL_law2_L_state : GoodIn wsL_law2 wsL_state2 := goodIn_ca (goodIn_r _ [726, 727, 728, 729, 730, 2, 731, 732, 733, 36, 734, 735, 736, 35, 737, 98, 96, 746, 747, 748, 749, 750, 751, 752, 790, 791, 792, 793] (by decide +kernel) (by decide +kernel)) (goodIn_sub (fun _ h => List.mem_append_right _ h) (by decide +kernel))
set_option maxRecDepth 20000 in
theorem gL_law2_L_state : GoodIn wsL_law2 (va_wsS RL 124 yL_state wsL_state2) := goodIn_app (goodIn_of _ (by decide +kernel)) ggL_law2_L_state
def kYB2 : List Cond := nsA.filter (fun w => !goodWord w)
theorem kYB2_fa : ∀ w ∈ kYB2, kFa w = true := by decide +kernel
def kY2 (sa : Nat) (A : Nat → Prop) (U : State) (H : Heap) : Prop := vk_R RX7 181 "no such state" sa U ∧ (∀ w ∈ kYB2, va_Nw w U) ∧ vx_Zq Bundle.tN "UNASSIGNED_STACK" Bundle.steD A U H ∧ vx_Zq Bundle.tN "SUPPRESSED_SENTINEL" Bundle.listD A U H ∧ va_Nw (.castable "java/util/NoSuchElementException" "java/util/NoSuchElementException") U
theorem kY2.use {sa : Nat} {A B : Nat → Prop} {s U : State} {H : Heap} {locs : List Loc} (h : kY2 sa A s s.heap) (hS : va_S A s.heap H locs) (hF : ∀ q, B q → A q) (hW : s.WarmedH U.vm) (hU : U.heap = H) : kY2 sa B U U.heap := by
  rw [hU]
  exact ⟨h.1.warm hW, fun w hw => kFa_warm (kYB2_fa w hw) hW (h.2.1 w hw), ((h.2.2.1.kept hS.2.1).narrow hF).moved hW.alike, ((h.2.2.2.1.kept hS.2.1).narrow hF).moved hW.alike, va_Nw.warmC hW h.2.2.2.2⟩
theorem kY2.same {sa : Nat} {A : Nat → Prop} {u U : State} (hv : u.vm = U.vm) (hh : u.heap = U.heap) (h : kY2 sa A u u.heap) : kY2 sa A U U.heap := by
  have ha : u.vm.Alike U.vm := by rw [hv]; exact Vm.Alike.refl U.vm
  rw [← hh]
  exact ⟨vk_R.same hv.symm h.1, fun w hw => va_Nw.same (kFa_tab (kYB2_fa w hw)) hv (h.2.1 w hw), h.2.2.1.moved ha, h.2.2.2.1.moved ha, va_Nw.same rfl hv h.2.2.2.2⟩
def kPt2 (D : va_G) (TY : List (ClassId × FieldType)) (sa : Nat) (w : va_W) : State → Prop := fun U => kPr D TY w U ∧ kY2 sa (fun _ => False) U U.heap
theorem kBlindT2 {D : va_G} {TY : List (ClassId × FieldType)} {sa : Nat} {av : List Value} {w : va_W} : FrameBlind (va_Pc av (kPt2 D TY sa w)) := fun a U g mk h => by
  obtain ⟨h1, ⟨h3, h4⟩, h6⟩ := h
  exact ⟨h1, ⟨h3, kK.same (u := U) (U := U.calling g mk a) rfl h4⟩, kY2.same (u := U) (U := U.calling g mk a) rfl rfl h6⟩
theorem c_X7_state2 (l : Launch) (hlf : l.stackTraces = false) (D : va_G) (cI cJ cZ cO : ClassId) (sa : Nat) (o t0 h0 w0 r0 k0 s0 : Nat) (kn : Int32) (s1 s2 ns : Nat) (an : Int32) (sf sg : Nat → Int32) (x : Int32) :
    vx_Met l yX7_state wsX7_state2 ({ frames := 6, cells := 1, slots := 6, locals := 82 }) (va_Pc [.ref o, .int x] (kPt2 D (kTY cI cJ cZ cO) sa [(o, .inr (8, [.ref t0, .ref h0, .ref w0, .ref r0, .ref k0, .ref s0, .int kn])), (s0, .inr (1, [.ref s1, .ref s2, .int (nI ns), .int an])), (s1, .inl (cI, 4096, .inl sf)), (s2, .inl (cI, 64, .inl sg))]))
      (kQr (fun rv_ => rv_ = some (.int (setAt sf (nI ns) x)) ∧ ¬ setAt sf (nI ns) x = -1)) (kXC (setAt sf (nI ns) x = -1)) 1 6 (fun _ => False) := by
  refine vx_ofW (cc := cX7_state) (maxL := 3) (ret := (some .int)) (by decide) rfl ?_
  intro p e s m args below meth c s₁ B hml hexc hv
  obtain ⟨rfl, ⟨hP, hK⟩, hY⟩ := hv
  have hl := lv_entry [.ref o, .int x] (n := 3) (Nat.le_of_ble_eq_true rfl)
  rw [lg_entry_eq]
  generalize (lg_sl [Value.ref o, Value.int x] ++ List.replicate (3 - (lg_sl [Value.ref o, Value.int x]).length) Slot.unset).toArray = ls at hl ⊢
  have hl : lv_has ls 3 [(0, .ref o), (1, .int x)] := hl
  have hx := B.exec
  have hb := B.bytes
  have hr := B.returns
  have hlk := B.notSynchronized
  have hts : ∀ q ∈ wsX7_state2, q.before ([.ref o, .int x] : List Value).toArray s = true := atoms_spec (ws := wsX7_state2) B.pre
  have hown : s.vm.findClass RX7 = some m.cls := findClass_of_methodNamed B.named
  have hw_f47 := hts (.fieldLink RX7 47 "WhatToRead" "asking" "LWhatToRead$Asking;") (by decide +kernel)
  have hi_X7 : ∀ w ∈ wsX70, w ∈ wsX7_state2 := fun _ h => List.mem_cons_of_mem _ (List.mem_append_left _ (List.mem_append_left _ (List.mem_append_right _ h)))
  refine lv_aload_n hx hb dX7_state_0 rfl (lv_at hl 0 rfl) ?_
  refine va_get (D := D) (ci := 8) (v := .ref s0) (C := RX7) (T := TX7) (N := 7) hx hb hts hi_X7 hown hK.1 hP 0 rfl rfl 5 (by decide) hw_f47 (fun _ h9 => h9) rfl dX7_state_1 ?_
  refine lv_iload_n hx hb dX7_state_4 rfl (lv_at hl 1 rfl) ?_
  refine kGoR (va_runV (As := [.int x]) (rest := []) ⟨hx, hb, hml, hown, hts⟩ (c_X0_at l D cI cJ cZ cO s0 s1 s2 ns an sf sg x) (cwV 1 hts gX7_state2_X0_at rfl rfl rfl (by decide +kernel) ⟨Nat.le_of_ble_eq_true rfl, Nat.le_of_ble_eq_true rfl⟩) (kPreVR (ci := 1) (q0 := 0) hK (kPc_sub hP [1, 2, 3] rfl) rfl rfl rfl) rfl rfl hl.1 rfl (lv_room (Nat.le_of_ble_eq_true rfl)) dX7_state_5 ⟨Nat.le_of_ble_eq_true rfl, Nat.le_of_ble_eq_true rfl⟩) (fun v_1 hv_1 => ?_)
  obtain rfl := hv_1
  refine W.eq (g2 := F0 m 8 ls [.int (setAt sf (nI ns) x)]) rfl ?_
  refine lv_istore_n (lv' := [(2, .int (setAt sf (nI ns) x)), (0, .ref o), (1, .int x)]) hx hb dX7_state_8 rfl hl (by decide) rfl (fun ls hl => ?_)
  refine lv_iload_n hx hb dX7_state_9 rfl (lv_at hl 0 rfl) ?_
  refine lv_iconst (v := -1) hx hb dX7_state_10 (by decide) ?_
  refine lv_icmp_ne (tgt := 24) hx hb dX7_state_11 (by decide) (fun c_11 => ?_) (fun c_11 => ?_)
  · refine lv_iload_n hx hb dX7_state_24 rfl (lv_at hl 0 rfl) ?_
    refine vx_ret (W.widen (k := 1) (n := 6) (Nat.zero_le 1) (Nat.zero_le 6) ?_)
    exact W.iret hx hb hr (fun t ht _ => ⟨_, rfl, ⟨rfl, c_11⟩, ht⟩) (fun _ h => nomatch h) dX7_state_25 hlk
  · have hneg : setAt sf (nI ns) x = -1 := c_11
    refine ns_make (A := fun _ => False) (text := "no such state") hx hb hlf hown (hts (.classLink RX7 179 nsX) (by decide +kernel)) (hts (.initialized nsX) (by decide +kernel)) hY.1
      (vx_hat (B := kYB2) (fun w h => hts w (List.mem_cons_of_mem _ (List.mem_append_right _ h))) (fun w h => h) (fun w hw => va_Nw.use (kFa_tab (kYB2_fa w hw)) (hY.2.1 w hw)))
      (by decide +kernel) hY.2.2.1 hY.2.2.2.1 va_S.rf (hl.1.trans hml.symm) dX7_state_14 dX7_state_17 dX7_state_18 dX7_state_20 (by decide) (by decide) (Nat.le_of_ble_eq_true rfl) (Nat.le_of_ble_eq_true rfl) (fun q9 ce H1 hce hcv hcl hz hq hS => ?_)
    refine ns_athrow hx hb dX7_state_23 ?_
    exact vx_out (fun x h => (hexc x h).elim) hlk hce hcv hcl (fun t ht _ => ⟨rfl, hneg, by rw [ht]; exact hz, fun z h => by rw [ht]; exact hq z h⟩) (fun _ h => nomatch h) (Nat.le_refl _) (Nat.le_refl _)

/-! ===== the law's helper, which catches ===== -/
def kPy2 (D : va_G) (TY : List (ClassId × FieldType)) (sa : Nat) (w : va_W) (sz : Nat) : State → Prop := fun U => kP D TY w sz U ∧ kY2 sa (va_A w sz) U U.heap
theorem kBlindY2 {D : va_G} {TY : List (ClassId × FieldType)} {sa : Nat} {av : List Value} {w : va_W} {sz : Nat} : FrameBlind (va_Pc av (kPy2 D TY sa w sz)) := fun a U g mk h => by
  obtain ⟨h1, ⟨h2, h3, h4, h5⟩, h6⟩ := h
  exact ⟨h1, ⟨h2, h3, kK.same (u := U) (U := U.calling g mk a) rfl h4, h5⟩, kY2.same (u := U) (U := U.calling g mk a) rfl rfl h6⟩
theorem c_L_state2 (l : Launch) (hlf : l.stackTraces = false) (D : va_G) (cI cJ cZ cO : ClassId) (sa : Nat) (o t0 h0 w0 r0 k0 s0 : Nat) (kn : Int32) (s1 s2 ns : Nat) (an : Int32) (sf sg : Nat → Int32) (q : Nat) (of : Nat → Int64) (x : Int32) (w : va_W)
    (hw : w = [(o, .inr (8, [.ref t0, .ref h0, .ref w0, .ref r0, .ref k0, .ref s0, .int kn])), (s0, .inr (1, [.ref s1, .ref s2, .int (nI ns), .int an])), (s1, .inl (cI, 4096, .inl sf)), (s2, .inl (cI, 64, .inl sg)), (q, .inl (cJ, 1, .inr (.inl of)))]) (sz : Nat) :
    Met l yL_state wsL_state2 ({ frames := 7, cells := 1, slots := 6, locals := 104 }) (va_Pc [.ref o, .int x, .ref q] (kPy2 D (kTY cI cJ cZ cO) sa w sz))
      (kQ D w sz (fun rv_ rw_ => (setAt sf (nI ns) x = -1 ∧ rv_ = some (.int 1) ∧ rw_ = w) ∨ (¬ setAt sf (nI ns) x = -1 ∧ rv_ = some (.int 0) ∧ rw_ = [(o, .inr (8, [.ref t0, .ref h0, .ref w0, .ref r0, .ref k0, .ref s0, .int kn])), (s0, .inr (1, [.ref s1, .ref s2, .int (nI ns), .int an])), (s1, .inl (cI, 4096, .inl sf)), (s2, .inl (cI, 64, .inl sg)), (q, .inl (cJ, 1, .inr (.inl (vp_updL of 0 (setAt sf (nI ns) x).toInt64))))]))) 1 6 (va_A w sz) := by
  have hh : vx_Met l yL_state wsL_state2 ({ frames := 7, cells := 1, slots := 6, locals := 104 }) (va_Pc [.ref o, .int x, .ref q] (kPy2 D (kTY cI cJ cZ cO) sa w sz))
      (kQ D w sz (fun rv_ rw_ => (setAt sf (nI ns) x = -1 ∧ rv_ = some (.int 1) ∧ rw_ = w) ∨ (¬ setAt sf (nI ns) x = -1 ∧ rv_ = some (.int 0) ∧ rw_ = [(o, .inr (8, [.ref t0, .ref h0, .ref w0, .ref r0, .ref k0, .ref s0, .int kn])), (s0, .inr (1, [.ref s1, .ref s2, .int (nI ns), .int an])), (s1, .inl (cI, 4096, .inl sf)), (s2, .inl (cI, 64, .inl sg)), (q, .inl (cJ, 1, .inr (.inl (vp_updL of 0 (setAt sf (nI ns) x).toInt64))))]))) (fun _ _ _ => False) 1 6 (va_A w sz) := by
    subst hw
    refine vx_ofWH (cc := cL_state) (maxL := 4) (ret := (some .int)) (hh := [(0, 9, 12, 13)]) (by decide) rfl ?_
    intro p e s m args below meth c s₁ B hml hv
    obtain ⟨rfl, ⟨rfl, hP, hK, hD0⟩, hY⟩ := hv
    have hD := hD0.self (sz := s.heap.size)
    have hl := lv_entry [.ref o, .int x, .ref q] (n := 4) (Nat.le_of_ble_eq_true rfl)
    rw [lg_entry_eq]
    generalize (lg_sl [Value.ref o, Value.int x, Value.ref q] ++ List.replicate (4 - (lg_sl [Value.ref o, Value.int x, Value.ref q]).length) Slot.unset).toArray = ls at hl ⊢
    have hl : lv_has ls 4 [(0, .ref o), (1, .int x), (2, .ref q)] := hl
    have hx := B.exec
    have hb := B.bytes
    have hr := B.returns
    have hlk := B.notSynchronized
    have hts : ∀ q9 ∈ wsL_state2, q9.before ([.ref o, .int x, .ref q] : List Value).toArray s = true := atoms_spec (ws := wsL_state2) B.pre
    have hown : s.vm.findClass RL = some m.cls := findClass_of_methodNamed B.named
    have htab : c.exceptionTable.toList = [({ startPc := 0, endPc := 9, handlerPc := 12, catchType := 13 } : ExceptionTableEntry)] := (vx_table (x := yL_state) B (hts (.codeWith yL_state cL_state 4 (some .int) [(0, 9, 12, 13)]) List.mem_cons_self)).trans rfl
    refine lv_aload_n hx hb dL_state_0 rfl (lv_at hl 2 rfl) ?_
    refine lv_iconst (v := 0) hx hb dL_state_1 (by decide) ?_
    refine lv_aload_n hx hb dL_state_2 rfl (lv_at hl 0 rfl) ?_
    refine lv_iload_n hx hb dL_state_3 rfl (lv_at hl 1 rfl) ?_
    have hPs : va_P D vwCl [(o, .inr (8, [.ref t0, .ref h0, .ref w0, .ref r0, .ref k0, .ref s0, .int kn])), (s0, .inr (1, [.ref s1, .ref s2, .int (nI ns), .int an])), (s1, .inl (cI, 4096, .inl sf)), (s2, .inl (cI, 64, .inl sg))] s.heap := kPc_sub hP [0, 1, 2, 3] rfl
    have hpre : PreV s s.heap RX7 o (va_Pc (.ref o :: [.int x]) (kPt2 D (kTY cI cJ cZ cO) sa [(o, .inr (8, [.ref t0, .ref h0, .ref w0, .ref r0, .ref k0, .ref s0, .int kn])), (s0, .inr (1, [.ref s1, .ref s2, .int (nI ns), .int an])), (s1, .inl (cI, 4096, .inl sf)), (s2, .inl (cI, 64, .inl sg))])) [.int x] :=
      ⟨kBlindT2, va_recv (ci := 8) (q0 := 0) hK.1 hPs rfl rfl, fun U hU hW => ⟨rfl, ⟨by rw [hU]; exact hPs, hK.warm hW⟩, hY.use (A := va_A _ s.heap.size) va_S.rf (fun _ h => h.elim) hW hU⟩⟩
    refine kGoT (A := va_A [(o, .inr (8, [.ref t0, .ref h0, .ref w0, .ref r0, .ref k0, .ref s0, .int kn])), (s0, .inr (1, [.ref s1, .ref s2, .int (nI ns), .int an])), (s1, .inl (cI, 4096, .inl sf)), (s2, .inl (cI, 64, .inl sg)), (q, .inl (cJ, 1, .inr (.inl of)))] s.heap.size) (vx_runV (As := [.int x]) (rest := [.int 0, .ref q]) ⟨hx, hb, hml, hown, hts⟩ (c_X7_state2 l hlf D cI cJ cZ cO sa o t0 h0 w0 r0 k0 s0 kn s1 s2 ns an sf sg x) (cwV 1 hts gL_state2_X7_state rfl rfl rfl (by decide +kernel) ⟨Nat.le_of_ble_eq_true rfl, Nat.le_of_ble_eq_true rfl⟩) hpre rfl rfl hl.1 rfl (lv_room (Nat.le_of_ble_eq_true rfl)) dL_state_4 ⟨Nat.le_of_ble_eq_true rfl, Nat.le_of_ble_eq_true rfl⟩) va_S.rf (fun v_1 hv_1 => ?_) (fun q9 ce H1 hneg hz hq hS hce hcv hcl => ?_)
    · obtain ⟨rfl, hne⟩ := hv_1
      refine W.eq (g2 := F0 m 7 ls [.int (setAt sf (nI ns) x), .int 0, .ref q]) rfl ?_
      refine lv_i2l (v := (setAt sf (nI ns) x).toInt64) hx hb dL_state_7 rfl ?_
      refine va_last hx hb hK.1 hP hD va_S.rf 4 1 rfl rfl (vp_in_nI (n := 0) (by omega) (by omega)) dL_state_8 (fun H locs hP hD hS => ?_)
      have e0 : (nI 0).toNatClampNeg = 0 := rfl
      refine lv_goto hx hb (tgt := 15) dL_state_9 (by decide) ?_
      refine lv_iconst (v := 0) hx hb dL_state_15 (by decide) ?_
      exact vx_ret (kRetI hx hb hr hlk dL_state_16 hP hD hS (Nat.le_refl _) (Nat.le_refl _) (Or.inr ⟨hne, rfl, rfl⟩))
    · refine vx_catch (own := RL) (name := "java/util/NoSuchElementException") (E := "java/util/NoSuchElementException") (ce := ce) hown [] ({ startPc := 0, endPc := 9, handlerPc := 12, catchType := 13 } : ExceptionTableEntry) [] htab (fun _ h => nomatch h) (by decide) (by decide) (hts _ (by decide +kernel)) (va_Nw.use rfl hY.2.2.2.2) hce hcv hcl ?_
      refine lv_astore_n (lv' := [(3, .ref q9), (0, .ref o), (1, .int x), (2, .ref q)]) hx hb dL_state_12 rfl hl (by decide) rfl (fun ls hl => ?_)
      refine lv_iconst (v := 1) hx hb dL_state_13 (by decide) ?_
      have hP1 := hP.kept (H1 := H1) (fun k z hk => hq z.1 (vx_lt hP hk))
      exact vx_ret (kRetI hx hb hr hlk dL_state_14 hP1 hD hS (Nat.le_refl _) (Nat.le_refl _) (Or.inl ⟨hneg, rfl, rfl⟩))
  refine MetFree.mono hh (fun _ _ h => h) (fun _ _ _ _ _ h => h) (fun a st oc t _ h => ?_)
  rcases h with h | ⟨z, -, E, ce, L, hf, -⟩
  · exact h
  · exact hf.elim
