/-! THE CLAIM OUT OF ONE WALK OF THE LAW'S BODY. Your part is whole_start (and what it stands on); all else here is the same for every law, but numbers. -/
def R_law : String := "WhatToReadLaw"
def lw_P (b : Addr) (xs : List Int32) (args : Array Value) (s : State) : Prop := args = #[.ref b] ∧ s.IntsAt b xs ∧ xs.length ≤ 3072 ∧ (Jvm.Cond.and given_1 narrow_1).before args s = true
def lw_Q (_ : Array Value) (s : State) (o : Outcome) (t : State) : Prop := o = .returned (some (.int 1)) ∧ Framed s o t [] 601024 7293034
def lw_Z (below : List Frame) (a : Array Value) (s : State) : State → Prop := fun t => ∃ o, t.status = .running ∧ Ended t below o ∧ lw_Q a s o t
/-- the law's own end, with 1 on the stack, nothing written that was there before, its room as the claim has it -/
theorem lw_ret {p : Program} {l : Launch} {e : Env} {s : State} {m : MethodId} {below : List Frame} {meth : Method} {c : Code} {b : Nat} (hx : p.tables.exec = Jvm.exec) (hb : c.code = code) (hr : meth.sig.returnType = ret) (hlocks : meth.locks = false) {pc : Nat} {H : Heap} {ls : Array Slot} (hdg : decode code pc = .ok (.ireturn, 1)) : W p l e room_1 s m #[Value.ref b] below meth c H [] 601024 7293034 (lw_Z below #[Value.ref b] s) (F0 m pc ls [.int 1]) := by
  intro T hT X
  obtain ⟨fs, hret, hrun, hended, hW, hframe⟩ := X.leave (v := some (.int 1)) (hlocks := hlocks) (fun h => by rw [hr] at h; cases h)
  have hmeth' : T.vm.method? m = some meth := X.method'
  refine ⟨T.setFrames fs, ?_, .returned (some (.int 1)), hrun, hended, rfl, ⟨_, rfl⟩, hW, hframe⟩
  jvm_step X.here [X.here.top, hx, hb, hdg, hmeth', hr, ret, narrow_b1]
  (try refine ⟨rfl, ?_⟩); (try refine ⟨rfl, ?_⟩)
  first | (intro acts; rw [hret _ acts rfl rfl rfl]) | rw [hret _ _ rfl rfl rfl]
  exact Steps.refl _
/-- what holds at the law's entry: the machine, the code, the tables' words (any of lw_tbl by 'hts w (by decide +kernel)'), the script of L ints xs at the cell b, what the Statement gives of the start (any of its parts by flat_of_before) -/
def lw_At (p : Program) (s : State) (m : MethodId) (meth : Method) (c : Code) (b L : Nat) (xs : Nat → Int32) : Prop :=
  p.tables.exec = Jvm.exec ∧ c.code = code ∧ meth.sig.returnType = ret ∧ c.maxLocals = 7 ∧ s.vm.findClass R_law = some m.cls ∧ (∀ w ∈ lw_tbl, w.before #[Value.ref b] s = true) ∧ va_X b L xs s s.heap ∧ b < s.heap.size ∧ meth.locks = false ∧ (Jvm.Cond.and given_1 narrow_1).before #[Value.ref b] s = true
set_option maxHeartbeats 4000000 in
theorem whole_start {p : Program} {e : Env} {s : State} {m : MethodId} {below : List Frame} {meth : Method} {c : Code} (l : Launch) (hflags : l.flags = flags0) {b L : Nat} {xs : Nat → Int32} (hL : L ≤ 3072) (C0 : lw_At p s m meth c b L xs) : W p l e room_1 s m #[Value.ref b] below meth c s.heap [] 0 0 (lw_Z below #[Value.ref b] s) (entryFrame m ([Value.ref b] : List Value).toArray 7) := by
  obtain ⟨hx, hb, hr, hml, hown, hts0, hX0, hbl, hlocks, hgv⟩ := id C0
  obtain ⟨D, cI, cJ, cZ, cO, e0, mi, sa, hK, hX, hY⟩ := lw_facts hts0 hgv
  have hts : ∀ w ∈ wsL_law0, w.before #[Value.ref b] s = true := fun w h => hts0 w (wsL_law_in0 w h)
  have hts2 : ∀ w ∈ wsL_law2, w.before #[Value.ref b] s = true := fun w h => hts0 w (wsL_law2_in w h)
  have hlf : l.stackTraces = false := by
    unfold Launch.stackTraces
    rw [hflags]
    decide +kernel
  have hC : lwC p s m meth c b L xs D cI cJ cZ cO e0 mi sa := ⟨hx, hb, hml, hown, hts, hX0, hbl, hK, hX, hY, hlocks, hL, hts2⟩
  have hA : ∀ q : Nat, s.heap.size ≤ q → lwA s q := fun _ h => h
  have hS : va_S (lwA s) s.heap s.heap [] := va_S.rf
  have hP : va_P D vwCl [] s.heap := fun k q h => by simp at h
  have hD : va_D (lwA s) [] := ⟨fun i j p q h => by simp at h, fun k q h => by simp at h⟩
  have hl := lv_entry ([.ref b]) (n := 7) (Nat.le_of_ble_eq_true rfl)
  rw [lg_entry_eq]
  generalize (lg_sl ([.ref b]) ++ List.replicate (7 - (lg_sl ([.ref b])).length) Slot.unset).toArray = ls at hl ⊢
  have hl : lv_has ls 7 [(0, .ref b)] := hl
  refine va_new (ci := 8) (fs := [.null, .null, .null, .null, .null, .null, .int 0]) (C := RX7) (T := TX7) (N := 7) hx hb hts0 wsL_in_X7 tyX7 tyX7_ok hown (hts0 (.classLink RL 8 RX7) (by decide +kernel)) (hts0 (.instantiable RX7 7) (by decide +kernel)) (hts0 (.initialized RX7) (by decide +kernel)) hK.1 hP hD hS hA rfl (fun j hj => by rcases (show j = 0 ∨ j = 1 ∨ j = 2 ∨ j = 3 ∨ j = 4 ∨ j = 5 ∨ j = 6 by omega) with rfl | rfl | rfl | rfl | rfl | rfl | rfl <;> rfl) (Nat.le_of_ble_eq_true rfl) (Nat.le_of_ble_eq_true rfl) dL_law_0 (fun o H hP hD hS => ?_)
  have hP : va_P D vwCl ([(o, .inr (8, [.null, .null, .null, .null, .null, .null, .int 0]))] ++ []) H := hP
  have hD : va_D (lwA s) ([(o, .inr (8, [.null, .null, .null, .null, .null, .null, .int 0]))] ++ []) := hD
  refine lv_dup hx hb dL_law_3 rfl ?_
  refine lw_go (wc := [(o, .inr (8, [.null, .null, .null, .null, .null, .null, .int 0]))]) (wr := []) (va_runI (As := []) (rest := [.ref o]) ⟨hx, hb, hml, hown, hts⟩ (c_X7_init l D cI cJ cZ cO e0 mi o _) (cwI 0 hts gL_law_X7_init rfl rfl rfl (hts0 (.initialized RX7) (by decide +kernel)) (hts0 (.methodLink RL 15 yX7_init) (by decide +kernel)) (hts0 (.instanceMethod yX7_init) (by decide +kernel)) rfl (by decide +kernel) ⟨(Nat.le_of_ble_eq_true rfl), (Nat.le_of_ble_eq_true rfl)⟩) (kPreSX hK hX hS (kFre hD hS hA) (kPA hP) ((kDA hD).weaken (fun _ _ _ _ => trivial))) rfl rfl hl.1 rfl (lv_room (Nat.le_of_ble_eq_true rfl)) dL_law_4 ⟨(Nat.le_of_ble_eq_true rfl), (Nat.le_of_ble_eq_true rfl)⟩) hP hD hS (fun v_1 w_1 H hv_1 hP hD hS => ?_)
  obtain ⟨t0, t1, t2, h0, la, w0, w1, w2, r0, r1, k0, k1, k2, k4, k3, k5, s0, s1, s2, rfl, rfl⟩ := hv_1
  have hP : va_P D vwCl [(o, .inr (8, [.ref t0, .ref h0, .ref w0, .ref r0, .ref k0, .ref s0, .int 0])), (t0, .inr (5, [.ref t1, .ref t2, .int 0])), (t1, .inl (cI, 12, .inl (fun _ => 0))), (t2, .inl (cI, 12, .inl (fun _ => 0))), (h0, .inr (4, [.ref la, .int 2])), (la, .inr (0, [.int 0, .ref e0, .int 0])), (w0, .inr (6, [.ref w1, .ref w2, .int 0])), (w1, .inl (cI, 4096, .inl (fun _ => 0))), (w2, .inl (cJ, 4096, .inr (.inl (fun _ => 0)))), (r0, .inr (3, [.ref r1, .int 0])), (r1, .inl (cI, 12, .inl (fun _ => 0))), (k0, .inr (7, [.ref k1, .ref k2, .ref k3])), (k1, .inl (cI, 52, .inl (fill3 (fun _ => 0) 52))), (k2, .inr (3, [.ref k4, .int 0])), (k4, .inl (cI, 12, .inl (fun _ => 0))), (k3, .inr (3, [.ref k5, .int 0])), (k5, .inl (cI, 12, .inl (fun _ => 0))), (s0, .inr (1, [.ref s1, .ref s2, .int 1, .int 0])), (s1, .inl (cI, 4096, .inl (fun _ => 0))), (s2, .inl (cI, 64, .inl (fun _ => 0)))] H := hP
  have hD : va_D (lwA s) [(o, .inr (8, [.ref t0, .ref h0, .ref w0, .ref r0, .ref k0, .ref s0, .int 0])), (t0, .inr (5, [.ref t1, .ref t2, .int 0])), (t1, .inl (cI, 12, .inl (fun _ => 0))), (t2, .inl (cI, 12, .inl (fun _ => 0))), (h0, .inr (4, [.ref la, .int 2])), (la, .inr (0, [.int 0, .ref e0, .int 0])), (w0, .inr (6, [.ref w1, .ref w2, .int 0])), (w1, .inl (cI, 4096, .inl (fun _ => 0))), (w2, .inl (cJ, 4096, .inr (.inl (fun _ => 0)))), (r0, .inr (3, [.ref r1, .int 0])), (r1, .inl (cI, 12, .inl (fun _ => 0))), (k0, .inr (7, [.ref k1, .ref k2, .ref k3])), (k1, .inl (cI, 52, .inl (fill3 (fun _ => 0) 52))), (k2, .inr (3, [.ref k4, .int 0])), (k4, .inl (cI, 12, .inl (fun _ => 0))), (k3, .inr (3, [.ref k5, .int 0])), (k5, .inl (cI, 12, .inl (fun _ => 0))), (s0, .inr (1, [.ref s1, .ref s2, .int 1, .int 0])), (s1, .inl (cI, 4096, .inl (fun _ => 0))), (s2, .inl (cI, 64, .inl (fun _ => 0)))] := hD
  refine W.eq (g2 := F0 m 7 ls [.ref o]) rfl ?_
  refine lv_astore_n (lv' := [(1, .ref o), (0, .ref b)]) hx hb dL_law_7 rfl hl (by decide) rfl (fun ls hl => ?_)
  refine va_new (ci := 9) (fs := [.null, .null, .int 0, .null, .null, .null, .null, .null, .int 0, .int 0, .int 0, .null, .int 0, .null, .null, .int 0, .null, .int 0, .null, .null, .int 0, .null, .null, .null]) (C := RX8) (T := TX8) (N := 24) hx hb hts0 wsL_in_X8 tyX8 tyX8_ok hown (hts0 (.classLink RL 16 RX8) (by decide +kernel)) (hts0 (.instantiable RX8 24) (by decide +kernel)) (hts0 (.initialized RX8) (by decide +kernel)) hK.1 hP hD hS hA rfl (fun j hj => by rcases (show j = 0 ∨ j = 1 ∨ j = 2 ∨ j = 3 ∨ j = 4 ∨ j = 5 ∨ j = 6 ∨ j = 7 ∨ j = 8 ∨ j = 9 ∨ j = 10 ∨ j = 11 ∨ j = 12 ∨ j = 13 ∨ j = 14 ∨ j = 15 ∨ j = 16 ∨ j = 17 ∨ j = 18 ∨ j = 19 ∨ j = 20 ∨ j = 21 ∨ j = 22 ∨ j = 23 by omega) with rfl | rfl | rfl | rfl | rfl | rfl | rfl | rfl | rfl | rfl | rfl | rfl | rfl | rfl | rfl | rfl | rfl | rfl | rfl | rfl | rfl | rfl | rfl | rfl <;> rfl) (Nat.le_of_ble_eq_true rfl) (Nat.le_of_ble_eq_true rfl) dL_law_8 (fun z H hP hD hS => ?_)
  have hP : va_P D vwCl ([(z, .inr (9, [.null, .null, .int 0, .null, .null, .null, .null, .null, .int 0, .int 0, .int 0, .null, .int 0, .null, .null, .int 0, .null, .int 0, .null, .null, .int 0, .null, .null, .null]))] ++ [(o, .inr (8, [.ref t0, .ref h0, .ref w0, .ref r0, .ref k0, .ref s0, .int 0])), (t0, .inr (5, [.ref t1, .ref t2, .int 0])), (t1, .inl (cI, 12, .inl (fun _ => 0))), (t2, .inl (cI, 12, .inl (fun _ => 0))), (h0, .inr (4, [.ref la, .int 2])), (la, .inr (0, [.int 0, .ref e0, .int 0])), (w0, .inr (6, [.ref w1, .ref w2, .int 0])), (w1, .inl (cI, 4096, .inl (fun _ => 0))), (w2, .inl (cJ, 4096, .inr (.inl (fun _ => 0)))), (r0, .inr (3, [.ref r1, .int 0])), (r1, .inl (cI, 12, .inl (fun _ => 0))), (k0, .inr (7, [.ref k1, .ref k2, .ref k3])), (k1, .inl (cI, 52, .inl (fill3 (fun _ => 0) 52))), (k2, .inr (3, [.ref k4, .int 0])), (k4, .inl (cI, 12, .inl (fun _ => 0))), (k3, .inr (3, [.ref k5, .int 0])), (k5, .inl (cI, 12, .inl (fun _ => 0))), (s0, .inr (1, [.ref s1, .ref s2, .int 1, .int 0])), (s1, .inl (cI, 4096, .inl (fun _ => 0))), (s2, .inl (cI, 64, .inl (fun _ => 0)))]) H := kPS hP
  have hD : va_D (lwA s) ([(z, .inr (9, [.null, .null, .int 0, .null, .null, .null, .null, .null, .int 0, .int 0, .int 0, .null, .int 0, .null, .null, .int 0, .null, .int 0, .null, .null, .int 0, .null, .null, .null]))] ++ [(o, .inr (8, [.ref t0, .ref h0, .ref w0, .ref r0, .ref k0, .ref s0, .int 0])), (t0, .inr (5, [.ref t1, .ref t2, .int 0])), (t1, .inl (cI, 12, .inl (fun _ => 0))), (t2, .inl (cI, 12, .inl (fun _ => 0))), (h0, .inr (4, [.ref la, .int 2])), (la, .inr (0, [.int 0, .ref e0, .int 0])), (w0, .inr (6, [.ref w1, .ref w2, .int 0])), (w1, .inl (cI, 4096, .inl (fun _ => 0))), (w2, .inl (cJ, 4096, .inr (.inl (fun _ => 0)))), (r0, .inr (3, [.ref r1, .int 0])), (r1, .inl (cI, 12, .inl (fun _ => 0))), (k0, .inr (7, [.ref k1, .ref k2, .ref k3])), (k1, .inl (cI, 52, .inl (fill3 (fun _ => 0) 52))), (k2, .inr (3, [.ref k4, .int 0])), (k4, .inl (cI, 12, .inl (fun _ => 0))), (k3, .inr (3, [.ref k5, .int 0])), (k5, .inl (cI, 12, .inl (fun _ => 0))), (s0, .inr (1, [.ref s1, .ref s2, .int 1, .int 0])), (s1, .inl (cI, 4096, .inl (fun _ => 0))), (s2, .inl (cI, 64, .inl (fun _ => 0)))]) := kDS hD
  refine lv_dup hx hb dL_law_11 rfl ?_
  refine lw_go (wc := [(z, .inr (9, [.null, .null, .int 0, .null, .null, .null, .null, .null, .int 0, .int 0, .int 0, .null, .int 0, .null, .null, .int 0, .null, .int 0, .null, .null, .int 0, .null, .null, .null]))]) (wr := [(o, .inr (8, [.ref t0, .ref h0, .ref w0, .ref r0, .ref k0, .ref s0, .int 0])), (t0, .inr (5, [.ref t1, .ref t2, .int 0])), (t1, .inl (cI, 12, .inl (fun _ => 0))), (t2, .inl (cI, 12, .inl (fun _ => 0))), (h0, .inr (4, [.ref la, .int 2])), (la, .inr (0, [.int 0, .ref e0, .int 0])), (w0, .inr (6, [.ref w1, .ref w2, .int 0])), (w1, .inl (cI, 4096, .inl (fun _ => 0))), (w2, .inl (cJ, 4096, .inr (.inl (fun _ => 0)))), (r0, .inr (3, [.ref r1, .int 0])), (r1, .inl (cI, 12, .inl (fun _ => 0))), (k0, .inr (7, [.ref k1, .ref k2, .ref k3])), (k1, .inl (cI, 52, .inl (fill3 (fun _ => 0) 52))), (k2, .inr (3, [.ref k4, .int 0])), (k4, .inl (cI, 12, .inl (fun _ => 0))), (k3, .inr (3, [.ref k5, .int 0])), (k5, .inl (cI, 12, .inl (fun _ => 0))), (s0, .inr (1, [.ref s1, .ref s2, .int 1, .int 0])), (s1, .inl (cI, 4096, .inl (fun _ => 0))), (s2, .inl (cI, 64, .inl (fun _ => 0)))]) (va_runI (As := []) (rest := [.ref z]) ⟨hx, hb, hml, hown, hts⟩ (c_X8_init l D cI cJ cZ cO z _) (cwI 0 hts gL_law_X8_init rfl rfl rfl (hts0 (.initialized RX8) (by decide +kernel)) (hts0 (.methodLink RL 18 yX8_init) (by decide +kernel)) (hts0 (.instanceMethod yX8_init) (by decide +kernel)) rfl (by decide +kernel) ⟨(Nat.le_of_ble_eq_true rfl), (Nat.le_of_ble_eq_true rfl)⟩) (kPreS hK (kPA hP) ((kDA hD).weaken (fun _ _ _ _ => trivial))) rfl rfl hl.1 rfl (lv_room (Nat.le_of_ble_eq_true rfl)) dL_law_12 ⟨(Nat.le_of_ble_eq_true rfl), (Nat.le_of_ble_eq_true rfl)⟩) hP hD hS (fun v_2 w_2 H hv_2 hP hD hS => ?_)
  obtain ⟨a0, a1, a2, a3, a4, a5, a6, a7, a8, a9, a10, a11, a12, a13, a14, a15, rfl, rfl⟩ := hv_2
  refine W.eq (g2 := F0 m 15 ls [.ref z]) rfl ?_
  refine lv_astore_n (lv' := [(2, .ref z), (1, .ref o), (0, .ref b)]) hx hb dL_law_15 rfl hl (by decide) rfl (fun ls hl => ?_)
  refine lv_iconst (v := 1) hx hb dL_law_16 (by decide) ?_
  refine kNewaJ (n := 1) (N' := 1) hx hb (hts0 (.arrayClass .long) (by decide +kernel)) hK.1 hP hD hS hA (by decide) rfl (Nat.le_of_ble_eq_true rfl) (Nat.le_of_ble_eq_true rfl) (Nat.le_of_ble_eq_true rfl) dL_law_17 (fun q H hP hD hS => ?_)
  refine lv_astore_n (lv' := [(3, .ref q), (2, .ref z), (1, .ref o), (0, .ref b)]) hx hb dL_law_19 rfl hl (by decide) rfl (fun ls hl => ?_)
  refine lv_iconst (v := 0) hx hb dL_law_20 (by decide) ?_
  refine lv_istore (lv' := [(4, .int 0), (3, .ref q), (2, .ref z), (1, .ref o), (0, .ref b)]) hx hb dL_law_21 hl (by decide) rfl (fun ls hl => ?_)
  rw [List.append_assoc] at hP hD
  exact lw_loop hlf hC (fun H1 ls1 => by
      refine lv_iconst (v := 1) hx hb dL_law_863 (by decide) ?_
      exact lw_ret hx hb hr hlocks dL_law_864) (L + 1) 0 _ _ H ls _ _ (fun _ => 0) (by omega) (by omega) (Nat.le_of_ble_eq_true rfl) (Nat.le_of_ble_eq_true rfl) (lv_sub hl [4, 3, 2, 1, 0] rfl) (lJ_init cI cJ cZ cO e0 o z t0 t1 t2 h0 la w0 w1 w2 r0 r1 k0 k1 k2 k4 k3 k5 s0 s1 s2 a0 a1 a2 a3 a4 a5 a6 a7 a8 a9 a10 a11 a12 a13 a14 a15) hP hD hS
set_option maxHeartbeats 4000000 in
theorem lw_walk (l : Launch) (hflags : l.flags = flags0) (b : Addr) (xs : List Int32) : MetFree l x (headSpec (Jvm.Cond.code x code maxLocals ret :: tables_1) room_1) (lw_P b xs) (fun _ _ _ _ _ => True) lw_Q := by
  refine MetFree.of_bodyS (code := code) (maxLocals := maxLocals) (ret := ret) (by decide) ?_ ?_
  · intro args s m h hn
    obtain ⟨meth, c, h1, h2, h3, h4, h5, h6, -, -⟩ := Cond.code_spec hn (atoms_spec (ws := Jvm.Cond.code x code maxLocals ret :: tables_1) h _ List.mem_cons_self)
    exact ⟨meth, c, h1, h2, h3, h4, h5, h6⟩
  · intro p e s m args below meth c s₁ B hml0 hP _
    obtain ⟨rfl, hx, hbd, hgv⟩ := hP
    obtain ⟨scr, harrAt, hlist, hof, hsmall⟩ := hx
    obtain ⟨hcb, hkn, -, -⟩ := State.arrayAt?_spec harrAt
    have hown : s.vm.findClass R_law = some m.cls := findClass_of_methodNamed B.named
    have hts0 : ∀ c ∈ (Jvm.Cond.code x code maxLocals ret :: tables_1), c.before #[Value.ref b] s = true := atoms_spec (ws := Jvm.Cond.code x code maxLocals ret :: tables_1) B.pre
    have hts : ∀ w ∈ lw_tbl, w.before #[Value.ref b] s = true := k2_hts_sels lw_privs (fun w hw => hts0 w (List.mem_cons_of_mem _ hw)) lw_privs_ok
    have hml : c.maxLocals = 7 := B.maxLocals_eq (hts0 _ List.mem_cons_self)
    have X₀ : Stand p l e room_1 s m #[Value.ref b] below meth c s₁ [] 0 0 := Stand.of_body B
    have hh0 : s₁.heap = s.heap := by rw [B.state]; rfl
    have hsz : scr.slots.size = xs.length := by rw [← Array.length_toList, hlist, List.length_map]
    have hval : ∀ j : Nat, j < xs.length → scr.slots[j]? = some (.int (xs.getD j 0)) := fun j hj => by
      rw [← Array.getElem?_toList, hlist]
      simp [hj]
    have hbl : b < s.heap.size := (Array.getElem?_eq_some_iff.mp hcb).1
    have hX : va_X b xs.length (fun j => xs.getD j 0) s s.heap := ⟨scr, hcb, hof, hkn, hsz, hval⟩
    have K : W p l e room_1 s m #[Value.ref b] below meth c s₁.heap [] 0 0 (lw_Z below #[Value.ref b] s) (entryFrame m ([Value.ref b] : List Value).toArray 7) := by
      rw [hh0]
      exact whole_start l hflags hbd ⟨B.exec, B.bytes, B.returns, hml, hown, hts, hX, hbl, B.notSynchronized, hgv⟩
    obtain ⟨t, a1, o, b1, b2, b3⟩ := K s₁ rfl X₀
    exact ⟨t, o, a1, b1, b2, b3⟩
theorem lw_pre_spec {args : Array Value} {s : State} (h : (Jvm.Cond.and given_1 narrow_1).before args s = true) (hr : rest_1_c.before args s = true) : ∃ (b : Addr) (xs : List Int32), lw_P b xs args s := by
  have hs := flat_of_before _ h
  have hq := flat_of_before _ hr
  have hc : (Cond.count 1).before args s = true := hs _ (by decide +kernel)
  have harr : (Cond.arrayOf (.arg 0) .int).before args s = true := hs _ (by decide +kernel)
  have hle : (Cond.le (.length (.arg 0)) (.int 3072)).before args s = true := hs _ (by decide +kernel)
  have hlen : (Cond.isInt (.length (.arg 0))).before args s = true := hq _ (by decide +kernel)
  have hall : (Cond.all (.arg 0) (.isInt (.elem (.arg 0) (.index 0)))).before args s = true := hq _ (by decide +kernel)
  obtain ⟨b, xs, hb, hx⟩ := State.ints_of_pre rfl harr hlen hall
  have hsm : xs.length < 2 ^ 31 := hx.choose_spec.2.2.2
  have hev : (Term.length (.arg 0)).eval args s none [] s = some (.int xs.length.toInt32) := hx.length_eval hb
  have hv := Cond.le_ints hev (show (Term.int 3072).eval args s none [] s = some (.int 3072) from rfl)
  have hd : xs.length.toInt32 ≤ 3072 := by
    simpa [Cond.before, Cond.holds, hv] using hle
  have hN : xs.length ≤ 3072 := (Int32.ofNat_le_ofNat hsm (by decide)).mp (show Int32.ofNat xs.length ≤ Int32.ofNat 3072 from hd)
  exact ⟨b, xs, Cond.one_arg hc (show args[0]? = some (.ref b) from hb), hx, hN, h⟩
theorem lw_comes (l : Launch) (hflags : l.flags = flags0) : Comes l x (Jvm.Cond.code x code maxLocals ret :: tables_1) room_1 (fun tb e args s => Calls_1 tb e args s ∧ rest_1 tb e args s ∧ Pre_1 tb e args s)
    (fun _ _ args s o t => lw_Q args s o t) := by
  intro p e ha hc hk s m args below hf hfit hheap happ hpre
  obtain ⟨b, xs, hP⟩ := lw_pre_spec hpre.2.2 hpre.2.1
  obtain ⟨k, o, h1, h2, h3, hQ⟩ := lw_walk l hflags b xs p e ha hc hk s m args below hf ((Spec.applies_iff_loose hf).mp happ).1 hP trivial
  exact ⟨k, o, h1, h2, h3, hQ⟩
theorem lw_frame {s t : State} {o : Outcome} {args : Array Value} (h : Framed s o t [] 601024 7293034) :
    Framed s o t (fieldLocs frame_1_writes args s ++ arrayLocs frame_1_arrays args s ++ staticLocs frame_1_statics s) 601024 7293034 := h
theorem lw_limb (L : Cond) (hL : ∀ (args : Array Value) (s t : State), L.after args s (.returned (some (.int 1))) t = true) :
    ArmFor flags0 classFile x code maxLocals ret World_1 tables_1 room_1 Calls_1 rest_1 Pre_1
      (fun tb e a s o t => postC L tb e a s o t ∧ Framed s o t (fieldLocs frame_1_writes a s ++ arrayLocs frame_1_arrays a s ++ staticLocs frame_1_statics s) 601024 7293034) := by
  intro l hflags _ _ p e ha hc hk s m args below hf hfit hheap happ hpre
  obtain ⟨k, o, h1, h2, h3, rfl, hF⟩ := lw_comes l hflags p e ha hc hk s m args below hf hfit hheap happ hpre
  exact ⟨k, _, h1, h2, h3, hL args s _, lw_frame hF⟩
theorem i_vc : Claimed_1_1 ∧ Claimed_1_2 := ⟨lw_limb limb_1_1 (fun args s t => by simp [limb_1_1, Cond.after, Cond.holds, Cond.value]), lw_limb limb_1_2 (fun args s t => Cond.after_iff.mpr (by
  first | (rw [show limb_1_2 = Cond.eq .result (.int 1) from rfl, Cond.eq_ints (x := 1) (y := 1) rfl rfl]; simp; done) | (simp [limb_1_2, Cond.value, Term.eval]; done)))⟩
