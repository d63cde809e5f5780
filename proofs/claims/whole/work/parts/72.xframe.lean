/-! ===== contracts that know the list's static empty row, the class objects and the class of Object[] ===== -/
def kX (e0 mi : Nat) (A : Nat → Prop) (U : State) (H : Heap) : Prop := va_Z "java/util/ArrayList" "DEFAULTCAPACITY_EMPTY_ELEMENTDATA" "[Ljava/lang/Object;" (.ref e0) A U H ∧ va_T (.object "java/lang/Object") e0 0 (fun _ => .null) A U H ∧ va_Mi "[Ljava/lang/Object;" mi U ∧ va_Dc U ∧ va_AO "java/lang/Object" U
theorem kX.use {e0 mi : Nat} {A B : Nat → Prop} {s U : State} {H : Heap} {locs : List Loc} (h : kX e0 mi A s s.heap) (hS : va_S A s.heap H locs) (hF : ∀ q, B q → A q) (hW : s.WarmedH U.vm) (hU : U.heap = H) : kX e0 mi B U U.heap := by
  rw [hU]
  exact ⟨((h.1.kept hS.2.1).narrow hF).moved hW.alike, ((h.2.1.kept hS.2.1).narrow hF).moved hW.alike, h.2.2.1.moved hW.alike, h.2.2.2.1.moved hW.alike, h.2.2.2.2.moved hW.alike⟩
theorem kX.same {e0 mi : Nat} {A : Nat → Prop} {u U : State} (hv : u.vm = U.vm) (hh : u.heap = U.heap) (h : kX e0 mi A u u.heap) : kX e0 mi A U U.heap := by
  have ha : u.vm.Alike U.vm := by rw [hv]; exact Vm.Alike.refl U.vm
  rw [← hh]
  exact ⟨h.1.moved ha, h.2.1.moved ha, h.2.2.1.moved ha, h.2.2.2.1.moved ha, h.2.2.2.2.moved ha⟩
def kPx (D : va_G) (TY : List (ClassId × FieldType)) (e0 mi : Nat) (w : va_W) (sz : Nat) : State → Prop := fun U => kP D TY w sz U ∧ kX e0 mi (va_A w sz) U U.heap
def kCx (l : Launch) (D : va_G) (TY : List (ClassId × FieldType)) (e0 mi : Nat) (y : MethodName) (ws : List Cond) (fr lo mc ms : Nat) (av : List Value) (w : va_W) (post : Option Value → va_W → Prop) : Prop :=
  ∀ sz : Nat, Met l y ws ({ frames := fr, cells := mc, slots := ms, locals := lo }) (va_Pc av (kPx D TY e0 mi w sz)) (kQ D w sz post) mc ms (va_A w sz)
theorem kBlindX {D : va_G} {TY : List (ClassId × FieldType)} {e0 mi : Nat} {av : List Value} {w : va_W} {sz : Nat} : FrameBlind (va_Pc av (kPx D TY e0 mi w sz)) := fun a U g mk h => by
  obtain ⟨h1, ⟨h2, h3, h4, h5⟩, h6⟩ := h
  exact ⟨h1, ⟨h2, h3, kK.same (u := U) (U := U.calling g mk a) rfl h4, h5⟩, kX.same (u := U) (U := U.calling g mk a) rfl rfl h6⟩
section KFX
variable {l : Launch} {D : va_G} {TY : List (ClassId × FieldType)} {e0 mi : Nat} {y : MethodName} {ws ws' : List Cond} {fr lo mc ms : Nat} {vs : List Value} {w : va_W} {cc : ByteArray} {maxL : Nat} {ret : Option FieldType}
theorem kEnterX {post : Option Value → va_W → Prop} (hy : plainName y.cls = true) (hw : ws = .code y cc maxL ret :: ws') (hn : (lg_sl vs).length ≤ maxL)
    (walk : ∀ (p : Program) (e : Env) (s : State) (m : MethodId) (args : Array Value) (below : List Frame) (meth : Method) (c : Code), p.tables.exec = Jvm.exec → c.code = cc → meth.sig.returnType = ret → c.maxLocals = maxL → (∀ q ∈ ws, q.before args s = true) → s.vm.findClass y.cls = some m.cls → meth.locks = false → meth.name = y.name → kK D TY s → kX e0 mi (va_A w s.heap.size) s s.heap → va_P D vwCl w s.heap → va_D (va_A w s.heap.size) w → va_S (va_A w s.heap.size) s.heap s.heap [] → (∀ q : Nat, s.heap.size ≤ q → va_A w s.heap.size q) → ∀ ls : Array Slot, lv_has ls maxL (lv_args 0 vs) →
      W p l e ({ frames := fr, cells := mc, slots := ms, locals := lo }) s m args below meth c s.heap [] 0 0 (MQ below (kQ D w s.heap.size post) args s mc ms (va_A w s.heap.size)) (F0 m 0 ls [])) : kCx l D TY e0 mi y ws fr lo mc ms vs w post := by
  intro sz
  refine Met.ofW (cc := cc) (maxL := maxL) (ret := ret) hy hw ?_
  intro p e s m args below meth c s₁ B hml hv
  obtain ⟨rfl, ⟨rfl, hP, hK, hD0⟩, hX⟩ := hv
  have hl := lv_entry vs (n := maxL) hn
  rw [lg_entry_eq]
  exact walk p e s m _ below meth c B.exec B.bytes B.returns hml (atoms_spec (ws := ws) B.pre) (findClass_of_methodNamed B.named) B.notSynchronized (name_of_methodNamed B.named B.method).1 hK hX hP hD0.self va_S.rf (fun q h => Or.inr h) _ hl
end KFX
section KFX2
variable {p : Program} {l : Launch} {e : Env} {R : Room} {s : State} {m : MethodId} {args : Array Value} {below : List Frame} {meth : Method} {c : Code} {H : Heap} {locs : List Loc} {D : va_G} {TY : List (ClassId × FieldType)} {e0 mi : Nat} {As : List Value} {A : Nat → Prop} {wc : va_W} {b : Addr} {C : String} {q0 ci : Nat} {fs : List Value} {qc : vw_C}
theorem kPreSX (hK : kK D TY s) (hX : kX e0 mi A s s.heap) (hS : va_S A s.heap H locs) (hF : ∀ q, va_A wc H.size q → A q) (hP : va_P D vwCl wc H) (hD : va_D (fun _ => True) wc) : PreS s H (va_Pc As (kPx D TY e0 mi wc H.size)) As :=
  ⟨kBlindX, fun U hU hW => ⟨rfl, ⟨by rw [hU], by rw [hU]; exact hP, hK.warm hW, hD⟩, hX.use hS hF hW hU⟩⟩
theorem kPreVX (hK : kK D TY s) (hX : kX e0 mi A s s.heap) (hS : va_S A s.heap H locs) (hF : ∀ q, va_A wc H.size q → A q) (hP : va_P D vwCl wc H) (hD : va_D (fun _ => True) wc) (hc : vwCl[ci]? = some qc) (he : wc[q0]? = some (b, .inr (ci, fs))) (hC : qc.1 = C) : PreV s H C b (va_Pc (.ref b :: As) (kPx D TY e0 mi wc H.size)) As :=
  ⟨kBlindX, by subst hC; exact va_recv hK.1 hP hc he, fun U hU hW => ⟨rfl, ⟨by rw [hU], by rw [hU]; exact hP, hK.warm hW, hD⟩, hX.use hS hF hW hU⟩⟩
/-- the callee's cells are the caller's (no pool) -/
theorem kFree {ws : va_W} (hD : va_D A ws) (hS : va_S A s.heap H locs) (hA : ∀ q, s.heap.size ≤ q → A q) (isC : List Nat) (hC : isC.map (fun i => ws[i]?) = wc.map some) : ∀ q, va_A wc H.size q → A q := va_free hD hS hA isC hC
end KFX2
section KFX3
variable {p : Program} {l : Launch} {e : Env} {R : Room} {s : State} {m : MethodId} {args : Array Value} {below : List Frame} {meth : Method} {c : Code} {H : Heap} {locs : List Loc} {cells slots mc ms : Nat} {cc : ByteArray} {pc : Nat} {ls : Array Slot} {D : va_G} {w w1 : va_W} {cI cJ cZ cO : ClassId} {A : Nat → Prop} {ws : va_W} {H0 : Heap} {Q : State → Prop} {rest : List Value}
theorem kRetA {post : Option Value → va_W → Prop} {v : Value} (hx : p.tables.exec = Jvm.exec) (hb : c.code = cc) (hr : (∃ C, meth.sig.returnType = some (.object C)) ∨ (∃ t, meth.sig.returnType = some (.array t))) (hlk : meth.locks = false) (hd : decode cc pc = .ok (.areturn, 1)) (hv : v = .null ∨ ∃ a, v = .ref a) (hP : va_P D vwCl w1 H) (hD : va_D (va_A w s.heap.size) w1) (hS : va_S (va_A w s.heap.size) s.heap H locs) (h1 : cells ≤ mc) (h2 : slots ≤ ms) (hp : post (some v) w1) :
    W p l e R s m args below meth c H locs cells slots (MQ below (kQ D w s.heap.size post) args s mc ms (va_A w s.heap.size)) (F0 m pc ls [v]) := by
  rcases hr with ⟨C, hr⟩ | ⟨t, hr⟩
  · exact W.widen h1 h2 (W.aret hx hb hr (Or.inl ⟨C, rfl⟩) hv (fun t ht _ => ⟨⟨_, w1, rfl, hp, by rw [ht]; exact hP, hD⟩, hS.F ht⟩) hS.2.2 hd hlk)
  · exact W.widen h1 h2 (W.aret hx hb hr (Or.inr ⟨t, rfl⟩) hv (fun t ht _ => ⟨⟨_, w1, rfl, hp, by rw [ht]; exact hP, hD⟩, hS.F ht⟩) hS.2.2 hd hlk)
theorem va_nm_obj {U : State} {cA : ClassId} {C : String} (h : va_RA U cA (.object C)) : U.vm.findClass ("[" ++ (FieldType.object C).toString) = some cA := by
  obtain ⟨-, -, -, -, -, h4⟩ := h
  exact h4
/-- a new row of objects: its class is the one that the tables name -/
theorem kNewaO {own : String} {index : Nat} {n : Int32} {N' : Nat} (hexec : p.tables.exec = Jvm.exec) (hb : c.code = cc) (hown : s.vm.findClass own = some m.cls) (hclink : (Cond.classLink own index "java/lang/Object").before args s = true) (hover : va_AO "java/lang/Object" s) (hK : va_K D vwCl (kTY cI cJ cZ cO) s) (hP : va_P D vwCl ws H) (hD : va_D A ws) (hS : va_S A H0 H locs) (hA : ∀ q, H0.size ≤ q → A q)
    (hn : ¬ n < 0) (hN : n.toNatClampNeg = N') (hbytes : N' * 4 ≤ 536870912) (hcells : cells + 1 ≤ R.cells) (hslots : slots + N' ≤ R.slots) (hdg : decode cc pc = .ok (.anewarray index, 3))
    (kk : ∀ (q : Nat) (H1 : Heap), va_P D vwCl (ws ++ [(q, .inl (cO, N', .inr (.inr (.inr (.inr (fun _ => none))))))]) H1 → va_D A (ws ++ [(q, .inl (cO, N', .inr (.inr (.inr (.inr (fun _ => none))))))]) → va_S A H0 H1 locs →
      W p l e R s m args below meth c H1 locs (cells + 1) (slots + N') Q (F0 m (pc + 3) ls (.ref q :: rest))) : W p l e R s m args below meth c H locs cells slots Q (F0 m pc ls (.int n :: rest)) := by
  refine va_newq hexec hb hown hclink hover hK hP hD hS hA hn hN hbytes hcells hslots hdg (fun q cA H1 hK1 hP1 hD1 hS1 => ?_)
  have h1 := va_nm_obj (hK1.2 4 (cA, .object "java/lang/Object") rfl).2
  have h2 := va_nm_obj (hK.2 3 (cO, .object "java/lang/Object") rfl).2
  have h3 : cA = cO := Option.some.inj (h1.symm.trans h2)
  subst h3
  exact kk q H1 hP1 hD1 hS1
end KFX3
