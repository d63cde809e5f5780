section
-- ===== PART A: goes FIRST, ahead of the names: the tables' words, and 'selects' of the private methods out of them =====
/-- a private method of a class that the tables say can be made, by its rows of tables_1 -/
def lw_okq (q : MethodName × Nat) : Prop := (q.1.cls ≠ "java/lang/invoke/MethodHandle" ∧ q.1.cls ≠ "java/lang/invoke/VarHandle") ∧ Cond.instantiable q.1.cls q.2 ∈ tables_1 ∧ Cond.privateMethod q.1 ∈ tables_1 ∧ Cond.instanceMethod q.1 ∈ tables_1
theorem lw_p0 : lw_okq (⟨"java/util/ArrayList", "add", "(Ljava/lang/Object;[Ljava/lang/Object;I)V"⟩, 3) := ⟨⟨by decide +kernel, by decide +kernel⟩, List.mem_of_getElem? (i := 56) (by decide +kernel), List.mem_of_getElem? (i := 255) (by decide +kernel), List.mem_of_getElem? (i := 256) (by decide +kernel)⟩
theorem lw_p1 : lw_okq (⟨"java/util/ArrayList", "grow", "()[Ljava/lang/Object;"⟩, 3) := ⟨⟨by decide +kernel, by decide +kernel⟩, List.mem_of_getElem? (i := 56) (by decide +kernel), List.mem_of_getElem? (i := 259) (by decide +kernel), List.mem_of_getElem? (i := 260) (by decide +kernel)⟩
theorem lw_p2 : lw_okq (⟨"java/util/ArrayList", "grow", "(I)[Ljava/lang/Object;"⟩, 3) := ⟨⟨by decide +kernel, by decide +kernel⟩, List.mem_of_getElem? (i := 56) (by decide +kernel), List.mem_of_getElem? (i := 263) (by decide +kernel), List.mem_of_getElem? (i := 264) (by decide +kernel)⟩
theorem lw_p3 : lw_okq (⟨"java/util/ArrayList", "fastRemove", "([Ljava/lang/Object;I)V"⟩, 3) := ⟨⟨by decide +kernel, by decide +kernel⟩, List.mem_of_getElem? (i := 56) (by decide +kernel), List.mem_of_getElem? (i := 341) (by decide +kernel), List.mem_of_getElem? (i := 342) (by decide +kernel)⟩
theorem lw_p4 : lw_okq (⟨"WhatToRead", "endOfBestWay", "(II)I"⟩, 7) := ⟨⟨by decide +kernel, by decide +kernel⟩, List.mem_of_getElem? (i := 25) (by decide +kernel), List.mem_of_getElem? (i := 441) (by decide +kernel), List.mem_of_getElem? (i := 442) (by decide +kernel)⟩
theorem lw_p5 : lw_okq (⟨"WhatToRead$Ways", "goOnFrom", "(ILWhatToRead$Shelf;I)V"⟩, 3) := ⟨⟨by decide +kernel, by decide +kernel⟩, List.mem_of_getElem? (i := 89) (by decide +kernel), List.mem_of_getElem? (i := 450) (by decide +kernel), List.mem_of_getElem? (i := 451) (by decide +kernel)⟩
theorem lw_p6 : lw_okq (⟨"WhatToRead$Ways", "offer", "(IIII)V"⟩, 3) := ⟨⟨by decide +kernel, by decide +kernel⟩, List.mem_of_getElem? (i := 89) (by decide +kernel), List.mem_of_getElem? (i := 460) (by decide +kernel), List.mem_of_getElem? (i := 461) (by decide +kernel)⟩
theorem lw_p7 : lw_okq (⟨"WhatToRead$Ways", "isBefore", "(IJI)Z"⟩, 3) := ⟨⟨by decide +kernel, by decide +kernel⟩, List.mem_of_getElem? (i := 89) (by decide +kernel), List.mem_of_getElem? (i := 464) (by decide +kernel), List.mem_of_getElem? (i := 465) (by decide +kernel)⟩
theorem lw_p8 : lw_okq (⟨"WhatToRead$Ways", "isBetter", "(II)Z"⟩, 3) := ⟨⟨by decide +kernel, by decide +kernel⟩, List.mem_of_getElem? (i := 89) (by decide +kernel), List.mem_of_getElem? (i := 472) (by decide +kernel), List.mem_of_getElem? (i := 473) (by decide +kernel)⟩
theorem lw_p9 : lw_okq (⟨"WhatToRead$Asking", "keep", "(IZ)V"⟩, 4) := ⟨⟨by decide +kernel, by decide +kernel⟩, List.mem_of_getElem? (i := 137) (by decide +kernel), List.mem_of_getElem? (i := 589) (by decide +kernel), List.mem_of_getElem? (i := 590) (by decide +kernel)⟩
theorem lw_p10 : lw_okq (⟨"java/lang/Throwable", "fillInStackTrace", "(I)Ljava/lang/Throwable;"⟩, 6) := ⟨⟨by decide +kernel, by decide +kernel⟩, List.mem_of_getElem? (i := 693) (by decide +kernel), List.mem_of_getElem? (i := 691) (by decide +kernel), List.mem_of_getElem? (i := 692) (by decide +kernel)⟩
theorem lw_p11 : lw_okq (⟨"WhatToReadModel", "areBits", "(I)Z"⟩, 24) := ⟨⟨by decide +kernel, by decide +kernel⟩, List.mem_of_getElem? (i := 723) (by decide +kernel), List.mem_of_getElem? (i := 814) (by decide +kernel), List.mem_of_getElem? (i := 815) (by decide +kernel)⟩
theorem lw_p12 : lw_okq (⟨"WhatToReadModel", "withAll", "(I)I"⟩, 24) := ⟨⟨by decide +kernel, by decide +kernel⟩, List.mem_of_getElem? (i := 723) (by decide +kernel), List.mem_of_getElem? (i := 818) (by decide +kernel), List.mem_of_getElem? (i := 819) (by decide +kernel)⟩
theorem lw_p13 : lw_okq (⟨"WhatToReadModel", "worthOf", "(I)I"⟩, 24) := ⟨⟨by decide +kernel, by decide +kernel⟩, List.mem_of_getElem? (i := 723) (by decide +kernel), List.mem_of_getElem? (i := 842) (by decide +kernel), List.mem_of_getElem? (i := 843) (by decide +kernel)⟩
theorem lw_p14 : lw_okq (⟨"WhatToReadModel", "isStep", "(I)Z"⟩, 24) := ⟨⟨by decide +kernel, by decide +kernel⟩, List.mem_of_getElem? (i := 723) (by decide +kernel), List.mem_of_getElem? (i := 854) (by decide +kernel), List.mem_of_getElem? (i := 855) (by decide +kernel)⟩
theorem lw_p15 : lw_okq (⟨"WhatToReadModel", "time", "(I)I"⟩, 24) := ⟨⟨by decide +kernel, by decide +kernel⟩, List.mem_of_getElem? (i := 723) (by decide +kernel), List.mem_of_getElem? (i := 858) (by decide +kernel), List.mem_of_getElem? (i := 859) (by decide +kernel)⟩
def lw_privs_1 : List (MethodName × Nat) := [(⟨"java/util/ArrayList", "add", "(Ljava/lang/Object;[Ljava/lang/Object;I)V"⟩, 3), (⟨"java/util/ArrayList", "grow", "()[Ljava/lang/Object;"⟩, 3), (⟨"java/util/ArrayList", "grow", "(I)[Ljava/lang/Object;"⟩, 3), (⟨"java/util/ArrayList", "fastRemove", "([Ljava/lang/Object;I)V"⟩, 3), (⟨"WhatToRead", "endOfBestWay", "(II)I"⟩, 7), (⟨"WhatToRead$Ways", "goOnFrom", "(ILWhatToRead$Shelf;I)V"⟩, 3), (⟨"WhatToRead$Ways", "offer", "(IIII)V"⟩, 3), (⟨"WhatToRead$Ways", "isBefore", "(IJI)Z"⟩, 3), (⟨"WhatToRead$Ways", "isBetter", "(II)Z"⟩, 3), (⟨"WhatToRead$Asking", "keep", "(IZ)V"⟩, 4), (⟨"java/lang/Throwable", "fillInStackTrace", "(I)Ljava/lang/Throwable;"⟩, 6), (⟨"WhatToReadModel", "areBits", "(I)Z"⟩, 24), (⟨"WhatToReadModel", "withAll", "(I)I"⟩, 24), (⟨"WhatToReadModel", "worthOf", "(I)I"⟩, 24), (⟨"WhatToReadModel", "isStep", "(I)Z"⟩, 24), (⟨"WhatToReadModel", "time", "(I)I"⟩, 24)]
theorem lw_r1 : ∀ q ∈ lw_privs_1, lw_okq q := List.forall_mem_cons.mpr ⟨lw_p0, List.forall_mem_cons.mpr ⟨lw_p1, List.forall_mem_cons.mpr ⟨lw_p2, List.forall_mem_cons.mpr ⟨lw_p3, List.forall_mem_cons.mpr ⟨lw_p4, List.forall_mem_cons.mpr ⟨lw_p5, List.forall_mem_cons.mpr ⟨lw_p6, List.forall_mem_cons.mpr ⟨lw_p7, List.forall_mem_cons.mpr ⟨lw_p8, List.forall_mem_cons.mpr ⟨lw_p9, List.forall_mem_cons.mpr ⟨lw_p10, List.forall_mem_cons.mpr ⟨lw_p11, List.forall_mem_cons.mpr ⟨lw_p12, List.forall_mem_cons.mpr ⟨lw_p13, List.forall_mem_cons.mpr ⟨lw_p14, List.forall_mem_cons.mpr ⟨lw_p15, fun _ h => absurd h List.not_mem_nil⟩⟩⟩⟩⟩⟩⟩⟩⟩⟩⟩⟩⟩⟩⟩⟩
theorem lw_p16 : lw_okq (⟨"WhatToReadModel", "canDo", "(II)Z"⟩, 24) := ⟨⟨by decide +kernel, by decide +kernel⟩, List.mem_of_getElem? (i := 723) (by decide +kernel), List.mem_of_getElem? (i := 866) (by decide +kernel), List.mem_of_getElem? (i := 867) (by decide +kernel)⟩
theorem lw_p17 : lw_okq (⟨"WhatToReadModel", "behind", "(II)I"⟩, 24) := ⟨⟨by decide +kernel, by decide +kernel⟩, List.mem_of_getElem? (i := 723) (by decide +kernel), List.mem_of_getElem? (i := 874) (by decide +kernel), List.mem_of_getElem? (i := 875) (by decide +kernel)⟩
theorem lw_p18 : lw_okq (⟨"WhatToReadModel", "findWays", "(II)V"⟩, 24) := ⟨⟨by decide +kernel, by decide +kernel⟩, List.mem_of_getElem? (i := 723) (by decide +kernel), List.mem_of_getElem? (i := 882) (by decide +kernel), List.mem_of_getElem? (i := 883) (by decide +kernel)⟩
theorem lw_p19 : lw_okq (⟨"WhatToReadModel", "newBehind", "(II)I"⟩, 24) := ⟨⟨by decide +kernel, by decide +kernel⟩, List.mem_of_getElem? (i := 723) (by decide +kernel), List.mem_of_getElem? (i := 887) (by decide +kernel), List.mem_of_getElem? (i := 888) (by decide +kernel)⟩
theorem lw_p20 : lw_okq (⟨"WhatToReadModel", "isTight", "(III)Z"⟩, 24) := ⟨⟨by decide +kernel, by decide +kernel⟩, List.mem_of_getElem? (i := 723) (by decide +kernel), List.mem_of_getElem? (i := 899) (by decide +kernel), List.mem_of_getElem? (i := 900) (by decide +kernel)⟩
theorem lw_p21 : lw_okq (⟨"WhatToReadModel", "reached", "()I"⟩, 24) := ⟨⟨by decide +kernel, by decide +kernel⟩, List.mem_of_getElem? (i := 723) (by decide +kernel), List.mem_of_getElem? (i := 907) (by decide +kernel), List.mem_of_getElem? (i := 908) (by decide +kernel)⟩
theorem lw_p22 : lw_okq (⟨"WhatToReadModel", "stateMany", "()I"⟩, 24) := ⟨⟨by decide +kernel, by decide +kernel⟩, List.mem_of_getElem? (i := 723) (by decide +kernel), List.mem_of_getElem? (i := 935) (by decide +kernel), List.mem_of_getElem? (i := 936) (by decide +kernel)⟩
theorem lw_p23 : lw_okq (⟨"WhatToReadModel", "isState", "(I)Z"⟩, 24) := ⟨⟨by decide +kernel, by decide +kernel⟩, List.mem_of_getElem? (i := 723) (by decide +kernel), List.mem_of_getElem? (i := 939) (by decide +kernel), List.mem_of_getElem? (i := 940) (by decide +kernel)⟩
theorem lw_p24 : lw_okq (⟨"WhatToReadModel", "worstOf", "(J)I"⟩, 24) := ⟨⟨by decide +kernel, by decide +kernel⟩, List.mem_of_getElem? (i := 723) (by decide +kernel), List.mem_of_getElem? (i := 960) (by decide +kernel), List.mem_of_getElem? (i := 961) (by decide +kernel)⟩
def lw_privs_2 : List (MethodName × Nat) := [(⟨"WhatToReadModel", "canDo", "(II)Z"⟩, 24), (⟨"WhatToReadModel", "behind", "(II)I"⟩, 24), (⟨"WhatToReadModel", "findWays", "(II)V"⟩, 24), (⟨"WhatToReadModel", "newBehind", "(II)I"⟩, 24), (⟨"WhatToReadModel", "isTight", "(III)Z"⟩, 24), (⟨"WhatToReadModel", "reached", "()I"⟩, 24), (⟨"WhatToReadModel", "stateMany", "()I"⟩, 24), (⟨"WhatToReadModel", "isState", "(I)Z"⟩, 24), (⟨"WhatToReadModel", "worstOf", "(J)I"⟩, 24)]
theorem lw_r2 : ∀ q ∈ lw_privs_2, lw_okq q := List.forall_mem_cons.mpr ⟨lw_p16, List.forall_mem_cons.mpr ⟨lw_p17, List.forall_mem_cons.mpr ⟨lw_p18, List.forall_mem_cons.mpr ⟨lw_p19, List.forall_mem_cons.mpr ⟨lw_p20, List.forall_mem_cons.mpr ⟨lw_p21, List.forall_mem_cons.mpr ⟨lw_p22, List.forall_mem_cons.mpr ⟨lw_p23, List.forall_mem_cons.mpr ⟨lw_p24, fun _ h => absurd h List.not_mem_nil⟩⟩⟩⟩⟩⟩⟩⟩⟩
def lw_privs : List (MethodName × Nat) := lw_privs_1 ++ (lw_privs_2)
def lw_tbl : List Cond := k2_sels lw_privs ++ tables_1
theorem lw_privs_ok : ∀ q ∈ lw_privs, lw_okq q := by
  show ∀ q ∈ lw_privs_1 ++ (lw_privs_2), lw_okq q
  exact List.forall_mem_append.mpr ⟨lw_r1, lw_r2⟩
end
section
/-! ===== BEGIN words of one list among another's, by their places ===== -/
theorem goodIn_r {big : List Cond} (ws : List Cond) (ps : List Nat) (hp : ws = ps.filterMap (fun i => big[i]?)) (h : ws.all goodWord = true) : GoodIn big ws := by
  intro w hw
  have h1 := List.all_eq_true.mp h w hw
  rw [hp] at hw
  obtain ⟨i, -, hi⟩ := List.mem_filterMap.mp hw
  have hm : w ∈ big := by first | exact List.mem_of_getElem? hi | exact List.getElem?_mem hi
  exact ⟨hm, good_of_word h1⟩
theorem goodIn_app {big a b : List Cond} (ha : GoodIn big a) (hb : GoodIn big b) : GoodIn big (a ++ b) := fun w h => (List.mem_append.mp h).elim (ha w) (hb w)
theorem goodIn_ca {big a b : List Cond} {c : Cond} (ha : GoodIn big (c :: a)) (hb : GoodIn big b) : GoodIn big (c :: (a ++ b)) := fun w h => (List.mem_cons.mp h).elim (fun e => ha w (List.mem_cons.mpr (Or.inl e))) (fun h => (List.mem_append.mp h).elim (fun h => ha w (List.mem_cons.mpr (Or.inr h))) (hb w))
theorem goodIn_sub {big ws : List Cond} (hm : ∀ w ∈ ws, w ∈ big) (h : ws.all goodWord = true) : GoodIn big ws := fun w hw => ⟨hm w hw, good_of_word (List.all_eq_true.mp h w hw)⟩
/-! ===== END ===== -/
end
section

/-! ===== BEGIN exceptions that leave a method, and their catching by the caller (launches without stack traces) ===== -/
section VXA
/-! The laws vx_back, vx_callV, vx_callS, vx_callSW, vx_throw0, vx_throwS follow proofs of the library, with one case more: JvmDerived/Free/Laws.lean (Back.of_free), Shelf42/LK1.lean (callV, callS), Shelf/KitTraced.lean (throwNew0V, throwNewS). -/
/-- where a method has thrown q: the class by its name, the cell, what was written, the world -/
def vx_T (XC : String → State → State → Prop) (st : State) (q : Addr) (t : State) (mc ms : Nat) (free : Addr → Prop) : Prop :=
  ∃ (E : String) (ce : Cell) (L : List Loc), XC E st t ∧ t.heap[q]? = some ce ∧ ce.vm = .none ∧ st.vm.findClass E = some ce.cls ∧ st.WarmedH t.vm ∧ st.sameButNew ({ t with vm := st.vm } : State) L mc ms ∧ ∀ z ∈ L, free z.base
def vx_Q (Qc : Array Value → State → Outcome → State → Prop) (XC : String → State → State → Prop) (mc ms : Nat) (free : Addr → Prop) : Array Value → State → Outcome → State → Prop := fun a st o t =>
  (Qc a st o t ∧ ∃ L, FrameEnd st o t L mc ms ∧ ∀ q ∈ L, free q.base) ∨ ∃ q, o = .threw q ∧ vx_T XC st q t mc ms free
/-- a callee that returns or throws -/
def vx_Met (l : Launch) (y : MethodName) (ws : List Cond) (rm : Room) (Pc : Array Value → State → Prop) (Qc : Array Value → State → Outcome → State → Prop) (XC : String → State → State → Prop) (mc ms : Nat) (free : Addr → Prop) : Prop :=
  MetFree l y (headSpec ws rm) Pc (fun _ _ _ _ _ => True) (vx_Q Qc XC mc ms free)
def vx_Post (XC : String → State → State → Prop) (mc ms : Nat) (free : Addr → Prop) : Pt → Array Value → Addr → Pt → Prop := fun A a q B =>
  ∃ (g : JFrame) (mk : MethodId) (t : State) (L : List Loc) (E : String) (ce : Cell), B.U.heap = t.heap ∧ B.U.vm = t.vm ∧ XC E (A.U.calling g mk a) t ∧ t.heap[q]? = some ce ∧ ce.vm = .none ∧ A.U.vm.findClass E = some ce.cls ∧ B.locs = A.locs ++ L ∧ (∀ z ∈ L, free z.base) ∧ B.cells = A.cells + mc ∧ B.slots = A.slots + ms
def vx_Back (l : Launch) (R : Room) (p : Program) (e : Env) (below : List Frame) (s : State) (sargs : Array Value) (y : MethodName) (len W9 : Nat)
    (Pre : Pt → Array Value → Prop) (Post : Pt → Array Value → Option Value → Pt → Prop) (PostX : Pt → Array Value → Addr → Pt → Prop) : Prop :=
  ∀ (m : MethodId) (meth : Method) (c : Code) (A : Pt) (g : JFrame) (ig : Instr) (mk : MethodId) (a : Array Value),
    Stand p l e R s m sargs below meth c A.U A.locs A.cells A.slots → g.method = m → g.locals.size = c.maxLocals → decode c.code g.pc = .ok (ig, len) →
    2 * g.monitorRoom + (g.stack.map fun v => v.category).sum ≤ W9 → A.U.methodNamed? y = some mk → Pre A a →
    (∃ (v : Option Value) (B : Pt), Stand p l e R s m sargs below meth c B.U B.locs B.cells B.slots ∧ Post A a v B ∧
      Steps p.tables e below (doInvoke e (A.U.setTop g) [] mk a).1 (B.U.setTop { g with pc := g.pc + len, stack := v.toList ++ g.stack })) ∨
    (∃ (q : Addr) (B : Pt), Stand p l e R s m sargs below meth c B.U B.locs B.cells B.slots ∧ PostX A a q B ∧
      Steps p.tables e below (doInvoke e (A.U.setTop g) [] mk a).1 ((B.U.setTop g).pushFrame (.throwing q)))
section Payer
variable {l : Launch} {R : Room} {p : Program} {e : Env} {below : List Frame} {s : State} {sargs : Array Value} {y : MethodName} {len W9 : Nat}
theorem vx_back {ws : List Cond} {rm : Room} {Pc : Array Value → State → Prop} {Qc : Array Value → State → Outcome → State → Prop} {XC : String → State → State → Prop} {mc ms : Nat} {free : Addr → Prop} {bytes : ByteArray} {maxL : Nat} {ret : Option FieldType}
    (hM : vx_Met l y ws rm Pc Qc XC mc ms free) (hblind : FrameBlind Pc) (hrc : rm.cells = mc) (hrs : rm.slots = ms)
    (hframes : rm.frames + 1 ≤ R.frames) (hlocals : W9 + (maxL + 11) + rm.locals ≤ R.locals)
    (hws : ∀ w ∈ ws, ∀ a' U, s.WarmedH U.vm → w.before a' U = true) (hcode : Cond.code y bytes maxL ret ∈ ws) (hinit : ∀ a' U, s.WarmedH U.vm → (Cond.initialized y.cls).before a' U = true) :
    vx_Back l R p e below s sargs y len W9 (PreOf R mc ms Pc) (PostOf Qc mc ms free) (vx_Post XC mc ms free) := by
  intro m meth c A g ig mk a X hg hsize hdg hW hn hp
  have h1 : (headSpec ws rm).pre.before a A.U = true := atoms_intro fun w hw => hws w hw _ _ X.warmed
  have h2 : (Cond.code y bytes maxL ret).before a A.U = true := hws _ hcode _ _ X.warmed
  have h3 : (Cond.initialized y.cls).before a A.U = true := hinit _ _ X.warmed
  have h4 : A.cells + (headSpec ws rm).room.cells ≤ R.cells := by rw [show (headSpec ws rm).room.cells = mc from hrc]; exact hp.1
  have h5 : A.slots + (headSpec ws rm).room.slots ≤ R.slots := by rw [show (headSpec ws rm).room.slots = ms from hrs]; exact hp.2.1
  have hPc : Pc a (A.U.calling g mk a) := hblind _ _ _ _ hp.2.2
  obtain ⟨U, Ls, c0, s0⟩ := A
  dsimp only [Pt.U, Pt.locs, Pt.cells, Pt.slots] at h1 h2 h3 h4 h5 X hn hPc ⊢
  obtain ⟨methY, cY, hmY, hcY, -, hlY, -, -, -, -⟩ := Cond.code_spec hn h2
  obtain ⟨kY, hkY, -⟩ := className_of_methodNamed hn
  have hinitY : kY.init = .initialized := Cond.initialized_spec (findClass_of_methodNamed hn) hkY h3
  have h : At U g.method c below := by rw [hg]; exact X.here
  have hlocals9 : W9 + (maxL + 11) + (headSpec ws rm).room.locals ≤ R.locals := hlocals
  have happ : (headSpec ws rm).appliesLoose y e.platform (U.calling g mk a) = true :=
    Spec.appliesLoose_calling (g := g) h hdg hn hkY hinitY
      (X.room_calling (g := g) (R' := (headSpec ws rm).room) hsize hmY hcY hframes (by rw [hlY]; omega) h4 h5) h1
  obtain ⟨mid, hmid⟩ := h.above
  have hfr : (U.setTop g).frames = (.java g :: mid) ++ below := by rw [State.frames_setTop' g h.top, hmid]; rfl
  obtain ⟨o, s₂, hsteps, -, hend, hq⟩ := Steps.callFree hM p X.admits X.cas X.clock (acts := []) hfr happ hPc trivial
  have hq' : vx_Q Qc XC mc ms free a (U.calling g mk a) o s₂ := hq
  rw [State.frames_setTop' g h.top] at hend
  obtain ⟨g₀, hg0⟩ := Option.isSome_iff_exists.mp h.top
  obtain ⟨r, hr⟩ := State.topJava?_eq_some.mp hg0
  have hr' : (({ U with heap := s₂.heap, slotsUsed := s₂.slotsUsed } : State).setVm s₂.vm).frames = .java g₀ :: r := hr
  rcases hq' with ⟨hqc, L, hfe, hL⟩ | ⟨q, rfl, E, ce, L, hx, hce, hcv, hcl, hW₂, hsm, hL⟩
  · obtain ⟨⟨v, rfl⟩, hW₂, e2, q2, q3, q4, q5, q6⟩ := id hfe
    have e3 : s₂ = ({ (U.calling g mk a).setFrames s₂.frames with heap := s₂.heap, slotsUsed := s₂.slotsUsed } : State).setVm s₂.vm := by
      have : s₂ = ({ s₂ with vm := (U.calling g mk a).vm } : State).setVm s₂.vm := rfl
      rw [e2] at this
      exact this
    obtain ⟨c₂, i₂, len₂, hc₂, hd₂, hf₂⟩ := hend
    have hW' : U.WarmedH s₂.vm := hW₂
    have hcc : c₂ = c := by
      have h1 : s₂.code? g.method = U.code? g.method := by
        rw [State.code?_eq, State.code?_eq, hW'.alike.method?]
      exact Option.some.inj (hc₂.symm.trans (h1.trans h.code))
    subst hcc
    have hlen : len₂ = len := by rw [hdg] at hd₂; cases hd₂; rfl
    subst hlen
    have hs₂ : s₂ = (({ U with heap := s₂.heap, slotsUsed := s₂.slotsUsed } : State).setVm s₂.vm).setTop { g with pc := g.pc + len₂, stack := v.toList ++ g.stack } := by
      refine e3.trans ?_
      rw [hf₂, State.calling_eq h.top, State.setFrames_setFrames, State.setTop_of_frames _ hr', hr]
      rfl
    have hsame : U.sameButNew ({ U with heap := s₂.heap, slotsUsed := s₂.slotsUsed } : State) L mc ms := by
      refine ⟨?_, q2, q3, q4, q5, q6⟩
      obtain ⟨t, ht, -⟩ := State.frames_cons hr
      show ({ U with heap := s₂.heap, slotsUsed := s₂.slotsUsed } : State) = { U.setFrames U.frames with heap := s₂.heap, slotsUsed := s₂.slotsUsed }
      rw [State.setFrames_self ht]
    subst hg
    refine Or.inl ⟨v, ⟨(({ U with heap := s₂.heap, slotsUsed := s₂.slotsUsed } : State).setVm s₂.vm), Ls ++ L, c0 + mc, s0 + ms⟩,
      ⟨X.admits, X.cas, X.clock, X.frames, X.room, X.hears, X.method, X.code, (X.here.setHeapUsed s₂.heap s₂.slotsUsed).setVm hW'.alike, X.tail, State.WarmedH.trans X.warmed hW', X.limits, X.bytes, X.same.trans (hsame.setVm s.vm)⟩,
      ⟨g, mk, s₂, L, rfl, rfl, hqc, rfl, hL, rfl, rfl⟩, ?_⟩
    show Steps p.tables e below _ ((({ U with heap := s₂.heap, slotsUsed := s₂.slotsUsed } : State).setVm s₂.vm).setTop { g with pc := g.pc + len₂, stack := v.toList ++ g.stack })
    rw [← hs₂]
    exact hsteps
  · obtain ⟨e2, q2, q3, q4, q5, q6⟩ := id hsm
    have e3 : s₂ = ({ (U.calling g mk a).setFrames s₂.frames with heap := s₂.heap, slotsUsed := s₂.slotsUsed } : State).setVm s₂.vm := by
      have : s₂ = ({ s₂ with vm := (U.calling g mk a).vm } : State).setVm s₂.vm := rfl
      rw [e2] at this
      exact this
    have hf₂ : s₂.frames = .throwing q :: .java g :: U.frames.tail := hend
    have hW' : U.WarmedH s₂.vm := hW₂
    have hs₂ : s₂ = ((({ U with heap := s₂.heap, slotsUsed := s₂.slotsUsed } : State).setVm s₂.vm).setTop g).pushFrame (.throwing q) := by
      refine e3.trans ?_
      rw [hf₂, State.calling_eq h.top, State.setFrames_setFrames, State.pushFrame, State.frames_setTop _ hr', State.setTop_of_frames _ hr', State.setFrames_setFrames, hr]
      rfl
    have hsame : U.sameButNew ({ U with heap := s₂.heap, slotsUsed := s₂.slotsUsed } : State) L mc ms := by
      refine ⟨?_, q2, q3, q4, q5, q6⟩
      obtain ⟨t, ht, -⟩ := State.frames_cons hr
      show ({ U with heap := s₂.heap, slotsUsed := s₂.slotsUsed } : State) = { U.setFrames U.frames with heap := s₂.heap, slotsUsed := s₂.slotsUsed }
      rw [State.setFrames_self ht]
    subst hg
    refine Or.inr ⟨q, ⟨(({ U with heap := s₂.heap, slotsUsed := s₂.slotsUsed } : State).setVm s₂.vm), Ls ++ L, c0 + mc, s0 + ms⟩,
      ⟨X.admits, X.cas, X.clock, X.frames, X.room, X.hears, X.method, X.code, (X.here.setHeapUsed s₂.heap s₂.slotsUsed).setVm hW'.alike, X.tail, State.WarmedH.trans X.warmed hW', X.limits, X.bytes, X.same.trans (hsame.setVm s.vm)⟩,
      ⟨g, mk, s₂, L, E, ce, rfl, rfl, hx, hce, hcv, hcl, rfl, hL, rfl, rfl⟩, ?_⟩
    show Steps p.tables e below _ (((({ U with heap := s₂.heap, slotsUsed := s₂.slotsUsed } : State).setVm s₂.vm).setTop g).pushFrame (.throwing q))
    rw [← hs₂]
    exact hsteps
end Payer
section Calls
variable {p : Program} {l : Launch} {e : Env} {R : Room} {s : State} {m : MethodId} {args : Array Value} {below : List Frame} {meth : Method} {c : Code} {T : State} {locs : List Loc} {cells slots : Nat}
theorem vx_callV (X : Stand p l e R s m args below meth c T locs cells slots) (hexec : p.tables.exec = Jvm.exec) {own C : String} {index : Nat} {y : MethodName} {bytes : ByteArray} {maxL : Nat} {ret : Option FieldType}
    (hown : s.vm.findClass own = some m.cls) (hlink : (Cond.methodLink own index y).before args s = true) (hinst : (Cond.instanceMethod y).before args s = true) (hsel : (Cond.selects C y y).before args s = true)
    (hcode : (Cond.code y bytes maxL ret).before args s = true) (hy : y.cls ≠ "java/lang/invoke/MethodHandle" ∧ y.cls ≠ "java/lang/invoke/VarHandle")
    {W9 : Nat} {Pre : Pt → Array Value → Prop} {Post : Pt → Array Value → Option Value → Pt → Prop} {PostX : Pt → Array Value → Addr → Pt → Prop} (hK : vx_Back l R p e below s args y 3 W9 Pre Post PostX)
    {b : Addr} {cellB : Cell} (hcell : T.heap[b]? = some cellB) (hobj : cellB.vm.isStatics = false) (hcls : s.vm.findClass C = some cellB.cls)
    {g : JFrame} (hg : g.method = m) (hsize : g.locals.size = c.maxLocals) {argsL rest : List Value} (hlen : ∀ sig, parseMethodDescriptor y.desc = some sig → argsL.length = sig.parameters.length)
    (hstack : g.stack = argsL.reverse ++ .ref b :: rest) (hW : 2 * g.monitorRoom + (rest.map fun v => v.category).sum ≤ W9) (hdg : decode c.code g.pc = .ok (.invokevirtual index, 3))
    (hpre : ∀ vm₁, s.WarmedH vm₁ → Pre ⟨T.setVm vm₁, locs, cells, slots⟩ (Value.ref b :: argsL).toArray) :
    (∃ (v : Option Value) (vm₁ : Vm) (B : Pt), s.WarmedH vm₁ ∧ Stand p l e R s m args below meth c B.U B.locs B.cells B.slots ∧ Post ⟨T.setVm vm₁, locs, cells, slots⟩ (Value.ref b :: argsL).toArray v B ∧
      ∀ target, Steps p.tables e below (B.U.setTop { g with pc := g.pc + 3, stack := v.toList ++ rest }) target → Steps p.tables e below (T.setTop g) target) ∨
    (∃ (q : Addr) (vm₁ : Vm) (B : Pt), s.WarmedH vm₁ ∧ Stand p l e R s m args below meth c B.U B.locs B.cells B.slots ∧ PostX ⟨T.setVm vm₁, locs, cells, slots⟩ (Value.ref b :: argsL).toArray q B ∧
      Steps p.tables e below (T.setTop g) ((B.U.setTop { g with stack := rest }).pushFrame (.throwing q))) := by
  obtain ⟨mk, methM, hnamed, hmethM, hstM, habM⟩ := Cond.instanceMethod_spec hinst
  obtain ⟨methM', cM, hmethM', -, -, -, -, -, -, hsigM⟩ := Cond.code_spec hnamed hcode
  cases hmethM.symm.trans hmethM'
  obtain ⟨c2, r2, m2, q1, q2, q3, q4, kP, hkP, hkPi⟩ := Cond.selects_spec hsel
  cases hcls.symm.trans q1
  cases (State.methodFound?_of_named hnamed hy).symm.trans q2
  cases hnamed.symm.trans q3
  have hselP : selectMethod e.platform s.vm cellB.cls mk = .method mk := by rw [Launch.admits_selectMethod X.admits]; exact q4
  obtain ⟨vm₁, X₁, hstep₁⟩ := X.invokevirtual hexec hown hlink hnamed hmethM hstM hkP hkPi hy (a := b) (cell := cellB) hcell
    (fun z h => by rw [h] at hobj; cases hobj) hselP hmethM habM hkP hkPi (g := g) hg (argsL := argsL) (rest := rest) (hlen _ hsigM) hstack hdg
  rcases hK m meth c ⟨T.setVm vm₁, locs, cells, slots⟩ { g with stack := rest } (.invokevirtual index) mk (Value.ref b :: argsL).toArray X₁ hg hsize hdg hW (X₁.named hnamed) (hpre vm₁ X₁.warmed) with ⟨v, B, X', hpost, hsteps⟩ | ⟨q, B, X', hpost, hsteps⟩
  · exact Or.inl ⟨v, vm₁, B, X₁.warmed, X', hpost, fun target h => hstep₁ _ fun acts => by rw [doInvoke_state]; exact hsteps.trans h⟩
  · exact Or.inr ⟨q, vm₁, B, X₁.warmed, X', hpost, hstep₁ _ fun acts => by rw [doInvoke_state]; exact hsteps⟩
theorem vx_callS (X : Stand p l e R s m args below meth c T locs cells slots) (hexec : p.tables.exec = Jvm.exec) {own : String} {index : Nat} {y : MethodName} {bytes : ByteArray} {maxL : Nat} {ret : Option FieldType}
    (hown : s.vm.findClass own = some m.cls) (hlink : (Cond.methodLink own index y).before args s = true) (hstat : (Cond.static y).before args s = true) (hinit : (Cond.initialized y.cls).before args s = true)
    (hcode : (Cond.code y bytes maxL ret).before args s = true) (hy : y.cls ≠ "java/lang/invoke/MethodHandle" ∧ y.cls ≠ "java/lang/invoke/VarHandle")
    {W9 : Nat} {Pre : Pt → Array Value → Prop} {Post : Pt → Array Value → Option Value → Pt → Prop} {PostX : Pt → Array Value → Addr → Pt → Prop} (hK : vx_Back l R p e below s args y 3 W9 Pre Post PostX)
    {g : JFrame} (hg : g.method = m) (hsize : g.locals.size = c.maxLocals) {argsL rest : List Value} (hlen : ∀ sig, parseMethodDescriptor y.desc = some sig → argsL.length = sig.parameters.length)
    (hstack : g.stack = argsL.reverse ++ rest) (hW : 2 * g.monitorRoom + (rest.map fun v => v.category).sum ≤ W9) (hdg : decode c.code g.pc = .ok (.invokestatic index, 3))
    (hpre : ∀ vm₁, s.WarmedH vm₁ → Pre ⟨T.setVm vm₁, locs, cells, slots⟩ argsL.toArray) :
    (∃ (v : Option Value) (vm₁ : Vm) (B : Pt), s.WarmedH vm₁ ∧ Stand p l e R s m args below meth c B.U B.locs B.cells B.slots ∧ Post ⟨T.setVm vm₁, locs, cells, slots⟩ argsL.toArray v B ∧
      ∀ target, Steps p.tables e below (B.U.setTop { g with pc := g.pc + 3, stack := v.toList ++ rest }) target → Steps p.tables e below (T.setTop g) target) ∨
    (∃ (q : Addr) (vm₁ : Vm) (B : Pt), s.WarmedH vm₁ ∧ Stand p l e R s m args below meth c B.U B.locs B.cells B.slots ∧ PostX ⟨T.setVm vm₁, locs, cells, slots⟩ argsL.toArray q B ∧
      Steps p.tables e below (T.setTop g) ((B.U.setTop { g with stack := rest }).pushFrame (.throwing q))) := by
  obtain ⟨mk, hnamed⟩ := Cond.code_named hcode
  obtain ⟨methM, cM, hmethM, -, -, -, -, -, -, hsigM⟩ := Cond.code_spec hnamed hcode
  have hstatic : methM.isStatic = true := Cond.static_spec hnamed hmethM hstat
  obtain ⟨kP, hkP, -⟩ := className_of_methodNamed hnamed
  have hinitP : kP.init = .initialized := Cond.initialized_spec (findClass_of_methodNamed hnamed) hkP hinit
  obtain ⟨vm₁, X₁, hstep₁⟩ := X.invokestatic hexec hown hlink hnamed hmethM hstatic hkP hinitP hy (g := g) hg (argsL := argsL) (rest := rest) (hlen _ hsigM) hstack hdg
  rcases hK m meth c ⟨T.setVm vm₁, locs, cells, slots⟩ { g with stack := rest } (.invokestatic index) mk argsL.toArray X₁ hg hsize hdg hW (X₁.named hnamed) (hpre vm₁ X₁.warmed) with ⟨v, B, X', hpost, hsteps⟩ | ⟨q, B, X', hpost, hsteps⟩
  · exact Or.inl ⟨v, vm₁, B, X₁.warmed, X', hpost, fun target h => hstep₁ _ fun acts => by rw [doInvoke_state]; exact hsteps.trans h⟩
  · exact Or.inr ⟨q, vm₁, B, X₁.warmed, X', hpost, hstep₁ _ fun acts => by rw [doInvoke_state]; exact hsteps⟩
end Calls
theorem vx_cls {s : State} {T : State} {vm₁ : Vm} {E : String} {k : ClassId} (hW : s.WarmedH vm₁) (h : (T.setVm vm₁).vm.findClass E = some k) : s.vm.findClass E = some k := by
  have h1 : vm₁.findClass E = some k := h
  rw [hW.alike.findClass] at h1
  exact h1
/-- the method's frame g, with q thrown over it -/
def vx_W (p : Program) (l : Launch) (e : Env) (R : Room) (s : State) (m : MethodId) (args : Array Value) (below : List Frame) (meth : Method) (c : Code) (H : Heap) (locs : List Loc) (cells slots : Nat) (Q : State → Prop) (g : JFrame) (q : Addr) : Prop :=
  ∀ T : State, T.heap = H → Stand p l e R s m args below meth c T locs cells slots → ∃ t, Steps p.tables e below ((T.setTop g).pushFrame (.throwing q)) t ∧ Q t
def vx_Run (p : Program) (l : Launch) (e : Env) (R : Room) (s : State) (m : MethodId) (args : Array Value) (below : List Frame) (meth : Method) (c : Code) (H : Heap) (locs : List Loc) (cells slots mc ms : Nat) (g : JFrame) (rest : List Value) (Qa : State → Outcome → State → Prop) (XC : String → State → State → Prop) (free : Addr → Prop) : Prop :=
  ∀ T : State, T.heap = H → Stand p l e R s m args below meth c T locs cells slots →
    (∃ (v : Option Value) (st₀ t T' : State) (L : List Loc), st₀.heap = H ∧ Stand p l e R s m args below meth c T' (locs ++ L) (cells + mc) (slots + ms) ∧ (∀ q ∈ L, free q.base) ∧ T'.heap = t.heap ∧ T'.vm = t.vm ∧ Qa st₀ (.returned v) t ∧
      Goes p e below T g T' { g with pc := g.pc + 3, stack := v.toList ++ rest }) ∨
    (∃ (q : Addr) (st₀ t T' : State) (L : List Loc) (E : String) (ce : Cell), st₀.heap = H ∧ Stand p l e R s m args below meth c T' (locs ++ L) (cells + mc) (slots + ms) ∧ (∀ z ∈ L, free z.base) ∧ T'.heap = t.heap ∧ T'.vm = t.vm ∧ XC E st₀ t ∧ t.heap[q]? = some ce ∧ ce.vm = .none ∧ s.vm.findClass E = some ce.cls ∧
      Steps p.tables e below (T.setTop g) ((T'.setTop { g with stack := rest }).pushFrame (.throwing q)))
def vx_X {S : Type} (px : S → Prop) (B : String → S → State → Prop) (A : Nat → Prop) : String → State → State → Prop := fun E st t => ∃ u : S, px u ∧ B E u t ∧ va_F A st t
section Runs
variable {p : Program} {l : Launch} {e : Env} {R : Room} {s : State} {m : MethodId} {args : Array Value} {below : List Frame} {meth : Method} {c : Code} {H : Heap} {locs : List Loc} {cells slots : Nat}
variable {y : MethodName} {bytes cc : ByteArray} {maxL nL mc ms n index : Nat} {ret : Option FieldType} {ws : List Cond} {rm : Room} {Pc : Array Value → State → Prop} {Qc : Array Value → State → Outcome → State → Prop} {XC : String → State → State → Prop} {free : Addr → Prop} {Ts : List Cond} {own C : String} {b : Addr} {As rest : List Value} {g : JFrame}
theorem vx_callBack (cb : CallB R s args own index y bytes maxL ret ws rm mc ms n) (hM : vx_Met l y ws rm Pc Qc XC mc ms free) (hbl : FrameBlind Pc) : vx_Back l R p e below s args y 3 8 (PreOf R mc ms Pc) (PostOf Qc mc ms free) (vx_Post XC mc ms free) := by
  obtain ⟨hrc, hrs, hfr, hlo, hws, hcw, -, hini, -⟩ := cb
  exact vx_back (bytes := bytes) (maxL := maxL) (ret := ret) hM hbl hrc hrs hfr hlo hws hcw (fun a' U hW => word_at hW (Or.inl (by first | rfl | simp [Cond.onTables, Cond.keeps, Cond.steady])) hini)
theorem vx_runV (S : CallFix p m c cc nL s args Ts own) (hM : vx_Met l y ws rm Pc Qc XC mc ms free) (cw : CallW R s args own C index y bytes maxL ret ws rm mc ms n) (hp : PreV s H C b Pc As)
    (hg : g.method = m) (hn : As.length = n) (hsize : g.locals.size = nL) (hstack : g.stack = As.reverse ++ .ref b :: rest) (hW : 2 * g.monitorRoom + (rest.map fun v => v.category).sum ≤ 8) (hdg : decode cc g.pc = .ok (.invokevirtual index, 3)) (hf : cells + mc ≤ R.cells ∧ slots + ms ≤ R.slots) :
    vx_Run p l e R s m args below meth c H locs cells slots mc ms g rest (Qc (Value.ref b :: As).toArray) XC free := by
  have hK : vx_Back l R p e below s args y 3 8 (PreOf R mc ms Pc) (PostOf Qc mc ms free) (vx_Post XC mc ms free) := vx_callBack cw.1 hM hp.1
  obtain ⟨⟨-, -, -, -, -, -, hcode, -, hy, hlen, hl⟩, hin, hse⟩ := cw
  obtain ⟨hx, hb, hml, ho, -⟩ := S
  obtain ⟨-, ⟨cellB, hcB, hoB, hclB⟩, hPc⟩ := hp
  intro T hT X
  rcases vx_callV X hx (C := C) (bytes := bytes) (maxL := maxL) (ret := ret) ho hl hin hse hcode hy hK (by rw [hT]; exact hcB) hoB hclB hg (hsize.trans hml.symm) (argsL := As) (rest := rest) (fun sig h => hn.trans (hlen sig h)) hstack hW (by rw [hb]; exact hdg)
    (fun vm₁ hW₁ => ⟨hf.1, hf.2, hPc (T.setVm vm₁) hT hW₁⟩) with ⟨v, vm₁, ⟨U', l2, c2, s2⟩, hW₁, X', ⟨g', mk, t, L, e1, e2, hq, h1, hL, h2, h3⟩, st⟩ | ⟨q, vm₁, ⟨U', l2, c2, s2⟩, hW₁, X', ⟨g', mk, t, L, E, ce, e1, e2, hq, hce, hcv, hcl, h1, hL, h2, h3⟩, st⟩
  · dsimp only [Pt.U, Pt.locs, Pt.cells, Pt.slots] at X' e1 e2 h1 h2 h3 st
    subst h1; subst h2; subst h3
    exact Or.inl ⟨v, (T.setVm vm₁).calling g' mk (Value.ref b :: As).toArray, t, U', L, hT, X', hL, e1, e2, hq, st⟩
  · dsimp only [Pt.U, Pt.locs, Pt.cells, Pt.slots] at X' e1 e2 h1 h2 h3 st hcl
    subst h1; subst h2; subst h3
    exact Or.inr ⟨q, (T.setVm vm₁).calling g' mk (Value.ref b :: As).toArray, t, U', L, E, ce, hT, X', hL, e1, e2, hq, hce, hcv, vx_cls hW₁ hcl, st⟩
theorem vx_runS (S : CallFix p m c cc nL s args Ts own) (hM : vx_Met l y ws rm Pc Qc XC mc ms free) (cw : CallB R s args own index y bytes maxL ret ws rm mc ms n ∧ (Cond.static y).before args s = true) (hp : PreS s H Pc As)
    (hg : g.method = m) (hn : As.length = n) (hsize : g.locals.size = nL) (hstack : g.stack = As.reverse ++ rest) (hW : 2 * g.monitorRoom + (rest.map fun v => v.category).sum ≤ 8) (hdg : decode cc g.pc = .ok (.invokestatic index, 3)) (hf : cells + mc ≤ R.cells ∧ slots + ms ≤ R.slots) :
    vx_Run p l e R s m args below meth c H locs cells slots mc ms g rest (Qc As.toArray) XC free := by
  have hK : vx_Back l R p e below s args y 3 8 (PreOf R mc ms Pc) (PostOf Qc mc ms free) (vx_Post XC mc ms free) := vx_callBack cw.1 hM hp.1
  obtain ⟨⟨-, -, -, -, -, -, hcode, hini, hy, hlen, hl⟩, hstt⟩ := cw
  obtain ⟨hx, hb, hml, ho, -⟩ := S
  intro T hT X
  rcases vx_callS X hx (bytes := bytes) (maxL := maxL) (ret := ret) ho hl hstt hini hcode hy hK hg (hsize.trans hml.symm) (argsL := As) (rest := rest) (fun sig h => hn.trans (hlen sig h)) hstack hW (by rw [hb]; exact hdg)
    (fun vm₁ hW₁ => ⟨hf.1, hf.2, hp.2 (T.setVm vm₁) hT hW₁⟩) with ⟨v, vm₁, ⟨U', l2, c2, s2⟩, hW₁, X', ⟨g', mk, t, L, e1, e2, hq, h1, hL, h2, h3⟩, st⟩ | ⟨q, vm₁, ⟨U', l2, c2, s2⟩, hW₁, X', ⟨g', mk, t, L, E, ce, e1, e2, hq, hce, hcv, hcl, h1, hL, h2, h3⟩, st⟩
  · dsimp only [Pt.U, Pt.locs, Pt.cells, Pt.slots] at X' e1 e2 h1 h2 h3 st
    subst h1; subst h2; subst h3
    exact Or.inl ⟨v, (T.setVm vm₁).calling g' mk As.toArray, t, U', L, hT, X', hL, e1, e2, hq, st⟩
  · dsimp only [Pt.U, Pt.locs, Pt.cells, Pt.slots] at X' e1 e2 h1 h2 h3 st hcl
    subst h1; subst h2; subst h3
    exact Or.inr ⟨q, (T.setVm vm₁).calling g' mk As.toArray, t, U', L, E, ce, hT, X', hL, e1, e2, hq, hce, hcv, vx_cls hW₁ hcl, st⟩
end Runs
section Rows
variable {p : Program} {l : Launch} {e : Env} {R : Room} {s : State} {m : MethodId} {args : Array Value} {below : List Frame} {meth : Method} {c : Code} {H : Heap} {locs : List Loc} {cells slots : Nat} {Q : State → Prop}
variable {mc ms : Nat} {free : Addr → Prop} {A0 A1 : Nat → Prop} {H0 : Heap} {a : Array Value} {pc : Nat} {ls : Array Slot} {st0 rest : List Value}
theorem vx_keep {st₀ t T' : State} {L : List Loc} (h0 : st₀.heap = H) (e1 : T'.heap = t.heap) (hS : va_S A0 H0 H locs) (hA : ∀ q, q < H.size → A1 q → A0 q) (hf : ∀ q, free q → A0 q) (hL : ∀ q ∈ L, free q.base) (hF : va_F A1 st₀ t) :
    H.size ≤ T'.heap.size ∧ (∀ q : Nat, q < H.size → ¬ A1 q → T'.heap[q]? = H[q]?) ∧ va_S A0 H0 T'.heap (locs ++ L) := by
  obtain ⟨hz, hk⟩ := hF
  rw [h0] at hz hk
  exact ⟨by rw [e1]; exact hz, fun q h1 h2 => by rw [e1]; exact hk q h1 h2,
    ⟨Nat.le_trans hS.1 (by rw [e1]; exact hz), fun q h1 h2 => by rw [e1, hk q (Nat.lt_of_lt_of_le h1 hS.1) (fun z => h2 (hA q (Nat.lt_of_lt_of_le h1 hS.1) z))]; exact hS.2.1 q h1 h2, fun q hq => by
      rcases List.mem_append.mp hq with h | h
      · exact hS.2.2 q h
      · exact hf _ (hL q h)⟩⟩
theorem vx_calli {S SX : Type} {post : Int32 → S → Prop} {px : SX → Prop} {B : S → State → Prop} {BX : String → SX → State → Prop} {AX : Nat → Prop} (hr : vx_Run p l e R s m args below meth c H locs cells slots mc ms (F0 m pc ls st0) rest (va_Qi post B A1 a) (vx_X px BX AX) free) (hS : va_S A0 H0 H locs) (hA : ∀ q, q < H.size → A1 q → A0 q) (hf : ∀ q, free q → A0 q) (hAX : ∀ q, q < H.size → AX q → A0 q)
    (kx : ∀ (E : String) (ce : Cell) (q9 : Addr) (u : SX) (t : State) (H1 : Heap) (locs1 : List Loc), t.heap = H1 → s.vm.Alike t.vm → px u → BX E u t → H.size ≤ H1.size → (∀ q : Nat, q < H.size → ¬ AX q → H1[q]? = H[q]?) → va_S A0 H0 H1 locs1 → H1[q9]? = some ce → ce.vm = .none → s.vm.findClass E = some ce.cls → vx_W p l e R s m args below meth c H1 locs1 (cells + mc) (slots + ms) Q (F0 m pc ls rest) q9)
    (kk : ∀ (r : Int32) (u : S) (t : State) (H1 : Heap) (locs1 : List Loc), t.heap = H1 → s.vm.Alike t.vm → post r u → B u t → H.size ≤ H1.size → (∀ q : Nat, q < H.size → ¬ A1 q → H1[q]? = H[q]?) → va_S A0 H0 H1 locs1 → W p l e R s m args below meth c H1 locs1 (cells + mc) (slots + ms) Q (F0 m (pc + 3) ls (.int r :: rest))) : W p l e R s m args below meth c H locs cells slots Q (F0 m pc ls st0) := by
  intro T hT X
  rcases hr T hT X with ⟨v, st₀, t, T', L, h0, X', hL, e1, e2, ⟨⟨r, u, hv, hp, hb⟩, hF⟩, st⟩ | ⟨q, st₀, t, T', L, E, ce, h0, X', hL, e1, e2, ⟨u, hp, hb, hF⟩, hce, hcv, hcl, st⟩
  · cases hv
    obtain ⟨k1, k2, k3⟩ := vx_keep h0 e1 hS hA hf hL hF
    obtain ⟨t2, a1, b1⟩ := kk r u t T'.heap (locs ++ L) e1.symm (by rw [← e2]; exact X'.warmed.alike) hp hb k1 k2 k3 T' rfl X'
    exact ⟨t2, st t2 a1, b1⟩
  · obtain ⟨k1, k2, k3⟩ := vx_keep h0 e1 hS hAX hf hL hF
    obtain ⟨t2, a1, b1⟩ := kx E ce q u t T'.heap (locs ++ L) e1.symm (by rw [← e2]; exact X'.warmed.alike) hp hb k1 k2 k3 (by rw [e1]; exact hce) hcv hcl T' rfl X'
    exact ⟨t2, st.trans a1, b1⟩
theorem vx_calll {S SX : Type} {post : Int64 → S → Prop} {px : SX → Prop} {B : S → State → Prop} {BX : String → SX → State → Prop} {AX : Nat → Prop} (hr : vx_Run p l e R s m args below meth c H locs cells slots mc ms (F0 m pc ls st0) rest (va_Ql post B A1 a) (vx_X px BX AX) free) (hS : va_S A0 H0 H locs) (hA : ∀ q, q < H.size → A1 q → A0 q) (hf : ∀ q, free q → A0 q) (hAX : ∀ q, q < H.size → AX q → A0 q)
    (kx : ∀ (E : String) (ce : Cell) (q9 : Addr) (u : SX) (t : State) (H1 : Heap) (locs1 : List Loc), t.heap = H1 → s.vm.Alike t.vm → px u → BX E u t → H.size ≤ H1.size → (∀ q : Nat, q < H.size → ¬ AX q → H1[q]? = H[q]?) → va_S A0 H0 H1 locs1 → H1[q9]? = some ce → ce.vm = .none → s.vm.findClass E = some ce.cls → vx_W p l e R s m args below meth c H1 locs1 (cells + mc) (slots + ms) Q (F0 m pc ls rest) q9)
    (kk : ∀ (r : Int64) (u : S) (t : State) (H1 : Heap) (locs1 : List Loc), t.heap = H1 → s.vm.Alike t.vm → post r u → B u t → H.size ≤ H1.size → (∀ q : Nat, q < H.size → ¬ A1 q → H1[q]? = H[q]?) → va_S A0 H0 H1 locs1 → W p l e R s m args below meth c H1 locs1 (cells + mc) (slots + ms) Q (F0 m (pc + 3) ls (.long r :: rest))) : W p l e R s m args below meth c H locs cells slots Q (F0 m pc ls st0) := by
  intro T hT X
  rcases hr T hT X with ⟨v, st₀, t, T', L, h0, X', hL, e1, e2, ⟨⟨r, u, hv, hp, hb⟩, hF⟩, st⟩ | ⟨q, st₀, t, T', L, E, ce, h0, X', hL, e1, e2, ⟨u, hp, hb, hF⟩, hce, hcv, hcl, st⟩
  · cases hv
    obtain ⟨k1, k2, k3⟩ := vx_keep h0 e1 hS hA hf hL hF
    obtain ⟨t2, a1, b1⟩ := kk r u t T'.heap (locs ++ L) e1.symm (by rw [← e2]; exact X'.warmed.alike) hp hb k1 k2 k3 T' rfl X'
    exact ⟨t2, st t2 a1, b1⟩
  · obtain ⟨k1, k2, k3⟩ := vx_keep h0 e1 hS hAX hf hL hF
    obtain ⟨t2, a1, b1⟩ := kx E ce q u t T'.heap (locs ++ L) e1.symm (by rw [← e2]; exact X'.warmed.alike) hp hb k1 k2 k3 (by rw [e1]; exact hce) hcv hcl T' rfl X'
    exact ⟨t2, st.trans a1, b1⟩
theorem vx_callf {S SX : Type} {post : UInt32 → S → Prop} {px : SX → Prop} {B : S → State → Prop} {BX : String → SX → State → Prop} {AX : Nat → Prop} (hr : vx_Run p l e R s m args below meth c H locs cells slots mc ms (F0 m pc ls st0) rest (va_Qf post B A1 a) (vx_X px BX AX) free) (hS : va_S A0 H0 H locs) (hA : ∀ q, q < H.size → A1 q → A0 q) (hf : ∀ q, free q → A0 q) (hAX : ∀ q, q < H.size → AX q → A0 q)
    (kx : ∀ (E : String) (ce : Cell) (q9 : Addr) (u : SX) (t : State) (H1 : Heap) (locs1 : List Loc), t.heap = H1 → s.vm.Alike t.vm → px u → BX E u t → H.size ≤ H1.size → (∀ q : Nat, q < H.size → ¬ AX q → H1[q]? = H[q]?) → va_S A0 H0 H1 locs1 → H1[q9]? = some ce → ce.vm = .none → s.vm.findClass E = some ce.cls → vx_W p l e R s m args below meth c H1 locs1 (cells + mc) (slots + ms) Q (F0 m pc ls rest) q9)
    (kk : ∀ (r : UInt32) (u : S) (t : State) (H1 : Heap) (locs1 : List Loc), t.heap = H1 → s.vm.Alike t.vm → post r u → B u t → H.size ≤ H1.size → (∀ q : Nat, q < H.size → ¬ A1 q → H1[q]? = H[q]?) → va_S A0 H0 H1 locs1 → W p l e R s m args below meth c H1 locs1 (cells + mc) (slots + ms) Q (F0 m (pc + 3) ls (.float r :: rest))) : W p l e R s m args below meth c H locs cells slots Q (F0 m pc ls st0) := by
  intro T hT X
  rcases hr T hT X with ⟨v, st₀, t, T', L, h0, X', hL, e1, e2, ⟨⟨r, u, hv, hp, hb⟩, hF⟩, st⟩ | ⟨q, st₀, t, T', L, E, ce, h0, X', hL, e1, e2, ⟨u, hp, hb, hF⟩, hce, hcv, hcl, st⟩
  · cases hv
    obtain ⟨k1, k2, k3⟩ := vx_keep h0 e1 hS hA hf hL hF
    obtain ⟨t2, a1, b1⟩ := kk r u t T'.heap (locs ++ L) e1.symm (by rw [← e2]; exact X'.warmed.alike) hp hb k1 k2 k3 T' rfl X'
    exact ⟨t2, st t2 a1, b1⟩
  · obtain ⟨k1, k2, k3⟩ := vx_keep h0 e1 hS hAX hf hL hF
    obtain ⟨t2, a1, b1⟩ := kx E ce q u t T'.heap (locs ++ L) e1.symm (by rw [← e2]; exact X'.warmed.alike) hp hb k1 k2 k3 (by rw [e1]; exact hce) hcv hcl T' rfl X'
    exact ⟨t2, st.trans a1, b1⟩
theorem vx_calld {S SX : Type} {post : UInt64 → S → Prop} {px : SX → Prop} {B : S → State → Prop} {BX : String → SX → State → Prop} {AX : Nat → Prop} (hr : vx_Run p l e R s m args below meth c H locs cells slots mc ms (F0 m pc ls st0) rest (va_Qd post B A1 a) (vx_X px BX AX) free) (hS : va_S A0 H0 H locs) (hA : ∀ q, q < H.size → A1 q → A0 q) (hf : ∀ q, free q → A0 q) (hAX : ∀ q, q < H.size → AX q → A0 q)
    (kx : ∀ (E : String) (ce : Cell) (q9 : Addr) (u : SX) (t : State) (H1 : Heap) (locs1 : List Loc), t.heap = H1 → s.vm.Alike t.vm → px u → BX E u t → H.size ≤ H1.size → (∀ q : Nat, q < H.size → ¬ AX q → H1[q]? = H[q]?) → va_S A0 H0 H1 locs1 → H1[q9]? = some ce → ce.vm = .none → s.vm.findClass E = some ce.cls → vx_W p l e R s m args below meth c H1 locs1 (cells + mc) (slots + ms) Q (F0 m pc ls rest) q9)
    (kk : ∀ (r : UInt64) (u : S) (t : State) (H1 : Heap) (locs1 : List Loc), t.heap = H1 → s.vm.Alike t.vm → post r u → B u t → H.size ≤ H1.size → (∀ q : Nat, q < H.size → ¬ A1 q → H1[q]? = H[q]?) → va_S A0 H0 H1 locs1 → W p l e R s m args below meth c H1 locs1 (cells + mc) (slots + ms) Q (F0 m (pc + 3) ls (.double r :: rest))) : W p l e R s m args below meth c H locs cells slots Q (F0 m pc ls st0) := by
  intro T hT X
  rcases hr T hT X with ⟨v, st₀, t, T', L, h0, X', hL, e1, e2, ⟨⟨r, u, hv, hp, hb⟩, hF⟩, st⟩ | ⟨q, st₀, t, T', L, E, ce, h0, X', hL, e1, e2, ⟨u, hp, hb, hF⟩, hce, hcv, hcl, st⟩
  · cases hv
    obtain ⟨k1, k2, k3⟩ := vx_keep h0 e1 hS hA hf hL hF
    obtain ⟨t2, a1, b1⟩ := kk r u t T'.heap (locs ++ L) e1.symm (by rw [← e2]; exact X'.warmed.alike) hp hb k1 k2 k3 T' rfl X'
    exact ⟨t2, st t2 a1, b1⟩
  · obtain ⟨k1, k2, k3⟩ := vx_keep h0 e1 hS hAX hf hL hF
    obtain ⟨t2, a1, b1⟩ := kx E ce q u t T'.heap (locs ++ L) e1.symm (by rw [← e2]; exact X'.warmed.alike) hp hb k1 k2 k3 (by rw [e1]; exact hce) hcv hcl T' rfl X'
    exact ⟨t2, st.trans a1, b1⟩
theorem vx_callv {S SX : Type} {post : S → Prop} {px : SX → Prop} {B : S → State → Prop} {BX : String → SX → State → Prop} {AX : Nat → Prop} (hr : vx_Run p l e R s m args below meth c H locs cells slots mc ms (F0 m pc ls st0) rest (va_Qv post B A1 a) (vx_X px BX AX) free) (hS : va_S A0 H0 H locs) (hA : ∀ q, q < H.size → A1 q → A0 q) (hf : ∀ q, free q → A0 q) (hAX : ∀ q, q < H.size → AX q → A0 q)
    (kx : ∀ (E : String) (ce : Cell) (q9 : Addr) (u : SX) (t : State) (H1 : Heap) (locs1 : List Loc), t.heap = H1 → s.vm.Alike t.vm → px u → BX E u t → H.size ≤ H1.size → (∀ q : Nat, q < H.size → ¬ AX q → H1[q]? = H[q]?) → va_S A0 H0 H1 locs1 → H1[q9]? = some ce → ce.vm = .none → s.vm.findClass E = some ce.cls → vx_W p l e R s m args below meth c H1 locs1 (cells + mc) (slots + ms) Q (F0 m pc ls rest) q9)
    (kk : ∀ (u : S) (t : State) (H1 : Heap) (locs1 : List Loc), t.heap = H1 → s.vm.Alike t.vm → post u → B u t → H.size ≤ H1.size → (∀ q : Nat, q < H.size → ¬ A1 q → H1[q]? = H[q]?) → va_S A0 H0 H1 locs1 → W p l e R s m args below meth c H1 locs1 (cells + mc) (slots + ms) Q (F0 m (pc + 3) ls (rest))) : W p l e R s m args below meth c H locs cells slots Q (F0 m pc ls st0) := by
  intro T hT X
  rcases hr T hT X with ⟨v, st₀, t, T', L, h0, X', hL, e1, e2, ⟨⟨u, hv, hp, hb⟩, hF⟩, st⟩ | ⟨q, st₀, t, T', L, E, ce, h0, X', hL, e1, e2, ⟨u, hp, hb, hF⟩, hce, hcv, hcl, st⟩
  · cases hv
    obtain ⟨k1, k2, k3⟩ := vx_keep h0 e1 hS hA hf hL hF
    obtain ⟨t2, a1, b1⟩ := kk u t T'.heap (locs ++ L) e1.symm (by rw [← e2]; exact X'.warmed.alike) hp hb k1 k2 k3 T' rfl X'
    exact ⟨t2, st t2 a1, b1⟩
  · obtain ⟨k1, k2, k3⟩ := vx_keep h0 e1 hS hAX hf hL hF
    obtain ⟨t2, a1, b1⟩ := kx E ce q u t T'.heap (locs ++ L) e1.symm (by rw [← e2]; exact X'.warmed.alike) hp hb k1 k2 k3 (by rw [e1]; exact hce) hcv hcl T' rfl X'
    exact ⟨t2, st.trans a1, b1⟩
/-- caught by the row x of this method's table; the rows ahead don't take it -/
theorem vx_catch {own name : String} {E : String} {ce : Cell} {q : Addr} (hown : s.vm.findClass own = some m.cls) (pre : List ExceptionTableEntry) (x : ExceptionTableEntry) (suf : List ExceptionTableEntry) (hsplit : c.exceptionTable.toList = pre ++ x :: suf)
    (hpass : ∀ z ∈ pre, covers z pc = false ∨ (z.catchType ≠ 0 ∧ ∃ nm : String, (Cond.classLink own z.catchType nm).before args s = true ∧ va_Nc E nm s)) (hx : covers x pc = true) (h0 : x.catchType ≠ 0)
    (hlink : (Cond.classLink own x.catchType name).before args s = true) (hcast : (Cond.castable E name).before args s = true) (hcell : H[q]? = some ce) (hv : ce.vm = .none) (hcl : s.vm.findClass E = some ce.cls)
    (kk : W p l e R s m args below meth c H locs cells slots Q (F0 m x.handlerPc ls [.ref q])) : vx_W p l e R s m args below meth c H locs cells slots Q (F0 m pc ls rest) q := by
  intro T hT X
  have hpl : e.platform.magicAccessors = ({} : Platform).magicAccessors := by rw [X.admits.platform]
  obtain ⟨c3, c4, hc3, hc4, hasg⟩ := Cond.castable_spec hcast
  cases Option.some.inj (hc3.symm.trans hcl)
  obtain ⟨c5, hc5, hcl5⟩ := Cond.classLink_spec hown hlink e.platform hpl
  cases Option.some.inj (hc4.symm.trans hc5)
  obtain ⟨vm', X', st⟩ := X.thenCaughtThrough q (g := F0 m pc ls rest) rfl (Steps.refl _) (by rw [hT]; exact hcell) (by rw [hv]; rfl) (by obtain ⟨k9, h9, -⟩ := Vm.findClass_spec hcl; exact ⟨k9, h9⟩) pre x suf hsplit
    (fun z hz => by
      rcases hpass z hz with h | ⟨hz0, nm, hl1, hn1⟩
      · exact Or.inl h
      · obtain ⟨c6, hc6, hcl6⟩ := Cond.classLink_spec hown hl1 e.platform hpl
        obtain ⟨a8, b8, h1, h2, h3⟩ := hn1
        cases Option.some.inj (h1.symm.trans hcl)
        cases Option.some.inj (h2.symm.trans hc6)
        exact Or.inr ⟨hz0, _, hcl6, h3⟩) hx (Or.inr ⟨h0, c4, hcl5, hasg⟩)
  obtain ⟨t, a1, b1⟩ := kk (T.setVm vm') hT X'
  exact ⟨t, st.trans a1, b1⟩
end Rows
section Ends
variable {p : Program} {l : Launch} {e : Env} {R : Room} {s : State} {m : MethodId} {args : Array Value} {below : List Frame} {meth : Method} {c : Code} {H : Heap} {locs : List Loc} {cells slots : Nat} {Q : State → Prop}
variable {mc ms : Nat} {free : Addr → Prop} {A0 A1 : Nat → Prop} {H0 : Heap} {a : Array Value} {ls : Array Slot} {st0 rest : List Value}
variable {Qc : Array Value → State → Outcome → State → Prop} {XC : String → State → State → Prop}
/-- what a body that may throw owes at its end -/
def vx_MQ (below : List Frame) (Qc : Array Value → State → Outcome → State → Prop) (XC : String → State → State → Prop) (a : Array Value) (s : State) (mc ms : Nat) (free : Addr → Prop) : State → Prop := fun t =>
  ∃ o, t.status = .running ∧ Ended t below o ∧ vx_Q Qc XC mc ms free a s o t
theorem vx_ret {g : JFrame} {mc ms : Nat} (k : W p l e R s m args below meth c H locs cells slots (MQ below Qc args s mc ms free) g) : W p l e R s m args below meth c H locs cells slots (vx_MQ below Qc XC args s mc ms free) g := by
  intro T hT X
  obtain ⟨t, a1, o, b1, b2, b3, b4⟩ := k T hT X
  exact ⟨t, a1, o, b1, b2, Or.inl ⟨b3, b4⟩⟩
/-- not caught here: it goes on to the caller -/
theorem vx_widen {g : JFrame} {q : Addr} {k n : Nat} (h1 : cells ≤ k) (h2 : slots ≤ n) (kk : vx_W p l e R s m args below meth c H locs k n Q g q) : vx_W p l e R s m args below meth c H locs cells slots Q g q := fun T hT X => kk T hT (stand_widen X h1 h2)
theorem vx_out {pc : Nat} {E : String} {ce : Cell} {q : Addr} {mc ms : Nat} (hout : ∀ x ∈ c.exceptionTable.toList, covers x pc = false) (hlocks : meth.locks = false) (hcell : H[q]? = some ce) (hv : ce.vm = .none) (hcl : s.vm.findClass E = some ce.cls)
    (hx : ∀ t : State, t.heap = H → s.vm.Alike t.vm → XC E s t) (hf : ∀ z ∈ locs, free z.base) (hc : cells ≤ mc) (hs : slots ≤ ms) :
    vx_W p l e R s m args below meth c H locs cells slots (vx_MQ below Qc XC args s mc ms free) (F0 m pc ls rest) q := by
  intro T hT X
  obtain ⟨st1, hrun, hend, hW, hsm⟩ := X.leaveThrown q (g := F0 m pc ls rest) rfl rfl rfl hout hlocks
  have hcell9 : (T.setFrames (.throwing q :: below)).heap[q]? = some ce := by
    show T.heap[q]? = some ce
    rw [hT]; exact hcell
  exact ⟨_, st1, .threw q, hrun, hend, Or.inr ⟨q, rfl, E, ce, locs, hx _ hT hW.alike, hcell9, hv, hcl, hW, hsm.mono hc hs, hf⟩⟩
theorem vx_frame {U : State} {k n : Nat} (h : s.sameButNew ({ U with vm := s.vm } : State) locs k n) : s.heap.size ≤ U.heap.size ∧ ∀ q : Nat, q < s.heap.size → (∀ z ∈ locs, z.base ≠ q) → U.heap[q]? = s.heap[q]? := by
  obtain ⟨-, h2, -, -, -, h6⟩ := h
  refine ⟨h2, fun q hq hz => ?_⟩
  obtain ⟨c9, e1, e2, e3, e4⟩ := h6 q _ (Array.getElem?_eq_getElem hq)
  have hs : c9.slots = (s.heap[q]).slots := Array.ext_getElem? fun i => e4 i fun hm => hz _ hm rfl
  have h9 : c9 = s.heap[q] := by
    rw [hs] at e2
    exact e2
  have e5 : U.heap[q]? = some c9 := e1
  rw [e5, h9, Array.getElem?_eq_getElem hq]
/-- the words of a throw but the four that speak of the heap -/
def vx_no (w : Cond) : Bool := decide (w ≠ .isRef (.static Bundle.tN "UNASSIGNED_STACK" Bundle.steD)) && decide (w ≠ .isRef (.static Bundle.tN "SUPPRESSED_SENTINEL" Bundle.listD)) && decide (w ≠ .laysStatic Bundle.tN "UNASSIGNED_STACK" Bundle.steD) && decide (w ≠ .laysStatic Bundle.tN "SUPPRESSED_SENTINEL" Bundle.listD)
def vx_at0 (own : String) (ic : Nat) (X : String) (names : List String) : List Cond := (Bundle.ownAtoms0 own ic X names).filter vx_no
def vx_atS (own : String) (ic : Nat) (X : String) (names : List String) : List Cond := (Bundle.ownAtoms own ic X names).filter vx_no
/-- a word that the tables alone decide, or a good one -/
def vx_ot (w : Cond) : Bool := w.onTables || goodWord w
theorem vx_ot_at {args a' : Array Value} {s U : State} {w : Cond} (hW : s.WarmedH U.vm) (hvm : s.vm = U.vm) (hg : vx_ot w = true) (h : w.before args s = true) : w.before a' U = true := by
  simp only [vx_ot, Bool.or_eq_true] at hg
  rcases hg with hg | hg
  · exact va_tabs hg hvm h
  · exact word_at hW (good_of_word hg) h
/-- a list's words: the good ones out of the method's own list, the others by premises of their own -/
theorem vx_hat {args : Array Value} {s : State} {L B : List Cond} (h1 : ∀ w ∈ L.filter goodWord, w.before args s = true) (h2 : ∀ w ∈ L.filter (fun w => !goodWord w), w ∈ B) (h3 : ∀ w ∈ B, w.before args s = true) : ∀ w ∈ L, w.before args s = true := by
  intro w hw
  by_cases g : goodWord w = true
  · exact h1 w (List.mem_filter.mpr ⟨hw, g⟩)
  · refine h3 w (h2 w (List.mem_filter.mpr ⟨hw, ?_⟩))
    show (!goodWord w) = true
    cases hgw : goodWord w
    · rfl
    · exact absurd hgw g
theorem vx_c {args : Array Value} {s : State} {w : Cond} {B : List Cond} (h : w.before args s = true) (t : ∀ w ∈ B, w.before args s = true) : ∀ w' ∈ w :: B, w'.before args s = true := fun w' h' => (List.mem_cons.mp h').elim (fun e => by rw [e]; exact h) (t w')
theorem vx_n {args : Array Value} {s : State} : ∀ w ∈ ([] : List Cond), w.before args s = true := fun _ h => nomatch h
theorem vx_own {args : Array Value} {s : State} {L : List Cond} (h1 : ∀ w ∈ L.filter vx_no, w.before args s = true)
    (hU : (Cond.isRef (.static Bundle.tN "UNASSIGNED_STACK" Bundle.steD)).before args s = true) (hN : (Cond.isRef (.static Bundle.tN "SUPPRESSED_SENTINEL" Bundle.listD)).before args s = true)
    (lU : (Cond.laysStatic Bundle.tN "UNASSIGNED_STACK" Bundle.steD).before args s = true) (lN : (Cond.laysStatic Bundle.tN "SUPPRESSED_SENTINEL" Bundle.listD).before args s = true) : ∀ w ∈ L, w.before args s = true := by
  intro w hw
  by_cases e1 : w = .isRef (.static Bundle.tN "UNASSIGNED_STACK" Bundle.steD)
  · rw [e1]; exact hU
  · by_cases e2 : w = .isRef (.static Bundle.tN "SUPPRESSED_SENTINEL" Bundle.listD)
    · rw [e2]; exact hN
    · by_cases e3 : w = .laysStatic Bundle.tN "UNASSIGNED_STACK" Bundle.steD
      · rw [e3]; exact lU
      · by_cases e4 : w = .laysStatic Bundle.tN "SUPPRESSED_SENTINEL" Bundle.listD
        · rw [e4]; exact lN
        · exact h1 w (List.mem_filter.mpr ⟨hw, by unfold vx_no; rw [decide_eq_true e1, decide_eq_true e2, decide_eq_true e3, decide_eq_true e4]; rfl⟩)
/-- where a static field lies, its class's statics cell in H -/
def vx_L (C n d : String) (A : Nat → Prop) (U : State) (H : Heap) : Prop := ∃ (c : ClassId) (k : Class) (i : Nat) (f : Field) (a : Nat) (cell : Cell), U.vm.findClass C = some c ∧ U.fieldFound? C n d = some (c, k, i, f) ∧ f.isStatic = true ∧ k.statics = some a ∧ H[a]? = some cell ∧ cell.vm.isStatics = true ∧ cell.cls = c ∧ f.slot < cell.slots.size ∧ k.staticTypes[f.slot]? = some f.type ∧ ¬ A a
theorem vx_L.moved {C n d : String} {A : Nat → Prop} {u U : State} {H : Heap} (hvm : u.vm.Alike U.vm) (h : vx_L C n d A u H) : vx_L C n d A U H := by
  obtain ⟨c, k, i, f, a, cell, h1, h2, h3, h4, h5, h6, h7, h8, h9, h10⟩ := h
  obtain ⟨k', hi', he⟩ := State.fieldFound?_setVm hvm h2
  exact ⟨c, k', i, f, a, cell, by rw [hvm.findClass]; exact h1, hi', h3, by rw [he]; exact h4, h5, h6, h7, h8, by rw [he]; exact h9, h10⟩
theorem vx_L.kept {C n d : String} {A : Nat → Prop} {U : State} {H H1 : Heap} (h : vx_L C n d A U H) (hq : ∀ a : Nat, a < H.size → ¬ A a → H1[a]? = H[a]?) : vx_L C n d A U H1 := by
  obtain ⟨c, k, i, f, a, cell, h1, h2, h3, h4, h5, h6, h7, h8, h9, h10⟩ := h
  exact ⟨c, k, i, f, a, cell, h1, h2, h3, h4, by rw [hq a (Array.getElem?_eq_some_iff.mp h5).1 h10]; exact h5, h6, h7, h8, h9, h10⟩
theorem vx_L.narrow {C n d : String} {A B : Nat → Prop} {U : State} {H : Heap} (h : vx_L C n d A U H) (hAB : ∀ q, B q → A q) : vx_L C n d B U H := by
  obtain ⟨c, k, i, f, a, cell, h1, h2, h3, h4, h5, h6, h7, h8, h9, h10⟩ := h
  exact ⟨c, k, i, f, a, cell, h1, h2, h3, h4, h5, h6, h7, h8, h9, fun z => h10 (hAB _ z)⟩
theorem vx_L.word {C n d : String} {A : Nat → Prop} {s : State} {args : Array Value} (h : vx_L C n d A s s.heap) : (Cond.laysStatic C n d).before args s = true := by
  obtain ⟨c, k, i, f, a, cell, h1, h2, h3, h4, h5, h6, h7, h8, h9, -⟩ := h
  show (Cond.laysStatic C n d).holds args s none s [] = true
  exact Cond.laysStatic_of h1 h2 h3 h4 h5 h6 h7 h8 h9
/-- .. and what it holds: null or some reference -/
def vx_Zq (C n d : String) (A : Nat → Prop) (U : State) (H : Heap) : Prop := va_Zq C n d A U H ∧ vx_L C n d A U H
theorem vx_Zq.moved {C n d : String} {A : Nat → Prop} {u U : State} {H : Heap} (hvm : u.vm.Alike U.vm) (h : vx_Zq C n d A u H) : vx_Zq C n d A U H := ⟨va_Zq.moved hvm h.1, vx_L.moved hvm h.2⟩
theorem vx_Zq.kept {C n d : String} {A : Nat → Prop} {U : State} {H H1 : Heap} (h : vx_Zq C n d A U H) (hq : ∀ a : Nat, a < H.size → ¬ A a → H1[a]? = H[a]?) : vx_Zq C n d A U H1 := ⟨va_Zq.kept h.1 hq, vx_L.kept h.2 hq⟩
theorem vx_Zq.narrow {C n d : String} {A B : Nat → Prop} {U : State} {H : Heap} (h : vx_Zq C n d A U H) (hAB : ∀ q, B q → A q) : vx_Zq C n d B U H := ⟨va_Zq.narrow h.1 hAB, vx_L.narrow h.2 hAB⟩
theorem vx_Zqof {args : Array Value} {s : State} {C n d : String} {A : Nat → Prop} (hl : (Cond.laysStatic C n d).before args s = true) (hini : (Cond.initialized C).before args s = true) (h : (Cond.isRef (.static C n d)).before args s = true) (hA : ∀ a : Nat, a < s.heap.size → ¬ A a) : vx_Zq C n d A s s.heap := by
  refine ⟨va_Zqof hl hini h hA, ?_⟩
  obtain ⟨c, k, i, f, a, cell, h1, h2, h3, h4, h5, h6, h7, h8, h9⟩ := Cond.laysStatic_spec hl
  exact ⟨c, k, i, f, a, cell, h1, h2, h3, h4, h5, h6, h7, h8, h9, hA a (Array.getElem?_eq_some_iff.mp h5).1⟩
theorem vx_isRef {C n d : String} {v : Value} {A : Nat → Prop} {s : State} {args : Array Value} (h : va_Z C n d v A s s.heap) (hv : v.isRef = true) : (Cond.isRef (.static C n d)).before args s = true := by
  obtain ⟨cf, kf, fi, f, a, cell, h1, h2, h3, h4, h5, h6, h7, -⟩ := h
  have he : (Term.static C n d).eval args s none [] s = some v := by
    simp [Term.eval, State.fieldNamed?, h1, h2, h4, h5, h6, h7]
  simp only [Cond.before, Cond.holds, Cond.value, he]
  cases v <;> simp_all [Value.isRef]
theorem vx_isRefq {C n d : String} {A : Nat → Prop} {s : State} {args : Array Value} (h : va_Zq C n d A s s.heap) : (Cond.isRef (.static C n d)).before args s = true := by
  rcases h with h | ⟨t, h⟩
  · exact vx_isRef h rfl
  · exact vx_isRef h rfl
/-- the same frame, seen from here: as if the method were called anew in this heap -/
theorem vx_rebase {T : State} (X : Stand p l e R s m args below meth c T locs cells slots) {R' : Room} (hf : R'.frames ≤ R.frames) (hl : R'.locals ≤ R.locals) (hc : cells + R'.cells ≤ R.cells) (hs : slots + R'.slots ≤ R.slots) :
    Stand p l e R' ((T.setVm s.vm).setFrames (.invoking m args :: below)) m args below meth c T [] 0 0 := by
  have htop : (T.setVm s.vm).topJava?.isSome := X.here.top
  have hF : ((T.setVm s.vm).setFrames (.invoking m args :: below)).frames = .invoking m args :: below := State.frames_setFrames _ (State.cur_lt_of_top htop)
  obtain ⟨g₀, hg0⟩ := Option.isSome_iff_exists.mp htop
  obtain ⟨r, hr⟩ := State.topJava?_eq_some.mp hg0
  have hl9 : e.platform.stackLimits (T.setVm s.vm).me = e.platform.stackLimits s.me := X.limits
  have hb9 : (T.setVm s.vm).me.stackBytes = s.me.stackBytes := X.bytes
  refine ⟨X.admits, X.cas, X.clock, hF, ?_, X.hears, X.method, X.code, X.here, X.tail, X.warmed, ?_, ?_, ?_⟩
  · have h := X.room
    have hU : ((T.setVm s.vm).setFrames (.invoking m args :: below)).localsInUse = s.localsInUse := by
      rw [State.localsInUse_invoking hF (meth := meth) (c := c) X.method X.code, State.localsInUse_invoking X.frames X.method X.code]
    simp only [State.hasRoom, Bool.and_eq_true, decide_eq_true_eq] at h ⊢
    obtain ⟨⟨⟨⟨h1, h2, h3, h4, h5, h6⟩, h7⟩, h8⟩, h9⟩ := h
    rw [X.frames, List.length_cons] at h2 h3
    have q1 := X.heapSize
    have q2 := X.used
    simp only [hF, hU, List.length_cons, State.stackLimits_setFrames, State.stackBytes_setFrames, hl9, hb9]
    refine ⟨⟨⟨⟨by omega, by omega, by omega, by omega, by omega, h6⟩, ?_⟩, ?_⟩, X.book⟩
    · show T.heap.size + R'.cells ≤ e.platform.maxCells
      omega
    · show T.slotsUsed + R'.slots ≤ e.platform.maxSlots
      omega
  · rw [State.stackLimits_setFrames]; rfl
  · rw [State.stackBytes_setFrames]; rfl
  · refine ⟨?_, Nat.le_refl _, Nat.le_refl _, ?_, ?_, fun a c9 h9 => ⟨c9, h9, rfl, rfl, fun _ _ => rfl⟩⟩
    · obtain ⟨t, ht, -⟩ := State.frames_cons hr
      show T.setVm s.vm = { ((T.setVm s.vm).setFrames (.invoking m args :: below)).setFrames (T.setVm s.vm).frames with heap := T.heap, slotsUsed := T.slotsUsed }
      rw [State.setFrames_setFrames, State.setFrames_self ht]
      rfl
    · show T.slotsUsed = T.slotsUsed + ((T.heap.toList.drop T.heap.size).map (·.slots.size)).sum
      rw [List.drop_eq_nil_of_le (Nat.le_of_eq Array.length_toList)]
      rfl
    · show ((T.heap.toList.drop T.heap.size).map (·.slots.size)).sum ≤ 0
      rw [List.drop_eq_nil_of_le (Nat.le_of_eq Array.length_toList)]
      exact Nat.le_refl _
/-- 'throw new E()': new; dup; invokespecial; athrow -/
theorem vx_throw0 {cc : ByteArray} {pc : Nat} (hexec : p.tables.exec = Jvm.exec) (hb : c.code = cc) (hl : l.stackTraces = false) {own cls : String} {names : List String} {ik ic mc ms : Nat} {A : Nat → Prop}
    (hown : s.vm.findClass own = some m.cls) (hcls : Bundle.fit cls = true) (hnames : ∀ n ∈ names, Bundle.fit n = true)
    (hk : (Cond.classLink own ik cls).before args s = true) (hini : (Cond.initialized cls).before args s = true) (hat : ∀ w ∈ vx_at0 own ic cls names, w.before args s = true)
    (hgood : ∀ w ∈ Cond.classLink own ik cls :: Cond.initialized cls :: vx_at0 own ic cls names, vx_ot w = true)
    (hU : vx_Zq Bundle.tN "UNASSIGNED_STACK" Bundle.steD A s s.heap) (hN : vx_Zq Bundle.tN "SUPPRESSED_SENTINEL" Bundle.listD A s s.heap) (hS : va_S A s.heap H locs) (hsize : ls.size = c.maxLocals)
    (d0 : decode cc pc = .ok (.new ik, 3)) (d3 : decode cc (pc + 3) = .ok (.dup, 1)) (d4 : decode cc (pc + 4) = .ok (.invokespecial ic, 3)) (d7 : decode cc (pc + 7) = .ok (.athrow, 1))
    (hout : ∀ x ∈ c.exceptionTable.toList, covers x (pc + 7) = false)
    (hRframes : names.length + 3 < R.frames) (hRlocals : (rest.map fun v => v.category).sum + (13 * (names.length + 1) + 42) ≤ R.locals) (hRcells : cells + 1 ≤ R.cells) (hRslots : slots + 6 ≤ R.slots) (hlocks : meth.locks = false)
    (hx : ∀ t : State, s.vm.Alike t.vm → H.size ≤ t.heap.size → (∀ q : Nat, q < H.size → t.heap[q]? = H[q]?) → XC cls s t)
    (hf : ∀ z ∈ locs, free z.base) (hc : cells + 1 ≤ mc) (hs : slots + 6 ≤ ms) :
    W p l e R s m args below meth c H locs cells slots (vx_MQ below Qc XC args s mc ms free) (F0 m pc ls rest) := by
  intro T hT X
  have htr : e.platform.stackTraces = false := (show e.platform.stackTraces = l.stackTraces by rw [X.admits.platform]).trans hl
  have Y := vx_rebase X (R' := { frames := R.frames, locals := R.locals, cells := 1, slots := 6 }) (Nat.le_refl _) (Nat.le_refl _) hRcells hRslots
  obtain ⟨s', hA⟩ : ∃ z, z = (T.setVm s.vm).setFrames (.invoking m args :: below) := ⟨_, rfl⟩
  rw [← hA] at Y
  have hvm : s'.vm = s.vm := by rw [hA]; rfl
  have hhp : s'.heap = H := by rw [hA]; exact hT
  have hW0 : s.WarmedH s'.vm := by rw [hvm]; exact State.WarmedH.refl s
  have hat' : ∀ w ∈ vx_at0 own ic cls names, w.before args s' = true := fun w hw => vx_ot_at hW0 hvm.symm (hgood w (List.mem_cons_of_mem _ (List.mem_cons_of_mem _ hw))) (hat w hw)
  have hk' : (Cond.classLink own ik cls).before args s' = true := vx_ot_at hW0 hvm.symm (hgood _ List.mem_cons_self) hk
  have hini' : (Cond.initialized cls).before args s' = true := vx_ot_at hW0 hvm.symm (hgood _ (List.mem_cons_of_mem _ List.mem_cons_self)) hini
  have hU' : vx_Zq Bundle.tN "UNASSIGNED_STACK" Bundle.steD A s' s'.heap := by rw [hhp]; exact vx_Zq.moved hW0.alike (hU.kept hS.2.1)
  have hN' : vx_Zq Bundle.tN "SUPPRESSED_SENTINEL" Bundle.listD A s' s'.heap := by rw [hhp]; exact vx_Zq.moved hW0.alike (hN.kept hS.2.1)
  have h : ∀ w ∈ Bundle.ownAtoms0 own ic cls names, w.before args s' = true := vx_own hat' (vx_isRefq hU'.1) (vx_isRefq hN'.1) hU'.2.word hN'.2.word
  have hown' : s'.vm.findClass own = some m.cls := by rw [hvm]; exact hown
  have hins : (Cond.instantiable cls 6).before args s' = true := h _ (by simp [Bundle.ownAtoms0])
  obtain ⟨vm₁, cX, kX, hfX, hkX, -, -, X₁, st1⟩ := Y.newCold hexec (own := own) (C := cls) (index := ik) (n := 6) hown' hk' hins hini'
    (g := F0 m pc ls rest) rfl (by rw [hb]; exact d0) (Nat.le_refl _) (Nat.le_refl _)
  generalize hT1 : (T.setVm vm₁).pushCell { cls := cX, slots := kX.instanceTypes.map defaultValue, vm := .none } = T1 at X₁ st1
  have hcat : (Value.ref T.heap.size).category = 1 := rfl
  have hcellA : T1.heap[T.heap.size]? = some (freshCell cX kX) := by rw [← hT1]; exact State.heap_pushCell_size _ _
  have d3' : decode c.code (pc + 3) = .ok (.dup, 1) := by rw [hb]; exact d3
  obtain ⟨U, hsteps, hrun, hend, hW, hsame, ce, hce, hO⟩ := X₁.ctorThrow0 hexec htr (own := own) (cls := cls) (names := names) (ic := ic) hown' hcls hnames h (fun x hx => nomatch hx) hfX hkX hcellA (by rw [hhp, hT]; exact Nat.le_refl _)
    (g := { method := m, pc := pc + 4, locals := ls, stack := .ref T.heap.size :: .ref T.heap.size :: rest, locked := none }) rfl hsize rfl rfl (rest := rest) rfl
    (by rw [hb]; exact d4) (by rw [hb]; exact d7) hout hRframes (by simp only [List.map_cons, List.sum_cons, hcat]; omega) hlocks
  obtain ⟨f1, f2⟩ := vx_frame hsame
  rw [hhp] at f1 f2
  have hWs : s.WarmedH U.vm := State.WarmedH.trans hW0 hW
  have hcl : s.vm.findClass cls = some ce.cls := by
    have h9 := hO.cls
    rw [hvm] at h9
    exact h9
  have hall : s.sameButNew ({ U with vm := s.vm } : State) locs mc ms := by
    subst hA
    obtain ⟨e1, e2⟩ := hsame
    rw [State.setFrames_setFrames] at e1
    have h2 : (T.setVm s.vm).sameButNew ({ U with vm := s.vm } : State) [] (0 + 1) (0 + 6) := ⟨e1, e2⟩
    have h3 := X.same.trans h2
    rw [List.append_nil] at h3
    exact h3.mono hc hs
  refine ⟨U, ?_, .threw T.heap.size, hrun, hend, Or.inr ⟨T.heap.size, rfl, cls, ce, locs, hx U hWs.alike f1 (fun q hq => f2 q hq (fun z hz => nomatch hz)), hce, hO.vm, hcl, hWs, hall, hf⟩⟩
  refine st1 _ ?_
  show Steps p.tables e below (T1.setTop { method := m, pc := pc + 3, locals := ls, stack := .ref T.heap.size :: rest, locked := none }) _
  jvm_step X₁.here [X₁.here.top, hexec, d3', Value.category]
  exact hsteps
/-- 'throw new E("text")': new; dup; ldc; invokespecial; athrow -/
theorem vx_throwS {cc : ByteArray} {pc : Nat} (hexec : p.tables.exec = Jvm.exec) (hb : c.code = cc) (hl : l.stackTraces = false) {own cls text : String} {names : List String} {ik is ic mc ms sa : Nat} {A : Nat → Prop}
    (hown : s.vm.findClass own = some m.cls) (hcls : Bundle.fit cls = true) (hnames : ∀ n ∈ names, Bundle.fit n = true)
    (hk : (Cond.classLink own ik cls).before args s = true) (hini : (Cond.initialized cls).before args s = true) (hstr : vk_R own is text sa s) (hat : ∀ w ∈ vx_atS own ic cls names, w.before args s = true)
    (hgood : ∀ w ∈ Cond.classLink own ik cls :: Cond.initialized cls :: vx_atS own ic cls names, vx_ot w = true)
    (hU : vx_Zq Bundle.tN "UNASSIGNED_STACK" Bundle.steD A s s.heap) (hN : vx_Zq Bundle.tN "SUPPRESSED_SENTINEL" Bundle.listD A s s.heap) (hS : va_S A s.heap H locs) (hsize : ls.size = c.maxLocals)
    (d0 : decode cc pc = .ok (.new ik, 3)) (d3 : decode cc (pc + 3) = .ok (.dup, 1)) (d4 : decode cc (pc + 4) = .ok (.ldc is, 2)) (d6 : decode cc (pc + 6) = .ok (.invokespecial ic, 3)) (d9 : decode cc (pc + 9) = .ok (.athrow, 1))
    (hout : ∀ x ∈ c.exceptionTable.toList, covers x (pc + 9) = false)
    (hRframes : names.length + 3 < R.frames) (hRlocals : (rest.map fun v => v.category).sum + (13 * (names.length + 1) + 43) ≤ R.locals) (hRcells : cells + 1 ≤ R.cells) (hRslots : slots + 6 ≤ R.slots) (hlocks : meth.locks = false)
    (hx : ∀ t : State, s.vm.Alike t.vm → H.size ≤ t.heap.size → (∀ q : Nat, q < H.size → t.heap[q]? = H[q]?) → XC cls s t)
    (hf : ∀ z ∈ locs, free z.base) (hc : cells + 1 ≤ mc) (hs : slots + 6 ≤ ms) :
    W p l e R s m args below meth c H locs cells slots (vx_MQ below Qc XC args s mc ms free) (F0 m pc ls rest) := by
  intro T hT X
  have htr : e.platform.stackTraces = false := (show e.platform.stackTraces = l.stackTraces by rw [X.admits.platform]).trans hl
  have Y := vx_rebase X (R' := { frames := R.frames, locals := R.locals, cells := 1, slots := 6 }) (Nat.le_refl _) (Nat.le_refl _) hRcells hRslots
  obtain ⟨s', hA⟩ : ∃ z, z = (T.setVm s.vm).setFrames (.invoking m args :: below) := ⟨_, rfl⟩
  rw [← hA] at Y
  have hvm : s'.vm = s.vm := by rw [hA]; rfl
  have hhp : s'.heap = H := by rw [hA]; exact hT
  have hW0 : s.WarmedH s'.vm := by rw [hvm]; exact State.WarmedH.refl s
  have hat' : ∀ w ∈ vx_atS own ic cls names, w.before args s' = true := fun w hw => vx_ot_at hW0 hvm.symm (hgood w (List.mem_cons_of_mem _ (List.mem_cons_of_mem _ hw))) (hat w hw)
  have hk' : (Cond.classLink own ik cls).before args s' = true := vx_ot_at hW0 hvm.symm (hgood _ List.mem_cons_self) hk
  have hini' : (Cond.initialized cls).before args s' = true := vx_ot_at hW0 hvm.symm (hgood _ (List.mem_cons_of_mem _ List.mem_cons_self)) hini
  have hU' : vx_Zq Bundle.tN "UNASSIGNED_STACK" Bundle.steD A s' s'.heap := by rw [hhp]; exact vx_Zq.moved hW0.alike (hU.kept hS.2.1)
  have hN' : vx_Zq Bundle.tN "SUPPRESSED_SENTINEL" Bundle.listD A s' s'.heap := by rw [hhp]; exact vx_Zq.moved hW0.alike (hN.kept hS.2.1)
  have h : ∀ w ∈ Bundle.ownAtoms own ic cls names, w.before args s' = true := vx_own hat' (vx_isRefq hU'.1) (vx_isRefq hN'.1) hU'.2.word hN'.2.word
  have hown' : s'.vm.findClass own = some m.cls := by rw [hvm]; exact hown
  have hins : (Cond.instantiable cls 6).before args s' = true := h _ (by simp [Bundle.ownAtoms])
  obtain ⟨vm₁, cX, kX, hfX, hkX, -, -, X₁, st1⟩ := Y.newCold hexec (own := own) (C := cls) (index := ik) (n := 6) hown' hk' hins hini'
    (g := F0 m pc ls rest) rfl (by rw [hb]; exact d0) (Nat.le_refl _) (Nat.le_refl _)
  generalize hT1 : (T.setVm vm₁).pushCell { cls := cX, slots := kX.instanceTypes.map defaultValue, vm := .none } = T1 at X₁ st1
  have hcat : (Value.ref T.heap.size).category = 1 := rfl
  have hcellA : T1.heap[T.heap.size]? = some (freshCell cX kX) := by rw [← hT1]; exact State.heap_pushCell_size _ _
  have d3' : decode c.code (pc + 3) = .ok (.dup, 1) := by rw [hb]; exact d3
  have d4' : decode c.code (pc + 4) = .ok (.ldc is, 2) := by rw [hb]; exact d4
  have hstr' : vk_R own is text sa s' := vk_R.warm hW0 hstr
  obtain ⟨U, hsteps, hrun, hend, hW, hsame, ce, hce, hO⟩ := X₁.ctorThrowS hexec htr (own := own) (cls := cls) (names := names) (ic := ic) hown' hcls hnames h (fun x hx => nomatch hx) hfX hkX hcellA (by rw [hhp, hT]; exact Nat.le_refl _) (msg := .ref sa) rfl
    (g := { method := m, pc := pc + 6, locals := ls, stack := .ref sa :: .ref T.heap.size :: .ref T.heap.size :: rest, locked := none }) rfl hsize rfl rfl (rest := rest) rfl
    (by rw [hb]; exact d6) (by rw [hb]; exact d9) hout hRframes (by simp only [List.map_cons, List.sum_cons, hcat]; omega) hlocks
  obtain ⟨f1, f2⟩ := vx_frame hsame
  rw [hhp] at f1 f2
  have hWs : s.WarmedH U.vm := State.WarmedH.trans hW0 hW
  have hcl : s.vm.findClass cls = some ce.cls := by
    have h9 := hO.cls
    rw [hvm] at h9
    exact h9
  have hall : s.sameButNew ({ U with vm := s.vm } : State) locs mc ms := by
    subst hA
    obtain ⟨e1, e2⟩ := hsame
    rw [State.setFrames_setFrames] at e1
    have h2 : (T.setVm s.vm).sameButNew ({ U with vm := s.vm } : State) [] (0 + 1) (0 + 6) := ⟨e1, e2⟩
    have h3 := X.same.trans h2
    rw [List.append_nil] at h3
    exact h3.mono hc hs
  refine ⟨U, ?_, .threw T.heap.size, hrun, hend, Or.inr ⟨T.heap.size, rfl, cls, ce, locs, hx U hWs.alike f1 (fun q hq => f2 q hq (fun z hz => nomatch hz)), hce, hO.vm, hcl, hWs, hall, hf⟩⟩
  refine st1 _ ?_
  show Steps p.tables e below (T1.setTop { method := m, pc := pc + 3, locals := ls, stack := .ref T.heap.size :: rest, locked := none }) _
  jvm_step X₁.here [X₁.here.top, hexec, d3', Value.category]
  exact X₁.ldcString hexec (own := own) (text := text) (index := is) (a := sa) hown' hstr'.1 hstr'.2
    (g := { method := m, pc := pc + 4, locals := ls, stack := .ref T.heap.size :: .ref T.heap.size :: rest, locked := none }) rfl d4' _ hsteps
/-- 'throw new E("text")', the text by a wide index -/
theorem vx_throwSW {cc : ByteArray} {pc : Nat} (hexec : p.tables.exec = Jvm.exec) (hb : c.code = cc) (hl : l.stackTraces = false) {own cls text : String} {names : List String} {ik is ic mc ms sa : Nat} {A : Nat → Prop}
    (hown : s.vm.findClass own = some m.cls) (hcls : Bundle.fit cls = true) (hnames : ∀ n ∈ names, Bundle.fit n = true)
    (hk : (Cond.classLink own ik cls).before args s = true) (hini : (Cond.initialized cls).before args s = true) (hstr : vk_R own is text sa s) (hat : ∀ w ∈ vx_atS own ic cls names, w.before args s = true)
    (hgood : ∀ w ∈ Cond.classLink own ik cls :: Cond.initialized cls :: vx_atS own ic cls names, vx_ot w = true)
    (hU : vx_Zq Bundle.tN "UNASSIGNED_STACK" Bundle.steD A s s.heap) (hN : vx_Zq Bundle.tN "SUPPRESSED_SENTINEL" Bundle.listD A s s.heap) (hS : va_S A s.heap H locs) (hsize : ls.size = c.maxLocals)
    (d0 : decode cc pc = .ok (.new ik, 3)) (d3 : decode cc (pc + 3) = .ok (.dup, 1)) (d4 : decode cc (pc + 4) = .ok (.ldc_w is, 3)) (d7 : decode cc (pc + 7) = .ok (.invokespecial ic, 3)) (d10 : decode cc (pc + 10) = .ok (.athrow, 1))
    (hout : ∀ x ∈ c.exceptionTable.toList, covers x (pc + 10) = false)
    (hRframes : names.length + 3 < R.frames) (hRlocals : (rest.map fun v => v.category).sum + (13 * (names.length + 1) + 43) ≤ R.locals) (hRcells : cells + 1 ≤ R.cells) (hRslots : slots + 6 ≤ R.slots) (hlocks : meth.locks = false)
    (hx : ∀ t : State, s.vm.Alike t.vm → H.size ≤ t.heap.size → (∀ q : Nat, q < H.size → t.heap[q]? = H[q]?) → XC cls s t)
    (hf : ∀ z ∈ locs, free z.base) (hc : cells + 1 ≤ mc) (hs : slots + 6 ≤ ms) :
    W p l e R s m args below meth c H locs cells slots (vx_MQ below Qc XC args s mc ms free) (F0 m pc ls rest) := by
  intro T hT X
  have htr : e.platform.stackTraces = false := (show e.platform.stackTraces = l.stackTraces by rw [X.admits.platform]).trans hl
  have Y := vx_rebase X (R' := { frames := R.frames, locals := R.locals, cells := 1, slots := 6 }) (Nat.le_refl _) (Nat.le_refl _) hRcells hRslots
  obtain ⟨s', hA⟩ : ∃ z, z = (T.setVm s.vm).setFrames (.invoking m args :: below) := ⟨_, rfl⟩
  rw [← hA] at Y
  have hvm : s'.vm = s.vm := by rw [hA]; rfl
  have hhp : s'.heap = H := by rw [hA]; exact hT
  have hW0 : s.WarmedH s'.vm := by rw [hvm]; exact State.WarmedH.refl s
  have hat' : ∀ w ∈ vx_atS own ic cls names, w.before args s' = true := fun w hw => vx_ot_at hW0 hvm.symm (hgood w (List.mem_cons_of_mem _ (List.mem_cons_of_mem _ hw))) (hat w hw)
  have hk' : (Cond.classLink own ik cls).before args s' = true := vx_ot_at hW0 hvm.symm (hgood _ List.mem_cons_self) hk
  have hini' : (Cond.initialized cls).before args s' = true := vx_ot_at hW0 hvm.symm (hgood _ (List.mem_cons_of_mem _ List.mem_cons_self)) hini
  have hU' : vx_Zq Bundle.tN "UNASSIGNED_STACK" Bundle.steD A s' s'.heap := by rw [hhp]; exact vx_Zq.moved hW0.alike (hU.kept hS.2.1)
  have hN' : vx_Zq Bundle.tN "SUPPRESSED_SENTINEL" Bundle.listD A s' s'.heap := by rw [hhp]; exact vx_Zq.moved hW0.alike (hN.kept hS.2.1)
  have h : ∀ w ∈ Bundle.ownAtoms own ic cls names, w.before args s' = true := vx_own hat' (vx_isRefq hU'.1) (vx_isRefq hN'.1) hU'.2.word hN'.2.word
  have hown' : s'.vm.findClass own = some m.cls := by rw [hvm]; exact hown
  have hins : (Cond.instantiable cls 6).before args s' = true := h _ (by simp [Bundle.ownAtoms])
  obtain ⟨vm₁, cX, kX, hfX, hkX, -, -, X₁, st1⟩ := Y.newCold hexec (own := own) (C := cls) (index := ik) (n := 6) hown' hk' hins hini'
    (g := F0 m pc ls rest) rfl (by rw [hb]; exact d0) (Nat.le_refl _) (Nat.le_refl _)
  generalize hT1 : (T.setVm vm₁).pushCell { cls := cX, slots := kX.instanceTypes.map defaultValue, vm := .none } = T1 at X₁ st1
  have hcat : (Value.ref T.heap.size).category = 1 := rfl
  have hcellA : T1.heap[T.heap.size]? = some (freshCell cX kX) := by rw [← hT1]; exact State.heap_pushCell_size _ _
  have d3' : decode c.code (pc + 3) = .ok (.dup, 1) := by rw [hb]; exact d3
  have d4' : decode c.code (pc + 4) = .ok (.ldc_w is, 3) := by rw [hb]; exact d4
  have hstr' : vk_R own is text sa s' := vk_R.warm hW0 hstr
  obtain ⟨U, hsteps, hrun, hend, hW, hsame, ce, hce, hO⟩ := X₁.ctorThrowS hexec htr (own := own) (cls := cls) (names := names) (ic := ic) hown' hcls hnames h (fun x hx => nomatch hx) hfX hkX hcellA (by rw [hhp, hT]; exact Nat.le_refl _) (msg := .ref sa) rfl
    (g := { method := m, pc := pc + 7, locals := ls, stack := .ref sa :: .ref T.heap.size :: .ref T.heap.size :: rest, locked := none }) rfl hsize rfl rfl (rest := rest) rfl
    (by rw [hb]; exact d7) (by rw [hb]; exact d10) hout hRframes (by simp only [List.map_cons, List.sum_cons, hcat]; omega) hlocks
  obtain ⟨f1, f2⟩ := vx_frame hsame
  rw [hhp] at f1 f2
  have hWs : s.WarmedH U.vm := State.WarmedH.trans hW0 hW
  have hcl : s.vm.findClass cls = some ce.cls := by
    have h9 := hO.cls
    rw [hvm] at h9
    exact h9
  have hall : s.sameButNew ({ U with vm := s.vm } : State) locs mc ms := by
    subst hA
    obtain ⟨e1, e2⟩ := hsame
    rw [State.setFrames_setFrames] at e1
    have h2 : (T.setVm s.vm).sameButNew ({ U with vm := s.vm } : State) [] (0 + 1) (0 + 6) := ⟨e1, e2⟩
    have h3 := X.same.trans h2
    rw [List.append_nil] at h3
    exact h3.mono hc hs
  refine ⟨U, ?_, .threw T.heap.size, hrun, hend, Or.inr ⟨T.heap.size, rfl, cls, ce, locs, hx U hWs.alike f1 (fun q hq => f2 q hq (fun z hz => nomatch hz)), hce, hO.vm, hcl, hWs, hall, hf⟩⟩
  refine st1 _ ?_
  show Steps p.tables e below (T1.setTop { method := m, pc := pc + 3, locals := ls, stack := .ref T.heap.size :: rest, locked := none }) _
  jvm_step X₁.here [X₁.here.top, hexec, d3', Value.category]
  exact X₁.ldcStringW hexec (own := own) (text := text) (index := is) (a := sa) hown' hstr'.1 hstr'.2
    (g := { method := m, pc := pc + 4, locals := ls, stack := .ref T.heap.size :: .ref T.heap.size :: rest, locked := none }) rfl d4' _ hsteps
end Ends
section Bodies
variable {l : Launch}
theorem vx_ofW {y : MethodName} {ws ws' : List Cond} {rm : Room} {Pc : Array Value → State → Prop} {Qc : Array Value → State → Outcome → State → Prop} {XC : String → State → State → Prop} {mc ms : Nat} {free : Addr → Prop} {cc : ByteArray} {maxL : Nat} {ret : Option FieldType}
    (hy : plainName y.cls = true) (hw : ws = Cond.code y cc maxL ret :: ws')
    (body : ∀ p e s m args below meth c s₁, BodyLoose p l y (headSpec ws rm) cc maxL ret e s m args below meth c s₁ → c.maxLocals = maxL → (∀ x ∈ c.exceptionTable.toList, False) → Pc args s →
      W p l e (headSpec ws rm).room s m args below meth c s.heap [] 0 0 (vx_MQ below Qc XC args s mc ms free) (entryFrame m args maxL)) : vx_Met l y ws rm Pc Qc XC mc ms free := by
  refine MetFree.of_bodyS (code := cc) (maxLocals := maxL) (ret := ret) hy ?_ ?_
  · intro args s m h hn
    obtain ⟨meth, c, h1, h2, h3, h4, h5, h6, -, -⟩ := Cond.code_spec hn (atoms_spec (ws := ws) h _ (by rw [hw]; exact List.mem_cons_self))
    exact ⟨meth, c, h1, h2, h3, h4, h5, h6⟩
  · intro p e s m args below meth c s₁ B hml hP _
    have hh0 : s₁.heap = s.heap := by rw [B.state]; rfl
    have ht : ∀ x ∈ c.exceptionTable.toList, False := by
      obtain ⟨meth9, c9, h1, h2, -, -, -, -, h7, -⟩ := Cond.code_spec B.named (atoms_spec (ws := ws) B.pre _ (by rw [hw]; exact List.mem_cons_self))
      cases Option.some.inj (h1.symm.trans B.method)
      cases Option.some.inj (h2.symm.trans (Stand.of_body B).code)
      intro x hx
      rw [Array.isEmpty_iff.mp h7] at hx
      cases hx
    obtain ⟨t, a1, o, b1, b2, b3⟩ := body p e s m args below meth c s₁ B hml ht hP s₁ hh0 (Stand.of_body B)
    exact ⟨t, o, a1, b1, b2, b3⟩
/-- the table of a body with handlers -/
theorem vx_table {p : Program} {x y : MethodName} {S : Spec} {cc bytes : ByteArray} {maxL maxL' : Nat} {ret ret' : Option FieldType} {e : Env} {s s₁ : State} {m : MethodId} {args : Array Value} {below : List Frame} {meth : Method} {c : Code} {hh : List (Nat × Nat × Nat × Nat)}
    (B : BodyLoose p l y S cc maxL ret e s m args below meth c s₁) (h : (Cond.codeWith y bytes maxL' ret' hh).before args s = true) : c.exceptionTable.toList = tableOf hh := by
  obtain ⟨m9, meth9, c9, hn9, h1, h2, -, -, h6, -⟩ := Cond.codeWith_spec h
  cases Option.some.inj (hn9.symm.trans B.named)
  cases Option.some.inj (h1.symm.trans B.method)
  cases Option.some.inj (h2.symm.trans (Stand.of_body B).code)
  rw [← h6, table_eq]
end Bodies
end VXA
/-! ===== END ===== -/
/-! ===== BEGIN a static call of a method with an exception table ===== -/
section VXS
variable {p : Program} {l : Launch} {e : Env} {R : Room} {s : State} {m : MethodId} {args : Array Value} {below : List Frame} {meth : Method} {c : Code} {T : State} {H : Heap} {locs : List Loc} {cells slots : Nat}
abbrev vx_CSW (R : Room) (s : State) (args : Array Value) (own : String) (index : Nat) (y : MethodName) (bytes : ByteArray) (maxL : Nat) (ret : Option FieldType) (hh : List (Nat × Nat × Nat × Nat)) (ws : List Cond) (rm : Room) (mc ms n : Nat) : Prop :=
  (rm.cells = mc ∧ rm.slots = ms ∧ rm.frames + 1 ≤ R.frames ∧ 8 + (maxL + 11) + rm.locals ≤ R.locals ∧ (∀ w ∈ ws, ∀ (a' : Array Value) (U : State), s.WarmedH U.vm → w.before a' U = true) ∧ Cond.codeWith y bytes maxL ret hh ∈ ws) ∧
  (Cond.codeWith y bytes maxL ret hh).before args s = true ∧ (Cond.initialized y.cls).before args s = true ∧ (y.cls ≠ "java/lang/invoke/MethodHandle" ∧ y.cls ≠ "java/lang/invoke/VarHandle") ∧
  (∀ sig, parseMethodDescriptor y.desc = some sig → n = sig.parameters.length) ∧ (Cond.methodLink own index y).before args s = true ∧ (Cond.static y).before args s = true
theorem vx_cwSW {own : String} {index maxL mc ms : Nat} {y : MethodName} {bytes : ByteArray} {ret : Option FieldType} {hh : List (Nat × Nat × Nat × Nat)} {Ts ws ws' : List Cond} {rm : Room} (n : Nat) (ht : ∀ w ∈ Ts, w.before args s = true) (hT : GoodIn Ts (va_wsS own index y ws)) (hw : ws = Cond.codeWith y bytes maxL ret hh :: ws') (hrc : rm.cells = mc) (hrs : rm.slots = ms)
    (hd : y.cls ≠ "java/lang/invoke/MethodHandle" ∧ y.cls ≠ "java/lang/invoke/VarHandle" ∧ (parseMethodDescriptor y.desc).map (fun d => d.parameters.length) = some n) (hR : rm.frames + 1 ≤ R.frames ∧ 8 + (maxL + 11) + rm.locals ≤ R.locals) :
    vx_CSW R s args own index y bytes maxL ret hh ws rm mc ms n := by
  have ok : ∀ w ∈ va_wsS own index y ws, w.before args s = true := fun w h => ht w (hT w h).1
  have hG : GoodIn Ts ws := fun w h => hT w (by unfold va_wsS; exact List.mem_append_right _ h)
  have hc : Cond.codeWith y bytes maxL ret hh ∈ ws := by rw [hw]; exact List.mem_cons_self
  refine ⟨⟨hrc, hrs, hR.1, hR.2, pay_in ht hG, hc⟩, ht _ (hG _ hc).1, ok _ (by simp [va_wsS]), ⟨hd.1, hd.2.1⟩, fun sig h => ?_, ok _ (by simp [va_wsS]), ok _ (by simp [va_wsS])⟩
  have h2 := hd.2.2
  rw [h] at h2
  exact (Option.some.inj h2).symm
theorem vx_callSW (X : Stand p l e R s m args below meth c T locs cells slots) (hexec : p.tables.exec = Jvm.exec) {own : String} {index : Nat} {y : MethodName} {bytes : ByteArray} {maxL : Nat} {ret : Option FieldType} {hh : List (Nat × Nat × Nat × Nat)}
    (hown : s.vm.findClass own = some m.cls) (hlink : (Cond.methodLink own index y).before args s = true) (hstat : (Cond.static y).before args s = true) (hinit : (Cond.initialized y.cls).before args s = true)
    (hcode : (Cond.codeWith y bytes maxL ret hh).before args s = true) (hy : y.cls ≠ "java/lang/invoke/MethodHandle" ∧ y.cls ≠ "java/lang/invoke/VarHandle")
    {W9 : Nat} {Pre : Pt → Array Value → Prop} {Post : Pt → Array Value → Option Value → Pt → Prop} (hK : Back l R p e below s args y 3 W9 Pre Post)
    {g : JFrame} (hg : g.method = m) (hsize : g.locals.size = c.maxLocals) {argsL rest : List Value} (hlen : ∀ sig, parseMethodDescriptor y.desc = some sig → argsL.length = sig.parameters.length)
    (hstack : g.stack = argsL.reverse ++ rest) (hW : 2 * g.monitorRoom + (rest.map fun v => v.category).sum ≤ W9) (hdg : decode c.code g.pc = .ok (.invokestatic index, 3))
    (hpre : ∀ vm₁, s.WarmedH vm₁ → Pre ⟨T.setVm vm₁, locs, cells, slots⟩ argsL.toArray) :
    ∃ (v : Option Value) (vm₁ : Vm) (B : Pt), s.WarmedH vm₁ ∧ Stand p l e R s m args below meth c B.U B.locs B.cells B.slots ∧ Post ⟨T.setVm vm₁, locs, cells, slots⟩ argsL.toArray v B ∧
      ∀ target, Steps p.tables e below (B.U.setTop { g with pc := g.pc + 3, stack := v.toList ++ rest }) target → Steps p.tables e below (T.setTop g) target := by
  obtain ⟨mk, methM, cM, hnamed, hmethM, -, -, -, -, -, -, hsigM⟩ := Cond.codeWith_spec hcode
  have hstatic : methM.isStatic = true := Cond.static_spec hnamed hmethM hstat
  obtain ⟨kP, hkP, -⟩ := className_of_methodNamed hnamed
  have hinitP : kP.init = .initialized := Cond.initialized_spec (findClass_of_methodNamed hnamed) hkP hinit
  obtain ⟨vm₁, X₁, hstep₁⟩ := X.invokestatic hexec hown hlink hnamed hmethM hstatic hkP hinitP hy (g := g) hg (argsL := argsL) (rest := rest) (hlen _ hsigM) hstack hdg
  obtain ⟨v, B, X', hpost, hsteps⟩ := hK m meth c ⟨T.setVm vm₁, locs, cells, slots⟩ { g with stack := rest } (.invokestatic index) mk argsL.toArray X₁ hg hsize hdg hW (X₁.named hnamed) (hpre vm₁ X₁.warmed)
  exact ⟨v, vm₁, B, X₁.warmed, X', hpost, fun target h => hstep₁ _ fun acts => by rw [doInvoke_state]; exact hsteps.trans h⟩
theorem vx_runSW {y : MethodName} {bytes cc : ByteArray} {maxL nL mc ms n index : Nat} {ret : Option FieldType} {hh : List (Nat × Nat × Nat × Nat)} {ws : List Cond} {rm : Room} {Pc : Array Value → State → Prop} {Qc : Array Value → State → Outcome → State → Prop} {free : Addr → Prop} {Ts : List Cond} {own : String} {As rest : List Value} {g : JFrame}
    (S : CallFix p m c cc nL s args Ts own) (hM : Met l y ws rm Pc Qc mc ms free) (cw : vx_CSW R s args own index y bytes maxL ret hh ws rm mc ms n) (hp : PreS s H Pc As)
    (hg : g.method = m) (hn : As.length = n) (hsize : g.locals.size = nL) (hstack : g.stack = As.reverse ++ rest) (hW : 2 * g.monitorRoom + (rest.map fun v => v.category).sum ≤ 8) (hdg : decode cc g.pc = .ok (.invokestatic index, 3)) (hf : cells + mc ≤ R.cells ∧ slots + ms ≤ R.slots) :
    va_Run p l e R s m args below meth c H locs cells slots mc ms g rest (Qc As.toArray) (free) := by
  obtain ⟨⟨hrc, hrs, hfr, hlo, hws, hcw⟩, hcode, hini, hy, hlen, hl, hstt⟩ := cw
  have hK : Back l R p e below s args y 3 8 (PreOf R mc ms Pc) (PostOf Qc mc ms free) := va_backW (hh := hh) (bytes := bytes) (maxL := maxL) (ret := ret) hM hp.1 hrc hrs hfr hlo hws hcw (fun a' U hW => word_at hW (Or.inl (by first | rfl | simp [Cond.onTables, Cond.keeps, Cond.steady])) hini)
  obtain ⟨hx, hb, hml, ho, -⟩ := S
  intro T hT X
  obtain ⟨v, vm₁, ⟨U', l2, c2, s2⟩, hW₁, X', ⟨g', mk, t, L, e1, e2, hq, h1, hL, h2, h3⟩, st⟩ := vx_callSW X hx (hh := hh) (bytes := bytes) (maxL := maxL) (ret := ret) ho hl hstt hini hcode hy hK hg (hsize.trans hml.symm) (argsL := As) (rest := rest) (fun sig h => hn.trans (hlen sig h)) hstack hW (by rw [hb]; exact hdg)
    (fun vm₁ hW₁ => ⟨hf.1, hf.2, hp.2 (T.setVm vm₁) hT hW₁⟩)
  dsimp only [Pt.U, Pt.locs, Pt.cells, Pt.slots] at X' e1 e2 h1 h2 h3 st
  subst h1; subst h2; subst h3
  exact ⟨v, (T.setVm vm₁).calling g' mk As.toArray, t, U', L, hT, X', hL, e1, e2, hq, st⟩
/-- not caught here, past rows that name other classes: it goes on to the caller -/
theorem vx_outP {p : Program} {l : Launch} {e : Env} {R : Room} {s : State} {m : MethodId} {args : Array Value} {below : List Frame} {meth : Method} {c : Code} {H : Heap} {locs : List Loc} {cells slots : Nat} {free : Addr → Prop} {ls : Array Slot} {rest : List Value} {Qc : Array Value → State → Outcome → State → Prop} {XC : String → State → State → Prop}
    {pc : Nat} {own E : String} {ce : Cell} {q : Addr} {mc ms : Nat} (hown : s.vm.findClass own = some m.cls) (hlocks : meth.locks = false)
    (hpass : ∀ z ∈ c.exceptionTable.toList, covers z pc = false ∨ (z.catchType ≠ 0 ∧ ∃ nm : String, (Cond.classLink own z.catchType nm).before args s = true ∧ va_Nc E nm s)) (hcell : H[q]? = some ce) (hv : ce.vm = .none) (hcl : s.vm.findClass E = some ce.cls)
    (hx : ∀ t : State, t.heap = H → s.vm.Alike t.vm → XC E s t) (hf : ∀ z ∈ locs, free z.base) (hc : cells ≤ mc) (hs : slots ≤ ms) :
    vx_W p l e R s m args below meth c H locs cells slots (vx_MQ below Qc XC args s mc ms free) (F0 m pc ls rest) q := by
  intro T hT X
  have hpl : e.platform.magicAccessors = ({} : Platform).magicAccessors := by rw [X.admits.platform]
  obtain ⟨vm', hW', X', st⟩ := X.outThrough hlocks q (g := F0 m pc ls rest) rfl rfl rfl (cell := ce) (by rw [hT]; exact hcell) (by rw [hv]; rfl)
    (by obtain ⟨k9, h9, -⟩ := Vm.findClass_spec hcl; exact ⟨k9, h9⟩) (fun z hz => by
      rcases hpass z hz with h | ⟨hz0, nm, hl1, hn1⟩
      · exact Or.inl h
      · obtain ⟨c6, hc6, hcl6⟩ := Cond.classLink_spec hown hl1 e.platform hpl
        obtain ⟨a8, b8, h1, h2, h3⟩ := hn1
        cases Option.some.inj (h1.symm.trans hcl)
        cases Option.some.inj (h2.symm.trans hc6)
        exact Or.inr ⟨hz0, _, hcl6, h3⟩)
  obtain ⟨g₀, hfr⟩ := X'.frames_eq
  have hcell9 : ((T.setVm vm').setFrames (.throwing q :: below)).heap[q]? = some ce := by
    show T.heap[q]? = some ce
    rw [hT]; exact hcell
  have hend : Ended ((T.setVm vm').setFrames (.throwing q :: below)) below (.threw q) := State.frames_setFrames _ (State.cur_lt_of_frames hfr)
  refine ⟨(T.setVm vm').setFrames (.throwing q :: below), ?_, .threw q, X'.here.running, hend, Or.inr ⟨q, rfl, E, ce, locs, hx _ hT (X'.ends _).1.alike, hcell9, hv, hcl, (X'.ends _).1, (X'.ends _).2.mono hc hs, hf⟩⟩
  rw [X.pushThrowing_eq]
  exact st
/-- a thing of a world lies in the heap -/
theorem vx_lt {D : va_G} {cl : List vw_C} {ws : va_W} {H1 : Heap} (h : va_P D cl ws H1) {k : Nat} {q : Nat × va_E} (hk : ws[k]? = some q) : q.1 < H1.size := (h k q hk).lt
end VXS
/-! ===== END ===== -/
/-! ===== BEGIN methods with a table of their own: called by a name, returning or throwing ===== -/
section VXH
/-! vx_backW, vx_callVX, vx_callSX, vx_callVW, vx_runVW, vx_runVX, vx_runSX, vx_ofWH follow the same proofs as their sisters above (Free/Laws.lean, Shelf42/LK1.lean); vx_outP calls Shelf42/NT130.lean (outThrough). -/
section
variable {l : Launch} {R : Room} {p : Program} {e : Env} {below : List Frame} {s : State} {sargs : Array Value} {y : MethodName} {len W9 : Nat}
theorem vx_backW {ws : List Cond} {rm : Room} {Pc : Array Value → State → Prop} {Qc : Array Value → State → Outcome → State → Prop} {XC : String → State → State → Prop} {mc ms : Nat} {free : Addr → Prop} {bytes : ByteArray} {maxL : Nat} {ret : Option FieldType} {hh : List (Nat × Nat × Nat × Nat)}
    (hM : vx_Met l y ws rm Pc Qc XC mc ms free) (hblind : FrameBlind Pc) (hrc : rm.cells = mc) (hrs : rm.slots = ms)
    (hframes : rm.frames + 1 ≤ R.frames) (hlocals : W9 + (maxL + 11) + rm.locals ≤ R.locals)
    (hws : ∀ w ∈ ws, ∀ a' U, s.WarmedH U.vm → w.before a' U = true) (hcode : Cond.codeWith y bytes maxL ret hh ∈ ws) (hinit : ∀ a' U, s.WarmedH U.vm → (Cond.initialized y.cls).before a' U = true) :
    vx_Back l R p e below s sargs y len W9 (PreOf R mc ms Pc) (PostOf Qc mc ms free) (vx_Post XC mc ms free) := by
  intro m meth c A g ig mk a X hg hsize hdg hW hn hp
  have h1 : (headSpec ws rm).pre.before a A.U = true := atoms_intro fun w hw => hws w hw _ _ X.warmed
  have h2 : (Cond.codeWith y bytes maxL ret hh).before a A.U = true := hws _ hcode _ _ X.warmed
  have h3 : (Cond.initialized y.cls).before a A.U = true := hinit _ _ X.warmed
  have h4 : A.cells + (headSpec ws rm).room.cells ≤ R.cells := by rw [show (headSpec ws rm).room.cells = mc from hrc]; exact hp.1
  have h5 : A.slots + (headSpec ws rm).room.slots ≤ R.slots := by rw [show (headSpec ws rm).room.slots = ms from hrs]; exact hp.2.1
  have hPc : Pc a (A.U.calling g mk a) := hblind _ _ _ _ hp.2.2
  obtain ⟨U, Ls, c0, s0⟩ := A
  dsimp only [Pt.U, Pt.locs, Pt.cells, Pt.slots] at h1 h2 h3 h4 h5 X hn hPc ⊢
  obtain ⟨m9, methY, cY, hn9, hmY, hcY, -, hlY, -⟩ := Cond.codeWith_spec h2
  cases Option.some.inj (hn9.symm.trans hn)
  obtain ⟨kY, hkY, -⟩ := className_of_methodNamed hn
  have hinitY : kY.init = .initialized := Cond.initialized_spec (findClass_of_methodNamed hn) hkY h3
  have h : At U g.method c below := by rw [hg]; exact X.here
  have hlocals9 : W9 + (maxL + 11) + (headSpec ws rm).room.locals ≤ R.locals := hlocals
  have happ : (headSpec ws rm).appliesLoose y e.platform (U.calling g mk a) = true :=
    Spec.appliesLoose_calling (g := g) h hdg hn hkY hinitY
      (X.room_calling (g := g) (R' := (headSpec ws rm).room) hsize hmY hcY hframes (by rw [hlY]; omega) h4 h5) h1
  obtain ⟨mid, hmid⟩ := h.above
  have hfr : (U.setTop g).frames = (.java g :: mid) ++ below := by rw [State.frames_setTop' g h.top, hmid]; rfl
  obtain ⟨o, s₂, hsteps, -, hend, hq⟩ := Steps.callFree hM p X.admits X.cas X.clock (acts := []) hfr happ hPc trivial
  have hq' : vx_Q Qc XC mc ms free a (U.calling g mk a) o s₂ := hq
  rw [State.frames_setTop' g h.top] at hend
  obtain ⟨g₀, hg0⟩ := Option.isSome_iff_exists.mp h.top
  obtain ⟨r, hr⟩ := State.topJava?_eq_some.mp hg0
  have hr' : (({ U with heap := s₂.heap, slotsUsed := s₂.slotsUsed } : State).setVm s₂.vm).frames = .java g₀ :: r := hr
  rcases hq' with ⟨hqc, L, hfe, hL⟩ | ⟨q, rfl, E, ce, L, hx, hce, hcv, hcl, hW₂, hsm, hL⟩
  · obtain ⟨⟨v, rfl⟩, hW₂, e2, q2, q3, q4, q5, q6⟩ := id hfe
    have e3 : s₂ = ({ (U.calling g mk a).setFrames s₂.frames with heap := s₂.heap, slotsUsed := s₂.slotsUsed } : State).setVm s₂.vm := by
      have : s₂ = ({ s₂ with vm := (U.calling g mk a).vm } : State).setVm s₂.vm := rfl
      rw [e2] at this
      exact this
    obtain ⟨c₂, i₂, len₂, hc₂, hd₂, hf₂⟩ := hend
    have hW' : U.WarmedH s₂.vm := hW₂
    have hcc : c₂ = c := by
      have h1 : s₂.code? g.method = U.code? g.method := by
        rw [State.code?_eq, State.code?_eq, hW'.alike.method?]
      exact Option.some.inj (hc₂.symm.trans (h1.trans h.code))
    subst hcc
    have hlen : len₂ = len := by rw [hdg] at hd₂; cases hd₂; rfl
    subst hlen
    have hs₂ : s₂ = (({ U with heap := s₂.heap, slotsUsed := s₂.slotsUsed } : State).setVm s₂.vm).setTop { g with pc := g.pc + len₂, stack := v.toList ++ g.stack } := by
      refine e3.trans ?_
      rw [hf₂, State.calling_eq h.top, State.setFrames_setFrames, State.setTop_of_frames _ hr', hr]
      rfl
    have hsame : U.sameButNew ({ U with heap := s₂.heap, slotsUsed := s₂.slotsUsed } : State) L mc ms := by
      refine ⟨?_, q2, q3, q4, q5, q6⟩
      obtain ⟨t, ht, -⟩ := State.frames_cons hr
      show ({ U with heap := s₂.heap, slotsUsed := s₂.slotsUsed } : State) = { U.setFrames U.frames with heap := s₂.heap, slotsUsed := s₂.slotsUsed }
      rw [State.setFrames_self ht]
    subst hg
    refine Or.inl ⟨v, ⟨(({ U with heap := s₂.heap, slotsUsed := s₂.slotsUsed } : State).setVm s₂.vm), Ls ++ L, c0 + mc, s0 + ms⟩,
      ⟨X.admits, X.cas, X.clock, X.frames, X.room, X.hears, X.method, X.code, (X.here.setHeapUsed s₂.heap s₂.slotsUsed).setVm hW'.alike, X.tail, State.WarmedH.trans X.warmed hW', X.limits, X.bytes, X.same.trans (hsame.setVm s.vm)⟩,
      ⟨g, mk, s₂, L, rfl, rfl, hqc, rfl, hL, rfl, rfl⟩, ?_⟩
    show Steps p.tables e below _ ((({ U with heap := s₂.heap, slotsUsed := s₂.slotsUsed } : State).setVm s₂.vm).setTop { g with pc := g.pc + len₂, stack := v.toList ++ g.stack })
    rw [← hs₂]
    exact hsteps
  · obtain ⟨e2, q2, q3, q4, q5, q6⟩ := id hsm
    have e3 : s₂ = ({ (U.calling g mk a).setFrames s₂.frames with heap := s₂.heap, slotsUsed := s₂.slotsUsed } : State).setVm s₂.vm := by
      have : s₂ = ({ s₂ with vm := (U.calling g mk a).vm } : State).setVm s₂.vm := rfl
      rw [e2] at this
      exact this
    have hf₂ : s₂.frames = .throwing q :: .java g :: U.frames.tail := hend
    have hW' : U.WarmedH s₂.vm := hW₂
    have hs₂ : s₂ = ((({ U with heap := s₂.heap, slotsUsed := s₂.slotsUsed } : State).setVm s₂.vm).setTop g).pushFrame (.throwing q) := by
      refine e3.trans ?_
      rw [hf₂, State.calling_eq h.top, State.setFrames_setFrames, State.pushFrame, State.frames_setTop _ hr', State.setTop_of_frames _ hr', State.setFrames_setFrames, hr]
      rfl
    have hsame : U.sameButNew ({ U with heap := s₂.heap, slotsUsed := s₂.slotsUsed } : State) L mc ms := by
      refine ⟨?_, q2, q3, q4, q5, q6⟩
      obtain ⟨t, ht, -⟩ := State.frames_cons hr
      show ({ U with heap := s₂.heap, slotsUsed := s₂.slotsUsed } : State) = { U.setFrames U.frames with heap := s₂.heap, slotsUsed := s₂.slotsUsed }
      rw [State.setFrames_self ht]
    subst hg
    refine Or.inr ⟨q, ⟨(({ U with heap := s₂.heap, slotsUsed := s₂.slotsUsed } : State).setVm s₂.vm), Ls ++ L, c0 + mc, s0 + ms⟩,
      ⟨X.admits, X.cas, X.clock, X.frames, X.room, X.hears, X.method, X.code, (X.here.setHeapUsed s₂.heap s₂.slotsUsed).setVm hW'.alike, X.tail, State.WarmedH.trans X.warmed hW', X.limits, X.bytes, X.same.trans (hsame.setVm s.vm)⟩,
      ⟨g, mk, s₂, L, E, ce, rfl, rfl, hx, hce, hcv, hcl, rfl, hL, rfl, rfl⟩, ?_⟩
    show Steps p.tables e below _ (((({ U with heap := s₂.heap, slotsUsed := s₂.slotsUsed } : State).setVm s₂.vm).setTop g).pushFrame (.throwing q))
    rw [← hs₂]
    exact hsteps
end
variable {p : Program} {l : Launch} {e : Env} {R : Room} {s : State} {m : MethodId} {args : Array Value} {below : List Frame} {meth : Method} {c : Code} {T : State} {H : Heap} {locs : List Loc} {cells slots : Nat}
theorem vx_callVX (X : Stand p l e R s m args below meth c T locs cells slots) (hexec : p.tables.exec = Jvm.exec) {own C : String} {index : Nat} {y : MethodName} {bytes : ByteArray} {maxL : Nat} {ret : Option FieldType} {hh : List (Nat × Nat × Nat × Nat)}
    (hown : s.vm.findClass own = some m.cls) (hlink : (Cond.methodLink own index y).before args s = true) (hinst : (Cond.instanceMethod y).before args s = true) (hsel : (Cond.selects C y y).before args s = true)
    (hcode : (Cond.codeWith y bytes maxL ret hh).before args s = true) (hy : y.cls ≠ "java/lang/invoke/MethodHandle" ∧ y.cls ≠ "java/lang/invoke/VarHandle")
    {W9 : Nat} {Pre : Pt → Array Value → Prop} {Post : Pt → Array Value → Option Value → Pt → Prop} {PostX : Pt → Array Value → Addr → Pt → Prop} (hK : vx_Back l R p e below s args y 3 W9 Pre Post PostX)
    {b : Addr} {cellB : Cell} (hcell : T.heap[b]? = some cellB) (hobj : cellB.vm.isStatics = false) (hcls : s.vm.findClass C = some cellB.cls)
    {g : JFrame} (hg : g.method = m) (hsize : g.locals.size = c.maxLocals) {argsL rest : List Value} (hlen : ∀ sig, parseMethodDescriptor y.desc = some sig → argsL.length = sig.parameters.length)
    (hstack : g.stack = argsL.reverse ++ .ref b :: rest) (hW : 2 * g.monitorRoom + (rest.map fun v => v.category).sum ≤ W9) (hdg : decode c.code g.pc = .ok (.invokevirtual index, 3))
    (hpre : ∀ vm₁, s.WarmedH vm₁ → Pre ⟨T.setVm vm₁, locs, cells, slots⟩ (Value.ref b :: argsL).toArray) :
    (∃ (v : Option Value) (vm₁ : Vm) (B : Pt), s.WarmedH vm₁ ∧ Stand p l e R s m args below meth c B.U B.locs B.cells B.slots ∧ Post ⟨T.setVm vm₁, locs, cells, slots⟩ (Value.ref b :: argsL).toArray v B ∧
      ∀ target, Steps p.tables e below (B.U.setTop { g with pc := g.pc + 3, stack := v.toList ++ rest }) target → Steps p.tables e below (T.setTop g) target) ∨
    (∃ (q : Addr) (vm₁ : Vm) (B : Pt), s.WarmedH vm₁ ∧ Stand p l e R s m args below meth c B.U B.locs B.cells B.slots ∧ PostX ⟨T.setVm vm₁, locs, cells, slots⟩ (Value.ref b :: argsL).toArray q B ∧
      Steps p.tables e below (T.setTop g) ((B.U.setTop { g with stack := rest }).pushFrame (.throwing q))) := by
  obtain ⟨mk, methM, hnamed, hmethM, hstM, habM⟩ := Cond.instanceMethod_spec hinst
  obtain ⟨m8, methM', cM, hn8, hmethM', -, -, -, -, -, -, hsigM⟩ := Cond.codeWith_spec hcode
  cases Option.some.inj (hn8.symm.trans hnamed)
  cases hmethM.symm.trans hmethM'
  obtain ⟨c2, r2, m2, q1, q2, q3, q4, kP, hkP, hkPi⟩ := Cond.selects_spec hsel
  cases hcls.symm.trans q1
  cases (State.methodFound?_of_named hnamed hy).symm.trans q2
  cases hnamed.symm.trans q3
  have hselP : selectMethod e.platform s.vm cellB.cls mk = .method mk := by rw [Launch.admits_selectMethod X.admits]; exact q4
  obtain ⟨vm₁, X₁, hstep₁⟩ := X.invokevirtual hexec hown hlink hnamed hmethM hstM hkP hkPi hy (a := b) (cell := cellB) hcell
    (fun z h => by rw [h] at hobj; cases hobj) hselP hmethM habM hkP hkPi (g := g) hg (argsL := argsL) (rest := rest) (hlen _ hsigM) hstack hdg
  rcases hK m meth c ⟨T.setVm vm₁, locs, cells, slots⟩ { g with stack := rest } (.invokevirtual index) mk (Value.ref b :: argsL).toArray X₁ hg hsize hdg hW (X₁.named hnamed) (hpre vm₁ X₁.warmed) with ⟨v, B, X', hpost, hsteps⟩ | ⟨q, B, X', hpost, hsteps⟩
  · exact Or.inl ⟨v, vm₁, B, X₁.warmed, X', hpost, fun target h => hstep₁ _ fun acts => by rw [doInvoke_state]; exact hsteps.trans h⟩
  · exact Or.inr ⟨q, vm₁, B, X₁.warmed, X', hpost, hstep₁ _ fun acts => by rw [doInvoke_state]; exact hsteps⟩
theorem vx_callSX (X : Stand p l e R s m args below meth c T locs cells slots) (hexec : p.tables.exec = Jvm.exec) {own : String} {index : Nat} {y : MethodName} {bytes : ByteArray} {maxL : Nat} {ret : Option FieldType} {hh : List (Nat × Nat × Nat × Nat)}
    (hown : s.vm.findClass own = some m.cls) (hlink : (Cond.methodLink own index y).before args s = true) (hstat : (Cond.static y).before args s = true) (hinit : (Cond.initialized y.cls).before args s = true)
    (hcode : (Cond.codeWith y bytes maxL ret hh).before args s = true) (hy : y.cls ≠ "java/lang/invoke/MethodHandle" ∧ y.cls ≠ "java/lang/invoke/VarHandle")
    {W9 : Nat} {Pre : Pt → Array Value → Prop} {Post : Pt → Array Value → Option Value → Pt → Prop} {PostX : Pt → Array Value → Addr → Pt → Prop} (hK : vx_Back l R p e below s args y 3 W9 Pre Post PostX)
    {g : JFrame} (hg : g.method = m) (hsize : g.locals.size = c.maxLocals) {argsL rest : List Value} (hlen : ∀ sig, parseMethodDescriptor y.desc = some sig → argsL.length = sig.parameters.length)
    (hstack : g.stack = argsL.reverse ++ rest) (hW : 2 * g.monitorRoom + (rest.map fun v => v.category).sum ≤ W9) (hdg : decode c.code g.pc = .ok (.invokestatic index, 3))
    (hpre : ∀ vm₁, s.WarmedH vm₁ → Pre ⟨T.setVm vm₁, locs, cells, slots⟩ argsL.toArray) :
    (∃ (v : Option Value) (vm₁ : Vm) (B : Pt), s.WarmedH vm₁ ∧ Stand p l e R s m args below meth c B.U B.locs B.cells B.slots ∧ Post ⟨T.setVm vm₁, locs, cells, slots⟩ argsL.toArray v B ∧
      ∀ target, Steps p.tables e below (B.U.setTop { g with pc := g.pc + 3, stack := v.toList ++ rest }) target → Steps p.tables e below (T.setTop g) target) ∨
    (∃ (q : Addr) (vm₁ : Vm) (B : Pt), s.WarmedH vm₁ ∧ Stand p l e R s m args below meth c B.U B.locs B.cells B.slots ∧ PostX ⟨T.setVm vm₁, locs, cells, slots⟩ argsL.toArray q B ∧
      Steps p.tables e below (T.setTop g) ((B.U.setTop { g with stack := rest }).pushFrame (.throwing q))) := by
  obtain ⟨mk, methM, cM, hnamed, hmethM, -, -, -, -, -, -, hsigM⟩ := Cond.codeWith_spec hcode
  have hstatic : methM.isStatic = true := Cond.static_spec hnamed hmethM hstat
  obtain ⟨kP, hkP, -⟩ := className_of_methodNamed hnamed
  have hinitP : kP.init = .initialized := Cond.initialized_spec (findClass_of_methodNamed hnamed) hkP hinit
  obtain ⟨vm₁, X₁, hstep₁⟩ := X.invokestatic hexec hown hlink hnamed hmethM hstatic hkP hinitP hy (g := g) hg (argsL := argsL) (rest := rest) (hlen _ hsigM) hstack hdg
  rcases hK m meth c ⟨T.setVm vm₁, locs, cells, slots⟩ { g with stack := rest } (.invokestatic index) mk argsL.toArray X₁ hg hsize hdg hW (X₁.named hnamed) (hpre vm₁ X₁.warmed) with ⟨v, B, X', hpost, hsteps⟩ | ⟨q, B, X', hpost, hsteps⟩
  · exact Or.inl ⟨v, vm₁, B, X₁.warmed, X', hpost, fun target h => hstep₁ _ fun acts => by rw [doInvoke_state]; exact hsteps.trans h⟩
  · exact Or.inr ⟨q, vm₁, B, X₁.warmed, X', hpost, hstep₁ _ fun acts => by rw [doInvoke_state]; exact hsteps⟩
theorem vx_callVW (X : Stand p l e R s m args below meth c T locs cells slots) (hexec : p.tables.exec = Jvm.exec) {own C : String} {index : Nat} {y : MethodName} {bytes : ByteArray} {maxL : Nat} {ret : Option FieldType} {hh : List (Nat × Nat × Nat × Nat)}
    (hown : s.vm.findClass own = some m.cls) (hlink : (Cond.methodLink own index y).before args s = true) (hinst : (Cond.instanceMethod y).before args s = true) (hsel : (Cond.selects C y y).before args s = true)
    (hcode : (Cond.codeWith y bytes maxL ret hh).before args s = true) (hy : y.cls ≠ "java/lang/invoke/MethodHandle" ∧ y.cls ≠ "java/lang/invoke/VarHandle")
    {W9 : Nat} {Pre : Pt → Array Value → Prop} {Post : Pt → Array Value → Option Value → Pt → Prop} (hK : Back l R p e below s args y 3 W9 Pre Post)
    {b : Addr} {cellB : Cell} (hcell : T.heap[b]? = some cellB) (hobj : cellB.vm.isStatics = false) (hcls : s.vm.findClass C = some cellB.cls)
    {g : JFrame} (hg : g.method = m) (hsize : g.locals.size = c.maxLocals) {argsL rest : List Value} (hlen : ∀ sig, parseMethodDescriptor y.desc = some sig → argsL.length = sig.parameters.length)
    (hstack : g.stack = argsL.reverse ++ .ref b :: rest) (hW : 2 * g.monitorRoom + (rest.map fun v => v.category).sum ≤ W9) (hdg : decode c.code g.pc = .ok (.invokevirtual index, 3))
    (hpre : ∀ vm₁, s.WarmedH vm₁ → Pre ⟨T.setVm vm₁, locs, cells, slots⟩ (Value.ref b :: argsL).toArray) :
    ∃ (v : Option Value) (vm₁ : Vm) (B : Pt), s.WarmedH vm₁ ∧ Stand p l e R s m args below meth c B.U B.locs B.cells B.slots ∧ Post ⟨T.setVm vm₁, locs, cells, slots⟩ (Value.ref b :: argsL).toArray v B ∧
      ∀ target, Steps p.tables e below (B.U.setTop { g with pc := g.pc + 3, stack := v.toList ++ rest }) target → Steps p.tables e below (T.setTop g) target := by
  obtain ⟨mk, methM, hnamed, hmethM, hstM, habM⟩ := Cond.instanceMethod_spec hinst
  obtain ⟨m8, methM', cM, hn8, hmethM', -, -, -, -, -, -, hsigM⟩ := Cond.codeWith_spec hcode
  cases Option.some.inj (hn8.symm.trans hnamed)
  cases hmethM.symm.trans hmethM'
  obtain ⟨c2, r2, m2, q1, q2, q3, q4, kP, hkP, hkPi⟩ := Cond.selects_spec hsel
  cases hcls.symm.trans q1
  cases (State.methodFound?_of_named hnamed hy).symm.trans q2
  cases hnamed.symm.trans q3
  have hselP : selectMethod e.platform s.vm cellB.cls mk = .method mk := by rw [Launch.admits_selectMethod X.admits]; exact q4
  obtain ⟨vm₁, X₁, hstep₁⟩ := X.invokevirtual hexec hown hlink hnamed hmethM hstM hkP hkPi hy (a := b) (cell := cellB) hcell
    (fun z h => by rw [h] at hobj; cases hobj) hselP hmethM habM hkP hkPi (g := g) hg (argsL := argsL) (rest := rest) (hlen _ hsigM) hstack hdg
  obtain ⟨v, B, X', hpost, hsteps⟩ := hK m meth c ⟨T.setVm vm₁, locs, cells, slots⟩ { g with stack := rest } (.invokevirtual index) mk (Value.ref b :: argsL).toArray X₁ hg hsize hdg hW (X₁.named hnamed) (hpre vm₁ X₁.warmed)
  exact ⟨v, vm₁, B, X₁.warmed, X', hpost, fun target h => hstep₁ _ fun acts => by rw [doInvoke_state]; exact hsteps.trans h⟩
abbrev vx_CVW (R : Room) (s : State) (args : Array Value) (own C : String) (index : Nat) (y : MethodName) (bytes : ByteArray) (maxL : Nat) (ret : Option FieldType) (hh : List (Nat × Nat × Nat × Nat)) (ws : List Cond) (rm : Room) (mc ms n : Nat) : Prop :=
  (rm.cells = mc ∧ rm.slots = ms ∧ rm.frames + 1 ≤ R.frames ∧ 8 + (maxL + 11) + rm.locals ≤ R.locals ∧ (∀ w ∈ ws, ∀ (a' : Array Value) (U : State), s.WarmedH U.vm → w.before a' U = true) ∧ Cond.codeWith y bytes maxL ret hh ∈ ws) ∧
  (Cond.codeWith y bytes maxL ret hh).before args s = true ∧ (Cond.initialized y.cls).before args s = true ∧ (y.cls ≠ "java/lang/invoke/MethodHandle" ∧ y.cls ≠ "java/lang/invoke/VarHandle") ∧
  (∀ sig, parseMethodDescriptor y.desc = some sig → n = sig.parameters.length) ∧ (Cond.methodLink own index y).before args s = true ∧ (Cond.instanceMethod y).before args s = true ∧ (Cond.selects C y y).before args s = true
theorem vx_cwVW {own C : String} {index maxL mc ms : Nat} {y : MethodName} {bytes : ByteArray} {ret : Option FieldType} {hh : List (Nat × Nat × Nat × Nat)} {Ts ws ws' : List Cond} {rm : Room} (n : Nat) (ht : ∀ w ∈ Ts, w.before args s = true) (hT : GoodIn Ts (wsV own index C y ws)) (hw : ws = Cond.codeWith y bytes maxL ret hh :: ws') (hrc : rm.cells = mc) (hrs : rm.slots = ms)
    (hd : y.cls = C ∧ y.cls ≠ "java/lang/invoke/MethodHandle" ∧ y.cls ≠ "java/lang/invoke/VarHandle" ∧ (parseMethodDescriptor y.desc).map (fun d => d.parameters.length) = some n) (hR : rm.frames + 1 ≤ R.frames ∧ 8 + (maxL + 11) + rm.locals ≤ R.locals) :
    vx_CVW R s args own C index y bytes maxL ret hh ws rm mc ms n := by
  obtain ⟨hC, hd⟩ := hd
  subst hC
  have ok : ∀ w ∈ wsV own index y.cls y ws, w.before args s = true := fun w h => ht w (hT w h).1
  have hG : GoodIn Ts ws := fun w h => hT w (by unfold wsV; exact List.mem_append_right _ h)
  have hc : Cond.codeWith y bytes maxL ret hh ∈ ws := by rw [hw]; exact List.mem_cons_self
  refine ⟨⟨hrc, hrs, hR.1, hR.2, pay_in ht hG, hc⟩, ht _ (hG _ hc).1, ok _ (by simp [wsV]), ⟨hd.1, hd.2.1⟩, fun sig h => ?_, ok _ (by simp [wsV]), ok _ (by simp [wsV]), ok _ (by simp [wsV])⟩
  have h2 := hd.2.2
  rw [h] at h2
  exact (Option.some.inj h2).symm
theorem vx_runVW {y : MethodName} {bytes cc : ByteArray} {maxL nL mc ms n index : Nat} {ret : Option FieldType} {hh : List (Nat × Nat × Nat × Nat)} {ws : List Cond} {rm : Room} {Pc : Array Value → State → Prop} {Qc : Array Value → State → Outcome → State → Prop} {free : Addr → Prop} {Ts : List Cond} {own C : String} {b : Addr} {As rest : List Value} {g : JFrame}
    (S : CallFix p m c cc nL s args Ts own) (hM : Met l y ws rm Pc Qc mc ms free) (cw : vx_CVW R s args own C index y bytes maxL ret hh ws rm mc ms n) (hp : PreV s H C b Pc As)
    (hg : g.method = m) (hn : As.length = n) (hsize : g.locals.size = nL) (hstack : g.stack = As.reverse ++ .ref b :: rest) (hW : 2 * g.monitorRoom + (rest.map fun v => v.category).sum ≤ 8) (hdg : decode cc g.pc = .ok (.invokevirtual index, 3)) (hf : cells + mc ≤ R.cells ∧ slots + ms ≤ R.slots) :
    va_Run p l e R s m args below meth c H locs cells slots mc ms g rest (Qc (Value.ref b :: As).toArray) free := by
  obtain ⟨⟨hrc, hrs, hfr, hlo, hws, hcw⟩, hcode, hini, hy, hlen, hl, hin, hse⟩ := cw
  have hK : Back l R p e below s args y 3 8 (PreOf R mc ms Pc) (PostOf Qc mc ms free) := va_backW (hh := hh) (bytes := bytes) (maxL := maxL) (ret := ret) hM hp.1 hrc hrs hfr hlo hws hcw (fun a' U hW => word_at hW (Or.inl (by first | rfl | simp [Cond.onTables, Cond.keeps, Cond.steady])) hini)
  obtain ⟨hx, hb, hml, ho, -⟩ := S
  obtain ⟨-, ⟨cellB, hcB, hoB, hclB⟩, hPc⟩ := hp
  intro T hT X
  obtain ⟨v, vm₁, ⟨U', l2, c2, s2⟩, hW₁, X', ⟨g', mk, t, L, e1, e2, hq, h1, hL, h2, h3⟩, st⟩ := vx_callVW X hx (C := C) (hh := hh) (bytes := bytes) (maxL := maxL) (ret := ret) ho hl hin hse hcode hy hK (by rw [hT]; exact hcB) hoB hclB hg (hsize.trans hml.symm) (argsL := As) (rest := rest) (fun sig h => hn.trans (hlen sig h)) hstack hW (by rw [hb]; exact hdg)
    (fun vm₁ hW₁ => ⟨hf.1, hf.2, hPc (T.setVm vm₁) hT hW₁⟩)
  dsimp only [Pt.U, Pt.locs, Pt.cells, Pt.slots] at X' e1 e2 h1 h2 h3 st
  subst h1; subst h2; subst h3
  exact ⟨v, (T.setVm vm₁).calling g' mk (Value.ref b :: As).toArray, t, U', L, hT, X', hL, e1, e2, hq, st⟩
section
variable {y : MethodName} {bytes cc : ByteArray} {maxL nL mc ms n index : Nat} {ret : Option FieldType} {ws : List Cond} {rm : Room} {Pc : Array Value → State → Prop} {Qc : Array Value → State → Outcome → State → Prop} {XC : String → State → State → Prop} {free : Addr → Prop} {Ts : List Cond} {own C : String} {b : Addr} {As rest : List Value} {g : JFrame}
theorem vx_runVX {hh : List (Nat × Nat × Nat × Nat)} (S : CallFix p m c cc nL s args Ts own) (hM : vx_Met l y ws rm Pc Qc XC mc ms free) (cw : vx_CVW R s args own C index y bytes maxL ret hh ws rm mc ms n) (hp : PreV s H C b Pc As)
    (hg : g.method = m) (hn : As.length = n) (hsize : g.locals.size = nL) (hstack : g.stack = As.reverse ++ .ref b :: rest) (hW : 2 * g.monitorRoom + (rest.map fun v => v.category).sum ≤ 8) (hdg : decode cc g.pc = .ok (.invokevirtual index, 3)) (hf : cells + mc ≤ R.cells ∧ slots + ms ≤ R.slots) :
    vx_Run p l e R s m args below meth c H locs cells slots mc ms g rest (Qc (Value.ref b :: As).toArray) XC free := by
  obtain ⟨⟨hrc, hrs, hfr, hlo, hws, hcw⟩, hcode, hini, hy, hlen, hl, hin, hse⟩ := cw
  have hK : vx_Back l R p e below s args y 3 8 (PreOf R mc ms Pc) (PostOf Qc mc ms free) (vx_Post XC mc ms free) := vx_backW (hh := hh) (bytes := bytes) (maxL := maxL) (ret := ret) hM hp.1 hrc hrs hfr hlo hws hcw (fun a' U hW => word_at hW (Or.inl (by first | rfl | simp [Cond.onTables, Cond.keeps, Cond.steady])) hini)
  obtain ⟨hx, hb, hml, ho, -⟩ := S
  obtain ⟨-, ⟨cellB, hcB, hoB, hclB⟩, hPc⟩ := hp
  intro T hT X
  rcases vx_callVX X hx (C := C) (hh := hh) (bytes := bytes) (maxL := maxL) (ret := ret) ho hl hin hse hcode hy hK (by rw [hT]; exact hcB) hoB hclB hg (hsize.trans hml.symm) (argsL := As) (rest := rest) (fun sig h => hn.trans (hlen sig h)) hstack hW (by rw [hb]; exact hdg)
    (fun vm₁ hW₁ => ⟨hf.1, hf.2, hPc (T.setVm vm₁) hT hW₁⟩) with ⟨v, vm₁, ⟨U', l2, c2, s2⟩, hW₁, X', ⟨g', mk, t, L, e1, e2, hq, h1, hL, h2, h3⟩, st⟩ | ⟨q, vm₁, ⟨U', l2, c2, s2⟩, hW₁, X', ⟨g', mk, t, L, E, ce, e1, e2, hq, hce, hcv, hcl, h1, hL, h2, h3⟩, st⟩
  · dsimp only [Pt.U, Pt.locs, Pt.cells, Pt.slots] at X' e1 e2 h1 h2 h3 st
    subst h1; subst h2; subst h3
    exact Or.inl ⟨v, (T.setVm vm₁).calling g' mk (Value.ref b :: As).toArray, t, U', L, hT, X', hL, e1, e2, hq, st⟩
  · dsimp only [Pt.U, Pt.locs, Pt.cells, Pt.slots] at X' e1 e2 h1 h2 h3 st hcl
    subst h1; subst h2; subst h3
    exact Or.inr ⟨q, (T.setVm vm₁).calling g' mk (Value.ref b :: As).toArray, t, U', L, E, ce, hT, X', hL, e1, e2, hq, hce, hcv, vx_cls hW₁ hcl, st⟩
theorem vx_runSX {hh : List (Nat × Nat × Nat × Nat)} (S : CallFix p m c cc nL s args Ts own) (hM : vx_Met l y ws rm Pc Qc XC mc ms free) (cw : vx_CSW R s args own index y bytes maxL ret hh ws rm mc ms n) (hp : PreS s H Pc As)
    (hg : g.method = m) (hn : As.length = n) (hsize : g.locals.size = nL) (hstack : g.stack = As.reverse ++ rest) (hW : 2 * g.monitorRoom + (rest.map fun v => v.category).sum ≤ 8) (hdg : decode cc g.pc = .ok (.invokestatic index, 3)) (hf : cells + mc ≤ R.cells ∧ slots + ms ≤ R.slots) :
    vx_Run p l e R s m args below meth c H locs cells slots mc ms g rest (Qc As.toArray) XC free := by
  obtain ⟨⟨hrc, hrs, hfr, hlo, hws, hcw⟩, hcode, hini, hy, hlen, hl, hstt⟩ := cw
  have hK : vx_Back l R p e below s args y 3 8 (PreOf R mc ms Pc) (PostOf Qc mc ms free) (vx_Post XC mc ms free) := vx_backW (hh := hh) (bytes := bytes) (maxL := maxL) (ret := ret) hM hp.1 hrc hrs hfr hlo hws hcw (fun a' U hW => word_at hW (Or.inl (by first | rfl | simp [Cond.onTables, Cond.keeps, Cond.steady])) hini)
  obtain ⟨hx, hb, hml, ho, -⟩ := S
  intro T hT X
  rcases vx_callSX X hx (hh := hh) (bytes := bytes) (maxL := maxL) (ret := ret) ho hl hstt hini hcode hy hK hg (hsize.trans hml.symm) (argsL := As) (rest := rest) (fun sig h => hn.trans (hlen sig h)) hstack hW (by rw [hb]; exact hdg)
    (fun vm₁ hW₁ => ⟨hf.1, hf.2, hp.2 (T.setVm vm₁) hT hW₁⟩) with ⟨v, vm₁, ⟨U', l2, c2, s2⟩, hW₁, X', ⟨g', mk, t, L, e1, e2, hq, h1, hL, h2, h3⟩, st⟩ | ⟨q, vm₁, ⟨U', l2, c2, s2⟩, hW₁, X', ⟨g', mk, t, L, E, ce, e1, e2, hq, hce, hcv, hcl, h1, hL, h2, h3⟩, st⟩
  · dsimp only [Pt.U, Pt.locs, Pt.cells, Pt.slots] at X' e1 e2 h1 h2 h3 st
    subst h1; subst h2; subst h3
    exact Or.inl ⟨v, (T.setVm vm₁).calling g' mk As.toArray, t, U', L, hT, X', hL, e1, e2, hq, st⟩
  · dsimp only [Pt.U, Pt.locs, Pt.cells, Pt.slots] at X' e1 e2 h1 h2 h3 st hcl
    subst h1; subst h2; subst h3
    exact Or.inr ⟨q, (T.setVm vm₁).calling g' mk As.toArray, t, U', L, E, ce, hT, X', hL, e1, e2, hq, hce, hcv, vx_cls hW₁ hcl, st⟩
end
end VXH
theorem vx_ofWH {l : Launch} {y : MethodName} {ws ws' : List Cond} {rm : Room} {Pc : Array Value → State → Prop} {Qc : Array Value → State → Outcome → State → Prop} {XC : String → State → State → Prop} {mc ms : Nat} {free : Addr → Prop} {cc : ByteArray} {maxL : Nat} {ret : Option FieldType} {hh : List (Nat × Nat × Nat × Nat)}
    (hy : plainName y.cls = true) (hw : ws = Cond.codeWith y cc maxL ret hh :: ws')
    (body : ∀ p e s m args below meth c s₁, BodyLoose p l y (headSpec ws rm) cc maxL ret e s m args below meth c s₁ → c.maxLocals = maxL → Pc args s →
      W p l e (headSpec ws rm).room s m args below meth c s.heap [] 0 0 (vx_MQ below Qc XC args s mc ms free) (entryFrame m args maxL)) : vx_Met l y ws rm Pc Qc XC mc ms free := by
  refine MetFree.of_bodyS (code := cc) (maxLocals := maxL) (ret := ret) hy ?_ ?_
  · intro args s m h hn
    obtain ⟨m9, meth, c, hn9, h1, h2, h3, h4, -, h5, h6, -⟩ := Cond.codeWith_spec (atoms_spec (ws := ws) h _ (by rw [hw]; exact List.mem_cons_self))
    cases hn.symm.trans hn9
    exact ⟨meth, c, h1, h2, h3, h4, h5, h6⟩
  · intro p e s m args below meth c s₁ B hml hP _
    have hh0 : s₁.heap = s.heap := by rw [B.state]; rfl
    obtain ⟨t, a1, o, b1, b2, b3⟩ := body p e s m args below meth c s₁ B hml hP s₁ hh0 (Stand.of_body B)
    exact ⟨t, o, a1, b1, b2, b3⟩
/-! ===== END ===== -/
end
section
/-! ===== BEGIN printed: names, fields, word lists, decode rows ===== -/
def RX0 : String := "WhatToRead$Asking"
def TX0 : u_T := fun k => match k with
  | 0 => ("WhatToRead$Asking", "sets", "[I", true)
  | 1 => ("WhatToRead$Asking", "scratch", "[I", true)
  | 2 => ("WhatToRead$Asking", "count", "I", false)
  | _ => ("WhatToRead$Asking", "answered", "I", false)
def tyX0 : Nat → FieldType := fun k => match k with
  | 0 => .array .int
  | 1 => .array .int
  | 2 => .int
  | _ => .int
abbrev wsX00 : List Cond := u_ws RX0 TX0 4
theorem nmX0 : ∀ a, a < 4 → ∀ b, b < 4 → a ≠ b → (TX0 a).2.1 ≠ (TX0 b).2.1 := by decide +kernel
theorem tyX0_ok : ∀ k, k < 4 → parseFieldDescriptor (TX0 k).2.2.1 = some (tyX0 k) := by decide +kernel
abbrev cX0_init : ByteArray := prog_2_method_1_code
def yX0_init : MethodName := ⟨RX0, "<init>", "()V"⟩
abbrev cX0_size : ByteArray := prog_2_method_2_code
def yX0_size : MethodName := ⟨RX0, "size", "()I"⟩
abbrev cX0_at : ByteArray := prog_2_method_3_code
def yX0_at : MethodName := ⟨RX0, "at", "(I)I"⟩
abbrev cX0_startAnew : ByteArray := prog_2_method_4_code
def yX0_startAnew : MethodName := ⟨RX0, "startAnew", "()V"⟩
abbrev cX0_addTopic : ByteArray := prog_2_method_5_code
def yX0_addTopic : MethodName := ⟨RX0, "addTopic", "(II)V"⟩
abbrev cX0_accept : ByteArray := prog_2_method_6_code
def yX0_accept : MethodName := ⟨RX0, "accept", "(IZ)I"⟩
abbrev cX0_keep : ByteArray := prog_2_method_7_code
def yX0_keep : MethodName := ⟨RX0, "keep", "(IZ)V"⟩
abbrev cX0_inCommon : ByteArray := prog_2_method_8_code
def yX0_inCommon : MethodName := ⟨RX0, "inCommon", "()I"⟩
abbrev cX0_nextQuestion : ByteArray := prog_2_method_9_code
def yX0_nextQuestion : MethodName := ⟨RX0, "nextQuestion", "()I"⟩
abbrev cX0_mostQuestions : ByteArray := prog_2_method_10_code
def yX0_mostQuestions : MethodName := ⟨RX0, "mostQuestions", "()I"⟩
abbrev cX0_questionsUntilOne : ByteArray := prog_2_method_11_code
def yX0_questionsUntilOne : MethodName := ⟨RX0, "questionsUntilOne", "([IIII)I"⟩
abbrev cX0_bestTopic : ByteArray := prog_2_method_12_code
def yX0_bestTopic : MethodName := ⟨RX0, "bestTopic", "([III)I"⟩
abbrev cX0_countHaving : ByteArray := prog_2_method_13_code
def yX0_countHaving : MethodName := ⟨RX0, "countHaving", "([IIII)I"⟩
abbrev cX0_split : ByteArray := prog_2_method_14_code
def yX0_split : MethodName := ⟨RX0, "split", "([IIII)I"⟩
abbrev cX0_has : ByteArray := prog_2_method_15_code
def yX0_has : MethodName := ⟨RX0, "has", "(II)Z"⟩
def RX1 : String := "WhatToRead$Piece"
def TX1 : u_T := fun k => match k with
  | 0 => ("WhatToRead$Piece", "needs", "I", true)
  | 1 => ("WhatToRead$Piece", "either", "I", true)
  | 2 => ("WhatToRead$Piece", "given", "I", true)
  | 3 => ("WhatToRead$Piece", "skimmed", "I", true)
  | _ => ("WhatToRead$Piece", "pages", "I", true)
def tyX1 : Nat → FieldType := fun k => match k with
  | 0 => .int
  | 1 => .int
  | 2 => .int
  | 3 => .int
  | _ => .int
abbrev wsX10 : List Cond := u_ws RX1 TX1 5
theorem nmX1 : ∀ a, a < 5 → ∀ b, b < 5 → a ≠ b → (TX1 a).2.1 ≠ (TX1 b).2.1 := by decide +kernel
theorem tyX1_ok : ∀ k, k < 5 → parseFieldDescriptor (TX1 k).2.2.1 = some (tyX1 k) := by decide +kernel
abbrev cX1_init : ByteArray := prog_3_method_1_code
def yX1_init : MethodName := ⟨RX1, "<init>", "(IIIII)V"⟩
abbrev cX1_isOpenTo : ByteArray := prog_3_method_2_code
def yX1_isOpenTo : MethodName := ⟨RX1, "isOpenTo", "(I)Z"⟩
abbrev cX1_needed : ByteArray := prog_3_method_3_code
def yX1_needed : MethodName := ⟨RX1, "needed", "()I"⟩
abbrev cX1_brings : ByteArray := prog_3_method_4_code
def yX1_brings : MethodName := ⟨RX1, "brings", "(Z)I"⟩
abbrev cX1_minutesAt : ByteArray := prog_3_method_5_code
def yX1_minutesAt : MethodName := ⟨RX1, "minutesAt", "(IZ)I"⟩
def RX2 : String := "WhatToRead$Row"
def TX2 : u_T := fun k => match k with
  | 0 => ("WhatToRead$Row", "items", "[I", true)
  | _ => ("WhatToRead$Row", "count", "I", false)
def tyX2 : Nat → FieldType := fun k => match k with
  | 0 => .array .int
  | _ => .int
abbrev wsX20 : List Cond := u_ws RX2 TX2 2
theorem nmX2 : ∀ a, a < 2 → ∀ b, b < 2 → a ≠ b → (TX2 a).2.1 ≠ (TX2 b).2.1 := by decide +kernel
theorem tyX2_ok : ∀ k, k < 2 → parseFieldDescriptor (TX2 k).2.2.1 = some (tyX2 k) := by decide +kernel
abbrev cX2_init : ByteArray := prog_4_method_1_code
def yX2_init : MethodName := ⟨RX2, "<init>", "()V"⟩
abbrev cX2_size : ByteArray := prog_4_method_2_code
def yX2_size : MethodName := ⟨RX2, "size", "()I"⟩
abbrev cX2_at : ByteArray := prog_4_method_3_code
def yX2_at : MethodName := ⟨RX2, "at", "(I)I"⟩
abbrev cX2_clear : ByteArray := prog_4_method_4_code
def yX2_clear : MethodName := ⟨RX2, "clear", "()V"⟩
abbrev cX2_add : ByteArray := prog_4_method_5_code
def yX2_add : MethodName := ⟨RX2, "add", "(I)V"⟩
abbrev cX2_become : ByteArray := prog_4_method_6_code
def yX2_become : MethodName := ⟨RX2, "become", "(LWhatToRead$Row;)V"⟩
def RX3 : String := "WhatToRead$Shelf"
def TX3 : u_T := fun k => match k with
  | 0 => ("WhatToRead$Shelf", "pieces", "Ljava/util/List;", true)
  | _ => ("WhatToRead$Shelf", "pace", "I", false)
def tyX3 : Nat → FieldType := fun k => match k with
  | 0 => .object "java/util/List"
  | _ => .int
abbrev wsX30 : List Cond := u_ws RX3 TX3 2
theorem nmX3 : ∀ a, a < 2 → ∀ b, b < 2 → a ≠ b → (TX3 a).2.1 ≠ (TX3 b).2.1 := by decide +kernel
theorem tyX3_ok : ∀ k, k < 2 → parseFieldDescriptor (TX3 k).2.2.1 = some (tyX3 k) := by decide +kernel
abbrev cX3_init : ByteArray := prog_5_method_1_code
def yX3_init : MethodName := ⟨RX3, "<init>", "()V"⟩
abbrev cX3_size : ByteArray := prog_5_method_2_code
def yX3_size : MethodName := ⟨RX3, "size", "()I"⟩
abbrev cX3_currentPace : ByteArray := prog_5_method_3_code
def yX3_currentPace : MethodName := ⟨RX3, "currentPace", "()I"⟩
abbrev cX3_changePace : ByteArray := prog_5_method_4_code
def yX3_changePace : MethodName := ⟨RX3, "changePace", "(I)I"⟩
abbrev cX3_add : ByteArray := prog_5_method_5_code
def yX3_add : MethodName := ⟨RX3, "add", "(LWhatToRead$Piece;)I"⟩
abbrev cX3_removeLast : ByteArray := prog_5_method_6_code
def yX3_removeLast : MethodName := ⟨RX3, "removeLast", "()I"⟩
abbrev cX3_pieceOf : ByteArray := prog_5_method_7_code
def yX3_pieceOf : MethodName := ⟨RX3, "pieceOf", "(I)LWhatToRead$Piece;"⟩
abbrev cX3_minutesOf : ByteArray := prog_5_method_8_code
def yX3_minutesOf : MethodName := ⟨RX3, "minutesOf", "(I)I"⟩
abbrev cX3_readAllOpenTo : ByteArray := prog_5_method_9_code
def yX3_readAllOpenTo : MethodName := ⟨RX3, "readAllOpenTo", "(I)I"⟩
abbrev cX3_allNeeded : ByteArray := prog_5_method_10_code
def yX3_allNeeded : MethodName := ⟨RX3, "allNeeded", "()I"⟩
abbrev cX3_allGiven : ByteArray := prog_5_method_11_code
def yX3_allGiven : MethodName := ⟨RX3, "allGiven", "()I"⟩
def RX4 : String := "WhatToRead$Topics"
def TX4 : u_T := fun k => match k with
  | 0 => ("WhatToRead$Topics", "worths", "[I", true)
  | 1 => ("WhatToRead$Topics", "closures", "[I", true)
  | _ => ("WhatToRead$Topics", "count", "I", false)
def tyX4 : Nat → FieldType := fun k => match k with
  | 0 => .array .int
  | 1 => .array .int
  | _ => .int
abbrev wsX40 : List Cond := u_ws RX4 TX4 3
theorem nmX4 : ∀ a, a < 3 → ∀ b, b < 3 → a ≠ b → (TX4 a).2.1 ≠ (TX4 b).2.1 := by decide +kernel
theorem tyX4_ok : ∀ k, k < 3 → parseFieldDescriptor (TX4 k).2.2.1 = some (tyX4 k) := by decide +kernel
abbrev cX4_init : ByteArray := prog_6_method_1_code
def yX4_init : MethodName := ⟨RX4, "<init>", "()V"⟩
abbrev cX4_size : ByteArray := prog_6_method_2_code
def yX4_size : MethodName := ⟨RX4, "size", "()I"⟩
abbrev cX4_haveAll : ByteArray := prog_6_method_3_code
def yX4_haveAll : MethodName := ⟨RX4, "haveAll", "(I)Z"⟩
abbrev cX4_add : ByteArray := prog_6_method_4_code
def yX4_add : MethodName := ⟨RX4, "add", "(II)I"⟩
abbrev cX4_closure : ByteArray := prog_6_method_5_code
def yX4_closure : MethodName := ⟨RX4, "closure", "(I)I"⟩
abbrev cX4_impliedBy : ByteArray := prog_6_method_6_code
def yX4_impliedBy : MethodName := ⟨RX4, "impliedBy", "(I)I"⟩
abbrev cX4_worthOf : ByteArray := prog_6_method_7_code
def yX4_worthOf : MethodName := ⟨RX4, "worthOf", "(I)I"⟩
def RX5 : String := "WhatToRead$Ways"
def TX5 : u_T := fun k => match k with
  | 0 => ("WhatToRead$Ways", "costs", "[I", true)
  | 1 => ("WhatToRead$Ways", "rows", "[J", true)
  | _ => ("WhatToRead$Ways", "sets", "I", false)
def tyX5 : Nat → FieldType := fun k => match k with
  | 0 => .array .int
  | 1 => .array .long
  | _ => .int
abbrev wsX50 : List Cond := u_ws RX5 TX5 3
theorem nmX5 : ∀ a, a < 3 → ∀ b, b < 3 → a ≠ b → (TX5 a).2.1 ≠ (TX5 b).2.1 := by decide +kernel
theorem tyX5_ok : ∀ k, k < 3 → parseFieldDescriptor (TX5 k).2.2.1 = some (tyX5 k) := by decide +kernel
abbrev cX5_init : ByteArray := prog_7_method_1_code
def yX5_init : MethodName := ⟨RX5, "<init>", "()V"⟩
abbrev cX5_explore : ByteArray := prog_7_method_2_code
def yX5_explore : MethodName := ⟨RX5, "explore", "(LWhatToRead$Shelf;III)V"⟩
abbrev cX5_goOnFrom : ByteArray := prog_7_method_3_code
def yX5_goOnFrom : MethodName := ⟨RX5, "goOnFrom", "(ILWhatToRead$Shelf;I)V"⟩
abbrev cX5_offer : ByteArray := prog_7_method_4_code
def yX5_offer : MethodName := ⟨RX5, "offer", "(IIII)V"⟩
abbrev cX5_isBefore : ByteArray := prog_7_method_5_code
def yX5_isBefore : MethodName := ⟨RX5, "isBefore", "(IJI)Z"⟩
abbrev cX5_isBetter : ByteArray := prog_7_method_6_code
def yX5_isBetter : MethodName := ⟨RX5, "isBetter", "(II)Z"⟩
abbrev cX5_endWith : ByteArray := prog_7_method_7_code
def yX5_endWith : MethodName := ⟨RX5, "endWith", "(I)I"⟩
abbrev cX5_richestEnd : ByteArray := prog_7_method_8_code
def yX5_richestEnd : MethodName := ⟨RX5, "richestEnd", "(LWhatToRead$Topics;I)I"⟩
abbrev cX5_minutesTo : ByteArray := prog_7_method_9_code
def yX5_minutesTo : MethodName := ⟨RX5, "minutesTo", "(I)I"⟩
abbrev cX5_copyRow : ByteArray := prog_7_method_10_code
def yX5_copyRow : MethodName := ⟨RX5, "copyRow", "(ILWhatToRead$Row;)V"⟩
def RX6 : String := "WhatToRead$Weeks"
def TX6 : u_T := fun k => match k with
  | 0 => ("WhatToRead$Weeks", "minutes", "[I", true)
  | 1 => ("WhatToRead$Weeks", "laidWeeks", "LWhatToRead$Row;", true)
  | _ => ("WhatToRead$Weeks", "draft", "LWhatToRead$Row;", true)
def tyX6 : Nat → FieldType := fun k => match k with
  | 0 => .array .int
  | 1 => .object "WhatToRead$Row"
  | _ => .object "WhatToRead$Row"
abbrev wsX60 : List Cond := u_ws RX6 TX6 3
theorem nmX6 : ∀ a, a < 3 → ∀ b, b < 3 → a ≠ b → (TX6 a).2.1 ≠ (TX6 b).2.1 := by decide +kernel
theorem tyX6_ok : ∀ k, k < 3 → parseFieldDescriptor (TX6 k).2.2.1 = some (tyX6 k) := by decide +kernel
abbrev cX6_init : ByteArray := prog_8_method_1_code
def yX6_init : MethodName := ⟨RX6, "<init>", "()V"⟩
abbrev cX6_change : ByteArray := prog_8_method_2_code
def yX6_change : MethodName := ⟨RX6, "change", "(II)V"⟩
abbrev cX6_weekOf : ByteArray := prog_8_method_3_code
def yX6_weekOf : MethodName := ⟨RX6, "weekOf", "(I)I"⟩
abbrev cX6_layRow : ByteArray := prog_8_method_4_code
def yX6_layRow : MethodName := ⟨RX6, "layRow", "(LWhatToRead$Row;LWhatToRead$Shelf;I)I"⟩
def RX7 : String := "WhatToRead"
def TX7 : u_T := fun k => match k with
  | 0 => ("WhatToRead", "topics", "LWhatToRead$Topics;", true)
  | 1 => ("WhatToRead", "shelf", "LWhatToRead$Shelf;", true)
  | 2 => ("WhatToRead", "ways", "LWhatToRead$Ways;", true)
  | 3 => ("WhatToRead", "row", "LWhatToRead$Row;", true)
  | 4 => ("WhatToRead", "weeks", "LWhatToRead$Weeks;", true)
  | 5 => ("WhatToRead", "asking", "LWhatToRead$Asking;", true)
  | _ => ("WhatToRead", "known", "I", false)
def tyX7 : Nat → FieldType := fun k => match k with
  | 0 => .object "WhatToRead$Topics"
  | 1 => .object "WhatToRead$Shelf"
  | 2 => .object "WhatToRead$Ways"
  | 3 => .object "WhatToRead$Row"
  | 4 => .object "WhatToRead$Weeks"
  | 5 => .object "WhatToRead$Asking"
  | _ => .int
abbrev wsX70 : List Cond := u_ws RX7 TX7 7
theorem nmX7 : ∀ a, a < 7 → ∀ b, b < 7 → a ≠ b → (TX7 a).2.1 ≠ (TX7 b).2.1 := by decide +kernel
theorem tyX7_ok : ∀ k, k < 7 → parseFieldDescriptor (TX7 k).2.2.1 = some (tyX7 k) := by decide +kernel
abbrev cX7_init : ByteArray := prog_1_method_1_code
def yX7_init : MethodName := ⟨RX7, "<init>", "()V"⟩
abbrev cX7_topic : ByteArray := prog_1_method_2_code
def yX7_topic : MethodName := ⟨RX7, "topic", "(II)I"⟩
abbrev cX7_piece : ByteArray := prog_1_method_3_code
def yX7_piece : MethodName := ⟨RX7, "piece", "(IIIII)I"⟩
abbrev cX7_drop : ByteArray := prog_1_method_4_code
def yX7_drop : MethodName := ⟨RX7, "drop", "()I"⟩
abbrev cX7_pace : ByteArray := prog_1_method_5_code
def yX7_pace : MethodName := ⟨RX7, "pace", "(I)I"⟩
abbrev cX7_know : ByteArray := prog_1_method_6_code
def yX7_know : MethodName := ⟨RX7, "know", "(I)I"⟩
abbrev cX7_count : ByteArray := prog_1_method_7_code
def yX7_count : MethodName := ⟨RX7, "count", "(I)I"⟩
abbrev cX7_with : ByteArray := prog_1_method_8_code
def yX7_with : MethodName := ⟨RX7, "with", "(I)I"⟩
abbrev cX7_minutes : ByteArray := prog_1_method_9_code
def yX7_minutes : MethodName := ⟨RX7, "minutes", "(I)I"⟩
abbrev cX7_can : ByteArray := prog_1_method_10_code
def yX7_can : MethodName := ⟨RX7, "can", "(I)I"⟩
abbrev cX7_done : ByteArray := prog_1_method_11_code
def yX7_done : MethodName := ⟨RX7, "done", "(I)I"⟩
abbrev cX7_way : ByteArray := prog_1_method_12_code
def yX7_way : MethodName := ⟨RX7, "way", "(I)I"⟩
abbrev cX7_step : ByteArray := prog_1_method_13_code
def yX7_step : MethodName := ⟨RX7, "step", "(I)I"⟩
abbrev cX7_most : ByteArray := prog_1_method_14_code
def yX7_most : MethodName := ⟨RX7, "most", "(I)I"⟩
abbrev cX7_reach : ByteArray := prog_1_method_15_code
def yX7_reach : MethodName := ⟨RX7, "reach", "()I"⟩
abbrev cX7_gaps : ByteArray := prog_1_method_16_code
def yX7_gaps : MethodName := ⟨RX7, "gaps", "()I"⟩
abbrev cX7_shortens : ByteArray := prog_1_method_17_code
def yX7_shortens : MethodName := ⟨RX7, "shortens", "(II)I"⟩
abbrev cX7_week : ByteArray := prog_1_method_18_code
def yX7_week : MethodName := ⟨RX7, "week", "(II)Z"⟩
abbrev cX7_lay : ByteArray := prog_1_method_19_code
def yX7_lay : MethodName := ⟨RX7, "lay", "(I)I"⟩
abbrev cX7_laid : ByteArray := prog_1_method_20_code
def yX7_laid : MethodName := ⟨RX7, "laid", "(I)I"⟩
abbrev cX7_answer : ByteArray := prog_1_method_21_code
def yX7_answer : MethodName := ⟨RX7, "answer", "(IZ)I"⟩
abbrev cX7_ask : ByteArray := prog_1_method_22_code
def yX7_ask : MethodName := ⟨RX7, "ask", "()I"⟩
abbrev cX7_states : ByteArray := prog_1_method_23_code
def yX7_states : MethodName := ⟨RX7, "states", "()I"⟩
abbrev cX7_question : ByteArray := prog_1_method_24_code
def yX7_question : MethodName := ⟨RX7, "question", "()I"⟩
abbrev cX7_worst : ByteArray := prog_1_method_25_code
def yX7_worst : MethodName := ⟨RX7, "worst", "()I"⟩
abbrev cX7_settle : ByteArray := prog_1_method_26_code
def yX7_settle : MethodName := ⟨RX7, "settle", "()I"⟩
abbrev cX7_state : ByteArray := prog_1_method_27_code
def yX7_state : MethodName := ⟨RX7, "state", "(I)I"⟩
abbrev cX7_endOfBestWay : ByteArray := prog_1_method_28_code
def yX7_endOfBestWay : MethodName := ⟨RX7, "endOfBestWay", "(II)I"⟩
abbrev cX7_isWithin : ByteArray := prog_1_method_29_code
def yX7_isWithin : MethodName := ⟨RX7, "isWithin", "(III)Z"⟩
abbrev cX7_isSkimmed : ByteArray := prog_1_method_30_code
def yX7_isSkimmed : MethodName := ⟨RX7, "isSkimmed", "(I)Z"⟩
def RX8 : String := "WhatToReadModel"
def TX8 : u_T := fun k => match k with
  | 0 => ("WhatToReadModel", "worth", "[I", true)
  | 1 => ("WhatToReadModel", "implies", "[I", true)
  | 2 => ("WhatToReadModel", "topics", "I", false)
  | 3 => ("WhatToReadModel", "needs", "[I", true)
  | 4 => ("WhatToReadModel", "either", "[I", true)
  | 5 => ("WhatToReadModel", "gives", "[I", true)
  | 6 => ("WhatToReadModel", "skim", "[I", true)
  | 7 => ("WhatToReadModel", "pages", "[I", true)
  | 8 => ("WhatToReadModel", "pieces", "I", false)
  | 9 => ("WhatToReadModel", "pace", "I", false)
  | 10 => ("WhatToReadModel", "known", "I", false)
  | 11 => ("WhatToReadModel", "row", "[I", true)
  | 12 => ("WhatToReadModel", "rowMany", "I", false)
  | 13 => ("WhatToReadModel", "week", "[I", true)
  | 14 => ("WhatToReadModel", "laid", "[I", true)
  | 15 => ("WhatToReadModel", "laidMany", "I", false)
  | 16 => ("WhatToReadModel", "answers", "[I", true)
  | 17 => ("WhatToReadModel", "thrown", "I", false)
  | 18 => ("WhatToReadModel", "cost", "[I", true)
  | 19 => ("WhatToReadModel", "steps", "[I", true)
  | 20 => ("WhatToReadModel", "without", "I", false)
  | 21 => ("WhatToReadModel", "isGood", "[Z", true)
  | 22 => ("WhatToReadModel", "place", "[I", true)
  | _ => ("WhatToReadModel", "row64", "[I", true)
def tyX8 : Nat → FieldType := fun k => match k with
  | 0 => .array .int
  | 1 => .array .int
  | 2 => .int
  | 3 => .array .int
  | 4 => .array .int
  | 5 => .array .int
  | 6 => .array .int
  | 7 => .array .int
  | 8 => .int
  | 9 => .int
  | 10 => .int
  | 11 => .array .int
  | 12 => .int
  | 13 => .array .int
  | 14 => .array .int
  | 15 => .int
  | 16 => .array .int
  | 17 => .int
  | 18 => .array .int
  | 19 => .array .int
  | 20 => .int
  | 21 => .array .boolean
  | 22 => .array .int
  | _ => .array .int
abbrev wsX80 : List Cond := u_ws RX8 TX8 24
theorem nmX8 : ∀ a, a < 24 → ∀ b, b < 24 → a ≠ b → (TX8 a).2.1 ≠ (TX8 b).2.1 := by decide +kernel
theorem tyX8_ok : ∀ k, k < 24 → parseFieldDescriptor (TX8 k).2.2.1 = some (tyX8 k) := by decide +kernel
abbrev cX8_init : ByteArray := prog_10_method_1_code
def yX8_init : MethodName := ⟨RX8, "<init>", "()V"⟩
abbrev cX8_thrown : ByteArray := prog_10_method_2_code
def yX8_thrown : MethodName := ⟨RX8, "thrown", "()I"⟩
abbrev cX8_in : ByteArray := prog_10_method_3_code
def yX8_in : MethodName := ⟨RX8, "in", "(III)Z"⟩
abbrev cX8_areBits : ByteArray := prog_10_method_4_code
def yX8_areBits : MethodName := ⟨RX8, "areBits", "(I)Z"⟩
abbrev cX8_isStep : ByteArray := prog_10_method_5_code
def yX8_isStep : MethodName := ⟨RX8, "isStep", "(I)Z"⟩
abbrev cX8_withAll : ByteArray := prog_10_method_6_code
def yX8_withAll : MethodName := ⟨RX8, "withAll", "(I)I"⟩
abbrev cX8_topic : ByteArray := prog_10_method_7_code
def yX8_topic : MethodName := ⟨RX8, "topic", "(II)I"⟩
abbrev cX8_piece : ByteArray := prog_10_method_8_code
def yX8_piece : MethodName := ⟨RX8, "piece", "(IIIII)I"⟩
abbrev cX8_drop : ByteArray := prog_10_method_9_code
def yX8_drop : MethodName := ⟨RX8, "drop", "()I"⟩
abbrev cX8_pace : ByteArray := prog_10_method_10_code
def yX8_pace : MethodName := ⟨RX8, "pace", "(I)I"⟩
abbrev cX8_know : ByteArray := prog_10_method_11_code
def yX8_know : MethodName := ⟨RX8, "know", "(I)I"⟩
abbrev cX8_worthOf : ByteArray := prog_10_method_12_code
def yX8_worthOf : MethodName := ⟨RX8, "worthOf", "(I)I"⟩
abbrev cX8_count : ByteArray := prog_10_method_13_code
def yX8_count : MethodName := ⟨RX8, "count", "(I)I"⟩
abbrev cX8_with : ByteArray := prog_10_method_14_code
def yX8_with : MethodName := ⟨RX8, "with", "(I)I"⟩
abbrev cX8_time : ByteArray := prog_10_method_15_code
def yX8_time : MethodName := ⟨RX8, "time", "(I)I"⟩
abbrev cX8_minutes : ByteArray := prog_10_method_16_code
def yX8_minutes : MethodName := ⟨RX8, "minutes", "(I)I"⟩
abbrev cX8_canDo : ByteArray := prog_10_method_17_code
def yX8_canDo : MethodName := ⟨RX8, "canDo", "(II)Z"⟩
abbrev cX8_behind : ByteArray := prog_10_method_18_code
def yX8_behind : MethodName := ⟨RX8, "behind", "(II)I"⟩
abbrev cX8_can : ByteArray := prog_10_method_19_code
def yX8_can : MethodName := ⟨RX8, "can", "(I)I"⟩
abbrev cX8_done : ByteArray := prog_10_method_20_code
def yX8_done : MethodName := ⟨RX8, "done", "(I)I"⟩
abbrev cX8_newBehind : ByteArray := prog_10_method_21_code
def yX8_newBehind : MethodName := ⟨RX8, "newBehind", "(II)I"⟩
abbrev cX8_findWays : ByteArray := prog_10_method_22_code
def yX8_findWays : MethodName := ⟨RX8, "findWays", "(II)V"⟩
abbrev cX8_way : ByteArray := prog_10_method_23_code
def yX8_way : MethodName := ⟨RX8, "way", "(I)I"⟩
abbrev cX8_step : ByteArray := prog_10_method_24_code
def yX8_step : MethodName := ⟨RX8, "step", "(I)I"⟩
abbrev cX8_isTight : ByteArray := prog_10_method_25_code
def yX8_isTight : MethodName := ⟨RX8, "isTight", "(III)Z"⟩
abbrev cX8_most : ByteArray := prog_10_method_26_code
def yX8_most : MethodName := ⟨RX8, "most", "(I)I"⟩
abbrev cX8_reached : ByteArray := prog_10_method_27_code
def yX8_reached : MethodName := ⟨RX8, "reached", "()I"⟩
abbrev cX8_reach : ByteArray := prog_10_method_28_code
def yX8_reach : MethodName := ⟨RX8, "reach", "()I"⟩
abbrev cX8_gaps : ByteArray := prog_10_method_29_code
def yX8_gaps : MethodName := ⟨RX8, "gaps", "()I"⟩
abbrev cX8_shortens : ByteArray := prog_10_method_30_code
def yX8_shortens : MethodName := ⟨RX8, "shortens", "(II)I"⟩
abbrev cX8_week : ByteArray := prog_10_method_31_code
def yX8_week : MethodName := ⟨RX8, "week", "(II)Z"⟩
abbrev cX8_lay : ByteArray := prog_10_method_32_code
def yX8_lay : MethodName := ⟨RX8, "lay", "(I)I"⟩
abbrev cX8_laid : ByteArray := prog_10_method_33_code
def yX8_laid : MethodName := ⟨RX8, "laid", "(I)I"⟩
abbrev cX8_isState : ByteArray := prog_10_method_34_code
def yX8_isState : MethodName := ⟨RX8, "isState", "(I)Z"⟩
abbrev cX8_stateMany : ByteArray := prog_10_method_35_code
def yX8_stateMany : MethodName := ⟨RX8, "stateMany", "()I"⟩
abbrev cX8_answer : ByteArray := prog_10_method_36_code
def yX8_answer : MethodName := ⟨RX8, "answer", "(IZ)I"⟩
abbrev cX8_ask : ByteArray := prog_10_method_37_code
def yX8_ask : MethodName := ⟨RX8, "ask", "()I"⟩
abbrev cX8_states : ByteArray := prog_10_method_38_code
def yX8_states : MethodName := ⟨RX8, "states", "()I"⟩
abbrev cX8_question : ByteArray := prog_10_method_39_code
def yX8_question : MethodName := ⟨RX8, "question", "()I"⟩
abbrev cX8_worstOf : ByteArray := prog_10_method_40_code
def yX8_worstOf : MethodName := ⟨RX8, "worstOf", "(J)I"⟩
abbrev cX8_worst : ByteArray := prog_10_method_41_code
def yX8_worst : MethodName := ⟨RX8, "worst", "()I"⟩
abbrev cX8_settle : ByteArray := prog_10_method_42_code
def yX8_settle : MethodName := ⟨RX8, "settle", "()I"⟩
abbrev cX8_state : ByteArray := prog_10_method_43_code
def yX8_state : MethodName := ⟨RX8, "state", "(I)I"⟩
def RJx145de : String := "java/io/Serializable"
def TJx145de : u_T := fun k => match k with
  | _ => ("", "", "", false)
def tyJx145de : Nat → FieldType := fun k => match k with
  | _ => .int
abbrev wsJx145de0 : List Cond := u_ws RJx145de TJx145de 0
theorem nmJx145de : ∀ a, a < 0 → ∀ b, b < 0 → a ≠ b → (TJx145de a).2.1 ≠ (TJx145de b).2.1 := by decide +kernel
theorem tyJx145de_ok : ∀ k, k < 0 → parseFieldDescriptor (TJx145de k).2.2.1 = some (tyJx145de k) := by decide +kernel
def RJx8e188 : String := "java/lang/Cloneable"
def TJx8e188 : u_T := fun k => match k with
  | _ => ("", "", "", false)
def tyJx8e188 : Nat → FieldType := fun k => match k with
  | _ => .int
abbrev wsJx8e1880 : List Cond := u_ws RJx8e188 TJx8e188 0
theorem nmJx8e188 : ∀ a, a < 0 → ∀ b, b < 0 → a ≠ b → (TJx8e188 a).2.1 ≠ (TJx8e188 b).2.1 := by decide +kernel
theorem tyJx8e188_ok : ∀ k, k < 0 → parseFieldDescriptor (TJx8e188 k).2.2.1 = some (tyJx8e188 k) := by decide +kernel
def RJxab1ab : String := "java/lang/Iterable"
def TJxab1ab : u_T := fun k => match k with
  | _ => ("", "", "", false)
def tyJxab1ab : Nat → FieldType := fun k => match k with
  | _ => .int
abbrev wsJxab1ab0 : List Cond := u_ws RJxab1ab TJxab1ab 0
theorem nmJxab1ab : ∀ a, a < 0 → ∀ b, b < 0 → a ≠ b → (TJxab1ab a).2.1 ≠ (TJxab1ab b).2.1 := by decide +kernel
theorem tyJxab1ab_ok : ∀ k, k < 0 → parseFieldDescriptor (TJxab1ab k).2.2.1 = some (tyJxab1ab k) := by decide +kernel
def RJ13 : String := "java/lang/Long"
def TJ13 : u_T := fun k => match k with
  | _ => ("", "", "", false)
def tyJ13 : Nat → FieldType := fun k => match k with
  | _ => .int
abbrev wsJ130 : List Cond := u_ws RJ13 TJ13 0
theorem nmJ13 : ∀ a, a < 0 → ∀ b, b < 0 → a ≠ b → (TJ13 a).2.1 ≠ (TJ13 b).2.1 := by decide +kernel
theorem tyJ13_ok : ∀ k, k < 0 → parseFieldDescriptor (TJ13 k).2.2.1 = some (tyJ13 k) := by decide +kernel
abbrev cJ13_bitCount_95d88 : ByteArray := prog_15_method_50_code
def yJ13_bitCount_95d88 : MethodName := ⟨RJ13, "bitCount", "(J)I"⟩
def RJ9 : String := "java/lang/Math"
def TJ9 : u_T := fun k => match k with
  | _ => ("", "", "", false)
def tyJ9 : Nat → FieldType := fun k => match k with
  | _ => .int
abbrev wsJ90 : List Cond := u_ws RJ9 TJ9 0
theorem nmJ9 : ∀ a, a < 0 → ∀ b, b < 0 → a ≠ b → (TJ9 a).2.1 ≠ (TJ9 b).2.1 := by decide +kernel
theorem tyJ9_ok : ∀ k, k < 0 → parseFieldDescriptor (TJ9 k).2.2.1 = some (tyJ9 k) := by decide +kernel
abbrev cJ9_max_7cf53 : ByteArray := prog_16_method_65_code
def yJ9_max_7cf53 : MethodName := ⟨RJ9, "max", "(II)I"⟩
abbrev cJ9_min_7cf53 : ByteArray := prog_16_method_69_code
def yJ9_min_7cf53 : MethodName := ⟨RJ9, "min", "(II)I"⟩
def RJ0 : String := "java/lang/String"
def TJ0 : u_T := fun k => match k with
  | _ => ("", "", "", false)
def tyJ0 : Nat → FieldType := fun k => match k with
  | _ => .int
abbrev wsJ00 : List Cond := u_ws RJ0 TJ0 0
theorem nmJ0 : ∀ a, a < 0 → ∀ b, b < 0 → a ≠ b → (TJ0 a).2.1 ≠ (TJ0 b).2.1 := by decide +kernel
theorem tyJ0_ok : ∀ k, k < 0 → parseFieldDescriptor (TJ0 k).2.2.1 = some (tyJ0 k) := by decide +kernel
def RJ10 : String := "java/lang/System"
def TJ10 : u_T := fun k => match k with
  | _ => ("", "", "", false)
def tyJ10 : Nat → FieldType := fun k => match k with
  | _ => .int
abbrev wsJ100 : List Cond := u_ws RJ10 TJ10 0
theorem nmJ10 : ∀ a, a < 0 → ∀ b, b < 0 → a ≠ b → (TJ10 a).2.1 ≠ (TJ10 b).2.1 := by decide +kernel
theorem tyJ10_ok : ∀ k, k < 0 → parseFieldDescriptor (TJ10 k).2.2.1 = some (tyJ10 k) := by decide +kernel
def RJxa1e45 : String := "java/util/AbstractCollection"
def TJxa1e45 : u_T := fun k => match k with
  | _ => ("", "", "", false)
def tyJxa1e45 : Nat → FieldType := fun k => match k with
  | _ => .int
abbrev wsJxa1e450 : List Cond := u_ws RJxa1e45 TJxa1e45 0
theorem nmJxa1e45 : ∀ a, a < 0 → ∀ b, b < 0 → a ≠ b → (TJxa1e45 a).2.1 ≠ (TJxa1e45 b).2.1 := by decide +kernel
theorem tyJxa1e45_ok : ∀ k, k < 0 → parseFieldDescriptor (TJxa1e45 k).2.2.1 = some (tyJxa1e45 k) := by decide +kernel
abbrev cJxa1e45_init_da8c8 : ByteArray := prog_21_method_1_code
def yJxa1e45_init_da8c8 : MethodName := ⟨RJxa1e45, "<init>", "()V"⟩
def RJxc12de : String := "java/util/AbstractList"
def TJxc12de : u_T := fun k => match k with
  | _ => ("", "", "", false)
def tyJxc12de : Nat → FieldType := fun k => match k with
  | _ => .int
abbrev wsJxc12de0 : List Cond := u_ws RJxc12de TJxc12de 0
theorem nmJxc12de : ∀ a, a < 0 → ∀ b, b < 0 → a ≠ b → (TJxc12de a).2.1 ≠ (TJxc12de b).2.1 := by decide +kernel
theorem tyJxc12de_ok : ∀ k, k < 0 → parseFieldDescriptor (TJxc12de k).2.2.1 = some (tyJxc12de k) := by decide +kernel
abbrev cJxc12de_init_da8c8 : ByteArray := prog_22_method_1_code
def yJxc12de_init_da8c8 : MethodName := ⟨RJxc12de, "<init>", "()V"⟩
def RJx4a65c : String := "java/util/ArrayList"
def TJx4a65c : u_T := fun k => match k with
  | 0 => ("java/util/AbstractList", "modCount", "I", false)
  | 1 => ("java/util/ArrayList", "elementData", "[Ljava/lang/Object;", false)
  | _ => ("java/util/ArrayList", "size", "I", false)
def tyJx4a65c : Nat → FieldType := fun k => match k with
  | 0 => .int
  | 1 => .array (.object "java/lang/Object")
  | _ => .int
abbrev wsJx4a65c0 : List Cond := u_ws RJx4a65c TJx4a65c 3
theorem nmJx4a65c : ∀ a, a < 3 → ∀ b, b < 3 → a ≠ b → (TJx4a65c a).2.1 ≠ (TJx4a65c b).2.1 := by decide +kernel
theorem tyJx4a65c_ok : ∀ k, k < 3 → parseFieldDescriptor (TJx4a65c k).2.2.1 = some (tyJx4a65c k) := by decide +kernel
abbrev cJx4a65c_init_da8c8 : ByteArray := prog_23_method_2_code
def yJx4a65c_init_da8c8 : MethodName := ⟨RJx4a65c, "<init>", "()V"⟩
abbrev cJx4a65c_grow_92f84 : ByteArray := prog_23_method_6_code
def yJx4a65c_grow_92f84 : MethodName := ⟨RJx4a65c, "grow", "(I)[Ljava/lang/Object;"⟩
abbrev cJx4a65c_grow_d5877 : ByteArray := prog_23_method_7_code
def yJx4a65c_grow_d5877 : MethodName := ⟨RJx4a65c, "grow", "()[Ljava/lang/Object;"⟩
abbrev cJx4a65c_size_8abf5 : ByteArray := prog_23_method_8_code
def yJx4a65c_size_8abf5 : MethodName := ⟨RJx4a65c, "size", "()I"⟩
abbrev cJx4a65c_isEmpty_aae02 : ByteArray := prog_23_method_9_code
def yJx4a65c_isEmpty_aae02 : MethodName := ⟨RJx4a65c, "isEmpty", "()Z"⟩
abbrev cJx4a65c_elementData_915e3 : ByteArray := prog_23_method_18_code
def yJx4a65c_elementData_915e3 : MethodName := ⟨RJx4a65c, "elementData", "(I)Ljava/lang/Object;"⟩
abbrev cJx4a65c_get_915e3 : ByteArray := prog_23_method_20_code
def yJx4a65c_get_915e3 : MethodName := ⟨RJx4a65c, "get", "(I)Ljava/lang/Object;"⟩
abbrev cJx4a65c_add_72be8 : ByteArray := prog_23_method_24_code
def yJx4a65c_add_72be8 : MethodName := ⟨RJx4a65c, "add", "(Ljava/lang/Object;[Ljava/lang/Object;I)V"⟩
abbrev cJx4a65c_add_9ea2d : ByteArray := prog_23_method_25_code
def yJx4a65c_add_9ea2d : MethodName := ⟨RJx4a65c, "add", "(Ljava/lang/Object;)Z"⟩
abbrev cJx4a65c_remove_915e3 : ByteArray := prog_23_method_29_code
def yJx4a65c_remove_915e3 : MethodName := ⟨RJx4a65c, "remove", "(I)Ljava/lang/Object;"⟩
abbrev cJx4a65c_fastRemove_b59b0 : ByteArray := prog_23_method_39_code
def yJx4a65c_fastRemove_b59b0 : MethodName := ⟨RJx4a65c, "fastRemove", "([Ljava/lang/Object;I)V"⟩
def RJ7 : String := "java/util/Arrays"
def TJ7 : u_T := fun k => match k with
  | _ => ("", "", "", false)
def tyJ7 : Nat → FieldType := fun k => match k with
  | _ => .int
abbrev wsJ70 : List Cond := u_ws RJ7 TJ7 0
theorem nmJ7 : ∀ a, a < 0 → ∀ b, b < 0 → a ≠ b → (TJ7 a).2.1 ≠ (TJ7 b).2.1 := by decide +kernel
theorem tyJ7_ok : ∀ k, k < 0 → parseFieldDescriptor (TJ7 k).2.2.1 = some (tyJ7 k) := by decide +kernel
abbrev cJ7_copyOf_1904c : ByteArray := prog_24_method_119_code
def yJ7_copyOf_1904c : MethodName := ⟨RJ7, "copyOf", "([Ljava/lang/Object;I)[Ljava/lang/Object;"⟩
abbrev cJ7_copyOf_6403c : ByteArray := prog_24_method_120_code
def yJ7_copyOf_6403c : MethodName := ⟨RJ7, "copyOf", "([Ljava/lang/Object;ILjava/lang/Class;)[Ljava/lang/Object;"⟩
def RJx5ef63 : String := "java/util/Collection"
def TJx5ef63 : u_T := fun k => match k with
  | _ => ("", "", "", false)
def tyJx5ef63 : Nat → FieldType := fun k => match k with
  | _ => .int
abbrev wsJx5ef630 : List Cond := u_ws RJx5ef63 TJx5ef63 0
theorem nmJx5ef63 : ∀ a, a < 0 → ∀ b, b < 0 → a ≠ b → (TJx5ef63 a).2.1 ≠ (TJx5ef63 b).2.1 := by decide +kernel
theorem tyJx5ef63_ok : ∀ k, k < 0 → parseFieldDescriptor (TJx5ef63 k).2.2.1 = some (tyJx5ef63 k) := by decide +kernel
def RJxbd725 : String := "java/util/List"
def TJxbd725 : u_T := fun k => match k with
  | _ => ("", "", "", false)
def tyJxbd725 : Nat → FieldType := fun k => match k with
  | _ => .int
abbrev wsJxbd7250 : List Cond := u_ws RJxbd725 TJxbd725 0
theorem nmJxbd725 : ∀ a, a < 0 → ∀ b, b < 0 → a ≠ b → (TJxbd725 a).2.1 ≠ (TJxbd725 b).2.1 := by decide +kernel
theorem tyJxbd725_ok : ∀ k, k < 0 → parseFieldDescriptor (TJxbd725 k).2.2.1 = some (tyJxbd725 k) := by decide +kernel
def RJ15 : String := "java/util/Objects"
def TJ15 : u_T := fun k => match k with
  | _ => ("", "", "", false)
def tyJ15 : Nat → FieldType := fun k => match k with
  | _ => .int
abbrev wsJ150 : List Cond := u_ws RJ15 TJ15 0
theorem nmJ15 : ∀ a, a < 0 → ∀ b, b < 0 → a ≠ b → (TJ15 a).2.1 ≠ (TJ15 b).2.1 := by decide +kernel
theorem tyJ15_ok : ∀ k, k < 0 → parseFieldDescriptor (TJ15 k).2.2.1 = some (tyJ15 k) := by decide +kernel
abbrev cJ15_checkIndex_7cf53 : ByteArray := prog_28_method_17_code
def yJ15_checkIndex_7cf53 : MethodName := ⟨RJ15, "checkIndex", "(II)I"⟩
def RJxf0a74 : String := "java/util/RandomAccess"
def TJxf0a74 : u_T := fun k => match k with
  | _ => ("", "", "", false)
def tyJxf0a74 : Nat → FieldType := fun k => match k with
  | _ => .int
abbrev wsJxf0a740 : List Cond := u_ws RJxf0a74 TJxf0a74 0
theorem nmJxf0a74 : ∀ a, a < 0 → ∀ b, b < 0 → a ≠ b → (TJxf0a74 a).2.1 ≠ (TJxf0a74 b).2.1 := by decide +kernel
theorem tyJxf0a74_ok : ∀ k, k < 0 → parseFieldDescriptor (TJxf0a74 k).2.2.1 = some (tyJxf0a74 k) := by decide +kernel
def RJxa66e6 : String := "java/util/SequencedCollection"
def TJxa66e6 : u_T := fun k => match k with
  | _ => ("", "", "", false)
def tyJxa66e6 : Nat → FieldType := fun k => match k with
  | _ => .int
abbrev wsJxa66e60 : List Cond := u_ws RJxa66e6 TJxa66e6 0
theorem nmJxa66e6 : ∀ a, a < 0 → ∀ b, b < 0 → a ≠ b → (TJxa66e6 a).2.1 ≠ (TJxa66e6 b).2.1 := by decide +kernel
theorem tyJxa66e6_ok : ∀ k, k < 0 → parseFieldDescriptor (TJxa66e6 k).2.2.1 = some (tyJxa66e6 k) := by decide +kernel
def RJ8 : String := "jdk/internal/util/ArraysSupport"
def TJ8 : u_T := fun k => match k with
  | _ => ("", "", "", false)
def tyJ8 : Nat → FieldType := fun k => match k with
  | _ => .int
abbrev wsJ80 : List Cond := u_ws RJ8 TJ8 0
theorem nmJ8 : ∀ a, a < 0 → ∀ b, b < 0 → a ≠ b → (TJ8 a).2.1 ≠ (TJ8 b).2.1 := by decide +kernel
theorem tyJ8_ok : ∀ k, k < 0 → parseFieldDescriptor (TJ8 k).2.2.1 = some (tyJ8 k) := by decide +kernel
abbrev cJ8_newLength_cabcc : ByteArray := prog_31_method_27_code
def yJ8_newLength_cabcc : MethodName := ⟨RJ8, "newLength", "(III)I"⟩
abbrev cJ8_hugeLength_7cf53 : ByteArray := prog_31_method_28_code
def yJ8_hugeLength_7cf53 : MethodName := ⟨RJ8, "hugeLength", "(II)I"⟩
def RJ3 : String := "jdk/internal/util/Preconditions"
def TJ3 : u_T := fun k => match k with
  | _ => ("", "", "", false)
def tyJ3 : Nat → FieldType := fun k => match k with
  | _ => .int
abbrev wsJ30 : List Cond := u_ws RJ3 TJ3 0
theorem nmJ3 : ∀ a, a < 0 → ∀ b, b < 0 → a ≠ b → (TJ3 a).2.1 ≠ (TJ3 b).2.1 := by decide +kernel
theorem tyJ3_ok : ∀ k, k < 0 → parseFieldDescriptor (TJ3 k).2.2.1 = some (tyJ3 k) := by decide +kernel
abbrev cJ3_checkIndex_8e157 : ByteArray := prog_32_method_11_code
def yJ3_checkIndex_8e157 : MethodName := ⟨RJ3, "checkIndex", "(IILjava/util/function/BiFunction;)I"⟩
def RL : String := "WhatToReadLaw"
abbrev cL_state : ByteArray := method_3_code
def yL_state : MethodName := ⟨RL, "state", "(LWhatToRead;I[J)I"⟩
abbrev cL_law : ByteArray := code
def yL_law : MethodName := ⟨RL, "law", "([I)Z"⟩
def wsX0_init : List Cond := .code yX0_init cX0_init 1 none :: ([.methodLink RX0 3 objectInit, .instanceMethod objectInit, .code objectInit ⟨#[0xb1]⟩ 1 none, .arrayClass .int, .fieldLink RX0 9 "WhatToRead$Asking" "sets" "[I", .fieldLink RX0 15 "WhatToRead$Asking" "scratch" "[I", .fieldLink RX0 18 "WhatToRead$Asking" "count" "I", .fieldLink RX0 22 "WhatToRead$Asking" "answered" "I"] ++ wsX00)
def wsX0_size : List Cond := .code yX0_size cX0_size 1 (some .int) :: ([.fieldLink RX0 18 "WhatToRead$Asking" "count" "I"] ++ wsX00)
def wsX0_at : List Cond := .code yX0_at cX0_at 2 (some .int) :: ([.fieldLink RX0 18 "WhatToRead$Asking" "count" "I", .fieldLink RX0 9 "WhatToRead$Asking" "sets" "[I"] ++ wsX00)
def wsX0_startAnew : List Cond := .code yX0_startAnew cX0_startAnew 1 none :: ([.fieldLink RX0 9 "WhatToRead$Asking" "sets" "[I", .fieldLink RX0 18 "WhatToRead$Asking" "count" "I", .fieldLink RX0 22 "WhatToRead$Asking" "answered" "I"] ++ wsX00)
def wsX0_addTopic : List Cond := .code yX0_addTopic cX0_addTopic 5 none :: ([.fieldLink RX0 18 "WhatToRead$Asking" "count" "I", .fieldLink RX0 9 "WhatToRead$Asking" "sets" "[I"] ++ wsX00)
def wsX0_countHaving : List Cond := .code yX0_countHaving cX0_countHaving 6 (some .int) :: ([.methodLink RX0 47 Lib.Math.max.name, .static Lib.Math.max.name, .initialized "java/lang/Math", .code Lib.Math.max.name Lib.Math.max.code 2 (some .int)])
def wsX0_has : List Cond := .code yX0_has cX0_has 2 (some .boolean) :: ([])
def wsX0_keep : List Cond := .code yX0_keep cX0_keep 5 none :: ([.fieldLink RX0 18 "WhatToRead$Asking" "count" "I", .fieldLink RX0 9 "WhatToRead$Asking" "sets" "[I", .methodLink RX0 33 yX0_has, .static yX0_has, .initialized RX0, .code yX0_has cX0_has 2 (some .boolean)] ++ wsX00)
def wsX0_accept : List Cond := .code yX0_accept cX0_accept 5 (some .int) :: ([.fieldLink RX0 9 "WhatToRead$Asking" "sets" "[I", .fieldLink RX0 18 "WhatToRead$Asking" "count" "I", .fieldLink RX0 22 "WhatToRead$Asking" "answered" "I", .methodLink RX0 25 yX0_countHaving, .static yX0_countHaving, .initialized RX0, .code yX0_countHaving cX0_countHaving 6 (some .int), .methodLink RX0 47 Lib.Math.max.name, .static Lib.Math.max.name, .initialized "java/lang/Math", .code Lib.Math.max.name Lib.Math.max.code 2 (some .int), .methodLink RX0 29 yX0_keep, .instanceMethod yX0_keep, .selects RX0 yX0_keep yX0_keep, .code yX0_keep cX0_keep 5 none, .methodLink RX0 33 yX0_has, .static yX0_has, .code yX0_has cX0_has 2 (some .boolean)] ++ wsX00)
def wsX0_inCommon : List Cond := .code yX0_inCommon cX0_inCommon 3 (some .int) :: ([.fieldLink RX0 18 "WhatToRead$Asking" "count" "I", .fieldLink RX0 9 "WhatToRead$Asking" "sets" "[I"] ++ wsX00)
def wsX0_bestTopic : List Cond := .code yX0_bestTopic cX0_bestTopic 8 (some .int) :: ([.methodLink RX0 47 Lib.Math.max.name, .static Lib.Math.max.name, .initialized "java/lang/Math", .code Lib.Math.max.name Lib.Math.max.code 2 (some .int), .methodLink RX0 25 yX0_countHaving, .static yX0_countHaving, .initialized RX0, .code yX0_countHaving cX0_countHaving 6 (some .int)])
def wsX0_nextQuestion : List Cond := .code yX0_nextQuestion cX0_nextQuestion 1 (some .int) :: ([.fieldLink RX0 9 "WhatToRead$Asking" "sets" "[I", .fieldLink RX0 18 "WhatToRead$Asking" "count" "I", .methodLink RX0 37 yX0_bestTopic, .static yX0_bestTopic, .initialized RX0, .code yX0_bestTopic cX0_bestTopic 8 (some .int), .methodLink RX0 47 Lib.Math.max.name, .static Lib.Math.max.name, .initialized "java/lang/Math", .code Lib.Math.max.name Lib.Math.max.code 2 (some .int), .methodLink RX0 25 yX0_countHaving, .static yX0_countHaving, .code yX0_countHaving cX0_countHaving 6 (some .int)] ++ wsX00)
def wsX0_split : List Cond := .code yX0_split cX0_split 7 (some .int) :: ([.methodLink RX0 47 Lib.Math.max.name, .static Lib.Math.max.name, .initialized "java/lang/Math", .code Lib.Math.max.name Lib.Math.max.code 2 (some .int), .methodLink RX0 33 yX0_has, .static yX0_has, .initialized RX0, .code yX0_has cX0_has 2 (some .boolean)])
def wsX0_questionsUntilOne : List Cond := .code yX0_questionsUntilOne cX0_questionsUntilOne 8 (some .int) :: ([.methodLink RX0 47 Lib.Math.max.name, .static Lib.Math.max.name, .initialized "java/lang/Math", .code Lib.Math.max.name Lib.Math.max.code 2 (some .int), .methodLink RX0 37 yX0_bestTopic, .static yX0_bestTopic, .initialized RX0, .code yX0_bestTopic cX0_bestTopic 8 (some .int), .methodLink RX0 25 yX0_countHaving, .static yX0_countHaving, .code yX0_countHaving cX0_countHaving 6 (some .int), .methodLink RX0 44 yX0_split, .static yX0_split, .code yX0_split cX0_split 7 (some .int), .methodLink RX0 33 yX0_has, .static yX0_has, .code yX0_has cX0_has 2 (some .boolean), .methodLink RX0 41 yX0_questionsUntilOne, .static yX0_questionsUntilOne])
def wsX0_mostQuestions : List Cond := .code yX0_mostQuestions cX0_mostQuestions 2 (some .int) :: ([.fieldLink RX0 18 "WhatToRead$Asking" "count" "I", .fieldLink RX0 15 "WhatToRead$Asking" "scratch" "[I", .fieldLink RX0 9 "WhatToRead$Asking" "sets" "[I", .methodLink RX0 41 yX0_questionsUntilOne, .static yX0_questionsUntilOne, .initialized RX0, .code yX0_questionsUntilOne cX0_questionsUntilOne 8 (some .int), .methodLink RX0 47 Lib.Math.max.name, .static Lib.Math.max.name, .initialized "java/lang/Math", .code Lib.Math.max.name Lib.Math.max.code 2 (some .int), .methodLink RX0 37 yX0_bestTopic, .static yX0_bestTopic, .code yX0_bestTopic cX0_bestTopic 8 (some .int), .methodLink RX0 25 yX0_countHaving, .static yX0_countHaving, .code yX0_countHaving cX0_countHaving 6 (some .int), .methodLink RX0 44 yX0_split, .static yX0_split, .code yX0_split cX0_split 7 (some .int), .methodLink RX0 33 yX0_has, .static yX0_has, .code yX0_has cX0_has 2 (some .boolean)] ++ wsX00)
def wsX1_init : List Cond := .code yX1_init cX1_init 6 none :: ([.methodLink RX1 1 objectInit, .instanceMethod objectInit, .code objectInit ⟨#[0xb1]⟩ 1 none, .fieldLink RX1 7 "WhatToRead$Piece" "needs" "I", .fieldLink RX1 13 "WhatToRead$Piece" "either" "I", .fieldLink RX1 16 "WhatToRead$Piece" "given" "I", .fieldLink RX1 19 "WhatToRead$Piece" "skimmed" "I", .fieldLink RX1 22 "WhatToRead$Piece" "pages" "I"] ++ wsX10)
def wsX1_isOpenTo : List Cond := .code yX1_isOpenTo cX1_isOpenTo 2 (some .boolean) :: ([.fieldLink RX1 7 "WhatToRead$Piece" "needs" "I", .fieldLink RX1 13 "WhatToRead$Piece" "either" "I"] ++ wsX10)
def wsX1_needed : List Cond := .code yX1_needed cX1_needed 1 (some .int) :: ([.fieldLink RX1 7 "WhatToRead$Piece" "needs" "I"] ++ wsX10)
def wsX1_brings : List Cond := .code yX1_brings cX1_brings 2 (some .int) :: ([.fieldLink RX1 19 "WhatToRead$Piece" "skimmed" "I", .fieldLink RX1 16 "WhatToRead$Piece" "given" "I"] ++ wsX10)
def wsX1_minutesAt : List Cond := .code yX1_minutesAt cX1_minutesAt 4 (some .int) :: ([.fieldLink RX1 22 "WhatToRead$Piece" "pages" "I"] ++ wsX10)
def wsX2_init : List Cond := .code yX2_init cX2_init 1 none :: ([.methodLink RX2 3 objectInit, .instanceMethod objectInit, .code objectInit ⟨#[0xb1]⟩ 1 none, .arrayClass .int, .fieldLink RX2 9 "WhatToRead$Row" "items" "[I", .fieldLink RX2 15 "WhatToRead$Row" "count" "I"] ++ wsX20)
def wsX2_size : List Cond := .code yX2_size cX2_size 1 (some .int) :: ([.fieldLink RX2 15 "WhatToRead$Row" "count" "I"] ++ wsX20)
def wsX2_at : List Cond := .code yX2_at cX2_at 2 (some .int) :: ([.fieldLink RX2 15 "WhatToRead$Row" "count" "I", .fieldLink RX2 9 "WhatToRead$Row" "items" "[I"] ++ wsX20)
def wsX2_clear : List Cond := .code yX2_clear cX2_clear 1 none :: ([.fieldLink RX2 15 "WhatToRead$Row" "count" "I"] ++ wsX20)
def wsX2_add : List Cond := .code yX2_add cX2_add 2 none :: ([.fieldLink RX2 15 "WhatToRead$Row" "count" "I", .fieldLink RX2 9 "WhatToRead$Row" "items" "[I"] ++ wsX20)
def wsX2_become : List Cond := .code yX2_become cX2_become 3 none :: ([.methodLink RX2 19 yX2_clear, .instanceMethod yX2_clear, .selects RX2 yX2_clear yX2_clear, .initialized RX2, .code yX2_clear cX2_clear 1 none, .fieldLink RX2 15 "WhatToRead$Row" "count" "I", .methodLink RX2 22 yX2_size, .instanceMethod yX2_size, .selects RX2 yX2_size yX2_size, .code yX2_size cX2_size 1 (some .int), .methodLink RX2 26 yX2_at, .instanceMethod yX2_at, .selects RX2 yX2_at yX2_at, .code yX2_at cX2_at 2 (some .int), .fieldLink RX2 9 "WhatToRead$Row" "items" "[I", .methodLink RX2 30 yX2_add, .instanceMethod yX2_add, .selects RX2 yX2_add yX2_add, .code yX2_add cX2_add 2 none] ++ wsX20)
def wsJxa1e45_init_da8c8 : List Cond := .code yJxa1e45_init_da8c8 cJxa1e45_init_da8c8 1 none :: ([.methodLink RJxa1e45 1 objectInit, .instanceMethod objectInit, .code objectInit ⟨#[0xb1]⟩ 1 none])
def wsJxc12de_init_da8c8 : List Cond := .code yJxc12de_init_da8c8 cJxc12de_init_da8c8 1 none :: ([.fieldLink RJxc12de 7 "java/util/AbstractList" "modCount" "I", .methodLink RJxc12de 1 yJxa1e45_init_da8c8, .instanceMethod yJxa1e45_init_da8c8, .initialized RJxa1e45, .code yJxa1e45_init_da8c8 cJxa1e45_init_da8c8 1 none, .methodLink RJxa1e45 1 objectInit, .instanceMethod objectInit, .code objectInit ⟨#[0xb1]⟩ 1 none] ++ wsJx4a65c0)
def wsJx4a65c_init_da8c8 : List Cond := .code yJx4a65c_init_da8c8 cJx4a65c_init_da8c8 1 none :: ([.fieldLink RJx4a65c 39 "java/util/ArrayList" "DEFAULTCAPACITY_EMPTY_ELEMENTDATA" "[Ljava/lang/Object;", .fieldLink RJx4a65c 9 "java/util/ArrayList" "elementData" "[Ljava/lang/Object;", .methodLink RJx4a65c 1 yJxc12de_init_da8c8, .instanceMethod yJxc12de_init_da8c8, .initialized RJxc12de, .code yJxc12de_init_da8c8 cJxc12de_init_da8c8 1 none, .fieldLink RJxc12de 7 "java/util/AbstractList" "modCount" "I", .methodLink RJxc12de 1 yJxa1e45_init_da8c8, .instanceMethod yJxa1e45_init_da8c8, .initialized RJxa1e45, .code yJxa1e45_init_da8c8 cJxa1e45_init_da8c8 1 none, .methodLink RJxa1e45 1 objectInit, .instanceMethod objectInit, .code objectInit ⟨#[0xb1]⟩ 1 none] ++ wsJx4a65c0)
def wsX3_init : List Cond := .code yX3_init cX3_init 1 none :: ([.methodLink RX3 3 objectInit, .instanceMethod objectInit, .code objectInit ⟨#[0xb1]⟩ 1 none, .classLink RX3 9 RJx4a65c, .instantiable RJx4a65c 3, .initialized RJx4a65c, .fieldLink RX3 12 "WhatToRead$Shelf" "pieces" "Ljava/util/List;", .fieldLink RX3 18 "WhatToRead$Shelf" "pace" "I", .methodLink RX3 11 yJx4a65c_init_da8c8, .instanceMethod yJx4a65c_init_da8c8, .code yJx4a65c_init_da8c8 cJx4a65c_init_da8c8 1 none, .fieldLink RJx4a65c 39 "java/util/ArrayList" "DEFAULTCAPACITY_EMPTY_ELEMENTDATA" "[Ljava/lang/Object;", .fieldLink RJx4a65c 9 "java/util/ArrayList" "elementData" "[Ljava/lang/Object;", .methodLink RJx4a65c 1 yJxc12de_init_da8c8, .instanceMethod yJxc12de_init_da8c8, .initialized RJxc12de, .code yJxc12de_init_da8c8 cJxc12de_init_da8c8 1 none, .fieldLink RJxc12de 7 "java/util/AbstractList" "modCount" "I", .methodLink RJxc12de 1 yJxa1e45_init_da8c8, .instanceMethod yJxa1e45_init_da8c8, .initialized RJxa1e45, .code yJxa1e45_init_da8c8 cJxa1e45_init_da8c8 1 none, .methodLink RJxa1e45 1 objectInit] ++ wsJx4a65c0 ++ wsX30)
def wsJx4a65c_size_8abf5 : List Cond := .code yJx4a65c_size_8abf5 cJx4a65c_size_8abf5 1 (some .int) :: ([.fieldLink RJx4a65c 48 "java/util/ArrayList" "size" "I"] ++ wsJx4a65c0)
def wsX3_size : List Cond := .code yX3_size cX3_size 1 (some .int) :: ([.fieldLink RX3 12 "WhatToRead$Shelf" "pieces" "Ljava/util/List;", .methodLink RX3 22 ⟨"java/util/List", "size", "()I"⟩, .selects RJx4a65c ⟨"java/util/List", "size", "()I"⟩ yJx4a65c_size_8abf5, .instanceMethod yJx4a65c_size_8abf5, .initialized RJx4a65c, .code yJx4a65c_size_8abf5 cJx4a65c_size_8abf5 1 (some .int), .fieldLink RJx4a65c 48 "java/util/ArrayList" "size" "I"] ++ wsX30 ++ wsJx4a65c0)
def wsX3_currentPace : List Cond := .code yX3_currentPace cX3_currentPace 1 (some .int) :: ([.fieldLink RX3 18 "WhatToRead$Shelf" "pace" "I"] ++ wsX30)
def wsX3_changePace : List Cond := .code yX3_changePace cX3_changePace 3 (some .int) :: ([.fieldLink RX3 18 "WhatToRead$Shelf" "pace" "I"] ++ wsX30)
def wsJ8_hugeLength_7cf53 : List Cond := .code yJ8_hugeLength_7cf53 cJ8_hugeLength_7cf53 3 (some .int) :: ([.constant RJ8 200 (2147483639)])
def wsJ8_newLength_cabcc : List Cond := .code yJ8_newLength_cabcc cJ8_newLength_cabcc 4 (some .int) :: ([.methodLink RJ8 194 Lib.Math.max.name, .static Lib.Math.max.name, .initialized "java/lang/Math", .code Lib.Math.max.name Lib.Math.max.code 2 (some .int), .constant RJ8 200 (2147483639), .methodLink RJ8 201 yJ8_hugeLength_7cf53, .static yJ8_hugeLength_7cf53, .initialized RJ8, .code yJ8_hugeLength_7cf53 cJ8_hugeLength_7cf53 3 (some .int)])
def wsJ7_copyOf_6403c : List Cond := .code yJ7_copyOf_6403c cJ7_copyOf_6403c 4 (some (.array (.object "java/lang/Object"))) :: ([.classLink RJ7 110 "[Ljava/lang/Object;", .classLink RJ7 2 "java/lang/Object", .methodLink RJ7 304 Lib.Math.min.name, .static Lib.Math.min.name, .initialized "java/lang/Math", .code Lib.Math.min.name Lib.Math.min.code 2 (some .int), .methodLink RJ7 150 arraycopyName, .native arraycopyName, .static arraycopyName, .initialized "java/lang/System"])
def wsJ7_copyOf_1904c : List Cond := .code yJ7_copyOf_1904c cJ7_copyOf_1904c 2 (some (.array (.object "java/lang/Object"))) :: ([.methodLink RJ7 86 ⟨"java/lang/Object", "getClass", "()Ljava/lang/Class;"⟩, .selects "[Ljava/lang/Object;" ⟨"java/lang/Object", "getClass", "()Ljava/lang/Class;"⟩ ⟨"java/lang/Object", "getClass", "()Ljava/lang/Class;"⟩, .instanceMethod ⟨"java/lang/Object", "getClass", "()Ljava/lang/Class;"⟩, .native ⟨"java/lang/Object", "getClass", "()Ljava/lang/Class;"⟩, .methodLink RJ7 300 yJ7_copyOf_6403c, .static yJ7_copyOf_6403c, .initialized RJ7, .code yJ7_copyOf_6403c cJ7_copyOf_6403c 4 (some (.array (.object "java/lang/Object"))), .classLink RJ7 110 "[Ljava/lang/Object;", .classLink RJ7 2 "java/lang/Object", .methodLink RJ7 304 Lib.Math.min.name, .static Lib.Math.min.name, .initialized "java/lang/Math", .code Lib.Math.min.name Lib.Math.min.code 2 (some .int), .methodLink RJ7 150 arraycopyName, .native arraycopyName, .static arraycopyName, .initialized "java/lang/System"])
def wsJx4a65c_grow_92f84_r1 : List Cond := [Cond.fieldLink RJx4a65c 9 "java/util/ArrayList" "elementData" "[Ljava/lang/Object;", Cond.fieldLink RJx4a65c 39 "java/util/ArrayList" "DEFAULTCAPACITY_EMPTY_ELEMENTDATA" "[Ljava/lang/Object;", Cond.methodLink RJx4a65c 79 Lib.Math.max.name, Cond.static Lib.Math.max.name, Cond.initialized "java/lang/Math", Cond.code Lib.Math.max.name Lib.Math.max.code 2 (some .int), Cond.classLink RJx4a65c 7 "java/lang/Object", Cond.methodLink RJx4a65c 73 yJ8_newLength_cabcc, Cond.static yJ8_newLength_cabcc, Cond.initialized RJ8, Cond.code yJ8_newLength_cabcc cJ8_newLength_cabcc 4 (some .int), Cond.methodLink RJ8 194 Lib.Math.max.name, Cond.constant RJ8 200 (2147483639), Cond.methodLink RJ8 201 yJ8_hugeLength_7cf53, Cond.static yJ8_hugeLength_7cf53, Cond.code yJ8_hugeLength_7cf53 cJ8_hugeLength_7cf53 3 (some .int), Cond.methodLink RJx4a65c 66 yJ7_copyOf_1904c, Cond.static yJ7_copyOf_1904c, Cond.initialized RJ7, Cond.code yJ7_copyOf_1904c cJ7_copyOf_1904c 2 (some (.array (.object "java/lang/Object"))), Cond.methodLink RJ7 86 ⟨"java/lang/Object", "getClass", "()Ljava/lang/Class;"⟩, Cond.selects "[Ljava/lang/Object;" ⟨"java/lang/Object", "getClass", "()Ljava/lang/Class;"⟩ ⟨"java/lang/Object", "getClass", "()Ljava/lang/Class;"⟩, Cond.instanceMethod ⟨"java/lang/Object", "getClass", "()Ljava/lang/Class;"⟩, Cond.native ⟨"java/lang/Object", "getClass", "()Ljava/lang/Class;"⟩]
def wsJx4a65c_grow_92f84_r2 : List Cond := [Cond.methodLink RJ7 300 yJ7_copyOf_6403c, Cond.static yJ7_copyOf_6403c, Cond.code yJ7_copyOf_6403c cJ7_copyOf_6403c 4 (some (.array (.object "java/lang/Object"))), Cond.classLink RJ7 110 "[Ljava/lang/Object;", Cond.classLink RJ7 2 "java/lang/Object", Cond.methodLink RJ7 304 Lib.Math.min.name, Cond.static Lib.Math.min.name, Cond.code Lib.Math.min.name Lib.Math.min.code 2 (some .int), Cond.methodLink RJ7 150 arraycopyName, Cond.native arraycopyName, Cond.static arraycopyName, Cond.initialized "java/lang/System"]
def wsJx4a65c_grow_92f84 : List Cond := .code yJx4a65c_grow_92f84 cJx4a65c_grow_92f84 4 (some (.array (.object "java/lang/Object"))) :: ((wsJx4a65c_grow_92f84_r1 ++ wsJx4a65c_grow_92f84_r2) ++ wsJx4a65c0)
def wsJx4a65c_grow_d5877_r1 : List Cond := [Cond.fieldLink RJx4a65c 48 "java/util/ArrayList" "size" "I", Cond.methodLink RJx4a65c 69 yJx4a65c_grow_92f84, Cond.instanceMethod yJx4a65c_grow_92f84, Cond.selects RJx4a65c yJx4a65c_grow_92f84 yJx4a65c_grow_92f84, Cond.initialized RJx4a65c, Cond.code yJx4a65c_grow_92f84 cJx4a65c_grow_92f84 4 (some (.array (.object "java/lang/Object"))), Cond.fieldLink RJx4a65c 9 "java/util/ArrayList" "elementData" "[Ljava/lang/Object;", Cond.fieldLink RJx4a65c 39 "java/util/ArrayList" "DEFAULTCAPACITY_EMPTY_ELEMENTDATA" "[Ljava/lang/Object;", Cond.methodLink RJx4a65c 79 Lib.Math.max.name, Cond.static Lib.Math.max.name, Cond.initialized "java/lang/Math", Cond.code Lib.Math.max.name Lib.Math.max.code 2 (some .int), Cond.classLink RJx4a65c 7 "java/lang/Object", Cond.methodLink RJx4a65c 73 yJ8_newLength_cabcc, Cond.static yJ8_newLength_cabcc, Cond.initialized RJ8, Cond.code yJ8_newLength_cabcc cJ8_newLength_cabcc 4 (some .int), Cond.methodLink RJ8 194 Lib.Math.max.name, Cond.constant RJ8 200 (2147483639), Cond.methodLink RJ8 201 yJ8_hugeLength_7cf53, Cond.static yJ8_hugeLength_7cf53, Cond.code yJ8_hugeLength_7cf53 cJ8_hugeLength_7cf53 3 (some .int), Cond.methodLink RJx4a65c 66 yJ7_copyOf_1904c, Cond.static yJ7_copyOf_1904c]
def wsJx4a65c_grow_d5877_r2 : List Cond := [Cond.initialized RJ7, Cond.code yJ7_copyOf_1904c cJ7_copyOf_1904c 2 (some (.array (.object "java/lang/Object"))), Cond.methodLink RJ7 86 ⟨"java/lang/Object", "getClass", "()Ljava/lang/Class;"⟩, Cond.selects "[Ljava/lang/Object;" ⟨"java/lang/Object", "getClass", "()Ljava/lang/Class;"⟩ ⟨"java/lang/Object", "getClass", "()Ljava/lang/Class;"⟩, Cond.instanceMethod ⟨"java/lang/Object", "getClass", "()Ljava/lang/Class;"⟩, Cond.native ⟨"java/lang/Object", "getClass", "()Ljava/lang/Class;"⟩, Cond.methodLink RJ7 300 yJ7_copyOf_6403c, Cond.static yJ7_copyOf_6403c, Cond.code yJ7_copyOf_6403c cJ7_copyOf_6403c 4 (some (.array (.object "java/lang/Object"))), Cond.classLink RJ7 110 "[Ljava/lang/Object;", Cond.classLink RJ7 2 "java/lang/Object", Cond.methodLink RJ7 304 Lib.Math.min.name, Cond.static Lib.Math.min.name, Cond.code Lib.Math.min.name Lib.Math.min.code 2 (some .int), Cond.methodLink RJ7 150 arraycopyName, Cond.native arraycopyName, Cond.static arraycopyName, Cond.initialized "java/lang/System"]
def wsJx4a65c_grow_d5877 : List Cond := .code yJx4a65c_grow_d5877 cJx4a65c_grow_d5877 1 (some (.array (.object "java/lang/Object"))) :: ((wsJx4a65c_grow_d5877_r1 ++ wsJx4a65c_grow_d5877_r2) ++ wsJx4a65c0)
def wsJx4a65c_add_72be8_r1 : List Cond := [Cond.fieldLink RJx4a65c 48 "java/util/ArrayList" "size" "I", Cond.methodLink RJx4a65c 129 yJx4a65c_grow_d5877, Cond.instanceMethod yJx4a65c_grow_d5877, Cond.selects RJx4a65c yJx4a65c_grow_d5877 yJx4a65c_grow_d5877, Cond.initialized RJx4a65c, Cond.code yJx4a65c_grow_d5877 cJx4a65c_grow_d5877 1 (some (.array (.object "java/lang/Object"))), Cond.methodLink RJx4a65c 69 yJx4a65c_grow_92f84, Cond.instanceMethod yJx4a65c_grow_92f84, Cond.selects RJx4a65c yJx4a65c_grow_92f84 yJx4a65c_grow_92f84, Cond.code yJx4a65c_grow_92f84 cJx4a65c_grow_92f84 4 (some (.array (.object "java/lang/Object"))), Cond.fieldLink RJx4a65c 9 "java/util/ArrayList" "elementData" "[Ljava/lang/Object;", Cond.fieldLink RJx4a65c 39 "java/util/ArrayList" "DEFAULTCAPACITY_EMPTY_ELEMENTDATA" "[Ljava/lang/Object;", Cond.methodLink RJx4a65c 79 Lib.Math.max.name, Cond.static Lib.Math.max.name, Cond.initialized "java/lang/Math", Cond.code Lib.Math.max.name Lib.Math.max.code 2 (some .int), Cond.classLink RJx4a65c 7 "java/lang/Object", Cond.methodLink RJx4a65c 73 yJ8_newLength_cabcc, Cond.static yJ8_newLength_cabcc, Cond.initialized RJ8, Cond.code yJ8_newLength_cabcc cJ8_newLength_cabcc 4 (some .int), Cond.methodLink RJ8 194 Lib.Math.max.name, Cond.constant RJ8 200 (2147483639), Cond.methodLink RJ8 201 yJ8_hugeLength_7cf53]
def wsJx4a65c_add_72be8_r2 : List Cond := [Cond.static yJ8_hugeLength_7cf53, Cond.code yJ8_hugeLength_7cf53 cJ8_hugeLength_7cf53 3 (some .int), Cond.methodLink RJx4a65c 66 yJ7_copyOf_1904c, Cond.static yJ7_copyOf_1904c, Cond.initialized RJ7, Cond.code yJ7_copyOf_1904c cJ7_copyOf_1904c 2 (some (.array (.object "java/lang/Object"))), Cond.methodLink RJ7 86 ⟨"java/lang/Object", "getClass", "()Ljava/lang/Class;"⟩, Cond.selects "[Ljava/lang/Object;" ⟨"java/lang/Object", "getClass", "()Ljava/lang/Class;"⟩ ⟨"java/lang/Object", "getClass", "()Ljava/lang/Class;"⟩, Cond.instanceMethod ⟨"java/lang/Object", "getClass", "()Ljava/lang/Class;"⟩, Cond.native ⟨"java/lang/Object", "getClass", "()Ljava/lang/Class;"⟩, Cond.methodLink RJ7 300 yJ7_copyOf_6403c, Cond.static yJ7_copyOf_6403c, Cond.code yJ7_copyOf_6403c cJ7_copyOf_6403c 4 (some (.array (.object "java/lang/Object"))), Cond.classLink RJ7 110 "[Ljava/lang/Object;", Cond.classLink RJ7 2 "java/lang/Object", Cond.methodLink RJ7 304 Lib.Math.min.name, Cond.static Lib.Math.min.name, Cond.code Lib.Math.min.name Lib.Math.min.code 2 (some .int), Cond.methodLink RJ7 150 arraycopyName, Cond.native arraycopyName, Cond.static arraycopyName, Cond.initialized "java/lang/System"]
def wsJx4a65c_add_72be8 : List Cond := .code yJx4a65c_add_72be8 cJx4a65c_add_72be8 4 none :: ((wsJx4a65c_add_72be8_r1 ++ wsJx4a65c_add_72be8_r2) ++ wsJx4a65c0)
def wsJx4a65c_add_9ea2d_r1 : List Cond := [Cond.fieldLink RJx4a65c 63 "java/util/ArrayList" "modCount" "I", Cond.sameField "java/util/ArrayList" "java/util/AbstractList" "modCount" "I", Cond.fieldLink RJx4a65c 9 "java/util/ArrayList" "elementData" "[Ljava/lang/Object;", Cond.fieldLink RJx4a65c 48 "java/util/ArrayList" "size" "I", Cond.methodLink RJx4a65c 131 yJx4a65c_add_72be8, Cond.instanceMethod yJx4a65c_add_72be8, Cond.selects RJx4a65c yJx4a65c_add_72be8 yJx4a65c_add_72be8, Cond.initialized RJx4a65c, Cond.code yJx4a65c_add_72be8 cJx4a65c_add_72be8 4 none, Cond.methodLink RJx4a65c 129 yJx4a65c_grow_d5877, Cond.instanceMethod yJx4a65c_grow_d5877, Cond.selects RJx4a65c yJx4a65c_grow_d5877 yJx4a65c_grow_d5877, Cond.code yJx4a65c_grow_d5877 cJx4a65c_grow_d5877 1 (some (.array (.object "java/lang/Object"))), Cond.methodLink RJx4a65c 69 yJx4a65c_grow_92f84, Cond.instanceMethod yJx4a65c_grow_92f84, Cond.selects RJx4a65c yJx4a65c_grow_92f84 yJx4a65c_grow_92f84, Cond.code yJx4a65c_grow_92f84 cJx4a65c_grow_92f84 4 (some (.array (.object "java/lang/Object"))), Cond.fieldLink RJx4a65c 39 "java/util/ArrayList" "DEFAULTCAPACITY_EMPTY_ELEMENTDATA" "[Ljava/lang/Object;", Cond.methodLink RJx4a65c 79 Lib.Math.max.name, Cond.static Lib.Math.max.name, Cond.initialized "java/lang/Math", Cond.code Lib.Math.max.name Lib.Math.max.code 2 (some .int), Cond.classLink RJx4a65c 7 "java/lang/Object", Cond.methodLink RJx4a65c 73 yJ8_newLength_cabcc]
def wsJx4a65c_add_9ea2d_r2 : List Cond := [Cond.static yJ8_newLength_cabcc, Cond.initialized RJ8, Cond.code yJ8_newLength_cabcc cJ8_newLength_cabcc 4 (some .int), Cond.methodLink RJ8 194 Lib.Math.max.name, Cond.constant RJ8 200 (2147483639), Cond.methodLink RJ8 201 yJ8_hugeLength_7cf53, Cond.static yJ8_hugeLength_7cf53, Cond.code yJ8_hugeLength_7cf53 cJ8_hugeLength_7cf53 3 (some .int), Cond.methodLink RJx4a65c 66 yJ7_copyOf_1904c, Cond.static yJ7_copyOf_1904c, Cond.initialized RJ7, Cond.code yJ7_copyOf_1904c cJ7_copyOf_1904c 2 (some (.array (.object "java/lang/Object"))), Cond.methodLink RJ7 86 ⟨"java/lang/Object", "getClass", "()Ljava/lang/Class;"⟩, Cond.selects "[Ljava/lang/Object;" ⟨"java/lang/Object", "getClass", "()Ljava/lang/Class;"⟩ ⟨"java/lang/Object", "getClass", "()Ljava/lang/Class;"⟩, Cond.instanceMethod ⟨"java/lang/Object", "getClass", "()Ljava/lang/Class;"⟩, Cond.native ⟨"java/lang/Object", "getClass", "()Ljava/lang/Class;"⟩, Cond.methodLink RJ7 300 yJ7_copyOf_6403c, Cond.static yJ7_copyOf_6403c, Cond.code yJ7_copyOf_6403c cJ7_copyOf_6403c 4 (some (.array (.object "java/lang/Object"))), Cond.classLink RJ7 110 "[Ljava/lang/Object;", Cond.classLink RJ7 2 "java/lang/Object", Cond.methodLink RJ7 304 Lib.Math.min.name, Cond.static Lib.Math.min.name, Cond.code Lib.Math.min.name Lib.Math.min.code 2 (some .int)]
def wsJx4a65c_add_9ea2d_r3 : List Cond := [Cond.methodLink RJ7 150 arraycopyName, Cond.native arraycopyName, Cond.static arraycopyName, Cond.initialized "java/lang/System"]
def wsJx4a65c_add_9ea2d : List Cond := .code yJx4a65c_add_9ea2d cJx4a65c_add_9ea2d 2 (some .boolean) :: ((wsJx4a65c_add_9ea2d_r1 ++ (wsJx4a65c_add_9ea2d_r2 ++ wsJx4a65c_add_9ea2d_r3)) ++ wsJx4a65c0)
def wsX3_add_r1 : List Cond := [Cond.fieldLink RX3 12 "WhatToRead$Shelf" "pieces" "Ljava/util/List;", Cond.methodLink RX3 22 ⟨"java/util/List", "size", "()I"⟩, Cond.selects RJx4a65c ⟨"java/util/List", "size", "()I"⟩ yJx4a65c_size_8abf5, Cond.instanceMethod yJx4a65c_size_8abf5, Cond.initialized RJx4a65c, Cond.code yJx4a65c_size_8abf5 cJx4a65c_size_8abf5 1 (some .int), Cond.fieldLink RJx4a65c 48 "java/util/ArrayList" "size" "I", Cond.methodLink RX3 28 ⟨"java/util/List", "add", "(Ljava/lang/Object;)Z"⟩, Cond.selects RJx4a65c ⟨"java/util/List", "add", "(Ljava/lang/Object;)Z"⟩ yJx4a65c_add_9ea2d, Cond.instanceMethod yJx4a65c_add_9ea2d, Cond.code yJx4a65c_add_9ea2d cJx4a65c_add_9ea2d 2 (some .boolean), Cond.fieldLink RJx4a65c 63 "java/util/ArrayList" "modCount" "I", Cond.sameField "java/util/ArrayList" "java/util/AbstractList" "modCount" "I", Cond.fieldLink RJx4a65c 9 "java/util/ArrayList" "elementData" "[Ljava/lang/Object;", Cond.methodLink RJx4a65c 131 yJx4a65c_add_72be8, Cond.instanceMethod yJx4a65c_add_72be8, Cond.selects RJx4a65c yJx4a65c_add_72be8 yJx4a65c_add_72be8, Cond.code yJx4a65c_add_72be8 cJx4a65c_add_72be8 4 none, Cond.methodLink RJx4a65c 129 yJx4a65c_grow_d5877, Cond.instanceMethod yJx4a65c_grow_d5877, Cond.selects RJx4a65c yJx4a65c_grow_d5877 yJx4a65c_grow_d5877, Cond.code yJx4a65c_grow_d5877 cJx4a65c_grow_d5877 1 (some (.array (.object "java/lang/Object"))), Cond.methodLink RJx4a65c 69 yJx4a65c_grow_92f84, Cond.instanceMethod yJx4a65c_grow_92f84]
def wsX3_add_r2 : List Cond := [Cond.selects RJx4a65c yJx4a65c_grow_92f84 yJx4a65c_grow_92f84, Cond.code yJx4a65c_grow_92f84 cJx4a65c_grow_92f84 4 (some (.array (.object "java/lang/Object"))), Cond.fieldLink RJx4a65c 39 "java/util/ArrayList" "DEFAULTCAPACITY_EMPTY_ELEMENTDATA" "[Ljava/lang/Object;", Cond.methodLink RJx4a65c 79 Lib.Math.max.name, Cond.static Lib.Math.max.name, Cond.initialized "java/lang/Math", Cond.code Lib.Math.max.name Lib.Math.max.code 2 (some .int), Cond.classLink RJx4a65c 7 "java/lang/Object", Cond.methodLink RJx4a65c 73 yJ8_newLength_cabcc, Cond.static yJ8_newLength_cabcc, Cond.initialized RJ8, Cond.code yJ8_newLength_cabcc cJ8_newLength_cabcc 4 (some .int), Cond.methodLink RJ8 194 Lib.Math.max.name, Cond.constant RJ8 200 (2147483639), Cond.methodLink RJ8 201 yJ8_hugeLength_7cf53, Cond.static yJ8_hugeLength_7cf53, Cond.code yJ8_hugeLength_7cf53 cJ8_hugeLength_7cf53 3 (some .int), Cond.methodLink RJx4a65c 66 yJ7_copyOf_1904c, Cond.static yJ7_copyOf_1904c, Cond.initialized RJ7, Cond.code yJ7_copyOf_1904c cJ7_copyOf_1904c 2 (some (.array (.object "java/lang/Object"))), Cond.methodLink RJ7 86 ⟨"java/lang/Object", "getClass", "()Ljava/lang/Class;"⟩, Cond.selects "[Ljava/lang/Object;" ⟨"java/lang/Object", "getClass", "()Ljava/lang/Class;"⟩ ⟨"java/lang/Object", "getClass", "()Ljava/lang/Class;"⟩, Cond.instanceMethod ⟨"java/lang/Object", "getClass", "()Ljava/lang/Class;"⟩]
def wsX3_add_r3 : List Cond := [Cond.native ⟨"java/lang/Object", "getClass", "()Ljava/lang/Class;"⟩, Cond.methodLink RJ7 300 yJ7_copyOf_6403c, Cond.static yJ7_copyOf_6403c, Cond.code yJ7_copyOf_6403c cJ7_copyOf_6403c 4 (some (.array (.object "java/lang/Object"))), Cond.classLink RJ7 110 "[Ljava/lang/Object;", Cond.classLink RJ7 2 "java/lang/Object", Cond.methodLink RJ7 304 Lib.Math.min.name, Cond.static Lib.Math.min.name, Cond.code Lib.Math.min.name Lib.Math.min.code 2 (some .int), Cond.methodLink RJ7 150 arraycopyName, Cond.native arraycopyName, Cond.static arraycopyName, Cond.initialized "java/lang/System"]
def wsX3_add : List Cond := .code yX3_add cX3_add 2 (some .int) :: ((wsX3_add_r1 ++ (wsX3_add_r2 ++ wsX3_add_r3)) ++ wsX30 ++ wsJx4a65c0)
def wsJx4a65c_isEmpty_aae02 : List Cond := .code yJx4a65c_isEmpty_aae02 cJx4a65c_isEmpty_aae02 1 (some .boolean) :: ([.fieldLink RJx4a65c 48 "java/util/ArrayList" "size" "I"] ++ wsJx4a65c0)
def wsJ3_checkIndex_8e157 : List Cond := .code yJ3_checkIndex_8e157 cJ3_checkIndex_8e157 3 (some .int) :: ([])
def wsJ15_checkIndex_7cf53 : List Cond := .code yJ15_checkIndex_7cf53 cJ15_checkIndex_7cf53 2 (some .int) :: ([.methodLink RJ15 105 yJ3_checkIndex_8e157, .static yJ3_checkIndex_8e157, .initialized RJ3, .code yJ3_checkIndex_8e157 cJ3_checkIndex_8e157 3 (some .int)])
def wsJx4a65c_fastRemove_b59b0 : List Cond := .code yJx4a65c_fastRemove_b59b0 cJx4a65c_fastRemove_b59b0 4 none :: ([.fieldLink RJx4a65c 63 "java/util/ArrayList" "modCount" "I", .sameField "java/util/ArrayList" "java/util/AbstractList" "modCount" "I", .fieldLink RJx4a65c 48 "java/util/ArrayList" "size" "I", .methodLink RJx4a65c 112 arraycopyName, .native arraycopyName, .static arraycopyName, .initialized "java/lang/System"] ++ wsJx4a65c0)
def wsJx4a65c_remove_915e3 : List Cond := .code yJx4a65c_remove_915e3 cJx4a65c_remove_915e3 4 (some (.object "java/lang/Object")) :: ([.fieldLink RJx4a65c 48 "java/util/ArrayList" "size" "I", .fieldLink RJx4a65c 9 "java/util/ArrayList" "elementData" "[Ljava/lang/Object;", .methodLink RJx4a65c 118 yJ15_checkIndex_7cf53, .static yJ15_checkIndex_7cf53, .initialized RJ15, .code yJ15_checkIndex_7cf53 cJ15_checkIndex_7cf53 2 (some .int), .methodLink RJ15 105 yJ3_checkIndex_8e157, .static yJ3_checkIndex_8e157, .initialized RJ3, .code yJ3_checkIndex_8e157 cJ3_checkIndex_8e157 3 (some .int), .methodLink RJx4a65c 144 yJx4a65c_fastRemove_b59b0, .instanceMethod yJx4a65c_fastRemove_b59b0, .selects RJx4a65c yJx4a65c_fastRemove_b59b0 yJx4a65c_fastRemove_b59b0, .initialized RJx4a65c, .code yJx4a65c_fastRemove_b59b0 cJx4a65c_fastRemove_b59b0 4 none, .fieldLink RJx4a65c 63 "java/util/ArrayList" "modCount" "I", .sameField "java/util/ArrayList" "java/util/AbstractList" "modCount" "I", .methodLink RJx4a65c 112 arraycopyName, .native arraycopyName, .static arraycopyName, .initialized "java/lang/System"] ++ wsJx4a65c0)
def wsX3_removeLast_r1 : List Cond := [Cond.fieldLink RX3 12 "WhatToRead$Shelf" "pieces" "Ljava/util/List;", Cond.methodLink RX3 32 ⟨"java/util/List", "isEmpty", "()Z"⟩, Cond.selects RJx4a65c ⟨"java/util/List", "isEmpty", "()Z"⟩ yJx4a65c_isEmpty_aae02, Cond.instanceMethod yJx4a65c_isEmpty_aae02, Cond.initialized RJx4a65c, Cond.code yJx4a65c_isEmpty_aae02 cJx4a65c_isEmpty_aae02 1 (some .boolean), Cond.fieldLink RJx4a65c 48 "java/util/ArrayList" "size" "I", Cond.methodLink RX3 22 ⟨"java/util/List", "size", "()I"⟩, Cond.selects RJx4a65c ⟨"java/util/List", "size", "()I"⟩ yJx4a65c_size_8abf5, Cond.instanceMethod yJx4a65c_size_8abf5, Cond.code yJx4a65c_size_8abf5 cJx4a65c_size_8abf5 1 (some .int), Cond.methodLink RX3 36 ⟨"java/util/List", "remove", "(I)Ljava/lang/Object;"⟩, Cond.selects RJx4a65c ⟨"java/util/List", "remove", "(I)Ljava/lang/Object;"⟩ yJx4a65c_remove_915e3, Cond.instanceMethod yJx4a65c_remove_915e3, Cond.code yJx4a65c_remove_915e3 cJx4a65c_remove_915e3 4 (some (.object "java/lang/Object")), Cond.fieldLink RJx4a65c 9 "java/util/ArrayList" "elementData" "[Ljava/lang/Object;", Cond.methodLink RJx4a65c 118 yJ15_checkIndex_7cf53, Cond.static yJ15_checkIndex_7cf53, Cond.initialized RJ15, Cond.code yJ15_checkIndex_7cf53 cJ15_checkIndex_7cf53 2 (some .int), Cond.methodLink RJ15 105 yJ3_checkIndex_8e157, Cond.static yJ3_checkIndex_8e157, Cond.initialized RJ3, Cond.code yJ3_checkIndex_8e157 cJ3_checkIndex_8e157 3 (some .int)]
def wsX3_removeLast_r2 : List Cond := [Cond.methodLink RJx4a65c 144 yJx4a65c_fastRemove_b59b0, Cond.instanceMethod yJx4a65c_fastRemove_b59b0, Cond.selects RJx4a65c yJx4a65c_fastRemove_b59b0 yJx4a65c_fastRemove_b59b0, Cond.code yJx4a65c_fastRemove_b59b0 cJx4a65c_fastRemove_b59b0 4 none, Cond.fieldLink RJx4a65c 63 "java/util/ArrayList" "modCount" "I", Cond.sameField "java/util/ArrayList" "java/util/AbstractList" "modCount" "I", Cond.methodLink RJx4a65c 112 arraycopyName, Cond.native arraycopyName, Cond.static arraycopyName, Cond.initialized "java/lang/System"]
def wsX3_removeLast : List Cond := .code yX3_removeLast cX3_removeLast 1 (some .int) :: ((wsX3_removeLast_r1 ++ wsX3_removeLast_r2) ++ wsX30 ++ wsJx4a65c0)
def wsJx4a65c_elementData_915e3 : List Cond := .code yJx4a65c_elementData_915e3 cJx4a65c_elementData_915e3 2 (some (.object "java/lang/Object")) :: ([.fieldLink RJx4a65c 9 "java/util/ArrayList" "elementData" "[Ljava/lang/Object;"] ++ wsJx4a65c0)
def wsJx4a65c_get_915e3 : List Cond := .code yJx4a65c_get_915e3 cJx4a65c_get_915e3 2 (some (.object "java/lang/Object")) :: ([.fieldLink RJx4a65c 48 "java/util/ArrayList" "size" "I", .methodLink RJx4a65c 118 yJ15_checkIndex_7cf53, .static yJ15_checkIndex_7cf53, .initialized RJ15, .code yJ15_checkIndex_7cf53 cJ15_checkIndex_7cf53 2 (some .int), .methodLink RJ15 105 yJ3_checkIndex_8e157, .static yJ3_checkIndex_8e157, .initialized RJ3, .code yJ3_checkIndex_8e157 cJ3_checkIndex_8e157 3 (some .int), .methodLink RJx4a65c 123 yJx4a65c_elementData_915e3, .instanceMethod yJx4a65c_elementData_915e3, .selects RJx4a65c yJx4a65c_elementData_915e3 yJx4a65c_elementData_915e3, .initialized RJx4a65c, .code yJx4a65c_elementData_915e3 cJx4a65c_elementData_915e3 2 (some (.object "java/lang/Object")), .fieldLink RJx4a65c 9 "java/util/ArrayList" "elementData" "[Ljava/lang/Object;"] ++ wsJx4a65c0)
def wsX3_pieceOf_r1 : List Cond := [Cond.fieldLink RX3 12 "WhatToRead$Shelf" "pieces" "Ljava/util/List;", Cond.classLink RX3 43 "WhatToRead$Piece", Cond.methodLink RX3 22 ⟨"java/util/List", "size", "()I"⟩, Cond.selects RJx4a65c ⟨"java/util/List", "size", "()I"⟩ yJx4a65c_size_8abf5, Cond.instanceMethod yJx4a65c_size_8abf5, Cond.initialized RJx4a65c, Cond.code yJx4a65c_size_8abf5 cJx4a65c_size_8abf5 1 (some .int), Cond.fieldLink RJx4a65c 48 "java/util/ArrayList" "size" "I", Cond.methodLink RX3 40 ⟨"java/util/List", "get", "(I)Ljava/lang/Object;"⟩, Cond.selects RJx4a65c ⟨"java/util/List", "get", "(I)Ljava/lang/Object;"⟩ yJx4a65c_get_915e3, Cond.instanceMethod yJx4a65c_get_915e3, Cond.code yJx4a65c_get_915e3 cJx4a65c_get_915e3 2 (some (.object "java/lang/Object")), Cond.methodLink RJx4a65c 118 yJ15_checkIndex_7cf53, Cond.static yJ15_checkIndex_7cf53, Cond.initialized RJ15, Cond.code yJ15_checkIndex_7cf53 cJ15_checkIndex_7cf53 2 (some .int), Cond.methodLink RJ15 105 yJ3_checkIndex_8e157, Cond.static yJ3_checkIndex_8e157, Cond.initialized RJ3, Cond.code yJ3_checkIndex_8e157 cJ3_checkIndex_8e157 3 (some .int), Cond.methodLink RJx4a65c 123 yJx4a65c_elementData_915e3, Cond.instanceMethod yJx4a65c_elementData_915e3, Cond.selects RJx4a65c yJx4a65c_elementData_915e3 yJx4a65c_elementData_915e3, Cond.code yJx4a65c_elementData_915e3 cJx4a65c_elementData_915e3 2 (some (.object "java/lang/Object"))]
def wsX3_pieceOf_r2 : List Cond := [Cond.fieldLink RJx4a65c 9 "java/util/ArrayList" "elementData" "[Ljava/lang/Object;"]
def wsX3_pieceOf : List Cond := .code yX3_pieceOf cX3_pieceOf 3 (some (.object "WhatToRead$Piece")) :: ((wsX3_pieceOf_r1 ++ wsX3_pieceOf_r2) ++ wsX30 ++ wsJx4a65c0)
def wsX7_isSkimmed : List Cond := .code yX7_isSkimmed cX7_isSkimmed 1 (some .boolean) :: ([])
def wsX3_minutesOf_r1 : List Cond := [Cond.fieldLink RX3 18 "WhatToRead$Shelf" "pace" "I", Cond.methodLink RX3 45 yX3_pieceOf, Cond.instanceMethod yX3_pieceOf, Cond.selects RX3 yX3_pieceOf yX3_pieceOf, Cond.initialized RX3, Cond.code yX3_pieceOf cX3_pieceOf 3 (some (.object "WhatToRead$Piece")), Cond.fieldLink RX3 12 "WhatToRead$Shelf" "pieces" "Ljava/util/List;", Cond.classLink RX3 43 "WhatToRead$Piece", Cond.methodLink RX3 22 ⟨"java/util/List", "size", "()I"⟩, Cond.selects RJx4a65c ⟨"java/util/List", "size", "()I"⟩ yJx4a65c_size_8abf5, Cond.instanceMethod yJx4a65c_size_8abf5, Cond.initialized RJx4a65c, Cond.code yJx4a65c_size_8abf5 cJx4a65c_size_8abf5 1 (some .int), Cond.fieldLink RJx4a65c 48 "java/util/ArrayList" "size" "I", Cond.methodLink RX3 40 ⟨"java/util/List", "get", "(I)Ljava/lang/Object;"⟩, Cond.selects RJx4a65c ⟨"java/util/List", "get", "(I)Ljava/lang/Object;"⟩ yJx4a65c_get_915e3, Cond.instanceMethod yJx4a65c_get_915e3, Cond.code yJx4a65c_get_915e3 cJx4a65c_get_915e3 2 (some (.object "java/lang/Object")), Cond.methodLink RJx4a65c 118 yJ15_checkIndex_7cf53, Cond.static yJ15_checkIndex_7cf53, Cond.initialized RJ15, Cond.code yJ15_checkIndex_7cf53 cJ15_checkIndex_7cf53 2 (some .int), Cond.methodLink RJ15 105 yJ3_checkIndex_8e157, Cond.static yJ3_checkIndex_8e157]
def wsX3_minutesOf_r2 : List Cond := [Cond.initialized RJ3, Cond.code yJ3_checkIndex_8e157 cJ3_checkIndex_8e157 3 (some .int), Cond.methodLink RJx4a65c 123 yJx4a65c_elementData_915e3, Cond.instanceMethod yJx4a65c_elementData_915e3, Cond.selects RJx4a65c yJx4a65c_elementData_915e3 yJx4a65c_elementData_915e3, Cond.code yJx4a65c_elementData_915e3 cJx4a65c_elementData_915e3 2 (some (.object "java/lang/Object")), Cond.fieldLink RJx4a65c 9 "java/util/ArrayList" "elementData" "[Ljava/lang/Object;", Cond.static yX7_isSkimmed, Cond.initialized RX7, Cond.code yX7_isSkimmed cX7_isSkimmed 1 (some .boolean), Cond.methodLink RX3 53 yX1_minutesAt, Cond.instanceMethod yX1_minutesAt, Cond.selects RX1 yX1_minutesAt yX1_minutesAt, Cond.initialized RX1, Cond.code yX1_minutesAt cX1_minutesAt 4 (some .int), Cond.fieldLink RX1 22 "WhatToRead$Piece" "pages" "I"]
def wsX3_minutesOf : List Cond := .code yX3_minutesOf cX3_minutesOf 3 (some .int) :: ((wsX3_minutesOf_r1 ++ wsX3_minutesOf_r2) ++ wsX30 ++ wsJx4a65c0 ++ wsX10)
def wsX3_readAllOpenTo_r1 : List Cond := [Cond.fieldLink RX3 12 "WhatToRead$Shelf" "pieces" "Ljava/util/List;", Cond.classLink RX3 43 "WhatToRead$Piece", Cond.methodLink RX3 22 ⟨"java/util/List", "size", "()I"⟩, Cond.selects RJx4a65c ⟨"java/util/List", "size", "()I"⟩ yJx4a65c_size_8abf5, Cond.instanceMethod yJx4a65c_size_8abf5, Cond.initialized RJx4a65c, Cond.code yJx4a65c_size_8abf5 cJx4a65c_size_8abf5 1 (some .int), Cond.fieldLink RJx4a65c 48 "java/util/ArrayList" "size" "I", Cond.methodLink RX3 40 ⟨"java/util/List", "get", "(I)Ljava/lang/Object;"⟩, Cond.selects RJx4a65c ⟨"java/util/List", "get", "(I)Ljava/lang/Object;"⟩ yJx4a65c_get_915e3, Cond.instanceMethod yJx4a65c_get_915e3, Cond.code yJx4a65c_get_915e3 cJx4a65c_get_915e3 2 (some (.object "java/lang/Object")), Cond.methodLink RJx4a65c 118 yJ15_checkIndex_7cf53, Cond.static yJ15_checkIndex_7cf53, Cond.initialized RJ15, Cond.code yJ15_checkIndex_7cf53 cJ15_checkIndex_7cf53 2 (some .int), Cond.methodLink RJ15 105 yJ3_checkIndex_8e157, Cond.static yJ3_checkIndex_8e157, Cond.initialized RJ3, Cond.code yJ3_checkIndex_8e157 cJ3_checkIndex_8e157 3 (some .int), Cond.methodLink RJx4a65c 123 yJx4a65c_elementData_915e3, Cond.instanceMethod yJx4a65c_elementData_915e3, Cond.selects RJx4a65c yJx4a65c_elementData_915e3 yJx4a65c_elementData_915e3, Cond.code yJx4a65c_elementData_915e3 cJx4a65c_elementData_915e3 2 (some (.object "java/lang/Object"))]
def wsX3_readAllOpenTo_r2 : List Cond := [Cond.fieldLink RJx4a65c 9 "java/util/ArrayList" "elementData" "[Ljava/lang/Object;", Cond.methodLink RX3 57 yX1_isOpenTo, Cond.instanceMethod yX1_isOpenTo, Cond.selects RX1 yX1_isOpenTo yX1_isOpenTo, Cond.initialized RX1, Cond.code yX1_isOpenTo cX1_isOpenTo 2 (some .boolean), Cond.fieldLink RX1 7 "WhatToRead$Piece" "needs" "I", Cond.fieldLink RX1 13 "WhatToRead$Piece" "either" "I", Cond.methodLink RX3 60 yX1_brings, Cond.instanceMethod yX1_brings, Cond.selects RX1 yX1_brings yX1_brings, Cond.code yX1_brings cX1_brings 2 (some .int), Cond.fieldLink RX1 19 "WhatToRead$Piece" "skimmed" "I", Cond.fieldLink RX1 16 "WhatToRead$Piece" "given" "I"]
def wsX3_readAllOpenTo : List Cond := .code yX3_readAllOpenTo cX3_readAllOpenTo 5 (some .int) :: ((wsX3_readAllOpenTo_r1 ++ wsX3_readAllOpenTo_r2) ++ wsX30 ++ wsJx4a65c0 ++ wsX10)
def wsX3_allNeeded_r1 : List Cond := [Cond.fieldLink RX3 12 "WhatToRead$Shelf" "pieces" "Ljava/util/List;", Cond.classLink RX3 43 "WhatToRead$Piece", Cond.methodLink RX3 22 ⟨"java/util/List", "size", "()I"⟩, Cond.selects RJx4a65c ⟨"java/util/List", "size", "()I"⟩ yJx4a65c_size_8abf5, Cond.instanceMethod yJx4a65c_size_8abf5, Cond.initialized RJx4a65c, Cond.code yJx4a65c_size_8abf5 cJx4a65c_size_8abf5 1 (some .int), Cond.fieldLink RJx4a65c 48 "java/util/ArrayList" "size" "I", Cond.methodLink RX3 40 ⟨"java/util/List", "get", "(I)Ljava/lang/Object;"⟩, Cond.selects RJx4a65c ⟨"java/util/List", "get", "(I)Ljava/lang/Object;"⟩ yJx4a65c_get_915e3, Cond.instanceMethod yJx4a65c_get_915e3, Cond.code yJx4a65c_get_915e3 cJx4a65c_get_915e3 2 (some (.object "java/lang/Object")), Cond.methodLink RJx4a65c 118 yJ15_checkIndex_7cf53, Cond.static yJ15_checkIndex_7cf53, Cond.initialized RJ15, Cond.code yJ15_checkIndex_7cf53 cJ15_checkIndex_7cf53 2 (some .int), Cond.methodLink RJ15 105 yJ3_checkIndex_8e157, Cond.static yJ3_checkIndex_8e157, Cond.initialized RJ3, Cond.code yJ3_checkIndex_8e157 cJ3_checkIndex_8e157 3 (some .int), Cond.methodLink RJx4a65c 123 yJx4a65c_elementData_915e3, Cond.instanceMethod yJx4a65c_elementData_915e3, Cond.selects RJx4a65c yJx4a65c_elementData_915e3 yJx4a65c_elementData_915e3, Cond.code yJx4a65c_elementData_915e3 cJx4a65c_elementData_915e3 2 (some (.object "java/lang/Object"))]
def wsX3_allNeeded_r2 : List Cond := [Cond.fieldLink RJx4a65c 9 "java/util/ArrayList" "elementData" "[Ljava/lang/Object;", Cond.methodLink RX3 64 yX1_needed, Cond.instanceMethod yX1_needed, Cond.selects RX1 yX1_needed yX1_needed, Cond.initialized RX1, Cond.code yX1_needed cX1_needed 1 (some .int), Cond.fieldLink RX1 7 "WhatToRead$Piece" "needs" "I"]
def wsX3_allNeeded : List Cond := .code yX3_allNeeded cX3_allNeeded 3 (some .int) :: ((wsX3_allNeeded_r1 ++ wsX3_allNeeded_r2) ++ wsX30 ++ wsJx4a65c0 ++ wsX10)
def wsX3_allGiven_r1 : List Cond := [Cond.fieldLink RX3 12 "WhatToRead$Shelf" "pieces" "Ljava/util/List;", Cond.classLink RX3 43 "WhatToRead$Piece", Cond.methodLink RX3 22 ⟨"java/util/List", "size", "()I"⟩, Cond.selects RJx4a65c ⟨"java/util/List", "size", "()I"⟩ yJx4a65c_size_8abf5, Cond.instanceMethod yJx4a65c_size_8abf5, Cond.initialized RJx4a65c, Cond.code yJx4a65c_size_8abf5 cJx4a65c_size_8abf5 1 (some .int), Cond.fieldLink RJx4a65c 48 "java/util/ArrayList" "size" "I", Cond.methodLink RX3 40 ⟨"java/util/List", "get", "(I)Ljava/lang/Object;"⟩, Cond.selects RJx4a65c ⟨"java/util/List", "get", "(I)Ljava/lang/Object;"⟩ yJx4a65c_get_915e3, Cond.instanceMethod yJx4a65c_get_915e3, Cond.code yJx4a65c_get_915e3 cJx4a65c_get_915e3 2 (some (.object "java/lang/Object")), Cond.methodLink RJx4a65c 118 yJ15_checkIndex_7cf53, Cond.static yJ15_checkIndex_7cf53, Cond.initialized RJ15, Cond.code yJ15_checkIndex_7cf53 cJ15_checkIndex_7cf53 2 (some .int), Cond.methodLink RJ15 105 yJ3_checkIndex_8e157, Cond.static yJ3_checkIndex_8e157, Cond.initialized RJ3, Cond.code yJ3_checkIndex_8e157 cJ3_checkIndex_8e157 3 (some .int), Cond.methodLink RJx4a65c 123 yJx4a65c_elementData_915e3, Cond.instanceMethod yJx4a65c_elementData_915e3, Cond.selects RJx4a65c yJx4a65c_elementData_915e3 yJx4a65c_elementData_915e3, Cond.code yJx4a65c_elementData_915e3 cJx4a65c_elementData_915e3 2 (some (.object "java/lang/Object"))]
def wsX3_allGiven_r2 : List Cond := [Cond.fieldLink RJx4a65c 9 "java/util/ArrayList" "elementData" "[Ljava/lang/Object;", Cond.methodLink RX3 60 yX1_brings, Cond.instanceMethod yX1_brings, Cond.selects RX1 yX1_brings yX1_brings, Cond.initialized RX1, Cond.code yX1_brings cX1_brings 2 (some .int), Cond.fieldLink RX1 19 "WhatToRead$Piece" "skimmed" "I", Cond.fieldLink RX1 16 "WhatToRead$Piece" "given" "I"]
def wsX3_allGiven : List Cond := .code yX3_allGiven cX3_allGiven 3 (some .int) :: ((wsX3_allGiven_r1 ++ wsX3_allGiven_r2) ++ wsX30 ++ wsJx4a65c0 ++ wsX10)
def wsX4_init : List Cond := .code yX4_init cX4_init 1 none :: ([.methodLink RX4 3 objectInit, .instanceMethod objectInit, .code objectInit ⟨#[0xb1]⟩ 1 none, .arrayClass .int, .fieldLink RX4 9 "WhatToRead$Topics" "worths" "[I", .fieldLink RX4 15 "WhatToRead$Topics" "closures" "[I", .fieldLink RX4 18 "WhatToRead$Topics" "count" "I"] ++ wsX40)
def wsX4_size : List Cond := .code yX4_size cX4_size 1 (some .int) :: ([.fieldLink RX4 18 "WhatToRead$Topics" "count" "I"] ++ wsX40)
def wsX4_haveAll : List Cond := .code yX4_haveAll cX4_haveAll 2 (some .boolean) :: ([.fieldLink RX4 18 "WhatToRead$Topics" "count" "I"] ++ wsX40)
def wsX4_closure : List Cond := .code yX4_closure cX4_closure 4 (some .int) :: ([.fieldLink RX4 15 "WhatToRead$Topics" "closures" "[I"] ++ wsX40)
def wsX4_add : List Cond := .code yX4_add cX4_add 4 (some .int) :: ([.fieldLink RX4 18 "WhatToRead$Topics" "count" "I", .fieldLink RX4 9 "WhatToRead$Topics" "worths" "[I", .fieldLink RX4 15 "WhatToRead$Topics" "closures" "[I", .methodLink RX4 22 yX4_closure, .instanceMethod yX4_closure, .selects RX4 yX4_closure yX4_closure, .initialized RX4, .code yX4_closure cX4_closure 4 (some .int)] ++ wsX40)
def wsX4_impliedBy : List Cond := .code yX4_impliedBy cX4_impliedBy 3 (some .int) :: ([.methodLink RX4 22 yX4_closure, .instanceMethod yX4_closure, .selects RX4 yX4_closure yX4_closure, .initialized RX4, .code yX4_closure cX4_closure 4 (some .int), .fieldLink RX4 15 "WhatToRead$Topics" "closures" "[I"] ++ wsX40)
def wsX4_worthOf : List Cond := .code yX4_worthOf cX4_worthOf 4 (some .int) :: ([.fieldLink RX4 9 "WhatToRead$Topics" "worths" "[I"] ++ wsX40)
def wsX5_init : List Cond := .code yX5_init cX5_init 1 none :: ([.methodLink RX5 5 objectInit, .instanceMethod objectInit, .code objectInit ⟨#[0xb1]⟩ 1 none, .arrayClass .int, .fieldLink RX5 11 "WhatToRead$Ways" "costs" "[I", .arrayClass .long, .fieldLink RX5 15 "WhatToRead$Ways" "rows" "[J", .fieldLink RX5 19 "WhatToRead$Ways" "sets" "I"] ++ wsX50)
def wsX5_isBefore : List Cond := .code yX5_isBefore cX5_isBefore 5 (some .boolean) :: ([.fieldLink RX5 11 "WhatToRead$Ways" "costs" "[I", .fieldLink RX5 15 "WhatToRead$Ways" "rows" "[J"] ++ wsX50)
def wsX5_offer : List Cond := .code yX5_offer cX5_offer 8 none :: ([.fieldLink RX5 19 "WhatToRead$Ways" "sets" "I", .fieldLink RX5 11 "WhatToRead$Ways" "costs" "[I", .fieldLink RX5 15 "WhatToRead$Ways" "rows" "[J", .methodLink RX5 64 yX5_isBefore, .instanceMethod yX5_isBefore, .selects RX5 yX5_isBefore yX5_isBefore, .initialized RX5, .code yX5_isBefore cX5_isBefore 5 (some .boolean)] ++ wsX50)
def wsX5_goOnFrom_r1 : List Cond := [Cond.methodLink RX5 33 yX3_size, Cond.instanceMethod yX3_size, Cond.selects RX3 yX3_size yX3_size, Cond.initialized RX3, Cond.code yX3_size cX3_size 1 (some .int), Cond.fieldLink RX3 12 "WhatToRead$Shelf" "pieces" "Ljava/util/List;", Cond.methodLink RX3 22 ⟨"java/util/List", "size", "()I"⟩, Cond.selects RJx4a65c ⟨"java/util/List", "size", "()I"⟩ yJx4a65c_size_8abf5, Cond.instanceMethod yJx4a65c_size_8abf5, Cond.initialized RJx4a65c, Cond.code yJx4a65c_size_8abf5 cJx4a65c_size_8abf5 1 (some .int), Cond.fieldLink RJx4a65c 48 "java/util/ArrayList" "size" "I", Cond.methodLink RX5 39 yX3_pieceOf, Cond.instanceMethod yX3_pieceOf, Cond.selects RX3 yX3_pieceOf yX3_pieceOf, Cond.code yX3_pieceOf cX3_pieceOf 3 (some (.object "WhatToRead$Piece")), Cond.classLink RX3 43 "WhatToRead$Piece", Cond.methodLink RX3 40 ⟨"java/util/List", "get", "(I)Ljava/lang/Object;"⟩, Cond.selects RJx4a65c ⟨"java/util/List", "get", "(I)Ljava/lang/Object;"⟩ yJx4a65c_get_915e3, Cond.instanceMethod yJx4a65c_get_915e3, Cond.code yJx4a65c_get_915e3 cJx4a65c_get_915e3 2 (some (.object "java/lang/Object")), Cond.methodLink RJx4a65c 118 yJ15_checkIndex_7cf53, Cond.static yJ15_checkIndex_7cf53, Cond.initialized RJ15]
def wsX5_goOnFrom_r2 : List Cond := [Cond.code yJ15_checkIndex_7cf53 cJ15_checkIndex_7cf53 2 (some .int), Cond.methodLink RJ15 105 yJ3_checkIndex_8e157, Cond.static yJ3_checkIndex_8e157, Cond.initialized RJ3, Cond.code yJ3_checkIndex_8e157 cJ3_checkIndex_8e157 3 (some .int), Cond.methodLink RJx4a65c 123 yJx4a65c_elementData_915e3, Cond.instanceMethod yJx4a65c_elementData_915e3, Cond.selects RJx4a65c yJx4a65c_elementData_915e3 yJx4a65c_elementData_915e3, Cond.code yJx4a65c_elementData_915e3 cJx4a65c_elementData_915e3 2 (some (.object "java/lang/Object")), Cond.fieldLink RJx4a65c 9 "java/util/ArrayList" "elementData" "[Ljava/lang/Object;", Cond.methodLink RX5 43 yX1_isOpenTo, Cond.instanceMethod yX1_isOpenTo, Cond.selects RX1 yX1_isOpenTo yX1_isOpenTo, Cond.initialized RX1, Cond.code yX1_isOpenTo cX1_isOpenTo 2 (some .boolean), Cond.fieldLink RX1 7 "WhatToRead$Piece" "needs" "I", Cond.fieldLink RX1 13 "WhatToRead$Piece" "either" "I", Cond.static yX7_isSkimmed, Cond.initialized RX7, Cond.code yX7_isSkimmed cX7_isSkimmed 1 (some .boolean), Cond.methodLink RX5 52 yX1_brings, Cond.instanceMethod yX1_brings, Cond.selects RX1 yX1_brings yX1_brings, Cond.code yX1_brings cX1_brings 2 (some .int)]
def wsX5_goOnFrom_r3 : List Cond := [Cond.fieldLink RX1 19 "WhatToRead$Piece" "skimmed" "I", Cond.fieldLink RX1 16 "WhatToRead$Piece" "given" "I", Cond.methodLink RX5 56 yX3_minutesOf, Cond.instanceMethod yX3_minutesOf, Cond.selects RX3 yX3_minutesOf yX3_minutesOf, Cond.code yX3_minutesOf cX3_minutesOf 3 (some .int), Cond.fieldLink RX3 18 "WhatToRead$Shelf" "pace" "I", Cond.methodLink RX3 45 yX3_pieceOf, Cond.methodLink RX3 53 yX1_minutesAt, Cond.instanceMethod yX1_minutesAt, Cond.selects RX1 yX1_minutesAt yX1_minutesAt, Cond.code yX1_minutesAt cX1_minutesAt 4 (some .int), Cond.fieldLink RX1 22 "WhatToRead$Piece" "pages" "I", Cond.methodLink RX5 60 yX5_offer, Cond.instanceMethod yX5_offer, Cond.selects RX5 yX5_offer yX5_offer, Cond.initialized RX5, Cond.code yX5_offer cX5_offer 8 none, Cond.fieldLink RX5 19 "WhatToRead$Ways" "sets" "I", Cond.fieldLink RX5 11 "WhatToRead$Ways" "costs" "[I", Cond.fieldLink RX5 15 "WhatToRead$Ways" "rows" "[J", Cond.methodLink RX5 64 yX5_isBefore, Cond.instanceMethod yX5_isBefore, Cond.selects RX5 yX5_isBefore yX5_isBefore]
def wsX5_goOnFrom_r4 : List Cond := [Cond.code yX5_isBefore cX5_isBefore 5 (some .boolean)]
def wsX5_goOnFrom : List Cond := .code yX5_goOnFrom cX5_goOnFrom 6 none :: ((wsX5_goOnFrom_r1 ++ (wsX5_goOnFrom_r2 ++ (wsX5_goOnFrom_r3 ++ wsX5_goOnFrom_r4))) ++ wsX30 ++ wsJx4a65c0 ++ wsX10 ++ wsX50)
def wsX5_explore_r1 : List Cond := [Cond.methodLink RX5 23 Lib.Math.min.name, Cond.static Lib.Math.min.name, Cond.initialized "java/lang/Math", Cond.code Lib.Math.min.name Lib.Math.min.code 2 (some .int), Cond.fieldLink RX5 19 "WhatToRead$Ways" "sets" "I", Cond.fieldLink RX5 11 "WhatToRead$Ways" "costs" "[I", Cond.fieldLink RX5 15 "WhatToRead$Ways" "rows" "[J", Cond.methodLink RX5 29 yX5_goOnFrom, Cond.instanceMethod yX5_goOnFrom, Cond.selects RX5 yX5_goOnFrom yX5_goOnFrom, Cond.initialized RX5, Cond.code yX5_goOnFrom cX5_goOnFrom 6 none, Cond.methodLink RX5 33 yX3_size, Cond.instanceMethod yX3_size, Cond.selects RX3 yX3_size yX3_size, Cond.initialized RX3, Cond.code yX3_size cX3_size 1 (some .int), Cond.fieldLink RX3 12 "WhatToRead$Shelf" "pieces" "Ljava/util/List;", Cond.methodLink RX3 22 ⟨"java/util/List", "size", "()I"⟩, Cond.selects RJx4a65c ⟨"java/util/List", "size", "()I"⟩ yJx4a65c_size_8abf5, Cond.instanceMethod yJx4a65c_size_8abf5, Cond.initialized RJx4a65c, Cond.code yJx4a65c_size_8abf5 cJx4a65c_size_8abf5 1 (some .int), Cond.fieldLink RJx4a65c 48 "java/util/ArrayList" "size" "I"]
def wsX5_explore_r2 : List Cond := [Cond.methodLink RX5 39 yX3_pieceOf, Cond.instanceMethod yX3_pieceOf, Cond.selects RX3 yX3_pieceOf yX3_pieceOf, Cond.code yX3_pieceOf cX3_pieceOf 3 (some (.object "WhatToRead$Piece")), Cond.classLink RX3 43 "WhatToRead$Piece", Cond.methodLink RX3 40 ⟨"java/util/List", "get", "(I)Ljava/lang/Object;"⟩, Cond.selects RJx4a65c ⟨"java/util/List", "get", "(I)Ljava/lang/Object;"⟩ yJx4a65c_get_915e3, Cond.instanceMethod yJx4a65c_get_915e3, Cond.code yJx4a65c_get_915e3 cJx4a65c_get_915e3 2 (some (.object "java/lang/Object")), Cond.methodLink RJx4a65c 118 yJ15_checkIndex_7cf53, Cond.static yJ15_checkIndex_7cf53, Cond.initialized RJ15, Cond.code yJ15_checkIndex_7cf53 cJ15_checkIndex_7cf53 2 (some .int), Cond.methodLink RJ15 105 yJ3_checkIndex_8e157, Cond.static yJ3_checkIndex_8e157, Cond.initialized RJ3, Cond.code yJ3_checkIndex_8e157 cJ3_checkIndex_8e157 3 (some .int), Cond.methodLink RJx4a65c 123 yJx4a65c_elementData_915e3, Cond.instanceMethod yJx4a65c_elementData_915e3, Cond.selects RJx4a65c yJx4a65c_elementData_915e3 yJx4a65c_elementData_915e3, Cond.code yJx4a65c_elementData_915e3 cJx4a65c_elementData_915e3 2 (some (.object "java/lang/Object")), Cond.fieldLink RJx4a65c 9 "java/util/ArrayList" "elementData" "[Ljava/lang/Object;", Cond.methodLink RX5 43 yX1_isOpenTo, Cond.instanceMethod yX1_isOpenTo]
def wsX5_explore_r3 : List Cond := [Cond.selects RX1 yX1_isOpenTo yX1_isOpenTo, Cond.initialized RX1, Cond.code yX1_isOpenTo cX1_isOpenTo 2 (some .boolean), Cond.fieldLink RX1 7 "WhatToRead$Piece" "needs" "I", Cond.fieldLink RX1 13 "WhatToRead$Piece" "either" "I", Cond.static yX7_isSkimmed, Cond.initialized RX7, Cond.code yX7_isSkimmed cX7_isSkimmed 1 (some .boolean), Cond.methodLink RX5 52 yX1_brings, Cond.instanceMethod yX1_brings, Cond.selects RX1 yX1_brings yX1_brings, Cond.code yX1_brings cX1_brings 2 (some .int), Cond.fieldLink RX1 19 "WhatToRead$Piece" "skimmed" "I", Cond.fieldLink RX1 16 "WhatToRead$Piece" "given" "I", Cond.methodLink RX5 56 yX3_minutesOf, Cond.instanceMethod yX3_minutesOf, Cond.selects RX3 yX3_minutesOf yX3_minutesOf, Cond.code yX3_minutesOf cX3_minutesOf 3 (some .int), Cond.fieldLink RX3 18 "WhatToRead$Shelf" "pace" "I", Cond.methodLink RX3 45 yX3_pieceOf, Cond.methodLink RX3 53 yX1_minutesAt, Cond.instanceMethod yX1_minutesAt, Cond.selects RX1 yX1_minutesAt yX1_minutesAt, Cond.code yX1_minutesAt cX1_minutesAt 4 (some .int)]
def wsX5_explore_r4 : List Cond := [Cond.fieldLink RX1 22 "WhatToRead$Piece" "pages" "I", Cond.methodLink RX5 60 yX5_offer, Cond.instanceMethod yX5_offer, Cond.selects RX5 yX5_offer yX5_offer, Cond.code yX5_offer cX5_offer 8 none, Cond.methodLink RX5 64 yX5_isBefore, Cond.instanceMethod yX5_isBefore, Cond.selects RX5 yX5_isBefore yX5_isBefore, Cond.code yX5_isBefore cX5_isBefore 5 (some .boolean)]
def wsX5_explore : List Cond := .code yX5_explore cX5_explore 6 none :: ((wsX5_explore_r1 ++ (wsX5_explore_r2 ++ (wsX5_explore_r3 ++ wsX5_explore_r4))) ++ wsX50 ++ wsX30 ++ wsJx4a65c0 ++ wsX10)
def wsX5_isBetter : List Cond := .code yX5_isBetter cX5_isBetter 3 (some .boolean) :: ([.fieldLink RX5 11 "WhatToRead$Ways" "costs" "[I", .fieldLink RX5 15 "WhatToRead$Ways" "rows" "[J", .methodLink RX5 64 yX5_isBefore, .instanceMethod yX5_isBefore, .selects RX5 yX5_isBefore yX5_isBefore, .initialized RX5, .code yX5_isBefore cX5_isBefore 5 (some .boolean)] ++ wsX50)
def wsX5_endWith : List Cond := .code yX5_endWith cX5_endWith 4 (some .int) :: ([.fieldLink RX5 19 "WhatToRead$Ways" "sets" "I", .fieldLink RX5 11 "WhatToRead$Ways" "costs" "[I", .methodLink RX5 68 yX5_isBetter, .instanceMethod yX5_isBetter, .selects RX5 yX5_isBetter yX5_isBetter, .initialized RX5, .code yX5_isBetter cX5_isBetter 3 (some .boolean), .fieldLink RX5 15 "WhatToRead$Ways" "rows" "[J", .methodLink RX5 64 yX5_isBefore, .instanceMethod yX5_isBefore, .selects RX5 yX5_isBefore yX5_isBefore, .code yX5_isBefore cX5_isBefore 5 (some .boolean)] ++ wsX50)
def wsX5_minutesTo : List Cond := .code yX5_minutesTo cX5_minutesTo 2 (some .int) :: ([.fieldLink RX5 19 "WhatToRead$Ways" "sets" "I", .fieldLink RX5 11 "WhatToRead$Ways" "costs" "[I"] ++ wsX50)
def wsX5_richestEnd : List Cond := .code yX5_richestEnd cX5_richestEnd 7 (some .int) :: ([.fieldLink RX5 19 "WhatToRead$Ways" "sets" "I", .fieldLink RX5 11 "WhatToRead$Ways" "costs" "[I", .methodLink RX5 72 yX5_minutesTo, .instanceMethod yX5_minutesTo, .selects RX5 yX5_minutesTo yX5_minutesTo, .initialized RX5, .code yX5_minutesTo cX5_minutesTo 2 (some .int), .methodLink RX5 75 yX4_worthOf, .instanceMethod yX4_worthOf, .selects RX4 yX4_worthOf yX4_worthOf, .initialized RX4, .code yX4_worthOf cX4_worthOf 4 (some .int), .fieldLink RX4 9 "WhatToRead$Topics" "worths" "[I", .methodLink RX5 68 yX5_isBetter, .instanceMethod yX5_isBetter, .selects RX5 yX5_isBetter yX5_isBetter, .code yX5_isBetter cX5_isBetter 3 (some .boolean), .fieldLink RX5 15 "WhatToRead$Ways" "rows" "[J", .methodLink RX5 64 yX5_isBefore, .instanceMethod yX5_isBefore, .selects RX5 yX5_isBefore yX5_isBefore, .code yX5_isBefore cX5_isBefore 5 (some .boolean)] ++ wsX50 ++ wsX40)
def wsX5_copyRow : List Cond := .code yX5_copyRow cX5_copyRow 4 none :: ([.fieldLink RX5 19 "WhatToRead$Ways" "sets" "I", .fieldLink RX5 11 "WhatToRead$Ways" "costs" "[I", .fieldLink RX5 15 "WhatToRead$Ways" "rows" "[J", .methodLink RX5 80 yX2_clear, .instanceMethod yX2_clear, .selects RX2 yX2_clear yX2_clear, .initialized RX2, .code yX2_clear cX2_clear 1 none, .fieldLink RX2 15 "WhatToRead$Row" "count" "I", .methodLink RX5 85 yX2_add, .instanceMethod yX2_add, .selects RX2 yX2_add yX2_add, .code yX2_add cX2_add 2 none, .fieldLink RX2 9 "WhatToRead$Row" "items" "[I"] ++ wsX50 ++ wsX20)
def wsX6_init : List Cond := .code yX6_init cX6_init 2 none :: ([.methodLink RX6 3 objectInit, .instanceMethod objectInit, .code objectInit ⟨#[0xb1]⟩ 1 none, .arrayClass .int, .fieldLink RX6 9 "WhatToRead$Weeks" "minutes" "[I", .classLink RX6 15 RX2, .instantiable RX2 2, .initialized RX2, .fieldLink RX6 18 "WhatToRead$Weeks" "laidWeeks" "LWhatToRead$Row;", .fieldLink RX6 22 "WhatToRead$Weeks" "draft" "LWhatToRead$Row;", .methodLink RX6 17 yX2_init, .instanceMethod yX2_init, .code yX2_init cX2_init 1 none, .methodLink RX2 3 objectInit, .fieldLink RX2 9 "WhatToRead$Row" "items" "[I", .fieldLink RX2 15 "WhatToRead$Row" "count" "I"] ++ wsX60 ++ wsX20)
def wsX6_change : List Cond := .code yX6_change cX6_change 3 none :: ([.fieldLink RX6 9 "WhatToRead$Weeks" "minutes" "[I"] ++ wsX60)
def wsX6_weekOf : List Cond := .code yX6_weekOf cX6_weekOf 2 (some .int) :: ([.fieldLink RX6 18 "WhatToRead$Weeks" "laidWeeks" "LWhatToRead$Row;", .methodLink RX6 25 yX2_at, .instanceMethod yX2_at, .selects RX2 yX2_at yX2_at, .initialized RX2, .code yX2_at cX2_at 2 (some .int), .fieldLink RX2 15 "WhatToRead$Row" "count" "I", .fieldLink RX2 9 "WhatToRead$Row" "items" "[I"] ++ wsX60 ++ wsX20)
def wsX6_layRow_r1 : List Cond := [Cond.fieldLink RX6 9 "WhatToRead$Weeks" "minutes" "[I", Cond.fieldLink RX6 22 "WhatToRead$Weeks" "draft" "LWhatToRead$Row;", Cond.fieldLink RX6 18 "WhatToRead$Weeks" "laidWeeks" "LWhatToRead$Row;", Cond.methodLink RX6 29 yX2_clear, Cond.instanceMethod yX2_clear, Cond.selects RX2 yX2_clear yX2_clear, Cond.initialized RX2, Cond.code yX2_clear cX2_clear 1 none, Cond.fieldLink RX2 15 "WhatToRead$Row" "count" "I", Cond.methodLink RX6 32 yX2_size, Cond.instanceMethod yX2_size, Cond.selects RX2 yX2_size yX2_size, Cond.code yX2_size cX2_size 1 (some .int), Cond.methodLink RX6 25 yX2_at, Cond.instanceMethod yX2_at, Cond.selects RX2 yX2_at yX2_at, Cond.code yX2_at cX2_at 2 (some .int), Cond.fieldLink RX2 9 "WhatToRead$Row" "items" "[I", Cond.methodLink RX6 36 yX3_minutesOf, Cond.instanceMethod yX3_minutesOf, Cond.selects RX3 yX3_minutesOf yX3_minutesOf, Cond.initialized RX3, Cond.code yX3_minutesOf cX3_minutesOf 3 (some .int), Cond.fieldLink RX3 18 "WhatToRead$Shelf" "pace" "I"]
def wsX6_layRow_r2 : List Cond := [Cond.methodLink RX3 45 yX3_pieceOf, Cond.instanceMethod yX3_pieceOf, Cond.selects RX3 yX3_pieceOf yX3_pieceOf, Cond.code yX3_pieceOf cX3_pieceOf 3 (some (.object "WhatToRead$Piece")), Cond.fieldLink RX3 12 "WhatToRead$Shelf" "pieces" "Ljava/util/List;", Cond.classLink RX3 43 "WhatToRead$Piece", Cond.methodLink RX3 22 ⟨"java/util/List", "size", "()I"⟩, Cond.selects RJx4a65c ⟨"java/util/List", "size", "()I"⟩ yJx4a65c_size_8abf5, Cond.instanceMethod yJx4a65c_size_8abf5, Cond.initialized RJx4a65c, Cond.code yJx4a65c_size_8abf5 cJx4a65c_size_8abf5 1 (some .int), Cond.fieldLink RJx4a65c 48 "java/util/ArrayList" "size" "I", Cond.methodLink RX3 40 ⟨"java/util/List", "get", "(I)Ljava/lang/Object;"⟩, Cond.selects RJx4a65c ⟨"java/util/List", "get", "(I)Ljava/lang/Object;"⟩ yJx4a65c_get_915e3, Cond.instanceMethod yJx4a65c_get_915e3, Cond.code yJx4a65c_get_915e3 cJx4a65c_get_915e3 2 (some (.object "java/lang/Object")), Cond.methodLink RJx4a65c 118 yJ15_checkIndex_7cf53, Cond.static yJ15_checkIndex_7cf53, Cond.initialized RJ15, Cond.code yJ15_checkIndex_7cf53 cJ15_checkIndex_7cf53 2 (some .int), Cond.methodLink RJ15 105 yJ3_checkIndex_8e157, Cond.static yJ3_checkIndex_8e157, Cond.initialized RJ3, Cond.code yJ3_checkIndex_8e157 cJ3_checkIndex_8e157 3 (some .int)]
def wsX6_layRow_r3 : List Cond := [Cond.methodLink RJx4a65c 123 yJx4a65c_elementData_915e3, Cond.instanceMethod yJx4a65c_elementData_915e3, Cond.selects RJx4a65c yJx4a65c_elementData_915e3 yJx4a65c_elementData_915e3, Cond.code yJx4a65c_elementData_915e3 cJx4a65c_elementData_915e3 2 (some (.object "java/lang/Object")), Cond.fieldLink RJx4a65c 9 "java/util/ArrayList" "elementData" "[Ljava/lang/Object;", Cond.static yX7_isSkimmed, Cond.initialized RX7, Cond.code yX7_isSkimmed cX7_isSkimmed 1 (some .boolean), Cond.methodLink RX3 53 yX1_minutesAt, Cond.instanceMethod yX1_minutesAt, Cond.selects RX1 yX1_minutesAt yX1_minutesAt, Cond.initialized RX1, Cond.code yX1_minutesAt cX1_minutesAt 4 (some .int), Cond.fieldLink RX1 22 "WhatToRead$Piece" "pages" "I", Cond.methodLink RX6 41 yX2_add, Cond.instanceMethod yX2_add, Cond.selects RX2 yX2_add yX2_add, Cond.code yX2_add cX2_add 2 none, Cond.methodLink RX6 45 yX2_become, Cond.instanceMethod yX2_become, Cond.selects RX2 yX2_become yX2_become, Cond.code yX2_become cX2_become 3 none, Cond.methodLink RX2 19 yX2_clear, Cond.methodLink RX2 22 yX2_size]
def wsX6_layRow_r4 : List Cond := [Cond.methodLink RX2 26 yX2_at, Cond.methodLink RX2 30 yX2_add]
def wsX6_layRow : List Cond := .code yX6_layRow cX6_layRow 8 (some .int) :: ((wsX6_layRow_r1 ++ (wsX6_layRow_r2 ++ (wsX6_layRow_r3 ++ wsX6_layRow_r4))) ++ wsX60 ++ wsX20 ++ wsX30 ++ wsJx4a65c0 ++ wsX10)
def wsX7_init_r1 : List Cond := [Cond.methodLink RX7 3 objectInit, Cond.instanceMethod objectInit, Cond.code objectInit ⟨#[0xb1]⟩ 1 none, Cond.classLink RX7 9 RX4, Cond.instantiable RX4 3, Cond.initialized RX4, Cond.fieldLink RX7 12 "WhatToRead" "topics" "LWhatToRead$Topics;", Cond.classLink RX7 16 RX3, Cond.instantiable RX3 2, Cond.initialized RX3, Cond.fieldLink RX7 19 "WhatToRead" "shelf" "LWhatToRead$Shelf;", Cond.classLink RX7 23 RX5, Cond.instantiable RX5 3, Cond.initialized RX5, Cond.fieldLink RX7 26 "WhatToRead" "ways" "LWhatToRead$Ways;", Cond.classLink RX7 30 RX2, Cond.instantiable RX2 2, Cond.initialized RX2, Cond.fieldLink RX7 33 "WhatToRead" "row" "LWhatToRead$Row;", Cond.classLink RX7 37 RX6, Cond.instantiable RX6 3, Cond.initialized RX6, Cond.fieldLink RX7 40 "WhatToRead" "weeks" "LWhatToRead$Weeks;", Cond.classLink RX7 44 RX0]
def wsX7_init_r2 : List Cond := [Cond.instantiable RX0 4, Cond.initialized RX0, Cond.fieldLink RX7 47 "WhatToRead" "asking" "LWhatToRead$Asking;", Cond.fieldLink RX7 51 "WhatToRead" "known" "I", Cond.methodLink RX7 11 yX4_init, Cond.instanceMethod yX4_init, Cond.code yX4_init cX4_init 1 none, Cond.methodLink RX4 3 objectInit, Cond.arrayClass .int, Cond.fieldLink RX4 9 "WhatToRead$Topics" "worths" "[I", Cond.fieldLink RX4 15 "WhatToRead$Topics" "closures" "[I", Cond.fieldLink RX4 18 "WhatToRead$Topics" "count" "I", Cond.methodLink RX7 18 yX3_init, Cond.instanceMethod yX3_init, Cond.code yX3_init cX3_init 1 none, Cond.methodLink RX3 3 objectInit, Cond.classLink RX3 9 RJx4a65c, Cond.instantiable RJx4a65c 3, Cond.initialized RJx4a65c, Cond.fieldLink RX3 12 "WhatToRead$Shelf" "pieces" "Ljava/util/List;", Cond.fieldLink RX3 18 "WhatToRead$Shelf" "pace" "I", Cond.methodLink RX3 11 yJx4a65c_init_da8c8, Cond.instanceMethod yJx4a65c_init_da8c8, Cond.code yJx4a65c_init_da8c8 cJx4a65c_init_da8c8 1 none]
def wsX7_init_r3 : List Cond := [Cond.fieldLink RJx4a65c 39 "java/util/ArrayList" "DEFAULTCAPACITY_EMPTY_ELEMENTDATA" "[Ljava/lang/Object;", Cond.fieldLink RJx4a65c 9 "java/util/ArrayList" "elementData" "[Ljava/lang/Object;", Cond.methodLink RJx4a65c 1 yJxc12de_init_da8c8, Cond.instanceMethod yJxc12de_init_da8c8, Cond.initialized RJxc12de, Cond.code yJxc12de_init_da8c8 cJxc12de_init_da8c8 1 none, Cond.fieldLink RJxc12de 7 "java/util/AbstractList" "modCount" "I", Cond.methodLink RJxc12de 1 yJxa1e45_init_da8c8, Cond.instanceMethod yJxa1e45_init_da8c8, Cond.initialized RJxa1e45, Cond.code yJxa1e45_init_da8c8 cJxa1e45_init_da8c8 1 none, Cond.methodLink RJxa1e45 1 objectInit, Cond.methodLink RX7 25 yX5_init, Cond.instanceMethod yX5_init, Cond.code yX5_init cX5_init 1 none, Cond.methodLink RX5 5 objectInit, Cond.fieldLink RX5 11 "WhatToRead$Ways" "costs" "[I", Cond.arrayClass .long, Cond.fieldLink RX5 15 "WhatToRead$Ways" "rows" "[J", Cond.fieldLink RX5 19 "WhatToRead$Ways" "sets" "I", Cond.methodLink RX7 32 yX2_init, Cond.instanceMethod yX2_init, Cond.code yX2_init cX2_init 1 none, Cond.methodLink RX2 3 objectInit]
def wsX7_init_r4 : List Cond := [Cond.fieldLink RX2 9 "WhatToRead$Row" "items" "[I", Cond.fieldLink RX2 15 "WhatToRead$Row" "count" "I", Cond.methodLink RX7 39 yX6_init, Cond.instanceMethod yX6_init, Cond.code yX6_init cX6_init 2 none, Cond.methodLink RX6 3 objectInit, Cond.fieldLink RX6 9 "WhatToRead$Weeks" "minutes" "[I", Cond.classLink RX6 15 RX2, Cond.fieldLink RX6 18 "WhatToRead$Weeks" "laidWeeks" "LWhatToRead$Row;", Cond.fieldLink RX6 22 "WhatToRead$Weeks" "draft" "LWhatToRead$Row;", Cond.methodLink RX6 17 yX2_init, Cond.methodLink RX7 46 yX0_init, Cond.instanceMethod yX0_init, Cond.code yX0_init cX0_init 1 none, Cond.methodLink RX0 3 objectInit, Cond.fieldLink RX0 9 "WhatToRead$Asking" "sets" "[I", Cond.fieldLink RX0 15 "WhatToRead$Asking" "scratch" "[I", Cond.fieldLink RX0 18 "WhatToRead$Asking" "count" "I", Cond.fieldLink RX0 22 "WhatToRead$Asking" "answered" "I"]
def wsX7_init : List Cond := .code yX7_init cX7_init 1 none :: ((wsX7_init_r1 ++ (wsX7_init_r2 ++ (wsX7_init_r3 ++ wsX7_init_r4))) ++ wsX40 ++ wsX70 ++ wsX30 ++ wsX50 ++ wsX20 ++ wsX60 ++ wsX00 ++ wsJx4a65c0)
def wsX7_isWithin : List Cond := .code yX7_isWithin cX7_isWithin 3 (some .boolean) :: ([])
def wsX7_topic_r1 : List Cond := [Cond.fieldLink RX7 12 "WhatToRead" "topics" "LWhatToRead$Topics;", Cond.fieldLink RX7 47 "WhatToRead" "asking" "LWhatToRead$Asking;", Cond.methodLink RX7 55 yX7_isWithin, Cond.static yX7_isWithin, Cond.initialized RX7, Cond.code yX7_isWithin cX7_isWithin 3 (some .boolean), Cond.methodLink RX7 59 yX4_haveAll, Cond.instanceMethod yX4_haveAll, Cond.selects RX4 yX4_haveAll yX4_haveAll, Cond.initialized RX4, Cond.code yX4_haveAll cX4_haveAll 2 (some .boolean), Cond.fieldLink RX4 18 "WhatToRead$Topics" "count" "I", Cond.methodLink RX7 63 yX4_add, Cond.instanceMethod yX4_add, Cond.selects RX4 yX4_add yX4_add, Cond.code yX4_add cX4_add 4 (some .int), Cond.fieldLink RX4 9 "WhatToRead$Topics" "worths" "[I", Cond.fieldLink RX4 15 "WhatToRead$Topics" "closures" "[I", Cond.methodLink RX4 22 yX4_closure, Cond.instanceMethod yX4_closure, Cond.selects RX4 yX4_closure yX4_closure, Cond.code yX4_closure cX4_closure 4 (some .int), Cond.methodLink RX7 67 yX4_impliedBy, Cond.instanceMethod yX4_impliedBy]
def wsX7_topic_r2 : List Cond := [Cond.selects RX4 yX4_impliedBy yX4_impliedBy, Cond.code yX4_impliedBy cX4_impliedBy 3 (some .int), Cond.methodLink RX7 71 yX0_addTopic, Cond.instanceMethod yX0_addTopic, Cond.selects RX0 yX0_addTopic yX0_addTopic, Cond.initialized RX0, Cond.code yX0_addTopic cX0_addTopic 5 none, Cond.fieldLink RX0 18 "WhatToRead$Asking" "count" "I", Cond.fieldLink RX0 9 "WhatToRead$Asking" "sets" "[I"]
def wsX7_topic : List Cond := .code yX7_topic cX7_topic 4 (some .int) :: ((wsX7_topic_r1 ++ wsX7_topic_r2) ++ wsX70 ++ wsX40 ++ wsX00)
def wsX7_piece_r1 : List Cond := [Cond.fieldLink RX7 12 "WhatToRead" "topics" "LWhatToRead$Topics;", Cond.fieldLink RX7 19 "WhatToRead" "shelf" "LWhatToRead$Shelf;", Cond.classLink RX7 78 RX1, Cond.instantiable RX1 5, Cond.initialized RX1, Cond.methodLink RX7 59 yX4_haveAll, Cond.instanceMethod yX4_haveAll, Cond.selects RX4 yX4_haveAll yX4_haveAll, Cond.initialized RX4, Cond.code yX4_haveAll cX4_haveAll 2 (some .boolean), Cond.fieldLink RX4 18 "WhatToRead$Topics" "count" "I", Cond.methodLink RX7 55 yX7_isWithin, Cond.static yX7_isWithin, Cond.initialized RX7, Cond.code yX7_isWithin cX7_isWithin 3 (some .boolean), Cond.methodLink RX7 75 yX4_closure, Cond.instanceMethod yX4_closure, Cond.selects RX4 yX4_closure yX4_closure, Cond.code yX4_closure cX4_closure 4 (some .int), Cond.fieldLink RX4 15 "WhatToRead$Topics" "closures" "[I", Cond.methodLink RX7 80 yX1_init, Cond.instanceMethod yX1_init, Cond.code yX1_init cX1_init 6 none, Cond.methodLink RX1 1 objectInit]
def wsX7_piece_r2 : List Cond := [Cond.instanceMethod objectInit, Cond.code objectInit ⟨#[0xb1]⟩ 1 none, Cond.fieldLink RX1 7 "WhatToRead$Piece" "needs" "I", Cond.fieldLink RX1 13 "WhatToRead$Piece" "either" "I", Cond.fieldLink RX1 16 "WhatToRead$Piece" "given" "I", Cond.fieldLink RX1 19 "WhatToRead$Piece" "skimmed" "I", Cond.fieldLink RX1 22 "WhatToRead$Piece" "pages" "I", Cond.methodLink RX7 83 yX3_add, Cond.instanceMethod yX3_add, Cond.selects RX3 yX3_add yX3_add, Cond.initialized RX3, Cond.code yX3_add cX3_add 2 (some .int), Cond.fieldLink RX3 12 "WhatToRead$Shelf" "pieces" "Ljava/util/List;", Cond.methodLink RX3 22 ⟨"java/util/List", "size", "()I"⟩, Cond.selects RJx4a65c ⟨"java/util/List", "size", "()I"⟩ yJx4a65c_size_8abf5, Cond.instanceMethod yJx4a65c_size_8abf5, Cond.initialized RJx4a65c, Cond.code yJx4a65c_size_8abf5 cJx4a65c_size_8abf5 1 (some .int), Cond.fieldLink RJx4a65c 48 "java/util/ArrayList" "size" "I", Cond.methodLink RX3 28 ⟨"java/util/List", "add", "(Ljava/lang/Object;)Z"⟩, Cond.selects RJx4a65c ⟨"java/util/List", "add", "(Ljava/lang/Object;)Z"⟩ yJx4a65c_add_9ea2d, Cond.instanceMethod yJx4a65c_add_9ea2d, Cond.code yJx4a65c_add_9ea2d cJx4a65c_add_9ea2d 2 (some .boolean), Cond.fieldLink RJx4a65c 63 "java/util/ArrayList" "modCount" "I"]
def wsX7_piece_r3 : List Cond := [Cond.sameField "java/util/ArrayList" "java/util/AbstractList" "modCount" "I", Cond.fieldLink RJx4a65c 9 "java/util/ArrayList" "elementData" "[Ljava/lang/Object;", Cond.methodLink RJx4a65c 131 yJx4a65c_add_72be8, Cond.instanceMethod yJx4a65c_add_72be8, Cond.selects RJx4a65c yJx4a65c_add_72be8 yJx4a65c_add_72be8, Cond.code yJx4a65c_add_72be8 cJx4a65c_add_72be8 4 none, Cond.methodLink RJx4a65c 129 yJx4a65c_grow_d5877, Cond.instanceMethod yJx4a65c_grow_d5877, Cond.selects RJx4a65c yJx4a65c_grow_d5877 yJx4a65c_grow_d5877, Cond.code yJx4a65c_grow_d5877 cJx4a65c_grow_d5877 1 (some (.array (.object "java/lang/Object"))), Cond.methodLink RJx4a65c 69 yJx4a65c_grow_92f84, Cond.instanceMethod yJx4a65c_grow_92f84, Cond.selects RJx4a65c yJx4a65c_grow_92f84 yJx4a65c_grow_92f84, Cond.code yJx4a65c_grow_92f84 cJx4a65c_grow_92f84 4 (some (.array (.object "java/lang/Object"))), Cond.fieldLink RJx4a65c 39 "java/util/ArrayList" "DEFAULTCAPACITY_EMPTY_ELEMENTDATA" "[Ljava/lang/Object;", Cond.methodLink RJx4a65c 79 Lib.Math.max.name, Cond.static Lib.Math.max.name, Cond.initialized "java/lang/Math", Cond.code Lib.Math.max.name Lib.Math.max.code 2 (some .int), Cond.classLink RJx4a65c 7 "java/lang/Object", Cond.methodLink RJx4a65c 73 yJ8_newLength_cabcc, Cond.static yJ8_newLength_cabcc, Cond.initialized RJ8, Cond.code yJ8_newLength_cabcc cJ8_newLength_cabcc 4 (some .int)]
def wsX7_piece_r4 : List Cond := [Cond.methodLink RJ8 194 Lib.Math.max.name, Cond.constant RJ8 200 (2147483639), Cond.methodLink RJ8 201 yJ8_hugeLength_7cf53, Cond.static yJ8_hugeLength_7cf53, Cond.code yJ8_hugeLength_7cf53 cJ8_hugeLength_7cf53 3 (some .int), Cond.methodLink RJx4a65c 66 yJ7_copyOf_1904c, Cond.static yJ7_copyOf_1904c, Cond.initialized RJ7, Cond.code yJ7_copyOf_1904c cJ7_copyOf_1904c 2 (some (.array (.object "java/lang/Object"))), Cond.methodLink RJ7 86 ⟨"java/lang/Object", "getClass", "()Ljava/lang/Class;"⟩, Cond.selects "[Ljava/lang/Object;" ⟨"java/lang/Object", "getClass", "()Ljava/lang/Class;"⟩ ⟨"java/lang/Object", "getClass", "()Ljava/lang/Class;"⟩, Cond.instanceMethod ⟨"java/lang/Object", "getClass", "()Ljava/lang/Class;"⟩, Cond.native ⟨"java/lang/Object", "getClass", "()Ljava/lang/Class;"⟩, Cond.methodLink RJ7 300 yJ7_copyOf_6403c, Cond.static yJ7_copyOf_6403c, Cond.code yJ7_copyOf_6403c cJ7_copyOf_6403c 4 (some (.array (.object "java/lang/Object"))), Cond.classLink RJ7 110 "[Ljava/lang/Object;", Cond.classLink RJ7 2 "java/lang/Object", Cond.methodLink RJ7 304 Lib.Math.min.name, Cond.static Lib.Math.min.name, Cond.code Lib.Math.min.name Lib.Math.min.code 2 (some .int), Cond.methodLink RJ7 150 arraycopyName, Cond.native arraycopyName, Cond.static arraycopyName]
def wsX7_piece_r5 : List Cond := [Cond.initialized "java/lang/System"]
def wsX7_piece : List Cond := .code yX7_piece cX7_piece 7 (some .int) :: ((wsX7_piece_r1 ++ (wsX7_piece_r2 ++ (wsX7_piece_r3 ++ (wsX7_piece_r4 ++ wsX7_piece_r5)))) ++ wsX70 ++ wsX10 ++ wsX40 ++ wsX30 ++ wsJx4a65c0)
def wsX7_drop_r1 : List Cond := [Cond.fieldLink RX7 19 "WhatToRead" "shelf" "LWhatToRead$Shelf;", Cond.methodLink RX7 86 yX3_removeLast, Cond.instanceMethod yX3_removeLast, Cond.selects RX3 yX3_removeLast yX3_removeLast, Cond.initialized RX3, Cond.code yX3_removeLast cX3_removeLast 1 (some .int), Cond.fieldLink RX3 12 "WhatToRead$Shelf" "pieces" "Ljava/util/List;", Cond.methodLink RX3 32 ⟨"java/util/List", "isEmpty", "()Z"⟩, Cond.selects RJx4a65c ⟨"java/util/List", "isEmpty", "()Z"⟩ yJx4a65c_isEmpty_aae02, Cond.instanceMethod yJx4a65c_isEmpty_aae02, Cond.initialized RJx4a65c, Cond.code yJx4a65c_isEmpty_aae02 cJx4a65c_isEmpty_aae02 1 (some .boolean), Cond.fieldLink RJx4a65c 48 "java/util/ArrayList" "size" "I", Cond.methodLink RX3 22 ⟨"java/util/List", "size", "()I"⟩, Cond.selects RJx4a65c ⟨"java/util/List", "size", "()I"⟩ yJx4a65c_size_8abf5, Cond.instanceMethod yJx4a65c_size_8abf5, Cond.code yJx4a65c_size_8abf5 cJx4a65c_size_8abf5 1 (some .int), Cond.methodLink RX3 36 ⟨"java/util/List", "remove", "(I)Ljava/lang/Object;"⟩, Cond.selects RJx4a65c ⟨"java/util/List", "remove", "(I)Ljava/lang/Object;"⟩ yJx4a65c_remove_915e3, Cond.instanceMethod yJx4a65c_remove_915e3, Cond.code yJx4a65c_remove_915e3 cJx4a65c_remove_915e3 4 (some (.object "java/lang/Object")), Cond.fieldLink RJx4a65c 9 "java/util/ArrayList" "elementData" "[Ljava/lang/Object;", Cond.methodLink RJx4a65c 118 yJ15_checkIndex_7cf53, Cond.static yJ15_checkIndex_7cf53]
def wsX7_drop_r2 : List Cond := [Cond.initialized RJ15, Cond.code yJ15_checkIndex_7cf53 cJ15_checkIndex_7cf53 2 (some .int), Cond.methodLink RJ15 105 yJ3_checkIndex_8e157, Cond.static yJ3_checkIndex_8e157, Cond.initialized RJ3, Cond.code yJ3_checkIndex_8e157 cJ3_checkIndex_8e157 3 (some .int), Cond.methodLink RJx4a65c 144 yJx4a65c_fastRemove_b59b0, Cond.instanceMethod yJx4a65c_fastRemove_b59b0, Cond.selects RJx4a65c yJx4a65c_fastRemove_b59b0 yJx4a65c_fastRemove_b59b0, Cond.code yJx4a65c_fastRemove_b59b0 cJx4a65c_fastRemove_b59b0 4 none, Cond.fieldLink RJx4a65c 63 "java/util/ArrayList" "modCount" "I", Cond.sameField "java/util/ArrayList" "java/util/AbstractList" "modCount" "I", Cond.methodLink RJx4a65c 112 arraycopyName, Cond.native arraycopyName, Cond.static arraycopyName, Cond.initialized "java/lang/System"]
def wsX7_drop : List Cond := .code yX7_drop cX7_drop 1 (some .int) :: ((wsX7_drop_r1 ++ wsX7_drop_r2) ++ wsX70 ++ wsX30 ++ wsJx4a65c0)
def wsX7_pace : List Cond := .code yX7_pace cX7_pace 2 (some .int) :: ([.fieldLink RX7 19 "WhatToRead" "shelf" "LWhatToRead$Shelf;", .methodLink RX7 55 yX7_isWithin, .static yX7_isWithin, .initialized RX7, .code yX7_isWithin cX7_isWithin 3 (some .boolean), .methodLink RX7 90 yX3_changePace, .instanceMethod yX3_changePace, .selects RX3 yX3_changePace yX3_changePace, .initialized RX3, .code yX3_changePace cX3_changePace 3 (some .int), .fieldLink RX3 18 "WhatToRead$Shelf" "pace" "I"] ++ wsX70 ++ wsX30)
def wsX7_know : List Cond := .code yX7_know cX7_know 2 (some .int) :: ([.fieldLink RX7 12 "WhatToRead" "topics" "LWhatToRead$Topics;", .fieldLink RX7 51 "WhatToRead" "known" "I", .methodLink RX7 59 yX4_haveAll, .instanceMethod yX4_haveAll, .selects RX4 yX4_haveAll yX4_haveAll, .initialized RX4, .code yX4_haveAll cX4_haveAll 2 (some .boolean), .fieldLink RX4 18 "WhatToRead$Topics" "count" "I", .methodLink RX7 75 yX4_closure, .instanceMethod yX4_closure, .selects RX4 yX4_closure yX4_closure, .code yX4_closure cX4_closure 4 (some .int), .fieldLink RX4 15 "WhatToRead$Topics" "closures" "[I"] ++ wsX70 ++ wsX40)
def wsX7_count_r1 : List Cond := [Cond.fieldLink RX7 12 "WhatToRead" "topics" "LWhatToRead$Topics;", Cond.fieldLink RX7 19 "WhatToRead" "shelf" "LWhatToRead$Shelf;", Cond.fieldLink RX7 51 "WhatToRead" "known" "I", Cond.fieldLink RX7 33 "WhatToRead" "row" "LWhatToRead$Row;", Cond.methodLink RX7 93 yX4_size, Cond.instanceMethod yX4_size, Cond.selects RX4 yX4_size yX4_size, Cond.initialized RX4, Cond.code yX4_size cX4_size 1 (some .int), Cond.fieldLink RX4 18 "WhatToRead$Topics" "count" "I", Cond.methodLink RX7 96 yX3_size, Cond.instanceMethod yX3_size, Cond.selects RX3 yX3_size yX3_size, Cond.initialized RX3, Cond.code yX3_size cX3_size 1 (some .int), Cond.fieldLink RX3 12 "WhatToRead$Shelf" "pieces" "Ljava/util/List;", Cond.methodLink RX3 22 ⟨"java/util/List", "size", "()I"⟩, Cond.selects RJx4a65c ⟨"java/util/List", "size", "()I"⟩ yJx4a65c_size_8abf5, Cond.instanceMethod yJx4a65c_size_8abf5, Cond.initialized RJx4a65c, Cond.code yJx4a65c_size_8abf5 cJx4a65c_size_8abf5 1 (some .int), Cond.fieldLink RJx4a65c 48 "java/util/ArrayList" "size" "I", Cond.methodLink RX7 97 yX3_currentPace, Cond.instanceMethod yX3_currentPace]
def wsX7_count_r2 : List Cond := [Cond.selects RX3 yX3_currentPace yX3_currentPace, Cond.code yX3_currentPace cX3_currentPace 1 (some .int), Cond.fieldLink RX3 18 "WhatToRead$Shelf" "pace" "I", Cond.methodLink RX7 100 yX4_worthOf, Cond.instanceMethod yX4_worthOf, Cond.selects RX4 yX4_worthOf yX4_worthOf, Cond.code yX4_worthOf cX4_worthOf 4 (some .int), Cond.fieldLink RX4 9 "WhatToRead$Topics" "worths" "[I", Cond.methodLink RX7 103 yX2_size, Cond.instanceMethod yX2_size, Cond.selects RX2 yX2_size yX2_size, Cond.initialized RX2, Cond.code yX2_size cX2_size 1 (some .int), Cond.fieldLink RX2 15 "WhatToRead$Row" "count" "I"]
def wsX7_count : List Cond := .code yX7_count cX7_count 2 (some .int) :: ((wsX7_count_r1 ++ wsX7_count_r2) ++ wsX70 ++ wsX40 ++ wsX30 ++ wsJx4a65c0 ++ wsX20)
def wsX7_with : List Cond := .code yX7_with cX7_with 2 (some .int) :: ([.fieldLink RX7 12 "WhatToRead" "topics" "LWhatToRead$Topics;", .methodLink RX7 59 yX4_haveAll, .instanceMethod yX4_haveAll, .selects RX4 yX4_haveAll yX4_haveAll, .initialized RX4, .code yX4_haveAll cX4_haveAll 2 (some .boolean), .fieldLink RX4 18 "WhatToRead$Topics" "count" "I", .methodLink RX7 75 yX4_closure, .instanceMethod yX4_closure, .selects RX4 yX4_closure yX4_closure, .code yX4_closure cX4_closure 4 (some .int), .fieldLink RX4 15 "WhatToRead$Topics" "closures" "[I"] ++ wsX70 ++ wsX40)
def wsX7_minutes_r1 : List Cond := [Cond.fieldLink RX7 19 "WhatToRead" "shelf" "LWhatToRead$Shelf;", Cond.methodLink RX7 104 yX3_minutesOf, Cond.instanceMethod yX3_minutesOf, Cond.selects RX3 yX3_minutesOf yX3_minutesOf, Cond.initialized RX3, Cond.code yX3_minutesOf cX3_minutesOf 3 (some .int), Cond.fieldLink RX3 18 "WhatToRead$Shelf" "pace" "I", Cond.methodLink RX3 45 yX3_pieceOf, Cond.instanceMethod yX3_pieceOf, Cond.selects RX3 yX3_pieceOf yX3_pieceOf, Cond.code yX3_pieceOf cX3_pieceOf 3 (some (.object "WhatToRead$Piece")), Cond.fieldLink RX3 12 "WhatToRead$Shelf" "pieces" "Ljava/util/List;", Cond.classLink RX3 43 "WhatToRead$Piece", Cond.methodLink RX3 22 ⟨"java/util/List", "size", "()I"⟩, Cond.selects RJx4a65c ⟨"java/util/List", "size", "()I"⟩ yJx4a65c_size_8abf5, Cond.instanceMethod yJx4a65c_size_8abf5, Cond.initialized RJx4a65c, Cond.code yJx4a65c_size_8abf5 cJx4a65c_size_8abf5 1 (some .int), Cond.fieldLink RJx4a65c 48 "java/util/ArrayList" "size" "I", Cond.methodLink RX3 40 ⟨"java/util/List", "get", "(I)Ljava/lang/Object;"⟩, Cond.selects RJx4a65c ⟨"java/util/List", "get", "(I)Ljava/lang/Object;"⟩ yJx4a65c_get_915e3, Cond.instanceMethod yJx4a65c_get_915e3, Cond.code yJx4a65c_get_915e3 cJx4a65c_get_915e3 2 (some (.object "java/lang/Object")), Cond.methodLink RJx4a65c 118 yJ15_checkIndex_7cf53]
def wsX7_minutes_r2 : List Cond := [Cond.static yJ15_checkIndex_7cf53, Cond.initialized RJ15, Cond.code yJ15_checkIndex_7cf53 cJ15_checkIndex_7cf53 2 (some .int), Cond.methodLink RJ15 105 yJ3_checkIndex_8e157, Cond.static yJ3_checkIndex_8e157, Cond.initialized RJ3, Cond.code yJ3_checkIndex_8e157 cJ3_checkIndex_8e157 3 (some .int), Cond.methodLink RJx4a65c 123 yJx4a65c_elementData_915e3, Cond.instanceMethod yJx4a65c_elementData_915e3, Cond.selects RJx4a65c yJx4a65c_elementData_915e3 yJx4a65c_elementData_915e3, Cond.code yJx4a65c_elementData_915e3 cJx4a65c_elementData_915e3 2 (some (.object "java/lang/Object")), Cond.fieldLink RJx4a65c 9 "java/util/ArrayList" "elementData" "[Ljava/lang/Object;", Cond.static yX7_isSkimmed, Cond.initialized RX7, Cond.code yX7_isSkimmed cX7_isSkimmed 1 (some .boolean), Cond.methodLink RX3 53 yX1_minutesAt, Cond.instanceMethod yX1_minutesAt, Cond.selects RX1 yX1_minutesAt yX1_minutesAt, Cond.initialized RX1, Cond.code yX1_minutesAt cX1_minutesAt 4 (some .int), Cond.fieldLink RX1 22 "WhatToRead$Piece" "pages" "I"]
def wsX7_minutes : List Cond := .code yX7_minutes cX7_minutes 2 (some .int) :: ((wsX7_minutes_r1 ++ wsX7_minutes_r2) ++ wsX70 ++ wsX30 ++ wsJx4a65c0 ++ wsX10)
def wsX7_can_r1 : List Cond := [Cond.fieldLink RX7 19 "WhatToRead" "shelf" "LWhatToRead$Shelf;", Cond.fieldLink RX7 51 "WhatToRead" "known" "I", Cond.methodLink RX7 107 yX3_pieceOf, Cond.instanceMethod yX3_pieceOf, Cond.selects RX3 yX3_pieceOf yX3_pieceOf, Cond.initialized RX3, Cond.code yX3_pieceOf cX3_pieceOf 3 (some (.object "WhatToRead$Piece")), Cond.fieldLink RX3 12 "WhatToRead$Shelf" "pieces" "Ljava/util/List;", Cond.classLink RX3 43 "WhatToRead$Piece", Cond.methodLink RX3 22 ⟨"java/util/List", "size", "()I"⟩, Cond.selects RJx4a65c ⟨"java/util/List", "size", "()I"⟩ yJx4a65c_size_8abf5, Cond.instanceMethod yJx4a65c_size_8abf5, Cond.initialized RJx4a65c, Cond.code yJx4a65c_size_8abf5 cJx4a65c_size_8abf5 1 (some .int), Cond.fieldLink RJx4a65c 48 "java/util/ArrayList" "size" "I", Cond.methodLink RX3 40 ⟨"java/util/List", "get", "(I)Ljava/lang/Object;"⟩, Cond.selects RJx4a65c ⟨"java/util/List", "get", "(I)Ljava/lang/Object;"⟩ yJx4a65c_get_915e3, Cond.instanceMethod yJx4a65c_get_915e3, Cond.code yJx4a65c_get_915e3 cJx4a65c_get_915e3 2 (some (.object "java/lang/Object")), Cond.methodLink RJx4a65c 118 yJ15_checkIndex_7cf53, Cond.static yJ15_checkIndex_7cf53, Cond.initialized RJ15, Cond.code yJ15_checkIndex_7cf53 cJ15_checkIndex_7cf53 2 (some .int), Cond.methodLink RJ15 105 yJ3_checkIndex_8e157]
def wsX7_can_r2 : List Cond := [Cond.static yJ3_checkIndex_8e157, Cond.initialized RJ3, Cond.code yJ3_checkIndex_8e157 cJ3_checkIndex_8e157 3 (some .int), Cond.methodLink RJx4a65c 123 yJx4a65c_elementData_915e3, Cond.instanceMethod yJx4a65c_elementData_915e3, Cond.selects RJx4a65c yJx4a65c_elementData_915e3 yJx4a65c_elementData_915e3, Cond.code yJx4a65c_elementData_915e3 cJx4a65c_elementData_915e3 2 (some (.object "java/lang/Object")), Cond.fieldLink RJx4a65c 9 "java/util/ArrayList" "elementData" "[Ljava/lang/Object;", Cond.methodLink RX7 111 yX1_isOpenTo, Cond.instanceMethod yX1_isOpenTo, Cond.selects RX1 yX1_isOpenTo yX1_isOpenTo, Cond.initialized RX1, Cond.code yX1_isOpenTo cX1_isOpenTo 2 (some .boolean), Cond.fieldLink RX1 7 "WhatToRead$Piece" "needs" "I", Cond.fieldLink RX1 13 "WhatToRead$Piece" "either" "I"]
def wsX7_can : List Cond := .code yX7_can cX7_can 3 (some .int) :: ((wsX7_can_r1 ++ wsX7_can_r2) ++ wsX70 ++ wsX30 ++ wsJx4a65c0 ++ wsX10)
def wsX7_done_r1 : List Cond := [Cond.fieldLink RX7 19 "WhatToRead" "shelf" "LWhatToRead$Shelf;", Cond.fieldLink RX7 51 "WhatToRead" "known" "I", Cond.methodLink RX7 107 yX3_pieceOf, Cond.instanceMethod yX3_pieceOf, Cond.selects RX3 yX3_pieceOf yX3_pieceOf, Cond.initialized RX3, Cond.code yX3_pieceOf cX3_pieceOf 3 (some (.object "WhatToRead$Piece")), Cond.fieldLink RX3 12 "WhatToRead$Shelf" "pieces" "Ljava/util/List;", Cond.classLink RX3 43 "WhatToRead$Piece", Cond.methodLink RX3 22 ⟨"java/util/List", "size", "()I"⟩, Cond.selects RJx4a65c ⟨"java/util/List", "size", "()I"⟩ yJx4a65c_size_8abf5, Cond.instanceMethod yJx4a65c_size_8abf5, Cond.initialized RJx4a65c, Cond.code yJx4a65c_size_8abf5 cJx4a65c_size_8abf5 1 (some .int), Cond.fieldLink RJx4a65c 48 "java/util/ArrayList" "size" "I", Cond.methodLink RX3 40 ⟨"java/util/List", "get", "(I)Ljava/lang/Object;"⟩, Cond.selects RJx4a65c ⟨"java/util/List", "get", "(I)Ljava/lang/Object;"⟩ yJx4a65c_get_915e3, Cond.instanceMethod yJx4a65c_get_915e3, Cond.code yJx4a65c_get_915e3 cJx4a65c_get_915e3 2 (some (.object "java/lang/Object")), Cond.methodLink RJx4a65c 118 yJ15_checkIndex_7cf53, Cond.static yJ15_checkIndex_7cf53, Cond.initialized RJ15, Cond.code yJ15_checkIndex_7cf53 cJ15_checkIndex_7cf53 2 (some .int), Cond.methodLink RJ15 105 yJ3_checkIndex_8e157]
def wsX7_done_r2 : List Cond := [Cond.static yJ3_checkIndex_8e157, Cond.initialized RJ3, Cond.code yJ3_checkIndex_8e157 cJ3_checkIndex_8e157 3 (some .int), Cond.methodLink RJx4a65c 123 yJx4a65c_elementData_915e3, Cond.instanceMethod yJx4a65c_elementData_915e3, Cond.selects RJx4a65c yJx4a65c_elementData_915e3 yJx4a65c_elementData_915e3, Cond.code yJx4a65c_elementData_915e3 cJx4a65c_elementData_915e3 2 (some (.object "java/lang/Object")), Cond.fieldLink RJx4a65c 9 "java/util/ArrayList" "elementData" "[Ljava/lang/Object;", Cond.methodLink RX7 111 yX1_isOpenTo, Cond.instanceMethod yX1_isOpenTo, Cond.selects RX1 yX1_isOpenTo yX1_isOpenTo, Cond.initialized RX1, Cond.code yX1_isOpenTo cX1_isOpenTo 2 (some .boolean), Cond.fieldLink RX1 7 "WhatToRead$Piece" "needs" "I", Cond.fieldLink RX1 13 "WhatToRead$Piece" "either" "I", Cond.methodLink RX7 114 yX7_isSkimmed, Cond.static yX7_isSkimmed, Cond.initialized RX7, Cond.code yX7_isSkimmed cX7_isSkimmed 1 (some .boolean), Cond.methodLink RX7 117 yX1_brings, Cond.instanceMethod yX1_brings, Cond.selects RX1 yX1_brings yX1_brings, Cond.code yX1_brings cX1_brings 2 (some .int), Cond.fieldLink RX1 19 "WhatToRead$Piece" "skimmed" "I"]
def wsX7_done_r3 : List Cond := [Cond.fieldLink RX1 16 "WhatToRead$Piece" "given" "I"]
def wsX7_done : List Cond := .code yX7_done cX7_done 3 (some .int) :: ((wsX7_done_r1 ++ (wsX7_done_r2 ++ wsX7_done_r3)) ++ wsX70 ++ wsX30 ++ wsJx4a65c0 ++ wsX10)
def wsX7_endOfBestWay_r1 : List Cond := [Cond.fieldLink RX7 12 "WhatToRead" "topics" "LWhatToRead$Topics;", Cond.fieldLink RX7 26 "WhatToRead" "ways" "LWhatToRead$Ways;", Cond.fieldLink RX7 19 "WhatToRead" "shelf" "LWhatToRead$Shelf;", Cond.fieldLink RX7 51 "WhatToRead" "known" "I", Cond.methodLink RX7 59 yX4_haveAll, Cond.instanceMethod yX4_haveAll, Cond.selects RX4 yX4_haveAll yX4_haveAll, Cond.initialized RX4, Cond.code yX4_haveAll cX4_haveAll 2 (some .boolean), Cond.fieldLink RX4 18 "WhatToRead$Topics" "count" "I", Cond.methodLink RX7 93 yX4_size, Cond.instanceMethod yX4_size, Cond.selects RX4 yX4_size yX4_size, Cond.code yX4_size cX4_size 1 (some .int), Cond.methodLink RX7 134 yX5_explore, Cond.instanceMethod yX5_explore, Cond.selects RX5 yX5_explore yX5_explore, Cond.initialized RX5, Cond.code yX5_explore cX5_explore 6 none, Cond.methodLink RX5 23 Lib.Math.min.name, Cond.static Lib.Math.min.name, Cond.initialized "java/lang/Math", Cond.code Lib.Math.min.name Lib.Math.min.code 2 (some .int), Cond.fieldLink RX5 19 "WhatToRead$Ways" "sets" "I"]
def wsX7_endOfBestWay_r2 : List Cond := [Cond.fieldLink RX5 11 "WhatToRead$Ways" "costs" "[I", Cond.fieldLink RX5 15 "WhatToRead$Ways" "rows" "[J", Cond.methodLink RX5 29 yX5_goOnFrom, Cond.instanceMethod yX5_goOnFrom, Cond.selects RX5 yX5_goOnFrom yX5_goOnFrom, Cond.code yX5_goOnFrom cX5_goOnFrom 6 none, Cond.methodLink RX5 33 yX3_size, Cond.instanceMethod yX3_size, Cond.selects RX3 yX3_size yX3_size, Cond.initialized RX3, Cond.code yX3_size cX3_size 1 (some .int), Cond.fieldLink RX3 12 "WhatToRead$Shelf" "pieces" "Ljava/util/List;", Cond.methodLink RX3 22 ⟨"java/util/List", "size", "()I"⟩, Cond.selects RJx4a65c ⟨"java/util/List", "size", "()I"⟩ yJx4a65c_size_8abf5, Cond.instanceMethod yJx4a65c_size_8abf5, Cond.initialized RJx4a65c, Cond.code yJx4a65c_size_8abf5 cJx4a65c_size_8abf5 1 (some .int), Cond.fieldLink RJx4a65c 48 "java/util/ArrayList" "size" "I", Cond.methodLink RX5 39 yX3_pieceOf, Cond.instanceMethod yX3_pieceOf, Cond.selects RX3 yX3_pieceOf yX3_pieceOf, Cond.code yX3_pieceOf cX3_pieceOf 3 (some (.object "WhatToRead$Piece")), Cond.classLink RX3 43 "WhatToRead$Piece", Cond.methodLink RX3 40 ⟨"java/util/List", "get", "(I)Ljava/lang/Object;"⟩]
def wsX7_endOfBestWay_r3 : List Cond := [Cond.selects RJx4a65c ⟨"java/util/List", "get", "(I)Ljava/lang/Object;"⟩ yJx4a65c_get_915e3, Cond.instanceMethod yJx4a65c_get_915e3, Cond.code yJx4a65c_get_915e3 cJx4a65c_get_915e3 2 (some (.object "java/lang/Object")), Cond.methodLink RJx4a65c 118 yJ15_checkIndex_7cf53, Cond.static yJ15_checkIndex_7cf53, Cond.initialized RJ15, Cond.code yJ15_checkIndex_7cf53 cJ15_checkIndex_7cf53 2 (some .int), Cond.methodLink RJ15 105 yJ3_checkIndex_8e157, Cond.static yJ3_checkIndex_8e157, Cond.initialized RJ3, Cond.code yJ3_checkIndex_8e157 cJ3_checkIndex_8e157 3 (some .int), Cond.methodLink RJx4a65c 123 yJx4a65c_elementData_915e3, Cond.instanceMethod yJx4a65c_elementData_915e3, Cond.selects RJx4a65c yJx4a65c_elementData_915e3 yJx4a65c_elementData_915e3, Cond.code yJx4a65c_elementData_915e3 cJx4a65c_elementData_915e3 2 (some (.object "java/lang/Object")), Cond.fieldLink RJx4a65c 9 "java/util/ArrayList" "elementData" "[Ljava/lang/Object;", Cond.methodLink RX5 43 yX1_isOpenTo, Cond.instanceMethod yX1_isOpenTo, Cond.selects RX1 yX1_isOpenTo yX1_isOpenTo, Cond.initialized RX1, Cond.code yX1_isOpenTo cX1_isOpenTo 2 (some .boolean), Cond.fieldLink RX1 7 "WhatToRead$Piece" "needs" "I", Cond.fieldLink RX1 13 "WhatToRead$Piece" "either" "I", Cond.static yX7_isSkimmed]
def wsX7_endOfBestWay_r4 : List Cond := [Cond.initialized RX7, Cond.code yX7_isSkimmed cX7_isSkimmed 1 (some .boolean), Cond.methodLink RX5 52 yX1_brings, Cond.instanceMethod yX1_brings, Cond.selects RX1 yX1_brings yX1_brings, Cond.code yX1_brings cX1_brings 2 (some .int), Cond.fieldLink RX1 19 "WhatToRead$Piece" "skimmed" "I", Cond.fieldLink RX1 16 "WhatToRead$Piece" "given" "I", Cond.methodLink RX5 56 yX3_minutesOf, Cond.instanceMethod yX3_minutesOf, Cond.selects RX3 yX3_minutesOf yX3_minutesOf, Cond.code yX3_minutesOf cX3_minutesOf 3 (some .int), Cond.fieldLink RX3 18 "WhatToRead$Shelf" "pace" "I", Cond.methodLink RX3 45 yX3_pieceOf, Cond.methodLink RX3 53 yX1_minutesAt, Cond.instanceMethod yX1_minutesAt, Cond.selects RX1 yX1_minutesAt yX1_minutesAt, Cond.code yX1_minutesAt cX1_minutesAt 4 (some .int), Cond.fieldLink RX1 22 "WhatToRead$Piece" "pages" "I", Cond.methodLink RX5 60 yX5_offer, Cond.instanceMethod yX5_offer, Cond.selects RX5 yX5_offer yX5_offer, Cond.code yX5_offer cX5_offer 8 none, Cond.methodLink RX5 64 yX5_isBefore]
def wsX7_endOfBestWay_r5 : List Cond := [Cond.instanceMethod yX5_isBefore, Cond.selects RX5 yX5_isBefore yX5_isBefore, Cond.code yX5_isBefore cX5_isBefore 5 (some .boolean), Cond.methodLink RX7 186 yX5_endWith, Cond.instanceMethod yX5_endWith, Cond.selects RX5 yX5_endWith yX5_endWith, Cond.code yX5_endWith cX5_endWith 4 (some .int), Cond.methodLink RX5 68 yX5_isBetter, Cond.instanceMethod yX5_isBetter, Cond.selects RX5 yX5_isBetter yX5_isBetter, Cond.code yX5_isBetter cX5_isBetter 3 (some .boolean)]
def wsX7_endOfBestWay : List Cond := .code yX7_endOfBestWay cX7_endOfBestWay 3 (some .int) :: ((wsX7_endOfBestWay_r1 ++ (wsX7_endOfBestWay_r2 ++ (wsX7_endOfBestWay_r3 ++ (wsX7_endOfBestWay_r4 ++ wsX7_endOfBestWay_r5)))) ++ wsX70 ++ wsX40 ++ wsX50 ++ wsX30 ++ wsJx4a65c0 ++ wsX10)
def wsX7_way_r1 : List Cond := [Cond.fieldLink RX7 26 "WhatToRead" "ways" "LWhatToRead$Ways;", Cond.fieldLink RX7 33 "WhatToRead" "row" "LWhatToRead$Row;", Cond.methodLink RX7 121 yX7_endOfBestWay, Cond.instanceMethod yX7_endOfBestWay, Cond.selects RX7 yX7_endOfBestWay yX7_endOfBestWay, Cond.initialized RX7, Cond.code yX7_endOfBestWay cX7_endOfBestWay 3 (some .int), Cond.fieldLink RX7 12 "WhatToRead" "topics" "LWhatToRead$Topics;", Cond.fieldLink RX7 19 "WhatToRead" "shelf" "LWhatToRead$Shelf;", Cond.fieldLink RX7 51 "WhatToRead" "known" "I", Cond.methodLink RX7 59 yX4_haveAll, Cond.instanceMethod yX4_haveAll, Cond.selects RX4 yX4_haveAll yX4_haveAll, Cond.initialized RX4, Cond.code yX4_haveAll cX4_haveAll 2 (some .boolean), Cond.fieldLink RX4 18 "WhatToRead$Topics" "count" "I", Cond.methodLink RX7 93 yX4_size, Cond.instanceMethod yX4_size, Cond.selects RX4 yX4_size yX4_size, Cond.code yX4_size cX4_size 1 (some .int), Cond.methodLink RX7 134 yX5_explore, Cond.instanceMethod yX5_explore, Cond.selects RX5 yX5_explore yX5_explore, Cond.initialized RX5]
def wsX7_way_r2 : List Cond := [Cond.code yX5_explore cX5_explore 6 none, Cond.methodLink RX5 23 Lib.Math.min.name, Cond.static Lib.Math.min.name, Cond.initialized "java/lang/Math", Cond.code Lib.Math.min.name Lib.Math.min.code 2 (some .int), Cond.fieldLink RX5 19 "WhatToRead$Ways" "sets" "I", Cond.fieldLink RX5 11 "WhatToRead$Ways" "costs" "[I", Cond.fieldLink RX5 15 "WhatToRead$Ways" "rows" "[J", Cond.methodLink RX5 29 yX5_goOnFrom, Cond.instanceMethod yX5_goOnFrom, Cond.selects RX5 yX5_goOnFrom yX5_goOnFrom, Cond.code yX5_goOnFrom cX5_goOnFrom 6 none, Cond.methodLink RX5 33 yX3_size, Cond.instanceMethod yX3_size, Cond.selects RX3 yX3_size yX3_size, Cond.initialized RX3, Cond.code yX3_size cX3_size 1 (some .int), Cond.fieldLink RX3 12 "WhatToRead$Shelf" "pieces" "Ljava/util/List;", Cond.methodLink RX3 22 ⟨"java/util/List", "size", "()I"⟩, Cond.selects RJx4a65c ⟨"java/util/List", "size", "()I"⟩ yJx4a65c_size_8abf5, Cond.instanceMethod yJx4a65c_size_8abf5, Cond.initialized RJx4a65c, Cond.code yJx4a65c_size_8abf5 cJx4a65c_size_8abf5 1 (some .int), Cond.fieldLink RJx4a65c 48 "java/util/ArrayList" "size" "I"]
def wsX7_way_r3 : List Cond := [Cond.methodLink RX5 39 yX3_pieceOf, Cond.instanceMethod yX3_pieceOf, Cond.selects RX3 yX3_pieceOf yX3_pieceOf, Cond.code yX3_pieceOf cX3_pieceOf 3 (some (.object "WhatToRead$Piece")), Cond.classLink RX3 43 "WhatToRead$Piece", Cond.methodLink RX3 40 ⟨"java/util/List", "get", "(I)Ljava/lang/Object;"⟩, Cond.selects RJx4a65c ⟨"java/util/List", "get", "(I)Ljava/lang/Object;"⟩ yJx4a65c_get_915e3, Cond.instanceMethod yJx4a65c_get_915e3, Cond.code yJx4a65c_get_915e3 cJx4a65c_get_915e3 2 (some (.object "java/lang/Object")), Cond.methodLink RJx4a65c 118 yJ15_checkIndex_7cf53, Cond.static yJ15_checkIndex_7cf53, Cond.initialized RJ15, Cond.code yJ15_checkIndex_7cf53 cJ15_checkIndex_7cf53 2 (some .int), Cond.methodLink RJ15 105 yJ3_checkIndex_8e157, Cond.static yJ3_checkIndex_8e157, Cond.initialized RJ3, Cond.code yJ3_checkIndex_8e157 cJ3_checkIndex_8e157 3 (some .int), Cond.methodLink RJx4a65c 123 yJx4a65c_elementData_915e3, Cond.instanceMethod yJx4a65c_elementData_915e3, Cond.selects RJx4a65c yJx4a65c_elementData_915e3 yJx4a65c_elementData_915e3, Cond.code yJx4a65c_elementData_915e3 cJx4a65c_elementData_915e3 2 (some (.object "java/lang/Object")), Cond.fieldLink RJx4a65c 9 "java/util/ArrayList" "elementData" "[Ljava/lang/Object;", Cond.methodLink RX5 43 yX1_isOpenTo, Cond.instanceMethod yX1_isOpenTo]
def wsX7_way_r4 : List Cond := [Cond.selects RX1 yX1_isOpenTo yX1_isOpenTo, Cond.initialized RX1, Cond.code yX1_isOpenTo cX1_isOpenTo 2 (some .boolean), Cond.fieldLink RX1 7 "WhatToRead$Piece" "needs" "I", Cond.fieldLink RX1 13 "WhatToRead$Piece" "either" "I", Cond.static yX7_isSkimmed, Cond.code yX7_isSkimmed cX7_isSkimmed 1 (some .boolean), Cond.methodLink RX5 52 yX1_brings, Cond.instanceMethod yX1_brings, Cond.selects RX1 yX1_brings yX1_brings, Cond.code yX1_brings cX1_brings 2 (some .int), Cond.fieldLink RX1 19 "WhatToRead$Piece" "skimmed" "I", Cond.fieldLink RX1 16 "WhatToRead$Piece" "given" "I", Cond.methodLink RX5 56 yX3_minutesOf, Cond.instanceMethod yX3_minutesOf, Cond.selects RX3 yX3_minutesOf yX3_minutesOf, Cond.code yX3_minutesOf cX3_minutesOf 3 (some .int), Cond.fieldLink RX3 18 "WhatToRead$Shelf" "pace" "I", Cond.methodLink RX3 45 yX3_pieceOf, Cond.methodLink RX3 53 yX1_minutesAt, Cond.instanceMethod yX1_minutesAt, Cond.selects RX1 yX1_minutesAt yX1_minutesAt, Cond.code yX1_minutesAt cX1_minutesAt 4 (some .int), Cond.fieldLink RX1 22 "WhatToRead$Piece" "pages" "I"]
def wsX7_way_r5 : List Cond := [Cond.methodLink RX5 60 yX5_offer, Cond.instanceMethod yX5_offer, Cond.selects RX5 yX5_offer yX5_offer, Cond.code yX5_offer cX5_offer 8 none, Cond.methodLink RX5 64 yX5_isBefore, Cond.instanceMethod yX5_isBefore, Cond.selects RX5 yX5_isBefore yX5_isBefore, Cond.code yX5_isBefore cX5_isBefore 5 (some .boolean), Cond.methodLink RX7 186 yX5_endWith, Cond.instanceMethod yX5_endWith, Cond.selects RX5 yX5_endWith yX5_endWith, Cond.code yX5_endWith cX5_endWith 4 (some .int), Cond.methodLink RX5 68 yX5_isBetter, Cond.instanceMethod yX5_isBetter, Cond.selects RX5 yX5_isBetter yX5_isBetter, Cond.code yX5_isBetter cX5_isBetter 3 (some .boolean), Cond.methodLink RX7 124 yX5_copyRow, Cond.instanceMethod yX5_copyRow, Cond.selects RX5 yX5_copyRow yX5_copyRow, Cond.code yX5_copyRow cX5_copyRow 4 none, Cond.methodLink RX5 80 yX2_clear, Cond.instanceMethod yX2_clear, Cond.selects RX2 yX2_clear yX2_clear, Cond.initialized RX2]
def wsX7_way_r6 : List Cond := [Cond.code yX2_clear cX2_clear 1 none, Cond.fieldLink RX2 15 "WhatToRead$Row" "count" "I", Cond.methodLink RX5 85 yX2_add, Cond.instanceMethod yX2_add, Cond.selects RX2 yX2_add yX2_add, Cond.code yX2_add cX2_add 2 none, Cond.fieldLink RX2 9 "WhatToRead$Row" "items" "[I", Cond.methodLink RX7 128 yX5_minutesTo, Cond.instanceMethod yX5_minutesTo, Cond.selects RX5 yX5_minutesTo yX5_minutesTo, Cond.code yX5_minutesTo cX5_minutesTo 2 (some .int)]
def wsX7_way : List Cond := .code yX7_way cX7_way 3 (some .int) :: ((wsX7_way_r1 ++ (wsX7_way_r2 ++ (wsX7_way_r3 ++ (wsX7_way_r4 ++ (wsX7_way_r5 ++ wsX7_way_r6))))) ++ wsX70 ++ wsX40 ++ wsX50 ++ wsX30 ++ wsJx4a65c0 ++ wsX10 ++ wsX20)
def wsX7_step : List Cond := .code yX7_step cX7_step 2 (some .int) :: ([.fieldLink RX7 33 "WhatToRead" "row" "LWhatToRead$Row;", .methodLink RX7 131 yX2_at, .instanceMethod yX2_at, .selects RX2 yX2_at yX2_at, .initialized RX2, .code yX2_at cX2_at 2 (some .int), .fieldLink RX2 15 "WhatToRead$Row" "count" "I", .fieldLink RX2 9 "WhatToRead$Row" "items" "[I"] ++ wsX70 ++ wsX20)
def wsX7_most_r1 : List Cond := [Cond.fieldLink RX7 26 "WhatToRead" "ways" "LWhatToRead$Ways;", Cond.fieldLink RX7 19 "WhatToRead" "shelf" "LWhatToRead$Shelf;", Cond.fieldLink RX7 12 "WhatToRead" "topics" "LWhatToRead$Topics;", Cond.fieldLink RX7 51 "WhatToRead" "known" "I", Cond.fieldLink RX7 33 "WhatToRead" "row" "LWhatToRead$Row;", Cond.methodLink RX7 55 yX7_isWithin, Cond.static yX7_isWithin, Cond.initialized RX7, Cond.code yX7_isWithin cX7_isWithin 3 (some .boolean), Cond.methodLink RX7 93 yX4_size, Cond.instanceMethod yX4_size, Cond.selects RX4 yX4_size yX4_size, Cond.initialized RX4, Cond.code yX4_size cX4_size 1 (some .int), Cond.fieldLink RX4 18 "WhatToRead$Topics" "count" "I", Cond.methodLink RX7 134 yX5_explore, Cond.instanceMethod yX5_explore, Cond.selects RX5 yX5_explore yX5_explore, Cond.initialized RX5, Cond.code yX5_explore cX5_explore 6 none, Cond.methodLink RX5 23 Lib.Math.min.name, Cond.static Lib.Math.min.name, Cond.initialized "java/lang/Math", Cond.code Lib.Math.min.name Lib.Math.min.code 2 (some .int)]
def wsX7_most_r2 : List Cond := [Cond.fieldLink RX5 19 "WhatToRead$Ways" "sets" "I", Cond.fieldLink RX5 11 "WhatToRead$Ways" "costs" "[I", Cond.fieldLink RX5 15 "WhatToRead$Ways" "rows" "[J", Cond.methodLink RX5 29 yX5_goOnFrom, Cond.instanceMethod yX5_goOnFrom, Cond.selects RX5 yX5_goOnFrom yX5_goOnFrom, Cond.code yX5_goOnFrom cX5_goOnFrom 6 none, Cond.methodLink RX5 33 yX3_size, Cond.instanceMethod yX3_size, Cond.selects RX3 yX3_size yX3_size, Cond.initialized RX3, Cond.code yX3_size cX3_size 1 (some .int), Cond.fieldLink RX3 12 "WhatToRead$Shelf" "pieces" "Ljava/util/List;", Cond.methodLink RX3 22 ⟨"java/util/List", "size", "()I"⟩, Cond.selects RJx4a65c ⟨"java/util/List", "size", "()I"⟩ yJx4a65c_size_8abf5, Cond.instanceMethod yJx4a65c_size_8abf5, Cond.initialized RJx4a65c, Cond.code yJx4a65c_size_8abf5 cJx4a65c_size_8abf5 1 (some .int), Cond.fieldLink RJx4a65c 48 "java/util/ArrayList" "size" "I", Cond.methodLink RX5 39 yX3_pieceOf, Cond.instanceMethod yX3_pieceOf, Cond.selects RX3 yX3_pieceOf yX3_pieceOf, Cond.code yX3_pieceOf cX3_pieceOf 3 (some (.object "WhatToRead$Piece")), Cond.classLink RX3 43 "WhatToRead$Piece"]
def wsX7_most_r3 : List Cond := [Cond.methodLink RX3 40 ⟨"java/util/List", "get", "(I)Ljava/lang/Object;"⟩, Cond.selects RJx4a65c ⟨"java/util/List", "get", "(I)Ljava/lang/Object;"⟩ yJx4a65c_get_915e3, Cond.instanceMethod yJx4a65c_get_915e3, Cond.code yJx4a65c_get_915e3 cJx4a65c_get_915e3 2 (some (.object "java/lang/Object")), Cond.methodLink RJx4a65c 118 yJ15_checkIndex_7cf53, Cond.static yJ15_checkIndex_7cf53, Cond.initialized RJ15, Cond.code yJ15_checkIndex_7cf53 cJ15_checkIndex_7cf53 2 (some .int), Cond.methodLink RJ15 105 yJ3_checkIndex_8e157, Cond.static yJ3_checkIndex_8e157, Cond.initialized RJ3, Cond.code yJ3_checkIndex_8e157 cJ3_checkIndex_8e157 3 (some .int), Cond.methodLink RJx4a65c 123 yJx4a65c_elementData_915e3, Cond.instanceMethod yJx4a65c_elementData_915e3, Cond.selects RJx4a65c yJx4a65c_elementData_915e3 yJx4a65c_elementData_915e3, Cond.code yJx4a65c_elementData_915e3 cJx4a65c_elementData_915e3 2 (some (.object "java/lang/Object")), Cond.fieldLink RJx4a65c 9 "java/util/ArrayList" "elementData" "[Ljava/lang/Object;", Cond.methodLink RX5 43 yX1_isOpenTo, Cond.instanceMethod yX1_isOpenTo, Cond.selects RX1 yX1_isOpenTo yX1_isOpenTo, Cond.initialized RX1, Cond.code yX1_isOpenTo cX1_isOpenTo 2 (some .boolean), Cond.fieldLink RX1 7 "WhatToRead$Piece" "needs" "I", Cond.fieldLink RX1 13 "WhatToRead$Piece" "either" "I"]
def wsX7_most_r4 : List Cond := [Cond.static yX7_isSkimmed, Cond.code yX7_isSkimmed cX7_isSkimmed 1 (some .boolean), Cond.methodLink RX5 52 yX1_brings, Cond.instanceMethod yX1_brings, Cond.selects RX1 yX1_brings yX1_brings, Cond.code yX1_brings cX1_brings 2 (some .int), Cond.fieldLink RX1 19 "WhatToRead$Piece" "skimmed" "I", Cond.fieldLink RX1 16 "WhatToRead$Piece" "given" "I", Cond.methodLink RX5 56 yX3_minutesOf, Cond.instanceMethod yX3_minutesOf, Cond.selects RX3 yX3_minutesOf yX3_minutesOf, Cond.code yX3_minutesOf cX3_minutesOf 3 (some .int), Cond.fieldLink RX3 18 "WhatToRead$Shelf" "pace" "I", Cond.methodLink RX3 45 yX3_pieceOf, Cond.methodLink RX3 53 yX1_minutesAt, Cond.instanceMethod yX1_minutesAt, Cond.selects RX1 yX1_minutesAt yX1_minutesAt, Cond.code yX1_minutesAt cX1_minutesAt 4 (some .int), Cond.fieldLink RX1 22 "WhatToRead$Piece" "pages" "I", Cond.methodLink RX5 60 yX5_offer, Cond.instanceMethod yX5_offer, Cond.selects RX5 yX5_offer yX5_offer, Cond.code yX5_offer cX5_offer 8 none, Cond.methodLink RX5 64 yX5_isBefore]
def wsX7_most_r5 : List Cond := [Cond.instanceMethod yX5_isBefore, Cond.selects RX5 yX5_isBefore yX5_isBefore, Cond.code yX5_isBefore cX5_isBefore 5 (some .boolean), Cond.methodLink RX7 138 yX5_richestEnd, Cond.instanceMethod yX5_richestEnd, Cond.selects RX5 yX5_richestEnd yX5_richestEnd, Cond.code yX5_richestEnd cX5_richestEnd 7 (some .int), Cond.methodLink RX5 72 yX5_minutesTo, Cond.instanceMethod yX5_minutesTo, Cond.selects RX5 yX5_minutesTo yX5_minutesTo, Cond.code yX5_minutesTo cX5_minutesTo 2 (some .int), Cond.methodLink RX5 75 yX4_worthOf, Cond.instanceMethod yX4_worthOf, Cond.selects RX4 yX4_worthOf yX4_worthOf, Cond.code yX4_worthOf cX4_worthOf 4 (some .int), Cond.fieldLink RX4 9 "WhatToRead$Topics" "worths" "[I", Cond.methodLink RX5 68 yX5_isBetter, Cond.instanceMethod yX5_isBetter, Cond.selects RX5 yX5_isBetter yX5_isBetter, Cond.code yX5_isBetter cX5_isBetter 3 (some .boolean), Cond.methodLink RX7 124 yX5_copyRow, Cond.instanceMethod yX5_copyRow, Cond.selects RX5 yX5_copyRow yX5_copyRow, Cond.code yX5_copyRow cX5_copyRow 4 none]
def wsX7_most_r6 : List Cond := [Cond.methodLink RX5 80 yX2_clear, Cond.instanceMethod yX2_clear, Cond.selects RX2 yX2_clear yX2_clear, Cond.initialized RX2, Cond.code yX2_clear cX2_clear 1 none, Cond.fieldLink RX2 15 "WhatToRead$Row" "count" "I", Cond.methodLink RX5 85 yX2_add, Cond.instanceMethod yX2_add, Cond.selects RX2 yX2_add yX2_add, Cond.code yX2_add cX2_add 2 none, Cond.fieldLink RX2 9 "WhatToRead$Row" "items" "[I", Cond.methodLink RX7 100 yX4_worthOf]
def wsX7_most : List Cond := .code yX7_most cX7_most 3 (some .int) :: ((wsX7_most_r1 ++ (wsX7_most_r2 ++ (wsX7_most_r3 ++ (wsX7_most_r4 ++ (wsX7_most_r5 ++ wsX7_most_r6))))) ++ wsX70 ++ wsX40 ++ wsX50 ++ wsX30 ++ wsJx4a65c0 ++ wsX10 ++ wsX20)
def wsX7_reach_r1 : List Cond := [Cond.fieldLink RX7 51 "WhatToRead" "known" "I", Cond.fieldLink RX7 19 "WhatToRead" "shelf" "LWhatToRead$Shelf;", Cond.methodLink RX7 142 yX3_readAllOpenTo, Cond.instanceMethod yX3_readAllOpenTo, Cond.selects RX3 yX3_readAllOpenTo yX3_readAllOpenTo, Cond.initialized RX3, Cond.code yX3_readAllOpenTo cX3_readAllOpenTo 5 (some .int), Cond.fieldLink RX3 12 "WhatToRead$Shelf" "pieces" "Ljava/util/List;", Cond.classLink RX3 43 "WhatToRead$Piece", Cond.methodLink RX3 22 ⟨"java/util/List", "size", "()I"⟩, Cond.selects RJx4a65c ⟨"java/util/List", "size", "()I"⟩ yJx4a65c_size_8abf5, Cond.instanceMethod yJx4a65c_size_8abf5, Cond.initialized RJx4a65c, Cond.code yJx4a65c_size_8abf5 cJx4a65c_size_8abf5 1 (some .int), Cond.fieldLink RJx4a65c 48 "java/util/ArrayList" "size" "I", Cond.methodLink RX3 40 ⟨"java/util/List", "get", "(I)Ljava/lang/Object;"⟩, Cond.selects RJx4a65c ⟨"java/util/List", "get", "(I)Ljava/lang/Object;"⟩ yJx4a65c_get_915e3, Cond.instanceMethod yJx4a65c_get_915e3, Cond.code yJx4a65c_get_915e3 cJx4a65c_get_915e3 2 (some (.object "java/lang/Object")), Cond.methodLink RJx4a65c 118 yJ15_checkIndex_7cf53, Cond.static yJ15_checkIndex_7cf53, Cond.initialized RJ15, Cond.code yJ15_checkIndex_7cf53 cJ15_checkIndex_7cf53 2 (some .int), Cond.methodLink RJ15 105 yJ3_checkIndex_8e157]
def wsX7_reach_r2 : List Cond := [Cond.static yJ3_checkIndex_8e157, Cond.initialized RJ3, Cond.code yJ3_checkIndex_8e157 cJ3_checkIndex_8e157 3 (some .int), Cond.methodLink RJx4a65c 123 yJx4a65c_elementData_915e3, Cond.instanceMethod yJx4a65c_elementData_915e3, Cond.selects RJx4a65c yJx4a65c_elementData_915e3 yJx4a65c_elementData_915e3, Cond.code yJx4a65c_elementData_915e3 cJx4a65c_elementData_915e3 2 (some (.object "java/lang/Object")), Cond.fieldLink RJx4a65c 9 "java/util/ArrayList" "elementData" "[Ljava/lang/Object;", Cond.methodLink RX3 57 yX1_isOpenTo, Cond.instanceMethod yX1_isOpenTo, Cond.selects RX1 yX1_isOpenTo yX1_isOpenTo, Cond.initialized RX1, Cond.code yX1_isOpenTo cX1_isOpenTo 2 (some .boolean), Cond.fieldLink RX1 7 "WhatToRead$Piece" "needs" "I", Cond.fieldLink RX1 13 "WhatToRead$Piece" "either" "I", Cond.methodLink RX3 60 yX1_brings, Cond.instanceMethod yX1_brings, Cond.selects RX1 yX1_brings yX1_brings, Cond.code yX1_brings cX1_brings 2 (some .int), Cond.fieldLink RX1 19 "WhatToRead$Piece" "skimmed" "I", Cond.fieldLink RX1 16 "WhatToRead$Piece" "given" "I"]
def wsX7_reach : List Cond := .code yX7_reach cX7_reach 3 (some .int) :: ((wsX7_reach_r1 ++ wsX7_reach_r2) ++ wsX70 ++ wsX30 ++ wsJx4a65c0 ++ wsX10)
def wsX7_gaps_r1 : List Cond := [Cond.fieldLink RX7 19 "WhatToRead" "shelf" "LWhatToRead$Shelf;", Cond.fieldLink RX7 51 "WhatToRead" "known" "I", Cond.methodLink RX7 145 yX3_allNeeded, Cond.instanceMethod yX3_allNeeded, Cond.selects RX3 yX3_allNeeded yX3_allNeeded, Cond.initialized RX3, Cond.code yX3_allNeeded cX3_allNeeded 3 (some .int), Cond.fieldLink RX3 12 "WhatToRead$Shelf" "pieces" "Ljava/util/List;", Cond.classLink RX3 43 "WhatToRead$Piece", Cond.methodLink RX3 22 ⟨"java/util/List", "size", "()I"⟩, Cond.selects RJx4a65c ⟨"java/util/List", "size", "()I"⟩ yJx4a65c_size_8abf5, Cond.instanceMethod yJx4a65c_size_8abf5, Cond.initialized RJx4a65c, Cond.code yJx4a65c_size_8abf5 cJx4a65c_size_8abf5 1 (some .int), Cond.fieldLink RJx4a65c 48 "java/util/ArrayList" "size" "I", Cond.methodLink RX3 40 ⟨"java/util/List", "get", "(I)Ljava/lang/Object;"⟩, Cond.selects RJx4a65c ⟨"java/util/List", "get", "(I)Ljava/lang/Object;"⟩ yJx4a65c_get_915e3, Cond.instanceMethod yJx4a65c_get_915e3, Cond.code yJx4a65c_get_915e3 cJx4a65c_get_915e3 2 (some (.object "java/lang/Object")), Cond.methodLink RJx4a65c 118 yJ15_checkIndex_7cf53, Cond.static yJ15_checkIndex_7cf53, Cond.initialized RJ15, Cond.code yJ15_checkIndex_7cf53 cJ15_checkIndex_7cf53 2 (some .int), Cond.methodLink RJ15 105 yJ3_checkIndex_8e157]
def wsX7_gaps_r2 : List Cond := [Cond.static yJ3_checkIndex_8e157, Cond.initialized RJ3, Cond.code yJ3_checkIndex_8e157 cJ3_checkIndex_8e157 3 (some .int), Cond.methodLink RJx4a65c 123 yJx4a65c_elementData_915e3, Cond.instanceMethod yJx4a65c_elementData_915e3, Cond.selects RJx4a65c yJx4a65c_elementData_915e3 yJx4a65c_elementData_915e3, Cond.code yJx4a65c_elementData_915e3 cJx4a65c_elementData_915e3 2 (some (.object "java/lang/Object")), Cond.fieldLink RJx4a65c 9 "java/util/ArrayList" "elementData" "[Ljava/lang/Object;", Cond.methodLink RX3 64 yX1_needed, Cond.instanceMethod yX1_needed, Cond.selects RX1 yX1_needed yX1_needed, Cond.initialized RX1, Cond.code yX1_needed cX1_needed 1 (some .int), Cond.fieldLink RX1 7 "WhatToRead$Piece" "needs" "I", Cond.methodLink RX7 148 yX3_allGiven, Cond.instanceMethod yX3_allGiven, Cond.selects RX3 yX3_allGiven yX3_allGiven, Cond.code yX3_allGiven cX3_allGiven 3 (some .int), Cond.methodLink RX3 60 yX1_brings, Cond.instanceMethod yX1_brings, Cond.selects RX1 yX1_brings yX1_brings, Cond.code yX1_brings cX1_brings 2 (some .int), Cond.fieldLink RX1 19 "WhatToRead$Piece" "skimmed" "I", Cond.fieldLink RX1 16 "WhatToRead$Piece" "given" "I"]
def wsX7_gaps : List Cond := .code yX7_gaps cX7_gaps 1 (some .int) :: ((wsX7_gaps_r1 ++ wsX7_gaps_r2) ++ wsX70 ++ wsX30 ++ wsJx4a65c0 ++ wsX10)
def wsX7_shortens_r1 : List Cond := [Cond.fieldLink RX7 19 "WhatToRead" "shelf" "LWhatToRead$Shelf;", Cond.fieldLink RX7 26 "WhatToRead" "ways" "LWhatToRead$Ways;", Cond.methodLink RX7 96 yX3_size, Cond.instanceMethod yX3_size, Cond.selects RX3 yX3_size yX3_size, Cond.initialized RX3, Cond.code yX3_size cX3_size 1 (some .int), Cond.fieldLink RX3 12 "WhatToRead$Shelf" "pieces" "Ljava/util/List;", Cond.methodLink RX3 22 ⟨"java/util/List", "size", "()I"⟩, Cond.selects RJx4a65c ⟨"java/util/List", "size", "()I"⟩ yJx4a65c_size_8abf5, Cond.instanceMethod yJx4a65c_size_8abf5, Cond.initialized RJx4a65c, Cond.code yJx4a65c_size_8abf5 cJx4a65c_size_8abf5 1 (some .int), Cond.fieldLink RJx4a65c 48 "java/util/ArrayList" "size" "I", Cond.methodLink RX7 55 yX7_isWithin, Cond.static yX7_isWithin, Cond.initialized RX7, Cond.code yX7_isWithin cX7_isWithin 3 (some .boolean), Cond.methodLink RX7 121 yX7_endOfBestWay, Cond.instanceMethod yX7_endOfBestWay, Cond.selects RX7 yX7_endOfBestWay yX7_endOfBestWay, Cond.code yX7_endOfBestWay cX7_endOfBestWay 3 (some .int), Cond.fieldLink RX7 12 "WhatToRead" "topics" "LWhatToRead$Topics;", Cond.fieldLink RX7 51 "WhatToRead" "known" "I"]
def wsX7_shortens_r2 : List Cond := [Cond.methodLink RX7 59 yX4_haveAll, Cond.instanceMethod yX4_haveAll, Cond.selects RX4 yX4_haveAll yX4_haveAll, Cond.initialized RX4, Cond.code yX4_haveAll cX4_haveAll 2 (some .boolean), Cond.fieldLink RX4 18 "WhatToRead$Topics" "count" "I", Cond.methodLink RX7 93 yX4_size, Cond.instanceMethod yX4_size, Cond.selects RX4 yX4_size yX4_size, Cond.code yX4_size cX4_size 1 (some .int), Cond.methodLink RX7 134 yX5_explore, Cond.instanceMethod yX5_explore, Cond.selects RX5 yX5_explore yX5_explore, Cond.initialized RX5, Cond.code yX5_explore cX5_explore 6 none, Cond.methodLink RX5 23 Lib.Math.min.name, Cond.static Lib.Math.min.name, Cond.initialized "java/lang/Math", Cond.code Lib.Math.min.name Lib.Math.min.code 2 (some .int), Cond.fieldLink RX5 19 "WhatToRead$Ways" "sets" "I", Cond.fieldLink RX5 11 "WhatToRead$Ways" "costs" "[I", Cond.fieldLink RX5 15 "WhatToRead$Ways" "rows" "[J", Cond.methodLink RX5 29 yX5_goOnFrom, Cond.instanceMethod yX5_goOnFrom]
def wsX7_shortens_r3 : List Cond := [Cond.selects RX5 yX5_goOnFrom yX5_goOnFrom, Cond.code yX5_goOnFrom cX5_goOnFrom 6 none, Cond.methodLink RX5 33 yX3_size, Cond.methodLink RX5 39 yX3_pieceOf, Cond.instanceMethod yX3_pieceOf, Cond.selects RX3 yX3_pieceOf yX3_pieceOf, Cond.code yX3_pieceOf cX3_pieceOf 3 (some (.object "WhatToRead$Piece")), Cond.classLink RX3 43 "WhatToRead$Piece", Cond.methodLink RX3 40 ⟨"java/util/List", "get", "(I)Ljava/lang/Object;"⟩, Cond.selects RJx4a65c ⟨"java/util/List", "get", "(I)Ljava/lang/Object;"⟩ yJx4a65c_get_915e3, Cond.instanceMethod yJx4a65c_get_915e3, Cond.code yJx4a65c_get_915e3 cJx4a65c_get_915e3 2 (some (.object "java/lang/Object")), Cond.methodLink RJx4a65c 118 yJ15_checkIndex_7cf53, Cond.static yJ15_checkIndex_7cf53, Cond.initialized RJ15, Cond.code yJ15_checkIndex_7cf53 cJ15_checkIndex_7cf53 2 (some .int), Cond.methodLink RJ15 105 yJ3_checkIndex_8e157, Cond.static yJ3_checkIndex_8e157, Cond.initialized RJ3, Cond.code yJ3_checkIndex_8e157 cJ3_checkIndex_8e157 3 (some .int), Cond.methodLink RJx4a65c 123 yJx4a65c_elementData_915e3, Cond.instanceMethod yJx4a65c_elementData_915e3, Cond.selects RJx4a65c yJx4a65c_elementData_915e3 yJx4a65c_elementData_915e3, Cond.code yJx4a65c_elementData_915e3 cJx4a65c_elementData_915e3 2 (some (.object "java/lang/Object"))]
def wsX7_shortens_r4 : List Cond := [Cond.fieldLink RJx4a65c 9 "java/util/ArrayList" "elementData" "[Ljava/lang/Object;", Cond.methodLink RX5 43 yX1_isOpenTo, Cond.instanceMethod yX1_isOpenTo, Cond.selects RX1 yX1_isOpenTo yX1_isOpenTo, Cond.initialized RX1, Cond.code yX1_isOpenTo cX1_isOpenTo 2 (some .boolean), Cond.fieldLink RX1 7 "WhatToRead$Piece" "needs" "I", Cond.fieldLink RX1 13 "WhatToRead$Piece" "either" "I", Cond.static yX7_isSkimmed, Cond.code yX7_isSkimmed cX7_isSkimmed 1 (some .boolean), Cond.methodLink RX5 52 yX1_brings, Cond.instanceMethod yX1_brings, Cond.selects RX1 yX1_brings yX1_brings, Cond.code yX1_brings cX1_brings 2 (some .int), Cond.fieldLink RX1 19 "WhatToRead$Piece" "skimmed" "I", Cond.fieldLink RX1 16 "WhatToRead$Piece" "given" "I", Cond.methodLink RX5 56 yX3_minutesOf, Cond.instanceMethod yX3_minutesOf, Cond.selects RX3 yX3_minutesOf yX3_minutesOf, Cond.code yX3_minutesOf cX3_minutesOf 3 (some .int), Cond.fieldLink RX3 18 "WhatToRead$Shelf" "pace" "I", Cond.methodLink RX3 45 yX3_pieceOf, Cond.methodLink RX3 53 yX1_minutesAt, Cond.instanceMethod yX1_minutesAt]
def wsX7_shortens_r5 : List Cond := [Cond.selects RX1 yX1_minutesAt yX1_minutesAt, Cond.code yX1_minutesAt cX1_minutesAt 4 (some .int), Cond.fieldLink RX1 22 "WhatToRead$Piece" "pages" "I", Cond.methodLink RX5 60 yX5_offer, Cond.instanceMethod yX5_offer, Cond.selects RX5 yX5_offer yX5_offer, Cond.code yX5_offer cX5_offer 8 none, Cond.methodLink RX5 64 yX5_isBefore, Cond.instanceMethod yX5_isBefore, Cond.selects RX5 yX5_isBefore yX5_isBefore, Cond.code yX5_isBefore cX5_isBefore 5 (some .boolean), Cond.methodLink RX7 186 yX5_endWith, Cond.instanceMethod yX5_endWith, Cond.selects RX5 yX5_endWith yX5_endWith, Cond.code yX5_endWith cX5_endWith 4 (some .int), Cond.methodLink RX5 68 yX5_isBetter, Cond.instanceMethod yX5_isBetter, Cond.selects RX5 yX5_isBetter yX5_isBetter, Cond.code yX5_isBetter cX5_isBetter 3 (some .boolean), Cond.methodLink RX7 128 yX5_minutesTo, Cond.instanceMethod yX5_minutesTo, Cond.selects RX5 yX5_minutesTo yX5_minutesTo, Cond.code yX5_minutesTo cX5_minutesTo 2 (some .int)]
def wsX7_shortens : List Cond := .code yX7_shortens cX7_shortens 6 (some .int) :: ((wsX7_shortens_r1 ++ (wsX7_shortens_r2 ++ (wsX7_shortens_r3 ++ (wsX7_shortens_r4 ++ wsX7_shortens_r5)))) ++ wsX70 ++ wsX30 ++ wsJx4a65c0 ++ wsX40 ++ wsX50 ++ wsX10)
def wsX7_week : List Cond := .code yX7_week cX7_week 3 (some .boolean) :: ([.fieldLink RX7 40 "WhatToRead" "weeks" "LWhatToRead$Weeks;", .methodLink RX7 55 yX7_isWithin, .static yX7_isWithin, .initialized RX7, .code yX7_isWithin cX7_isWithin 3 (some .boolean), .methodLink RX7 151 yX6_change, .instanceMethod yX6_change, .selects RX6 yX6_change yX6_change, .initialized RX6, .code yX6_change cX6_change 3 none, .fieldLink RX6 9 "WhatToRead$Weeks" "minutes" "[I"] ++ wsX70 ++ wsX60)
def wsX7_lay_r1 : List Cond := [Cond.fieldLink RX7 40 "WhatToRead" "weeks" "LWhatToRead$Weeks;", Cond.fieldLink RX7 33 "WhatToRead" "row" "LWhatToRead$Row;", Cond.fieldLink RX7 19 "WhatToRead" "shelf" "LWhatToRead$Shelf;", Cond.methodLink RX7 154 yX6_layRow, Cond.instanceMethod yX6_layRow, Cond.selects RX6 yX6_layRow yX6_layRow, Cond.initialized RX6, Cond.code yX6_layRow cX6_layRow 8 (some .int), Cond.fieldLink RX6 9 "WhatToRead$Weeks" "minutes" "[I", Cond.fieldLink RX6 22 "WhatToRead$Weeks" "draft" "LWhatToRead$Row;", Cond.fieldLink RX6 18 "WhatToRead$Weeks" "laidWeeks" "LWhatToRead$Row;", Cond.methodLink RX6 29 yX2_clear, Cond.instanceMethod yX2_clear, Cond.selects RX2 yX2_clear yX2_clear, Cond.initialized RX2, Cond.code yX2_clear cX2_clear 1 none, Cond.fieldLink RX2 15 "WhatToRead$Row" "count" "I", Cond.methodLink RX6 32 yX2_size, Cond.instanceMethod yX2_size, Cond.selects RX2 yX2_size yX2_size, Cond.code yX2_size cX2_size 1 (some .int), Cond.methodLink RX6 25 yX2_at, Cond.instanceMethod yX2_at, Cond.selects RX2 yX2_at yX2_at]
def wsX7_lay_r2 : List Cond := [Cond.code yX2_at cX2_at 2 (some .int), Cond.fieldLink RX2 9 "WhatToRead$Row" "items" "[I", Cond.methodLink RX6 36 yX3_minutesOf, Cond.instanceMethod yX3_minutesOf, Cond.selects RX3 yX3_minutesOf yX3_minutesOf, Cond.initialized RX3, Cond.code yX3_minutesOf cX3_minutesOf 3 (some .int), Cond.fieldLink RX3 18 "WhatToRead$Shelf" "pace" "I", Cond.methodLink RX3 45 yX3_pieceOf, Cond.instanceMethod yX3_pieceOf, Cond.selects RX3 yX3_pieceOf yX3_pieceOf, Cond.code yX3_pieceOf cX3_pieceOf 3 (some (.object "WhatToRead$Piece")), Cond.fieldLink RX3 12 "WhatToRead$Shelf" "pieces" "Ljava/util/List;", Cond.classLink RX3 43 "WhatToRead$Piece", Cond.methodLink RX3 22 ⟨"java/util/List", "size", "()I"⟩, Cond.selects RJx4a65c ⟨"java/util/List", "size", "()I"⟩ yJx4a65c_size_8abf5, Cond.instanceMethod yJx4a65c_size_8abf5, Cond.initialized RJx4a65c, Cond.code yJx4a65c_size_8abf5 cJx4a65c_size_8abf5 1 (some .int), Cond.fieldLink RJx4a65c 48 "java/util/ArrayList" "size" "I", Cond.methodLink RX3 40 ⟨"java/util/List", "get", "(I)Ljava/lang/Object;"⟩, Cond.selects RJx4a65c ⟨"java/util/List", "get", "(I)Ljava/lang/Object;"⟩ yJx4a65c_get_915e3, Cond.instanceMethod yJx4a65c_get_915e3, Cond.code yJx4a65c_get_915e3 cJx4a65c_get_915e3 2 (some (.object "java/lang/Object"))]
def wsX7_lay_r3 : List Cond := [Cond.methodLink RJx4a65c 118 yJ15_checkIndex_7cf53, Cond.static yJ15_checkIndex_7cf53, Cond.initialized RJ15, Cond.code yJ15_checkIndex_7cf53 cJ15_checkIndex_7cf53 2 (some .int), Cond.methodLink RJ15 105 yJ3_checkIndex_8e157, Cond.static yJ3_checkIndex_8e157, Cond.initialized RJ3, Cond.code yJ3_checkIndex_8e157 cJ3_checkIndex_8e157 3 (some .int), Cond.methodLink RJx4a65c 123 yJx4a65c_elementData_915e3, Cond.instanceMethod yJx4a65c_elementData_915e3, Cond.selects RJx4a65c yJx4a65c_elementData_915e3 yJx4a65c_elementData_915e3, Cond.code yJx4a65c_elementData_915e3 cJx4a65c_elementData_915e3 2 (some (.object "java/lang/Object")), Cond.fieldLink RJx4a65c 9 "java/util/ArrayList" "elementData" "[Ljava/lang/Object;", Cond.static yX7_isSkimmed, Cond.initialized RX7, Cond.code yX7_isSkimmed cX7_isSkimmed 1 (some .boolean), Cond.methodLink RX3 53 yX1_minutesAt, Cond.instanceMethod yX1_minutesAt, Cond.selects RX1 yX1_minutesAt yX1_minutesAt, Cond.initialized RX1, Cond.code yX1_minutesAt cX1_minutesAt 4 (some .int), Cond.fieldLink RX1 22 "WhatToRead$Piece" "pages" "I", Cond.methodLink RX6 41 yX2_add, Cond.instanceMethod yX2_add]
def wsX7_lay_r4 : List Cond := [Cond.selects RX2 yX2_add yX2_add, Cond.code yX2_add cX2_add 2 none, Cond.methodLink RX6 45 yX2_become, Cond.instanceMethod yX2_become, Cond.selects RX2 yX2_become yX2_become, Cond.code yX2_become cX2_become 3 none, Cond.methodLink RX2 19 yX2_clear, Cond.methodLink RX2 22 yX2_size, Cond.methodLink RX2 26 yX2_at, Cond.methodLink RX2 30 yX2_add]
def wsX7_lay : List Cond := .code yX7_lay cX7_lay 2 (some .int) :: ((wsX7_lay_r1 ++ (wsX7_lay_r2 ++ (wsX7_lay_r3 ++ wsX7_lay_r4))) ++ wsX70 ++ wsX60 ++ wsX20 ++ wsX30 ++ wsJx4a65c0 ++ wsX10)
def wsX7_laid : List Cond := .code yX7_laid cX7_laid 2 (some .int) :: ([.fieldLink RX7 40 "WhatToRead" "weeks" "LWhatToRead$Weeks;", .methodLink RX7 158 yX6_weekOf, .instanceMethod yX6_weekOf, .selects RX6 yX6_weekOf yX6_weekOf, .initialized RX6, .code yX6_weekOf cX6_weekOf 2 (some .int), .fieldLink RX6 18 "WhatToRead$Weeks" "laidWeeks" "LWhatToRead$Row;", .methodLink RX6 25 yX2_at, .instanceMethod yX2_at, .selects RX2 yX2_at yX2_at, .initialized RX2, .code yX2_at cX2_at 2 (some .int), .fieldLink RX2 15 "WhatToRead$Row" "count" "I", .fieldLink RX2 9 "WhatToRead$Row" "items" "[I"] ++ wsX70 ++ wsX60 ++ wsX20)
def wsX7_answer_r1 : List Cond := [Cond.fieldLink RX7 12 "WhatToRead" "topics" "LWhatToRead$Topics;", Cond.fieldLink RX7 47 "WhatToRead" "asking" "LWhatToRead$Asking;", Cond.methodLink RX7 93 yX4_size, Cond.instanceMethod yX4_size, Cond.selects RX4 yX4_size yX4_size, Cond.initialized RX4, Cond.code yX4_size cX4_size 1 (some .int), Cond.fieldLink RX4 18 "WhatToRead$Topics" "count" "I", Cond.methodLink RX7 55 yX7_isWithin, Cond.static yX7_isWithin, Cond.initialized RX7, Cond.code yX7_isWithin cX7_isWithin 3 (some .boolean), Cond.methodLink RX7 161 yX0_accept, Cond.instanceMethod yX0_accept, Cond.selects RX0 yX0_accept yX0_accept, Cond.initialized RX0, Cond.code yX0_accept cX0_accept 5 (some .int), Cond.fieldLink RX0 9 "WhatToRead$Asking" "sets" "[I", Cond.fieldLink RX0 18 "WhatToRead$Asking" "count" "I", Cond.fieldLink RX0 22 "WhatToRead$Asking" "answered" "I", Cond.methodLink RX0 25 yX0_countHaving, Cond.static yX0_countHaving, Cond.code yX0_countHaving cX0_countHaving 6 (some .int), Cond.methodLink RX0 47 Lib.Math.max.name]
def wsX7_answer_r2 : List Cond := [Cond.static Lib.Math.max.name, Cond.initialized "java/lang/Math", Cond.code Lib.Math.max.name Lib.Math.max.code 2 (some .int), Cond.methodLink RX0 29 yX0_keep, Cond.instanceMethod yX0_keep, Cond.selects RX0 yX0_keep yX0_keep, Cond.code yX0_keep cX0_keep 5 none, Cond.methodLink RX0 33 yX0_has, Cond.static yX0_has, Cond.code yX0_has cX0_has 2 (some .boolean)]
def wsX7_answer : List Cond := .code yX7_answer cX7_answer 3 (some .int) :: ((wsX7_answer_r1 ++ wsX7_answer_r2) ++ wsX70 ++ wsX40 ++ wsX00)
def wsX7_ask_r1 : List Cond := [Cond.fieldLink RX7 47 "WhatToRead" "asking" "LWhatToRead$Asking;", Cond.fieldLink RX7 12 "WhatToRead" "topics" "LWhatToRead$Topics;", Cond.methodLink RX7 165 yX0_startAnew, Cond.instanceMethod yX0_startAnew, Cond.selects RX0 yX0_startAnew yX0_startAnew, Cond.initialized RX0, Cond.code yX0_startAnew cX0_startAnew 1 none, Cond.fieldLink RX0 9 "WhatToRead$Asking" "sets" "[I", Cond.fieldLink RX0 18 "WhatToRead$Asking" "count" "I", Cond.fieldLink RX0 22 "WhatToRead$Asking" "answered" "I", Cond.methodLink RX7 93 yX4_size, Cond.instanceMethod yX4_size, Cond.selects RX4 yX4_size yX4_size, Cond.initialized RX4, Cond.code yX4_size cX4_size 1 (some .int), Cond.fieldLink RX4 18 "WhatToRead$Topics" "count" "I", Cond.methodLink RX7 67 yX4_impliedBy, Cond.instanceMethod yX4_impliedBy, Cond.selects RX4 yX4_impliedBy yX4_impliedBy, Cond.code yX4_impliedBy cX4_impliedBy 3 (some .int), Cond.methodLink RX4 22 yX4_closure, Cond.instanceMethod yX4_closure, Cond.selects RX4 yX4_closure yX4_closure, Cond.code yX4_closure cX4_closure 4 (some .int)]
def wsX7_ask_r2 : List Cond := [Cond.fieldLink RX4 15 "WhatToRead$Topics" "closures" "[I", Cond.methodLink RX7 71 yX0_addTopic, Cond.instanceMethod yX0_addTopic, Cond.selects RX0 yX0_addTopic yX0_addTopic, Cond.code yX0_addTopic cX0_addTopic 5 none, Cond.methodLink RX7 168 yX0_size, Cond.instanceMethod yX0_size, Cond.selects RX0 yX0_size yX0_size, Cond.code yX0_size cX0_size 1 (some .int)]
def wsX7_ask : List Cond := .code yX7_ask cX7_ask 2 (some .int) :: ((wsX7_ask_r1 ++ wsX7_ask_r2) ++ wsX70 ++ wsX00 ++ wsX40)
def wsX7_states : List Cond := .code yX7_states cX7_states 1 (some .int) :: ([.fieldLink RX7 47 "WhatToRead" "asking" "LWhatToRead$Asking;", .methodLink RX7 168 yX0_size, .instanceMethod yX0_size, .selects RX0 yX0_size yX0_size, .initialized RX0, .code yX0_size cX0_size 1 (some .int), .fieldLink RX0 18 "WhatToRead$Asking" "count" "I"] ++ wsX70 ++ wsX00)
def wsX7_question : List Cond := .code yX7_question cX7_question 1 (some .int) :: ([.fieldLink RX7 47 "WhatToRead" "asking" "LWhatToRead$Asking;", .methodLink RX7 169 yX0_nextQuestion, .instanceMethod yX0_nextQuestion, .selects RX0 yX0_nextQuestion yX0_nextQuestion, .initialized RX0, .code yX0_nextQuestion cX0_nextQuestion 1 (some .int), .fieldLink RX0 9 "WhatToRead$Asking" "sets" "[I", .fieldLink RX0 18 "WhatToRead$Asking" "count" "I", .methodLink RX0 37 yX0_bestTopic, .static yX0_bestTopic, .code yX0_bestTopic cX0_bestTopic 8 (some .int), .methodLink RX0 47 Lib.Math.max.name, .static Lib.Math.max.name, .initialized "java/lang/Math", .code Lib.Math.max.name Lib.Math.max.code 2 (some .int), .methodLink RX0 25 yX0_countHaving, .static yX0_countHaving, .code yX0_countHaving cX0_countHaving 6 (some .int)] ++ wsX70 ++ wsX00)
def wsX7_worst_r1 : List Cond := [Cond.fieldLink RX7 47 "WhatToRead" "asking" "LWhatToRead$Asking;", Cond.methodLink RX7 172 yX0_mostQuestions, Cond.instanceMethod yX0_mostQuestions, Cond.selects RX0 yX0_mostQuestions yX0_mostQuestions, Cond.initialized RX0, Cond.code yX0_mostQuestions cX0_mostQuestions 2 (some .int), Cond.fieldLink RX0 18 "WhatToRead$Asking" "count" "I", Cond.fieldLink RX0 15 "WhatToRead$Asking" "scratch" "[I", Cond.fieldLink RX0 9 "WhatToRead$Asking" "sets" "[I", Cond.methodLink RX0 41 yX0_questionsUntilOne, Cond.static yX0_questionsUntilOne, Cond.code yX0_questionsUntilOne cX0_questionsUntilOne 8 (some .int), Cond.methodLink RX0 47 Lib.Math.max.name, Cond.static Lib.Math.max.name, Cond.initialized "java/lang/Math", Cond.code Lib.Math.max.name Lib.Math.max.code 2 (some .int), Cond.methodLink RX0 37 yX0_bestTopic, Cond.static yX0_bestTopic, Cond.code yX0_bestTopic cX0_bestTopic 8 (some .int), Cond.methodLink RX0 25 yX0_countHaving, Cond.static yX0_countHaving, Cond.code yX0_countHaving cX0_countHaving 6 (some .int), Cond.methodLink RX0 44 yX0_split, Cond.static yX0_split]
def wsX7_worst_r2 : List Cond := [Cond.code yX0_split cX0_split 7 (some .int), Cond.methodLink RX0 33 yX0_has, Cond.static yX0_has, Cond.code yX0_has cX0_has 2 (some .boolean)]
def wsX7_worst : List Cond := .code yX7_worst cX7_worst 1 (some .int) :: ((wsX7_worst_r1 ++ wsX7_worst_r2) ++ wsX70 ++ wsX00)
def wsX7_settle : List Cond := .code yX7_settle cX7_settle 1 (some .int) :: ([.fieldLink RX7 47 "WhatToRead" "asking" "LWhatToRead$Asking;", .fieldLink RX7 51 "WhatToRead" "known" "I", .methodLink RX7 175 yX0_inCommon, .instanceMethod yX0_inCommon, .selects RX0 yX0_inCommon yX0_inCommon, .initialized RX0, .code yX0_inCommon cX0_inCommon 3 (some .int), .fieldLink RX0 18 "WhatToRead$Asking" "count" "I", .fieldLink RX0 9 "WhatToRead$Asking" "sets" "[I"] ++ wsX70 ++ wsX00)
def wsX7_state : List Cond := .code yX7_state cX7_state 3 (some .int) :: ([.classLink RX7 179 "java/util/NoSuchElementException", .initialized "java/util/NoSuchElementException", .fieldLink RX7 47 "WhatToRead" "asking" "LWhatToRead$Asking;", .methodLink RX7 178 yX0_at, .instanceMethod yX0_at, .selects RX0 yX0_at yX0_at, .initialized RX0, .code yX0_at cX0_at 2 (some .int), .fieldLink RX0 18 "WhatToRead$Asking" "count" "I", .fieldLink RX0 9 "WhatToRead$Asking" "sets" "[I"] ++ wsX70 ++ wsX00 ++ (vx_atS RX7 183 "java/util/NoSuchElementException" ["java/lang/RuntimeException", "java/lang/Exception"]).filter goodWord)
def wsX8_init : List Cond := .code yX8_init cX8_init 2 none :: ([.methodLink RX8 3 objectInit, .instanceMethod objectInit, .code objectInit ⟨#[0xb1]⟩ 1 none, .arrayClass .int, .fieldLink RX8 9 "WhatToReadModel" "worth" "[I", .fieldLink RX8 13 "WhatToReadModel" "implies" "[I", .fieldLink RX8 16 "WhatToReadModel" "needs" "[I", .fieldLink RX8 19 "WhatToReadModel" "either" "[I", .fieldLink RX8 22 "WhatToReadModel" "gives" "[I", .fieldLink RX8 25 "WhatToReadModel" "skim" "[I", .fieldLink RX8 28 "WhatToReadModel" "pages" "[I", .fieldLink RX8 31 "WhatToReadModel" "pace" "I", .fieldLink RX8 35 "WhatToReadModel" "row" "[I", .fieldLink RX8 38 "WhatToReadModel" "week" "[I", .fieldLink RX8 41 "WhatToReadModel" "laid" "[I", .fieldLink RX8 44 "WhatToReadModel" "answers" "[I", .fieldLink RX8 47 "WhatToReadModel" "cost" "[I", .fieldLink RX8 50 "WhatToReadModel" "steps" "[I", .arrayClass .boolean, .fieldLink RX8 53 "WhatToReadModel" "isGood" "[Z", .fieldLink RX8 57 "WhatToReadModel" "place" "[I", .fieldLink RX8 60 "WhatToReadModel" "row64" "[I"] ++ wsX80)
def wsX8_thrown : List Cond := .code yX8_thrown cX8_thrown 1 (some .int) :: ([.fieldLink RX8 63 "WhatToReadModel" "thrown" "I"] ++ wsX80)
def wsX8_in : List Cond := .code yX8_in cX8_in 3 (some .boolean) :: ([])
def wsX8_areBits : List Cond := .code yX8_areBits cX8_areBits 2 (some .boolean) :: ([.fieldLink RX8 66 "WhatToReadModel" "topics" "I", .methodLink RX8 69 yX8_in, .static yX8_in, .initialized RX8, .code yX8_in cX8_in 3 (some .boolean)] ++ wsX80)
def wsX8_isStep : List Cond := .code yX8_isStep cX8_isStep 2 (some .boolean) :: ([.fieldLink RX8 73 "WhatToReadModel" "pieces" "I", .methodLink RX8 69 yX8_in, .static yX8_in, .initialized RX8, .code yX8_in cX8_in 3 (some .boolean)] ++ wsX80)
def wsX8_withAll : List Cond := .code yX8_withAll cX8_withAll 4 (some .int) :: ([.fieldLink RX8 66 "WhatToReadModel" "topics" "I", .fieldLink RX8 13 "WhatToReadModel" "implies" "[I"] ++ wsX80)
def wsX8_topic : List Cond := .code yX8_topic cX8_topic 3 (some .int) :: ([.fieldLink RX8 63 "WhatToReadModel" "thrown" "I", .fieldLink RX8 66 "WhatToReadModel" "topics" "I", .fieldLink RX8 9 "WhatToReadModel" "worth" "[I", .fieldLink RX8 13 "WhatToReadModel" "implies" "[I", .methodLink RX8 69 yX8_in, .static yX8_in, .initialized RX8, .code yX8_in cX8_in 3 (some .boolean), .methodLink RX8 76 yX8_areBits, .instanceMethod yX8_areBits, .selects RX8 yX8_areBits yX8_areBits, .code yX8_areBits cX8_areBits 2 (some .boolean), .methodLink RX8 80 yX8_withAll, .instanceMethod yX8_withAll, .selects RX8 yX8_withAll yX8_withAll, .code yX8_withAll cX8_withAll 4 (some .int)] ++ wsX80)
def wsX8_piece : List Cond := .code yX8_piece cX8_piece 6 (some .int) :: ([.fieldLink RX8 63 "WhatToReadModel" "thrown" "I", .fieldLink RX8 73 "WhatToReadModel" "pieces" "I", .fieldLink RX8 16 "WhatToReadModel" "needs" "[I", .fieldLink RX8 19 "WhatToReadModel" "either" "[I", .fieldLink RX8 22 "WhatToReadModel" "gives" "[I", .fieldLink RX8 25 "WhatToReadModel" "skim" "[I", .fieldLink RX8 28 "WhatToReadModel" "pages" "[I", .methodLink RX8 76 yX8_areBits, .instanceMethod yX8_areBits, .selects RX8 yX8_areBits yX8_areBits, .initialized RX8, .code yX8_areBits cX8_areBits 2 (some .boolean), .fieldLink RX8 66 "WhatToReadModel" "topics" "I", .methodLink RX8 69 yX8_in, .static yX8_in, .code yX8_in cX8_in 3 (some .boolean)] ++ wsX80)
def wsX8_drop : List Cond := .code yX8_drop cX8_drop 1 (some .int) :: ([.fieldLink RX8 63 "WhatToReadModel" "thrown" "I", .fieldLink RX8 73 "WhatToReadModel" "pieces" "I"] ++ wsX80)
def wsX8_pace : List Cond := .code yX8_pace cX8_pace 3 (some .int) :: ([.fieldLink RX8 63 "WhatToReadModel" "thrown" "I", .fieldLink RX8 31 "WhatToReadModel" "pace" "I", .methodLink RX8 69 yX8_in, .static yX8_in, .initialized RX8, .code yX8_in cX8_in 3 (some .boolean)] ++ wsX80)
def wsX8_know : List Cond := .code yX8_know cX8_know 2 (some .int) :: ([.fieldLink RX8 63 "WhatToReadModel" "thrown" "I", .fieldLink RX8 84 "WhatToReadModel" "known" "I", .methodLink RX8 76 yX8_areBits, .instanceMethod yX8_areBits, .selects RX8 yX8_areBits yX8_areBits, .initialized RX8, .code yX8_areBits cX8_areBits 2 (some .boolean), .fieldLink RX8 66 "WhatToReadModel" "topics" "I", .methodLink RX8 69 yX8_in, .static yX8_in, .code yX8_in cX8_in 3 (some .boolean), .methodLink RX8 80 yX8_withAll, .instanceMethod yX8_withAll, .selects RX8 yX8_withAll yX8_withAll, .code yX8_withAll cX8_withAll 4 (some .int), .fieldLink RX8 13 "WhatToReadModel" "implies" "[I"] ++ wsX80)
def wsX8_worthOf : List Cond := .code yX8_worthOf cX8_worthOf 4 (some .int) :: ([.fieldLink RX8 66 "WhatToReadModel" "topics" "I", .fieldLink RX8 9 "WhatToReadModel" "worth" "[I"] ++ wsX80)
def wsX8_count : List Cond := .code yX8_count cX8_count 2 (some .int) :: ([.fieldLink RX8 63 "WhatToReadModel" "thrown" "I", .fieldLink RX8 66 "WhatToReadModel" "topics" "I", .fieldLink RX8 73 "WhatToReadModel" "pieces" "I", .fieldLink RX8 84 "WhatToReadModel" "known" "I", .fieldLink RX8 31 "WhatToReadModel" "pace" "I", .fieldLink RX8 90 "WhatToReadModel" "rowMany" "I", .methodLink RX8 87 yX8_worthOf, .instanceMethod yX8_worthOf, .selects RX8 yX8_worthOf yX8_worthOf, .initialized RX8, .code yX8_worthOf cX8_worthOf 4 (some .int), .fieldLink RX8 9 "WhatToReadModel" "worth" "[I"] ++ wsX80)
def wsX8_with : List Cond := .code yX8_with cX8_with 2 (some .int) :: ([.fieldLink RX8 63 "WhatToReadModel" "thrown" "I", .methodLink RX8 76 yX8_areBits, .instanceMethod yX8_areBits, .selects RX8 yX8_areBits yX8_areBits, .initialized RX8, .code yX8_areBits cX8_areBits 2 (some .boolean), .fieldLink RX8 66 "WhatToReadModel" "topics" "I", .methodLink RX8 69 yX8_in, .static yX8_in, .code yX8_in cX8_in 3 (some .boolean), .methodLink RX8 80 yX8_withAll, .instanceMethod yX8_withAll, .selects RX8 yX8_withAll yX8_withAll, .code yX8_withAll cX8_withAll 4 (some .int), .fieldLink RX8 13 "WhatToReadModel" "implies" "[I"] ++ wsX80)
def wsX8_time : List Cond := .code yX8_time cX8_time 3 (some .int) :: ([.fieldLink RX8 28 "WhatToReadModel" "pages" "[I", .fieldLink RX8 31 "WhatToReadModel" "pace" "I"] ++ wsX80)
def wsX8_minutes : List Cond := .code yX8_minutes cX8_minutes 2 (some .int) :: ([.fieldLink RX8 63 "WhatToReadModel" "thrown" "I", .methodLink RX8 93 yX8_isStep, .instanceMethod yX8_isStep, .selects RX8 yX8_isStep yX8_isStep, .initialized RX8, .code yX8_isStep cX8_isStep 2 (some .boolean), .fieldLink RX8 73 "WhatToReadModel" "pieces" "I", .methodLink RX8 69 yX8_in, .static yX8_in, .code yX8_in cX8_in 3 (some .boolean), .methodLink RX8 96 yX8_time, .instanceMethod yX8_time, .selects RX8 yX8_time yX8_time, .code yX8_time cX8_time 3 (some .int), .fieldLink RX8 28 "WhatToReadModel" "pages" "[I", .fieldLink RX8 31 "WhatToReadModel" "pace" "I"] ++ wsX80)
def wsX8_canDo : List Cond := .code yX8_canDo cX8_canDo 4 (some .boolean) :: ([.fieldLink RX8 16 "WhatToReadModel" "needs" "[I", .fieldLink RX8 19 "WhatToReadModel" "either" "[I"] ++ wsX80)
def wsX8_behind : List Cond := .code yX8_behind cX8_behind 3 (some .int) :: ([.fieldLink RX8 22 "WhatToReadModel" "gives" "[I", .fieldLink RX8 25 "WhatToReadModel" "skim" "[I", .methodLink RX8 80 yX8_withAll, .instanceMethod yX8_withAll, .selects RX8 yX8_withAll yX8_withAll, .initialized RX8, .code yX8_withAll cX8_withAll 4 (some .int), .fieldLink RX8 66 "WhatToReadModel" "topics" "I", .fieldLink RX8 13 "WhatToReadModel" "implies" "[I"] ++ wsX80)
def wsX8_can : List Cond := .code yX8_can cX8_can 2 (some .int) :: ([.fieldLink RX8 63 "WhatToReadModel" "thrown" "I", .fieldLink RX8 84 "WhatToReadModel" "known" "I", .methodLink RX8 93 yX8_isStep, .instanceMethod yX8_isStep, .selects RX8 yX8_isStep yX8_isStep, .initialized RX8, .code yX8_isStep cX8_isStep 2 (some .boolean), .fieldLink RX8 73 "WhatToReadModel" "pieces" "I", .methodLink RX8 69 yX8_in, .static yX8_in, .code yX8_in cX8_in 3 (some .boolean), .methodLink RX8 99 yX8_canDo, .instanceMethod yX8_canDo, .selects RX8 yX8_canDo yX8_canDo, .code yX8_canDo cX8_canDo 4 (some .boolean), .fieldLink RX8 16 "WhatToReadModel" "needs" "[I", .fieldLink RX8 19 "WhatToReadModel" "either" "[I"] ++ wsX80)
def wsX8_done_r1 : List Cond := [Cond.fieldLink RX8 63 "WhatToReadModel" "thrown" "I", Cond.fieldLink RX8 84 "WhatToReadModel" "known" "I", Cond.methodLink RX8 93 yX8_isStep, Cond.instanceMethod yX8_isStep, Cond.selects RX8 yX8_isStep yX8_isStep, Cond.initialized RX8, Cond.code yX8_isStep cX8_isStep 2 (some .boolean), Cond.fieldLink RX8 73 "WhatToReadModel" "pieces" "I", Cond.methodLink RX8 69 yX8_in, Cond.static yX8_in, Cond.code yX8_in cX8_in 3 (some .boolean), Cond.methodLink RX8 99 yX8_canDo, Cond.instanceMethod yX8_canDo, Cond.selects RX8 yX8_canDo yX8_canDo, Cond.code yX8_canDo cX8_canDo 4 (some .boolean), Cond.fieldLink RX8 16 "WhatToReadModel" "needs" "[I", Cond.fieldLink RX8 19 "WhatToReadModel" "either" "[I", Cond.methodLink RX8 103 yX8_behind, Cond.instanceMethod yX8_behind, Cond.selects RX8 yX8_behind yX8_behind, Cond.code yX8_behind cX8_behind 3 (some .int), Cond.fieldLink RX8 22 "WhatToReadModel" "gives" "[I", Cond.fieldLink RX8 25 "WhatToReadModel" "skim" "[I", Cond.methodLink RX8 80 yX8_withAll]
def wsX8_done_r2 : List Cond := [Cond.instanceMethod yX8_withAll, Cond.selects RX8 yX8_withAll yX8_withAll, Cond.code yX8_withAll cX8_withAll 4 (some .int), Cond.fieldLink RX8 66 "WhatToReadModel" "topics" "I", Cond.fieldLink RX8 13 "WhatToReadModel" "implies" "[I"]
def wsX8_done : List Cond := .code yX8_done cX8_done 2 (some .int) :: ((wsX8_done_r1 ++ wsX8_done_r2) ++ wsX80)
def wsX8_newBehind : List Cond := .code yX8_newBehind cX8_newBehind 4 (some .int) :: ([.fieldLink RX8 107 "WhatToReadModel" "without" "I", .methodLink RX8 99 yX8_canDo, .instanceMethod yX8_canDo, .selects RX8 yX8_canDo yX8_canDo, .initialized RX8, .code yX8_canDo cX8_canDo 4 (some .boolean), .fieldLink RX8 16 "WhatToReadModel" "needs" "[I", .fieldLink RX8 19 "WhatToReadModel" "either" "[I", .methodLink RX8 103 yX8_behind, .instanceMethod yX8_behind, .selects RX8 yX8_behind yX8_behind, .code yX8_behind cX8_behind 3 (some .int), .fieldLink RX8 22 "WhatToReadModel" "gives" "[I", .fieldLink RX8 25 "WhatToReadModel" "skim" "[I", .methodLink RX8 80 yX8_withAll, .instanceMethod yX8_withAll, .selects RX8 yX8_withAll yX8_withAll, .code yX8_withAll cX8_withAll 4 (some .int), .fieldLink RX8 66 "WhatToReadModel" "topics" "I", .fieldLink RX8 13 "WhatToReadModel" "implies" "[I"] ++ wsX80)
def wsX8_findWays_r1 : List Cond := [Cond.fieldLink RX8 107 "WhatToReadModel" "without" "I", Cond.fieldLink RX8 66 "WhatToReadModel" "topics" "I", Cond.fieldLink RX8 47 "WhatToReadModel" "cost" "[I", Cond.constant RX8 110 (268435456), Cond.fieldLink RX8 50 "WhatToReadModel" "steps" "[I", Cond.fieldLink RX8 73 "WhatToReadModel" "pieces" "I", Cond.methodLink RX8 111 yX8_newBehind, Cond.instanceMethod yX8_newBehind, Cond.selects RX8 yX8_newBehind yX8_newBehind, Cond.initialized RX8, Cond.code yX8_newBehind cX8_newBehind 4 (some .int), Cond.methodLink RX8 99 yX8_canDo, Cond.instanceMethod yX8_canDo, Cond.selects RX8 yX8_canDo yX8_canDo, Cond.code yX8_canDo cX8_canDo 4 (some .boolean), Cond.fieldLink RX8 16 "WhatToReadModel" "needs" "[I", Cond.fieldLink RX8 19 "WhatToReadModel" "either" "[I", Cond.methodLink RX8 103 yX8_behind, Cond.instanceMethod yX8_behind, Cond.selects RX8 yX8_behind yX8_behind, Cond.code yX8_behind cX8_behind 3 (some .int), Cond.fieldLink RX8 22 "WhatToReadModel" "gives" "[I", Cond.fieldLink RX8 25 "WhatToReadModel" "skim" "[I", Cond.methodLink RX8 80 yX8_withAll]
def wsX8_findWays_r2 : List Cond := [Cond.instanceMethod yX8_withAll, Cond.selects RX8 yX8_withAll yX8_withAll, Cond.code yX8_withAll cX8_withAll 4 (some .int), Cond.fieldLink RX8 13 "WhatToReadModel" "implies" "[I", Cond.methodLink RX8 96 yX8_time, Cond.instanceMethod yX8_time, Cond.selects RX8 yX8_time yX8_time, Cond.code yX8_time cX8_time 3 (some .int), Cond.fieldLink RX8 28 "WhatToReadModel" "pages" "[I", Cond.fieldLink RX8 31 "WhatToReadModel" "pace" "I"]
def wsX8_findWays : List Cond := .code yX8_findWays cX8_findWays 9 none :: ((wsX8_findWays_r1 ++ wsX8_findWays_r2) ++ wsX80)
def wsX8_way_r1 : List Cond := [Cond.fieldLink RX8 63 "WhatToReadModel" "thrown" "I", Cond.fieldLink RX8 47 "WhatToReadModel" "cost" "[I", Cond.fieldLink RX8 84 "WhatToReadModel" "known" "I", Cond.constant RX8 110 (268435456), Cond.fieldLink RX8 50 "WhatToReadModel" "steps" "[I", Cond.fieldLink RX8 35 "WhatToReadModel" "row" "[I", Cond.fieldLink RX8 90 "WhatToReadModel" "rowMany" "I", Cond.methodLink RX8 76 yX8_areBits, Cond.instanceMethod yX8_areBits, Cond.selects RX8 yX8_areBits yX8_areBits, Cond.initialized RX8, Cond.code yX8_areBits cX8_areBits 2 (some .boolean), Cond.fieldLink RX8 66 "WhatToReadModel" "topics" "I", Cond.methodLink RX8 69 yX8_in, Cond.static yX8_in, Cond.code yX8_in cX8_in 3 (some .boolean), Cond.methodLink RX8 114 yX8_findWays, Cond.instanceMethod yX8_findWays, Cond.selects RX8 yX8_findWays yX8_findWays, Cond.code yX8_findWays cX8_findWays 9 none, Cond.fieldLink RX8 107 "WhatToReadModel" "without" "I", Cond.fieldLink RX8 73 "WhatToReadModel" "pieces" "I", Cond.methodLink RX8 111 yX8_newBehind, Cond.instanceMethod yX8_newBehind]
def wsX8_way_r2 : List Cond := [Cond.selects RX8 yX8_newBehind yX8_newBehind, Cond.code yX8_newBehind cX8_newBehind 4 (some .int), Cond.methodLink RX8 99 yX8_canDo, Cond.instanceMethod yX8_canDo, Cond.selects RX8 yX8_canDo yX8_canDo, Cond.code yX8_canDo cX8_canDo 4 (some .boolean), Cond.fieldLink RX8 16 "WhatToReadModel" "needs" "[I", Cond.fieldLink RX8 19 "WhatToReadModel" "either" "[I", Cond.methodLink RX8 103 yX8_behind, Cond.instanceMethod yX8_behind, Cond.selects RX8 yX8_behind yX8_behind, Cond.code yX8_behind cX8_behind 3 (some .int), Cond.fieldLink RX8 22 "WhatToReadModel" "gives" "[I", Cond.fieldLink RX8 25 "WhatToReadModel" "skim" "[I", Cond.methodLink RX8 80 yX8_withAll, Cond.instanceMethod yX8_withAll, Cond.selects RX8 yX8_withAll yX8_withAll, Cond.code yX8_withAll cX8_withAll 4 (some .int), Cond.fieldLink RX8 13 "WhatToReadModel" "implies" "[I", Cond.methodLink RX8 96 yX8_time, Cond.instanceMethod yX8_time, Cond.selects RX8 yX8_time yX8_time, Cond.code yX8_time cX8_time 3 (some .int), Cond.fieldLink RX8 28 "WhatToReadModel" "pages" "[I"]
def wsX8_way_r3 : List Cond := [Cond.fieldLink RX8 31 "WhatToReadModel" "pace" "I"]
def wsX8_way : List Cond := .code yX8_way cX8_way 6 (some .int) :: ((wsX8_way_r1 ++ (wsX8_way_r2 ++ wsX8_way_r3)) ++ wsX80)
def wsX8_step : List Cond := .code yX8_step cX8_step 2 (some .int) :: ([.fieldLink RX8 63 "WhatToReadModel" "thrown" "I", .fieldLink RX8 90 "WhatToReadModel" "rowMany" "I", .fieldLink RX8 35 "WhatToReadModel" "row" "[I", .methodLink RX8 69 yX8_in, .static yX8_in, .initialized RX8, .code yX8_in cX8_in 3 (some .boolean)] ++ wsX80)
def wsX8_isTight : List Cond := .code yX8_isTight cX8_isTight 4 (some .boolean) :: ([.fieldLink RX8 47 "WhatToReadModel" "cost" "[I", .fieldLink RX8 50 "WhatToReadModel" "steps" "[I", .methodLink RX8 96 yX8_time, .instanceMethod yX8_time, .selects RX8 yX8_time yX8_time, .initialized RX8, .code yX8_time cX8_time 3 (some .int), .fieldLink RX8 28 "WhatToReadModel" "pages" "[I", .fieldLink RX8 31 "WhatToReadModel" "pace" "I"] ++ wsX80)
def wsX8_most_r1 : List Cond := [Cond.fieldLink RX8 63 "WhatToReadModel" "thrown" "I", Cond.fieldLink RX8 107 "WhatToReadModel" "without" "I", Cond.fieldLink RX8 66 "WhatToReadModel" "topics" "I", Cond.fieldLink RX8 47 "WhatToReadModel" "cost" "[I", Cond.fieldLink RX8 84 "WhatToReadModel" "known" "I", Cond.constant RX8 110 (268435456), Cond.fieldLink RX8 50 "WhatToReadModel" "steps" "[I", Cond.fieldLink RX8 73 "WhatToReadModel" "pieces" "I", Cond.fieldLink RX8 53 "WhatToReadModel" "isGood" "[Z", Cond.fieldLink RX8 35 "WhatToReadModel" "row" "[I", Cond.fieldLink RX8 90 "WhatToReadModel" "rowMany" "I", Cond.methodLink RX8 69 yX8_in, Cond.static yX8_in, Cond.initialized RX8, Cond.code yX8_in cX8_in 3 (some .boolean), Cond.methodLink RX8 111 yX8_newBehind, Cond.instanceMethod yX8_newBehind, Cond.selects RX8 yX8_newBehind yX8_newBehind, Cond.code yX8_newBehind cX8_newBehind 4 (some .int), Cond.methodLink RX8 99 yX8_canDo, Cond.instanceMethod yX8_canDo, Cond.selects RX8 yX8_canDo yX8_canDo, Cond.code yX8_canDo cX8_canDo 4 (some .boolean), Cond.fieldLink RX8 16 "WhatToReadModel" "needs" "[I"]
def wsX8_most_r2 : List Cond := [Cond.fieldLink RX8 19 "WhatToReadModel" "either" "[I", Cond.methodLink RX8 103 yX8_behind, Cond.instanceMethod yX8_behind, Cond.selects RX8 yX8_behind yX8_behind, Cond.code yX8_behind cX8_behind 3 (some .int), Cond.fieldLink RX8 22 "WhatToReadModel" "gives" "[I", Cond.fieldLink RX8 25 "WhatToReadModel" "skim" "[I", Cond.methodLink RX8 80 yX8_withAll, Cond.instanceMethod yX8_withAll, Cond.selects RX8 yX8_withAll yX8_withAll, Cond.code yX8_withAll cX8_withAll 4 (some .int), Cond.fieldLink RX8 13 "WhatToReadModel" "implies" "[I", Cond.methodLink RX8 96 yX8_time, Cond.instanceMethod yX8_time, Cond.selects RX8 yX8_time yX8_time, Cond.code yX8_time cX8_time 3 (some .int), Cond.fieldLink RX8 28 "WhatToReadModel" "pages" "[I", Cond.fieldLink RX8 31 "WhatToReadModel" "pace" "I", Cond.methodLink RX8 87 yX8_worthOf, Cond.instanceMethod yX8_worthOf, Cond.selects RX8 yX8_worthOf yX8_worthOf, Cond.code yX8_worthOf cX8_worthOf 4 (some .int), Cond.fieldLink RX8 9 "WhatToReadModel" "worth" "[I", Cond.methodLink RX8 118 yX8_isTight]
def wsX8_most_r3 : List Cond := [Cond.instanceMethod yX8_isTight, Cond.selects RX8 yX8_isTight yX8_isTight, Cond.code yX8_isTight cX8_isTight 4 (some .boolean)]
def wsX8_most : List Cond := .code yX8_most cX8_most 9 (some .int) :: ((wsX8_most_r1 ++ (wsX8_most_r2 ++ wsX8_most_r3)) ++ wsX80)
def wsX8_reached : List Cond := .code yX8_reached cX8_reached 5 (some .int) :: ([.fieldLink RX8 84 "WhatToReadModel" "known" "I", .fieldLink RX8 73 "WhatToReadModel" "pieces" "I", .methodLink RX8 99 yX8_canDo, .instanceMethod yX8_canDo, .selects RX8 yX8_canDo yX8_canDo, .initialized RX8, .code yX8_canDo cX8_canDo 4 (some .boolean), .fieldLink RX8 16 "WhatToReadModel" "needs" "[I", .fieldLink RX8 19 "WhatToReadModel" "either" "[I", .methodLink RX8 103 yX8_behind, .instanceMethod yX8_behind, .selects RX8 yX8_behind yX8_behind, .code yX8_behind cX8_behind 3 (some .int), .fieldLink RX8 22 "WhatToReadModel" "gives" "[I", .fieldLink RX8 25 "WhatToReadModel" "skim" "[I", .methodLink RX8 80 yX8_withAll, .instanceMethod yX8_withAll, .selects RX8 yX8_withAll yX8_withAll, .code yX8_withAll cX8_withAll 4 (some .int), .fieldLink RX8 66 "WhatToReadModel" "topics" "I", .fieldLink RX8 13 "WhatToReadModel" "implies" "[I"] ++ wsX80)
def wsX8_reach_r1 : List Cond := [Cond.fieldLink RX8 63 "WhatToReadModel" "thrown" "I", Cond.methodLink RX8 121 yX8_reached, Cond.instanceMethod yX8_reached, Cond.selects RX8 yX8_reached yX8_reached, Cond.initialized RX8, Cond.code yX8_reached cX8_reached 5 (some .int), Cond.fieldLink RX8 84 "WhatToReadModel" "known" "I", Cond.fieldLink RX8 73 "WhatToReadModel" "pieces" "I", Cond.methodLink RX8 99 yX8_canDo, Cond.instanceMethod yX8_canDo, Cond.selects RX8 yX8_canDo yX8_canDo, Cond.code yX8_canDo cX8_canDo 4 (some .boolean), Cond.fieldLink RX8 16 "WhatToReadModel" "needs" "[I", Cond.fieldLink RX8 19 "WhatToReadModel" "either" "[I", Cond.methodLink RX8 103 yX8_behind, Cond.instanceMethod yX8_behind, Cond.selects RX8 yX8_behind yX8_behind, Cond.code yX8_behind cX8_behind 3 (some .int), Cond.fieldLink RX8 22 "WhatToReadModel" "gives" "[I", Cond.fieldLink RX8 25 "WhatToReadModel" "skim" "[I", Cond.methodLink RX8 80 yX8_withAll, Cond.instanceMethod yX8_withAll, Cond.selects RX8 yX8_withAll yX8_withAll, Cond.code yX8_withAll cX8_withAll 4 (some .int)]
def wsX8_reach_r2 : List Cond := [Cond.fieldLink RX8 66 "WhatToReadModel" "topics" "I", Cond.fieldLink RX8 13 "WhatToReadModel" "implies" "[I"]
def wsX8_reach : List Cond := .code yX8_reach cX8_reach 1 (some .int) :: ((wsX8_reach_r1 ++ wsX8_reach_r2) ++ wsX80)
def wsX8_gaps : List Cond := .code yX8_gaps cX8_gaps 4 (some .int) :: ([.fieldLink RX8 63 "WhatToReadModel" "thrown" "I", .fieldLink RX8 84 "WhatToReadModel" "known" "I", .fieldLink RX8 73 "WhatToReadModel" "pieces" "I", .fieldLink RX8 16 "WhatToReadModel" "needs" "[I", .fieldLink RX8 22 "WhatToReadModel" "gives" "[I", .methodLink RX8 80 yX8_withAll, .instanceMethod yX8_withAll, .selects RX8 yX8_withAll yX8_withAll, .initialized RX8, .code yX8_withAll cX8_withAll 4 (some .int), .fieldLink RX8 66 "WhatToReadModel" "topics" "I", .fieldLink RX8 13 "WhatToReadModel" "implies" "[I"] ++ wsX80)
def wsX8_shortens_r1 : List Cond := [Cond.fieldLink RX8 63 "WhatToReadModel" "thrown" "I", Cond.fieldLink RX8 73 "WhatToReadModel" "pieces" "I", Cond.fieldLink RX8 47 "WhatToReadModel" "cost" "[I", Cond.fieldLink RX8 84 "WhatToReadModel" "known" "I", Cond.constant RX8 110 (268435456), Cond.methodLink RX8 69 yX8_in, Cond.static yX8_in, Cond.initialized RX8, Cond.code yX8_in cX8_in 3 (some .boolean), Cond.methodLink RX8 76 yX8_areBits, Cond.instanceMethod yX8_areBits, Cond.selects RX8 yX8_areBits yX8_areBits, Cond.code yX8_areBits cX8_areBits 2 (some .boolean), Cond.fieldLink RX8 66 "WhatToReadModel" "topics" "I", Cond.methodLink RX8 114 yX8_findWays, Cond.instanceMethod yX8_findWays, Cond.selects RX8 yX8_findWays yX8_findWays, Cond.code yX8_findWays cX8_findWays 9 none, Cond.fieldLink RX8 107 "WhatToReadModel" "without" "I", Cond.fieldLink RX8 50 "WhatToReadModel" "steps" "[I", Cond.methodLink RX8 111 yX8_newBehind, Cond.instanceMethod yX8_newBehind, Cond.selects RX8 yX8_newBehind yX8_newBehind, Cond.code yX8_newBehind cX8_newBehind 4 (some .int)]
def wsX8_shortens_r2 : List Cond := [Cond.methodLink RX8 99 yX8_canDo, Cond.instanceMethod yX8_canDo, Cond.selects RX8 yX8_canDo yX8_canDo, Cond.code yX8_canDo cX8_canDo 4 (some .boolean), Cond.fieldLink RX8 16 "WhatToReadModel" "needs" "[I", Cond.fieldLink RX8 19 "WhatToReadModel" "either" "[I", Cond.methodLink RX8 103 yX8_behind, Cond.instanceMethod yX8_behind, Cond.selects RX8 yX8_behind yX8_behind, Cond.code yX8_behind cX8_behind 3 (some .int), Cond.fieldLink RX8 22 "WhatToReadModel" "gives" "[I", Cond.fieldLink RX8 25 "WhatToReadModel" "skim" "[I", Cond.methodLink RX8 80 yX8_withAll, Cond.instanceMethod yX8_withAll, Cond.selects RX8 yX8_withAll yX8_withAll, Cond.code yX8_withAll cX8_withAll 4 (some .int), Cond.fieldLink RX8 13 "WhatToReadModel" "implies" "[I", Cond.methodLink RX8 96 yX8_time, Cond.instanceMethod yX8_time, Cond.selects RX8 yX8_time yX8_time, Cond.code yX8_time cX8_time 3 (some .int), Cond.fieldLink RX8 28 "WhatToReadModel" "pages" "[I", Cond.fieldLink RX8 31 "WhatToReadModel" "pace" "I"]
def wsX8_shortens : List Cond := .code yX8_shortens cX8_shortens 4 (some .int) :: ((wsX8_shortens_r1 ++ wsX8_shortens_r2) ++ wsX80)
def wsX8_week : List Cond := .code yX8_week cX8_week 3 (some .boolean) :: ([.fieldLink RX8 63 "WhatToReadModel" "thrown" "I", .fieldLink RX8 38 "WhatToReadModel" "week" "[I", .methodLink RX8 69 yX8_in, .static yX8_in, .initialized RX8, .code yX8_in cX8_in 3 (some .boolean)] ++ wsX80)
def wsX8_lay : List Cond := .code yX8_lay cX8_lay 5 (some .int) :: ([.fieldLink RX8 63 "WhatToReadModel" "thrown" "I", .fieldLink RX8 90 "WhatToReadModel" "rowMany" "I", .fieldLink RX8 35 "WhatToReadModel" "row" "[I", .fieldLink RX8 38 "WhatToReadModel" "week" "[I", .fieldLink RX8 57 "WhatToReadModel" "place" "[I", .fieldLink RX8 125 "WhatToReadModel" "laidMany" "I", .fieldLink RX8 41 "WhatToReadModel" "laid" "[I", .methodLink RX8 69 yX8_in, .static yX8_in, .initialized RX8, .code yX8_in cX8_in 3 (some .boolean), .methodLink RX8 93 yX8_isStep, .instanceMethod yX8_isStep, .selects RX8 yX8_isStep yX8_isStep, .code yX8_isStep cX8_isStep 2 (some .boolean), .fieldLink RX8 73 "WhatToReadModel" "pieces" "I", .methodLink RX8 96 yX8_time, .instanceMethod yX8_time, .selects RX8 yX8_time yX8_time, .code yX8_time cX8_time 3 (some .int), .fieldLink RX8 28 "WhatToReadModel" "pages" "[I", .fieldLink RX8 31 "WhatToReadModel" "pace" "I"] ++ wsX80)
def wsX8_laid : List Cond := .code yX8_laid cX8_laid 2 (some .int) :: ([.fieldLink RX8 63 "WhatToReadModel" "thrown" "I", .fieldLink RX8 125 "WhatToReadModel" "laidMany" "I", .fieldLink RX8 41 "WhatToReadModel" "laid" "[I", .methodLink RX8 69 yX8_in, .static yX8_in, .initialized RX8, .code yX8_in cX8_in 3 (some .boolean)] ++ wsX80)
def wsX8_isState : List Cond := .code yX8_isState cX8_isState 3 (some .boolean) :: ([.fieldLink RX8 66 "WhatToReadModel" "topics" "I", .fieldLink RX8 44 "WhatToReadModel" "answers" "[I", .methodLink RX8 80 yX8_withAll, .instanceMethod yX8_withAll, .selects RX8 yX8_withAll yX8_withAll, .initialized RX8, .code yX8_withAll cX8_withAll 4 (some .int), .fieldLink RX8 13 "WhatToReadModel" "implies" "[I"] ++ wsX80)
def wsX8_stateMany : List Cond := .code yX8_stateMany cX8_stateMany 3 (some .int) :: ([.fieldLink RX8 66 "WhatToReadModel" "topics" "I", .methodLink RX8 128 yX8_isState, .instanceMethod yX8_isState, .selects RX8 yX8_isState yX8_isState, .initialized RX8, .code yX8_isState cX8_isState 3 (some .boolean), .fieldLink RX8 44 "WhatToReadModel" "answers" "[I", .methodLink RX8 80 yX8_withAll, .instanceMethod yX8_withAll, .selects RX8 yX8_withAll yX8_withAll, .code yX8_withAll cX8_withAll 4 (some .int), .fieldLink RX8 13 "WhatToReadModel" "implies" "[I"] ++ wsX80)
def wsX8_answer : List Cond := .code yX8_answer cX8_answer 4 (some .int) :: ([.fieldLink RX8 63 "WhatToReadModel" "thrown" "I", .fieldLink RX8 66 "WhatToReadModel" "topics" "I", .fieldLink RX8 44 "WhatToReadModel" "answers" "[I", .methodLink RX8 69 yX8_in, .static yX8_in, .initialized RX8, .code yX8_in cX8_in 3 (some .boolean), .methodLink RX8 131 yX8_stateMany, .instanceMethod yX8_stateMany, .selects RX8 yX8_stateMany yX8_stateMany, .code yX8_stateMany cX8_stateMany 3 (some .int), .methodLink RX8 128 yX8_isState, .instanceMethod yX8_isState, .selects RX8 yX8_isState yX8_isState, .code yX8_isState cX8_isState 3 (some .boolean), .methodLink RX8 80 yX8_withAll, .instanceMethod yX8_withAll, .selects RX8 yX8_withAll yX8_withAll, .code yX8_withAll cX8_withAll 4 (some .int), .fieldLink RX8 13 "WhatToReadModel" "implies" "[I"] ++ wsX80)
def wsX8_ask : List Cond := .code yX8_ask cX8_ask 2 (some .int) :: ([.fieldLink RX8 63 "WhatToReadModel" "thrown" "I", .fieldLink RX8 44 "WhatToReadModel" "answers" "[I", .methodLink RX8 131 yX8_stateMany, .instanceMethod yX8_stateMany, .selects RX8 yX8_stateMany yX8_stateMany, .initialized RX8, .code yX8_stateMany cX8_stateMany 3 (some .int), .fieldLink RX8 66 "WhatToReadModel" "topics" "I", .methodLink RX8 128 yX8_isState, .instanceMethod yX8_isState, .selects RX8 yX8_isState yX8_isState, .code yX8_isState cX8_isState 3 (some .boolean), .methodLink RX8 80 yX8_withAll, .instanceMethod yX8_withAll, .selects RX8 yX8_withAll yX8_withAll, .code yX8_withAll cX8_withAll 4 (some .int), .fieldLink RX8 13 "WhatToReadModel" "implies" "[I"] ++ wsX80)
def wsX8_states : List Cond := .code yX8_states cX8_states 1 (some .int) :: ([.fieldLink RX8 63 "WhatToReadModel" "thrown" "I", .methodLink RX8 131 yX8_stateMany, .instanceMethod yX8_stateMany, .selects RX8 yX8_stateMany yX8_stateMany, .initialized RX8, .code yX8_stateMany cX8_stateMany 3 (some .int), .fieldLink RX8 66 "WhatToReadModel" "topics" "I", .methodLink RX8 128 yX8_isState, .instanceMethod yX8_isState, .selects RX8 yX8_isState yX8_isState, .code yX8_isState cX8_isState 3 (some .boolean), .fieldLink RX8 44 "WhatToReadModel" "answers" "[I", .methodLink RX8 80 yX8_withAll, .instanceMethod yX8_withAll, .selects RX8 yX8_withAll yX8_withAll, .code yX8_withAll cX8_withAll 4 (some .int), .fieldLink RX8 13 "WhatToReadModel" "implies" "[I"] ++ wsX80)
def wsX8_question : List Cond := .code yX8_question cX8_question 7 (some .int) :: ([.fieldLink RX8 63 "WhatToReadModel" "thrown" "I", .fieldLink RX8 66 "WhatToReadModel" "topics" "I", .fieldLink RX8 44 "WhatToReadModel" "answers" "[I", .methodLink RX8 131 yX8_stateMany, .instanceMethod yX8_stateMany, .selects RX8 yX8_stateMany yX8_stateMany, .initialized RX8, .code yX8_stateMany cX8_stateMany 3 (some .int), .methodLink RX8 128 yX8_isState, .instanceMethod yX8_isState, .selects RX8 yX8_isState yX8_isState, .code yX8_isState cX8_isState 3 (some .boolean), .methodLink RX8 80 yX8_withAll, .instanceMethod yX8_withAll, .selects RX8 yX8_withAll yX8_withAll, .code yX8_withAll cX8_withAll 4 (some .int), .fieldLink RX8 13 "WhatToReadModel" "implies" "[I"] ++ wsX80)
def wsJ13_bitCount_95d88 : List Cond := .code yJ13_bitCount_95d88 cJ13_bitCount_95d88 2 (some .int) :: ([.constantLong RJ13 314 (6148914691236517205), .constantLong RJ13 316 (3689348814741910323), .constantLong RJ13 318 (1085102592571150095)])
def wsX8_worstOf : List Cond := .code yX8_worstOf cX8_worstOf 12 (some .int) :: ([.fieldLink RX8 66 "WhatToReadModel" "topics" "I", .fieldLink RX8 60 "WhatToReadModel" "row64" "[I", .constantLong RX8 143 (-1), .methodLink RX8 134 yJ13_bitCount_95d88, .static yJ13_bitCount_95d88, .initialized RJ13, .code yJ13_bitCount_95d88 cJ13_bitCount_95d88 2 (some .int), .constantLong RJ13 314 (6148914691236517205), .constantLong RJ13 316 (3689348814741910323), .constantLong RJ13 318 (1085102592571150095), .methodLink RX8 140 yX8_worstOf, .instanceMethod yX8_worstOf, .selects RX8 yX8_worstOf yX8_worstOf, .initialized RX8] ++ wsX80)
def wsX8_worst_r1 : List Cond := [Cond.fieldLink RX8 63 "WhatToReadModel" "thrown" "I", Cond.fieldLink RX8 66 "WhatToReadModel" "topics" "I", Cond.fieldLink RX8 60 "WhatToReadModel" "row64" "[I", Cond.constantLong RX8 143 (-1), Cond.methodLink RX8 131 yX8_stateMany, Cond.instanceMethod yX8_stateMany, Cond.selects RX8 yX8_stateMany yX8_stateMany, Cond.initialized RX8, Cond.code yX8_stateMany cX8_stateMany 3 (some .int), Cond.methodLink RX8 128 yX8_isState, Cond.instanceMethod yX8_isState, Cond.selects RX8 yX8_isState yX8_isState, Cond.code yX8_isState cX8_isState 3 (some .boolean), Cond.fieldLink RX8 44 "WhatToReadModel" "answers" "[I", Cond.methodLink RX8 80 yX8_withAll, Cond.instanceMethod yX8_withAll, Cond.selects RX8 yX8_withAll yX8_withAll, Cond.code yX8_withAll cX8_withAll 4 (some .int), Cond.fieldLink RX8 13 "WhatToReadModel" "implies" "[I", Cond.methodLink RX8 140 yX8_worstOf, Cond.instanceMethod yX8_worstOf, Cond.selects RX8 yX8_worstOf yX8_worstOf, Cond.code yX8_worstOf cX8_worstOf 12 (some .int), Cond.methodLink RX8 134 yJ13_bitCount_95d88]
def wsX8_worst_r2 : List Cond := [Cond.static yJ13_bitCount_95d88, Cond.initialized RJ13, Cond.code yJ13_bitCount_95d88 cJ13_bitCount_95d88 2 (some .int), Cond.constantLong RJ13 314 (6148914691236517205), Cond.constantLong RJ13 316 (3689348814741910323), Cond.constantLong RJ13 318 (1085102592571150095)]
def wsX8_worst : List Cond := .code yX8_worst cX8_worst 4 (some .int) :: ((wsX8_worst_r1 ++ wsX8_worst_r2) ++ wsX80)
def wsX8_settle : List Cond := .code yX8_settle cX8_settle 3 (some .int) :: ([.fieldLink RX8 63 "WhatToReadModel" "thrown" "I", .fieldLink RX8 66 "WhatToReadModel" "topics" "I", .fieldLink RX8 84 "WhatToReadModel" "known" "I", .methodLink RX8 128 yX8_isState, .instanceMethod yX8_isState, .selects RX8 yX8_isState yX8_isState, .initialized RX8, .code yX8_isState cX8_isState 3 (some .boolean), .fieldLink RX8 44 "WhatToReadModel" "answers" "[I", .methodLink RX8 80 yX8_withAll, .instanceMethod yX8_withAll, .selects RX8 yX8_withAll yX8_withAll, .code yX8_withAll cX8_withAll 4 (some .int), .fieldLink RX8 13 "WhatToReadModel" "implies" "[I"] ++ wsX80)
def wsX8_state : List Cond := .code yX8_state cX8_state 4 (some .int) :: ([.fieldLink RX8 63 "WhatToReadModel" "thrown" "I", .fieldLink RX8 66 "WhatToReadModel" "topics" "I", .methodLink RX8 128 yX8_isState, .instanceMethod yX8_isState, .selects RX8 yX8_isState yX8_isState, .initialized RX8, .code yX8_isState cX8_isState 3 (some .boolean), .fieldLink RX8 44 "WhatToReadModel" "answers" "[I", .methodLink RX8 80 yX8_withAll, .instanceMethod yX8_withAll, .selects RX8 yX8_withAll yX8_withAll, .code yX8_withAll cX8_withAll 4 (some .int), .fieldLink RX8 13 "WhatToReadModel" "implies" "[I"] ++ wsX80)
def wsJ9_max_7cf53 : List Cond := .code yJ9_max_7cf53 cJ9_max_7cf53 2 (some .int) :: ([])
def wsJ9_min_7cf53 : List Cond := .code yJ9_min_7cf53 cJ9_min_7cf53 2 (some .int) :: ([])
def wsL_state : List Cond := .codeWith yL_state cL_state 4 (some .int) [(0, 9, 12, 13)] :: ([.classLink RL 13 "java/util/NoSuchElementException", .methodLink RL 7 yX7_state, .instanceMethod yX7_state, .selects RX7 yX7_state yX7_state, .initialized RX7, .code yX7_state cX7_state 3 (some .int), .classLink RX7 179 "java/util/NoSuchElementException", .initialized "java/util/NoSuchElementException", .fieldLink RX7 47 "WhatToRead" "asking" "LWhatToRead$Asking;", .methodLink RX7 178 yX0_at, .instanceMethod yX0_at, .selects RX0 yX0_at yX0_at, .initialized RX0, .code yX0_at cX0_at 2 (some .int), .fieldLink RX0 18 "WhatToRead$Asking" "count" "I", .fieldLink RX0 9 "WhatToRead$Asking" "sets" "[I"] ++ wsX70 ++ wsX00 ++ (vx_atS RX7 183 "java/util/NoSuchElementException" ["java/lang/RuntimeException", "java/lang/Exception"]).filter goodWord)
def wsL_law0_r1 : List Cond := [Cond.classLink RL 8 RX7, Cond.instantiable RX7 7, Cond.initialized RX7, Cond.classLink RL 16 RX8, Cond.instantiable RX8 24, Cond.initialized RX8, Cond.arrayClass .long, Cond.methodLink RL 15 yX7_init, Cond.instanceMethod yX7_init, Cond.code yX7_init cX7_init 1 none, Cond.methodLink RX7 3 objectInit, Cond.instanceMethod objectInit, Cond.code objectInit ⟨#[0xb1]⟩ 1 none, Cond.classLink RX7 9 RX4, Cond.instantiable RX4 3, Cond.initialized RX4, Cond.fieldLink RX7 12 "WhatToRead" "topics" "LWhatToRead$Topics;", Cond.classLink RX7 16 RX3, Cond.instantiable RX3 2, Cond.initialized RX3, Cond.fieldLink RX7 19 "WhatToRead" "shelf" "LWhatToRead$Shelf;", Cond.classLink RX7 23 RX5, Cond.instantiable RX5 3, Cond.initialized RX5]
def wsL_law0_r2 : List Cond := [Cond.fieldLink RX7 26 "WhatToRead" "ways" "LWhatToRead$Ways;", Cond.classLink RX7 30 RX2, Cond.instantiable RX2 2, Cond.initialized RX2, Cond.fieldLink RX7 33 "WhatToRead" "row" "LWhatToRead$Row;", Cond.classLink RX7 37 RX6, Cond.instantiable RX6 3, Cond.initialized RX6, Cond.fieldLink RX7 40 "WhatToRead" "weeks" "LWhatToRead$Weeks;", Cond.classLink RX7 44 RX0, Cond.instantiable RX0 4, Cond.initialized RX0, Cond.fieldLink RX7 47 "WhatToRead" "asking" "LWhatToRead$Asking;", Cond.fieldLink RX7 51 "WhatToRead" "known" "I", Cond.methodLink RX7 11 yX4_init, Cond.instanceMethod yX4_init, Cond.code yX4_init cX4_init 1 none, Cond.methodLink RX4 3 objectInit, Cond.arrayClass .int, Cond.fieldLink RX4 9 "WhatToRead$Topics" "worths" "[I", Cond.fieldLink RX4 15 "WhatToRead$Topics" "closures" "[I", Cond.fieldLink RX4 18 "WhatToRead$Topics" "count" "I", Cond.methodLink RX7 18 yX3_init, Cond.instanceMethod yX3_init]
def wsL_law0_r3 : List Cond := [Cond.code yX3_init cX3_init 1 none, Cond.methodLink RX3 3 objectInit, Cond.classLink RX3 9 RJx4a65c, Cond.instantiable RJx4a65c 3, Cond.initialized RJx4a65c, Cond.fieldLink RX3 12 "WhatToRead$Shelf" "pieces" "Ljava/util/List;", Cond.fieldLink RX3 18 "WhatToRead$Shelf" "pace" "I", Cond.methodLink RX3 11 yJx4a65c_init_da8c8, Cond.instanceMethod yJx4a65c_init_da8c8, Cond.code yJx4a65c_init_da8c8 cJx4a65c_init_da8c8 1 none, Cond.fieldLink RJx4a65c 39 "java/util/ArrayList" "DEFAULTCAPACITY_EMPTY_ELEMENTDATA" "[Ljava/lang/Object;", Cond.fieldLink RJx4a65c 9 "java/util/ArrayList" "elementData" "[Ljava/lang/Object;", Cond.methodLink RJx4a65c 1 yJxc12de_init_da8c8, Cond.instanceMethod yJxc12de_init_da8c8, Cond.initialized RJxc12de, Cond.code yJxc12de_init_da8c8 cJxc12de_init_da8c8 1 none, Cond.fieldLink RJxc12de 7 "java/util/AbstractList" "modCount" "I", Cond.methodLink RJxc12de 1 yJxa1e45_init_da8c8, Cond.instanceMethod yJxa1e45_init_da8c8, Cond.initialized RJxa1e45, Cond.code yJxa1e45_init_da8c8 cJxa1e45_init_da8c8 1 none, Cond.methodLink RJxa1e45 1 objectInit, Cond.methodLink RX7 25 yX5_init, Cond.instanceMethod yX5_init]
def wsL_law0_r4 : List Cond := [Cond.code yX5_init cX5_init 1 none, Cond.methodLink RX5 5 objectInit, Cond.fieldLink RX5 11 "WhatToRead$Ways" "costs" "[I", Cond.fieldLink RX5 15 "WhatToRead$Ways" "rows" "[J", Cond.fieldLink RX5 19 "WhatToRead$Ways" "sets" "I", Cond.methodLink RX7 32 yX2_init, Cond.instanceMethod yX2_init, Cond.code yX2_init cX2_init 1 none, Cond.methodLink RX2 3 objectInit, Cond.fieldLink RX2 9 "WhatToRead$Row" "items" "[I", Cond.fieldLink RX2 15 "WhatToRead$Row" "count" "I", Cond.methodLink RX7 39 yX6_init, Cond.instanceMethod yX6_init, Cond.code yX6_init cX6_init 2 none, Cond.methodLink RX6 3 objectInit, Cond.fieldLink RX6 9 "WhatToRead$Weeks" "minutes" "[I", Cond.classLink RX6 15 RX2, Cond.fieldLink RX6 18 "WhatToRead$Weeks" "laidWeeks" "LWhatToRead$Row;", Cond.fieldLink RX6 22 "WhatToRead$Weeks" "draft" "LWhatToRead$Row;", Cond.methodLink RX6 17 yX2_init, Cond.methodLink RX7 46 yX0_init, Cond.instanceMethod yX0_init, Cond.code yX0_init cX0_init 1 none, Cond.methodLink RX0 3 objectInit]
def wsL_law0_r5 : List Cond := [Cond.fieldLink RX0 9 "WhatToRead$Asking" "sets" "[I", Cond.fieldLink RX0 15 "WhatToRead$Asking" "scratch" "[I", Cond.fieldLink RX0 18 "WhatToRead$Asking" "count" "I", Cond.fieldLink RX0 22 "WhatToRead$Asking" "answered" "I", Cond.methodLink RL 18 yX8_init, Cond.instanceMethod yX8_init, Cond.code yX8_init cX8_init 2 none, Cond.methodLink RX8 3 objectInit, Cond.fieldLink RX8 9 "WhatToReadModel" "worth" "[I", Cond.fieldLink RX8 13 "WhatToReadModel" "implies" "[I", Cond.fieldLink RX8 16 "WhatToReadModel" "needs" "[I", Cond.fieldLink RX8 19 "WhatToReadModel" "either" "[I", Cond.fieldLink RX8 22 "WhatToReadModel" "gives" "[I", Cond.fieldLink RX8 25 "WhatToReadModel" "skim" "[I", Cond.fieldLink RX8 28 "WhatToReadModel" "pages" "[I", Cond.fieldLink RX8 31 "WhatToReadModel" "pace" "I", Cond.fieldLink RX8 35 "WhatToReadModel" "row" "[I", Cond.fieldLink RX8 38 "WhatToReadModel" "week" "[I", Cond.fieldLink RX8 41 "WhatToReadModel" "laid" "[I", Cond.fieldLink RX8 44 "WhatToReadModel" "answers" "[I", Cond.fieldLink RX8 47 "WhatToReadModel" "cost" "[I", Cond.fieldLink RX8 50 "WhatToReadModel" "steps" "[I", Cond.arrayClass .boolean, Cond.fieldLink RX8 53 "WhatToReadModel" "isGood" "[Z"]
def wsL_law0_r6 : List Cond := [Cond.fieldLink RX8 57 "WhatToReadModel" "place" "[I", Cond.fieldLink RX8 60 "WhatToReadModel" "row64" "[I", Cond.methodLink RL 19 yX7_topic, Cond.instanceMethod yX7_topic, Cond.selects RX7 yX7_topic yX7_topic, Cond.code yX7_topic cX7_topic 4 (some .int), Cond.methodLink RX7 55 yX7_isWithin, Cond.static yX7_isWithin, Cond.code yX7_isWithin cX7_isWithin 3 (some .boolean), Cond.methodLink RX7 59 yX4_haveAll, Cond.instanceMethod yX4_haveAll, Cond.selects RX4 yX4_haveAll yX4_haveAll, Cond.code yX4_haveAll cX4_haveAll 2 (some .boolean), Cond.methodLink RX7 63 yX4_add, Cond.instanceMethod yX4_add, Cond.selects RX4 yX4_add yX4_add, Cond.code yX4_add cX4_add 4 (some .int), Cond.methodLink RX4 22 yX4_closure, Cond.instanceMethod yX4_closure, Cond.selects RX4 yX4_closure yX4_closure, Cond.code yX4_closure cX4_closure 4 (some .int), Cond.methodLink RX7 67 yX4_impliedBy, Cond.instanceMethod yX4_impliedBy, Cond.selects RX4 yX4_impliedBy yX4_impliedBy]
def wsL_law0_r7 : List Cond := [Cond.code yX4_impliedBy cX4_impliedBy 3 (some .int), Cond.methodLink RX7 71 yX0_addTopic, Cond.instanceMethod yX0_addTopic, Cond.selects RX0 yX0_addTopic yX0_addTopic, Cond.code yX0_addTopic cX0_addTopic 5 none, Cond.methodLink RL 23 yX8_topic, Cond.instanceMethod yX8_topic, Cond.selects RX8 yX8_topic yX8_topic, Cond.code yX8_topic cX8_topic 3 (some .int), Cond.fieldLink RX8 63 "WhatToReadModel" "thrown" "I", Cond.fieldLink RX8 66 "WhatToReadModel" "topics" "I", Cond.methodLink RX8 69 yX8_in, Cond.static yX8_in, Cond.code yX8_in cX8_in 3 (some .boolean), Cond.methodLink RX8 76 yX8_areBits, Cond.instanceMethod yX8_areBits, Cond.selects RX8 yX8_areBits yX8_areBits, Cond.code yX8_areBits cX8_areBits 2 (some .boolean), Cond.methodLink RX8 80 yX8_withAll, Cond.instanceMethod yX8_withAll, Cond.selects RX8 yX8_withAll yX8_withAll, Cond.code yX8_withAll cX8_withAll 4 (some .int), Cond.methodLink RL 24 yX7_piece, Cond.instanceMethod yX7_piece]
def wsL_law0_r8 : List Cond := [Cond.selects RX7 yX7_piece yX7_piece, Cond.code yX7_piece cX7_piece 7 (some .int), Cond.classLink RX7 78 RX1, Cond.instantiable RX1 5, Cond.initialized RX1, Cond.methodLink RX7 75 yX4_closure, Cond.methodLink RX7 80 yX1_init, Cond.instanceMethod yX1_init, Cond.code yX1_init cX1_init 6 none, Cond.methodLink RX1 1 objectInit, Cond.fieldLink RX1 7 "WhatToRead$Piece" "needs" "I", Cond.fieldLink RX1 13 "WhatToRead$Piece" "either" "I", Cond.fieldLink RX1 16 "WhatToRead$Piece" "given" "I", Cond.fieldLink RX1 19 "WhatToRead$Piece" "skimmed" "I", Cond.fieldLink RX1 22 "WhatToRead$Piece" "pages" "I", Cond.methodLink RX7 83 yX3_add, Cond.instanceMethod yX3_add, Cond.selects RX3 yX3_add yX3_add, Cond.code yX3_add cX3_add 2 (some .int), Cond.methodLink RX3 22 ⟨"java/util/List", "size", "()I"⟩, Cond.selects RJx4a65c ⟨"java/util/List", "size", "()I"⟩ yJx4a65c_size_8abf5, Cond.instanceMethod yJx4a65c_size_8abf5, Cond.code yJx4a65c_size_8abf5 cJx4a65c_size_8abf5 1 (some .int), Cond.fieldLink RJx4a65c 48 "java/util/ArrayList" "size" "I"]
def wsL_law0_r9 : List Cond := [Cond.methodLink RX3 28 ⟨"java/util/List", "add", "(Ljava/lang/Object;)Z"⟩, Cond.selects RJx4a65c ⟨"java/util/List", "add", "(Ljava/lang/Object;)Z"⟩ yJx4a65c_add_9ea2d, Cond.instanceMethod yJx4a65c_add_9ea2d, Cond.code yJx4a65c_add_9ea2d cJx4a65c_add_9ea2d 2 (some .boolean), Cond.fieldLink RJx4a65c 63 "java/util/ArrayList" "modCount" "I", Cond.sameField "java/util/ArrayList" "java/util/AbstractList" "modCount" "I", Cond.methodLink RJx4a65c 131 yJx4a65c_add_72be8, Cond.instanceMethod yJx4a65c_add_72be8, Cond.selects RJx4a65c yJx4a65c_add_72be8 yJx4a65c_add_72be8, Cond.code yJx4a65c_add_72be8 cJx4a65c_add_72be8 4 none, Cond.methodLink RJx4a65c 129 yJx4a65c_grow_d5877, Cond.instanceMethod yJx4a65c_grow_d5877, Cond.selects RJx4a65c yJx4a65c_grow_d5877 yJx4a65c_grow_d5877, Cond.code yJx4a65c_grow_d5877 cJx4a65c_grow_d5877 1 (some (.array (.object "java/lang/Object"))), Cond.methodLink RJx4a65c 69 yJx4a65c_grow_92f84, Cond.instanceMethod yJx4a65c_grow_92f84, Cond.selects RJx4a65c yJx4a65c_grow_92f84 yJx4a65c_grow_92f84, Cond.code yJx4a65c_grow_92f84 cJx4a65c_grow_92f84 4 (some (.array (.object "java/lang/Object"))), Cond.methodLink RJx4a65c 79 Lib.Math.max.name, Cond.static Lib.Math.max.name, Cond.initialized "java/lang/Math", Cond.code Lib.Math.max.name Lib.Math.max.code 2 (some .int), Cond.classLink RJx4a65c 7 "java/lang/Object", Cond.methodLink RJx4a65c 73 yJ8_newLength_cabcc]
def wsL_law0_r10 : List Cond := [Cond.static yJ8_newLength_cabcc, Cond.initialized RJ8, Cond.code yJ8_newLength_cabcc cJ8_newLength_cabcc 4 (some .int), Cond.methodLink RJ8 194 Lib.Math.max.name, Cond.constant RJ8 200 (2147483639), Cond.methodLink RJ8 201 yJ8_hugeLength_7cf53, Cond.static yJ8_hugeLength_7cf53, Cond.code yJ8_hugeLength_7cf53 cJ8_hugeLength_7cf53 3 (some .int), Cond.methodLink RJx4a65c 66 yJ7_copyOf_1904c, Cond.static yJ7_copyOf_1904c, Cond.initialized RJ7, Cond.code yJ7_copyOf_1904c cJ7_copyOf_1904c 2 (some (.array (.object "java/lang/Object"))), Cond.methodLink RJ7 86 ⟨"java/lang/Object", "getClass", "()Ljava/lang/Class;"⟩, Cond.selects "[Ljava/lang/Object;" ⟨"java/lang/Object", "getClass", "()Ljava/lang/Class;"⟩ ⟨"java/lang/Object", "getClass", "()Ljava/lang/Class;"⟩, Cond.instanceMethod ⟨"java/lang/Object", "getClass", "()Ljava/lang/Class;"⟩, Cond.native ⟨"java/lang/Object", "getClass", "()Ljava/lang/Class;"⟩, Cond.methodLink RJ7 300 yJ7_copyOf_6403c, Cond.static yJ7_copyOf_6403c, Cond.code yJ7_copyOf_6403c cJ7_copyOf_6403c 4 (some (.array (.object "java/lang/Object"))), Cond.classLink RJ7 110 "[Ljava/lang/Object;", Cond.classLink RJ7 2 "java/lang/Object", Cond.methodLink RJ7 304 Lib.Math.min.name, Cond.static Lib.Math.min.name, Cond.code Lib.Math.min.name Lib.Math.min.code 2 (some .int)]
def wsL_law0_r11 : List Cond := [Cond.methodLink RJ7 150 arraycopyName, Cond.native arraycopyName, Cond.static arraycopyName, Cond.initialized "java/lang/System", Cond.methodLink RL 28 yX8_piece, Cond.instanceMethod yX8_piece, Cond.selects RX8 yX8_piece yX8_piece, Cond.code yX8_piece cX8_piece 6 (some .int), Cond.fieldLink RX8 73 "WhatToReadModel" "pieces" "I", Cond.methodLink RL 29 yX7_drop, Cond.instanceMethod yX7_drop, Cond.selects RX7 yX7_drop yX7_drop, Cond.code yX7_drop cX7_drop 1 (some .int), Cond.methodLink RX7 86 yX3_removeLast, Cond.instanceMethod yX3_removeLast, Cond.selects RX3 yX3_removeLast yX3_removeLast, Cond.code yX3_removeLast cX3_removeLast 1 (some .int), Cond.methodLink RX3 32 ⟨"java/util/List", "isEmpty", "()Z"⟩, Cond.selects RJx4a65c ⟨"java/util/List", "isEmpty", "()Z"⟩ yJx4a65c_isEmpty_aae02, Cond.instanceMethod yJx4a65c_isEmpty_aae02, Cond.code yJx4a65c_isEmpty_aae02 cJx4a65c_isEmpty_aae02 1 (some .boolean), Cond.methodLink RX3 36 ⟨"java/util/List", "remove", "(I)Ljava/lang/Object;"⟩, Cond.selects RJx4a65c ⟨"java/util/List", "remove", "(I)Ljava/lang/Object;"⟩ yJx4a65c_remove_915e3, Cond.instanceMethod yJx4a65c_remove_915e3]
def wsL_law0_r12 : List Cond := [Cond.code yJx4a65c_remove_915e3 cJx4a65c_remove_915e3 4 (some (.object "java/lang/Object")), Cond.methodLink RJx4a65c 118 yJ15_checkIndex_7cf53, Cond.static yJ15_checkIndex_7cf53, Cond.initialized RJ15, Cond.code yJ15_checkIndex_7cf53 cJ15_checkIndex_7cf53 2 (some .int), Cond.methodLink RJ15 105 yJ3_checkIndex_8e157, Cond.static yJ3_checkIndex_8e157, Cond.initialized RJ3, Cond.code yJ3_checkIndex_8e157 cJ3_checkIndex_8e157 3 (some .int), Cond.methodLink RJx4a65c 144 yJx4a65c_fastRemove_b59b0, Cond.instanceMethod yJx4a65c_fastRemove_b59b0, Cond.selects RJx4a65c yJx4a65c_fastRemove_b59b0 yJx4a65c_fastRemove_b59b0, Cond.code yJx4a65c_fastRemove_b59b0 cJx4a65c_fastRemove_b59b0 4 none, Cond.methodLink RJx4a65c 112 arraycopyName, Cond.methodLink RL 33 yX8_drop, Cond.instanceMethod yX8_drop, Cond.selects RX8 yX8_drop yX8_drop, Cond.code yX8_drop cX8_drop 1 (some .int), Cond.methodLink RL 34 yX7_pace, Cond.instanceMethod yX7_pace, Cond.selects RX7 yX7_pace yX7_pace, Cond.code yX7_pace cX7_pace 2 (some .int), Cond.methodLink RX7 90 yX3_changePace, Cond.instanceMethod yX3_changePace]
def wsL_law0_r13 : List Cond := [Cond.selects RX3 yX3_changePace yX3_changePace, Cond.code yX3_changePace cX3_changePace 3 (some .int), Cond.methodLink RL 37 yX8_pace, Cond.instanceMethod yX8_pace, Cond.selects RX8 yX8_pace yX8_pace, Cond.code yX8_pace cX8_pace 3 (some .int), Cond.methodLink RL 38 yX7_know, Cond.instanceMethod yX7_know, Cond.selects RX7 yX7_know yX7_know, Cond.code yX7_know cX7_know 2 (some .int), Cond.methodLink RL 41 yX8_know, Cond.instanceMethod yX8_know, Cond.selects RX8 yX8_know yX8_know, Cond.code yX8_know cX8_know 2 (some .int), Cond.fieldLink RX8 84 "WhatToReadModel" "known" "I", Cond.methodLink RL 42 yX7_count, Cond.instanceMethod yX7_count, Cond.selects RX7 yX7_count yX7_count, Cond.code yX7_count cX7_count 2 (some .int), Cond.methodLink RX7 93 yX4_size, Cond.instanceMethod yX4_size, Cond.selects RX4 yX4_size yX4_size, Cond.code yX4_size cX4_size 1 (some .int), Cond.methodLink RX7 96 yX3_size]
def wsL_law0_r14 : List Cond := [Cond.instanceMethod yX3_size, Cond.selects RX3 yX3_size yX3_size, Cond.code yX3_size cX3_size 1 (some .int), Cond.methodLink RX7 97 yX3_currentPace, Cond.instanceMethod yX3_currentPace, Cond.selects RX3 yX3_currentPace yX3_currentPace, Cond.code yX3_currentPace cX3_currentPace 1 (some .int), Cond.methodLink RX7 100 yX4_worthOf, Cond.instanceMethod yX4_worthOf, Cond.selects RX4 yX4_worthOf yX4_worthOf, Cond.code yX4_worthOf cX4_worthOf 4 (some .int), Cond.methodLink RX7 103 yX2_size, Cond.instanceMethod yX2_size, Cond.selects RX2 yX2_size yX2_size, Cond.code yX2_size cX2_size 1 (some .int), Cond.methodLink RL 45 yX8_count, Cond.instanceMethod yX8_count, Cond.selects RX8 yX8_count yX8_count, Cond.code yX8_count cX8_count 2 (some .int), Cond.fieldLink RX8 90 "WhatToReadModel" "rowMany" "I", Cond.methodLink RX8 87 yX8_worthOf, Cond.instanceMethod yX8_worthOf, Cond.selects RX8 yX8_worthOf yX8_worthOf, Cond.code yX8_worthOf cX8_worthOf 4 (some .int)]
def wsL_law0_r15 : List Cond := [Cond.methodLink RL 46 yX7_with, Cond.instanceMethod yX7_with, Cond.selects RX7 yX7_with yX7_with, Cond.code yX7_with cX7_with 2 (some .int), Cond.methodLink RL 49 yX8_with, Cond.instanceMethod yX8_with, Cond.selects RX8 yX8_with yX8_with, Cond.code yX8_with cX8_with 2 (some .int), Cond.methodLink RL 50 yX7_minutes, Cond.instanceMethod yX7_minutes, Cond.selects RX7 yX7_minutes yX7_minutes, Cond.code yX7_minutes cX7_minutes 2 (some .int), Cond.methodLink RX7 104 yX3_minutesOf, Cond.instanceMethod yX3_minutesOf, Cond.selects RX3 yX3_minutesOf yX3_minutesOf, Cond.code yX3_minutesOf cX3_minutesOf 3 (some .int), Cond.methodLink RX3 45 yX3_pieceOf, Cond.instanceMethod yX3_pieceOf, Cond.selects RX3 yX3_pieceOf yX3_pieceOf, Cond.code yX3_pieceOf cX3_pieceOf 3 (some (.object "WhatToRead$Piece")), Cond.classLink RX3 43 "WhatToRead$Piece", Cond.methodLink RX3 40 ⟨"java/util/List", "get", "(I)Ljava/lang/Object;"⟩, Cond.selects RJx4a65c ⟨"java/util/List", "get", "(I)Ljava/lang/Object;"⟩ yJx4a65c_get_915e3, Cond.instanceMethod yJx4a65c_get_915e3]
def wsL_law0_r16 : List Cond := [Cond.code yJx4a65c_get_915e3 cJx4a65c_get_915e3 2 (some (.object "java/lang/Object")), Cond.methodLink RJx4a65c 123 yJx4a65c_elementData_915e3, Cond.instanceMethod yJx4a65c_elementData_915e3, Cond.selects RJx4a65c yJx4a65c_elementData_915e3 yJx4a65c_elementData_915e3, Cond.code yJx4a65c_elementData_915e3 cJx4a65c_elementData_915e3 2 (some (.object "java/lang/Object")), Cond.static yX7_isSkimmed, Cond.code yX7_isSkimmed cX7_isSkimmed 1 (some .boolean), Cond.methodLink RX3 53 yX1_minutesAt, Cond.instanceMethod yX1_minutesAt, Cond.selects RX1 yX1_minutesAt yX1_minutesAt, Cond.code yX1_minutesAt cX1_minutesAt 4 (some .int), Cond.methodLink RL 53 yX8_minutes, Cond.instanceMethod yX8_minutes, Cond.selects RX8 yX8_minutes yX8_minutes, Cond.code yX8_minutes cX8_minutes 2 (some .int), Cond.methodLink RX8 93 yX8_isStep, Cond.instanceMethod yX8_isStep, Cond.selects RX8 yX8_isStep yX8_isStep, Cond.code yX8_isStep cX8_isStep 2 (some .boolean), Cond.methodLink RX8 96 yX8_time, Cond.instanceMethod yX8_time, Cond.selects RX8 yX8_time yX8_time, Cond.code yX8_time cX8_time 3 (some .int), Cond.methodLink RL 54 yX7_can]
def wsL_law0_r17 : List Cond := [Cond.instanceMethod yX7_can, Cond.selects RX7 yX7_can yX7_can, Cond.code yX7_can cX7_can 3 (some .int), Cond.methodLink RX7 107 yX3_pieceOf, Cond.methodLink RX7 111 yX1_isOpenTo, Cond.instanceMethod yX1_isOpenTo, Cond.selects RX1 yX1_isOpenTo yX1_isOpenTo, Cond.code yX1_isOpenTo cX1_isOpenTo 2 (some .boolean), Cond.methodLink RL 57 yX8_can, Cond.instanceMethod yX8_can, Cond.selects RX8 yX8_can yX8_can, Cond.code yX8_can cX8_can 2 (some .int), Cond.methodLink RX8 99 yX8_canDo, Cond.instanceMethod yX8_canDo, Cond.selects RX8 yX8_canDo yX8_canDo, Cond.code yX8_canDo cX8_canDo 4 (some .boolean), Cond.methodLink RL 58 yX7_done, Cond.instanceMethod yX7_done, Cond.selects RX7 yX7_done yX7_done, Cond.code yX7_done cX7_done 3 (some .int), Cond.methodLink RX7 114 yX7_isSkimmed, Cond.methodLink RX7 117 yX1_brings, Cond.instanceMethod yX1_brings, Cond.selects RX1 yX1_brings yX1_brings]
def wsL_law0_r18 : List Cond := [Cond.code yX1_brings cX1_brings 2 (some .int), Cond.methodLink RL 61 yX8_done, Cond.instanceMethod yX8_done, Cond.selects RX8 yX8_done yX8_done, Cond.code yX8_done cX8_done 2 (some .int), Cond.methodLink RX8 103 yX8_behind, Cond.instanceMethod yX8_behind, Cond.selects RX8 yX8_behind yX8_behind, Cond.code yX8_behind cX8_behind 3 (some .int), Cond.methodLink RL 62 yX7_way, Cond.instanceMethod yX7_way, Cond.selects RX7 yX7_way yX7_way, Cond.code yX7_way cX7_way 3 (some .int), Cond.methodLink RX7 121 yX7_endOfBestWay, Cond.instanceMethod yX7_endOfBestWay, Cond.selects RX7 yX7_endOfBestWay yX7_endOfBestWay, Cond.code yX7_endOfBestWay cX7_endOfBestWay 3 (some .int), Cond.methodLink RX7 134 yX5_explore, Cond.instanceMethod yX5_explore, Cond.selects RX5 yX5_explore yX5_explore, Cond.code yX5_explore cX5_explore 6 none, Cond.methodLink RX5 23 Lib.Math.min.name, Cond.methodLink RX5 29 yX5_goOnFrom, Cond.instanceMethod yX5_goOnFrom]
def wsL_law0_r19 : List Cond := [Cond.selects RX5 yX5_goOnFrom yX5_goOnFrom, Cond.code yX5_goOnFrom cX5_goOnFrom 6 none, Cond.methodLink RX5 33 yX3_size, Cond.methodLink RX5 39 yX3_pieceOf, Cond.methodLink RX5 43 yX1_isOpenTo, Cond.methodLink RX5 52 yX1_brings, Cond.methodLink RX5 56 yX3_minutesOf, Cond.methodLink RX5 60 yX5_offer, Cond.instanceMethod yX5_offer, Cond.selects RX5 yX5_offer yX5_offer, Cond.code yX5_offer cX5_offer 8 none, Cond.methodLink RX5 64 yX5_isBefore, Cond.instanceMethod yX5_isBefore, Cond.selects RX5 yX5_isBefore yX5_isBefore, Cond.code yX5_isBefore cX5_isBefore 5 (some .boolean), Cond.methodLink RX7 186 yX5_endWith, Cond.instanceMethod yX5_endWith, Cond.selects RX5 yX5_endWith yX5_endWith, Cond.code yX5_endWith cX5_endWith 4 (some .int), Cond.methodLink RX5 68 yX5_isBetter, Cond.instanceMethod yX5_isBetter, Cond.selects RX5 yX5_isBetter yX5_isBetter, Cond.code yX5_isBetter cX5_isBetter 3 (some .boolean), Cond.methodLink RX7 124 yX5_copyRow]
def wsL_law0_r20 : List Cond := [Cond.instanceMethod yX5_copyRow, Cond.selects RX5 yX5_copyRow yX5_copyRow, Cond.code yX5_copyRow cX5_copyRow 4 none, Cond.methodLink RX5 80 yX2_clear, Cond.instanceMethod yX2_clear, Cond.selects RX2 yX2_clear yX2_clear, Cond.code yX2_clear cX2_clear 1 none, Cond.methodLink RX5 85 yX2_add, Cond.instanceMethod yX2_add, Cond.selects RX2 yX2_add yX2_add, Cond.code yX2_add cX2_add 2 none, Cond.methodLink RX7 128 yX5_minutesTo, Cond.instanceMethod yX5_minutesTo, Cond.selects RX5 yX5_minutesTo yX5_minutesTo, Cond.code yX5_minutesTo cX5_minutesTo 2 (some .int), Cond.methodLink RL 65 yX8_way, Cond.instanceMethod yX8_way, Cond.selects RX8 yX8_way yX8_way, Cond.code yX8_way cX8_way 6 (some .int), Cond.constant RX8 110 (268435456), Cond.methodLink RX8 114 yX8_findWays, Cond.instanceMethod yX8_findWays, Cond.selects RX8 yX8_findWays yX8_findWays, Cond.code yX8_findWays cX8_findWays 9 none]
def wsL_law0_r21 : List Cond := [Cond.fieldLink RX8 107 "WhatToReadModel" "without" "I", Cond.methodLink RX8 111 yX8_newBehind, Cond.instanceMethod yX8_newBehind, Cond.selects RX8 yX8_newBehind yX8_newBehind, Cond.code yX8_newBehind cX8_newBehind 4 (some .int), Cond.methodLink RL 66 yX7_step, Cond.instanceMethod yX7_step, Cond.selects RX7 yX7_step yX7_step, Cond.code yX7_step cX7_step 2 (some .int), Cond.methodLink RX7 131 yX2_at, Cond.instanceMethod yX2_at, Cond.selects RX2 yX2_at yX2_at, Cond.code yX2_at cX2_at 2 (some .int), Cond.methodLink RL 69 yX8_step, Cond.instanceMethod yX8_step, Cond.selects RX8 yX8_step yX8_step, Cond.code yX8_step cX8_step 2 (some .int), Cond.methodLink RL 70 yX7_most, Cond.instanceMethod yX7_most, Cond.selects RX7 yX7_most yX7_most, Cond.code yX7_most cX7_most 3 (some .int), Cond.methodLink RX7 138 yX5_richestEnd, Cond.instanceMethod yX5_richestEnd, Cond.selects RX5 yX5_richestEnd yX5_richestEnd]
def wsL_law0_r22 : List Cond := [Cond.code yX5_richestEnd cX5_richestEnd 7 (some .int), Cond.methodLink RX5 72 yX5_minutesTo, Cond.methodLink RX5 75 yX4_worthOf, Cond.methodLink RL 73 yX8_most, Cond.instanceMethod yX8_most, Cond.selects RX8 yX8_most yX8_most, Cond.code yX8_most cX8_most 9 (some .int), Cond.methodLink RX8 118 yX8_isTight, Cond.instanceMethod yX8_isTight, Cond.selects RX8 yX8_isTight yX8_isTight, Cond.code yX8_isTight cX8_isTight 4 (some .boolean), Cond.methodLink RL 74 yX7_reach, Cond.instanceMethod yX7_reach, Cond.selects RX7 yX7_reach yX7_reach, Cond.code yX7_reach cX7_reach 3 (some .int), Cond.methodLink RX7 142 yX3_readAllOpenTo, Cond.instanceMethod yX3_readAllOpenTo, Cond.selects RX3 yX3_readAllOpenTo yX3_readAllOpenTo, Cond.code yX3_readAllOpenTo cX3_readAllOpenTo 5 (some .int), Cond.methodLink RX3 57 yX1_isOpenTo, Cond.methodLink RX3 60 yX1_brings, Cond.methodLink RL 77 yX8_reach, Cond.instanceMethod yX8_reach, Cond.selects RX8 yX8_reach yX8_reach]
def wsL_law0_r23 : List Cond := [Cond.code yX8_reach cX8_reach 1 (some .int), Cond.methodLink RX8 121 yX8_reached, Cond.instanceMethod yX8_reached, Cond.selects RX8 yX8_reached yX8_reached, Cond.code yX8_reached cX8_reached 5 (some .int), Cond.methodLink RL 78 yX7_gaps, Cond.instanceMethod yX7_gaps, Cond.selects RX7 yX7_gaps yX7_gaps, Cond.code yX7_gaps cX7_gaps 1 (some .int), Cond.methodLink RX7 145 yX3_allNeeded, Cond.instanceMethod yX3_allNeeded, Cond.selects RX3 yX3_allNeeded yX3_allNeeded, Cond.code yX3_allNeeded cX3_allNeeded 3 (some .int), Cond.methodLink RX3 64 yX1_needed, Cond.instanceMethod yX1_needed, Cond.selects RX1 yX1_needed yX1_needed, Cond.code yX1_needed cX1_needed 1 (some .int), Cond.methodLink RX7 148 yX3_allGiven, Cond.instanceMethod yX3_allGiven, Cond.selects RX3 yX3_allGiven yX3_allGiven, Cond.code yX3_allGiven cX3_allGiven 3 (some .int), Cond.methodLink RL 81 yX8_gaps, Cond.instanceMethod yX8_gaps, Cond.selects RX8 yX8_gaps yX8_gaps]
def wsL_law0_r24 : List Cond := [Cond.code yX8_gaps cX8_gaps 4 (some .int), Cond.methodLink RL 82 yX7_shortens, Cond.instanceMethod yX7_shortens, Cond.selects RX7 yX7_shortens yX7_shortens, Cond.code yX7_shortens cX7_shortens 6 (some .int), Cond.methodLink RL 85 yX8_shortens, Cond.instanceMethod yX8_shortens, Cond.selects RX8 yX8_shortens yX8_shortens, Cond.code yX8_shortens cX8_shortens 4 (some .int), Cond.methodLink RL 86 yX7_week, Cond.instanceMethod yX7_week, Cond.selects RX7 yX7_week yX7_week, Cond.code yX7_week cX7_week 3 (some .boolean), Cond.methodLink RX7 151 yX6_change, Cond.instanceMethod yX6_change, Cond.selects RX6 yX6_change yX6_change, Cond.code yX6_change cX6_change 3 none, Cond.methodLink RL 90 yX8_week, Cond.instanceMethod yX8_week, Cond.selects RX8 yX8_week yX8_week, Cond.code yX8_week cX8_week 3 (some .boolean), Cond.methodLink RL 91 yX7_lay, Cond.instanceMethod yX7_lay, Cond.selects RX7 yX7_lay yX7_lay]
def wsL_law0_r25 : List Cond := [Cond.code yX7_lay cX7_lay 2 (some .int), Cond.methodLink RX7 154 yX6_layRow, Cond.instanceMethod yX6_layRow, Cond.selects RX6 yX6_layRow yX6_layRow, Cond.code yX6_layRow cX6_layRow 8 (some .int), Cond.methodLink RX6 29 yX2_clear, Cond.methodLink RX6 32 yX2_size, Cond.methodLink RX6 25 yX2_at, Cond.methodLink RX6 36 yX3_minutesOf, Cond.methodLink RX6 41 yX2_add, Cond.methodLink RX6 45 yX2_become, Cond.instanceMethod yX2_become, Cond.selects RX2 yX2_become yX2_become, Cond.code yX2_become cX2_become 3 none, Cond.methodLink RX2 19 yX2_clear, Cond.methodLink RX2 22 yX2_size, Cond.methodLink RX2 26 yX2_at, Cond.methodLink RX2 30 yX2_add, Cond.methodLink RL 94 yX8_lay, Cond.instanceMethod yX8_lay, Cond.selects RX8 yX8_lay yX8_lay, Cond.code yX8_lay cX8_lay 5 (some .int), Cond.fieldLink RX8 125 "WhatToReadModel" "laidMany" "I", Cond.methodLink RL 95 yX7_laid]
def wsL_law0_r26 : List Cond := [Cond.instanceMethod yX7_laid, Cond.selects RX7 yX7_laid yX7_laid, Cond.code yX7_laid cX7_laid 2 (some .int), Cond.methodLink RX7 158 yX6_weekOf, Cond.instanceMethod yX6_weekOf, Cond.selects RX6 yX6_weekOf yX6_weekOf, Cond.code yX6_weekOf cX6_weekOf 2 (some .int), Cond.methodLink RL 98 yX8_laid, Cond.instanceMethod yX8_laid, Cond.selects RX8 yX8_laid yX8_laid, Cond.code yX8_laid cX8_laid 2 (some .int), Cond.methodLink RL 99 yX7_answer, Cond.instanceMethod yX7_answer, Cond.selects RX7 yX7_answer yX7_answer, Cond.code yX7_answer cX7_answer 3 (some .int), Cond.methodLink RX7 161 yX0_accept, Cond.instanceMethod yX0_accept, Cond.selects RX0 yX0_accept yX0_accept, Cond.code yX0_accept cX0_accept 5 (some .int), Cond.methodLink RX0 25 yX0_countHaving, Cond.static yX0_countHaving, Cond.code yX0_countHaving cX0_countHaving 6 (some .int), Cond.methodLink RX0 47 Lib.Math.max.name, Cond.methodLink RX0 29 yX0_keep]
def wsL_law0_r27 : List Cond := [Cond.instanceMethod yX0_keep, Cond.selects RX0 yX0_keep yX0_keep, Cond.code yX0_keep cX0_keep 5 none, Cond.methodLink RX0 33 yX0_has, Cond.static yX0_has, Cond.code yX0_has cX0_has 2 (some .boolean), Cond.methodLink RL 103 yX8_answer, Cond.instanceMethod yX8_answer, Cond.selects RX8 yX8_answer yX8_answer, Cond.code yX8_answer cX8_answer 4 (some .int), Cond.methodLink RX8 131 yX8_stateMany, Cond.instanceMethod yX8_stateMany, Cond.selects RX8 yX8_stateMany yX8_stateMany, Cond.code yX8_stateMany cX8_stateMany 3 (some .int), Cond.methodLink RX8 128 yX8_isState, Cond.instanceMethod yX8_isState, Cond.selects RX8 yX8_isState yX8_isState, Cond.code yX8_isState cX8_isState 3 (some .boolean), Cond.methodLink RL 104 yX7_ask, Cond.instanceMethod yX7_ask, Cond.selects RX7 yX7_ask yX7_ask, Cond.code yX7_ask cX7_ask 2 (some .int), Cond.methodLink RX7 165 yX0_startAnew, Cond.instanceMethod yX0_startAnew]
def wsL_law0_r28 : List Cond := [Cond.selects RX0 yX0_startAnew yX0_startAnew, Cond.code yX0_startAnew cX0_startAnew 1 none, Cond.methodLink RX7 168 yX0_size, Cond.instanceMethod yX0_size, Cond.selects RX0 yX0_size yX0_size, Cond.code yX0_size cX0_size 1 (some .int), Cond.methodLink RL 107 yX8_ask, Cond.instanceMethod yX8_ask, Cond.selects RX8 yX8_ask yX8_ask, Cond.code yX8_ask cX8_ask 2 (some .int), Cond.methodLink RL 108 yX7_states, Cond.instanceMethod yX7_states, Cond.selects RX7 yX7_states yX7_states, Cond.code yX7_states cX7_states 1 (some .int), Cond.methodLink RL 111 yX8_states, Cond.instanceMethod yX8_states, Cond.selects RX8 yX8_states yX8_states, Cond.code yX8_states cX8_states 1 (some .int), Cond.methodLink RL 112 yX7_question, Cond.instanceMethod yX7_question, Cond.selects RX7 yX7_question yX7_question, Cond.code yX7_question cX7_question 1 (some .int), Cond.methodLink RX7 169 yX0_nextQuestion, Cond.instanceMethod yX0_nextQuestion]
def wsL_law0_r29 : List Cond := [Cond.selects RX0 yX0_nextQuestion yX0_nextQuestion, Cond.code yX0_nextQuestion cX0_nextQuestion 1 (some .int), Cond.methodLink RX0 37 yX0_bestTopic, Cond.static yX0_bestTopic, Cond.code yX0_bestTopic cX0_bestTopic 8 (some .int), Cond.methodLink RL 115 yX8_question, Cond.instanceMethod yX8_question, Cond.selects RX8 yX8_question yX8_question, Cond.code yX8_question cX8_question 7 (some .int), Cond.methodLink RL 116 yX7_worst, Cond.instanceMethod yX7_worst, Cond.selects RX7 yX7_worst yX7_worst, Cond.code yX7_worst cX7_worst 1 (some .int), Cond.methodLink RX7 172 yX0_mostQuestions, Cond.instanceMethod yX0_mostQuestions, Cond.selects RX0 yX0_mostQuestions yX0_mostQuestions, Cond.code yX0_mostQuestions cX0_mostQuestions 2 (some .int), Cond.methodLink RX0 41 yX0_questionsUntilOne, Cond.static yX0_questionsUntilOne, Cond.code yX0_questionsUntilOne cX0_questionsUntilOne 8 (some .int), Cond.methodLink RX0 44 yX0_split, Cond.static yX0_split, Cond.code yX0_split cX0_split 7 (some .int), Cond.methodLink RL 119 yX8_worst]
def wsL_law0_r30 : List Cond := [Cond.instanceMethod yX8_worst, Cond.selects RX8 yX8_worst yX8_worst, Cond.code yX8_worst cX8_worst 4 (some .int), Cond.constantLong RX8 143 (-1), Cond.methodLink RX8 140 yX8_worstOf, Cond.instanceMethod yX8_worstOf, Cond.selects RX8 yX8_worstOf yX8_worstOf, Cond.code yX8_worstOf cX8_worstOf 12 (some .int), Cond.methodLink RX8 134 yJ13_bitCount_95d88, Cond.static yJ13_bitCount_95d88, Cond.initialized RJ13, Cond.code yJ13_bitCount_95d88 cJ13_bitCount_95d88 2 (some .int), Cond.constantLong RJ13 314 (6148914691236517205), Cond.constantLong RJ13 316 (3689348814741910323), Cond.constantLong RJ13 318 (1085102592571150095), Cond.methodLink RL 120 yX7_settle, Cond.instanceMethod yX7_settle, Cond.selects RX7 yX7_settle yX7_settle, Cond.code yX7_settle cX7_settle 1 (some .int), Cond.methodLink RX7 175 yX0_inCommon, Cond.instanceMethod yX0_inCommon, Cond.selects RX0 yX0_inCommon yX0_inCommon, Cond.code yX0_inCommon cX0_inCommon 3 (some .int), Cond.methodLink RL 123 yX8_settle]
def wsL_law0_r31 : List Cond := [Cond.instanceMethod yX8_settle, Cond.selects RX8 yX8_settle yX8_settle, Cond.code yX8_settle cX8_settle 3 (some .int), Cond.methodLink RL 124 yL_state, Cond.static yL_state, Cond.initialized RL, Cond.codeWith yL_state cL_state 4 (some .int) [(0, 9, 12, 13)], Cond.classLink RL 13 "java/util/NoSuchElementException", Cond.methodLink RL 7 yX7_state, Cond.instanceMethod yX7_state, Cond.selects RX7 yX7_state yX7_state, Cond.code yX7_state cX7_state 3 (some .int), Cond.classLink RX7 179 "java/util/NoSuchElementException", Cond.initialized "java/util/NoSuchElementException", Cond.methodLink RX7 178 yX0_at, Cond.instanceMethod yX0_at, Cond.selects RX0 yX0_at yX0_at, Cond.code yX0_at cX0_at 2 (some .int), Cond.methodLink RL 129 yX8_state, Cond.instanceMethod yX8_state, Cond.selects RX8 yX8_state yX8_state, Cond.code yX8_state cX8_state 4 (some .int), Cond.methodLink RL 130 yX8_thrown, Cond.instanceMethod yX8_thrown]
def wsL_law0_r32 : List Cond := [Cond.selects RX8 yX8_thrown yX8_thrown, Cond.code yX8_thrown cX8_thrown 1 (some .int)]
def wsL_law0 : List Cond := (wsL_law0_r1 ++ (wsL_law0_r2 ++ (wsL_law0_r3 ++ (wsL_law0_r4 ++ (wsL_law0_r5 ++ (wsL_law0_r6 ++ (wsL_law0_r7 ++ (wsL_law0_r8 ++ (wsL_law0_r9 ++ (wsL_law0_r10 ++ (wsL_law0_r11 ++ (wsL_law0_r12 ++ (wsL_law0_r13 ++ (wsL_law0_r14 ++ (wsL_law0_r15 ++ (wsL_law0_r16 ++ (wsL_law0_r17 ++ (wsL_law0_r18 ++ (wsL_law0_r19 ++ (wsL_law0_r20 ++ (wsL_law0_r21 ++ (wsL_law0_r22 ++ (wsL_law0_r23 ++ (wsL_law0_r24 ++ (wsL_law0_r25 ++ (wsL_law0_r26 ++ (wsL_law0_r27 ++ (wsL_law0_r28 ++ (wsL_law0_r29 ++ (wsL_law0_r30 ++ (wsL_law0_r31 ++ wsL_law0_r32))))))))))))))))))))))))))))))) ++ wsX70 ++ wsX80 ++ wsX40 ++ wsX30 ++ wsX50 ++ wsX20 ++ wsX60 ++ wsX00 ++ wsJx4a65c0 ++ wsX10 ++ ([] : List Cond)
def wsL_law : List Cond := wsL_law0 ++ (vx_atS RX7 183 "java/util/NoSuchElementException" ["java/lang/RuntimeException", "java/lang/Exception"]).filter goodWord
end
section
theorem dX0_init_0 : decode cX0_init 0 = .ok (.aload_n 0, 1) := by decide +kernel
theorem dX0_init_1 : decode cX0_init 1 = .ok (.invokespecial 3, 3) := by decide +kernel
theorem dX0_init_4 : decode cX0_init 4 = .ok (.aload_n 0, 1) := by decide +kernel
theorem dX0_init_5 : decode cX0_init 5 = .ok (.sipush 4096, 3) := by decide +kernel
theorem dX0_init_8 : decode cX0_init 8 = .ok (.newarray .int, 2) := by decide +kernel
theorem dX0_init_10 : decode cX0_init 10 = .ok (.putfield 9, 3) := by decide +kernel
theorem dX0_init_13 : decode cX0_init 13 = .ok (.aload_n 0, 1) := by decide +kernel
theorem dX0_init_14 : decode cX0_init 14 = .ok (.bipush 64, 2) := by decide +kernel
theorem dX0_init_16 : decode cX0_init 16 = .ok (.newarray .int, 2) := by decide +kernel
theorem dX0_init_18 : decode cX0_init 18 = .ok (.putfield 15, 3) := by decide +kernel
theorem dX0_init_21 : decode cX0_init 21 = .ok (.aload_n 0, 1) := by decide +kernel
theorem dX0_init_22 : decode cX0_init 22 = .ok (.iconst 1, 1) := by decide +kernel
theorem dX0_init_23 : decode cX0_init 23 = .ok (.putfield 18, 3) := by decide +kernel
theorem dX0_init_26 : decode cX0_init 26 = .ok (.aload_n 0, 1) := by decide +kernel
theorem dX0_init_27 : decode cX0_init 27 = .ok (.iconst 0, 1) := by decide +kernel
theorem dX0_init_28 : decode cX0_init 28 = .ok (.putfield 22, 3) := by decide +kernel
theorem dX0_init_31 : decode cX0_init 31 = .ok (.return_, 1) := by decide +kernel
theorem dX0_size_0 : decode cX0_size 0 = .ok (.aload_n 0, 1) := by decide +kernel
theorem dX0_size_1 : decode cX0_size 1 = .ok (.getfield 18, 3) := by decide +kernel
theorem dX0_size_4 : decode cX0_size 4 = .ok (.ireturn, 1) := by decide +kernel
theorem dX0_at_0 : decode cX0_at 0 = .ok (.iload_n 1, 1) := by decide +kernel
theorem dX0_at_1 : decode cX0_at 1 = .ok (.ifCond .lt 29, 3) := by decide +kernel
theorem dX0_at_4 : decode cX0_at 4 = .ok (.iload_n 1, 1) := by decide +kernel
theorem dX0_at_5 : decode cX0_at 5 = .ok (.aload_n 0, 1) := by decide +kernel
theorem dX0_at_6 : decode cX0_at 6 = .ok (.getfield 18, 3) := by decide +kernel
theorem dX0_at_9 : decode cX0_at 9 = .ok (.if_icmp .ge 21, 3) := by decide +kernel
theorem dX0_at_12 : decode cX0_at 12 = .ok (.iload_n 1, 1) := by decide +kernel
theorem dX0_at_13 : decode cX0_at 13 = .ok (.aload_n 0, 1) := by decide +kernel
theorem dX0_at_14 : decode cX0_at 14 = .ok (.getfield 9, 3) := by decide +kernel
theorem dX0_at_17 : decode cX0_at 17 = .ok (.arraylength, 1) := by decide +kernel
theorem dX0_at_18 : decode cX0_at 18 = .ok (.if_icmp .ge 12, 3) := by decide +kernel
theorem dX0_at_21 : decode cX0_at 21 = .ok (.aload_n 0, 1) := by decide +kernel
theorem dX0_at_22 : decode cX0_at 22 = .ok (.getfield 9, 3) := by decide +kernel
theorem dX0_at_25 : decode cX0_at 25 = .ok (.iload_n 1, 1) := by decide +kernel
theorem dX0_at_26 : decode cX0_at 26 = .ok (.iaload, 1) := by decide +kernel
theorem dX0_at_27 : decode cX0_at 27 = .ok (.goto 4, 3) := by decide +kernel
theorem dX0_at_30 : decode cX0_at 30 = .ok (.iconst (-1), 1) := by decide +kernel
theorem dX0_at_31 : decode cX0_at 31 = .ok (.ireturn, 1) := by decide +kernel
theorem dX0_startAnew_0 : decode cX0_startAnew 0 = .ok (.aload_n 0, 1) := by decide +kernel
theorem dX0_startAnew_1 : decode cX0_startAnew 1 = .ok (.getfield 9, 3) := by decide +kernel
theorem dX0_startAnew_4 : decode cX0_startAnew 4 = .ok (.iconst 0, 1) := by decide +kernel
theorem dX0_startAnew_5 : decode cX0_startAnew 5 = .ok (.iconst 0, 1) := by decide +kernel
theorem dX0_startAnew_6 : decode cX0_startAnew 6 = .ok (.iastore, 1) := by decide +kernel
theorem dX0_startAnew_7 : decode cX0_startAnew 7 = .ok (.aload_n 0, 1) := by decide +kernel
theorem dX0_startAnew_8 : decode cX0_startAnew 8 = .ok (.iconst 1, 1) := by decide +kernel
theorem dX0_startAnew_9 : decode cX0_startAnew 9 = .ok (.putfield 18, 3) := by decide +kernel
theorem dX0_startAnew_12 : decode cX0_startAnew 12 = .ok (.aload_n 0, 1) := by decide +kernel
theorem dX0_startAnew_13 : decode cX0_startAnew 13 = .ok (.iconst 0, 1) := by decide +kernel
theorem dX0_startAnew_14 : decode cX0_startAnew 14 = .ok (.putfield 22, 3) := by decide +kernel
theorem dX0_startAnew_17 : decode cX0_startAnew 17 = .ok (.return_, 1) := by decide +kernel
theorem dX0_addTopic_0 : decode cX0_addTopic 0 = .ok (.aload_n 0, 1) := by decide +kernel
theorem dX0_addTopic_1 : decode cX0_addTopic 1 = .ok (.getfield 18, 3) := by decide +kernel
theorem dX0_addTopic_4 : decode cX0_addTopic 4 = .ok (.istore_n 3, 1) := by decide +kernel
theorem dX0_addTopic_5 : decode cX0_addTopic 5 = .ok (.iconst 0, 1) := by decide +kernel
theorem dX0_addTopic_6 : decode cX0_addTopic 6 = .ok (.istore 4, 2) := by decide +kernel
theorem dX0_addTopic_8 : decode cX0_addTopic 8 = .ok (.iload 4, 2) := by decide +kernel
theorem dX0_addTopic_10 : decode cX0_addTopic 10 = .ok (.iload_n 3, 1) := by decide +kernel
theorem dX0_addTopic_11 : decode cX0_addTopic 11 = .ok (.if_icmp .ge 64, 3) := by decide +kernel
theorem dX0_addTopic_14 : decode cX0_addTopic 14 = .ok (.aload_n 0, 1) := by decide +kernel
theorem dX0_addTopic_15 : decode cX0_addTopic 15 = .ok (.getfield 18, 3) := by decide +kernel
theorem dX0_addTopic_18 : decode cX0_addTopic 18 = .ok (.aload_n 0, 1) := by decide +kernel
theorem dX0_addTopic_19 : decode cX0_addTopic 19 = .ok (.getfield 9, 3) := by decide +kernel
theorem dX0_addTopic_22 : decode cX0_addTopic 22 = .ok (.arraylength, 1) := by decide +kernel
theorem dX0_addTopic_23 : decode cX0_addTopic 23 = .ok (.if_icmp .ge 52, 3) := by decide +kernel
theorem dX0_addTopic_26 : decode cX0_addTopic 26 = .ok (.aload_n 0, 1) := by decide +kernel
theorem dX0_addTopic_27 : decode cX0_addTopic 27 = .ok (.getfield 9, 3) := by decide +kernel
theorem dX0_addTopic_30 : decode cX0_addTopic 30 = .ok (.iload 4, 2) := by decide +kernel
theorem dX0_addTopic_32 : decode cX0_addTopic 32 = .ok (.iaload, 1) := by decide +kernel
theorem dX0_addTopic_33 : decode cX0_addTopic 33 = .ok (.iload_n 2, 1) := by decide +kernel
theorem dX0_addTopic_34 : decode cX0_addTopic 34 = .ok (.iand, 1) := by decide +kernel
theorem dX0_addTopic_35 : decode cX0_addTopic 35 = .ok (.iload_n 2, 1) := by decide +kernel
theorem dX0_addTopic_36 : decode cX0_addTopic 36 = .ok (.if_icmp .ne 33, 3) := by decide +kernel
theorem dX0_addTopic_39 : decode cX0_addTopic 39 = .ok (.aload_n 0, 1) := by decide +kernel
theorem dX0_addTopic_40 : decode cX0_addTopic 40 = .ok (.getfield 9, 3) := by decide +kernel
theorem dX0_addTopic_43 : decode cX0_addTopic 43 = .ok (.aload_n 0, 1) := by decide +kernel
theorem dX0_addTopic_44 : decode cX0_addTopic 44 = .ok (.getfield 18, 3) := by decide +kernel
theorem dX0_addTopic_47 : decode cX0_addTopic 47 = .ok (.aload_n 0, 1) := by decide +kernel
theorem dX0_addTopic_48 : decode cX0_addTopic 48 = .ok (.getfield 9, 3) := by decide +kernel
theorem dX0_addTopic_51 : decode cX0_addTopic 51 = .ok (.iload 4, 2) := by decide +kernel
theorem dX0_addTopic_53 : decode cX0_addTopic 53 = .ok (.iaload, 1) := by decide +kernel
theorem dX0_addTopic_54 : decode cX0_addTopic 54 = .ok (.iconst 1, 1) := by decide +kernel
theorem dX0_addTopic_55 : decode cX0_addTopic 55 = .ok (.iload_n 1, 1) := by decide +kernel
theorem dX0_addTopic_56 : decode cX0_addTopic 56 = .ok (.ishl, 1) := by decide +kernel
theorem dX0_addTopic_57 : decode cX0_addTopic 57 = .ok (.ior, 1) := by decide +kernel
theorem dX0_addTopic_58 : decode cX0_addTopic 58 = .ok (.iastore, 1) := by decide +kernel
theorem dX0_addTopic_59 : decode cX0_addTopic 59 = .ok (.aload_n 0, 1) := by decide +kernel
theorem dX0_addTopic_60 : decode cX0_addTopic 60 = .ok (.dup, 1) := by decide +kernel
theorem dX0_addTopic_61 : decode cX0_addTopic 61 = .ok (.getfield 18, 3) := by decide +kernel
theorem dX0_addTopic_64 : decode cX0_addTopic 64 = .ok (.iconst 1, 1) := by decide +kernel
theorem dX0_addTopic_65 : decode cX0_addTopic 65 = .ok (.iadd, 1) := by decide +kernel
theorem dX0_addTopic_66 : decode cX0_addTopic 66 = .ok (.putfield 18, 3) := by decide +kernel
theorem dX0_addTopic_69 : decode cX0_addTopic 69 = .ok (.iinc 4 1, 3) := by decide +kernel
theorem dX0_addTopic_72 : decode cX0_addTopic 72 = .ok (.goto (-64), 3) := by decide +kernel
theorem dX0_addTopic_75 : decode cX0_addTopic 75 = .ok (.return_, 1) := by decide +kernel
set_option maxRecDepth 20000 in
theorem ggX0_accept_X0_countHaving : GoodIn wsX0_accept wsX0_countHaving := goodIn_r _ [7, 8, 9, 10, 11] (by decide +kernel) (by decide +kernel)
set_option maxRecDepth 20000 in
theorem gX0_accept_X0_countHaving : GoodIn wsX0_accept (va_wsS RX0 25 yX0_countHaving wsX0_countHaving) := goodIn_app (goodIn_of _ (by decide +kernel)) ggX0_accept_X0_countHaving
set_option maxRecDepth 20000 in
theorem ggX0_accept_X0_keep : GoodIn wsX0_accept wsX0_keep := goodIn_r _ [15, 2, 1, 16, 17, 6, 18, 19, 20, 21, 22] (by decide +kernel) (by decide +kernel)
set_option maxRecDepth 20000 in
theorem gX0_accept_X0_keep : GoodIn wsX0_accept (wsV RX0 29 RX0 yX0_keep wsX0_keep) := goodIn_app (goodIn_of _ (by decide +kernel)) ggX0_accept_X0_keep
theorem dX0_accept_0 : decode cX0_accept 0 = .ok (.aload_n 0, 1) := by decide +kernel
theorem dX0_accept_1 : decode cX0_accept 1 = .ok (.getfield 9, 3) := by decide +kernel
theorem dX0_accept_4 : decode cX0_accept 4 = .ok (.iconst 0, 1) := by decide +kernel
theorem dX0_accept_5 : decode cX0_accept 5 = .ok (.aload_n 0, 1) := by decide +kernel
theorem dX0_accept_6 : decode cX0_accept 6 = .ok (.getfield 18, 3) := by decide +kernel
theorem dX0_accept_9 : decode cX0_accept 9 = .ok (.iload_n 1, 1) := by decide +kernel
theorem dX0_accept_10 : decode cX0_accept 10 = .ok (.invokestatic 25, 3) := by decide +kernel
theorem dX0_accept_13 : decode cX0_accept 13 = .ok (.istore_n 3, 1) := by decide +kernel
theorem dX0_accept_14 : decode cX0_accept 14 = .ok (.iload_n 2, 1) := by decide +kernel
theorem dX0_accept_15 : decode cX0_accept 15 = .ok (.ifCond .eq 7, 3) := by decide +kernel
theorem dX0_accept_18 : decode cX0_accept 18 = .ok (.iload_n 3, 1) := by decide +kernel
theorem dX0_accept_19 : decode cX0_accept 19 = .ok (.goto 9, 3) := by decide +kernel
theorem dX0_accept_22 : decode cX0_accept 22 = .ok (.aload_n 0, 1) := by decide +kernel
theorem dX0_accept_23 : decode cX0_accept 23 = .ok (.getfield 18, 3) := by decide +kernel
theorem dX0_accept_26 : decode cX0_accept 26 = .ok (.iload_n 3, 1) := by decide +kernel
theorem dX0_accept_27 : decode cX0_accept 27 = .ok (.isub, 1) := by decide +kernel
theorem dX0_accept_28 : decode cX0_accept 28 = .ok (.istore 4, 2) := by decide +kernel
theorem dX0_accept_30 : decode cX0_accept 30 = .ok (.aload_n 0, 1) := by decide +kernel
theorem dX0_accept_31 : decode cX0_accept 31 = .ok (.getfield 22, 3) := by decide +kernel
theorem dX0_accept_34 : decode cX0_accept 34 = .ok (.iload_n 1, 1) := by decide +kernel
theorem dX0_accept_35 : decode cX0_accept 35 = .ok (.ishr, 1) := by decide +kernel
theorem dX0_accept_36 : decode cX0_accept 36 = .ok (.iconst 1, 1) := by decide +kernel
theorem dX0_accept_37 : decode cX0_accept 37 = .ok (.iand, 1) := by decide +kernel
theorem dX0_accept_38 : decode cX0_accept 38 = .ok (.iconst 1, 1) := by decide +kernel
theorem dX0_accept_39 : decode cX0_accept 39 = .ok (.if_icmp .eq 8, 3) := by decide +kernel
theorem dX0_accept_42 : decode cX0_accept 42 = .ok (.iload 4, 2) := by decide +kernel
theorem dX0_accept_44 : decode cX0_accept 44 = .ok (.ifCond .ne 5, 3) := by decide +kernel
theorem dX0_accept_47 : decode cX0_accept 47 = .ok (.iconst (-1), 1) := by decide +kernel
theorem dX0_accept_48 : decode cX0_accept 48 = .ok (.ireturn, 1) := by decide +kernel
theorem dX0_accept_49 : decode cX0_accept 49 = .ok (.aload_n 0, 1) := by decide +kernel
theorem dX0_accept_50 : decode cX0_accept 50 = .ok (.dup, 1) := by decide +kernel
theorem dX0_accept_51 : decode cX0_accept 51 = .ok (.getfield 22, 3) := by decide +kernel
theorem dX0_accept_54 : decode cX0_accept 54 = .ok (.iconst 1, 1) := by decide +kernel
theorem dX0_accept_55 : decode cX0_accept 55 = .ok (.iload_n 1, 1) := by decide +kernel
theorem dX0_accept_56 : decode cX0_accept 56 = .ok (.ishl, 1) := by decide +kernel
theorem dX0_accept_57 : decode cX0_accept 57 = .ok (.ior, 1) := by decide +kernel
theorem dX0_accept_58 : decode cX0_accept 58 = .ok (.putfield 22, 3) := by decide +kernel
theorem dX0_accept_61 : decode cX0_accept 61 = .ok (.aload_n 0, 1) := by decide +kernel
theorem dX0_accept_62 : decode cX0_accept 62 = .ok (.iload_n 1, 1) := by decide +kernel
theorem dX0_accept_63 : decode cX0_accept 63 = .ok (.iload_n 2, 1) := by decide +kernel
theorem dX0_accept_64 : decode cX0_accept 64 = .ok (.invokevirtual 29, 3) := by decide +kernel
theorem dX0_accept_67 : decode cX0_accept 67 = .ok (.aload_n 0, 1) := by decide +kernel
theorem dX0_accept_68 : decode cX0_accept 68 = .ok (.getfield 18, 3) := by decide +kernel
theorem dX0_accept_71 : decode cX0_accept 71 = .ok (.ireturn, 1) := by decide +kernel
set_option maxRecDepth 20000 in
theorem ggX0_keep_X0_has : GoodIn wsX0_keep wsX0_has := goodIn_r _ [6] (by decide +kernel) (by decide +kernel)
set_option maxRecDepth 20000 in
theorem gX0_keep_X0_has : GoodIn wsX0_keep (va_wsS RX0 33 yX0_has wsX0_has) := goodIn_app (goodIn_of _ (by decide +kernel)) ggX0_keep_X0_has
theorem dX0_keep_0 : decode cX0_keep 0 = .ok (.iconst 0, 1) := by decide +kernel
theorem dX0_keep_1 : decode cX0_keep 1 = .ok (.istore_n 3, 1) := by decide +kernel
theorem dX0_keep_2 : decode cX0_keep 2 = .ok (.iconst 0, 1) := by decide +kernel
theorem dX0_keep_3 : decode cX0_keep 3 = .ok (.istore 4, 2) := by decide +kernel
theorem dX0_keep_5 : decode cX0_keep 5 = .ok (.iload 4, 2) := by decide +kernel
theorem dX0_keep_7 : decode cX0_keep 7 = .ok (.aload_n 0, 1) := by decide +kernel
theorem dX0_keep_8 : decode cX0_keep 8 = .ok (.getfield 18, 3) := by decide +kernel
theorem dX0_keep_11 : decode cX0_keep 11 = .ok (.if_icmp .ge 40, 3) := by decide +kernel
theorem dX0_keep_14 : decode cX0_keep 14 = .ok (.aload_n 0, 1) := by decide +kernel
theorem dX0_keep_15 : decode cX0_keep 15 = .ok (.getfield 9, 3) := by decide +kernel
theorem dX0_keep_18 : decode cX0_keep 18 = .ok (.iload 4, 2) := by decide +kernel
theorem dX0_keep_20 : decode cX0_keep 20 = .ok (.iaload, 1) := by decide +kernel
theorem dX0_keep_21 : decode cX0_keep 21 = .ok (.iload_n 1, 1) := by decide +kernel
theorem dX0_keep_22 : decode cX0_keep 22 = .ok (.invokestatic 33, 3) := by decide +kernel
theorem dX0_keep_25 : decode cX0_keep 25 = .ok (.iload_n 2, 1) := by decide +kernel
theorem dX0_keep_26 : decode cX0_keep 26 = .ok (.if_icmp .ne 19, 3) := by decide +kernel
theorem dX0_keep_29 : decode cX0_keep 29 = .ok (.aload_n 0, 1) := by decide +kernel
theorem dX0_keep_30 : decode cX0_keep 30 = .ok (.getfield 9, 3) := by decide +kernel
theorem dX0_keep_33 : decode cX0_keep 33 = .ok (.iload_n 3, 1) := by decide +kernel
theorem dX0_keep_34 : decode cX0_keep 34 = .ok (.aload_n 0, 1) := by decide +kernel
theorem dX0_keep_35 : decode cX0_keep 35 = .ok (.getfield 9, 3) := by decide +kernel
theorem dX0_keep_38 : decode cX0_keep 38 = .ok (.iload 4, 2) := by decide +kernel
theorem dX0_keep_40 : decode cX0_keep 40 = .ok (.iaload, 1) := by decide +kernel
theorem dX0_keep_41 : decode cX0_keep 41 = .ok (.iastore, 1) := by decide +kernel
theorem dX0_keep_42 : decode cX0_keep 42 = .ok (.iinc 3 1, 3) := by decide +kernel
theorem dX0_keep_45 : decode cX0_keep 45 = .ok (.iinc 4 1, 3) := by decide +kernel
theorem dX0_keep_48 : decode cX0_keep 48 = .ok (.goto (-43), 3) := by decide +kernel
theorem dX0_keep_51 : decode cX0_keep 51 = .ok (.aload_n 0, 1) := by decide +kernel
theorem dX0_keep_52 : decode cX0_keep 52 = .ok (.iload_n 3, 1) := by decide +kernel
theorem dX0_keep_53 : decode cX0_keep 53 = .ok (.putfield 18, 3) := by decide +kernel
theorem dX0_keep_56 : decode cX0_keep 56 = .ok (.return_, 1) := by decide +kernel
theorem dX0_inCommon_0 : decode cX0_inCommon 0 = .ok (.sipush 4095, 3) := by decide +kernel
theorem dX0_inCommon_3 : decode cX0_inCommon 3 = .ok (.istore_n 1, 1) := by decide +kernel
theorem dX0_inCommon_4 : decode cX0_inCommon 4 = .ok (.iconst 0, 1) := by decide +kernel
theorem dX0_inCommon_5 : decode cX0_inCommon 5 = .ok (.istore_n 2, 1) := by decide +kernel
theorem dX0_inCommon_6 : decode cX0_inCommon 6 = .ok (.iload_n 2, 1) := by decide +kernel
theorem dX0_inCommon_7 : decode cX0_inCommon 7 = .ok (.aload_n 0, 1) := by decide +kernel
theorem dX0_inCommon_8 : decode cX0_inCommon 8 = .ok (.getfield 18, 3) := by decide +kernel
theorem dX0_inCommon_11 : decode cX0_inCommon 11 = .ok (.if_icmp .ge 18, 3) := by decide +kernel
theorem dX0_inCommon_14 : decode cX0_inCommon 14 = .ok (.iload_n 1, 1) := by decide +kernel
theorem dX0_inCommon_15 : decode cX0_inCommon 15 = .ok (.aload_n 0, 1) := by decide +kernel
theorem dX0_inCommon_16 : decode cX0_inCommon 16 = .ok (.getfield 9, 3) := by decide +kernel
theorem dX0_inCommon_19 : decode cX0_inCommon 19 = .ok (.iload_n 2, 1) := by decide +kernel
theorem dX0_inCommon_20 : decode cX0_inCommon 20 = .ok (.iaload, 1) := by decide +kernel
theorem dX0_inCommon_21 : decode cX0_inCommon 21 = .ok (.iand, 1) := by decide +kernel
theorem dX0_inCommon_22 : decode cX0_inCommon 22 = .ok (.istore_n 1, 1) := by decide +kernel
theorem dX0_inCommon_23 : decode cX0_inCommon 23 = .ok (.iinc 2 1, 3) := by decide +kernel
theorem dX0_inCommon_26 : decode cX0_inCommon 26 = .ok (.goto (-20), 3) := by decide +kernel
theorem dX0_inCommon_29 : decode cX0_inCommon 29 = .ok (.iload_n 1, 1) := by decide +kernel
theorem dX0_inCommon_30 : decode cX0_inCommon 30 = .ok (.ireturn, 1) := by decide +kernel
set_option maxRecDepth 20000 in
theorem ggX0_nextQuestion_X0_bestTopic : GoodIn wsX0_nextQuestion wsX0_bestTopic := goodIn_r _ [6, 7, 8, 9, 10, 11, 12, 5, 13] (by decide +kernel) (by decide +kernel)
set_option maxRecDepth 20000 in
theorem gX0_nextQuestion_X0_bestTopic : GoodIn wsX0_nextQuestion (va_wsS RX0 37 yX0_bestTopic wsX0_bestTopic) := goodIn_app (goodIn_of _ (by decide +kernel)) ggX0_nextQuestion_X0_bestTopic
theorem dX0_nextQuestion_0 : decode cX0_nextQuestion 0 = .ok (.aload_n 0, 1) := by decide +kernel
theorem dX0_nextQuestion_1 : decode cX0_nextQuestion 1 = .ok (.getfield 9, 3) := by decide +kernel
theorem dX0_nextQuestion_4 : decode cX0_nextQuestion 4 = .ok (.iconst 0, 1) := by decide +kernel
theorem dX0_nextQuestion_5 : decode cX0_nextQuestion 5 = .ok (.aload_n 0, 1) := by decide +kernel
theorem dX0_nextQuestion_6 : decode cX0_nextQuestion 6 = .ok (.getfield 18, 3) := by decide +kernel
theorem dX0_nextQuestion_9 : decode cX0_nextQuestion 9 = .ok (.invokestatic 37, 3) := by decide +kernel
theorem dX0_nextQuestion_12 : decode cX0_nextQuestion 12 = .ok (.ireturn, 1) := by decide +kernel
set_option maxRecDepth 20000 in
theorem ggX0_mostQuestions_X0_questionsUntilOne : GoodIn wsX0_mostQuestions wsX0_questionsUntilOne := goodIn_r _ [7, 8, 9, 10, 11, 12, 13, 6, 14, 15, 16, 17, 18, 19, 20, 21, 22, 23, 4, 5] (by decide +kernel) (by decide +kernel)
set_option maxRecDepth 20000 in
theorem gX0_mostQuestions_X0_questionsUntilOne : GoodIn wsX0_mostQuestions (va_wsS RX0 41 yX0_questionsUntilOne wsX0_questionsUntilOne) := goodIn_app (goodIn_of _ (by decide +kernel)) ggX0_mostQuestions_X0_questionsUntilOne
theorem dX0_mostQuestions_0 : decode cX0_mostQuestions 0 = .ok (.aload_n 0, 1) := by decide +kernel
theorem dX0_mostQuestions_1 : decode cX0_mostQuestions 1 = .ok (.getfield 18, 3) := by decide +kernel
theorem dX0_mostQuestions_4 : decode cX0_mostQuestions 4 = .ok (.aload_n 0, 1) := by decide +kernel
theorem dX0_mostQuestions_5 : decode cX0_mostQuestions 5 = .ok (.getfield 15, 3) := by decide +kernel
theorem dX0_mostQuestions_8 : decode cX0_mostQuestions 8 = .ok (.arraylength, 1) := by decide +kernel
theorem dX0_mostQuestions_9 : decode cX0_mostQuestions 9 = .ok (.if_icmp .le 5, 3) := by decide +kernel
theorem dX0_mostQuestions_12 : decode cX0_mostQuestions 12 = .ok (.iconst (-1), 1) := by decide +kernel
theorem dX0_mostQuestions_13 : decode cX0_mostQuestions 13 = .ok (.ireturn, 1) := by decide +kernel
theorem dX0_mostQuestions_14 : decode cX0_mostQuestions 14 = .ok (.iconst 0, 1) := by decide +kernel
theorem dX0_mostQuestions_15 : decode cX0_mostQuestions 15 = .ok (.istore_n 1, 1) := by decide +kernel
theorem dX0_mostQuestions_16 : decode cX0_mostQuestions 16 = .ok (.iload_n 1, 1) := by decide +kernel
theorem dX0_mostQuestions_17 : decode cX0_mostQuestions 17 = .ok (.aload_n 0, 1) := by decide +kernel
theorem dX0_mostQuestions_18 : decode cX0_mostQuestions 18 = .ok (.getfield 18, 3) := by decide +kernel
theorem dX0_mostQuestions_21 : decode cX0_mostQuestions 21 = .ok (.if_icmp .ge 21, 3) := by decide +kernel
theorem dX0_mostQuestions_24 : decode cX0_mostQuestions 24 = .ok (.aload_n 0, 1) := by decide +kernel
theorem dX0_mostQuestions_25 : decode cX0_mostQuestions 25 = .ok (.getfield 15, 3) := by decide +kernel
theorem dX0_mostQuestions_28 : decode cX0_mostQuestions 28 = .ok (.iload_n 1, 1) := by decide +kernel
theorem dX0_mostQuestions_29 : decode cX0_mostQuestions 29 = .ok (.aload_n 0, 1) := by decide +kernel
theorem dX0_mostQuestions_30 : decode cX0_mostQuestions 30 = .ok (.getfield 9, 3) := by decide +kernel
theorem dX0_mostQuestions_33 : decode cX0_mostQuestions 33 = .ok (.iload_n 1, 1) := by decide +kernel
theorem dX0_mostQuestions_34 : decode cX0_mostQuestions 34 = .ok (.iaload, 1) := by decide +kernel
theorem dX0_mostQuestions_35 : decode cX0_mostQuestions 35 = .ok (.iastore, 1) := by decide +kernel
theorem dX0_mostQuestions_36 : decode cX0_mostQuestions 36 = .ok (.iinc 1 1, 3) := by decide +kernel
theorem dX0_mostQuestions_39 : decode cX0_mostQuestions 39 = .ok (.goto (-23), 3) := by decide +kernel
theorem dX0_mostQuestions_42 : decode cX0_mostQuestions 42 = .ok (.aload_n 0, 1) := by decide +kernel
theorem dX0_mostQuestions_43 : decode cX0_mostQuestions 43 = .ok (.getfield 15, 3) := by decide +kernel
theorem dX0_mostQuestions_46 : decode cX0_mostQuestions 46 = .ok (.iconst 0, 1) := by decide +kernel
theorem dX0_mostQuestions_47 : decode cX0_mostQuestions 47 = .ok (.aload_n 0, 1) := by decide +kernel
theorem dX0_mostQuestions_48 : decode cX0_mostQuestions 48 = .ok (.getfield 18, 3) := by decide +kernel
theorem dX0_mostQuestions_51 : decode cX0_mostQuestions 51 = .ok (.iconst 0, 1) := by decide +kernel
theorem dX0_mostQuestions_52 : decode cX0_mostQuestions 52 = .ok (.invokestatic 41, 3) := by decide +kernel
theorem dX0_mostQuestions_55 : decode cX0_mostQuestions 55 = .ok (.ireturn, 1) := by decide +kernel
set_option maxRecDepth 20000 in
theorem ggX0_questionsUntilOne_X0_bestTopic : GoodIn wsX0_questionsUntilOne wsX0_bestTopic := goodIn_r _ [8, 1, 2, 3, 4, 9, 10, 7, 11] (by decide +kernel) (by decide +kernel)
set_option maxRecDepth 20000 in
theorem gX0_questionsUntilOne_X0_bestTopic : GoodIn wsX0_questionsUntilOne (va_wsS RX0 37 yX0_bestTopic wsX0_bestTopic) := goodIn_app (goodIn_of _ (by decide +kernel)) ggX0_questionsUntilOne_X0_bestTopic
set_option maxRecDepth 20000 in
theorem ggX0_questionsUntilOne_X0_split : GoodIn wsX0_questionsUntilOne wsX0_split := goodIn_r _ [14, 1, 2, 3, 4, 15, 16, 7, 17] (by decide +kernel) (by decide +kernel)
set_option maxRecDepth 20000 in
theorem gX0_questionsUntilOne_X0_split : GoodIn wsX0_questionsUntilOne (va_wsS RX0 44 yX0_split wsX0_split) := goodIn_app (goodIn_of _ (by decide +kernel)) ggX0_questionsUntilOne_X0_split
set_option maxRecDepth 20000 in
theorem ggX0_questionsUntilOne_X0_questionsUntilOne : GoodIn wsX0_questionsUntilOne wsX0_questionsUntilOne := goodIn_r _ [0, 1, 2, 3, 4, 5, 6, 7, 8, 9, 10, 11, 12, 13, 14, 15, 16, 17, 18, 19] (by decide +kernel) (by decide +kernel)
set_option maxRecDepth 20000 in
theorem gX0_questionsUntilOne_X0_questionsUntilOne : GoodIn wsX0_questionsUntilOne (va_wsS RX0 41 yX0_questionsUntilOne wsX0_questionsUntilOne) := goodIn_app (goodIn_of _ (by decide +kernel)) ggX0_questionsUntilOne_X0_questionsUntilOne
theorem dX0_questionsUntilOne_0 : decode cX0_questionsUntilOne 0 = .ok (.aload_n 0, 1) := by decide +kernel
theorem dX0_questionsUntilOne_1 : decode cX0_questionsUntilOne 1 = .ok (.iload_n 1, 1) := by decide +kernel
theorem dX0_questionsUntilOne_2 : decode cX0_questionsUntilOne 2 = .ok (.iload_n 2, 1) := by decide +kernel
theorem dX0_questionsUntilOne_3 : decode cX0_questionsUntilOne 3 = .ok (.invokestatic 37, 3) := by decide +kernel
theorem dX0_questionsUntilOne_6 : decode cX0_questionsUntilOne 6 = .ok (.istore 4, 2) := by decide +kernel
theorem dX0_questionsUntilOne_8 : decode cX0_questionsUntilOne 8 = .ok (.iload 4, 2) := by decide +kernel
theorem dX0_questionsUntilOne_10 : decode cX0_questionsUntilOne 10 = .ok (.iconst (-1), 1) := by decide +kernel
theorem dX0_questionsUntilOne_11 : decode cX0_questionsUntilOne 11 = .ok (.if_icmp .eq 9, 3) := by decide +kernel
theorem dX0_questionsUntilOne_14 : decode cX0_questionsUntilOne 14 = .ok (.iload_n 3, 1) := by decide +kernel
theorem dX0_questionsUntilOne_15 : decode cX0_questionsUntilOne 15 = .ok (.bipush 12, 2) := by decide +kernel
theorem dX0_questionsUntilOne_17 : decode cX0_questionsUntilOne 17 = .ok (.if_icmp .lt 5, 3) := by decide +kernel
theorem dX0_questionsUntilOne_20 : decode cX0_questionsUntilOne 20 = .ok (.iconst 0, 1) := by decide +kernel
theorem dX0_questionsUntilOne_21 : decode cX0_questionsUntilOne 21 = .ok (.ireturn, 1) := by decide +kernel
theorem dX0_questionsUntilOne_22 : decode cX0_questionsUntilOne 22 = .ok (.aload_n 0, 1) := by decide +kernel
theorem dX0_questionsUntilOne_23 : decode cX0_questionsUntilOne 23 = .ok (.iload_n 1, 1) := by decide +kernel
theorem dX0_questionsUntilOne_24 : decode cX0_questionsUntilOne 24 = .ok (.iload_n 2, 1) := by decide +kernel
theorem dX0_questionsUntilOne_25 : decode cX0_questionsUntilOne 25 = .ok (.iload 4, 2) := by decide +kernel
theorem dX0_questionsUntilOne_27 : decode cX0_questionsUntilOne 27 = .ok (.invokestatic 44, 3) := by decide +kernel
theorem dX0_questionsUntilOne_30 : decode cX0_questionsUntilOne 30 = .ok (.istore 5, 2) := by decide +kernel
theorem dX0_questionsUntilOne_32 : decode cX0_questionsUntilOne 32 = .ok (.aload_n 0, 1) := by decide +kernel
theorem dX0_questionsUntilOne_33 : decode cX0_questionsUntilOne 33 = .ok (.iload_n 1, 1) := by decide +kernel
theorem dX0_questionsUntilOne_34 : decode cX0_questionsUntilOne 34 = .ok (.iload 5, 2) := by decide +kernel
theorem dX0_questionsUntilOne_36 : decode cX0_questionsUntilOne 36 = .ok (.iload_n 3, 1) := by decide +kernel
theorem dX0_questionsUntilOne_37 : decode cX0_questionsUntilOne 37 = .ok (.iconst 1, 1) := by decide +kernel
theorem dX0_questionsUntilOne_38 : decode cX0_questionsUntilOne 38 = .ok (.iadd, 1) := by decide +kernel
theorem dX0_questionsUntilOne_39 : decode cX0_questionsUntilOne 39 = .ok (.invokestatic 41, 3) := by decide +kernel
theorem dX0_questionsUntilOne_42 : decode cX0_questionsUntilOne 42 = .ok (.istore 6, 2) := by decide +kernel
theorem dX0_questionsUntilOne_44 : decode cX0_questionsUntilOne 44 = .ok (.aload_n 0, 1) := by decide +kernel
theorem dX0_questionsUntilOne_45 : decode cX0_questionsUntilOne 45 = .ok (.iload 5, 2) := by decide +kernel
theorem dX0_questionsUntilOne_47 : decode cX0_questionsUntilOne 47 = .ok (.iload_n 2, 1) := by decide +kernel
theorem dX0_questionsUntilOne_48 : decode cX0_questionsUntilOne 48 = .ok (.iload_n 3, 1) := by decide +kernel
theorem dX0_questionsUntilOne_49 : decode cX0_questionsUntilOne 49 = .ok (.iconst 1, 1) := by decide +kernel
theorem dX0_questionsUntilOne_50 : decode cX0_questionsUntilOne 50 = .ok (.iadd, 1) := by decide +kernel
theorem dX0_questionsUntilOne_51 : decode cX0_questionsUntilOne 51 = .ok (.invokestatic 41, 3) := by decide +kernel
theorem dX0_questionsUntilOne_54 : decode cX0_questionsUntilOne 54 = .ok (.istore 7, 2) := by decide +kernel
theorem dX0_questionsUntilOne_56 : decode cX0_questionsUntilOne 56 = .ok (.iconst 1, 1) := by decide +kernel
theorem dX0_questionsUntilOne_57 : decode cX0_questionsUntilOne 57 = .ok (.iload 6, 2) := by decide +kernel
theorem dX0_questionsUntilOne_59 : decode cX0_questionsUntilOne 59 = .ok (.iload 7, 2) := by decide +kernel
theorem dX0_questionsUntilOne_61 : decode cX0_questionsUntilOne 61 = .ok (.invokestatic 47, 3) := by decide +kernel
theorem dX0_questionsUntilOne_64 : decode cX0_questionsUntilOne 64 = .ok (.iadd, 1) := by decide +kernel
theorem dX0_questionsUntilOne_65 : decode cX0_questionsUntilOne 65 = .ok (.ireturn, 1) := by decide +kernel
set_option maxRecDepth 20000 in
theorem ggX0_bestTopic_X0_countHaving : GoodIn wsX0_bestTopic wsX0_countHaving := goodIn_r _ [8, 1, 2, 3, 4] (by decide +kernel) (by decide +kernel)
set_option maxRecDepth 20000 in
theorem gX0_bestTopic_X0_countHaving : GoodIn wsX0_bestTopic (va_wsS RX0 25 yX0_countHaving wsX0_countHaving) := goodIn_app (goodIn_of _ (by decide +kernel)) ggX0_bestTopic_X0_countHaving
theorem dX0_bestTopic_0 : decode cX0_bestTopic 0 = .ok (.iconst (-1), 1) := by decide +kernel
theorem dX0_bestTopic_1 : decode cX0_bestTopic 1 = .ok (.istore_n 3, 1) := by decide +kernel
theorem dX0_bestTopic_2 : decode cX0_bestTopic 2 = .ok (.iload_n 2, 1) := by decide +kernel
theorem dX0_bestTopic_3 : decode cX0_bestTopic 3 = .ok (.iload_n 1, 1) := by decide +kernel
theorem dX0_bestTopic_4 : decode cX0_bestTopic 4 = .ok (.isub, 1) := by decide +kernel
theorem dX0_bestTopic_5 : decode cX0_bestTopic 5 = .ok (.istore 4, 2) := by decide +kernel
theorem dX0_bestTopic_7 : decode cX0_bestTopic 7 = .ok (.iconst 0, 1) := by decide +kernel
theorem dX0_bestTopic_8 : decode cX0_bestTopic 8 = .ok (.istore 5, 2) := by decide +kernel
theorem dX0_bestTopic_10 : decode cX0_bestTopic 10 = .ok (.iload 5, 2) := by decide +kernel
theorem dX0_bestTopic_12 : decode cX0_bestTopic 12 = .ok (.bipush 12, 2) := by decide +kernel
theorem dX0_bestTopic_14 : decode cX0_bestTopic 14 = .ok (.if_icmp .ge 46, 3) := by decide +kernel
theorem dX0_bestTopic_17 : decode cX0_bestTopic 17 = .ok (.aload_n 0, 1) := by decide +kernel
theorem dX0_bestTopic_18 : decode cX0_bestTopic 18 = .ok (.iload_n 1, 1) := by decide +kernel
theorem dX0_bestTopic_19 : decode cX0_bestTopic 19 = .ok (.iload_n 2, 1) := by decide +kernel
theorem dX0_bestTopic_20 : decode cX0_bestTopic 20 = .ok (.iload 5, 2) := by decide +kernel
theorem dX0_bestTopic_22 : decode cX0_bestTopic 22 = .ok (.invokestatic 25, 3) := by decide +kernel
theorem dX0_bestTopic_25 : decode cX0_bestTopic 25 = .ok (.istore 6, 2) := by decide +kernel
theorem dX0_bestTopic_27 : decode cX0_bestTopic 27 = .ok (.iload 6, 2) := by decide +kernel
theorem dX0_bestTopic_29 : decode cX0_bestTopic 29 = .ok (.iload_n 2, 1) := by decide +kernel
theorem dX0_bestTopic_30 : decode cX0_bestTopic 30 = .ok (.iload_n 1, 1) := by decide +kernel
theorem dX0_bestTopic_31 : decode cX0_bestTopic 31 = .ok (.isub, 1) := by decide +kernel
theorem dX0_bestTopic_32 : decode cX0_bestTopic 32 = .ok (.iload 6, 2) := by decide +kernel
theorem dX0_bestTopic_34 : decode cX0_bestTopic 34 = .ok (.isub, 1) := by decide +kernel
theorem dX0_bestTopic_35 : decode cX0_bestTopic 35 = .ok (.invokestatic 47, 3) := by decide +kernel
theorem dX0_bestTopic_38 : decode cX0_bestTopic 38 = .ok (.istore 7, 2) := by decide +kernel
theorem dX0_bestTopic_40 : decode cX0_bestTopic 40 = .ok (.iload 7, 2) := by decide +kernel
theorem dX0_bestTopic_42 : decode cX0_bestTopic 42 = .ok (.iload 4, 2) := by decide +kernel
theorem dX0_bestTopic_44 : decode cX0_bestTopic 44 = .ok (.if_icmp .ge 10, 3) := by decide +kernel
theorem dX0_bestTopic_47 : decode cX0_bestTopic 47 = .ok (.iload 5, 2) := by decide +kernel
theorem dX0_bestTopic_49 : decode cX0_bestTopic 49 = .ok (.istore_n 3, 1) := by decide +kernel
theorem dX0_bestTopic_50 : decode cX0_bestTopic 50 = .ok (.iload 7, 2) := by decide +kernel
theorem dX0_bestTopic_52 : decode cX0_bestTopic 52 = .ok (.istore 4, 2) := by decide +kernel
theorem dX0_bestTopic_54 : decode cX0_bestTopic 54 = .ok (.iinc 5 1, 3) := by decide +kernel
theorem dX0_bestTopic_57 : decode cX0_bestTopic 57 = .ok (.goto (-47), 3) := by decide +kernel
theorem dX0_bestTopic_60 : decode cX0_bestTopic 60 = .ok (.iload_n 3, 1) := by decide +kernel
theorem dX0_bestTopic_61 : decode cX0_bestTopic 61 = .ok (.ireturn, 1) := by decide +kernel
theorem dX0_countHaving_0 : decode cX0_countHaving 0 = .ok (.iconst 0, 1) := by decide +kernel
theorem dX0_countHaving_1 : decode cX0_countHaving 1 = .ok (.istore 4, 2) := by decide +kernel
theorem dX0_countHaving_3 : decode cX0_countHaving 3 = .ok (.iload_n 1, 1) := by decide +kernel
theorem dX0_countHaving_4 : decode cX0_countHaving 4 = .ok (.iconst 0, 1) := by decide +kernel
theorem dX0_countHaving_5 : decode cX0_countHaving 5 = .ok (.invokestatic 47, 3) := by decide +kernel
theorem dX0_countHaving_8 : decode cX0_countHaving 8 = .ok (.istore 5, 2) := by decide +kernel
theorem dX0_countHaving_10 : decode cX0_countHaving 10 = .ok (.iload 5, 2) := by decide +kernel
theorem dX0_countHaving_12 : decode cX0_countHaving 12 = .ok (.iload_n 2, 1) := by decide +kernel
theorem dX0_countHaving_13 : decode cX0_countHaving 13 = .ok (.if_icmp .ge 29, 3) := by decide +kernel
theorem dX0_countHaving_16 : decode cX0_countHaving 16 = .ok (.iload 5, 2) := by decide +kernel
theorem dX0_countHaving_18 : decode cX0_countHaving 18 = .ok (.aload_n 0, 1) := by decide +kernel
theorem dX0_countHaving_19 : decode cX0_countHaving 19 = .ok (.arraylength, 1) := by decide +kernel
theorem dX0_countHaving_20 : decode cX0_countHaving 20 = .ok (.if_icmp .ge 22, 3) := by decide +kernel
theorem dX0_countHaving_23 : decode cX0_countHaving 23 = .ok (.iload 4, 2) := by decide +kernel
theorem dX0_countHaving_25 : decode cX0_countHaving 25 = .ok (.aload_n 0, 1) := by decide +kernel
theorem dX0_countHaving_26 : decode cX0_countHaving 26 = .ok (.iload 5, 2) := by decide +kernel
theorem dX0_countHaving_28 : decode cX0_countHaving 28 = .ok (.iaload, 1) := by decide +kernel
theorem dX0_countHaving_29 : decode cX0_countHaving 29 = .ok (.iload_n 3, 1) := by decide +kernel
theorem dX0_countHaving_30 : decode cX0_countHaving 30 = .ok (.ishr, 1) := by decide +kernel
theorem dX0_countHaving_31 : decode cX0_countHaving 31 = .ok (.iconst 1, 1) := by decide +kernel
theorem dX0_countHaving_32 : decode cX0_countHaving 32 = .ok (.iand, 1) := by decide +kernel
theorem dX0_countHaving_33 : decode cX0_countHaving 33 = .ok (.iadd, 1) := by decide +kernel
theorem dX0_countHaving_34 : decode cX0_countHaving 34 = .ok (.istore 4, 2) := by decide +kernel
theorem dX0_countHaving_36 : decode cX0_countHaving 36 = .ok (.iinc 5 1, 3) := by decide +kernel
theorem dX0_countHaving_39 : decode cX0_countHaving 39 = .ok (.goto (-29), 3) := by decide +kernel
theorem dX0_countHaving_42 : decode cX0_countHaving 42 = .ok (.iload 4, 2) := by decide +kernel
theorem dX0_countHaving_44 : decode cX0_countHaving 44 = .ok (.ireturn, 1) := by decide +kernel
set_option maxRecDepth 20000 in
theorem ggX0_split_X0_has : GoodIn wsX0_split wsX0_has := goodIn_r _ [8] (by decide +kernel) (by decide +kernel)
set_option maxRecDepth 20000 in
theorem gX0_split_X0_has : GoodIn wsX0_split (va_wsS RX0 33 yX0_has wsX0_has) := goodIn_app (goodIn_of _ (by decide +kernel)) ggX0_split_X0_has
theorem dX0_split_0 : decode cX0_split 0 = .ok (.iload_n 1, 1) := by decide +kernel
theorem dX0_split_1 : decode cX0_split 1 = .ok (.iconst 0, 1) := by decide +kernel
theorem dX0_split_2 : decode cX0_split 2 = .ok (.invokestatic 47, 3) := by decide +kernel
theorem dX0_split_5 : decode cX0_split 5 = .ok (.istore 4, 2) := by decide +kernel
theorem dX0_split_7 : decode cX0_split 7 = .ok (.iload 4, 2) := by decide +kernel
theorem dX0_split_9 : decode cX0_split 9 = .ok (.istore 5, 2) := by decide +kernel
theorem dX0_split_11 : decode cX0_split 11 = .ok (.iload 5, 2) := by decide +kernel
theorem dX0_split_13 : decode cX0_split 13 = .ok (.iload_n 2, 1) := by decide +kernel
theorem dX0_split_14 : decode cX0_split 14 = .ok (.if_icmp .ge 48, 3) := by decide +kernel
theorem dX0_split_17 : decode cX0_split 17 = .ok (.iload 5, 2) := by decide +kernel
theorem dX0_split_19 : decode cX0_split 19 = .ok (.aload_n 0, 1) := by decide +kernel
theorem dX0_split_20 : decode cX0_split 20 = .ok (.arraylength, 1) := by decide +kernel
theorem dX0_split_21 : decode cX0_split 21 = .ok (.if_icmp .ge 41, 3) := by decide +kernel
theorem dX0_split_24 : decode cX0_split 24 = .ok (.aload_n 0, 1) := by decide +kernel
theorem dX0_split_25 : decode cX0_split 25 = .ok (.iload 5, 2) := by decide +kernel
theorem dX0_split_27 : decode cX0_split 27 = .ok (.iaload, 1) := by decide +kernel
theorem dX0_split_28 : decode cX0_split 28 = .ok (.istore 6, 2) := by decide +kernel
theorem dX0_split_30 : decode cX0_split 30 = .ok (.iload 6, 2) := by decide +kernel
theorem dX0_split_32 : decode cX0_split 32 = .ok (.iload_n 3, 1) := by decide +kernel
theorem dX0_split_33 : decode cX0_split 33 = .ok (.invokestatic 33, 3) := by decide +kernel
theorem dX0_split_36 : decode cX0_split 36 = .ok (.ifCond .ne 20, 3) := by decide +kernel
theorem dX0_split_39 : decode cX0_split 39 = .ok (.aload_n 0, 1) := by decide +kernel
theorem dX0_split_40 : decode cX0_split 40 = .ok (.iload 5, 2) := by decide +kernel
theorem dX0_split_42 : decode cX0_split 42 = .ok (.aload_n 0, 1) := by decide +kernel
theorem dX0_split_43 : decode cX0_split 43 = .ok (.iload 4, 2) := by decide +kernel
theorem dX0_split_45 : decode cX0_split 45 = .ok (.iaload, 1) := by decide +kernel
theorem dX0_split_46 : decode cX0_split 46 = .ok (.iastore, 1) := by decide +kernel
theorem dX0_split_47 : decode cX0_split 47 = .ok (.aload_n 0, 1) := by decide +kernel
theorem dX0_split_48 : decode cX0_split 48 = .ok (.iload 4, 2) := by decide +kernel
theorem dX0_split_50 : decode cX0_split 50 = .ok (.iload 6, 2) := by decide +kernel
theorem dX0_split_52 : decode cX0_split 52 = .ok (.iastore, 1) := by decide +kernel
theorem dX0_split_53 : decode cX0_split 53 = .ok (.iinc 4 1, 3) := by decide +kernel
theorem dX0_split_56 : decode cX0_split 56 = .ok (.iinc 5 1, 3) := by decide +kernel
theorem dX0_split_59 : decode cX0_split 59 = .ok (.goto (-48), 3) := by decide +kernel
theorem dX0_split_62 : decode cX0_split 62 = .ok (.iload 4, 2) := by decide +kernel
theorem dX0_split_64 : decode cX0_split 64 = .ok (.ireturn, 1) := by decide +kernel
theorem dX0_has_0 : decode cX0_has 0 = .ok (.iload_n 0, 1) := by decide +kernel
theorem dX0_has_1 : decode cX0_has 1 = .ok (.iload_n 1, 1) := by decide +kernel
theorem dX0_has_2 : decode cX0_has 2 = .ok (.ishr, 1) := by decide +kernel
theorem dX0_has_3 : decode cX0_has 3 = .ok (.iconst 1, 1) := by decide +kernel
theorem dX0_has_4 : decode cX0_has 4 = .ok (.iand, 1) := by decide +kernel
theorem dX0_has_5 : decode cX0_has 5 = .ok (.iconst 1, 1) := by decide +kernel
theorem dX0_has_6 : decode cX0_has 6 = .ok (.if_icmp .ne 7, 3) := by decide +kernel
theorem dX0_has_9 : decode cX0_has 9 = .ok (.iconst 1, 1) := by decide +kernel
theorem dX0_has_10 : decode cX0_has 10 = .ok (.goto 4, 3) := by decide +kernel
theorem dX0_has_13 : decode cX0_has 13 = .ok (.iconst 0, 1) := by decide +kernel
theorem dX0_has_14 : decode cX0_has 14 = .ok (.ireturn, 1) := by decide +kernel
theorem dX1_init_0 : decode cX1_init 0 = .ok (.aload_n 0, 1) := by decide +kernel
theorem dX1_init_1 : decode cX1_init 1 = .ok (.invokespecial 1, 3) := by decide +kernel
theorem dX1_init_4 : decode cX1_init 4 = .ok (.aload_n 0, 1) := by decide +kernel
theorem dX1_init_5 : decode cX1_init 5 = .ok (.iload_n 1, 1) := by decide +kernel
theorem dX1_init_6 : decode cX1_init 6 = .ok (.putfield 7, 3) := by decide +kernel
theorem dX1_init_9 : decode cX1_init 9 = .ok (.aload_n 0, 1) := by decide +kernel
theorem dX1_init_10 : decode cX1_init 10 = .ok (.iload_n 2, 1) := by decide +kernel
theorem dX1_init_11 : decode cX1_init 11 = .ok (.putfield 13, 3) := by decide +kernel
theorem dX1_init_14 : decode cX1_init 14 = .ok (.aload_n 0, 1) := by decide +kernel
theorem dX1_init_15 : decode cX1_init 15 = .ok (.iload_n 3, 1) := by decide +kernel
theorem dX1_init_16 : decode cX1_init 16 = .ok (.putfield 16, 3) := by decide +kernel
theorem dX1_init_19 : decode cX1_init 19 = .ok (.aload_n 0, 1) := by decide +kernel
theorem dX1_init_20 : decode cX1_init 20 = .ok (.iload 4, 2) := by decide +kernel
theorem dX1_init_22 : decode cX1_init 22 = .ok (.putfield 19, 3) := by decide +kernel
theorem dX1_init_25 : decode cX1_init 25 = .ok (.aload_n 0, 1) := by decide +kernel
theorem dX1_init_26 : decode cX1_init 26 = .ok (.iload 5, 2) := by decide +kernel
theorem dX1_init_28 : decode cX1_init 28 = .ok (.putfield 22, 3) := by decide +kernel
theorem dX1_init_31 : decode cX1_init 31 = .ok (.return_, 1) := by decide +kernel
theorem dX1_isOpenTo_0 : decode cX1_isOpenTo 0 = .ok (.iload_n 1, 1) := by decide +kernel
theorem dX1_isOpenTo_1 : decode cX1_isOpenTo 1 = .ok (.aload_n 0, 1) := by decide +kernel
theorem dX1_isOpenTo_2 : decode cX1_isOpenTo 2 = .ok (.getfield 7, 3) := by decide +kernel
theorem dX1_isOpenTo_5 : decode cX1_isOpenTo 5 = .ok (.iand, 1) := by decide +kernel
theorem dX1_isOpenTo_6 : decode cX1_isOpenTo 6 = .ok (.aload_n 0, 1) := by decide +kernel
theorem dX1_isOpenTo_7 : decode cX1_isOpenTo 7 = .ok (.getfield 7, 3) := by decide +kernel
theorem dX1_isOpenTo_10 : decode cX1_isOpenTo 10 = .ok (.if_icmp .ne 23, 3) := by decide +kernel
theorem dX1_isOpenTo_13 : decode cX1_isOpenTo 13 = .ok (.aload_n 0, 1) := by decide +kernel
theorem dX1_isOpenTo_14 : decode cX1_isOpenTo 14 = .ok (.getfield 13, 3) := by decide +kernel
theorem dX1_isOpenTo_17 : decode cX1_isOpenTo 17 = .ok (.ifCond .eq 12, 3) := by decide +kernel
theorem dX1_isOpenTo_20 : decode cX1_isOpenTo 20 = .ok (.iload_n 1, 1) := by decide +kernel
theorem dX1_isOpenTo_21 : decode cX1_isOpenTo 21 = .ok (.aload_n 0, 1) := by decide +kernel
theorem dX1_isOpenTo_22 : decode cX1_isOpenTo 22 = .ok (.getfield 13, 3) := by decide +kernel
theorem dX1_isOpenTo_25 : decode cX1_isOpenTo 25 = .ok (.iand, 1) := by decide +kernel
theorem dX1_isOpenTo_26 : decode cX1_isOpenTo 26 = .ok (.ifCond .eq 7, 3) := by decide +kernel
theorem dX1_isOpenTo_29 : decode cX1_isOpenTo 29 = .ok (.iconst 1, 1) := by decide +kernel
theorem dX1_isOpenTo_30 : decode cX1_isOpenTo 30 = .ok (.goto 4, 3) := by decide +kernel
theorem dX1_isOpenTo_33 : decode cX1_isOpenTo 33 = .ok (.iconst 0, 1) := by decide +kernel
theorem dX1_isOpenTo_34 : decode cX1_isOpenTo 34 = .ok (.ireturn, 1) := by decide +kernel
theorem dX1_needed_0 : decode cX1_needed 0 = .ok (.aload_n 0, 1) := by decide +kernel
theorem dX1_needed_1 : decode cX1_needed 1 = .ok (.getfield 7, 3) := by decide +kernel
theorem dX1_needed_4 : decode cX1_needed 4 = .ok (.ireturn, 1) := by decide +kernel
theorem dX1_brings_0 : decode cX1_brings 0 = .ok (.iload_n 1, 1) := by decide +kernel
theorem dX1_brings_1 : decode cX1_brings 1 = .ok (.ifCond .eq 10, 3) := by decide +kernel
theorem dX1_brings_4 : decode cX1_brings 4 = .ok (.aload_n 0, 1) := by decide +kernel
theorem dX1_brings_5 : decode cX1_brings 5 = .ok (.getfield 19, 3) := by decide +kernel
theorem dX1_brings_8 : decode cX1_brings 8 = .ok (.goto 7, 3) := by decide +kernel
theorem dX1_brings_11 : decode cX1_brings 11 = .ok (.aload_n 0, 1) := by decide +kernel
theorem dX1_brings_12 : decode cX1_brings 12 = .ok (.getfield 16, 3) := by decide +kernel
theorem dX1_brings_15 : decode cX1_brings 15 = .ok (.ireturn, 1) := by decide +kernel
theorem dX1_minutesAt_0 : decode cX1_minutesAt 0 = .ok (.aload_n 0, 1) := by decide +kernel
theorem dX1_minutesAt_1 : decode cX1_minutesAt 1 = .ok (.getfield 22, 3) := by decide +kernel
theorem dX1_minutesAt_4 : decode cX1_minutesAt 4 = .ok (.iload_n 1, 1) := by decide +kernel
theorem dX1_minutesAt_5 : decode cX1_minutesAt 5 = .ok (.imul, 1) := by decide +kernel
theorem dX1_minutesAt_6 : decode cX1_minutesAt 6 = .ok (.istore_n 3, 1) := by decide +kernel
theorem dX1_minutesAt_7 : decode cX1_minutesAt 7 = .ok (.iload_n 2, 1) := by decide +kernel
theorem dX1_minutesAt_8 : decode cX1_minutesAt 8 = .ok (.ifCond .eq 11, 3) := by decide +kernel
theorem dX1_minutesAt_11 : decode cX1_minutesAt 11 = .ok (.iload_n 3, 1) := by decide +kernel
theorem dX1_minutesAt_12 : decode cX1_minutesAt 12 = .ok (.iconst 2, 1) := by decide +kernel
theorem dX1_minutesAt_13 : decode cX1_minutesAt 13 = .ok (.iadd, 1) := by decide +kernel
theorem dX1_minutesAt_14 : decode cX1_minutesAt 14 = .ok (.iconst 3, 1) := by decide +kernel
theorem dX1_minutesAt_15 : decode cX1_minutesAt 15 = .ok (.idiv, 1) := by decide +kernel
theorem dX1_minutesAt_16 : decode cX1_minutesAt 16 = .ok (.goto 4, 3) := by decide +kernel
theorem dX1_minutesAt_19 : decode cX1_minutesAt 19 = .ok (.iload_n 3, 1) := by decide +kernel
theorem dX1_minutesAt_20 : decode cX1_minutesAt 20 = .ok (.ireturn, 1) := by decide +kernel
theorem dX2_init_0 : decode cX2_init 0 = .ok (.aload_n 0, 1) := by decide +kernel
theorem dX2_init_1 : decode cX2_init 1 = .ok (.invokespecial 3, 3) := by decide +kernel
theorem dX2_init_4 : decode cX2_init 4 = .ok (.aload_n 0, 1) := by decide +kernel
theorem dX2_init_5 : decode cX2_init 5 = .ok (.bipush 12, 2) := by decide +kernel
theorem dX2_init_7 : decode cX2_init 7 = .ok (.newarray .int, 2) := by decide +kernel
theorem dX2_init_9 : decode cX2_init 9 = .ok (.putfield 9, 3) := by decide +kernel
theorem dX2_init_12 : decode cX2_init 12 = .ok (.aload_n 0, 1) := by decide +kernel
theorem dX2_init_13 : decode cX2_init 13 = .ok (.iconst 0, 1) := by decide +kernel
theorem dX2_init_14 : decode cX2_init 14 = .ok (.putfield 15, 3) := by decide +kernel
theorem dX2_init_17 : decode cX2_init 17 = .ok (.return_, 1) := by decide +kernel
theorem dX2_size_0 : decode cX2_size 0 = .ok (.aload_n 0, 1) := by decide +kernel
theorem dX2_size_1 : decode cX2_size 1 = .ok (.getfield 15, 3) := by decide +kernel
theorem dX2_size_4 : decode cX2_size 4 = .ok (.ireturn, 1) := by decide +kernel
theorem dX2_at_0 : decode cX2_at 0 = .ok (.iload_n 1, 1) := by decide +kernel
theorem dX2_at_1 : decode cX2_at 1 = .ok (.ifCond .lt 29, 3) := by decide +kernel
theorem dX2_at_4 : decode cX2_at 4 = .ok (.iload_n 1, 1) := by decide +kernel
theorem dX2_at_5 : decode cX2_at 5 = .ok (.aload_n 0, 1) := by decide +kernel
theorem dX2_at_6 : decode cX2_at 6 = .ok (.getfield 15, 3) := by decide +kernel
theorem dX2_at_9 : decode cX2_at 9 = .ok (.if_icmp .ge 21, 3) := by decide +kernel
theorem dX2_at_12 : decode cX2_at 12 = .ok (.iload_n 1, 1) := by decide +kernel
theorem dX2_at_13 : decode cX2_at 13 = .ok (.aload_n 0, 1) := by decide +kernel
theorem dX2_at_14 : decode cX2_at 14 = .ok (.getfield 9, 3) := by decide +kernel
theorem dX2_at_17 : decode cX2_at 17 = .ok (.arraylength, 1) := by decide +kernel
theorem dX2_at_18 : decode cX2_at 18 = .ok (.if_icmp .ge 12, 3) := by decide +kernel
theorem dX2_at_21 : decode cX2_at 21 = .ok (.aload_n 0, 1) := by decide +kernel
theorem dX2_at_22 : decode cX2_at 22 = .ok (.getfield 9, 3) := by decide +kernel
theorem dX2_at_25 : decode cX2_at 25 = .ok (.iload_n 1, 1) := by decide +kernel
theorem dX2_at_26 : decode cX2_at 26 = .ok (.iaload, 1) := by decide +kernel
theorem dX2_at_27 : decode cX2_at 27 = .ok (.goto 4, 3) := by decide +kernel
theorem dX2_at_30 : decode cX2_at 30 = .ok (.iconst (-1), 1) := by decide +kernel
theorem dX2_at_31 : decode cX2_at 31 = .ok (.ireturn, 1) := by decide +kernel
theorem dX2_clear_0 : decode cX2_clear 0 = .ok (.aload_n 0, 1) := by decide +kernel
theorem dX2_clear_1 : decode cX2_clear 1 = .ok (.iconst 0, 1) := by decide +kernel
theorem dX2_clear_2 : decode cX2_clear 2 = .ok (.putfield 15, 3) := by decide +kernel
theorem dX2_clear_5 : decode cX2_clear 5 = .ok (.return_, 1) := by decide +kernel
theorem dX2_add_0 : decode cX2_add 0 = .ok (.aload_n 0, 1) := by decide +kernel
theorem dX2_add_1 : decode cX2_add 1 = .ok (.getfield 15, 3) := by decide +kernel
theorem dX2_add_4 : decode cX2_add 4 = .ok (.ifCond .lt 35, 3) := by decide +kernel
theorem dX2_add_7 : decode cX2_add 7 = .ok (.aload_n 0, 1) := by decide +kernel
theorem dX2_add_8 : decode cX2_add 8 = .ok (.getfield 15, 3) := by decide +kernel
theorem dX2_add_11 : decode cX2_add 11 = .ok (.aload_n 0, 1) := by decide +kernel
theorem dX2_add_12 : decode cX2_add 12 = .ok (.getfield 9, 3) := by decide +kernel
theorem dX2_add_15 : decode cX2_add 15 = .ok (.arraylength, 1) := by decide +kernel
theorem dX2_add_16 : decode cX2_add 16 = .ok (.if_icmp .ge 23, 3) := by decide +kernel
theorem dX2_add_19 : decode cX2_add 19 = .ok (.aload_n 0, 1) := by decide +kernel
theorem dX2_add_20 : decode cX2_add 20 = .ok (.getfield 9, 3) := by decide +kernel
theorem dX2_add_23 : decode cX2_add 23 = .ok (.aload_n 0, 1) := by decide +kernel
theorem dX2_add_24 : decode cX2_add 24 = .ok (.getfield 15, 3) := by decide +kernel
theorem dX2_add_27 : decode cX2_add 27 = .ok (.iload_n 1, 1) := by decide +kernel
theorem dX2_add_28 : decode cX2_add 28 = .ok (.iastore, 1) := by decide +kernel
theorem dX2_add_29 : decode cX2_add 29 = .ok (.aload_n 0, 1) := by decide +kernel
theorem dX2_add_30 : decode cX2_add 30 = .ok (.dup, 1) := by decide +kernel
theorem dX2_add_31 : decode cX2_add 31 = .ok (.getfield 15, 3) := by decide +kernel
theorem dX2_add_34 : decode cX2_add 34 = .ok (.iconst 1, 1) := by decide +kernel
theorem dX2_add_35 : decode cX2_add 35 = .ok (.iadd, 1) := by decide +kernel
theorem dX2_add_36 : decode cX2_add 36 = .ok (.putfield 15, 3) := by decide +kernel
theorem dX2_add_39 : decode cX2_add 39 = .ok (.return_, 1) := by decide +kernel
set_option maxRecDepth 20000 in
theorem ggX2_become_X2_clear : GoodIn wsX2_become wsX2_clear := goodIn_r _ [5, 6, 20, 21] (by decide +kernel) (by decide +kernel)
set_option maxRecDepth 20000 in
theorem gX2_become_X2_clear : GoodIn wsX2_become (wsV RX2 19 RX2 yX2_clear wsX2_clear) := goodIn_app (goodIn_of _ (by decide +kernel)) ggX2_become_X2_clear
set_option maxRecDepth 20000 in
theorem ggX2_become_X2_size : GoodIn wsX2_become wsX2_size := goodIn_r _ [10, 6, 20, 21] (by decide +kernel) (by decide +kernel)
set_option maxRecDepth 20000 in
theorem gX2_become_X2_size : GoodIn wsX2_become (wsV RX2 22 RX2 yX2_size wsX2_size) := goodIn_app (goodIn_of _ (by decide +kernel)) ggX2_become_X2_size
set_option maxRecDepth 20000 in
theorem ggX2_become_X2_at : GoodIn wsX2_become wsX2_at := goodIn_r _ [14, 6, 15, 20, 21] (by decide +kernel) (by decide +kernel)
set_option maxRecDepth 20000 in
theorem gX2_become_X2_at : GoodIn wsX2_become (wsV RX2 26 RX2 yX2_at wsX2_at) := goodIn_app (goodIn_of _ (by decide +kernel)) ggX2_become_X2_at
set_option maxRecDepth 20000 in
theorem ggX2_become_X2_add : GoodIn wsX2_become wsX2_add := goodIn_r _ [19, 6, 15, 20, 21] (by decide +kernel) (by decide +kernel)
set_option maxRecDepth 20000 in
theorem gX2_become_X2_add : GoodIn wsX2_become (wsV RX2 30 RX2 yX2_add wsX2_add) := goodIn_app (goodIn_of _ (by decide +kernel)) ggX2_become_X2_add
theorem dX2_become_0 : decode cX2_become 0 = .ok (.aload_n 0, 1) := by decide +kernel
theorem dX2_become_1 : decode cX2_become 1 = .ok (.invokevirtual 19, 3) := by decide +kernel
theorem dX2_become_4 : decode cX2_become 4 = .ok (.iconst 0, 1) := by decide +kernel
theorem dX2_become_5 : decode cX2_become 5 = .ok (.istore_n 2, 1) := by decide +kernel
theorem dX2_become_6 : decode cX2_become 6 = .ok (.iload_n 2, 1) := by decide +kernel
theorem dX2_become_7 : decode cX2_become 7 = .ok (.aload_n 1, 1) := by decide +kernel
theorem dX2_become_8 : decode cX2_become 8 = .ok (.invokevirtual 22, 3) := by decide +kernel
theorem dX2_become_11 : decode cX2_become 11 = .ok (.if_icmp .ge 18, 3) := by decide +kernel
theorem dX2_become_14 : decode cX2_become 14 = .ok (.aload_n 0, 1) := by decide +kernel
theorem dX2_become_15 : decode cX2_become 15 = .ok (.aload_n 1, 1) := by decide +kernel
theorem dX2_become_16 : decode cX2_become 16 = .ok (.iload_n 2, 1) := by decide +kernel
theorem dX2_become_17 : decode cX2_become 17 = .ok (.invokevirtual 26, 3) := by decide +kernel
theorem dX2_become_20 : decode cX2_become 20 = .ok (.invokevirtual 30, 3) := by decide +kernel
theorem dX2_become_23 : decode cX2_become 23 = .ok (.iinc 2 1, 3) := by decide +kernel
theorem dX2_become_26 : decode cX2_become 26 = .ok (.goto (-20), 3) := by decide +kernel
theorem dX2_become_29 : decode cX2_become 29 = .ok (.return_, 1) := by decide +kernel
set_option maxRecDepth 20000 in
theorem ggX3_init_Jx4a65c_init_da8c8 : GoodIn wsX3_init wsJx4a65c_init_da8c8 := goodIn_r _ [11, 12, 13, 14, 15, 16, 17, 18, 19, 20, 21, 22, 23, 2, 3, 24, 25, 26] (by decide +kernel) (by decide +kernel)
set_option maxRecDepth 20000 in
theorem gX3_init_Jx4a65c_init_da8c8 : GoodIn wsX3_init (wsJx4a65c_init_da8c8) := ggX3_init_Jx4a65c_init_da8c8
theorem dX3_init_0 : decode cX3_init 0 = .ok (.aload_n 0, 1) := by decide +kernel
theorem dX3_init_1 : decode cX3_init 1 = .ok (.invokespecial 3, 3) := by decide +kernel
theorem dX3_init_4 : decode cX3_init 4 = .ok (.aload_n 0, 1) := by decide +kernel
theorem dX3_init_5 : decode cX3_init 5 = .ok (.new 9, 3) := by decide +kernel
theorem dX3_init_8 : decode cX3_init 8 = .ok (.dup, 1) := by decide +kernel
theorem dX3_init_9 : decode cX3_init 9 = .ok (.invokespecial 11, 3) := by decide +kernel
theorem dX3_init_12 : decode cX3_init 12 = .ok (.putfield 12, 3) := by decide +kernel
theorem dX3_init_15 : decode cX3_init 15 = .ok (.aload_n 0, 1) := by decide +kernel
theorem dX3_init_16 : decode cX3_init 16 = .ok (.iconst 2, 1) := by decide +kernel
theorem dX3_init_17 : decode cX3_init 17 = .ok (.putfield 18, 3) := by decide +kernel
theorem dX3_init_20 : decode cX3_init 20 = .ok (.return_, 1) := by decide +kernel
set_option maxRecDepth 20000 in
theorem ggX3_size_Jx4a65c_size_8abf5 : GoodIn wsX3_size wsJx4a65c_size_8abf5 := goodIn_r _ [6, 7, 10, 11, 12] (by decide +kernel) (by decide +kernel)
set_option maxRecDepth 20000 in
theorem gX3_size_Jx4a65c_size_8abf5_f22Jx4a65c : GoodIn wsX3_size (va_wsF RX3 22 RJx4a65c ⟨"java/util/List", "size", "()I"⟩ yJx4a65c_size_8abf5 wsJx4a65c_size_8abf5) := goodIn_app (goodIn_of _ (by decide +kernel)) ggX3_size_Jx4a65c_size_8abf5
theorem dX3_size_0 : decode cX3_size 0 = .ok (.aload_n 0, 1) := by decide +kernel
theorem dX3_size_1 : decode cX3_size 1 = .ok (.getfield 12, 3) := by decide +kernel
theorem dX3_size_4 : decode cX3_size 4 = .ok (.invokeinterface 22 1, 5) := by decide +kernel
theorem dX3_size_9 : decode cX3_size 9 = .ok (.ireturn, 1) := by decide +kernel
theorem dX3_currentPace_0 : decode cX3_currentPace 0 = .ok (.aload_n 0, 1) := by decide +kernel
theorem dX3_currentPace_1 : decode cX3_currentPace 1 = .ok (.getfield 18, 3) := by decide +kernel
theorem dX3_currentPace_4 : decode cX3_currentPace 4 = .ok (.ireturn, 1) := by decide +kernel
theorem dX3_changePace_0 : decode cX3_changePace 0 = .ok (.aload_n 0, 1) := by decide +kernel
theorem dX3_changePace_1 : decode cX3_changePace 1 = .ok (.getfield 18, 3) := by decide +kernel
theorem dX3_changePace_4 : decode cX3_changePace 4 = .ok (.istore_n 2, 1) := by decide +kernel
theorem dX3_changePace_5 : decode cX3_changePace 5 = .ok (.aload_n 0, 1) := by decide +kernel
theorem dX3_changePace_6 : decode cX3_changePace 6 = .ok (.iload_n 1, 1) := by decide +kernel
theorem dX3_changePace_7 : decode cX3_changePace 7 = .ok (.putfield 18, 3) := by decide +kernel
theorem dX3_changePace_10 : decode cX3_changePace 10 = .ok (.iload_n 2, 1) := by decide +kernel
theorem dX3_changePace_11 : decode cX3_changePace 11 = .ok (.ireturn, 1) := by decide +kernel
set_option maxRecDepth 20000 in
theorem ggX3_add_Jx4a65c_size_8abf5 : GoodIn wsX3_add wsJx4a65c_size_8abf5 := goodIn_r _ [6, 7, 64, 65, 66] (by decide +kernel) (by decide +kernel)
set_option maxRecDepth 20000 in
theorem gX3_add_Jx4a65c_size_8abf5_f22Jx4a65c : GoodIn wsX3_add (va_wsF RX3 22 RJx4a65c ⟨"java/util/List", "size", "()I"⟩ yJx4a65c_size_8abf5 wsJx4a65c_size_8abf5) := goodIn_app (goodIn_of _ (by decide +kernel)) ggX3_add_Jx4a65c_size_8abf5
set_option maxRecDepth 20000 in
theorem ggX3_add_Jx4a65c_add_9ea2d : GoodIn wsX3_add wsJx4a65c_add_9ea2d := goodIn_r _ [11, 12, 13, 14, 7, 15, 16, 17, 5, 18, 19, 20, 21, 22, 23, 24, 25, 26, 27, 28, 29, 30, 31, 32, 33, 34, 35, 36, 37, 38, 39, 40, 41, 42, 43, 44, 45, 46, 47, 48, 49, 50, 51, 52, 53, 54, 55, 56, 57, 58, 59, 60, 61, 64, 65, 66] (by decide +kernel) (by decide +kernel)
set_option maxRecDepth 20000 in
theorem gX3_add_Jx4a65c_add_9ea2d_f28Jx4a65c : GoodIn wsX3_add (va_wsF RX3 28 RJx4a65c ⟨"java/util/List", "add", "(Ljava/lang/Object;)Z"⟩ yJx4a65c_add_9ea2d wsJx4a65c_add_9ea2d) := goodIn_app (goodIn_of _ (by decide +kernel)) ggX3_add_Jx4a65c_add_9ea2d
theorem dX3_add_0 : decode cX3_add 0 = .ok (.aload_n 0, 1) := by decide +kernel
theorem dX3_add_1 : decode cX3_add 1 = .ok (.getfield 12, 3) := by decide +kernel
theorem dX3_add_4 : decode cX3_add 4 = .ok (.invokeinterface 22 1, 5) := by decide +kernel
theorem dX3_add_9 : decode cX3_add 9 = .ok (.bipush 14, 2) := by decide +kernel
theorem dX3_add_11 : decode cX3_add 11 = .ok (.if_icmp .lt 5, 3) := by decide +kernel
theorem dX3_add_14 : decode cX3_add 14 = .ok (.iconst (-1), 1) := by decide +kernel
theorem dX3_add_15 : decode cX3_add 15 = .ok (.ireturn, 1) := by decide +kernel
theorem dX3_add_16 : decode cX3_add 16 = .ok (.aload_n 0, 1) := by decide +kernel
theorem dX3_add_17 : decode cX3_add 17 = .ok (.getfield 12, 3) := by decide +kernel
theorem dX3_add_20 : decode cX3_add 20 = .ok (.aload_n 1, 1) := by decide +kernel
theorem dX3_add_21 : decode cX3_add 21 = .ok (.invokeinterface 28 2, 5) := by decide +kernel
theorem dX3_add_26 : decode cX3_add 26 = .ok (.pop, 1) := by decide +kernel
theorem dX3_add_27 : decode cX3_add 27 = .ok (.aload_n 0, 1) := by decide +kernel
theorem dX3_add_28 : decode cX3_add 28 = .ok (.getfield 12, 3) := by decide +kernel
theorem dX3_add_31 : decode cX3_add 31 = .ok (.invokeinterface 22 1, 5) := by decide +kernel
theorem dX3_add_36 : decode cX3_add 36 = .ok (.iconst 1, 1) := by decide +kernel
theorem dX3_add_37 : decode cX3_add 37 = .ok (.isub, 1) := by decide +kernel
theorem dX3_add_38 : decode cX3_add 38 = .ok (.ireturn, 1) := by decide +kernel
set_option maxRecDepth 20000 in
theorem ggX3_removeLast_Jx4a65c_isEmpty_aae02 : GoodIn wsX3_removeLast wsJx4a65c_isEmpty_aae02 := goodIn_r _ [6, 7, 37, 38, 39] (by decide +kernel) (by decide +kernel)
set_option maxRecDepth 20000 in
theorem gX3_removeLast_Jx4a65c_isEmpty_aae02_f32Jx4a65c : GoodIn wsX3_removeLast (va_wsF RX3 32 RJx4a65c ⟨"java/util/List", "isEmpty", "()Z"⟩ yJx4a65c_isEmpty_aae02 wsJx4a65c_isEmpty_aae02) := goodIn_app (goodIn_of _ (by decide +kernel)) ggX3_removeLast_Jx4a65c_isEmpty_aae02
set_option maxRecDepth 20000 in
theorem ggX3_removeLast_Jx4a65c_size_8abf5 : GoodIn wsX3_removeLast wsJx4a65c_size_8abf5 := goodIn_r _ [11, 7, 37, 38, 39] (by decide +kernel) (by decide +kernel)
set_option maxRecDepth 20000 in
theorem gX3_removeLast_Jx4a65c_size_8abf5_f22Jx4a65c : GoodIn wsX3_removeLast (va_wsF RX3 22 RJx4a65c ⟨"java/util/List", "size", "()I"⟩ yJx4a65c_size_8abf5 wsJx4a65c_size_8abf5) := goodIn_app (goodIn_of _ (by decide +kernel)) ggX3_removeLast_Jx4a65c_size_8abf5
set_option maxRecDepth 20000 in
theorem ggX3_removeLast_Jx4a65c_remove_915e3 : GoodIn wsX3_removeLast wsJx4a65c_remove_915e3 := goodIn_r _ [15, 7, 16, 17, 18, 19, 20, 21, 22, 23, 24, 25, 26, 27, 5, 28, 29, 30, 31, 32, 33, 34, 37, 38, 39] (by decide +kernel) (by decide +kernel)
set_option maxRecDepth 20000 in
theorem gX3_removeLast_Jx4a65c_remove_915e3_f36Jx4a65c : GoodIn wsX3_removeLast (va_wsF RX3 36 RJx4a65c ⟨"java/util/List", "remove", "(I)Ljava/lang/Object;"⟩ yJx4a65c_remove_915e3 wsJx4a65c_remove_915e3) := goodIn_app (goodIn_of _ (by decide +kernel)) ggX3_removeLast_Jx4a65c_remove_915e3
theorem dX3_removeLast_0 : decode cX3_removeLast 0 = .ok (.aload_n 0, 1) := by decide +kernel
theorem dX3_removeLast_1 : decode cX3_removeLast 1 = .ok (.getfield 12, 3) := by decide +kernel
theorem dX3_removeLast_4 : decode cX3_removeLast 4 = .ok (.invokeinterface 32 1, 5) := by decide +kernel
theorem dX3_removeLast_9 : decode cX3_removeLast 9 = .ok (.ifCond .eq 5, 3) := by decide +kernel
theorem dX3_removeLast_12 : decode cX3_removeLast 12 = .ok (.iconst (-1), 1) := by decide +kernel
theorem dX3_removeLast_13 : decode cX3_removeLast 13 = .ok (.ireturn, 1) := by decide +kernel
theorem dX3_removeLast_14 : decode cX3_removeLast 14 = .ok (.aload_n 0, 1) := by decide +kernel
theorem dX3_removeLast_15 : decode cX3_removeLast 15 = .ok (.getfield 12, 3) := by decide +kernel
theorem dX3_removeLast_18 : decode cX3_removeLast 18 = .ok (.aload_n 0, 1) := by decide +kernel
theorem dX3_removeLast_19 : decode cX3_removeLast 19 = .ok (.getfield 12, 3) := by decide +kernel
theorem dX3_removeLast_22 : decode cX3_removeLast 22 = .ok (.invokeinterface 22 1, 5) := by decide +kernel
theorem dX3_removeLast_27 : decode cX3_removeLast 27 = .ok (.iconst 1, 1) := by decide +kernel
theorem dX3_removeLast_28 : decode cX3_removeLast 28 = .ok (.isub, 1) := by decide +kernel
theorem dX3_removeLast_29 : decode cX3_removeLast 29 = .ok (.invokeinterface 36 2, 5) := by decide +kernel
theorem dX3_removeLast_34 : decode cX3_removeLast 34 = .ok (.pop, 1) := by decide +kernel
theorem dX3_removeLast_35 : decode cX3_removeLast 35 = .ok (.aload_n 0, 1) := by decide +kernel
theorem dX3_removeLast_36 : decode cX3_removeLast 36 = .ok (.getfield 12, 3) := by decide +kernel
theorem dX3_removeLast_39 : decode cX3_removeLast 39 = .ok (.invokeinterface 22 1, 5) := by decide +kernel
theorem dX3_removeLast_44 : decode cX3_removeLast 44 = .ok (.ireturn, 1) := by decide +kernel
set_option maxRecDepth 20000 in
theorem ggX3_pieceOf_Jx4a65c_size_8abf5 : GoodIn wsX3_pieceOf wsJx4a65c_size_8abf5 := goodIn_r _ [7, 8, 28, 29, 30] (by decide +kernel) (by decide +kernel)
set_option maxRecDepth 20000 in
theorem gX3_pieceOf_Jx4a65c_size_8abf5_f22Jx4a65c : GoodIn wsX3_pieceOf (va_wsF RX3 22 RJx4a65c ⟨"java/util/List", "size", "()I"⟩ yJx4a65c_size_8abf5 wsJx4a65c_size_8abf5) := goodIn_app (goodIn_of _ (by decide +kernel)) ggX3_pieceOf_Jx4a65c_size_8abf5
set_option maxRecDepth 20000 in
theorem ggX3_pieceOf_Jx4a65c_get_915e3 : GoodIn wsX3_pieceOf wsJx4a65c_get_915e3 := goodIn_r _ [12, 8, 13, 14, 15, 16, 17, 18, 19, 20, 21, 22, 23, 6, 24, 25, 28, 29, 30] (by decide +kernel) (by decide +kernel)
set_option maxRecDepth 20000 in
theorem gX3_pieceOf_Jx4a65c_get_915e3_f40Jx4a65c : GoodIn wsX3_pieceOf (va_wsF RX3 40 RJx4a65c ⟨"java/util/List", "get", "(I)Ljava/lang/Object;"⟩ yJx4a65c_get_915e3 wsJx4a65c_get_915e3) := goodIn_app (goodIn_of _ (by decide +kernel)) ggX3_pieceOf_Jx4a65c_get_915e3
theorem dX3_pieceOf_0 : decode cX3_pieceOf 0 = .ok (.iload_n 1, 1) := by decide +kernel
theorem dX3_pieceOf_1 : decode cX3_pieceOf 1 = .ok (.iconst 1, 1) := by decide +kernel
theorem dX3_pieceOf_2 : decode cX3_pieceOf 2 = .ok (.ishr, 1) := by decide +kernel
theorem dX3_pieceOf_3 : decode cX3_pieceOf 3 = .ok (.istore_n 2, 1) := by decide +kernel
theorem dX3_pieceOf_4 : decode cX3_pieceOf 4 = .ok (.iload_n 2, 1) := by decide +kernel
theorem dX3_pieceOf_5 : decode cX3_pieceOf 5 = .ok (.ifCond .lt 32, 3) := by decide +kernel
theorem dX3_pieceOf_8 : decode cX3_pieceOf 8 = .ok (.iload_n 2, 1) := by decide +kernel
theorem dX3_pieceOf_9 : decode cX3_pieceOf 9 = .ok (.aload_n 0, 1) := by decide +kernel
theorem dX3_pieceOf_10 : decode cX3_pieceOf 10 = .ok (.getfield 12, 3) := by decide +kernel
theorem dX3_pieceOf_13 : decode cX3_pieceOf 13 = .ok (.invokeinterface 22 1, 5) := by decide +kernel
theorem dX3_pieceOf_18 : decode cX3_pieceOf 18 = .ok (.if_icmp .ge 19, 3) := by decide +kernel
theorem dX3_pieceOf_21 : decode cX3_pieceOf 21 = .ok (.aload_n 0, 1) := by decide +kernel
theorem dX3_pieceOf_22 : decode cX3_pieceOf 22 = .ok (.getfield 12, 3) := by decide +kernel
theorem dX3_pieceOf_25 : decode cX3_pieceOf 25 = .ok (.iload_n 2, 1) := by decide +kernel
theorem dX3_pieceOf_26 : decode cX3_pieceOf 26 = .ok (.invokeinterface 40 2, 5) := by decide +kernel
theorem dX3_pieceOf_31 : decode cX3_pieceOf 31 = .ok (.checkcast 43, 3) := by decide +kernel
theorem dX3_pieceOf_34 : decode cX3_pieceOf 34 = .ok (.goto 4, 3) := by decide +kernel
theorem dX3_pieceOf_37 : decode cX3_pieceOf 37 = .ok (.aconst_null, 1) := by decide +kernel
theorem dX3_pieceOf_38 : decode cX3_pieceOf 38 = .ok (.areturn, 1) := by decide +kernel
set_option maxRecDepth 20000 in
theorem ggX3_minutesOf_X3_pieceOf : GoodIn wsX3_minutesOf wsX3_pieceOf := goodIn_r _ [6, 7, 8, 9, 10, 11, 12, 13, 14, 15, 16, 17, 18, 19, 20, 21, 22, 23, 24, 25, 26, 27, 28, 29, 30, 31, 41, 42, 43, 44, 45] (by decide +kernel) (by decide +kernel)
set_option maxRecDepth 20000 in
theorem gX3_minutesOf_X3_pieceOf : GoodIn wsX3_minutesOf (wsV RX3 45 RX3 yX3_pieceOf wsX3_pieceOf) := goodIn_app (goodIn_of _ (by decide +kernel)) ggX3_minutesOf_X3_pieceOf
set_option maxRecDepth 20000 in
theorem ggX3_minutesOf_X7_isSkimmed : GoodIn wsX3_minutesOf wsX7_isSkimmed := goodIn_r _ [34] (by decide +kernel) (by decide +kernel)
set_option maxRecDepth 20000 in
theorem gX3_minutesOf_X7_isSkimmed_n49 : GoodIn wsX3_minutesOf (wsX7_isSkimmed) := ggX3_minutesOf_X7_isSkimmed
set_option maxRecDepth 20000 in
theorem ggX3_minutesOf_X1_minutesAt : GoodIn wsX3_minutesOf wsX1_minutesAt := goodIn_r _ [39, 40, 46, 47, 48, 49, 50] (by decide +kernel) (by decide +kernel)
set_option maxRecDepth 20000 in
theorem gX3_minutesOf_X1_minutesAt : GoodIn wsX3_minutesOf (wsV RX3 53 RX1 yX1_minutesAt wsX1_minutesAt) := goodIn_app (goodIn_of _ (by decide +kernel)) ggX3_minutesOf_X1_minutesAt
theorem dX3_minutesOf_0 : decode cX3_minutesOf 0 = .ok (.aload_n 0, 1) := by decide +kernel
theorem dX3_minutesOf_1 : decode cX3_minutesOf 1 = .ok (.iload_n 1, 1) := by decide +kernel
theorem dX3_minutesOf_2 : decode cX3_minutesOf 2 = .ok (.invokevirtual 45, 3) := by decide +kernel
theorem dX3_minutesOf_5 : decode cX3_minutesOf 5 = .ok (.astore_n 2, 1) := by decide +kernel
theorem dX3_minutesOf_6 : decode cX3_minutesOf 6 = .ok (.aload_n 2, 1) := by decide +kernel
theorem dX3_minutesOf_7 : decode cX3_minutesOf 7 = .ok (.ifnonnull 7, 3) := by decide +kernel
theorem dX3_minutesOf_10 : decode cX3_minutesOf 10 = .ok (.iconst (-1), 1) := by decide +kernel
theorem dX3_minutesOf_11 : decode cX3_minutesOf 11 = .ok (.goto 15, 3) := by decide +kernel
theorem dX3_minutesOf_14 : decode cX3_minutesOf 14 = .ok (.aload_n 2, 1) := by decide +kernel
theorem dX3_minutesOf_15 : decode cX3_minutesOf 15 = .ok (.aload_n 0, 1) := by decide +kernel
theorem dX3_minutesOf_16 : decode cX3_minutesOf 16 = .ok (.getfield 18, 3) := by decide +kernel
theorem dX3_minutesOf_19 : decode cX3_minutesOf 19 = .ok (.iload_n 1, 1) := by decide +kernel
theorem dX3_minutesOf_20 : decode cX3_minutesOf 20 = .ok (.invokestatic 49, 3) := by decide +kernel
theorem dX3_minutesOf_23 : decode cX3_minutesOf 23 = .ok (.invokevirtual 53, 3) := by decide +kernel
theorem dX3_minutesOf_26 : decode cX3_minutesOf 26 = .ok (.ireturn, 1) := by decide +kernel
set_option maxRecDepth 20000 in
theorem ggX3_readAllOpenTo_Jx4a65c_size_8abf5 : GoodIn wsX3_readAllOpenTo wsJx4a65c_size_8abf5 := goodIn_r _ [7, 8, 41, 42, 43] (by decide +kernel) (by decide +kernel)
set_option maxRecDepth 20000 in
theorem gX3_readAllOpenTo_Jx4a65c_size_8abf5_f22Jx4a65c : GoodIn wsX3_readAllOpenTo (va_wsF RX3 22 RJx4a65c ⟨"java/util/List", "size", "()I"⟩ yJx4a65c_size_8abf5 wsJx4a65c_size_8abf5) := goodIn_app (goodIn_of _ (by decide +kernel)) ggX3_readAllOpenTo_Jx4a65c_size_8abf5
set_option maxRecDepth 20000 in
theorem ggX3_readAllOpenTo_Jx4a65c_get_915e3 : GoodIn wsX3_readAllOpenTo wsJx4a65c_get_915e3 := goodIn_r _ [12, 8, 13, 14, 15, 16, 17, 18, 19, 20, 21, 22, 23, 6, 24, 25, 41, 42, 43] (by decide +kernel) (by decide +kernel)
set_option maxRecDepth 20000 in
theorem gX3_readAllOpenTo_Jx4a65c_get_915e3_f40Jx4a65c : GoodIn wsX3_readAllOpenTo (va_wsF RX3 40 RJx4a65c ⟨"java/util/List", "get", "(I)Ljava/lang/Object;"⟩ yJx4a65c_get_915e3 wsJx4a65c_get_915e3) := goodIn_app (goodIn_of _ (by decide +kernel)) ggX3_readAllOpenTo_Jx4a65c_get_915e3
set_option maxRecDepth 20000 in
theorem ggX3_readAllOpenTo_X1_isOpenTo : GoodIn wsX3_readAllOpenTo wsX1_isOpenTo := goodIn_r _ [30, 31, 32, 44, 45, 46, 47, 48] (by decide +kernel) (by decide +kernel)
set_option maxRecDepth 20000 in
theorem gX3_readAllOpenTo_X1_isOpenTo : GoodIn wsX3_readAllOpenTo (wsV RX3 57 RX1 yX1_isOpenTo wsX1_isOpenTo) := goodIn_app (goodIn_of _ (by decide +kernel)) ggX3_readAllOpenTo_X1_isOpenTo
set_option maxRecDepth 20000 in
theorem ggX3_readAllOpenTo_X1_brings : GoodIn wsX3_readAllOpenTo wsX1_brings := goodIn_r _ [36, 37, 38, 44, 45, 46, 47, 48] (by decide +kernel) (by decide +kernel)
set_option maxRecDepth 20000 in
theorem gX3_readAllOpenTo_X1_brings : GoodIn wsX3_readAllOpenTo (wsV RX3 60 RX1 yX1_brings wsX1_brings) := goodIn_app (goodIn_of _ (by decide +kernel)) ggX3_readAllOpenTo_X1_brings
theorem dX3_readAllOpenTo_0 : decode cX3_readAllOpenTo 0 = .ok (.iload_n 1, 1) := by decide +kernel
theorem dX3_readAllOpenTo_1 : decode cX3_readAllOpenTo 1 = .ok (.istore_n 2, 1) := by decide +kernel
theorem dX3_readAllOpenTo_2 : decode cX3_readAllOpenTo 2 = .ok (.iconst 0, 1) := by decide +kernel
theorem dX3_readAllOpenTo_3 : decode cX3_readAllOpenTo 3 = .ok (.istore_n 3, 1) := by decide +kernel
theorem dX3_readAllOpenTo_4 : decode cX3_readAllOpenTo 4 = .ok (.iload_n 3, 1) := by decide +kernel
theorem dX3_readAllOpenTo_5 : decode cX3_readAllOpenTo 5 = .ok (.aload_n 0, 1) := by decide +kernel
theorem dX3_readAllOpenTo_6 : decode cX3_readAllOpenTo 6 = .ok (.getfield 12, 3) := by decide +kernel
theorem dX3_readAllOpenTo_9 : decode cX3_readAllOpenTo 9 = .ok (.invokeinterface 22 1, 5) := by decide +kernel
theorem dX3_readAllOpenTo_14 : decode cX3_readAllOpenTo 14 = .ok (.if_icmp .ge 42, 3) := by decide +kernel
theorem dX3_readAllOpenTo_17 : decode cX3_readAllOpenTo 17 = .ok (.aload_n 0, 1) := by decide +kernel
theorem dX3_readAllOpenTo_18 : decode cX3_readAllOpenTo 18 = .ok (.getfield 12, 3) := by decide +kernel
theorem dX3_readAllOpenTo_21 : decode cX3_readAllOpenTo 21 = .ok (.iload_n 3, 1) := by decide +kernel
theorem dX3_readAllOpenTo_22 : decode cX3_readAllOpenTo 22 = .ok (.invokeinterface 40 2, 5) := by decide +kernel
theorem dX3_readAllOpenTo_27 : decode cX3_readAllOpenTo 27 = .ok (.checkcast 43, 3) := by decide +kernel
theorem dX3_readAllOpenTo_30 : decode cX3_readAllOpenTo 30 = .ok (.astore 4, 2) := by decide +kernel
theorem dX3_readAllOpenTo_32 : decode cX3_readAllOpenTo 32 = .ok (.aload 4, 2) := by decide +kernel
theorem dX3_readAllOpenTo_34 : decode cX3_readAllOpenTo 34 = .ok (.iload_n 2, 1) := by decide +kernel
theorem dX3_readAllOpenTo_35 : decode cX3_readAllOpenTo 35 = .ok (.invokevirtual 57, 3) := by decide +kernel
theorem dX3_readAllOpenTo_38 : decode cX3_readAllOpenTo 38 = .ok (.ifCond .eq 12, 3) := by decide +kernel
theorem dX3_readAllOpenTo_41 : decode cX3_readAllOpenTo 41 = .ok (.iload_n 2, 1) := by decide +kernel
theorem dX3_readAllOpenTo_42 : decode cX3_readAllOpenTo 42 = .ok (.aload 4, 2) := by decide +kernel
theorem dX3_readAllOpenTo_44 : decode cX3_readAllOpenTo 44 = .ok (.iconst 0, 1) := by decide +kernel
theorem dX3_readAllOpenTo_45 : decode cX3_readAllOpenTo 45 = .ok (.invokevirtual 60, 3) := by decide +kernel
theorem dX3_readAllOpenTo_48 : decode cX3_readAllOpenTo 48 = .ok (.ior, 1) := by decide +kernel
theorem dX3_readAllOpenTo_49 : decode cX3_readAllOpenTo 49 = .ok (.istore_n 2, 1) := by decide +kernel
theorem dX3_readAllOpenTo_50 : decode cX3_readAllOpenTo 50 = .ok (.iinc 3 1, 3) := by decide +kernel
theorem dX3_readAllOpenTo_53 : decode cX3_readAllOpenTo 53 = .ok (.goto (-49), 3) := by decide +kernel
theorem dX3_readAllOpenTo_56 : decode cX3_readAllOpenTo 56 = .ok (.iload_n 2, 1) := by decide +kernel
theorem dX3_readAllOpenTo_57 : decode cX3_readAllOpenTo 57 = .ok (.ireturn, 1) := by decide +kernel
set_option maxRecDepth 20000 in
theorem ggX3_allNeeded_Jx4a65c_size_8abf5 : GoodIn wsX3_allNeeded wsJx4a65c_size_8abf5 := goodIn_r _ [7, 8, 34, 35, 36] (by decide +kernel) (by decide +kernel)
set_option maxRecDepth 20000 in
theorem gX3_allNeeded_Jx4a65c_size_8abf5_f22Jx4a65c : GoodIn wsX3_allNeeded (va_wsF RX3 22 RJx4a65c ⟨"java/util/List", "size", "()I"⟩ yJx4a65c_size_8abf5 wsJx4a65c_size_8abf5) := goodIn_app (goodIn_of _ (by decide +kernel)) ggX3_allNeeded_Jx4a65c_size_8abf5
set_option maxRecDepth 20000 in
theorem ggX3_allNeeded_Jx4a65c_get_915e3 : GoodIn wsX3_allNeeded wsJx4a65c_get_915e3 := goodIn_r _ [12, 8, 13, 14, 15, 16, 17, 18, 19, 20, 21, 22, 23, 6, 24, 25, 34, 35, 36] (by decide +kernel) (by decide +kernel)
set_option maxRecDepth 20000 in
theorem gX3_allNeeded_Jx4a65c_get_915e3_f40Jx4a65c : GoodIn wsX3_allNeeded (va_wsF RX3 40 RJx4a65c ⟨"java/util/List", "get", "(I)Ljava/lang/Object;"⟩ yJx4a65c_get_915e3 wsJx4a65c_get_915e3) := goodIn_app (goodIn_of _ (by decide +kernel)) ggX3_allNeeded_Jx4a65c_get_915e3
set_option maxRecDepth 20000 in
theorem ggX3_allNeeded_X1_needed : GoodIn wsX3_allNeeded wsX1_needed := goodIn_r _ [30, 31, 37, 38, 39, 40, 41] (by decide +kernel) (by decide +kernel)
set_option maxRecDepth 20000 in
theorem gX3_allNeeded_X1_needed : GoodIn wsX3_allNeeded (wsV RX3 64 RX1 yX1_needed wsX1_needed) := goodIn_app (goodIn_of _ (by decide +kernel)) ggX3_allNeeded_X1_needed
theorem dX3_allNeeded_0 : decode cX3_allNeeded 0 = .ok (.iconst 0, 1) := by decide +kernel
theorem dX3_allNeeded_1 : decode cX3_allNeeded 1 = .ok (.istore_n 1, 1) := by decide +kernel
theorem dX3_allNeeded_2 : decode cX3_allNeeded 2 = .ok (.iconst 0, 1) := by decide +kernel
theorem dX3_allNeeded_3 : decode cX3_allNeeded 3 = .ok (.istore_n 2, 1) := by decide +kernel
theorem dX3_allNeeded_4 : decode cX3_allNeeded 4 = .ok (.iload_n 2, 1) := by decide +kernel
theorem dX3_allNeeded_5 : decode cX3_allNeeded 5 = .ok (.aload_n 0, 1) := by decide +kernel
theorem dX3_allNeeded_6 : decode cX3_allNeeded 6 = .ok (.getfield 12, 3) := by decide +kernel
theorem dX3_allNeeded_9 : decode cX3_allNeeded 9 = .ok (.invokeinterface 22 1, 5) := by decide +kernel
theorem dX3_allNeeded_14 : decode cX3_allNeeded 14 = .ok (.if_icmp .ge 28, 3) := by decide +kernel
theorem dX3_allNeeded_17 : decode cX3_allNeeded 17 = .ok (.iload_n 1, 1) := by decide +kernel
theorem dX3_allNeeded_18 : decode cX3_allNeeded 18 = .ok (.aload_n 0, 1) := by decide +kernel
theorem dX3_allNeeded_19 : decode cX3_allNeeded 19 = .ok (.getfield 12, 3) := by decide +kernel
theorem dX3_allNeeded_22 : decode cX3_allNeeded 22 = .ok (.iload_n 2, 1) := by decide +kernel
theorem dX3_allNeeded_23 : decode cX3_allNeeded 23 = .ok (.invokeinterface 40 2, 5) := by decide +kernel
theorem dX3_allNeeded_28 : decode cX3_allNeeded 28 = .ok (.checkcast 43, 3) := by decide +kernel
theorem dX3_allNeeded_31 : decode cX3_allNeeded 31 = .ok (.invokevirtual 64, 3) := by decide +kernel
theorem dX3_allNeeded_34 : decode cX3_allNeeded 34 = .ok (.ior, 1) := by decide +kernel
theorem dX3_allNeeded_35 : decode cX3_allNeeded 35 = .ok (.istore_n 1, 1) := by decide +kernel
theorem dX3_allNeeded_36 : decode cX3_allNeeded 36 = .ok (.iinc 2 1, 3) := by decide +kernel
theorem dX3_allNeeded_39 : decode cX3_allNeeded 39 = .ok (.goto (-35), 3) := by decide +kernel
theorem dX3_allNeeded_42 : decode cX3_allNeeded 42 = .ok (.iload_n 1, 1) := by decide +kernel
theorem dX3_allNeeded_43 : decode cX3_allNeeded 43 = .ok (.ireturn, 1) := by decide +kernel
set_option maxRecDepth 20000 in
theorem ggX3_allGiven_Jx4a65c_size_8abf5 : GoodIn wsX3_allGiven wsJx4a65c_size_8abf5 := goodIn_r _ [7, 8, 35, 36, 37] (by decide +kernel) (by decide +kernel)
set_option maxRecDepth 20000 in
theorem gX3_allGiven_Jx4a65c_size_8abf5_f22Jx4a65c : GoodIn wsX3_allGiven (va_wsF RX3 22 RJx4a65c ⟨"java/util/List", "size", "()I"⟩ yJx4a65c_size_8abf5 wsJx4a65c_size_8abf5) := goodIn_app (goodIn_of _ (by decide +kernel)) ggX3_allGiven_Jx4a65c_size_8abf5
set_option maxRecDepth 20000 in
theorem ggX3_allGiven_Jx4a65c_get_915e3 : GoodIn wsX3_allGiven wsJx4a65c_get_915e3 := goodIn_r _ [12, 8, 13, 14, 15, 16, 17, 18, 19, 20, 21, 22, 23, 6, 24, 25, 35, 36, 37] (by decide +kernel) (by decide +kernel)
set_option maxRecDepth 20000 in
theorem gX3_allGiven_Jx4a65c_get_915e3_f40Jx4a65c : GoodIn wsX3_allGiven (va_wsF RX3 40 RJx4a65c ⟨"java/util/List", "get", "(I)Ljava/lang/Object;"⟩ yJx4a65c_get_915e3 wsJx4a65c_get_915e3) := goodIn_app (goodIn_of _ (by decide +kernel)) ggX3_allGiven_Jx4a65c_get_915e3
set_option maxRecDepth 20000 in
theorem ggX3_allGiven_X1_brings : GoodIn wsX3_allGiven wsX1_brings := goodIn_r _ [30, 31, 32, 38, 39, 40, 41, 42] (by decide +kernel) (by decide +kernel)
set_option maxRecDepth 20000 in
theorem gX3_allGiven_X1_brings : GoodIn wsX3_allGiven (wsV RX3 60 RX1 yX1_brings wsX1_brings) := goodIn_app (goodIn_of _ (by decide +kernel)) ggX3_allGiven_X1_brings
theorem dX3_allGiven_0 : decode cX3_allGiven 0 = .ok (.iconst 0, 1) := by decide +kernel
theorem dX3_allGiven_1 : decode cX3_allGiven 1 = .ok (.istore_n 1, 1) := by decide +kernel
theorem dX3_allGiven_2 : decode cX3_allGiven 2 = .ok (.iconst 0, 1) := by decide +kernel
theorem dX3_allGiven_3 : decode cX3_allGiven 3 = .ok (.istore_n 2, 1) := by decide +kernel
theorem dX3_allGiven_4 : decode cX3_allGiven 4 = .ok (.iload_n 2, 1) := by decide +kernel
theorem dX3_allGiven_5 : decode cX3_allGiven 5 = .ok (.aload_n 0, 1) := by decide +kernel
theorem dX3_allGiven_6 : decode cX3_allGiven 6 = .ok (.getfield 12, 3) := by decide +kernel
theorem dX3_allGiven_9 : decode cX3_allGiven 9 = .ok (.invokeinterface 22 1, 5) := by decide +kernel
theorem dX3_allGiven_14 : decode cX3_allGiven 14 = .ok (.if_icmp .ge 29, 3) := by decide +kernel
theorem dX3_allGiven_17 : decode cX3_allGiven 17 = .ok (.iload_n 1, 1) := by decide +kernel
theorem dX3_allGiven_18 : decode cX3_allGiven 18 = .ok (.aload_n 0, 1) := by decide +kernel
theorem dX3_allGiven_19 : decode cX3_allGiven 19 = .ok (.getfield 12, 3) := by decide +kernel
theorem dX3_allGiven_22 : decode cX3_allGiven 22 = .ok (.iload_n 2, 1) := by decide +kernel
theorem dX3_allGiven_23 : decode cX3_allGiven 23 = .ok (.invokeinterface 40 2, 5) := by decide +kernel
theorem dX3_allGiven_28 : decode cX3_allGiven 28 = .ok (.checkcast 43, 3) := by decide +kernel
theorem dX3_allGiven_31 : decode cX3_allGiven 31 = .ok (.iconst 0, 1) := by decide +kernel
theorem dX3_allGiven_32 : decode cX3_allGiven 32 = .ok (.invokevirtual 60, 3) := by decide +kernel
theorem dX3_allGiven_35 : decode cX3_allGiven 35 = .ok (.ior, 1) := by decide +kernel
theorem dX3_allGiven_36 : decode cX3_allGiven 36 = .ok (.istore_n 1, 1) := by decide +kernel
theorem dX3_allGiven_37 : decode cX3_allGiven 37 = .ok (.iinc 2 1, 3) := by decide +kernel
theorem dX3_allGiven_40 : decode cX3_allGiven 40 = .ok (.goto (-36), 3) := by decide +kernel
theorem dX3_allGiven_43 : decode cX3_allGiven 43 = .ok (.iload_n 1, 1) := by decide +kernel
theorem dX3_allGiven_44 : decode cX3_allGiven 44 = .ok (.ireturn, 1) := by decide +kernel
theorem dX4_init_0 : decode cX4_init 0 = .ok (.aload_n 0, 1) := by decide +kernel
theorem dX4_init_1 : decode cX4_init 1 = .ok (.invokespecial 3, 3) := by decide +kernel
theorem dX4_init_4 : decode cX4_init 4 = .ok (.aload_n 0, 1) := by decide +kernel
theorem dX4_init_5 : decode cX4_init 5 = .ok (.bipush 12, 2) := by decide +kernel
theorem dX4_init_7 : decode cX4_init 7 = .ok (.newarray .int, 2) := by decide +kernel
theorem dX4_init_9 : decode cX4_init 9 = .ok (.putfield 9, 3) := by decide +kernel
theorem dX4_init_12 : decode cX4_init 12 = .ok (.aload_n 0, 1) := by decide +kernel
theorem dX4_init_13 : decode cX4_init 13 = .ok (.bipush 12, 2) := by decide +kernel
theorem dX4_init_15 : decode cX4_init 15 = .ok (.newarray .int, 2) := by decide +kernel
theorem dX4_init_17 : decode cX4_init 17 = .ok (.putfield 15, 3) := by decide +kernel
theorem dX4_init_20 : decode cX4_init 20 = .ok (.aload_n 0, 1) := by decide +kernel
theorem dX4_init_21 : decode cX4_init 21 = .ok (.iconst 0, 1) := by decide +kernel
theorem dX4_init_22 : decode cX4_init 22 = .ok (.putfield 18, 3) := by decide +kernel
theorem dX4_init_25 : decode cX4_init 25 = .ok (.return_, 1) := by decide +kernel
theorem dX4_size_0 : decode cX4_size 0 = .ok (.aload_n 0, 1) := by decide +kernel
theorem dX4_size_1 : decode cX4_size 1 = .ok (.getfield 18, 3) := by decide +kernel
theorem dX4_size_4 : decode cX4_size 4 = .ok (.ireturn, 1) := by decide +kernel
theorem dX4_haveAll_0 : decode cX4_haveAll 0 = .ok (.iload_n 1, 1) := by decide +kernel
theorem dX4_haveAll_1 : decode cX4_haveAll 1 = .ok (.ifCond .lt 17, 3) := by decide +kernel
theorem dX4_haveAll_4 : decode cX4_haveAll 4 = .ok (.iload_n 1, 1) := by decide +kernel
theorem dX4_haveAll_5 : decode cX4_haveAll 5 = .ok (.iconst 1, 1) := by decide +kernel
theorem dX4_haveAll_6 : decode cX4_haveAll 6 = .ok (.aload_n 0, 1) := by decide +kernel
theorem dX4_haveAll_7 : decode cX4_haveAll 7 = .ok (.getfield 18, 3) := by decide +kernel
theorem dX4_haveAll_10 : decode cX4_haveAll 10 = .ok (.ishl, 1) := by decide +kernel
theorem dX4_haveAll_11 : decode cX4_haveAll 11 = .ok (.if_icmp .ge 7, 3) := by decide +kernel
theorem dX4_haveAll_14 : decode cX4_haveAll 14 = .ok (.iconst 1, 1) := by decide +kernel
theorem dX4_haveAll_15 : decode cX4_haveAll 15 = .ok (.goto 4, 3) := by decide +kernel
theorem dX4_haveAll_18 : decode cX4_haveAll 18 = .ok (.iconst 0, 1) := by decide +kernel
theorem dX4_haveAll_19 : decode cX4_haveAll 19 = .ok (.ireturn, 1) := by decide +kernel
set_option maxRecDepth 20000 in
theorem ggX4_add_X4_closure : GoodIn wsX4_add wsX4_closure := goodIn_r _ [8, 3, 9, 10, 11] (by decide +kernel) (by decide +kernel)
set_option maxRecDepth 20000 in
theorem gX4_add_X4_closure : GoodIn wsX4_add (wsV RX4 22 RX4 yX4_closure wsX4_closure) := goodIn_app (goodIn_of _ (by decide +kernel)) ggX4_add_X4_closure
theorem dX4_add_0 : decode cX4_add 0 = .ok (.aload_n 0, 1) := by decide +kernel
theorem dX4_add_1 : decode cX4_add 1 = .ok (.getfield 18, 3) := by decide +kernel
theorem dX4_add_4 : decode cX4_add 4 = .ok (.istore_n 3, 1) := by decide +kernel
theorem dX4_add_5 : decode cX4_add 5 = .ok (.iload_n 3, 1) := by decide +kernel
theorem dX4_add_6 : decode cX4_add 6 = .ok (.aload_n 0, 1) := by decide +kernel
theorem dX4_add_7 : decode cX4_add 7 = .ok (.getfield 9, 3) := by decide +kernel
theorem dX4_add_10 : decode cX4_add 10 = .ok (.arraylength, 1) := by decide +kernel
theorem dX4_add_11 : decode cX4_add 11 = .ok (.if_icmp .ge 12, 3) := by decide +kernel
theorem dX4_add_14 : decode cX4_add 14 = .ok (.iload_n 3, 1) := by decide +kernel
theorem dX4_add_15 : decode cX4_add 15 = .ok (.aload_n 0, 1) := by decide +kernel
theorem dX4_add_16 : decode cX4_add 16 = .ok (.getfield 15, 3) := by decide +kernel
theorem dX4_add_19 : decode cX4_add 19 = .ok (.arraylength, 1) := by decide +kernel
theorem dX4_add_20 : decode cX4_add 20 = .ok (.if_icmp .lt 5, 3) := by decide +kernel
theorem dX4_add_23 : decode cX4_add 23 = .ok (.iconst (-1), 1) := by decide +kernel
theorem dX4_add_24 : decode cX4_add 24 = .ok (.ireturn, 1) := by decide +kernel
theorem dX4_add_25 : decode cX4_add 25 = .ok (.aload_n 0, 1) := by decide +kernel
theorem dX4_add_26 : decode cX4_add 26 = .ok (.getfield 9, 3) := by decide +kernel
theorem dX4_add_29 : decode cX4_add 29 = .ok (.iload_n 3, 1) := by decide +kernel
theorem dX4_add_30 : decode cX4_add 30 = .ok (.iload_n 1, 1) := by decide +kernel
theorem dX4_add_31 : decode cX4_add 31 = .ok (.iastore, 1) := by decide +kernel
theorem dX4_add_32 : decode cX4_add 32 = .ok (.aload_n 0, 1) := by decide +kernel
theorem dX4_add_33 : decode cX4_add 33 = .ok (.getfield 15, 3) := by decide +kernel
theorem dX4_add_36 : decode cX4_add 36 = .ok (.iload_n 3, 1) := by decide +kernel
theorem dX4_add_37 : decode cX4_add 37 = .ok (.iconst 1, 1) := by decide +kernel
theorem dX4_add_38 : decode cX4_add 38 = .ok (.iload_n 3, 1) := by decide +kernel
theorem dX4_add_39 : decode cX4_add 39 = .ok (.ishl, 1) := by decide +kernel
theorem dX4_add_40 : decode cX4_add 40 = .ok (.aload_n 0, 1) := by decide +kernel
theorem dX4_add_41 : decode cX4_add 41 = .ok (.iload_n 2, 1) := by decide +kernel
theorem dX4_add_42 : decode cX4_add 42 = .ok (.invokevirtual 22, 3) := by decide +kernel
theorem dX4_add_45 : decode cX4_add 45 = .ok (.ior, 1) := by decide +kernel
theorem dX4_add_46 : decode cX4_add 46 = .ok (.iastore, 1) := by decide +kernel
theorem dX4_add_47 : decode cX4_add 47 = .ok (.aload_n 0, 1) := by decide +kernel
theorem dX4_add_48 : decode cX4_add 48 = .ok (.dup, 1) := by decide +kernel
theorem dX4_add_49 : decode cX4_add 49 = .ok (.getfield 18, 3) := by decide +kernel
theorem dX4_add_52 : decode cX4_add 52 = .ok (.iconst 1, 1) := by decide +kernel
theorem dX4_add_53 : decode cX4_add 53 = .ok (.iadd, 1) := by decide +kernel
theorem dX4_add_54 : decode cX4_add 54 = .ok (.putfield 18, 3) := by decide +kernel
theorem dX4_add_57 : decode cX4_add 57 = .ok (.iload_n 3, 1) := by decide +kernel
theorem dX4_add_58 : decode cX4_add 58 = .ok (.ireturn, 1) := by decide +kernel
theorem dX4_closure_0 : decode cX4_closure 0 = .ok (.iload_n 1, 1) := by decide +kernel
theorem dX4_closure_1 : decode cX4_closure 1 = .ok (.istore_n 2, 1) := by decide +kernel
theorem dX4_closure_2 : decode cX4_closure 2 = .ok (.iconst 0, 1) := by decide +kernel
theorem dX4_closure_3 : decode cX4_closure 3 = .ok (.istore_n 3, 1) := by decide +kernel
theorem dX4_closure_4 : decode cX4_closure 4 = .ok (.iload_n 3, 1) := by decide +kernel
theorem dX4_closure_5 : decode cX4_closure 5 = .ok (.aload_n 0, 1) := by decide +kernel
theorem dX4_closure_6 : decode cX4_closure 6 = .ok (.getfield 15, 3) := by decide +kernel
theorem dX4_closure_9 : decode cX4_closure 9 = .ok (.arraylength, 1) := by decide +kernel
theorem dX4_closure_10 : decode cX4_closure 10 = .ok (.if_icmp .ge 27, 3) := by decide +kernel
theorem dX4_closure_13 : decode cX4_closure 13 = .ok (.iload_n 1, 1) := by decide +kernel
theorem dX4_closure_14 : decode cX4_closure 14 = .ok (.iload_n 3, 1) := by decide +kernel
theorem dX4_closure_15 : decode cX4_closure 15 = .ok (.ishr, 1) := by decide +kernel
theorem dX4_closure_16 : decode cX4_closure 16 = .ok (.iconst 1, 1) := by decide +kernel
theorem dX4_closure_17 : decode cX4_closure 17 = .ok (.iand, 1) := by decide +kernel
theorem dX4_closure_18 : decode cX4_closure 18 = .ok (.iconst 1, 1) := by decide +kernel
theorem dX4_closure_19 : decode cX4_closure 19 = .ok (.if_icmp .ne 12, 3) := by decide +kernel
theorem dX4_closure_22 : decode cX4_closure 22 = .ok (.iload_n 2, 1) := by decide +kernel
theorem dX4_closure_23 : decode cX4_closure 23 = .ok (.aload_n 0, 1) := by decide +kernel
theorem dX4_closure_24 : decode cX4_closure 24 = .ok (.getfield 15, 3) := by decide +kernel
theorem dX4_closure_27 : decode cX4_closure 27 = .ok (.iload_n 3, 1) := by decide +kernel
theorem dX4_closure_28 : decode cX4_closure 28 = .ok (.iaload, 1) := by decide +kernel
theorem dX4_closure_29 : decode cX4_closure 29 = .ok (.ior, 1) := by decide +kernel
theorem dX4_closure_30 : decode cX4_closure 30 = .ok (.istore_n 2, 1) := by decide +kernel
theorem dX4_closure_31 : decode cX4_closure 31 = .ok (.iinc 3 1, 3) := by decide +kernel
theorem dX4_closure_34 : decode cX4_closure 34 = .ok (.goto (-30), 3) := by decide +kernel
theorem dX4_closure_37 : decode cX4_closure 37 = .ok (.iload_n 2, 1) := by decide +kernel
theorem dX4_closure_38 : decode cX4_closure 38 = .ok (.ireturn, 1) := by decide +kernel
set_option maxRecDepth 20000 in
theorem ggX4_impliedBy_X4_closure : GoodIn wsX4_impliedBy wsX4_closure := goodIn_r _ [5, 6, 7, 8, 9] (by decide +kernel) (by decide +kernel)
set_option maxRecDepth 20000 in
theorem gX4_impliedBy_X4_closure : GoodIn wsX4_impliedBy (wsV RX4 22 RX4 yX4_closure wsX4_closure) := goodIn_app (goodIn_of _ (by decide +kernel)) ggX4_impliedBy_X4_closure
theorem dX4_impliedBy_0 : decode cX4_impliedBy 0 = .ok (.iconst 1, 1) := by decide +kernel
theorem dX4_impliedBy_1 : decode cX4_impliedBy 1 = .ok (.iload_n 1, 1) := by decide +kernel
theorem dX4_impliedBy_2 : decode cX4_impliedBy 2 = .ok (.ishl, 1) := by decide +kernel
theorem dX4_impliedBy_3 : decode cX4_impliedBy 3 = .ok (.istore_n 2, 1) := by decide +kernel
theorem dX4_impliedBy_4 : decode cX4_impliedBy 4 = .ok (.aload_n 0, 1) := by decide +kernel
theorem dX4_impliedBy_5 : decode cX4_impliedBy 5 = .ok (.iload_n 2, 1) := by decide +kernel
theorem dX4_impliedBy_6 : decode cX4_impliedBy 6 = .ok (.invokevirtual 22, 3) := by decide +kernel
theorem dX4_impliedBy_9 : decode cX4_impliedBy 9 = .ok (.iload_n 2, 1) := by decide +kernel
theorem dX4_impliedBy_10 : decode cX4_impliedBy 10 = .ok (.iconst (-1), 1) := by decide +kernel
theorem dX4_impliedBy_11 : decode cX4_impliedBy 11 = .ok (.ixor, 1) := by decide +kernel
theorem dX4_impliedBy_12 : decode cX4_impliedBy 12 = .ok (.iand, 1) := by decide +kernel
theorem dX4_impliedBy_13 : decode cX4_impliedBy 13 = .ok (.ireturn, 1) := by decide +kernel
theorem dX4_worthOf_0 : decode cX4_worthOf 0 = .ok (.iconst 0, 1) := by decide +kernel
theorem dX4_worthOf_1 : decode cX4_worthOf 1 = .ok (.istore_n 2, 1) := by decide +kernel
theorem dX4_worthOf_2 : decode cX4_worthOf 2 = .ok (.iconst 0, 1) := by decide +kernel
theorem dX4_worthOf_3 : decode cX4_worthOf 3 = .ok (.istore_n 3, 1) := by decide +kernel
theorem dX4_worthOf_4 : decode cX4_worthOf 4 = .ok (.iload_n 3, 1) := by decide +kernel
theorem dX4_worthOf_5 : decode cX4_worthOf 5 = .ok (.aload_n 0, 1) := by decide +kernel
theorem dX4_worthOf_6 : decode cX4_worthOf 6 = .ok (.getfield 9, 3) := by decide +kernel
theorem dX4_worthOf_9 : decode cX4_worthOf 9 = .ok (.arraylength, 1) := by decide +kernel
theorem dX4_worthOf_10 : decode cX4_worthOf 10 = .ok (.if_icmp .ge 27, 3) := by decide +kernel
theorem dX4_worthOf_13 : decode cX4_worthOf 13 = .ok (.iload_n 1, 1) := by decide +kernel
theorem dX4_worthOf_14 : decode cX4_worthOf 14 = .ok (.iload_n 3, 1) := by decide +kernel
theorem dX4_worthOf_15 : decode cX4_worthOf 15 = .ok (.ishr, 1) := by decide +kernel
theorem dX4_worthOf_16 : decode cX4_worthOf 16 = .ok (.iconst 1, 1) := by decide +kernel
theorem dX4_worthOf_17 : decode cX4_worthOf 17 = .ok (.iand, 1) := by decide +kernel
theorem dX4_worthOf_18 : decode cX4_worthOf 18 = .ok (.iconst 1, 1) := by decide +kernel
theorem dX4_worthOf_19 : decode cX4_worthOf 19 = .ok (.if_icmp .ne 12, 3) := by decide +kernel
theorem dX4_worthOf_22 : decode cX4_worthOf 22 = .ok (.iload_n 2, 1) := by decide +kernel
theorem dX4_worthOf_23 : decode cX4_worthOf 23 = .ok (.aload_n 0, 1) := by decide +kernel
theorem dX4_worthOf_24 : decode cX4_worthOf 24 = .ok (.getfield 9, 3) := by decide +kernel
theorem dX4_worthOf_27 : decode cX4_worthOf 27 = .ok (.iload_n 3, 1) := by decide +kernel
theorem dX4_worthOf_28 : decode cX4_worthOf 28 = .ok (.iaload, 1) := by decide +kernel
theorem dX4_worthOf_29 : decode cX4_worthOf 29 = .ok (.iadd, 1) := by decide +kernel
theorem dX4_worthOf_30 : decode cX4_worthOf 30 = .ok (.istore_n 2, 1) := by decide +kernel
theorem dX4_worthOf_31 : decode cX4_worthOf 31 = .ok (.iinc 3 1, 3) := by decide +kernel
theorem dX4_worthOf_34 : decode cX4_worthOf 34 = .ok (.goto (-30), 3) := by decide +kernel
theorem dX4_worthOf_37 : decode cX4_worthOf 37 = .ok (.iload_n 2, 1) := by decide +kernel
theorem dX4_worthOf_38 : decode cX4_worthOf 38 = .ok (.ireturn, 1) := by decide +kernel
theorem dX5_init_0 : decode cX5_init 0 = .ok (.aload_n 0, 1) := by decide +kernel
theorem dX5_init_1 : decode cX5_init 1 = .ok (.invokespecial 5, 3) := by decide +kernel
theorem dX5_init_4 : decode cX5_init 4 = .ok (.aload_n 0, 1) := by decide +kernel
theorem dX5_init_5 : decode cX5_init 5 = .ok (.sipush 4096, 3) := by decide +kernel
theorem dX5_init_8 : decode cX5_init 8 = .ok (.newarray .int, 2) := by decide +kernel
theorem dX5_init_10 : decode cX5_init 10 = .ok (.putfield 11, 3) := by decide +kernel
theorem dX5_init_13 : decode cX5_init 13 = .ok (.aload_n 0, 1) := by decide +kernel
theorem dX5_init_14 : decode cX5_init 14 = .ok (.sipush 4096, 3) := by decide +kernel
theorem dX5_init_17 : decode cX5_init 17 = .ok (.newarray .long, 2) := by decide +kernel
theorem dX5_init_19 : decode cX5_init 19 = .ok (.putfield 15, 3) := by decide +kernel
theorem dX5_init_22 : decode cX5_init 22 = .ok (.aload_n 0, 1) := by decide +kernel
theorem dX5_init_23 : decode cX5_init 23 = .ok (.iconst 0, 1) := by decide +kernel
theorem dX5_init_24 : decode cX5_init 24 = .ok (.putfield 19, 3) := by decide +kernel
theorem dX5_init_27 : decode cX5_init 27 = .ok (.return_, 1) := by decide +kernel
set_option maxRecDepth 20000 in
theorem ggX5_explore_X5_goOnFrom : GoodIn wsX5_explore wsX5_goOnFrom := goodIn_r _ [12, 13, 14, 15, 16, 17, 18, 19, 20, 21, 22, 23, 24, 25, 26, 27, 28, 29, 30, 31, 32, 33, 34, 35, 36, 37, 38, 39, 40, 41, 42, 43, 44, 45, 46, 47, 48, 49, 50, 51, 52, 53, 54, 55, 56, 57, 58, 59, 60, 61, 62, 63, 64, 65, 66, 67, 68, 69, 70, 71, 72, 73, 74, 75, 76, 11, 77, 5, 6, 7, 78, 79, 80, 81, 85, 86, 87, 88, 89, 90, 91, 92, 93, 94, 82, 83, 84] (by decide +kernel) (by decide +kernel)
set_option maxRecDepth 20000 in
theorem gX5_explore_X5_goOnFrom : GoodIn wsX5_explore (wsV RX5 29 RX5 yX5_goOnFrom wsX5_goOnFrom) := goodIn_app (goodIn_of _ (by decide +kernel)) ggX5_explore_X5_goOnFrom
theorem dX5_explore_0 : decode cX5_explore 0 = .ok (.aload_n 0, 1) := by decide +kernel
theorem dX5_explore_1 : decode cX5_explore 1 = .ok (.iconst 1, 1) := by decide +kernel
theorem dX5_explore_2 : decode cX5_explore 2 = .ok (.iload_n 2, 1) := by decide +kernel
theorem dX5_explore_3 : decode cX5_explore 3 = .ok (.ishl, 1) := by decide +kernel
theorem dX5_explore_4 : decode cX5_explore 4 = .ok (.sipush 4096, 3) := by decide +kernel
theorem dX5_explore_7 : decode cX5_explore 7 = .ok (.invokestatic 23, 3) := by decide +kernel
theorem dX5_explore_10 : decode cX5_explore 10 = .ok (.putfield 19, 3) := by decide +kernel
theorem dX5_explore_13 : decode cX5_explore 13 = .ok (.iconst 0, 1) := by decide +kernel
theorem dX5_explore_14 : decode cX5_explore 14 = .ok (.istore 5, 2) := by decide +kernel
theorem dX5_explore_16 : decode cX5_explore 16 = .ok (.iload 5, 2) := by decide +kernel
theorem dX5_explore_18 : decode cX5_explore 18 = .ok (.aload_n 0, 1) := by decide +kernel
theorem dX5_explore_19 : decode cX5_explore 19 = .ok (.getfield 19, 3) := by decide +kernel
theorem dX5_explore_22 : decode cX5_explore 22 = .ok (.if_icmp .ge 17, 3) := by decide +kernel
theorem dX5_explore_25 : decode cX5_explore 25 = .ok (.aload_n 0, 1) := by decide +kernel
theorem dX5_explore_26 : decode cX5_explore 26 = .ok (.getfield 11, 3) := by decide +kernel
theorem dX5_explore_29 : decode cX5_explore 29 = .ok (.iload 5, 2) := by decide +kernel
theorem dX5_explore_31 : decode cX5_explore 31 = .ok (.iconst (-1), 1) := by decide +kernel
theorem dX5_explore_32 : decode cX5_explore 32 = .ok (.iastore, 1) := by decide +kernel
theorem dX5_explore_33 : decode cX5_explore 33 = .ok (.iinc 5 1, 3) := by decide +kernel
theorem dX5_explore_36 : decode cX5_explore 36 = .ok (.goto (-20), 3) := by decide +kernel
theorem dX5_explore_39 : decode cX5_explore 39 = .ok (.iload_n 3, 1) := by decide +kernel
theorem dX5_explore_40 : decode cX5_explore 40 = .ok (.ifCond .lt 11, 3) := by decide +kernel
theorem dX5_explore_43 : decode cX5_explore 43 = .ok (.iload_n 3, 1) := by decide +kernel
theorem dX5_explore_44 : decode cX5_explore 44 = .ok (.aload_n 0, 1) := by decide +kernel
theorem dX5_explore_45 : decode cX5_explore 45 = .ok (.getfield 19, 3) := by decide +kernel
theorem dX5_explore_48 : decode cX5_explore 48 = .ok (.if_icmp .lt 4, 3) := by decide +kernel
theorem dX5_explore_51 : decode cX5_explore 51 = .ok (.return_, 1) := by decide +kernel
theorem dX5_explore_52 : decode cX5_explore 52 = .ok (.aload_n 0, 1) := by decide +kernel
theorem dX5_explore_53 : decode cX5_explore 53 = .ok (.getfield 11, 3) := by decide +kernel
theorem dX5_explore_56 : decode cX5_explore 56 = .ok (.iload_n 3, 1) := by decide +kernel
theorem dX5_explore_57 : decode cX5_explore 57 = .ok (.iconst 0, 1) := by decide +kernel
theorem dX5_explore_58 : decode cX5_explore 58 = .ok (.iastore, 1) := by decide +kernel
theorem dX5_explore_59 : decode cX5_explore 59 = .ok (.aload_n 0, 1) := by decide +kernel
theorem dX5_explore_60 : decode cX5_explore 60 = .ok (.getfield 15, 3) := by decide +kernel
theorem dX5_explore_63 : decode cX5_explore 63 = .ok (.iload_n 3, 1) := by decide +kernel
theorem dX5_explore_64 : decode cX5_explore 64 = .ok (.lconst 0, 1) := by decide +kernel
theorem dX5_explore_65 : decode cX5_explore 65 = .ok (.lastore, 1) := by decide +kernel
theorem dX5_explore_66 : decode cX5_explore 66 = .ok (.iload_n 3, 1) := by decide +kernel
theorem dX5_explore_67 : decode cX5_explore 67 = .ok (.istore 5, 2) := by decide +kernel
theorem dX5_explore_69 : decode cX5_explore 69 = .ok (.iload 5, 2) := by decide +kernel
theorem dX5_explore_71 : decode cX5_explore 71 = .ok (.aload_n 0, 1) := by decide +kernel
theorem dX5_explore_72 : decode cX5_explore 72 = .ok (.getfield 19, 3) := by decide +kernel
theorem dX5_explore_75 : decode cX5_explore 75 = .ok (.if_icmp .ge 29, 3) := by decide +kernel
theorem dX5_explore_78 : decode cX5_explore 78 = .ok (.aload_n 0, 1) := by decide +kernel
theorem dX5_explore_79 : decode cX5_explore 79 = .ok (.getfield 11, 3) := by decide +kernel
theorem dX5_explore_82 : decode cX5_explore 82 = .ok (.iload 5, 2) := by decide +kernel
theorem dX5_explore_84 : decode cX5_explore 84 = .ok (.iaload, 1) := by decide +kernel
theorem dX5_explore_85 : decode cX5_explore 85 = .ok (.iconst (-1), 1) := by decide +kernel
theorem dX5_explore_86 : decode cX5_explore 86 = .ok (.if_icmp .eq 12, 3) := by decide +kernel
theorem dX5_explore_89 : decode cX5_explore 89 = .ok (.aload_n 0, 1) := by decide +kernel
theorem dX5_explore_90 : decode cX5_explore 90 = .ok (.iload 5, 2) := by decide +kernel
theorem dX5_explore_92 : decode cX5_explore 92 = .ok (.aload_n 1, 1) := by decide +kernel
theorem dX5_explore_93 : decode cX5_explore 93 = .ok (.iload 4, 2) := by decide +kernel
theorem dX5_explore_95 : decode cX5_explore 95 = .ok (.invokevirtual 29, 3) := by decide +kernel
theorem dX5_explore_98 : decode cX5_explore 98 = .ok (.iinc 5 1, 3) := by decide +kernel
theorem dX5_explore_101 : decode cX5_explore 101 = .ok (.goto (-32), 3) := by decide +kernel
theorem dX5_explore_104 : decode cX5_explore 104 = .ok (.return_, 1) := by decide +kernel
set_option maxRecDepth 20000 in
theorem ggX5_goOnFrom_X3_size : GoodIn wsX5_goOnFrom wsX3_size := goodIn_r _ [5, 6, 7, 8, 9, 10, 11, 12, 74, 75, 76, 77, 78] (by decide +kernel) (by decide +kernel)
end
section
set_option maxRecDepth 20000 in
theorem gX5_goOnFrom_X3_size : GoodIn wsX5_goOnFrom (wsV RX5 33 RX3 yX3_size wsX3_size) := goodIn_app (goodIn_of _ (by decide +kernel)) ggX5_goOnFrom_X3_size
set_option maxRecDepth 20000 in
theorem ggX5_goOnFrom_X3_pieceOf : GoodIn wsX5_goOnFrom wsX3_pieceOf := goodIn_r _ [16, 6, 17, 7, 8, 9, 10, 11, 12, 18, 19, 20, 21, 22, 23, 24, 25, 26, 27, 28, 29, 30, 31, 32, 33, 34, 74, 75, 76, 77, 78] (by decide +kernel) (by decide +kernel)
set_option maxRecDepth 20000 in
theorem gX5_goOnFrom_X3_pieceOf : GoodIn wsX5_goOnFrom (wsV RX5 39 RX3 yX3_pieceOf wsX3_pieceOf) := goodIn_app (goodIn_of _ (by decide +kernel)) ggX5_goOnFrom_X3_pieceOf
set_option maxRecDepth 20000 in
theorem ggX5_goOnFrom_X1_isOpenTo : GoodIn wsX5_goOnFrom wsX1_isOpenTo := goodIn_r _ [39, 40, 41, 79, 80, 81, 82, 83] (by decide +kernel) (by decide +kernel)
set_option maxRecDepth 20000 in
theorem gX5_goOnFrom_X1_isOpenTo : GoodIn wsX5_goOnFrom (wsV RX5 43 RX1 yX1_isOpenTo wsX1_isOpenTo) := goodIn_app (goodIn_of _ (by decide +kernel)) ggX5_goOnFrom_X1_isOpenTo
set_option maxRecDepth 20000 in
theorem ggX5_goOnFrom_X7_isSkimmed : GoodIn wsX5_goOnFrom wsX7_isSkimmed := goodIn_r _ [44] (by decide +kernel) (by decide +kernel)
set_option maxRecDepth 20000 in
theorem gX5_goOnFrom_X7_isSkimmed_n49 : GoodIn wsX5_goOnFrom (wsX7_isSkimmed) := ggX5_goOnFrom_X7_isSkimmed
set_option maxRecDepth 20000 in
theorem ggX5_goOnFrom_X1_brings : GoodIn wsX5_goOnFrom wsX1_brings := goodIn_r _ [48, 49, 50, 79, 80, 81, 82, 83] (by decide +kernel) (by decide +kernel)
set_option maxRecDepth 20000 in
theorem gX5_goOnFrom_X1_brings : GoodIn wsX5_goOnFrom (wsV RX5 52 RX1 yX1_brings wsX1_brings) := goodIn_app (goodIn_of _ (by decide +kernel)) ggX5_goOnFrom_X1_brings
set_option maxRecDepth 20000 in
theorem ggX5_goOnFrom_X3_minutesOf : GoodIn wsX5_goOnFrom wsX3_minutesOf := goodIn_r _ [54, 55, 56, 14, 15, 4, 16, 6, 17, 7, 8, 9, 10, 11, 12, 18, 19, 20, 21, 22, 23, 24, 25, 26, 27, 28, 29, 30, 31, 32, 33, 34, 42, 43, 44, 57, 58, 59, 38, 60, 61, 74, 75, 76, 77, 78, 79, 80, 81, 82, 83] (by decide +kernel) (by decide +kernel)
set_option maxRecDepth 20000 in
theorem gX5_goOnFrom_X3_minutesOf : GoodIn wsX5_goOnFrom (wsV RX5 56 RX3 yX3_minutesOf wsX3_minutesOf) := goodIn_app (goodIn_of _ (by decide +kernel)) ggX5_goOnFrom_X3_minutesOf
set_option maxRecDepth 20000 in
theorem ggX5_goOnFrom_X5_offer : GoodIn wsX5_goOnFrom wsX5_offer := goodIn_r _ [66, 67, 68, 69, 70, 71, 72, 65, 73, 84, 85, 86] (by decide +kernel) (by decide +kernel)
set_option maxRecDepth 20000 in
theorem gX5_goOnFrom_X5_offer : GoodIn wsX5_goOnFrom (wsV RX5 60 RX5 yX5_offer wsX5_offer) := goodIn_app (goodIn_of _ (by decide +kernel)) ggX5_goOnFrom_X5_offer
theorem dX5_goOnFrom_0 : decode cX5_goOnFrom 0 = .ok (.iconst 0, 1) := by decide +kernel
theorem dX5_goOnFrom_1 : decode cX5_goOnFrom 1 = .ok (.istore 4, 2) := by decide +kernel
theorem dX5_goOnFrom_3 : decode cX5_goOnFrom 3 = .ok (.iload 4, 2) := by decide +kernel
theorem dX5_goOnFrom_5 : decode cX5_goOnFrom 5 = .ok (.iconst 2, 1) := by decide +kernel
theorem dX5_goOnFrom_6 : decode cX5_goOnFrom 6 = .ok (.aload_n 2, 1) := by decide +kernel
theorem dX5_goOnFrom_7 : decode cX5_goOnFrom 7 = .ok (.invokevirtual 33, 3) := by decide +kernel
theorem dX5_goOnFrom_10 : decode cX5_goOnFrom 10 = .ok (.imul, 1) := by decide +kernel
theorem dX5_goOnFrom_11 : decode cX5_goOnFrom 11 = .ok (.if_icmp .ge 64, 3) := by decide +kernel
theorem dX5_goOnFrom_14 : decode cX5_goOnFrom 14 = .ok (.aload_n 2, 1) := by decide +kernel
theorem dX5_goOnFrom_15 : decode cX5_goOnFrom 15 = .ok (.iload 4, 2) := by decide +kernel
theorem dX5_goOnFrom_17 : decode cX5_goOnFrom 17 = .ok (.invokevirtual 39, 3) := by decide +kernel
theorem dX5_goOnFrom_20 : decode cX5_goOnFrom 20 = .ok (.astore 5, 2) := by decide +kernel
theorem dX5_goOnFrom_22 : decode cX5_goOnFrom 22 = .ok (.aload 5, 2) := by decide +kernel
theorem dX5_goOnFrom_24 : decode cX5_goOnFrom 24 = .ok (.ifnull 45, 3) := by decide +kernel
theorem dX5_goOnFrom_27 : decode cX5_goOnFrom 27 = .ok (.iload 4, 2) := by decide +kernel
theorem dX5_goOnFrom_29 : decode cX5_goOnFrom 29 = .ok (.iconst 1, 1) := by decide +kernel
theorem dX5_goOnFrom_30 : decode cX5_goOnFrom 30 = .ok (.ishr, 1) := by decide +kernel
theorem dX5_goOnFrom_31 : decode cX5_goOnFrom 31 = .ok (.iload_n 3, 1) := by decide +kernel
theorem dX5_goOnFrom_32 : decode cX5_goOnFrom 32 = .ok (.if_icmp .eq 37, 3) := by decide +kernel
theorem dX5_goOnFrom_35 : decode cX5_goOnFrom 35 = .ok (.aload 5, 2) := by decide +kernel
theorem dX5_goOnFrom_37 : decode cX5_goOnFrom 37 = .ok (.iload_n 1, 1) := by decide +kernel
theorem dX5_goOnFrom_38 : decode cX5_goOnFrom 38 = .ok (.invokevirtual 43, 3) := by decide +kernel
theorem dX5_goOnFrom_41 : decode cX5_goOnFrom 41 = .ok (.ifCond .eq 28, 3) := by decide +kernel
theorem dX5_goOnFrom_44 : decode cX5_goOnFrom 44 = .ok (.aload_n 0, 1) := by decide +kernel
theorem dX5_goOnFrom_45 : decode cX5_goOnFrom 45 = .ok (.iload_n 1, 1) := by decide +kernel
theorem dX5_goOnFrom_46 : decode cX5_goOnFrom 46 = .ok (.iload_n 1, 1) := by decide +kernel
theorem dX5_goOnFrom_47 : decode cX5_goOnFrom 47 = .ok (.aload 5, 2) := by decide +kernel
theorem dX5_goOnFrom_49 : decode cX5_goOnFrom 49 = .ok (.iload 4, 2) := by decide +kernel
theorem dX5_goOnFrom_51 : decode cX5_goOnFrom 51 = .ok (.invokestatic 49, 3) := by decide +kernel
theorem dX5_goOnFrom_54 : decode cX5_goOnFrom 54 = .ok (.invokevirtual 52, 3) := by decide +kernel
theorem dX5_goOnFrom_57 : decode cX5_goOnFrom 57 = .ok (.ior, 1) := by decide +kernel
theorem dX5_goOnFrom_58 : decode cX5_goOnFrom 58 = .ok (.aload_n 2, 1) := by decide +kernel
theorem dX5_goOnFrom_59 : decode cX5_goOnFrom 59 = .ok (.iload 4, 2) := by decide +kernel
theorem dX5_goOnFrom_61 : decode cX5_goOnFrom 61 = .ok (.invokevirtual 56, 3) := by decide +kernel
theorem dX5_goOnFrom_64 : decode cX5_goOnFrom 64 = .ok (.iload 4, 2) := by decide +kernel
theorem dX5_goOnFrom_66 : decode cX5_goOnFrom 66 = .ok (.invokevirtual 60, 3) := by decide +kernel
theorem dX5_goOnFrom_69 : decode cX5_goOnFrom 69 = .ok (.iinc 4 1, 3) := by decide +kernel
theorem dX5_goOnFrom_72 : decode cX5_goOnFrom 72 = .ok (.goto (-69), 3) := by decide +kernel
theorem dX5_goOnFrom_75 : decode cX5_goOnFrom 75 = .ok (.return_, 1) := by decide +kernel
set_option maxRecDepth 20000 in
theorem ggX5_offer_X5_isBefore : GoodIn wsX5_offer wsX5_isBefore := goodIn_r _ [8, 2, 3, 9, 10, 11] (by decide +kernel) (by decide +kernel)
set_option maxRecDepth 20000 in
theorem gX5_offer_X5_isBefore : GoodIn wsX5_offer (wsV RX5 64 RX5 yX5_isBefore wsX5_isBefore) := goodIn_app (goodIn_of _ (by decide +kernel)) ggX5_offer_X5_isBefore
theorem dX5_offer_0 : decode cX5_offer 0 = .ok (.iload_n 1, 1) := by decide +kernel
theorem dX5_offer_1 : decode cX5_offer 1 = .ok (.ifCond .lt 16, 3) := by decide +kernel
theorem dX5_offer_4 : decode cX5_offer 4 = .ok (.iload_n 2, 1) := by decide +kernel
theorem dX5_offer_5 : decode cX5_offer 5 = .ok (.iload_n 1, 1) := by decide +kernel
theorem dX5_offer_6 : decode cX5_offer 6 = .ok (.if_icmp .le 11, 3) := by decide +kernel
theorem dX5_offer_9 : decode cX5_offer 9 = .ok (.iload_n 2, 1) := by decide +kernel
theorem dX5_offer_10 : decode cX5_offer 10 = .ok (.aload_n 0, 1) := by decide +kernel
theorem dX5_offer_11 : decode cX5_offer 11 = .ok (.getfield 19, 3) := by decide +kernel
theorem dX5_offer_14 : decode cX5_offer 14 = .ok (.if_icmp .lt 4, 3) := by decide +kernel
theorem dX5_offer_17 : decode cX5_offer 17 = .ok (.return_, 1) := by decide +kernel
theorem dX5_offer_18 : decode cX5_offer 18 = .ok (.aload_n 0, 1) := by decide +kernel
theorem dX5_offer_19 : decode cX5_offer 19 = .ok (.getfield 11, 3) := by decide +kernel
theorem dX5_offer_22 : decode cX5_offer 22 = .ok (.iload_n 1, 1) := by decide +kernel
theorem dX5_offer_23 : decode cX5_offer 23 = .ok (.iaload, 1) := by decide +kernel
theorem dX5_offer_24 : decode cX5_offer 24 = .ok (.bipush 16, 2) := by decide +kernel
theorem dX5_offer_26 : decode cX5_offer 26 = .ok (.iload_n 3, 1) := by decide +kernel
theorem dX5_offer_27 : decode cX5_offer 27 = .ok (.imul, 1) := by decide +kernel
theorem dX5_offer_28 : decode cX5_offer 28 = .ok (.iadd, 1) := by decide +kernel
theorem dX5_offer_29 : decode cX5_offer 29 = .ok (.iconst 1, 1) := by decide +kernel
theorem dX5_offer_30 : decode cX5_offer 30 = .ok (.iadd, 1) := by decide +kernel
theorem dX5_offer_31 : decode cX5_offer 31 = .ok (.istore 5, 2) := by decide +kernel
theorem dX5_offer_33 : decode cX5_offer 33 = .ok (.aload_n 0, 1) := by decide +kernel
theorem dX5_offer_34 : decode cX5_offer 34 = .ok (.getfield 15, 3) := by decide +kernel
theorem dX5_offer_37 : decode cX5_offer 37 = .ok (.iload_n 1, 1) := by decide +kernel
theorem dX5_offer_38 : decode cX5_offer 38 = .ok (.laload, 1) := by decide +kernel
theorem dX5_offer_39 : decode cX5_offer 39 = .ok (.iconst 5, 1) := by decide +kernel
theorem dX5_offer_40 : decode cX5_offer 40 = .ok (.lshl, 1) := by decide +kernel
theorem dX5_offer_41 : decode cX5_offer 41 = .ok (.iload 4, 2) := by decide +kernel
theorem dX5_offer_43 : decode cX5_offer 43 = .ok (.i2l, 1) := by decide +kernel
theorem dX5_offer_44 : decode cX5_offer 44 = .ok (.lor, 1) := by decide +kernel
theorem dX5_offer_45 : decode cX5_offer 45 = .ok (.lstore 6, 2) := by decide +kernel
theorem dX5_offer_47 : decode cX5_offer 47 = .ok (.aload_n 0, 1) := by decide +kernel
theorem dX5_offer_48 : decode cX5_offer 48 = .ok (.getfield 11, 3) := by decide +kernel
theorem dX5_offer_51 : decode cX5_offer 51 = .ok (.iload_n 2, 1) := by decide +kernel
theorem dX5_offer_52 : decode cX5_offer 52 = .ok (.iaload, 1) := by decide +kernel
theorem dX5_offer_53 : decode cX5_offer 53 = .ok (.iconst (-1), 1) := by decide +kernel
theorem dX5_offer_54 : decode cX5_offer 54 = .ok (.if_icmp .eq 15, 3) := by decide +kernel
theorem dX5_offer_57 : decode cX5_offer 57 = .ok (.aload_n 0, 1) := by decide +kernel
theorem dX5_offer_58 : decode cX5_offer 58 = .ok (.iload 5, 2) := by decide +kernel
theorem dX5_offer_60 : decode cX5_offer 60 = .ok (.lload 6, 2) := by decide +kernel
theorem dX5_offer_62 : decode cX5_offer 62 = .ok (.iload_n 2, 1) := by decide +kernel
theorem dX5_offer_63 : decode cX5_offer 63 = .ok (.invokevirtual 64, 3) := by decide +kernel
theorem dX5_offer_66 : decode cX5_offer 66 = .ok (.ifCond .eq 19, 3) := by decide +kernel
theorem dX5_offer_69 : decode cX5_offer 69 = .ok (.aload_n 0, 1) := by decide +kernel
theorem dX5_offer_70 : decode cX5_offer 70 = .ok (.getfield 11, 3) := by decide +kernel
theorem dX5_offer_73 : decode cX5_offer 73 = .ok (.iload_n 2, 1) := by decide +kernel
theorem dX5_offer_74 : decode cX5_offer 74 = .ok (.iload 5, 2) := by decide +kernel
theorem dX5_offer_76 : decode cX5_offer 76 = .ok (.iastore, 1) := by decide +kernel
theorem dX5_offer_77 : decode cX5_offer 77 = .ok (.aload_n 0, 1) := by decide +kernel
theorem dX5_offer_78 : decode cX5_offer 78 = .ok (.getfield 15, 3) := by decide +kernel
theorem dX5_offer_81 : decode cX5_offer 81 = .ok (.iload_n 2, 1) := by decide +kernel
theorem dX5_offer_82 : decode cX5_offer 82 = .ok (.lload 6, 2) := by decide +kernel
theorem dX5_offer_84 : decode cX5_offer 84 = .ok (.lastore, 1) := by decide +kernel
theorem dX5_offer_85 : decode cX5_offer 85 = .ok (.return_, 1) := by decide +kernel
theorem dX5_isBefore_0 : decode cX5_isBefore 0 = .ok (.iload_n 1, 1) := by decide +kernel
theorem dX5_isBefore_1 : decode cX5_isBefore 1 = .ok (.aload_n 0, 1) := by decide +kernel
theorem dX5_isBefore_2 : decode cX5_isBefore 2 = .ok (.getfield 11, 3) := by decide +kernel
theorem dX5_isBefore_5 : decode cX5_isBefore 5 = .ok (.iload 4, 2) := by decide +kernel
theorem dX5_isBefore_7 : decode cX5_isBefore 7 = .ok (.iaload, 1) := by decide +kernel
theorem dX5_isBefore_8 : decode cX5_isBefore 8 = .ok (.if_icmp .eq 22, 3) := by decide +kernel
theorem dX5_isBefore_11 : decode cX5_isBefore 11 = .ok (.iload_n 1, 1) := by decide +kernel
theorem dX5_isBefore_12 : decode cX5_isBefore 12 = .ok (.aload_n 0, 1) := by decide +kernel
theorem dX5_isBefore_13 : decode cX5_isBefore 13 = .ok (.getfield 11, 3) := by decide +kernel
theorem dX5_isBefore_16 : decode cX5_isBefore 16 = .ok (.iload 4, 2) := by decide +kernel
theorem dX5_isBefore_18 : decode cX5_isBefore 18 = .ok (.iaload, 1) := by decide +kernel
theorem dX5_isBefore_19 : decode cX5_isBefore 19 = .ok (.if_icmp .ge 7, 3) := by decide +kernel
theorem dX5_isBefore_22 : decode cX5_isBefore 22 = .ok (.iconst 1, 1) := by decide +kernel
theorem dX5_isBefore_23 : decode cX5_isBefore 23 = .ok (.goto 24, 3) := by decide +kernel
theorem dX5_isBefore_26 : decode cX5_isBefore 26 = .ok (.iconst 0, 1) := by decide +kernel
theorem dX5_isBefore_27 : decode cX5_isBefore 27 = .ok (.goto 20, 3) := by decide +kernel
theorem dX5_isBefore_30 : decode cX5_isBefore 30 = .ok (.lload_n 2, 1) := by decide +kernel
theorem dX5_isBefore_31 : decode cX5_isBefore 31 = .ok (.aload_n 0, 1) := by decide +kernel
theorem dX5_isBefore_32 : decode cX5_isBefore 32 = .ok (.getfield 15, 3) := by decide +kernel
theorem dX5_isBefore_35 : decode cX5_isBefore 35 = .ok (.iload 4, 2) := by decide +kernel
theorem dX5_isBefore_37 : decode cX5_isBefore 37 = .ok (.laload, 1) := by decide +kernel
theorem dX5_isBefore_38 : decode cX5_isBefore 38 = .ok (.lcmp, 1) := by decide +kernel
theorem dX5_isBefore_39 : decode cX5_isBefore 39 = .ok (.ifCond .ge 7, 3) := by decide +kernel
theorem dX5_isBefore_42 : decode cX5_isBefore 42 = .ok (.iconst 1, 1) := by decide +kernel
theorem dX5_isBefore_43 : decode cX5_isBefore 43 = .ok (.goto 4, 3) := by decide +kernel
theorem dX5_isBefore_46 : decode cX5_isBefore 46 = .ok (.iconst 0, 1) := by decide +kernel
theorem dX5_isBefore_47 : decode cX5_isBefore 47 = .ok (.ireturn, 1) := by decide +kernel
set_option maxRecDepth 20000 in
theorem ggX5_isBetter_X5_isBefore : GoodIn wsX5_isBetter wsX5_isBefore := goodIn_r _ [7, 1, 2, 8, 9, 10] (by decide +kernel) (by decide +kernel)
set_option maxRecDepth 20000 in
theorem gX5_isBetter_X5_isBefore : GoodIn wsX5_isBetter (wsV RX5 64 RX5 yX5_isBefore wsX5_isBefore) := goodIn_app (goodIn_of _ (by decide +kernel)) ggX5_isBetter_X5_isBefore
theorem dX5_isBetter_0 : decode cX5_isBetter 0 = .ok (.iload_n 2, 1) := by decide +kernel
theorem dX5_isBetter_1 : decode cX5_isBetter 1 = .ok (.iconst (-1), 1) := by decide +kernel
theorem dX5_isBetter_2 : decode cX5_isBetter 2 = .ok (.if_icmp .eq 23, 3) := by decide +kernel
theorem dX5_isBetter_5 : decode cX5_isBetter 5 = .ok (.aload_n 0, 1) := by decide +kernel
theorem dX5_isBetter_6 : decode cX5_isBetter 6 = .ok (.aload_n 0, 1) := by decide +kernel
theorem dX5_isBetter_7 : decode cX5_isBetter 7 = .ok (.getfield 11, 3) := by decide +kernel
theorem dX5_isBetter_10 : decode cX5_isBetter 10 = .ok (.iload_n 1, 1) := by decide +kernel
theorem dX5_isBetter_11 : decode cX5_isBetter 11 = .ok (.iaload, 1) := by decide +kernel
theorem dX5_isBetter_12 : decode cX5_isBetter 12 = .ok (.aload_n 0, 1) := by decide +kernel
theorem dX5_isBetter_13 : decode cX5_isBetter 13 = .ok (.getfield 15, 3) := by decide +kernel
theorem dX5_isBetter_16 : decode cX5_isBetter 16 = .ok (.iload_n 1, 1) := by decide +kernel
theorem dX5_isBetter_17 : decode cX5_isBetter 17 = .ok (.laload, 1) := by decide +kernel
theorem dX5_isBetter_18 : decode cX5_isBetter 18 = .ok (.iload_n 2, 1) := by decide +kernel
theorem dX5_isBetter_19 : decode cX5_isBetter 19 = .ok (.invokevirtual 64, 3) := by decide +kernel
theorem dX5_isBetter_22 : decode cX5_isBetter 22 = .ok (.ifCond .eq 7, 3) := by decide +kernel
theorem dX5_isBetter_25 : decode cX5_isBetter 25 = .ok (.iconst 1, 1) := by decide +kernel
theorem dX5_isBetter_26 : decode cX5_isBetter 26 = .ok (.goto 4, 3) := by decide +kernel
theorem dX5_isBetter_29 : decode cX5_isBetter 29 = .ok (.iconst 0, 1) := by decide +kernel
theorem dX5_isBetter_30 : decode cX5_isBetter 30 = .ok (.ireturn, 1) := by decide +kernel
set_option maxRecDepth 20000 in
theorem ggX5_endWith_X5_isBetter : GoodIn wsX5_endWith wsX5_isBetter := goodIn_r _ [7, 2, 8, 9, 10, 11, 6, 12, 13, 14, 15] (by decide +kernel) (by decide +kernel)
set_option maxRecDepth 20000 in
theorem gX5_endWith_X5_isBetter : GoodIn wsX5_endWith (wsV RX5 68 RX5 yX5_isBetter wsX5_isBetter) := goodIn_app (goodIn_of _ (by decide +kernel)) ggX5_endWith_X5_isBetter
theorem dX5_endWith_0 : decode cX5_endWith 0 = .ok (.iconst (-1), 1) := by decide +kernel
theorem dX5_endWith_1 : decode cX5_endWith 1 = .ok (.istore_n 2, 1) := by decide +kernel
theorem dX5_endWith_2 : decode cX5_endWith 2 = .ok (.iconst 0, 1) := by decide +kernel
theorem dX5_endWith_3 : decode cX5_endWith 3 = .ok (.istore_n 3, 1) := by decide +kernel
theorem dX5_endWith_4 : decode cX5_endWith 4 = .ok (.iload_n 3, 1) := by decide +kernel
theorem dX5_endWith_5 : decode cX5_endWith 5 = .ok (.aload_n 0, 1) := by decide +kernel
theorem dX5_endWith_6 : decode cX5_endWith 6 = .ok (.getfield 19, 3) := by decide +kernel
theorem dX5_endWith_9 : decode cX5_endWith 9 = .ok (.if_icmp .ge 37, 3) := by decide +kernel
theorem dX5_endWith_12 : decode cX5_endWith 12 = .ok (.aload_n 0, 1) := by decide +kernel
theorem dX5_endWith_13 : decode cX5_endWith 13 = .ok (.getfield 11, 3) := by decide +kernel
theorem dX5_endWith_16 : decode cX5_endWith 16 = .ok (.iload_n 3, 1) := by decide +kernel
theorem dX5_endWith_17 : decode cX5_endWith 17 = .ok (.iaload, 1) := by decide +kernel
theorem dX5_endWith_18 : decode cX5_endWith 18 = .ok (.iconst (-1), 1) := by decide +kernel
theorem dX5_endWith_19 : decode cX5_endWith 19 = .ok (.if_icmp .eq 21, 3) := by decide +kernel
theorem dX5_endWith_22 : decode cX5_endWith 22 = .ok (.iload_n 3, 1) := by decide +kernel
theorem dX5_endWith_23 : decode cX5_endWith 23 = .ok (.iload_n 1, 1) := by decide +kernel
theorem dX5_endWith_24 : decode cX5_endWith 24 = .ok (.iand, 1) := by decide +kernel
theorem dX5_endWith_25 : decode cX5_endWith 25 = .ok (.iload_n 1, 1) := by decide +kernel
theorem dX5_endWith_26 : decode cX5_endWith 26 = .ok (.if_icmp .ne 14, 3) := by decide +kernel
theorem dX5_endWith_29 : decode cX5_endWith 29 = .ok (.aload_n 0, 1) := by decide +kernel
theorem dX5_endWith_30 : decode cX5_endWith 30 = .ok (.iload_n 3, 1) := by decide +kernel
theorem dX5_endWith_31 : decode cX5_endWith 31 = .ok (.iload_n 2, 1) := by decide +kernel
theorem dX5_endWith_32 : decode cX5_endWith 32 = .ok (.invokevirtual 68, 3) := by decide +kernel
theorem dX5_endWith_35 : decode cX5_endWith 35 = .ok (.ifCond .eq 5, 3) := by decide +kernel
theorem dX5_endWith_38 : decode cX5_endWith 38 = .ok (.iload_n 3, 1) := by decide +kernel
theorem dX5_endWith_39 : decode cX5_endWith 39 = .ok (.istore_n 2, 1) := by decide +kernel
theorem dX5_endWith_40 : decode cX5_endWith 40 = .ok (.iinc 3 1, 3) := by decide +kernel
theorem dX5_endWith_43 : decode cX5_endWith 43 = .ok (.goto (-39), 3) := by decide +kernel
theorem dX5_endWith_46 : decode cX5_endWith 46 = .ok (.iload_n 2, 1) := by decide +kernel
theorem dX5_endWith_47 : decode cX5_endWith 47 = .ok (.ireturn, 1) := by decide +kernel
set_option maxRecDepth 20000 in
theorem ggX5_richestEnd_X5_minutesTo : GoodIn wsX5_richestEnd wsX5_minutesTo := goodIn_r _ [7, 1, 2, 23, 24, 25] (by decide +kernel) (by decide +kernel)
set_option maxRecDepth 20000 in
theorem gX5_richestEnd_X5_minutesTo : GoodIn wsX5_richestEnd (wsV RX5 72 RX5 yX5_minutesTo wsX5_minutesTo) := goodIn_app (goodIn_of _ (by decide +kernel)) ggX5_richestEnd_X5_minutesTo
set_option maxRecDepth 20000 in
theorem ggX5_richestEnd_X4_worthOf : GoodIn wsX5_richestEnd wsX4_worthOf := goodIn_r _ [12, 13, 26, 27, 28] (by decide +kernel) (by decide +kernel)
set_option maxRecDepth 20000 in
theorem gX5_richestEnd_X4_worthOf : GoodIn wsX5_richestEnd (wsV RX5 75 RX4 yX4_worthOf wsX4_worthOf) := goodIn_app (goodIn_of _ (by decide +kernel)) ggX5_richestEnd_X4_worthOf
set_option maxRecDepth 20000 in
theorem ggX5_richestEnd_X5_isBetter : GoodIn wsX5_richestEnd wsX5_isBetter := goodIn_r _ [17, 2, 18, 19, 20, 21, 6, 22, 23, 24, 25] (by decide +kernel) (by decide +kernel)
set_option maxRecDepth 20000 in
theorem gX5_richestEnd_X5_isBetter : GoodIn wsX5_richestEnd (wsV RX5 68 RX5 yX5_isBetter wsX5_isBetter) := goodIn_app (goodIn_of _ (by decide +kernel)) ggX5_richestEnd_X5_isBetter
theorem dX5_richestEnd_0 : decode cX5_richestEnd 0 = .ok (.iconst (-1), 1) := by decide +kernel
theorem dX5_richestEnd_1 : decode cX5_richestEnd 1 = .ok (.istore_n 3, 1) := by decide +kernel
theorem dX5_richestEnd_2 : decode cX5_richestEnd 2 = .ok (.iconst 0, 1) := by decide +kernel
theorem dX5_richestEnd_3 : decode cX5_richestEnd 3 = .ok (.istore 4, 2) := by decide +kernel
theorem dX5_richestEnd_5 : decode cX5_richestEnd 5 = .ok (.iconst 0, 1) := by decide +kernel
theorem dX5_richestEnd_6 : decode cX5_richestEnd 6 = .ok (.istore 5, 2) := by decide +kernel
theorem dX5_richestEnd_8 : decode cX5_richestEnd 8 = .ok (.iload 5, 2) := by decide +kernel
theorem dX5_richestEnd_10 : decode cX5_richestEnd 10 = .ok (.aload_n 0, 1) := by decide +kernel
theorem dX5_richestEnd_11 : decode cX5_richestEnd 11 = .ok (.getfield 19, 3) := by decide +kernel
theorem dX5_richestEnd_14 : decode cX5_richestEnd 14 = .ok (.if_icmp .ge 72, 3) := by decide +kernel
theorem dX5_richestEnd_17 : decode cX5_richestEnd 17 = .ok (.aload_n 0, 1) := by decide +kernel
theorem dX5_richestEnd_18 : decode cX5_richestEnd 18 = .ok (.getfield 11, 3) := by decide +kernel
theorem dX5_richestEnd_21 : decode cX5_richestEnd 21 = .ok (.iload 5, 2) := by decide +kernel
theorem dX5_richestEnd_23 : decode cX5_richestEnd 23 = .ok (.iaload, 1) := by decide +kernel
theorem dX5_richestEnd_24 : decode cX5_richestEnd 24 = .ok (.iconst (-1), 1) := by decide +kernel
theorem dX5_richestEnd_25 : decode cX5_richestEnd 25 = .ok (.if_icmp .eq 55, 3) := by decide +kernel
theorem dX5_richestEnd_28 : decode cX5_richestEnd 28 = .ok (.aload_n 0, 1) := by decide +kernel
theorem dX5_richestEnd_29 : decode cX5_richestEnd 29 = .ok (.iload 5, 2) := by decide +kernel
theorem dX5_richestEnd_31 : decode cX5_richestEnd 31 = .ok (.invokevirtual 72, 3) := by decide +kernel
theorem dX5_richestEnd_34 : decode cX5_richestEnd 34 = .ok (.iload_n 2, 1) := by decide +kernel
theorem dX5_richestEnd_35 : decode cX5_richestEnd 35 = .ok (.if_icmp .le 6, 3) := by decide +kernel
theorem dX5_richestEnd_38 : decode cX5_richestEnd 38 = .ok (.goto 42, 3) := by decide +kernel
theorem dX5_richestEnd_41 : decode cX5_richestEnd 41 = .ok (.aload_n 1, 1) := by decide +kernel
theorem dX5_richestEnd_42 : decode cX5_richestEnd 42 = .ok (.iload 5, 2) := by decide +kernel
theorem dX5_richestEnd_44 : decode cX5_richestEnd 44 = .ok (.invokevirtual 75, 3) := by decide +kernel
theorem dX5_richestEnd_47 : decode cX5_richestEnd 47 = .ok (.istore 6, 2) := by decide +kernel
theorem dX5_richestEnd_49 : decode cX5_richestEnd 49 = .ok (.iload 6, 2) := by decide +kernel
theorem dX5_richestEnd_51 : decode cX5_richestEnd 51 = .ok (.iload 4, 2) := by decide +kernel
theorem dX5_richestEnd_53 : decode cX5_richestEnd 53 = .ok (.if_icmp .gt 20, 3) := by decide +kernel
theorem dX5_richestEnd_56 : decode cX5_richestEnd 56 = .ok (.iload 6, 2) := by decide +kernel
theorem dX5_richestEnd_58 : decode cX5_richestEnd 58 = .ok (.iload 4, 2) := by decide +kernel
theorem dX5_richestEnd_60 : decode cX5_richestEnd 60 = .ok (.if_icmp .ne 20, 3) := by decide +kernel
theorem dX5_richestEnd_63 : decode cX5_richestEnd 63 = .ok (.aload_n 0, 1) := by decide +kernel
theorem dX5_richestEnd_64 : decode cX5_richestEnd 64 = .ok (.iload 5, 2) := by decide +kernel
theorem dX5_richestEnd_66 : decode cX5_richestEnd 66 = .ok (.iload_n 3, 1) := by decide +kernel
theorem dX5_richestEnd_67 : decode cX5_richestEnd 67 = .ok (.invokevirtual 68, 3) := by decide +kernel
theorem dX5_richestEnd_70 : decode cX5_richestEnd 70 = .ok (.ifCond .eq 10, 3) := by decide +kernel
theorem dX5_richestEnd_73 : decode cX5_richestEnd 73 = .ok (.iload 5, 2) := by decide +kernel
theorem dX5_richestEnd_75 : decode cX5_richestEnd 75 = .ok (.istore_n 3, 1) := by decide +kernel
theorem dX5_richestEnd_76 : decode cX5_richestEnd 76 = .ok (.iload 6, 2) := by decide +kernel
theorem dX5_richestEnd_78 : decode cX5_richestEnd 78 = .ok (.istore 4, 2) := by decide +kernel
theorem dX5_richestEnd_80 : decode cX5_richestEnd 80 = .ok (.iinc 5 1, 3) := by decide +kernel
theorem dX5_richestEnd_83 : decode cX5_richestEnd 83 = .ok (.goto (-75), 3) := by decide +kernel
theorem dX5_richestEnd_86 : decode cX5_richestEnd 86 = .ok (.iload_n 3, 1) := by decide +kernel
theorem dX5_richestEnd_87 : decode cX5_richestEnd 87 = .ok (.ireturn, 1) := by decide +kernel
theorem dX5_minutesTo_0 : decode cX5_minutesTo 0 = .ok (.iload_n 1, 1) := by decide +kernel
theorem dX5_minutesTo_1 : decode cX5_minutesTo 1 = .ok (.ifCond .lt 23, 3) := by decide +kernel
theorem dX5_minutesTo_4 : decode cX5_minutesTo 4 = .ok (.iload_n 1, 1) := by decide +kernel
theorem dX5_minutesTo_5 : decode cX5_minutesTo 5 = .ok (.aload_n 0, 1) := by decide +kernel
theorem dX5_minutesTo_6 : decode cX5_minutesTo 6 = .ok (.getfield 19, 3) := by decide +kernel
theorem dX5_minutesTo_9 : decode cX5_minutesTo 9 = .ok (.if_icmp .ge 15, 3) := by decide +kernel
theorem dX5_minutesTo_12 : decode cX5_minutesTo 12 = .ok (.aload_n 0, 1) := by decide +kernel
theorem dX5_minutesTo_13 : decode cX5_minutesTo 13 = .ok (.getfield 11, 3) := by decide +kernel
theorem dX5_minutesTo_16 : decode cX5_minutesTo 16 = .ok (.iload_n 1, 1) := by decide +kernel
theorem dX5_minutesTo_17 : decode cX5_minutesTo 17 = .ok (.iaload, 1) := by decide +kernel
theorem dX5_minutesTo_18 : decode cX5_minutesTo 18 = .ok (.bipush 16, 2) := by decide +kernel
theorem dX5_minutesTo_20 : decode cX5_minutesTo 20 = .ok (.idiv, 1) := by decide +kernel
theorem dX5_minutesTo_21 : decode cX5_minutesTo 21 = .ok (.goto 4, 3) := by decide +kernel
theorem dX5_minutesTo_24 : decode cX5_minutesTo 24 = .ok (.iconst (-1), 1) := by decide +kernel
theorem dX5_minutesTo_25 : decode cX5_minutesTo 25 = .ok (.ireturn, 1) := by decide +kernel
set_option maxRecDepth 20000 in
theorem ggX5_copyRow_X2_clear : GoodIn wsX5_copyRow wsX2_clear := goodIn_r _ [8, 9, 18, 19] (by decide +kernel) (by decide +kernel)
set_option maxRecDepth 20000 in
theorem gX5_copyRow_X2_clear : GoodIn wsX5_copyRow (wsV RX5 80 RX2 yX2_clear wsX2_clear) := goodIn_app (goodIn_of _ (by decide +kernel)) ggX5_copyRow_X2_clear
set_option maxRecDepth 20000 in
theorem ggX5_copyRow_X2_add : GoodIn wsX5_copyRow wsX2_add := goodIn_r _ [13, 9, 14, 18, 19] (by decide +kernel) (by decide +kernel)
set_option maxRecDepth 20000 in
theorem gX5_copyRow_X2_add : GoodIn wsX5_copyRow (wsV RX5 85 RX2 yX2_add wsX2_add) := goodIn_app (goodIn_of _ (by decide +kernel)) ggX5_copyRow_X2_add
theorem dX5_copyRow_0 : decode cX5_copyRow 0 = .ok (.iload_n 1, 1) := by decide +kernel
theorem dX5_copyRow_1 : decode cX5_copyRow 1 = .ok (.ifCond .lt 11, 3) := by decide +kernel
theorem dX5_copyRow_4 : decode cX5_copyRow 4 = .ok (.iload_n 1, 1) := by decide +kernel
theorem dX5_copyRow_5 : decode cX5_copyRow 5 = .ok (.aload_n 0, 1) := by decide +kernel
theorem dX5_copyRow_6 : decode cX5_copyRow 6 = .ok (.getfield 19, 3) := by decide +kernel
theorem dX5_copyRow_9 : decode cX5_copyRow 9 = .ok (.if_icmp .lt 4, 3) := by decide +kernel
theorem dX5_copyRow_12 : decode cX5_copyRow 12 = .ok (.return_, 1) := by decide +kernel
theorem dX5_copyRow_13 : decode cX5_copyRow 13 = .ok (.aload_n 2, 1) := by decide +kernel
theorem dX5_copyRow_14 : decode cX5_copyRow 14 = .ok (.invokevirtual 80, 3) := by decide +kernel
theorem dX5_copyRow_17 : decode cX5_copyRow 17 = .ok (.aload_n 0, 1) := by decide +kernel
theorem dX5_copyRow_18 : decode cX5_copyRow 18 = .ok (.getfield 11, 3) := by decide +kernel
theorem dX5_copyRow_21 : decode cX5_copyRow 21 = .ok (.iload_n 1, 1) := by decide +kernel
theorem dX5_copyRow_22 : decode cX5_copyRow 22 = .ok (.iaload, 1) := by decide +kernel
theorem dX5_copyRow_23 : decode cX5_copyRow 23 = .ok (.bipush 16, 2) := by decide +kernel
theorem dX5_copyRow_25 : decode cX5_copyRow 25 = .ok (.irem, 1) := by decide +kernel
theorem dX5_copyRow_26 : decode cX5_copyRow 26 = .ok (.iconst 1, 1) := by decide +kernel
theorem dX5_copyRow_27 : decode cX5_copyRow 27 = .ok (.isub, 1) := by decide +kernel
theorem dX5_copyRow_28 : decode cX5_copyRow 28 = .ok (.istore_n 3, 1) := by decide +kernel
theorem dX5_copyRow_29 : decode cX5_copyRow 29 = .ok (.iload_n 3, 1) := by decide +kernel
theorem dX5_copyRow_30 : decode cX5_copyRow 30 = .ok (.ifCond .lt 27, 3) := by decide +kernel
theorem dX5_copyRow_33 : decode cX5_copyRow 33 = .ok (.aload_n 2, 1) := by decide +kernel
theorem dX5_copyRow_34 : decode cX5_copyRow 34 = .ok (.aload_n 0, 1) := by decide +kernel
theorem dX5_copyRow_35 : decode cX5_copyRow 35 = .ok (.getfield 15, 3) := by decide +kernel
theorem dX5_copyRow_38 : decode cX5_copyRow 38 = .ok (.iload_n 1, 1) := by decide +kernel
theorem dX5_copyRow_39 : decode cX5_copyRow 39 = .ok (.laload, 1) := by decide +kernel
theorem dX5_copyRow_40 : decode cX5_copyRow 40 = .ok (.iconst 5, 1) := by decide +kernel
theorem dX5_copyRow_41 : decode cX5_copyRow 41 = .ok (.iload_n 3, 1) := by decide +kernel
theorem dX5_copyRow_42 : decode cX5_copyRow 42 = .ok (.imul, 1) := by decide +kernel
theorem dX5_copyRow_43 : decode cX5_copyRow 43 = .ok (.lshr, 1) := by decide +kernel
theorem dX5_copyRow_44 : decode cX5_copyRow 44 = .ok (.l2i, 1) := by decide +kernel
theorem dX5_copyRow_45 : decode cX5_copyRow 45 = .ok (.bipush 31, 2) := by decide +kernel
theorem dX5_copyRow_47 : decode cX5_copyRow 47 = .ok (.iand, 1) := by decide +kernel
theorem dX5_copyRow_48 : decode cX5_copyRow 48 = .ok (.invokevirtual 85, 3) := by decide +kernel
theorem dX5_copyRow_51 : decode cX5_copyRow 51 = .ok (.iinc 3 (-1), 3) := by decide +kernel
theorem dX5_copyRow_54 : decode cX5_copyRow 54 = .ok (.goto (-25), 3) := by decide +kernel
theorem dX5_copyRow_57 : decode cX5_copyRow 57 = .ok (.return_, 1) := by decide +kernel
set_option maxRecDepth 20000 in
theorem ggX6_init_X2_init : GoodIn wsX6_init wsX2_init := goodIn_r _ [13, 14, 2, 3, 4, 15, 16, 20, 21] (by decide +kernel) (by decide +kernel)
set_option maxRecDepth 20000 in
theorem gX6_init_X2_init : GoodIn wsX6_init (wsX2_init) := ggX6_init_X2_init
theorem dX6_init_0 : decode cX6_init 0 = .ok (.aload_n 0, 1) := by decide +kernel
theorem dX6_init_1 : decode cX6_init 1 = .ok (.invokespecial 3, 3) := by decide +kernel
theorem dX6_init_4 : decode cX6_init 4 = .ok (.aload_n 0, 1) := by decide +kernel
theorem dX6_init_5 : decode cX6_init 5 = .ok (.bipush 52, 2) := by decide +kernel
theorem dX6_init_7 : decode cX6_init 7 = .ok (.newarray .int, 2) := by decide +kernel
theorem dX6_init_9 : decode cX6_init 9 = .ok (.putfield 9, 3) := by decide +kernel
theorem dX6_init_12 : decode cX6_init 12 = .ok (.iconst 0, 1) := by decide +kernel
theorem dX6_init_13 : decode cX6_init 13 = .ok (.istore_n 1, 1) := by decide +kernel
theorem dX6_init_14 : decode cX6_init 14 = .ok (.iload_n 1, 1) := by decide +kernel
theorem dX6_init_15 : decode cX6_init 15 = .ok (.aload_n 0, 1) := by decide +kernel
theorem dX6_init_16 : decode cX6_init 16 = .ok (.getfield 9, 3) := by decide +kernel
theorem dX6_init_19 : decode cX6_init 19 = .ok (.arraylength, 1) := by decide +kernel
theorem dX6_init_20 : decode cX6_init 20 = .ok (.if_icmp .ge 18, 3) := by decide +kernel
theorem dX6_init_23 : decode cX6_init 23 = .ok (.aload_n 0, 1) := by decide +kernel
theorem dX6_init_24 : decode cX6_init 24 = .ok (.getfield 9, 3) := by decide +kernel
theorem dX6_init_27 : decode cX6_init 27 = .ok (.iload_n 1, 1) := by decide +kernel
theorem dX6_init_28 : decode cX6_init 28 = .ok (.sipush 300, 3) := by decide +kernel
theorem dX6_init_31 : decode cX6_init 31 = .ok (.iastore, 1) := by decide +kernel
theorem dX6_init_32 : decode cX6_init 32 = .ok (.iinc 1 1, 3) := by decide +kernel
theorem dX6_init_35 : decode cX6_init 35 = .ok (.goto (-21), 3) := by decide +kernel
theorem dX6_init_38 : decode cX6_init 38 = .ok (.aload_n 0, 1) := by decide +kernel
theorem dX6_init_39 : decode cX6_init 39 = .ok (.new 15, 3) := by decide +kernel
theorem dX6_init_42 : decode cX6_init 42 = .ok (.dup, 1) := by decide +kernel
theorem dX6_init_43 : decode cX6_init 43 = .ok (.invokespecial 17, 3) := by decide +kernel
theorem dX6_init_46 : decode cX6_init 46 = .ok (.putfield 18, 3) := by decide +kernel
theorem dX6_init_49 : decode cX6_init 49 = .ok (.aload_n 0, 1) := by decide +kernel
theorem dX6_init_50 : decode cX6_init 50 = .ok (.new 15, 3) := by decide +kernel
theorem dX6_init_53 : decode cX6_init 53 = .ok (.dup, 1) := by decide +kernel
theorem dX6_init_54 : decode cX6_init 54 = .ok (.invokespecial 17, 3) := by decide +kernel
theorem dX6_init_57 : decode cX6_init 57 = .ok (.putfield 22, 3) := by decide +kernel
theorem dX6_init_60 : decode cX6_init 60 = .ok (.return_, 1) := by decide +kernel
theorem dX6_change_0 : decode cX6_change 0 = .ok (.iload_n 1, 1) := by decide +kernel
theorem dX6_change_1 : decode cX6_change 1 = .ok (.ifCond .lt 19, 3) := by decide +kernel
theorem dX6_change_4 : decode cX6_change 4 = .ok (.iload_n 1, 1) := by decide +kernel
theorem dX6_change_5 : decode cX6_change 5 = .ok (.aload_n 0, 1) := by decide +kernel
theorem dX6_change_6 : decode cX6_change 6 = .ok (.getfield 9, 3) := by decide +kernel
theorem dX6_change_9 : decode cX6_change 9 = .ok (.arraylength, 1) := by decide +kernel
theorem dX6_change_10 : decode cX6_change 10 = .ok (.if_icmp .ge 10, 3) := by decide +kernel
theorem dX6_change_13 : decode cX6_change 13 = .ok (.aload_n 0, 1) := by decide +kernel
theorem dX6_change_14 : decode cX6_change 14 = .ok (.getfield 9, 3) := by decide +kernel
theorem dX6_change_17 : decode cX6_change 17 = .ok (.iload_n 1, 1) := by decide +kernel
theorem dX6_change_18 : decode cX6_change 18 = .ok (.iload_n 2, 1) := by decide +kernel
theorem dX6_change_19 : decode cX6_change 19 = .ok (.iastore, 1) := by decide +kernel
theorem dX6_change_20 : decode cX6_change 20 = .ok (.return_, 1) := by decide +kernel
set_option maxRecDepth 20000 in
theorem ggX6_weekOf_X2_at : GoodIn wsX6_weekOf wsX2_at := goodIn_r _ [6, 7, 8, 12, 13] (by decide +kernel) (by decide +kernel)
set_option maxRecDepth 20000 in
theorem gX6_weekOf_X2_at : GoodIn wsX6_weekOf (wsV RX6 25 RX2 yX2_at wsX2_at) := goodIn_app (goodIn_of _ (by decide +kernel)) ggX6_weekOf_X2_at
theorem dX6_weekOf_0 : decode cX6_weekOf 0 = .ok (.aload_n 0, 1) := by decide +kernel
theorem dX6_weekOf_1 : decode cX6_weekOf 1 = .ok (.getfield 18, 3) := by decide +kernel
theorem dX6_weekOf_4 : decode cX6_weekOf 4 = .ok (.iload_n 1, 1) := by decide +kernel
theorem dX6_weekOf_5 : decode cX6_weekOf 5 = .ok (.invokevirtual 25, 3) := by decide +kernel
theorem dX6_weekOf_8 : decode cX6_weekOf 8 = .ok (.ireturn, 1) := by decide +kernel
set_option maxRecDepth 20000 in
theorem ggX6_layRow_X2_clear : GoodIn wsX6_layRow wsX2_clear := goodIn_r _ [8, 9, 78, 79] (by decide +kernel) (by decide +kernel)
set_option maxRecDepth 20000 in
theorem gX6_layRow_X2_clear : GoodIn wsX6_layRow (wsV RX6 29 RX2 yX2_clear wsX2_clear) := goodIn_app (goodIn_of _ (by decide +kernel)) ggX6_layRow_X2_clear
set_option maxRecDepth 20000 in
theorem ggX6_layRow_X2_size : GoodIn wsX6_layRow wsX2_size := goodIn_r _ [13, 9, 78, 79] (by decide +kernel) (by decide +kernel)
set_option maxRecDepth 20000 in
theorem gX6_layRow_X2_size : GoodIn wsX6_layRow (wsV RX6 32 RX2 yX2_size wsX2_size) := goodIn_app (goodIn_of _ (by decide +kernel)) ggX6_layRow_X2_size
set_option maxRecDepth 20000 in
theorem ggX6_layRow_X2_at : GoodIn wsX6_layRow wsX2_at := goodIn_r _ [17, 9, 18, 78, 79] (by decide +kernel) (by decide +kernel)
set_option maxRecDepth 20000 in
theorem gX6_layRow_X2_at : GoodIn wsX6_layRow (wsV RX6 25 RX2 yX2_at wsX2_at) := goodIn_app (goodIn_of _ (by decide +kernel)) ggX6_layRow_X2_at
set_option maxRecDepth 20000 in
theorem ggX6_layRow_X3_minutesOf : GoodIn wsX6_layRow wsX3_minutesOf := goodIn_r _ [23, 24, 25, 26, 27, 22, 28, 29, 30, 31, 32, 33, 34, 35, 36, 37, 38, 39, 40, 41, 42, 43, 44, 45, 46, 47, 48, 49, 50, 51, 52, 53, 54, 55, 56, 57, 58, 59, 60, 61, 62, 80, 81, 82, 83, 84, 85, 86, 87, 88, 89] (by decide +kernel) (by decide +kernel)
set_option maxRecDepth 20000 in
theorem gX6_layRow_X3_minutesOf : GoodIn wsX6_layRow (wsV RX6 36 RX3 yX3_minutesOf wsX3_minutesOf) := goodIn_app (goodIn_of _ (by decide +kernel)) ggX6_layRow_X3_minutesOf
set_option maxRecDepth 20000 in
theorem ggX6_layRow_X2_add : GoodIn wsX6_layRow wsX2_add := goodIn_r _ [66, 9, 18, 78, 79] (by decide +kernel) (by decide +kernel)
set_option maxRecDepth 20000 in
theorem gX6_layRow_X2_add : GoodIn wsX6_layRow (wsV RX6 41 RX2 yX2_add wsX2_add) := goodIn_app (goodIn_of _ (by decide +kernel)) ggX6_layRow_X2_add
set_option maxRecDepth 20000 in
theorem ggX6_layRow_X2_become : GoodIn wsX6_layRow wsX2_become := goodIn_r _ [70, 71, 5, 6, 7, 8, 9, 72, 11, 12, 13, 73, 15, 16, 17, 18, 74, 64, 65, 66, 78, 79] (by decide +kernel) (by decide +kernel)
set_option maxRecDepth 20000 in
theorem gX6_layRow_X2_become : GoodIn wsX6_layRow (wsV RX6 45 RX2 yX2_become wsX2_become) := goodIn_app (goodIn_of _ (by decide +kernel)) ggX6_layRow_X2_become
theorem dX6_layRow_0 : decode cX6_layRow 0 = .ok (.iload_n 3, 1) := by decide +kernel
theorem dX6_layRow_1 : decode cX6_layRow 1 = .ok (.ifCond .lt 12, 3) := by decide +kernel
theorem dX6_layRow_4 : decode cX6_layRow 4 = .ok (.iload_n 3, 1) := by decide +kernel
theorem dX6_layRow_5 : decode cX6_layRow 5 = .ok (.aload_n 0, 1) := by decide +kernel
theorem dX6_layRow_6 : decode cX6_layRow 6 = .ok (.getfield 9, 3) := by decide +kernel
theorem dX6_layRow_9 : decode cX6_layRow 9 = .ok (.arraylength, 1) := by decide +kernel
theorem dX6_layRow_10 : decode cX6_layRow 10 = .ok (.if_icmp .lt 5, 3) := by decide +kernel
theorem dX6_layRow_13 : decode cX6_layRow 13 = .ok (.iconst (-1), 1) := by decide +kernel
theorem dX6_layRow_14 : decode cX6_layRow 14 = .ok (.ireturn, 1) := by decide +kernel
theorem dX6_layRow_15 : decode cX6_layRow 15 = .ok (.iload_n 3, 1) := by decide +kernel
theorem dX6_layRow_16 : decode cX6_layRow 16 = .ok (.istore 4, 2) := by decide +kernel
theorem dX6_layRow_18 : decode cX6_layRow 18 = .ok (.aload_n 0, 1) := by decide +kernel
theorem dX6_layRow_19 : decode cX6_layRow 19 = .ok (.getfield 9, 3) := by decide +kernel
theorem dX6_layRow_22 : decode cX6_layRow 22 = .ok (.iload_n 3, 1) := by decide +kernel
theorem dX6_layRow_23 : decode cX6_layRow 23 = .ok (.iaload, 1) := by decide +kernel
theorem dX6_layRow_24 : decode cX6_layRow 24 = .ok (.istore 5, 2) := by decide +kernel
theorem dX6_layRow_26 : decode cX6_layRow 26 = .ok (.aload_n 0, 1) := by decide +kernel
theorem dX6_layRow_27 : decode cX6_layRow 27 = .ok (.getfield 22, 3) := by decide +kernel
theorem dX6_layRow_30 : decode cX6_layRow 30 = .ok (.invokevirtual 29, 3) := by decide +kernel
theorem dX6_layRow_33 : decode cX6_layRow 33 = .ok (.iconst 0, 1) := by decide +kernel
theorem dX6_layRow_34 : decode cX6_layRow 34 = .ok (.istore 6, 2) := by decide +kernel
theorem dX6_layRow_36 : decode cX6_layRow 36 = .ok (.iload 6, 2) := by decide +kernel
theorem dX6_layRow_38 : decode cX6_layRow 38 = .ok (.aload_n 1, 1) := by decide +kernel
theorem dX6_layRow_39 : decode cX6_layRow 39 = .ok (.invokevirtual 32, 3) := by decide +kernel
theorem dX6_layRow_42 : decode cX6_layRow 42 = .ok (.if_icmp .ge 87, 3) := by decide +kernel
theorem dX6_layRow_45 : decode cX6_layRow 45 = .ok (.aload_n 2, 1) := by decide +kernel
theorem dX6_layRow_46 : decode cX6_layRow 46 = .ok (.aload_n 1, 1) := by decide +kernel
theorem dX6_layRow_47 : decode cX6_layRow 47 = .ok (.iload 6, 2) := by decide +kernel
theorem dX6_layRow_49 : decode cX6_layRow 49 = .ok (.invokevirtual 25, 3) := by decide +kernel
theorem dX6_layRow_52 : decode cX6_layRow 52 = .ok (.invokevirtual 36, 3) := by decide +kernel
theorem dX6_layRow_55 : decode cX6_layRow 55 = .ok (.istore 7, 2) := by decide +kernel
theorem dX6_layRow_57 : decode cX6_layRow 57 = .ok (.iload 5, 2) := by decide +kernel
theorem dX6_layRow_59 : decode cX6_layRow 59 = .ok (.iload 7, 2) := by decide +kernel
theorem dX6_layRow_61 : decode cX6_layRow 61 = .ok (.if_icmp .ge 30, 3) := by decide +kernel
theorem dX6_layRow_64 : decode cX6_layRow 64 = .ok (.iload 4, 2) := by decide +kernel
theorem dX6_layRow_66 : decode cX6_layRow 66 = .ok (.iconst 1, 1) := by decide +kernel
theorem dX6_layRow_67 : decode cX6_layRow 67 = .ok (.iadd, 1) := by decide +kernel
theorem dX6_layRow_68 : decode cX6_layRow 68 = .ok (.aload_n 0, 1) := by decide +kernel
theorem dX6_layRow_69 : decode cX6_layRow 69 = .ok (.getfield 9, 3) := by decide +kernel
theorem dX6_layRow_72 : decode cX6_layRow 72 = .ok (.arraylength, 1) := by decide +kernel
theorem dX6_layRow_73 : decode cX6_layRow 73 = .ok (.if_icmp .ge 18, 3) := by decide +kernel
theorem dX6_layRow_76 : decode cX6_layRow 76 = .ok (.iinc 4 1, 3) := by decide +kernel
theorem dX6_layRow_79 : decode cX6_layRow 79 = .ok (.aload_n 0, 1) := by decide +kernel
theorem dX6_layRow_80 : decode cX6_layRow 80 = .ok (.getfield 9, 3) := by decide +kernel
theorem dX6_layRow_83 : decode cX6_layRow 83 = .ok (.iload 4, 2) := by decide +kernel
theorem dX6_layRow_85 : decode cX6_layRow 85 = .ok (.iaload, 1) := by decide +kernel
theorem dX6_layRow_86 : decode cX6_layRow 86 = .ok (.istore 5, 2) := by decide +kernel
theorem dX6_layRow_88 : decode cX6_layRow 88 = .ok (.goto (-31), 3) := by decide +kernel
theorem dX6_layRow_91 : decode cX6_layRow 91 = .ok (.iload 7, 2) := by decide +kernel
theorem dX6_layRow_93 : decode cX6_layRow 93 = .ok (.iconst (-1), 1) := by decide +kernel
theorem dX6_layRow_94 : decode cX6_layRow 94 = .ok (.if_icmp .eq 10, 3) := by decide +kernel
theorem dX6_layRow_97 : decode cX6_layRow 97 = .ok (.iload 5, 2) := by decide +kernel
theorem dX6_layRow_99 : decode cX6_layRow 99 = .ok (.iload 7, 2) := by decide +kernel
theorem dX6_layRow_101 : decode cX6_layRow 101 = .ok (.if_icmp .ge 6, 3) := by decide +kernel
theorem dX6_layRow_104 : decode cX6_layRow 104 = .ok (.bipush (-2), 2) := by decide +kernel
theorem dX6_layRow_106 : decode cX6_layRow 106 = .ok (.ireturn, 1) := by decide +kernel
theorem dX6_layRow_107 : decode cX6_layRow 107 = .ok (.iload 5, 2) := by decide +kernel
theorem dX6_layRow_109 : decode cX6_layRow 109 = .ok (.iload 7, 2) := by decide +kernel
theorem dX6_layRow_111 : decode cX6_layRow 111 = .ok (.isub, 1) := by decide +kernel
theorem dX6_layRow_112 : decode cX6_layRow 112 = .ok (.istore 5, 2) := by decide +kernel
theorem dX6_layRow_114 : decode cX6_layRow 114 = .ok (.aload_n 0, 1) := by decide +kernel
theorem dX6_layRow_115 : decode cX6_layRow 115 = .ok (.getfield 22, 3) := by decide +kernel
theorem dX6_layRow_118 : decode cX6_layRow 118 = .ok (.iload 4, 2) := by decide +kernel
theorem dX6_layRow_120 : decode cX6_layRow 120 = .ok (.invokevirtual 41, 3) := by decide +kernel
theorem dX6_layRow_123 : decode cX6_layRow 123 = .ok (.iinc 6 1, 3) := by decide +kernel
theorem dX6_layRow_126 : decode cX6_layRow 126 = .ok (.goto (-90), 3) := by decide +kernel
theorem dX6_layRow_129 : decode cX6_layRow 129 = .ok (.aload_n 0, 1) := by decide +kernel
theorem dX6_layRow_130 : decode cX6_layRow 130 = .ok (.getfield 18, 3) := by decide +kernel
theorem dX6_layRow_133 : decode cX6_layRow 133 = .ok (.aload_n 0, 1) := by decide +kernel
theorem dX6_layRow_134 : decode cX6_layRow 134 = .ok (.getfield 22, 3) := by decide +kernel
theorem dX6_layRow_137 : decode cX6_layRow 137 = .ok (.invokevirtual 45, 3) := by decide +kernel
theorem dX6_layRow_140 : decode cX6_layRow 140 = .ok (.iload 4, 2) := by decide +kernel
theorem dX6_layRow_142 : decode cX6_layRow 142 = .ok (.ireturn, 1) := by decide +kernel
set_option maxRecDepth 20000 in
theorem ggX7_init_X4_init : GoodIn wsX7_init wsX4_init := goodIn_r _ [31, 32, 2, 3, 33, 34, 35, 36, 92, 93, 94] (by decide +kernel) (by decide +kernel)
set_option maxRecDepth 20000 in
theorem gX7_init_X4_init : GoodIn wsX7_init (wsX4_init) := ggX7_init_X4_init
set_option maxRecDepth 20000 in
theorem ggX7_init_X3_init : GoodIn wsX7_init wsX3_init := goodIn_r _ [39, 40, 2, 3, 41, 42, 43, 44, 45, 46, 47, 48, 49, 50, 51, 52, 53, 54, 55, 56, 57, 58, 59, 60, 116, 117, 118, 102, 103] (by decide +kernel) (by decide +kernel)
set_option maxRecDepth 20000 in
theorem gX7_init_X3_init : GoodIn wsX7_init (wsX3_init) := ggX7_init_X3_init
set_option maxRecDepth 20000 in
theorem ggX7_init_X5_init : GoodIn wsX7_init wsX5_init := goodIn_r _ [63, 64, 2, 3, 33, 65, 66, 67, 68, 104, 105, 106] (by decide +kernel) (by decide +kernel)
set_option maxRecDepth 20000 in
theorem gX7_init_X5_init : GoodIn wsX7_init (wsX5_init) := ggX7_init_X5_init
set_option maxRecDepth 20000 in
theorem ggX7_init_X2_init : GoodIn wsX7_init wsX2_init := goodIn_r _ [71, 72, 2, 3, 33, 73, 74, 107, 108] (by decide +kernel) (by decide +kernel)
set_option maxRecDepth 20000 in
theorem gX7_init_X2_init : GoodIn wsX7_init (wsX2_init) := ggX7_init_X2_init
set_option maxRecDepth 20000 in
theorem ggX7_init_X6_init : GoodIn wsX7_init wsX6_init := goodIn_r _ [77, 78, 2, 3, 33, 79, 80, 17, 18, 81, 82, 83, 70, 71, 72, 73, 74, 109, 110, 111, 107, 108] (by decide +kernel) (by decide +kernel)
set_option maxRecDepth 20000 in
theorem gX7_init_X6_init : GoodIn wsX7_init (wsX6_init) := ggX7_init_X6_init
set_option maxRecDepth 20000 in
theorem ggX7_init_X0_init : GoodIn wsX7_init wsX0_init := goodIn_r _ [86, 87, 2, 3, 33, 88, 89, 90, 91, 112, 113, 114, 115] (by decide +kernel) (by decide +kernel)
set_option maxRecDepth 20000 in
theorem gX7_init_X0_init : GoodIn wsX7_init (wsX0_init) := ggX7_init_X0_init
theorem dX7_init_0 : decode cX7_init 0 = .ok (.aload_n 0, 1) := by decide +kernel
theorem dX7_init_1 : decode cX7_init 1 = .ok (.invokespecial 3, 3) := by decide +kernel
theorem dX7_init_4 : decode cX7_init 4 = .ok (.aload_n 0, 1) := by decide +kernel
theorem dX7_init_5 : decode cX7_init 5 = .ok (.new 9, 3) := by decide +kernel
theorem dX7_init_8 : decode cX7_init 8 = .ok (.dup, 1) := by decide +kernel
theorem dX7_init_9 : decode cX7_init 9 = .ok (.invokespecial 11, 3) := by decide +kernel
theorem dX7_init_12 : decode cX7_init 12 = .ok (.putfield 12, 3) := by decide +kernel
theorem dX7_init_15 : decode cX7_init 15 = .ok (.aload_n 0, 1) := by decide +kernel
theorem dX7_init_16 : decode cX7_init 16 = .ok (.new 16, 3) := by decide +kernel
theorem dX7_init_19 : decode cX7_init 19 = .ok (.dup, 1) := by decide +kernel
theorem dX7_init_20 : decode cX7_init 20 = .ok (.invokespecial 18, 3) := by decide +kernel
theorem dX7_init_23 : decode cX7_init 23 = .ok (.putfield 19, 3) := by decide +kernel
theorem dX7_init_26 : decode cX7_init 26 = .ok (.aload_n 0, 1) := by decide +kernel
theorem dX7_init_27 : decode cX7_init 27 = .ok (.new 23, 3) := by decide +kernel
theorem dX7_init_30 : decode cX7_init 30 = .ok (.dup, 1) := by decide +kernel
theorem dX7_init_31 : decode cX7_init 31 = .ok (.invokespecial 25, 3) := by decide +kernel
theorem dX7_init_34 : decode cX7_init 34 = .ok (.putfield 26, 3) := by decide +kernel
theorem dX7_init_37 : decode cX7_init 37 = .ok (.aload_n 0, 1) := by decide +kernel
theorem dX7_init_38 : decode cX7_init 38 = .ok (.new 30, 3) := by decide +kernel
theorem dX7_init_41 : decode cX7_init 41 = .ok (.dup, 1) := by decide +kernel
theorem dX7_init_42 : decode cX7_init 42 = .ok (.invokespecial 32, 3) := by decide +kernel
theorem dX7_init_45 : decode cX7_init 45 = .ok (.putfield 33, 3) := by decide +kernel
theorem dX7_init_48 : decode cX7_init 48 = .ok (.aload_n 0, 1) := by decide +kernel
theorem dX7_init_49 : decode cX7_init 49 = .ok (.new 37, 3) := by decide +kernel
theorem dX7_init_52 : decode cX7_init 52 = .ok (.dup, 1) := by decide +kernel
theorem dX7_init_53 : decode cX7_init 53 = .ok (.invokespecial 39, 3) := by decide +kernel
theorem dX7_init_56 : decode cX7_init 56 = .ok (.putfield 40, 3) := by decide +kernel
theorem dX7_init_59 : decode cX7_init 59 = .ok (.aload_n 0, 1) := by decide +kernel
theorem dX7_init_60 : decode cX7_init 60 = .ok (.new 44, 3) := by decide +kernel
theorem dX7_init_63 : decode cX7_init 63 = .ok (.dup, 1) := by decide +kernel
theorem dX7_init_64 : decode cX7_init 64 = .ok (.invokespecial 46, 3) := by decide +kernel
theorem dX7_init_67 : decode cX7_init 67 = .ok (.putfield 47, 3) := by decide +kernel
theorem dX7_init_70 : decode cX7_init 70 = .ok (.aload_n 0, 1) := by decide +kernel
theorem dX7_init_71 : decode cX7_init 71 = .ok (.iconst 0, 1) := by decide +kernel
theorem dX7_init_72 : decode cX7_init 72 = .ok (.putfield 51, 3) := by decide +kernel
theorem dX7_init_75 : decode cX7_init 75 = .ok (.return_, 1) := by decide +kernel
set_option maxRecDepth 20000 in
theorem ggX7_topic_X7_isWithin : GoodIn wsX7_topic wsX7_isWithin := goodIn_r _ [6] (by decide +kernel) (by decide +kernel)
set_option maxRecDepth 20000 in
theorem gX7_topic_X7_isWithin : GoodIn wsX7_topic (va_wsS RX7 55 yX7_isWithin wsX7_isWithin) := goodIn_app (goodIn_of _ (by decide +kernel)) ggX7_topic_X7_isWithin
set_option maxRecDepth 20000 in
theorem ggX7_topic_X4_haveAll : GoodIn wsX7_topic wsX4_haveAll := goodIn_r _ [11, 12, 41, 42, 43] (by decide +kernel) (by decide +kernel)
set_option maxRecDepth 20000 in
theorem gX7_topic_X4_haveAll : GoodIn wsX7_topic (wsV RX7 59 RX4 yX4_haveAll wsX4_haveAll) := goodIn_app (goodIn_of _ (by decide +kernel)) ggX7_topic_X4_haveAll
set_option maxRecDepth 20000 in
theorem ggX7_topic_X4_add : GoodIn wsX7_topic wsX4_add := goodIn_r _ [16, 12, 17, 18, 19, 20, 21, 10, 22, 41, 42, 43] (by decide +kernel) (by decide +kernel)
set_option maxRecDepth 20000 in
theorem gX7_topic_X4_add : GoodIn wsX7_topic (wsV RX7 63 RX4 yX4_add wsX4_add) := goodIn_app (goodIn_of _ (by decide +kernel)) ggX7_topic_X4_add
set_option maxRecDepth 20000 in
theorem ggX7_topic_X4_impliedBy : GoodIn wsX7_topic wsX4_impliedBy := goodIn_r _ [26, 19, 20, 21, 10, 22, 18, 41, 42, 43] (by decide +kernel) (by decide +kernel)
set_option maxRecDepth 20000 in
theorem gX7_topic_X4_impliedBy : GoodIn wsX7_topic (wsV RX7 67 RX4 yX4_impliedBy wsX4_impliedBy) := goodIn_app (goodIn_of _ (by decide +kernel)) ggX7_topic_X4_impliedBy
set_option maxRecDepth 20000 in
theorem ggX7_topic_X0_addTopic : GoodIn wsX7_topic wsX0_addTopic := goodIn_r _ [31, 32, 33, 44, 45, 46, 47] (by decide +kernel) (by decide +kernel)
set_option maxRecDepth 20000 in
theorem gX7_topic_X0_addTopic : GoodIn wsX7_topic (wsV RX7 71 RX0 yX0_addTopic wsX0_addTopic) := goodIn_app (goodIn_of _ (by decide +kernel)) ggX7_topic_X0_addTopic
theorem dX7_topic_0 : decode cX7_topic 0 = .ok (.iload_n 1, 1) := by decide +kernel
theorem dX7_topic_1 : decode cX7_topic 1 = .ok (.iconst 0, 1) := by decide +kernel
theorem dX7_topic_2 : decode cX7_topic 2 = .ok (.bipush 9, 2) := by decide +kernel
theorem dX7_topic_4 : decode cX7_topic 4 = .ok (.invokestatic 55, 3) := by decide +kernel
theorem dX7_topic_7 : decode cX7_topic 7 = .ok (.ifCond .eq 14, 3) := by decide +kernel
theorem dX7_topic_10 : decode cX7_topic 10 = .ok (.aload_n 0, 1) := by decide +kernel
theorem dX7_topic_11 : decode cX7_topic 11 = .ok (.getfield 12, 3) := by decide +kernel
theorem dX7_topic_14 : decode cX7_topic 14 = .ok (.iload_n 2, 1) := by decide +kernel
theorem dX7_topic_15 : decode cX7_topic 15 = .ok (.invokevirtual 59, 3) := by decide +kernel
theorem dX7_topic_18 : decode cX7_topic 18 = .ok (.ifCond .ne 5, 3) := by decide +kernel
theorem dX7_topic_21 : decode cX7_topic 21 = .ok (.iconst (-1), 1) := by decide +kernel
theorem dX7_topic_22 : decode cX7_topic 22 = .ok (.ireturn, 1) := by decide +kernel
theorem dX7_topic_23 : decode cX7_topic 23 = .ok (.aload_n 0, 1) := by decide +kernel
theorem dX7_topic_24 : decode cX7_topic 24 = .ok (.getfield 12, 3) := by decide +kernel
theorem dX7_topic_27 : decode cX7_topic 27 = .ok (.iload_n 1, 1) := by decide +kernel
theorem dX7_topic_28 : decode cX7_topic 28 = .ok (.iload_n 2, 1) := by decide +kernel
theorem dX7_topic_29 : decode cX7_topic 29 = .ok (.invokevirtual 63, 3) := by decide +kernel
theorem dX7_topic_32 : decode cX7_topic 32 = .ok (.istore_n 3, 1) := by decide +kernel
theorem dX7_topic_33 : decode cX7_topic 33 = .ok (.iload_n 3, 1) := by decide +kernel
theorem dX7_topic_34 : decode cX7_topic 34 = .ok (.iconst (-1), 1) := by decide +kernel
theorem dX7_topic_35 : decode cX7_topic 35 = .ok (.if_icmp .eq 19, 3) := by decide +kernel
theorem dX7_topic_38 : decode cX7_topic 38 = .ok (.aload_n 0, 1) := by decide +kernel
theorem dX7_topic_39 : decode cX7_topic 39 = .ok (.getfield 47, 3) := by decide +kernel
theorem dX7_topic_42 : decode cX7_topic 42 = .ok (.iload_n 3, 1) := by decide +kernel
theorem dX7_topic_43 : decode cX7_topic 43 = .ok (.aload_n 0, 1) := by decide +kernel
theorem dX7_topic_44 : decode cX7_topic 44 = .ok (.getfield 12, 3) := by decide +kernel
theorem dX7_topic_47 : decode cX7_topic 47 = .ok (.iload_n 3, 1) := by decide +kernel
theorem dX7_topic_48 : decode cX7_topic 48 = .ok (.invokevirtual 67, 3) := by decide +kernel
theorem dX7_topic_51 : decode cX7_topic 51 = .ok (.invokevirtual 71, 3) := by decide +kernel
theorem dX7_topic_54 : decode cX7_topic 54 = .ok (.iload_n 3, 1) := by decide +kernel
theorem dX7_topic_55 : decode cX7_topic 55 = .ok (.ireturn, 1) := by decide +kernel
set_option maxRecDepth 20000 in
theorem ggX7_piece_X4_haveAll : GoodIn wsX7_piece wsX4_haveAll := goodIn_r _ [10, 11, 110, 111, 112] (by decide +kernel) (by decide +kernel)
set_option maxRecDepth 20000 in
theorem gX7_piece_X4_haveAll : GoodIn wsX7_piece (wsV RX7 59 RX4 yX4_haveAll wsX4_haveAll) := goodIn_app (goodIn_of _ (by decide +kernel)) ggX7_piece_X4_haveAll
set_option maxRecDepth 20000 in
theorem ggX7_piece_X7_isWithin : GoodIn wsX7_piece wsX7_isWithin := goodIn_r _ [15] (by decide +kernel) (by decide +kernel)
set_option maxRecDepth 20000 in
theorem gX7_piece_X7_isWithin : GoodIn wsX7_piece (va_wsS RX7 55 yX7_isWithin wsX7_isWithin) := goodIn_app (goodIn_of _ (by decide +kernel)) ggX7_piece_X7_isWithin
set_option maxRecDepth 20000 in
theorem ggX7_piece_X4_closure : GoodIn wsX7_piece wsX4_closure := goodIn_r _ [19, 20, 110, 111, 112] (by decide +kernel) (by decide +kernel)
set_option maxRecDepth 20000 in
theorem gX7_piece_X4_closure : GoodIn wsX7_piece (wsV RX7 75 RX4 yX4_closure wsX4_closure) := goodIn_app (goodIn_of _ (by decide +kernel)) ggX7_piece_X4_closure
set_option maxRecDepth 20000 in
theorem ggX7_piece_X1_init : GoodIn wsX7_piece wsX1_init := goodIn_r _ [23, 24, 25, 26, 27, 28, 29, 30, 31, 105, 106, 107, 108, 109] (by decide +kernel) (by decide +kernel)
set_option maxRecDepth 20000 in
theorem gX7_piece_X1_init : GoodIn wsX7_piece (wsX1_init) := ggX7_piece_X1_init
set_option maxRecDepth 20000 in
theorem ggX7_piece_X3_add : GoodIn wsX7_piece wsX3_add := goodIn_r _ [36, 37, 38, 39, 40, 41, 42, 43, 44, 45, 46, 47, 48, 49, 50, 51, 52, 53, 54, 55, 56, 57, 58, 59, 60, 61, 62, 63, 64, 65, 66, 67, 68, 69, 70, 71, 72, 73, 74, 75, 76, 77, 78, 79, 80, 81, 82, 83, 84, 85, 86, 87, 88, 89, 90, 91, 92, 93, 94, 95, 96, 97, 113, 114, 115, 116, 117] (by decide +kernel) (by decide +kernel)
set_option maxRecDepth 20000 in
theorem gX7_piece_X3_add : GoodIn wsX7_piece (wsV RX7 83 RX3 yX3_add wsX3_add) := goodIn_app (goodIn_of _ (by decide +kernel)) ggX7_piece_X3_add
theorem dX7_piece_0 : decode cX7_piece 0 = .ok (.aload_n 0, 1) := by decide +kernel
theorem dX7_piece_1 : decode cX7_piece 1 = .ok (.getfield 12, 3) := by decide +kernel
theorem dX7_piece_4 : decode cX7_piece 4 = .ok (.iload_n 1, 1) := by decide +kernel
theorem dX7_piece_5 : decode cX7_piece 5 = .ok (.invokevirtual 59, 3) := by decide +kernel
theorem dX7_piece_8 : decode cX7_piece 8 = .ok (.ifCond .eq 25, 3) := by decide +kernel
theorem dX7_piece_11 : decode cX7_piece 11 = .ok (.aload_n 0, 1) := by decide +kernel
theorem dX7_piece_12 : decode cX7_piece 12 = .ok (.getfield 12, 3) := by decide +kernel
theorem dX7_piece_15 : decode cX7_piece 15 = .ok (.iload_n 2, 1) := by decide +kernel
theorem dX7_piece_16 : decode cX7_piece 16 = .ok (.invokevirtual 59, 3) := by decide +kernel
theorem dX7_piece_19 : decode cX7_piece 19 = .ok (.ifCond .eq 14, 3) := by decide +kernel
theorem dX7_piece_22 : decode cX7_piece 22 = .ok (.aload_n 0, 1) := by decide +kernel
theorem dX7_piece_23 : decode cX7_piece 23 = .ok (.getfield 12, 3) := by decide +kernel
theorem dX7_piece_26 : decode cX7_piece 26 = .ok (.iload_n 3, 1) := by decide +kernel
theorem dX7_piece_27 : decode cX7_piece 27 = .ok (.invokevirtual 59, 3) := by decide +kernel
theorem dX7_piece_30 : decode cX7_piece 30 = .ok (.ifCond .ne 5, 3) := by decide +kernel
theorem dX7_piece_33 : decode cX7_piece 33 = .ok (.iconst (-1), 1) := by decide +kernel
theorem dX7_piece_34 : decode cX7_piece 34 = .ok (.ireturn, 1) := by decide +kernel
theorem dX7_piece_35 : decode cX7_piece 35 = .ok (.iload_n 3, 1) := by decide +kernel
theorem dX7_piece_36 : decode cX7_piece 36 = .ok (.ifCond .eq 24, 3) := by decide +kernel
theorem dX7_piece_39 : decode cX7_piece 39 = .ok (.iload 4, 2) := by decide +kernel
theorem dX7_piece_41 : decode cX7_piece 41 = .ok (.iload_n 3, 1) := by decide +kernel
theorem dX7_piece_42 : decode cX7_piece 42 = .ok (.iconst (-1), 1) := by decide +kernel
theorem dX7_piece_43 : decode cX7_piece 43 = .ok (.ixor, 1) := by decide +kernel
theorem dX7_piece_44 : decode cX7_piece 44 = .ok (.iand, 1) := by decide +kernel
theorem dX7_piece_45 : decode cX7_piece 45 = .ok (.ifCond .ne 15, 3) := by decide +kernel
theorem dX7_piece_48 : decode cX7_piece 48 = .ok (.iload 5, 2) := by decide +kernel
theorem dX7_piece_50 : decode cX7_piece 50 = .ok (.iconst 1, 1) := by decide +kernel
theorem dX7_piece_51 : decode cX7_piece 51 = .ok (.sipush 400, 3) := by decide +kernel
theorem dX7_piece_54 : decode cX7_piece 54 = .ok (.invokestatic 55, 3) := by decide +kernel
theorem dX7_piece_57 : decode cX7_piece 57 = .ok (.ifCond .ne 5, 3) := by decide +kernel
theorem dX7_piece_60 : decode cX7_piece 60 = .ok (.iconst (-1), 1) := by decide +kernel
theorem dX7_piece_61 : decode cX7_piece 61 = .ok (.ireturn, 1) := by decide +kernel
theorem dX7_piece_62 : decode cX7_piece 62 = .ok (.aload_n 0, 1) := by decide +kernel
theorem dX7_piece_63 : decode cX7_piece 63 = .ok (.getfield 12, 3) := by decide +kernel
theorem dX7_piece_66 : decode cX7_piece 66 = .ok (.iload_n 3, 1) := by decide +kernel
theorem dX7_piece_67 : decode cX7_piece 67 = .ok (.invokevirtual 75, 3) := by decide +kernel
theorem dX7_piece_70 : decode cX7_piece 70 = .ok (.istore 6, 2) := by decide +kernel
theorem dX7_piece_72 : decode cX7_piece 72 = .ok (.aload_n 0, 1) := by decide +kernel
theorem dX7_piece_73 : decode cX7_piece 73 = .ok (.getfield 19, 3) := by decide +kernel
theorem dX7_piece_76 : decode cX7_piece 76 = .ok (.new 78, 3) := by decide +kernel
theorem dX7_piece_79 : decode cX7_piece 79 = .ok (.dup, 1) := by decide +kernel
theorem dX7_piece_80 : decode cX7_piece 80 = .ok (.iload_n 1, 1) := by decide +kernel
theorem dX7_piece_81 : decode cX7_piece 81 = .ok (.iload_n 2, 1) := by decide +kernel
theorem dX7_piece_82 : decode cX7_piece 82 = .ok (.iload 6, 2) := by decide +kernel
theorem dX7_piece_84 : decode cX7_piece 84 = .ok (.aload_n 0, 1) := by decide +kernel
theorem dX7_piece_85 : decode cX7_piece 85 = .ok (.getfield 12, 3) := by decide +kernel
theorem dX7_piece_88 : decode cX7_piece 88 = .ok (.iload 4, 2) := by decide +kernel
theorem dX7_piece_90 : decode cX7_piece 90 = .ok (.invokevirtual 75, 3) := by decide +kernel
theorem dX7_piece_93 : decode cX7_piece 93 = .ok (.iload 5, 2) := by decide +kernel
theorem dX7_piece_95 : decode cX7_piece 95 = .ok (.invokespecial 80, 3) := by decide +kernel
theorem dX7_piece_98 : decode cX7_piece 98 = .ok (.invokevirtual 83, 3) := by decide +kernel
theorem dX7_piece_101 : decode cX7_piece 101 = .ok (.ireturn, 1) := by decide +kernel
set_option maxRecDepth 20000 in
theorem ggX7_drop_X3_removeLast : GoodIn wsX7_drop wsX3_removeLast := goodIn_r _ [6, 7, 8, 9, 10, 11, 12, 13, 14, 15, 16, 17, 18, 19, 20, 21, 22, 23, 24, 25, 26, 27, 28, 29, 30, 31, 32, 33, 34, 35, 36, 37, 38, 39, 40, 48, 49, 50, 51, 52] (by decide +kernel) (by decide +kernel)
set_option maxRecDepth 20000 in
theorem gX7_drop_X3_removeLast : GoodIn wsX7_drop (wsV RX7 86 RX3 yX3_removeLast wsX3_removeLast) := goodIn_app (goodIn_of _ (by decide +kernel)) ggX7_drop_X3_removeLast
theorem dX7_drop_0 : decode cX7_drop 0 = .ok (.aload_n 0, 1) := by decide +kernel
theorem dX7_drop_1 : decode cX7_drop 1 = .ok (.getfield 19, 3) := by decide +kernel
theorem dX7_drop_4 : decode cX7_drop 4 = .ok (.invokevirtual 86, 3) := by decide +kernel
theorem dX7_drop_7 : decode cX7_drop 7 = .ok (.ireturn, 1) := by decide +kernel
set_option maxRecDepth 20000 in
theorem ggX7_pace_X7_isWithin : GoodIn wsX7_pace wsX7_isWithin := goodIn_r _ [5] (by decide +kernel) (by decide +kernel)
set_option maxRecDepth 20000 in
theorem gX7_pace_X7_isWithin : GoodIn wsX7_pace (va_wsS RX7 55 yX7_isWithin wsX7_isWithin) := goodIn_app (goodIn_of _ (by decide +kernel)) ggX7_pace_X7_isWithin
set_option maxRecDepth 20000 in
theorem ggX7_pace_X3_changePace : GoodIn wsX7_pace wsX3_changePace := goodIn_r _ [10, 11, 19, 20] (by decide +kernel) (by decide +kernel)
set_option maxRecDepth 20000 in
theorem gX7_pace_X3_changePace : GoodIn wsX7_pace (wsV RX7 90 RX3 yX3_changePace wsX3_changePace) := goodIn_app (goodIn_of _ (by decide +kernel)) ggX7_pace_X3_changePace
theorem dX7_pace_0 : decode cX7_pace 0 = .ok (.iload_n 1, 1) := by decide +kernel
theorem dX7_pace_1 : decode cX7_pace 1 = .ok (.iconst 1, 1) := by decide +kernel
theorem dX7_pace_2 : decode cX7_pace 2 = .ok (.bipush 10, 2) := by decide +kernel
theorem dX7_pace_4 : decode cX7_pace 4 = .ok (.invokestatic 55, 3) := by decide +kernel
theorem dX7_pace_7 : decode cX7_pace 7 = .ok (.ifCond .eq 14, 3) := by decide +kernel
theorem dX7_pace_10 : decode cX7_pace 10 = .ok (.aload_n 0, 1) := by decide +kernel
theorem dX7_pace_11 : decode cX7_pace 11 = .ok (.getfield 19, 3) := by decide +kernel
theorem dX7_pace_14 : decode cX7_pace 14 = .ok (.iload_n 1, 1) := by decide +kernel
theorem dX7_pace_15 : decode cX7_pace 15 = .ok (.invokevirtual 90, 3) := by decide +kernel
theorem dX7_pace_18 : decode cX7_pace 18 = .ok (.goto 4, 3) := by decide +kernel
theorem dX7_pace_21 : decode cX7_pace 21 = .ok (.iconst (-1), 1) := by decide +kernel
theorem dX7_pace_22 : decode cX7_pace 22 = .ok (.ireturn, 1) := by decide +kernel
set_option maxRecDepth 20000 in
theorem ggX7_know_X4_haveAll : GoodIn wsX7_know wsX4_haveAll := goodIn_r _ [7, 8, 21, 22, 23] (by decide +kernel) (by decide +kernel)
set_option maxRecDepth 20000 in
theorem gX7_know_X4_haveAll : GoodIn wsX7_know (wsV RX7 59 RX4 yX4_haveAll wsX4_haveAll) := goodIn_app (goodIn_of _ (by decide +kernel)) ggX7_know_X4_haveAll
set_option maxRecDepth 20000 in
theorem ggX7_know_X4_closure : GoodIn wsX7_know wsX4_closure := goodIn_r _ [12, 13, 21, 22, 23] (by decide +kernel) (by decide +kernel)
set_option maxRecDepth 20000 in
theorem gX7_know_X4_closure : GoodIn wsX7_know (wsV RX7 75 RX4 yX4_closure wsX4_closure) := goodIn_app (goodIn_of _ (by decide +kernel)) ggX7_know_X4_closure
theorem dX7_know_0 : decode cX7_know 0 = .ok (.aload_n 0, 1) := by decide +kernel
theorem dX7_know_1 : decode cX7_know 1 = .ok (.getfield 12, 3) := by decide +kernel
theorem dX7_know_4 : decode cX7_know 4 = .ok (.iload_n 1, 1) := by decide +kernel
theorem dX7_know_5 : decode cX7_know 5 = .ok (.invokevirtual 59, 3) := by decide +kernel
theorem dX7_know_8 : decode cX7_know 8 = .ok (.ifCond .ne 5, 3) := by decide +kernel
theorem dX7_know_11 : decode cX7_know 11 = .ok (.iconst (-1), 1) := by decide +kernel
theorem dX7_know_12 : decode cX7_know 12 = .ok (.ireturn, 1) := by decide +kernel
theorem dX7_know_13 : decode cX7_know 13 = .ok (.aload_n 0, 1) := by decide +kernel
theorem dX7_know_14 : decode cX7_know 14 = .ok (.aload_n 0, 1) := by decide +kernel
theorem dX7_know_15 : decode cX7_know 15 = .ok (.getfield 12, 3) := by decide +kernel
theorem dX7_know_18 : decode cX7_know 18 = .ok (.iload_n 1, 1) := by decide +kernel
theorem dX7_know_19 : decode cX7_know 19 = .ok (.invokevirtual 75, 3) := by decide +kernel
theorem dX7_know_22 : decode cX7_know 22 = .ok (.putfield 51, 3) := by decide +kernel
theorem dX7_know_25 : decode cX7_know 25 = .ok (.aload_n 0, 1) := by decide +kernel
theorem dX7_know_26 : decode cX7_know 26 = .ok (.getfield 51, 3) := by decide +kernel
theorem dX7_know_29 : decode cX7_know 29 = .ok (.ireturn, 1) := by decide +kernel
set_option maxRecDepth 20000 in
theorem ggX7_count_X4_size : GoodIn wsX7_count wsX4_size := goodIn_r _ [9, 10, 46, 47, 48] (by decide +kernel) (by decide +kernel)
set_option maxRecDepth 20000 in
theorem gX7_count_X4_size : GoodIn wsX7_count (wsV RX7 93 RX4 yX4_size wsX4_size) := goodIn_app (goodIn_of _ (by decide +kernel)) ggX7_count_X4_size
set_option maxRecDepth 20000 in
theorem ggX7_count_X3_size : GoodIn wsX7_count wsX3_size := goodIn_r _ [15, 16, 17, 18, 19, 20, 21, 22, 49, 50, 51, 52, 53] (by decide +kernel) (by decide +kernel)
set_option maxRecDepth 20000 in
theorem gX7_count_X3_size : GoodIn wsX7_count (wsV RX7 96 RX3 yX3_size wsX3_size) := goodIn_app (goodIn_of _ (by decide +kernel)) ggX7_count_X3_size
set_option maxRecDepth 20000 in
theorem ggX7_count_X3_currentPace : GoodIn wsX7_count wsX3_currentPace := goodIn_r _ [26, 27, 49, 50] (by decide +kernel) (by decide +kernel)
set_option maxRecDepth 20000 in
theorem gX7_count_X3_currentPace : GoodIn wsX7_count (wsV RX7 97 RX3 yX3_currentPace wsX3_currentPace) := goodIn_app (goodIn_of _ (by decide +kernel)) ggX7_count_X3_currentPace
set_option maxRecDepth 20000 in
theorem ggX7_count_X4_worthOf : GoodIn wsX7_count wsX4_worthOf := goodIn_r _ [31, 32, 46, 47, 48] (by decide +kernel) (by decide +kernel)
set_option maxRecDepth 20000 in
theorem gX7_count_X4_worthOf : GoodIn wsX7_count (wsV RX7 100 RX4 yX4_worthOf wsX4_worthOf) := goodIn_app (goodIn_of _ (by decide +kernel)) ggX7_count_X4_worthOf
set_option maxRecDepth 20000 in
theorem ggX7_count_X2_size : GoodIn wsX7_count wsX2_size := goodIn_r _ [37, 38, 54, 55] (by decide +kernel) (by decide +kernel)
set_option maxRecDepth 20000 in
theorem gX7_count_X2_size : GoodIn wsX7_count (wsV RX7 103 RX2 yX2_size wsX2_size) := goodIn_app (goodIn_of _ (by decide +kernel)) ggX7_count_X2_size
theorem dX7_count_0 : decode cX7_count 0 = .ok (.iload_n 1, 1) := by decide +kernel
theorem dX7_count_1 : decode cX7_count 1 = .ok (.tableswitch 88 0 5 #[39, 47, 55, 60, 68, 80], 39) := by decide +kernel
theorem dX7_count_40 : decode cX7_count 40 = .ok (.aload_n 0, 1) := by decide +kernel
theorem dX7_count_41 : decode cX7_count 41 = .ok (.getfield 12, 3) := by decide +kernel
theorem dX7_count_44 : decode cX7_count 44 = .ok (.invokevirtual 93, 3) := by decide +kernel
theorem dX7_count_47 : decode cX7_count 47 = .ok (.ireturn, 1) := by decide +kernel
theorem dX7_count_48 : decode cX7_count 48 = .ok (.aload_n 0, 1) := by decide +kernel
theorem dX7_count_49 : decode cX7_count 49 = .ok (.getfield 19, 3) := by decide +kernel
theorem dX7_count_52 : decode cX7_count 52 = .ok (.invokevirtual 96, 3) := by decide +kernel
theorem dX7_count_55 : decode cX7_count 55 = .ok (.ireturn, 1) := by decide +kernel
theorem dX7_count_56 : decode cX7_count 56 = .ok (.aload_n 0, 1) := by decide +kernel
theorem dX7_count_57 : decode cX7_count 57 = .ok (.getfield 51, 3) := by decide +kernel
theorem dX7_count_60 : decode cX7_count 60 = .ok (.ireturn, 1) := by decide +kernel
theorem dX7_count_61 : decode cX7_count 61 = .ok (.aload_n 0, 1) := by decide +kernel
theorem dX7_count_62 : decode cX7_count 62 = .ok (.getfield 19, 3) := by decide +kernel
theorem dX7_count_65 : decode cX7_count 65 = .ok (.invokevirtual 97, 3) := by decide +kernel
theorem dX7_count_68 : decode cX7_count 68 = .ok (.ireturn, 1) := by decide +kernel
theorem dX7_count_69 : decode cX7_count 69 = .ok (.aload_n 0, 1) := by decide +kernel
theorem dX7_count_70 : decode cX7_count 70 = .ok (.getfield 12, 3) := by decide +kernel
theorem dX7_count_73 : decode cX7_count 73 = .ok (.aload_n 0, 1) := by decide +kernel
theorem dX7_count_74 : decode cX7_count 74 = .ok (.getfield 51, 3) := by decide +kernel
theorem dX7_count_77 : decode cX7_count 77 = .ok (.invokevirtual 100, 3) := by decide +kernel
theorem dX7_count_80 : decode cX7_count 80 = .ok (.ireturn, 1) := by decide +kernel
theorem dX7_count_81 : decode cX7_count 81 = .ok (.aload_n 0, 1) := by decide +kernel
theorem dX7_count_82 : decode cX7_count 82 = .ok (.getfield 33, 3) := by decide +kernel
theorem dX7_count_85 : decode cX7_count 85 = .ok (.invokevirtual 103, 3) := by decide +kernel
theorem dX7_count_88 : decode cX7_count 88 = .ok (.ireturn, 1) := by decide +kernel
theorem dX7_count_89 : decode cX7_count 89 = .ok (.iconst (-1), 1) := by decide +kernel
theorem dX7_count_90 : decode cX7_count 90 = .ok (.ireturn, 1) := by decide +kernel
set_option maxRecDepth 20000 in
theorem ggX7_with_X4_haveAll : GoodIn wsX7_with wsX4_haveAll := goodIn_r _ [6, 7, 20, 21, 22] (by decide +kernel) (by decide +kernel)
set_option maxRecDepth 20000 in
theorem gX7_with_X4_haveAll : GoodIn wsX7_with (wsV RX7 59 RX4 yX4_haveAll wsX4_haveAll) := goodIn_app (goodIn_of _ (by decide +kernel)) ggX7_with_X4_haveAll
set_option maxRecDepth 20000 in
theorem ggX7_with_X4_closure : GoodIn wsX7_with wsX4_closure := goodIn_r _ [11, 12, 20, 21, 22] (by decide +kernel) (by decide +kernel)
set_option maxRecDepth 20000 in
theorem gX7_with_X4_closure : GoodIn wsX7_with (wsV RX7 75 RX4 yX4_closure wsX4_closure) := goodIn_app (goodIn_of _ (by decide +kernel)) ggX7_with_X4_closure
theorem dX7_with_0 : decode cX7_with 0 = .ok (.aload_n 0, 1) := by decide +kernel
theorem dX7_with_1 : decode cX7_with 1 = .ok (.getfield 12, 3) := by decide +kernel
theorem dX7_with_4 : decode cX7_with 4 = .ok (.iload_n 1, 1) := by decide +kernel
theorem dX7_with_5 : decode cX7_with 5 = .ok (.invokevirtual 59, 3) := by decide +kernel
theorem dX7_with_8 : decode cX7_with 8 = .ok (.ifCond .eq 14, 3) := by decide +kernel
theorem dX7_with_11 : decode cX7_with 11 = .ok (.aload_n 0, 1) := by decide +kernel
theorem dX7_with_12 : decode cX7_with 12 = .ok (.getfield 12, 3) := by decide +kernel
theorem dX7_with_15 : decode cX7_with 15 = .ok (.iload_n 1, 1) := by decide +kernel
theorem dX7_with_16 : decode cX7_with 16 = .ok (.invokevirtual 75, 3) := by decide +kernel
theorem dX7_with_19 : decode cX7_with 19 = .ok (.goto 4, 3) := by decide +kernel
theorem dX7_with_22 : decode cX7_with 22 = .ok (.iconst (-1), 1) := by decide +kernel
theorem dX7_with_23 : decode cX7_with 23 = .ok (.ireturn, 1) := by decide +kernel
set_option maxRecDepth 20000 in
theorem ggX7_minutes_X3_minutesOf : GoodIn wsX7_minutes wsX3_minutesOf := goodIn_r _ [6, 7, 8, 9, 10, 5, 11, 12, 13, 14, 15, 16, 17, 18, 19, 20, 21, 22, 23, 24, 25, 26, 27, 28, 29, 30, 31, 32, 33, 34, 35, 36, 37, 38, 39, 40, 41, 42, 43, 44, 45, 53, 54, 55, 56, 57, 58, 59, 60, 61, 62] (by decide +kernel) (by decide +kernel)
set_option maxRecDepth 20000 in
theorem gX7_minutes_X3_minutesOf : GoodIn wsX7_minutes (wsV RX7 104 RX3 yX3_minutesOf wsX3_minutesOf) := goodIn_app (goodIn_of _ (by decide +kernel)) ggX7_minutes_X3_minutesOf
theorem dX7_minutes_0 : decode cX7_minutes 0 = .ok (.aload_n 0, 1) := by decide +kernel
theorem dX7_minutes_1 : decode cX7_minutes 1 = .ok (.getfield 19, 3) := by decide +kernel
theorem dX7_minutes_4 : decode cX7_minutes 4 = .ok (.iload_n 1, 1) := by decide +kernel
theorem dX7_minutes_5 : decode cX7_minutes 5 = .ok (.invokevirtual 104, 3) := by decide +kernel
theorem dX7_minutes_8 : decode cX7_minutes 8 = .ok (.ireturn, 1) := by decide +kernel
set_option maxRecDepth 20000 in
theorem ggX7_can_X3_pieceOf : GoodIn wsX7_can wsX3_pieceOf := goodIn_r _ [7, 8, 9, 10, 11, 12, 13, 14, 15, 16, 17, 18, 19, 20, 21, 22, 23, 24, 25, 26, 27, 28, 29, 30, 31, 32, 47, 48, 49, 50, 51] (by decide +kernel) (by decide +kernel)
set_option maxRecDepth 20000 in
theorem gX7_can_X3_pieceOf : GoodIn wsX7_can (wsV RX7 107 RX3 yX3_pieceOf wsX3_pieceOf) := goodIn_app (goodIn_of _ (by decide +kernel)) ggX7_can_X3_pieceOf
set_option maxRecDepth 20000 in
theorem ggX7_can_X1_isOpenTo : GoodIn wsX7_can wsX1_isOpenTo := goodIn_r _ [37, 38, 39, 52, 53, 54, 55, 56] (by decide +kernel) (by decide +kernel)
set_option maxRecDepth 20000 in
theorem gX7_can_X1_isOpenTo : GoodIn wsX7_can (wsV RX7 111 RX1 yX1_isOpenTo wsX1_isOpenTo) := goodIn_app (goodIn_of _ (by decide +kernel)) ggX7_can_X1_isOpenTo
theorem dX7_can_0 : decode cX7_can 0 = .ok (.aload_n 0, 1) := by decide +kernel
theorem dX7_can_1 : decode cX7_can 1 = .ok (.getfield 19, 3) := by decide +kernel
theorem dX7_can_4 : decode cX7_can 4 = .ok (.iload_n 1, 1) := by decide +kernel
theorem dX7_can_5 : decode cX7_can 5 = .ok (.invokevirtual 107, 3) := by decide +kernel
theorem dX7_can_8 : decode cX7_can 8 = .ok (.astore_n 2, 1) := by decide +kernel
theorem dX7_can_9 : decode cX7_can 9 = .ok (.aload_n 2, 1) := by decide +kernel
theorem dX7_can_10 : decode cX7_can 10 = .ok (.ifnonnull 5, 3) := by decide +kernel
theorem dX7_can_13 : decode cX7_can 13 = .ok (.iconst (-1), 1) := by decide +kernel
theorem dX7_can_14 : decode cX7_can 14 = .ok (.ireturn, 1) := by decide +kernel
theorem dX7_can_15 : decode cX7_can 15 = .ok (.aload_n 2, 1) := by decide +kernel
theorem dX7_can_16 : decode cX7_can 16 = .ok (.aload_n 0, 1) := by decide +kernel
theorem dX7_can_17 : decode cX7_can 17 = .ok (.getfield 51, 3) := by decide +kernel
theorem dX7_can_20 : decode cX7_can 20 = .ok (.invokevirtual 111, 3) := by decide +kernel
theorem dX7_can_23 : decode cX7_can 23 = .ok (.ifCond .eq 7, 3) := by decide +kernel
theorem dX7_can_26 : decode cX7_can 26 = .ok (.iconst 1, 1) := by decide +kernel
theorem dX7_can_27 : decode cX7_can 27 = .ok (.goto 4, 3) := by decide +kernel
theorem dX7_can_30 : decode cX7_can 30 = .ok (.iconst 0, 1) := by decide +kernel
theorem dX7_can_31 : decode cX7_can 31 = .ok (.ireturn, 1) := by decide +kernel
set_option maxRecDepth 20000 in
theorem ggX7_done_X3_pieceOf : GoodIn wsX7_done wsX3_pieceOf := goodIn_r _ [7, 8, 9, 10, 11, 12, 13, 14, 15, 16, 17, 18, 19, 20, 21, 22, 23, 24, 25, 26, 27, 28, 29, 30, 31, 32, 57, 58, 59, 60, 61] (by decide +kernel) (by decide +kernel)
set_option maxRecDepth 20000 in
theorem gX7_done_X3_pieceOf : GoodIn wsX7_done (wsV RX7 107 RX3 yX3_pieceOf wsX3_pieceOf) := goodIn_app (goodIn_of _ (by decide +kernel)) ggX7_done_X3_pieceOf
set_option maxRecDepth 20000 in
theorem ggX7_done_X1_isOpenTo : GoodIn wsX7_done wsX1_isOpenTo := goodIn_r _ [37, 38, 39, 62, 63, 64, 65, 66] (by decide +kernel) (by decide +kernel)
set_option maxRecDepth 20000 in
theorem gX7_done_X1_isOpenTo : GoodIn wsX7_done (wsV RX7 111 RX1 yX1_isOpenTo wsX1_isOpenTo) := goodIn_app (goodIn_of _ (by decide +kernel)) ggX7_done_X1_isOpenTo
set_option maxRecDepth 20000 in
theorem ggX7_done_X7_isSkimmed : GoodIn wsX7_done wsX7_isSkimmed := goodIn_r _ [43] (by decide +kernel) (by decide +kernel)
set_option maxRecDepth 20000 in
theorem gX7_done_X7_isSkimmed : GoodIn wsX7_done (va_wsS RX7 114 yX7_isSkimmed wsX7_isSkimmed) := goodIn_app (goodIn_of _ (by decide +kernel)) ggX7_done_X7_isSkimmed
set_option maxRecDepth 20000 in
theorem ggX7_done_X1_brings : GoodIn wsX7_done wsX1_brings := goodIn_r _ [47, 48, 49, 62, 63, 64, 65, 66] (by decide +kernel) (by decide +kernel)
set_option maxRecDepth 20000 in
theorem gX7_done_X1_brings : GoodIn wsX7_done (wsV RX7 117 RX1 yX1_brings wsX1_brings) := goodIn_app (goodIn_of _ (by decide +kernel)) ggX7_done_X1_brings
theorem dX7_done_0 : decode cX7_done 0 = .ok (.aload_n 0, 1) := by decide +kernel
theorem dX7_done_1 : decode cX7_done 1 = .ok (.getfield 19, 3) := by decide +kernel
theorem dX7_done_4 : decode cX7_done 4 = .ok (.iload_n 1, 1) := by decide +kernel
theorem dX7_done_5 : decode cX7_done 5 = .ok (.invokevirtual 107, 3) := by decide +kernel
theorem dX7_done_8 : decode cX7_done 8 = .ok (.astore_n 2, 1) := by decide +kernel
theorem dX7_done_9 : decode cX7_done 9 = .ok (.aload_n 2, 1) := by decide +kernel
theorem dX7_done_10 : decode cX7_done 10 = .ok (.ifnull 14, 3) := by decide +kernel
theorem dX7_done_13 : decode cX7_done 13 = .ok (.aload_n 2, 1) := by decide +kernel
theorem dX7_done_14 : decode cX7_done 14 = .ok (.aload_n 0, 1) := by decide +kernel
theorem dX7_done_15 : decode cX7_done 15 = .ok (.getfield 51, 3) := by decide +kernel
theorem dX7_done_18 : decode cX7_done 18 = .ok (.invokevirtual 111, 3) := by decide +kernel
theorem dX7_done_21 : decode cX7_done 21 = .ok (.ifCond .ne 5, 3) := by decide +kernel
theorem dX7_done_24 : decode cX7_done 24 = .ok (.iconst (-1), 1) := by decide +kernel
theorem dX7_done_25 : decode cX7_done 25 = .ok (.ireturn, 1) := by decide +kernel
theorem dX7_done_26 : decode cX7_done 26 = .ok (.aload_n 0, 1) := by decide +kernel
theorem dX7_done_27 : decode cX7_done 27 = .ok (.dup, 1) := by decide +kernel
theorem dX7_done_28 : decode cX7_done 28 = .ok (.getfield 51, 3) := by decide +kernel
theorem dX7_done_31 : decode cX7_done 31 = .ok (.aload_n 2, 1) := by decide +kernel
theorem dX7_done_32 : decode cX7_done 32 = .ok (.iload_n 1, 1) := by decide +kernel
theorem dX7_done_33 : decode cX7_done 33 = .ok (.invokestatic 114, 3) := by decide +kernel
theorem dX7_done_36 : decode cX7_done 36 = .ok (.invokevirtual 117, 3) := by decide +kernel
theorem dX7_done_39 : decode cX7_done 39 = .ok (.ior, 1) := by decide +kernel
theorem dX7_done_40 : decode cX7_done 40 = .ok (.putfield 51, 3) := by decide +kernel
theorem dX7_done_43 : decode cX7_done 43 = .ok (.aload_n 0, 1) := by decide +kernel
theorem dX7_done_44 : decode cX7_done 44 = .ok (.getfield 51, 3) := by decide +kernel
theorem dX7_done_47 : decode cX7_done 47 = .ok (.ireturn, 1) := by decide +kernel
set_option maxRecDepth 20000 in
theorem ggX7_way_X7_endOfBestWay : GoodIn wsX7_way wsX7_endOfBestWay := goodIn_r _ [7, 8, 1, 9, 10, 11, 12, 13, 14, 15, 16, 17, 18, 19, 20, 21, 22, 23, 24, 25, 26, 27, 28, 29, 30, 31, 32, 33, 34, 35, 36, 37, 38, 39, 40, 41, 42, 43, 44, 45, 46, 47, 48, 49, 50, 51, 52, 53, 54, 55, 56, 57, 58, 59, 60, 61, 62, 63, 64, 65, 66, 67, 68, 69, 70, 71, 72, 73, 74, 75, 76, 77, 78, 6, 79, 80, 81, 82, 83, 84, 85, 86, 87, 88, 89, 90, 91, 92, 93, 94, 95, 96, 97, 98, 99, 100, 101, 102, 103, 104, 105, 106, 107, 108, 109, 110, 111, 112, 132, 133, 134, 135, 136, 137, 138, 139, 140, 141, 142, 143, 144, 145, 146, 147, 148, 149, 150, 151, 152, 153, 154] (by decide +kernel) (by decide +kernel)
set_option maxRecDepth 20000 in
theorem gX7_way_X7_endOfBestWay : GoodIn wsX7_way (wsV RX7 121 RX7 yX7_endOfBestWay wsX7_endOfBestWay) := goodIn_app (goodIn_of _ (by decide +kernel)) ggX7_way_X7_endOfBestWay
set_option maxRecDepth 20000 in
theorem ggX7_way_X5_copyRow : GoodIn wsX7_way wsX5_copyRow := goodIn_r _ [116, 30, 31, 32, 117, 118, 119, 120, 121, 122, 123, 124, 125, 126, 127, 142, 143, 144, 155, 156] (by decide +kernel) (by decide +kernel)
set_option maxRecDepth 20000 in
theorem gX7_way_X5_copyRow : GoodIn wsX7_way (wsV RX7 124 RX5 yX5_copyRow wsX5_copyRow) := goodIn_app (goodIn_of _ (by decide +kernel)) ggX7_way_X5_copyRow
set_option maxRecDepth 20000 in
theorem ggX7_way_X5_minutesTo : GoodIn wsX7_way wsX5_minutesTo := goodIn_r _ [131, 30, 31, 142, 143, 144] (by decide +kernel) (by decide +kernel)
set_option maxRecDepth 20000 in
theorem gX7_way_X5_minutesTo : GoodIn wsX7_way (wsV RX7 128 RX5 yX5_minutesTo wsX5_minutesTo) := goodIn_app (goodIn_of _ (by decide +kernel)) ggX7_way_X5_minutesTo
theorem dX7_way_0 : decode cX7_way 0 = .ok (.aload_n 0, 1) := by decide +kernel
theorem dX7_way_1 : decode cX7_way 1 = .ok (.iload_n 1, 1) := by decide +kernel
theorem dX7_way_2 : decode cX7_way 2 = .ok (.iconst (-1), 1) := by decide +kernel
theorem dX7_way_3 : decode cX7_way 3 = .ok (.invokevirtual 121, 3) := by decide +kernel
theorem dX7_way_6 : decode cX7_way 6 = .ok (.istore_n 2, 1) := by decide +kernel
theorem dX7_way_7 : decode cX7_way 7 = .ok (.iload_n 2, 1) := by decide +kernel
theorem dX7_way_8 : decode cX7_way 8 = .ok (.iconst (-1), 1) := by decide +kernel
theorem dX7_way_9 : decode cX7_way 9 = .ok (.if_icmp .ne 5, 3) := by decide +kernel
theorem dX7_way_12 : decode cX7_way 12 = .ok (.iconst (-1), 1) := by decide +kernel
theorem dX7_way_13 : decode cX7_way 13 = .ok (.ireturn, 1) := by decide +kernel
theorem dX7_way_14 : decode cX7_way 14 = .ok (.aload_n 0, 1) := by decide +kernel
theorem dX7_way_15 : decode cX7_way 15 = .ok (.getfield 26, 3) := by decide +kernel
theorem dX7_way_18 : decode cX7_way 18 = .ok (.iload_n 2, 1) := by decide +kernel
theorem dX7_way_19 : decode cX7_way 19 = .ok (.aload_n 0, 1) := by decide +kernel
theorem dX7_way_20 : decode cX7_way 20 = .ok (.getfield 33, 3) := by decide +kernel
theorem dX7_way_23 : decode cX7_way 23 = .ok (.invokevirtual 124, 3) := by decide +kernel
theorem dX7_way_26 : decode cX7_way 26 = .ok (.aload_n 0, 1) := by decide +kernel
theorem dX7_way_27 : decode cX7_way 27 = .ok (.getfield 26, 3) := by decide +kernel
theorem dX7_way_30 : decode cX7_way 30 = .ok (.iload_n 2, 1) := by decide +kernel
theorem dX7_way_31 : decode cX7_way 31 = .ok (.invokevirtual 128, 3) := by decide +kernel
theorem dX7_way_34 : decode cX7_way 34 = .ok (.ireturn, 1) := by decide +kernel
set_option maxRecDepth 20000 in
theorem ggX7_step_X2_at : GoodIn wsX7_step wsX2_at := goodIn_r _ [6, 7, 8, 16, 17] (by decide +kernel) (by decide +kernel)
set_option maxRecDepth 20000 in
theorem gX7_step_X2_at : GoodIn wsX7_step (wsV RX7 131 RX2 yX2_at wsX2_at) := goodIn_app (goodIn_of _ (by decide +kernel)) ggX7_step_X2_at
theorem dX7_step_0 : decode cX7_step 0 = .ok (.aload_n 0, 1) := by decide +kernel
theorem dX7_step_1 : decode cX7_step 1 = .ok (.getfield 33, 3) := by decide +kernel
theorem dX7_step_4 : decode cX7_step 4 = .ok (.iload_n 1, 1) := by decide +kernel
theorem dX7_step_5 : decode cX7_step 5 = .ok (.invokevirtual 131, 3) := by decide +kernel
theorem dX7_step_8 : decode cX7_step 8 = .ok (.ireturn, 1) := by decide +kernel
set_option maxRecDepth 20000 in
theorem ggX7_most_X7_isWithin : GoodIn wsX7_most wsX7_isWithin := goodIn_r _ [9] (by decide +kernel) (by decide +kernel)
set_option maxRecDepth 20000 in
theorem gX7_most_X7_isWithin : GoodIn wsX7_most (va_wsS RX7 55 yX7_isWithin wsX7_isWithin) := goodIn_app (goodIn_of _ (by decide +kernel)) ggX7_most_X7_isWithin
set_option maxRecDepth 20000 in
theorem ggX7_most_X4_size : GoodIn wsX7_most wsX4_size := goodIn_r _ [14, 15, 140, 141, 142] (by decide +kernel) (by decide +kernel)
set_option maxRecDepth 20000 in
theorem gX7_most_X4_size : GoodIn wsX7_most (wsV RX7 93 RX4 yX4_size wsX4_size) := goodIn_app (goodIn_of _ (by decide +kernel)) ggX7_most_X4_size
set_option maxRecDepth 20000 in
theorem ggX7_most_X5_explore : GoodIn wsX7_most wsX5_explore := goodIn_r _ [20, 21, 22, 23, 24, 25, 26, 27, 28, 29, 30, 19, 31, 32, 33, 34, 35, 36, 37, 38, 39, 40, 41, 42, 43, 44, 45, 46, 47, 48, 49, 50, 51, 52, 53, 54, 55, 56, 57, 58, 59, 60, 61, 62, 63, 64, 65, 66, 67, 68, 69, 70, 71, 72, 73, 8, 74, 75, 76, 77, 78, 79, 80, 81, 82, 83, 84, 85, 86, 87, 88, 89, 90, 91, 92, 93, 94, 95, 96, 97, 98, 99, 143, 144, 145, 146, 147, 148, 149, 150, 151, 152, 153, 154, 155] (by decide +kernel) (by decide +kernel)
set_option maxRecDepth 20000 in
theorem gX7_most_X5_explore : GoodIn wsX7_most (wsV RX7 134 RX5 yX5_explore wsX5_explore) := goodIn_app (goodIn_of _ (by decide +kernel)) ggX7_most_X5_explore
set_option maxRecDepth 20000 in
theorem ggX7_most_X5_richestEnd : GoodIn wsX7_most wsX5_richestEnd := goodIn_r _ [103, 25, 26, 104, 105, 106, 19, 107, 108, 109, 110, 13, 111, 112, 113, 114, 115, 116, 27, 96, 97, 98, 99, 143, 144, 145, 140, 141, 142] (by decide +kernel) (by decide +kernel)
set_option maxRecDepth 20000 in
theorem gX7_most_X5_richestEnd : GoodIn wsX7_most (wsV RX7 138 RX5 yX5_richestEnd wsX5_richestEnd) := goodIn_app (goodIn_of _ (by decide +kernel)) ggX7_most_X5_richestEnd
set_option maxRecDepth 20000 in
theorem ggX7_most_X5_copyRow : GoodIn wsX7_most wsX5_copyRow := goodIn_r _ [120, 25, 26, 27, 121, 122, 123, 124, 125, 126, 127, 128, 129, 130, 131, 143, 144, 145, 156, 157] (by decide +kernel) (by decide +kernel)
set_option maxRecDepth 20000 in
theorem gX7_most_X5_copyRow : GoodIn wsX7_most (wsV RX7 124 RX5 yX5_copyRow wsX5_copyRow) := goodIn_app (goodIn_of _ (by decide +kernel)) ggX7_most_X5_copyRow
set_option maxRecDepth 20000 in
theorem ggX7_most_X4_worthOf : GoodIn wsX7_most wsX4_worthOf := goodIn_r _ [111, 112, 140, 141, 142] (by decide +kernel) (by decide +kernel)
set_option maxRecDepth 20000 in
theorem gX7_most_X4_worthOf : GoodIn wsX7_most (wsV RX7 100 RX4 yX4_worthOf wsX4_worthOf) := goodIn_app (goodIn_of _ (by decide +kernel)) ggX7_most_X4_worthOf
theorem dX7_most_0 : decode cX7_most 0 = .ok (.iload_n 1, 1) := by decide +kernel
theorem dX7_most_1 : decode cX7_most 1 = .ok (.iconst 0, 1) := by decide +kernel
theorem dX7_most_2 : decode cX7_most 2 = .ok (.sipush 10000, 3) := by decide +kernel
theorem dX7_most_5 : decode cX7_most 5 = .ok (.invokestatic 55, 3) := by decide +kernel
theorem dX7_most_8 : decode cX7_most 8 = .ok (.ifCond .ne 5, 3) := by decide +kernel
theorem dX7_most_11 : decode cX7_most 11 = .ok (.iconst (-1), 1) := by decide +kernel
theorem dX7_most_12 : decode cX7_most 12 = .ok (.ireturn, 1) := by decide +kernel
theorem dX7_most_13 : decode cX7_most 13 = .ok (.aload_n 0, 1) := by decide +kernel
theorem dX7_most_14 : decode cX7_most 14 = .ok (.getfield 26, 3) := by decide +kernel
theorem dX7_most_17 : decode cX7_most 17 = .ok (.aload_n 0, 1) := by decide +kernel
theorem dX7_most_18 : decode cX7_most 18 = .ok (.getfield 19, 3) := by decide +kernel
theorem dX7_most_21 : decode cX7_most 21 = .ok (.aload_n 0, 1) := by decide +kernel
theorem dX7_most_22 : decode cX7_most 22 = .ok (.getfield 12, 3) := by decide +kernel
theorem dX7_most_25 : decode cX7_most 25 = .ok (.invokevirtual 93, 3) := by decide +kernel
theorem dX7_most_28 : decode cX7_most 28 = .ok (.aload_n 0, 1) := by decide +kernel
theorem dX7_most_29 : decode cX7_most 29 = .ok (.getfield 51, 3) := by decide +kernel
theorem dX7_most_32 : decode cX7_most 32 = .ok (.iconst (-1), 1) := by decide +kernel
theorem dX7_most_33 : decode cX7_most 33 = .ok (.invokevirtual 134, 3) := by decide +kernel
theorem dX7_most_36 : decode cX7_most 36 = .ok (.aload_n 0, 1) := by decide +kernel
theorem dX7_most_37 : decode cX7_most 37 = .ok (.getfield 26, 3) := by decide +kernel
theorem dX7_most_40 : decode cX7_most 40 = .ok (.aload_n 0, 1) := by decide +kernel
theorem dX7_most_41 : decode cX7_most 41 = .ok (.getfield 12, 3) := by decide +kernel
theorem dX7_most_44 : decode cX7_most 44 = .ok (.iload_n 1, 1) := by decide +kernel
theorem dX7_most_45 : decode cX7_most 45 = .ok (.invokevirtual 138, 3) := by decide +kernel
theorem dX7_most_48 : decode cX7_most 48 = .ok (.istore_n 2, 1) := by decide +kernel
theorem dX7_most_49 : decode cX7_most 49 = .ok (.iload_n 2, 1) := by decide +kernel
theorem dX7_most_50 : decode cX7_most 50 = .ok (.iconst (-1), 1) := by decide +kernel
theorem dX7_most_51 : decode cX7_most 51 = .ok (.if_icmp .ne 5, 3) := by decide +kernel
theorem dX7_most_54 : decode cX7_most 54 = .ok (.iconst (-1), 1) := by decide +kernel
theorem dX7_most_55 : decode cX7_most 55 = .ok (.ireturn, 1) := by decide +kernel
theorem dX7_most_56 : decode cX7_most 56 = .ok (.aload_n 0, 1) := by decide +kernel
theorem dX7_most_57 : decode cX7_most 57 = .ok (.getfield 26, 3) := by decide +kernel
theorem dX7_most_60 : decode cX7_most 60 = .ok (.iload_n 2, 1) := by decide +kernel
theorem dX7_most_61 : decode cX7_most 61 = .ok (.aload_n 0, 1) := by decide +kernel
theorem dX7_most_62 : decode cX7_most 62 = .ok (.getfield 33, 3) := by decide +kernel
theorem dX7_most_65 : decode cX7_most 65 = .ok (.invokevirtual 124, 3) := by decide +kernel
theorem dX7_most_68 : decode cX7_most 68 = .ok (.aload_n 0, 1) := by decide +kernel
theorem dX7_most_69 : decode cX7_most 69 = .ok (.getfield 12, 3) := by decide +kernel
theorem dX7_most_72 : decode cX7_most 72 = .ok (.iload_n 2, 1) := by decide +kernel
theorem dX7_most_73 : decode cX7_most 73 = .ok (.invokevirtual 100, 3) := by decide +kernel
theorem dX7_most_76 : decode cX7_most 76 = .ok (.ireturn, 1) := by decide +kernel
set_option maxRecDepth 20000 in
theorem ggX7_reach_X3_readAllOpenTo : GoodIn wsX7_reach wsX3_readAllOpenTo := goodIn_r _ [7, 8, 9, 10, 11, 12, 13, 14, 15, 16, 17, 18, 19, 20, 21, 22, 23, 24, 25, 26, 27, 28, 29, 30, 31, 32, 33, 34, 35, 36, 37, 38, 39, 40, 41, 42, 43, 44, 45, 53, 54, 55, 56, 57, 58, 59, 60, 61, 62] (by decide +kernel) (by decide +kernel)
set_option maxRecDepth 20000 in
theorem gX7_reach_X3_readAllOpenTo : GoodIn wsX7_reach (wsV RX7 142 RX3 yX3_readAllOpenTo wsX3_readAllOpenTo) := goodIn_app (goodIn_of _ (by decide +kernel)) ggX7_reach_X3_readAllOpenTo
theorem dX7_reach_0 : decode cX7_reach 0 = .ok (.aload_n 0, 1) := by decide +kernel
theorem dX7_reach_1 : decode cX7_reach 1 = .ok (.getfield 51, 3) := by decide +kernel
theorem dX7_reach_4 : decode cX7_reach 4 = .ok (.istore_n 1, 1) := by decide +kernel
theorem dX7_reach_5 : decode cX7_reach 5 = .ok (.iconst 0, 1) := by decide +kernel
theorem dX7_reach_6 : decode cX7_reach 6 = .ok (.istore_n 2, 1) := by decide +kernel
theorem dX7_reach_7 : decode cX7_reach 7 = .ok (.iload_n 2, 1) := by decide +kernel
theorem dX7_reach_8 : decode cX7_reach 8 = .ok (.bipush 12, 2) := by decide +kernel
theorem dX7_reach_10 : decode cX7_reach 10 = .ok (.if_icmp .ge 18, 3) := by decide +kernel
theorem dX7_reach_13 : decode cX7_reach 13 = .ok (.aload_n 0, 1) := by decide +kernel
theorem dX7_reach_14 : decode cX7_reach 14 = .ok (.getfield 19, 3) := by decide +kernel
theorem dX7_reach_17 : decode cX7_reach 17 = .ok (.iload_n 1, 1) := by decide +kernel
theorem dX7_reach_18 : decode cX7_reach 18 = .ok (.invokevirtual 142, 3) := by decide +kernel
theorem dX7_reach_21 : decode cX7_reach 21 = .ok (.istore_n 1, 1) := by decide +kernel
theorem dX7_reach_22 : decode cX7_reach 22 = .ok (.iinc 2 1, 3) := by decide +kernel
theorem dX7_reach_25 : decode cX7_reach 25 = .ok (.goto (-18), 3) := by decide +kernel
theorem dX7_reach_28 : decode cX7_reach 28 = .ok (.iload_n 1, 1) := by decide +kernel
theorem dX7_reach_29 : decode cX7_reach 29 = .ok (.ireturn, 1) := by decide +kernel
set_option maxRecDepth 20000 in
theorem ggX7_gaps_X3_allNeeded : GoodIn wsX7_gaps wsX3_allNeeded := goodIn_r _ [7, 8, 9, 10, 11, 12, 13, 14, 15, 16, 17, 18, 19, 20, 21, 22, 23, 24, 25, 26, 27, 28, 29, 30, 31, 32, 33, 34, 35, 36, 37, 38, 56, 57, 58, 59, 60, 61, 62, 63, 64, 65] (by decide +kernel) (by decide +kernel)
set_option maxRecDepth 20000 in
theorem gX7_gaps_X3_allNeeded : GoodIn wsX7_gaps (wsV RX7 145 RX3 yX3_allNeeded wsX3_allNeeded) := goodIn_app (goodIn_of _ (by decide +kernel)) ggX7_gaps_X3_allNeeded
set_option maxRecDepth 20000 in
theorem ggX7_gaps_X3_allGiven : GoodIn wsX7_gaps wsX3_allGiven := goodIn_r _ [42, 8, 9, 10, 11, 12, 13, 14, 15, 16, 17, 18, 19, 20, 21, 22, 23, 24, 25, 26, 27, 28, 29, 30, 31, 32, 43, 44, 45, 36, 46, 47, 48, 56, 57, 58, 59, 60, 61, 62, 63, 64, 65] (by decide +kernel) (by decide +kernel)
set_option maxRecDepth 20000 in
theorem gX7_gaps_X3_allGiven : GoodIn wsX7_gaps (wsV RX7 148 RX3 yX3_allGiven wsX3_allGiven) := goodIn_app (goodIn_of _ (by decide +kernel)) ggX7_gaps_X3_allGiven
theorem dX7_gaps_0 : decode cX7_gaps 0 = .ok (.aload_n 0, 1) := by decide +kernel
theorem dX7_gaps_1 : decode cX7_gaps 1 = .ok (.getfield 19, 3) := by decide +kernel
theorem dX7_gaps_4 : decode cX7_gaps 4 = .ok (.invokevirtual 145, 3) := by decide +kernel
theorem dX7_gaps_7 : decode cX7_gaps 7 = .ok (.aload_n 0, 1) := by decide +kernel
theorem dX7_gaps_8 : decode cX7_gaps 8 = .ok (.getfield 19, 3) := by decide +kernel
theorem dX7_gaps_11 : decode cX7_gaps 11 = .ok (.invokevirtual 148, 3) := by decide +kernel
theorem dX7_gaps_14 : decode cX7_gaps 14 = .ok (.iconst (-1), 1) := by decide +kernel
theorem dX7_gaps_15 : decode cX7_gaps 15 = .ok (.ixor, 1) := by decide +kernel
theorem dX7_gaps_16 : decode cX7_gaps 16 = .ok (.iand, 1) := by decide +kernel
theorem dX7_gaps_17 : decode cX7_gaps 17 = .ok (.aload_n 0, 1) := by decide +kernel
theorem dX7_gaps_18 : decode cX7_gaps 18 = .ok (.getfield 51, 3) := by decide +kernel
theorem dX7_gaps_21 : decode cX7_gaps 21 = .ok (.iconst (-1), 1) := by decide +kernel
theorem dX7_gaps_22 : decode cX7_gaps 22 = .ok (.ixor, 1) := by decide +kernel
theorem dX7_gaps_23 : decode cX7_gaps 23 = .ok (.iand, 1) := by decide +kernel
theorem dX7_gaps_24 : decode cX7_gaps 24 = .ok (.ireturn, 1) := by decide +kernel
set_option maxRecDepth 20000 in
theorem ggX7_shortens_X3_size : GoodIn wsX7_shortens wsX3_size := goodIn_r _ [7, 8, 9, 10, 11, 12, 13, 14, 127, 128, 129, 130, 131] (by decide +kernel) (by decide +kernel)
set_option maxRecDepth 20000 in
theorem gX7_shortens_X3_size : GoodIn wsX7_shortens (wsV RX7 96 RX3 yX3_size wsX3_size) := goodIn_app (goodIn_of _ (by decide +kernel)) ggX7_shortens_X3_size
set_option maxRecDepth 20000 in
theorem ggX7_shortens_X7_isWithin : GoodIn wsX7_shortens wsX7_isWithin := goodIn_r _ [18] (by decide +kernel) (by decide +kernel)
set_option maxRecDepth 20000 in
theorem gX7_shortens_X7_isWithin : GoodIn wsX7_shortens (va_wsS RX7 55 yX7_isWithin wsX7_isWithin) := goodIn_app (goodIn_of _ (by decide +kernel)) ggX7_shortens_X7_isWithin
set_option maxRecDepth 20000 in
theorem ggX7_shortens_X7_endOfBestWay : GoodIn wsX7_shortens wsX7_endOfBestWay := goodIn_r _ [22, 23, 2, 1, 24, 25, 26, 27, 28, 29, 30, 31, 32, 33, 34, 35, 36, 37, 38, 39, 40, 41, 42, 43, 44, 45, 46, 47, 48, 49, 50, 51, 4, 5, 6, 7, 8, 9, 10, 11, 12, 13, 14, 52, 53, 54, 55, 56, 57, 58, 59, 60, 61, 62, 63, 64, 65, 66, 67, 68, 69, 70, 71, 72, 73, 74, 75, 76, 77, 78, 79, 80, 81, 17, 82, 83, 84, 85, 86, 87, 88, 89, 90, 91, 92, 93, 94, 95, 96, 97, 98, 99, 100, 101, 102, 103, 104, 105, 106, 107, 108, 109, 110, 111, 112, 113, 114, 115, 120, 121, 122, 123, 124, 125, 126, 132, 133, 134, 135, 136, 137, 127, 128, 129, 130, 131, 138, 139, 140, 141, 142] (by decide +kernel) (by decide +kernel)
set_option maxRecDepth 20000 in
theorem gX7_shortens_X7_endOfBestWay : GoodIn wsX7_shortens (wsV RX7 121 RX7 yX7_endOfBestWay wsX7_endOfBestWay) := goodIn_app (goodIn_of _ (by decide +kernel)) ggX7_shortens_X7_endOfBestWay
set_option maxRecDepth 20000 in
theorem ggX7_shortens_X5_minutesTo : GoodIn wsX7_shortens wsX5_minutesTo := goodIn_r _ [119, 44, 45, 135, 136, 137] (by decide +kernel) (by decide +kernel)
set_option maxRecDepth 20000 in
theorem gX7_shortens_X5_minutesTo : GoodIn wsX7_shortens (wsV RX7 128 RX5 yX5_minutesTo wsX5_minutesTo) := goodIn_app (goodIn_of _ (by decide +kernel)) ggX7_shortens_X5_minutesTo
theorem dX7_shortens_0 : decode cX7_shortens 0 = .ok (.iload_n 1, 1) := by decide +kernel
theorem dX7_shortens_1 : decode cX7_shortens 1 = .ok (.iconst 0, 1) := by decide +kernel
theorem dX7_shortens_2 : decode cX7_shortens 2 = .ok (.aload_n 0, 1) := by decide +kernel
theorem dX7_shortens_3 : decode cX7_shortens 3 = .ok (.getfield 19, 3) := by decide +kernel
theorem dX7_shortens_6 : decode cX7_shortens 6 = .ok (.invokevirtual 96, 3) := by decide +kernel
theorem dX7_shortens_9 : decode cX7_shortens 9 = .ok (.iconst 1, 1) := by decide +kernel
theorem dX7_shortens_10 : decode cX7_shortens 10 = .ok (.isub, 1) := by decide +kernel
theorem dX7_shortens_11 : decode cX7_shortens 11 = .ok (.invokestatic 55, 3) := by decide +kernel
theorem dX7_shortens_14 : decode cX7_shortens 14 = .ok (.ifCond .ne 5, 3) := by decide +kernel
theorem dX7_shortens_17 : decode cX7_shortens 17 = .ok (.iconst (-1), 1) := by decide +kernel
theorem dX7_shortens_18 : decode cX7_shortens 18 = .ok (.ireturn, 1) := by decide +kernel
theorem dX7_shortens_19 : decode cX7_shortens 19 = .ok (.aload_n 0, 1) := by decide +kernel
theorem dX7_shortens_20 : decode cX7_shortens 20 = .ok (.iload_n 2, 1) := by decide +kernel
theorem dX7_shortens_21 : decode cX7_shortens 21 = .ok (.iconst (-1), 1) := by decide +kernel
theorem dX7_shortens_22 : decode cX7_shortens 22 = .ok (.invokevirtual 121, 3) := by decide +kernel
theorem dX7_shortens_25 : decode cX7_shortens 25 = .ok (.istore_n 3, 1) := by decide +kernel
theorem dX7_shortens_26 : decode cX7_shortens 26 = .ok (.iload_n 3, 1) := by decide +kernel
theorem dX7_shortens_27 : decode cX7_shortens 27 = .ok (.iconst (-1), 1) := by decide +kernel
theorem dX7_shortens_28 : decode cX7_shortens 28 = .ok (.if_icmp .ne 5, 3) := by decide +kernel
theorem dX7_shortens_31 : decode cX7_shortens 31 = .ok (.iconst (-1), 1) := by decide +kernel
theorem dX7_shortens_32 : decode cX7_shortens 32 = .ok (.ireturn, 1) := by decide +kernel
theorem dX7_shortens_33 : decode cX7_shortens 33 = .ok (.aload_n 0, 1) := by decide +kernel
theorem dX7_shortens_34 : decode cX7_shortens 34 = .ok (.getfield 26, 3) := by decide +kernel
theorem dX7_shortens_37 : decode cX7_shortens 37 = .ok (.iload_n 3, 1) := by decide +kernel
theorem dX7_shortens_38 : decode cX7_shortens 38 = .ok (.invokevirtual 128, 3) := by decide +kernel
theorem dX7_shortens_41 : decode cX7_shortens 41 = .ok (.istore 4, 2) := by decide +kernel
theorem dX7_shortens_43 : decode cX7_shortens 43 = .ok (.aload_n 0, 1) := by decide +kernel
theorem dX7_shortens_44 : decode cX7_shortens 44 = .ok (.iload_n 2, 1) := by decide +kernel
theorem dX7_shortens_45 : decode cX7_shortens 45 = .ok (.iload_n 1, 1) := by decide +kernel
theorem dX7_shortens_46 : decode cX7_shortens 46 = .ok (.invokevirtual 121, 3) := by decide +kernel
theorem dX7_shortens_49 : decode cX7_shortens 49 = .ok (.istore 5, 2) := by decide +kernel
theorem dX7_shortens_51 : decode cX7_shortens 51 = .ok (.iload 5, 2) := by decide +kernel
theorem dX7_shortens_53 : decode cX7_shortens 53 = .ok (.iconst (-1), 1) := by decide +kernel
theorem dX7_shortens_54 : decode cX7_shortens 54 = .ok (.if_icmp .ne 8, 3) := by decide +kernel
theorem dX7_shortens_57 : decode cX7_shortens 57 = .ok (.bipush (-2), 2) := by decide +kernel
theorem dX7_shortens_59 : decode cX7_shortens 59 = .ok (.goto 15, 3) := by decide +kernel
theorem dX7_shortens_62 : decode cX7_shortens 62 = .ok (.aload_n 0, 1) := by decide +kernel
theorem dX7_shortens_63 : decode cX7_shortens 63 = .ok (.getfield 26, 3) := by decide +kernel
theorem dX7_shortens_66 : decode cX7_shortens 66 = .ok (.iload 5, 2) := by decide +kernel
theorem dX7_shortens_68 : decode cX7_shortens 68 = .ok (.invokevirtual 128, 3) := by decide +kernel
theorem dX7_shortens_71 : decode cX7_shortens 71 = .ok (.iload 4, 2) := by decide +kernel
theorem dX7_shortens_73 : decode cX7_shortens 73 = .ok (.isub, 1) := by decide +kernel
theorem dX7_shortens_74 : decode cX7_shortens 74 = .ok (.ireturn, 1) := by decide +kernel
set_option maxRecDepth 20000 in
theorem ggX7_week_X7_isWithin : GoodIn wsX7_week wsX7_isWithin := goodIn_r _ [5] (by decide +kernel) (by decide +kernel)
set_option maxRecDepth 20000 in
theorem gX7_week_X7_isWithin : GoodIn wsX7_week (va_wsS RX7 55 yX7_isWithin wsX7_isWithin) := goodIn_app (goodIn_of _ (by decide +kernel)) ggX7_week_X7_isWithin
set_option maxRecDepth 20000 in
theorem ggX7_week_X6_change : GoodIn wsX7_week wsX6_change := goodIn_r _ [10, 11, 19, 20, 21] (by decide +kernel) (by decide +kernel)
set_option maxRecDepth 20000 in
theorem gX7_week_X6_change : GoodIn wsX7_week (wsV RX7 151 RX6 yX6_change wsX6_change) := goodIn_app (goodIn_of _ (by decide +kernel)) ggX7_week_X6_change
theorem dX7_week_0 : decode cX7_week 0 = .ok (.iload_n 1, 1) := by decide +kernel
theorem dX7_week_1 : decode cX7_week 1 = .ok (.iconst 0, 1) := by decide +kernel
theorem dX7_week_2 : decode cX7_week 2 = .ok (.bipush 51, 2) := by decide +kernel
theorem dX7_week_4 : decode cX7_week 4 = .ok (.invokestatic 55, 3) := by decide +kernel
theorem dX7_week_7 : decode cX7_week 7 = .ok (.ifCond .eq 14, 3) := by decide +kernel
theorem dX7_week_10 : decode cX7_week 10 = .ok (.iload_n 2, 1) := by decide +kernel
theorem dX7_week_11 : decode cX7_week 11 = .ok (.iconst 0, 1) := by decide +kernel
theorem dX7_week_12 : decode cX7_week 12 = .ok (.sipush 3000, 3) := by decide +kernel
theorem dX7_week_15 : decode cX7_week 15 = .ok (.invokestatic 55, 3) := by decide +kernel
theorem dX7_week_18 : decode cX7_week 18 = .ok (.ifCond .ne 5, 3) := by decide +kernel
theorem dX7_week_21 : decode cX7_week 21 = .ok (.iconst 0, 1) := by decide +kernel
theorem dX7_week_22 : decode cX7_week 22 = .ok (.ireturn, 1) := by decide +kernel
theorem dX7_week_23 : decode cX7_week 23 = .ok (.aload_n 0, 1) := by decide +kernel
theorem dX7_week_24 : decode cX7_week 24 = .ok (.getfield 40, 3) := by decide +kernel
theorem dX7_week_27 : decode cX7_week 27 = .ok (.iload_n 1, 1) := by decide +kernel
theorem dX7_week_28 : decode cX7_week 28 = .ok (.iload_n 2, 1) := by decide +kernel
theorem dX7_week_29 : decode cX7_week 29 = .ok (.invokevirtual 151, 3) := by decide +kernel
theorem dX7_week_32 : decode cX7_week 32 = .ok (.iconst 1, 1) := by decide +kernel
theorem dX7_week_33 : decode cX7_week 33 = .ok (.ireturn, 1) := by decide +kernel
set_option maxRecDepth 20000 in
theorem ggX7_lay_X6_layRow : GoodIn wsX7_lay wsX6_layRow := goodIn_r _ [8, 9, 10, 11, 12, 13, 14, 15, 16, 17, 18, 19, 20, 21, 22, 23, 24, 25, 26, 27, 28, 29, 30, 31, 32, 33, 34, 35, 36, 37, 38, 39, 40, 41, 42, 43, 44, 45, 46, 47, 48, 49, 50, 51, 52, 53, 54, 55, 56, 57, 58, 59, 60, 61, 62, 63, 64, 65, 66, 67, 68, 69, 70, 71, 72, 73, 74, 75, 76, 77, 78, 79, 80, 81, 82, 90, 91, 92, 93, 94, 95, 96, 97, 98, 99, 100, 101, 102, 103, 104] (by decide +kernel) (by decide +kernel)
set_option maxRecDepth 20000 in
theorem gX7_lay_X6_layRow : GoodIn wsX7_lay (wsV RX7 154 RX6 yX6_layRow wsX6_layRow) := goodIn_app (goodIn_of _ (by decide +kernel)) ggX7_lay_X6_layRow
theorem dX7_lay_0 : decode cX7_lay 0 = .ok (.aload_n 0, 1) := by decide +kernel
theorem dX7_lay_1 : decode cX7_lay 1 = .ok (.getfield 40, 3) := by decide +kernel
theorem dX7_lay_4 : decode cX7_lay 4 = .ok (.aload_n 0, 1) := by decide +kernel
theorem dX7_lay_5 : decode cX7_lay 5 = .ok (.getfield 33, 3) := by decide +kernel
theorem dX7_lay_8 : decode cX7_lay 8 = .ok (.aload_n 0, 1) := by decide +kernel
theorem dX7_lay_9 : decode cX7_lay 9 = .ok (.getfield 19, 3) := by decide +kernel
theorem dX7_lay_12 : decode cX7_lay 12 = .ok (.iload_n 1, 1) := by decide +kernel
theorem dX7_lay_13 : decode cX7_lay 13 = .ok (.invokevirtual 154, 3) := by decide +kernel
theorem dX7_lay_16 : decode cX7_lay 16 = .ok (.ireturn, 1) := by decide +kernel
set_option maxRecDepth 20000 in
theorem ggX7_laid_X6_weekOf : GoodIn wsX7_laid wsX6_weekOf := goodIn_r _ [6, 7, 8, 9, 10, 11, 12, 13, 14, 22, 23, 24, 25, 26] (by decide +kernel) (by decide +kernel)
set_option maxRecDepth 20000 in
theorem gX7_laid_X6_weekOf : GoodIn wsX7_laid (wsV RX7 158 RX6 yX6_weekOf wsX6_weekOf) := goodIn_app (goodIn_of _ (by decide +kernel)) ggX7_laid_X6_weekOf
theorem dX7_laid_0 : decode cX7_laid 0 = .ok (.aload_n 0, 1) := by decide +kernel
theorem dX7_laid_1 : decode cX7_laid 1 = .ok (.getfield 40, 3) := by decide +kernel
theorem dX7_laid_4 : decode cX7_laid 4 = .ok (.iload_n 1, 1) := by decide +kernel
theorem dX7_laid_5 : decode cX7_laid 5 = .ok (.invokevirtual 158, 3) := by decide +kernel
theorem dX7_laid_8 : decode cX7_laid 8 = .ok (.ireturn, 1) := by decide +kernel
set_option maxRecDepth 20000 in
theorem ggX7_answer_X4_size : GoodIn wsX7_answer wsX4_size := goodIn_r _ [7, 8, 42, 43, 44] (by decide +kernel) (by decide +kernel)
set_option maxRecDepth 20000 in
theorem gX7_answer_X4_size : GoodIn wsX7_answer (wsV RX7 93 RX4 yX4_size wsX4_size) := goodIn_app (goodIn_of _ (by decide +kernel)) ggX7_answer_X4_size
set_option maxRecDepth 20000 in
theorem ggX7_answer_X7_isWithin : GoodIn wsX7_answer wsX7_isWithin := goodIn_r _ [12] (by decide +kernel) (by decide +kernel)
set_option maxRecDepth 20000 in
theorem gX7_answer_X7_isWithin : GoodIn wsX7_answer (va_wsS RX7 55 yX7_isWithin wsX7_isWithin) := goodIn_app (goodIn_of _ (by decide +kernel)) ggX7_answer_X7_isWithin
set_option maxRecDepth 20000 in
theorem ggX7_answer_X0_accept : GoodIn wsX7_answer wsX0_accept := goodIn_r _ [17, 18, 19, 20, 21, 22, 16, 23, 24, 25, 26, 27, 28, 29, 30, 31, 32, 33, 34, 45, 46, 47, 48] (by decide +kernel) (by decide +kernel)
set_option maxRecDepth 20000 in
theorem gX7_answer_X0_accept : GoodIn wsX7_answer (wsV RX7 161 RX0 yX0_accept wsX0_accept) := goodIn_app (goodIn_of _ (by decide +kernel)) ggX7_answer_X0_accept
theorem dX7_answer_0 : decode cX7_answer 0 = .ok (.iload_n 1, 1) := by decide +kernel
theorem dX7_answer_1 : decode cX7_answer 1 = .ok (.iconst 0, 1) := by decide +kernel
theorem dX7_answer_2 : decode cX7_answer 2 = .ok (.aload_n 0, 1) := by decide +kernel
theorem dX7_answer_3 : decode cX7_answer 3 = .ok (.getfield 12, 3) := by decide +kernel
theorem dX7_answer_6 : decode cX7_answer 6 = .ok (.invokevirtual 93, 3) := by decide +kernel
theorem dX7_answer_9 : decode cX7_answer 9 = .ok (.iconst 1, 1) := by decide +kernel
theorem dX7_answer_10 : decode cX7_answer 10 = .ok (.isub, 1) := by decide +kernel
theorem dX7_answer_11 : decode cX7_answer 11 = .ok (.invokestatic 55, 3) := by decide +kernel
theorem dX7_answer_14 : decode cX7_answer 14 = .ok (.ifCond .eq 15, 3) := by decide +kernel
theorem dX7_answer_17 : decode cX7_answer 17 = .ok (.aload_n 0, 1) := by decide +kernel
theorem dX7_answer_18 : decode cX7_answer 18 = .ok (.getfield 47, 3) := by decide +kernel
theorem dX7_answer_21 : decode cX7_answer 21 = .ok (.iload_n 1, 1) := by decide +kernel
theorem dX7_answer_22 : decode cX7_answer 22 = .ok (.iload_n 2, 1) := by decide +kernel
theorem dX7_answer_23 : decode cX7_answer 23 = .ok (.invokevirtual 161, 3) := by decide +kernel
theorem dX7_answer_26 : decode cX7_answer 26 = .ok (.goto 4, 3) := by decide +kernel
theorem dX7_answer_29 : decode cX7_answer 29 = .ok (.iconst (-1), 1) := by decide +kernel
theorem dX7_answer_30 : decode cX7_answer 30 = .ok (.ireturn, 1) := by decide +kernel
set_option maxRecDepth 20000 in
theorem ggX7_ask_X0_startAnew : GoodIn wsX7_ask wsX0_startAnew := goodIn_r _ [7, 8, 9, 10, 41, 42, 43, 44] (by decide +kernel) (by decide +kernel)
set_option maxRecDepth 20000 in
theorem gX7_ask_X0_startAnew : GoodIn wsX7_ask (wsV RX7 165 RX0 yX0_startAnew wsX0_startAnew) := goodIn_app (goodIn_of _ (by decide +kernel)) ggX7_ask_X0_startAnew
set_option maxRecDepth 20000 in
theorem ggX7_ask_X4_size : GoodIn wsX7_ask wsX4_size := goodIn_r _ [15, 16, 45, 46, 47] (by decide +kernel) (by decide +kernel)
set_option maxRecDepth 20000 in
theorem gX7_ask_X4_size : GoodIn wsX7_ask (wsV RX7 93 RX4 yX4_size wsX4_size) := goodIn_app (goodIn_of _ (by decide +kernel)) ggX7_ask_X4_size
set_option maxRecDepth 20000 in
theorem ggX7_ask_X4_impliedBy : GoodIn wsX7_ask wsX4_impliedBy := goodIn_r _ [20, 21, 22, 23, 14, 24, 25, 45, 46, 47] (by decide +kernel) (by decide +kernel)
set_option maxRecDepth 20000 in
theorem gX7_ask_X4_impliedBy : GoodIn wsX7_ask (wsV RX7 67 RX4 yX4_impliedBy wsX4_impliedBy) := goodIn_app (goodIn_of _ (by decide +kernel)) ggX7_ask_X4_impliedBy
set_option maxRecDepth 20000 in
theorem ggX7_ask_X0_addTopic : GoodIn wsX7_ask wsX0_addTopic := goodIn_r _ [29, 9, 8, 41, 42, 43, 44] (by decide +kernel) (by decide +kernel)
set_option maxRecDepth 20000 in
theorem gX7_ask_X0_addTopic : GoodIn wsX7_ask (wsV RX7 71 RX0 yX0_addTopic wsX0_addTopic) := goodIn_app (goodIn_of _ (by decide +kernel)) ggX7_ask_X0_addTopic
set_option maxRecDepth 20000 in
theorem ggX7_ask_X0_size : GoodIn wsX7_ask wsX0_size := goodIn_r _ [33, 9, 41, 42, 43, 44] (by decide +kernel) (by decide +kernel)
set_option maxRecDepth 20000 in
theorem gX7_ask_X0_size : GoodIn wsX7_ask (wsV RX7 168 RX0 yX0_size wsX0_size) := goodIn_app (goodIn_of _ (by decide +kernel)) ggX7_ask_X0_size
theorem dX7_ask_0 : decode cX7_ask 0 = .ok (.aload_n 0, 1) := by decide +kernel
theorem dX7_ask_1 : decode cX7_ask 1 = .ok (.getfield 47, 3) := by decide +kernel
theorem dX7_ask_4 : decode cX7_ask 4 = .ok (.invokevirtual 165, 3) := by decide +kernel
theorem dX7_ask_7 : decode cX7_ask 7 = .ok (.iconst 0, 1) := by decide +kernel
theorem dX7_ask_8 : decode cX7_ask 8 = .ok (.istore_n 1, 1) := by decide +kernel
theorem dX7_ask_9 : decode cX7_ask 9 = .ok (.iload_n 1, 1) := by decide +kernel
theorem dX7_ask_10 : decode cX7_ask 10 = .ok (.aload_n 0, 1) := by decide +kernel
theorem dX7_ask_11 : decode cX7_ask 11 = .ok (.getfield 12, 3) := by decide +kernel
theorem dX7_ask_14 : decode cX7_ask 14 = .ok (.invokevirtual 93, 3) := by decide +kernel
theorem dX7_ask_17 : decode cX7_ask 17 = .ok (.if_icmp .ge 25, 3) := by decide +kernel
theorem dX7_ask_20 : decode cX7_ask 20 = .ok (.aload_n 0, 1) := by decide +kernel
theorem dX7_ask_21 : decode cX7_ask 21 = .ok (.getfield 47, 3) := by decide +kernel
theorem dX7_ask_24 : decode cX7_ask 24 = .ok (.iload_n 1, 1) := by decide +kernel
theorem dX7_ask_25 : decode cX7_ask 25 = .ok (.aload_n 0, 1) := by decide +kernel
theorem dX7_ask_26 : decode cX7_ask 26 = .ok (.getfield 12, 3) := by decide +kernel
theorem dX7_ask_29 : decode cX7_ask 29 = .ok (.iload_n 1, 1) := by decide +kernel
theorem dX7_ask_30 : decode cX7_ask 30 = .ok (.invokevirtual 67, 3) := by decide +kernel
theorem dX7_ask_33 : decode cX7_ask 33 = .ok (.invokevirtual 71, 3) := by decide +kernel
theorem dX7_ask_36 : decode cX7_ask 36 = .ok (.iinc 1 1, 3) := by decide +kernel
theorem dX7_ask_39 : decode cX7_ask 39 = .ok (.goto (-30), 3) := by decide +kernel
theorem dX7_ask_42 : decode cX7_ask 42 = .ok (.aload_n 0, 1) := by decide +kernel
theorem dX7_ask_43 : decode cX7_ask 43 = .ok (.getfield 47, 3) := by decide +kernel
theorem dX7_ask_46 : decode cX7_ask 46 = .ok (.invokevirtual 168, 3) := by decide +kernel
theorem dX7_ask_49 : decode cX7_ask 49 = .ok (.ireturn, 1) := by decide +kernel
set_option maxRecDepth 20000 in
theorem ggX7_states_X0_size : GoodIn wsX7_states wsX0_size := goodIn_r _ [6, 7, 15, 16, 17, 18] (by decide +kernel) (by decide +kernel)
set_option maxRecDepth 20000 in
theorem gX7_states_X0_size : GoodIn wsX7_states (wsV RX7 168 RX0 yX0_size wsX0_size) := goodIn_app (goodIn_of _ (by decide +kernel)) ggX7_states_X0_size
theorem dX7_states_0 : decode cX7_states 0 = .ok (.aload_n 0, 1) := by decide +kernel
theorem dX7_states_1 : decode cX7_states 1 = .ok (.getfield 47, 3) := by decide +kernel
theorem dX7_states_4 : decode cX7_states 4 = .ok (.invokevirtual 168, 3) := by decide +kernel
theorem dX7_states_7 : decode cX7_states 7 = .ok (.ireturn, 1) := by decide +kernel
set_option maxRecDepth 20000 in
theorem ggX7_question_X0_nextQuestion : GoodIn wsX7_question wsX0_nextQuestion := goodIn_r _ [6, 7, 8, 9, 10, 5, 11, 12, 13, 14, 15, 16, 17, 18, 26, 27, 28, 29] (by decide +kernel) (by decide +kernel)
set_option maxRecDepth 20000 in
theorem gX7_question_X0_nextQuestion : GoodIn wsX7_question (wsV RX7 169 RX0 yX0_nextQuestion wsX0_nextQuestion) := goodIn_app (goodIn_of _ (by decide +kernel)) ggX7_question_X0_nextQuestion
theorem dX7_question_0 : decode cX7_question 0 = .ok (.aload_n 0, 1) := by decide +kernel
theorem dX7_question_1 : decode cX7_question 1 = .ok (.getfield 47, 3) := by decide +kernel
theorem dX7_question_4 : decode cX7_question 4 = .ok (.invokevirtual 169, 3) := by decide +kernel
theorem dX7_question_7 : decode cX7_question 7 = .ok (.ireturn, 1) := by decide +kernel
set_option maxRecDepth 20000 in
theorem ggX7_worst_X0_mostQuestions : GoodIn wsX7_worst wsX0_mostQuestions := goodIn_r _ [6, 7, 8, 9, 10, 11, 5, 12, 13, 14, 15, 16, 17, 18, 19, 20, 21, 22, 23, 24, 25, 26, 27, 28, 36, 37, 38, 39] (by decide +kernel) (by decide +kernel)
set_option maxRecDepth 20000 in
theorem gX7_worst_X0_mostQuestions : GoodIn wsX7_worst (wsV RX7 172 RX0 yX0_mostQuestions wsX0_mostQuestions) := goodIn_app (goodIn_of _ (by decide +kernel)) ggX7_worst_X0_mostQuestions
theorem dX7_worst_0 : decode cX7_worst 0 = .ok (.aload_n 0, 1) := by decide +kernel
theorem dX7_worst_1 : decode cX7_worst 1 = .ok (.getfield 47, 3) := by decide +kernel
theorem dX7_worst_4 : decode cX7_worst 4 = .ok (.invokevirtual 172, 3) := by decide +kernel
theorem dX7_worst_7 : decode cX7_worst 7 = .ok (.ireturn, 1) := by decide +kernel
set_option maxRecDepth 20000 in
theorem ggX7_settle_X0_inCommon : GoodIn wsX7_settle wsX0_inCommon := goodIn_r _ [7, 8, 9, 17, 18, 19, 20] (by decide +kernel) (by decide +kernel)
set_option maxRecDepth 20000 in
theorem gX7_settle_X0_inCommon : GoodIn wsX7_settle (wsV RX7 175 RX0 yX0_inCommon wsX0_inCommon) := goodIn_app (goodIn_of _ (by decide +kernel)) ggX7_settle_X0_inCommon
theorem dX7_settle_0 : decode cX7_settle 0 = .ok (.aload_n 0, 1) := by decide +kernel
theorem dX7_settle_1 : decode cX7_settle 1 = .ok (.aload_n 0, 1) := by decide +kernel
theorem dX7_settle_2 : decode cX7_settle 2 = .ok (.getfield 47, 3) := by decide +kernel
theorem dX7_settle_5 : decode cX7_settle 5 = .ok (.invokevirtual 175, 3) := by decide +kernel
theorem dX7_settle_8 : decode cX7_settle 8 = .ok (.putfield 51, 3) := by decide +kernel
theorem dX7_settle_11 : decode cX7_settle 11 = .ok (.aload_n 0, 1) := by decide +kernel
theorem dX7_settle_12 : decode cX7_settle 12 = .ok (.getfield 51, 3) := by decide +kernel
theorem dX7_settle_15 : decode cX7_settle 15 = .ok (.ireturn, 1) := by decide +kernel
set_option maxRecDepth 20000 in
theorem ggX7_state_X0_at : GoodIn wsX7_state wsX0_at := goodIn_r _ [8, 9, 10, 18, 19, 20, 21] (by decide +kernel) (by decide +kernel)
set_option maxRecDepth 20000 in
theorem gX7_state_X0_at : GoodIn wsX7_state (wsV RX7 178 RX0 yX0_at wsX0_at) := goodIn_app (goodIn_of _ (by decide +kernel)) ggX7_state_X0_at
theorem dX7_state_0 : decode cX7_state 0 = .ok (.aload_n 0, 1) := by decide +kernel
theorem dX7_state_1 : decode cX7_state 1 = .ok (.getfield 47, 3) := by decide +kernel
theorem dX7_state_4 : decode cX7_state 4 = .ok (.iload_n 1, 1) := by decide +kernel
theorem dX7_state_5 : decode cX7_state 5 = .ok (.invokevirtual 178, 3) := by decide +kernel
theorem dX7_state_8 : decode cX7_state 8 = .ok (.istore_n 2, 1) := by decide +kernel
theorem dX7_state_9 : decode cX7_state 9 = .ok (.iload_n 2, 1) := by decide +kernel
theorem dX7_state_10 : decode cX7_state 10 = .ok (.iconst (-1), 1) := by decide +kernel
theorem dX7_state_11 : decode cX7_state 11 = .ok (.if_icmp .ne 13, 3) := by decide +kernel
theorem dX7_state_14 : decode cX7_state 14 = .ok (.new 179, 3) := by decide +kernel
theorem dX7_state_17 : decode cX7_state 17 = .ok (.dup, 1) := by decide +kernel
theorem dX7_state_18 : decode cX7_state 18 = .ok (.ldc 181, 2) := by decide +kernel
theorem dX7_state_20 : decode cX7_state 20 = .ok (.invokespecial 183, 3) := by decide +kernel
theorem dX7_state_23 : decode cX7_state 23 = .ok (.athrow, 1) := by decide +kernel
theorem dX7_state_24 : decode cX7_state 24 = .ok (.iload_n 2, 1) := by decide +kernel
theorem dX7_state_25 : decode cX7_state 25 = .ok (.ireturn, 1) := by decide +kernel
set_option maxRecDepth 20000 in
theorem ggX7_endOfBestWay_X4_haveAll : GoodIn wsX7_endOfBestWay wsX4_haveAll := goodIn_r _ [9, 10, 115, 116, 117] (by decide +kernel) (by decide +kernel)
set_option maxRecDepth 20000 in
theorem gX7_endOfBestWay_X4_haveAll : GoodIn wsX7_endOfBestWay (wsV RX7 59 RX4 yX4_haveAll wsX4_haveAll) := goodIn_app (goodIn_of _ (by decide +kernel)) ggX7_endOfBestWay_X4_haveAll
set_option maxRecDepth 20000 in
theorem ggX7_endOfBestWay_X4_size : GoodIn wsX7_endOfBestWay wsX4_size := goodIn_r _ [14, 10, 115, 116, 117] (by decide +kernel) (by decide +kernel)
set_option maxRecDepth 20000 in
theorem gX7_endOfBestWay_X4_size : GoodIn wsX7_endOfBestWay (wsV RX7 93 RX4 yX4_size wsX4_size) := goodIn_app (goodIn_of _ (by decide +kernel)) ggX7_endOfBestWay_X4_size
set_option maxRecDepth 20000 in
theorem ggX7_endOfBestWay_X5_explore : GoodIn wsX7_endOfBestWay wsX5_explore := goodIn_r _ [19, 20, 21, 22, 23, 24, 25, 26, 27, 28, 29, 18, 30, 31, 32, 33, 34, 35, 36, 37, 38, 39, 40, 41, 42, 43, 44, 45, 46, 47, 48, 49, 50, 51, 52, 53, 54, 55, 56, 57, 58, 59, 60, 61, 62, 63, 64, 65, 66, 67, 68, 69, 70, 71, 72, 73, 74, 75, 76, 77, 78, 79, 80, 81, 82, 83, 84, 85, 86, 87, 88, 89, 90, 91, 92, 93, 94, 95, 96, 97, 98, 99, 118, 119, 120, 121, 122, 123, 124, 125, 126, 127, 128, 129, 130] (by decide +kernel) (by decide +kernel)
set_option maxRecDepth 20000 in
theorem gX7_endOfBestWay_X5_explore : GoodIn wsX7_endOfBestWay (wsV RX7 134 RX5 yX5_explore wsX5_explore) := goodIn_app (goodIn_of _ (by decide +kernel)) ggX7_endOfBestWay_X5_explore
set_option maxRecDepth 20000 in
theorem ggX7_endOfBestWay_X5_endWith : GoodIn wsX7_endOfBestWay wsX5_endWith := goodIn_r _ [103, 24, 25, 104, 105, 106, 18, 107, 26, 96, 97, 98, 99, 118, 119, 120] (by decide +kernel) (by decide +kernel)
set_option maxRecDepth 20000 in
theorem gX7_endOfBestWay_X5_endWith : GoodIn wsX7_endOfBestWay (wsV RX7 186 RX5 yX5_endWith wsX5_endWith) := goodIn_app (goodIn_of _ (by decide +kernel)) ggX7_endOfBestWay_X5_endWith
theorem dX7_endOfBestWay_0 : decode cX7_endOfBestWay 0 = .ok (.aload_n 0, 1) := by decide +kernel
theorem dX7_endOfBestWay_1 : decode cX7_endOfBestWay 1 = .ok (.getfield 12, 3) := by decide +kernel
theorem dX7_endOfBestWay_4 : decode cX7_endOfBestWay 4 = .ok (.iload_n 1, 1) := by decide +kernel
theorem dX7_endOfBestWay_5 : decode cX7_endOfBestWay 5 = .ok (.invokevirtual 59, 3) := by decide +kernel
theorem dX7_endOfBestWay_8 : decode cX7_endOfBestWay 8 = .ok (.ifCond .ne 5, 3) := by decide +kernel
theorem dX7_endOfBestWay_11 : decode cX7_endOfBestWay 11 = .ok (.iconst (-1), 1) := by decide +kernel
theorem dX7_endOfBestWay_12 : decode cX7_endOfBestWay 12 = .ok (.ireturn, 1) := by decide +kernel
theorem dX7_endOfBestWay_13 : decode cX7_endOfBestWay 13 = .ok (.aload_n 0, 1) := by decide +kernel
theorem dX7_endOfBestWay_14 : decode cX7_endOfBestWay 14 = .ok (.getfield 26, 3) := by decide +kernel
theorem dX7_endOfBestWay_17 : decode cX7_endOfBestWay 17 = .ok (.aload_n 0, 1) := by decide +kernel
theorem dX7_endOfBestWay_18 : decode cX7_endOfBestWay 18 = .ok (.getfield 19, 3) := by decide +kernel
theorem dX7_endOfBestWay_21 : decode cX7_endOfBestWay 21 = .ok (.aload_n 0, 1) := by decide +kernel
theorem dX7_endOfBestWay_22 : decode cX7_endOfBestWay 22 = .ok (.getfield 12, 3) := by decide +kernel
theorem dX7_endOfBestWay_25 : decode cX7_endOfBestWay 25 = .ok (.invokevirtual 93, 3) := by decide +kernel
theorem dX7_endOfBestWay_28 : decode cX7_endOfBestWay 28 = .ok (.aload_n 0, 1) := by decide +kernel
theorem dX7_endOfBestWay_29 : decode cX7_endOfBestWay 29 = .ok (.getfield 51, 3) := by decide +kernel
theorem dX7_endOfBestWay_32 : decode cX7_endOfBestWay 32 = .ok (.iload_n 2, 1) := by decide +kernel
theorem dX7_endOfBestWay_33 : decode cX7_endOfBestWay 33 = .ok (.invokevirtual 134, 3) := by decide +kernel
theorem dX7_endOfBestWay_36 : decode cX7_endOfBestWay 36 = .ok (.aload_n 0, 1) := by decide +kernel
theorem dX7_endOfBestWay_37 : decode cX7_endOfBestWay 37 = .ok (.getfield 26, 3) := by decide +kernel
theorem dX7_endOfBestWay_40 : decode cX7_endOfBestWay 40 = .ok (.iload_n 1, 1) := by decide +kernel
theorem dX7_endOfBestWay_41 : decode cX7_endOfBestWay 41 = .ok (.invokevirtual 186, 3) := by decide +kernel
theorem dX7_endOfBestWay_44 : decode cX7_endOfBestWay 44 = .ok (.ireturn, 1) := by decide +kernel
theorem dX7_isWithin_0 : decode cX7_isWithin 0 = .ok (.iload_n 0, 1) := by decide +kernel
theorem dX7_isWithin_1 : decode cX7_isWithin 1 = .ok (.iload_n 1, 1) := by decide +kernel
theorem dX7_isWithin_2 : decode cX7_isWithin 2 = .ok (.if_icmp .lt 12, 3) := by decide +kernel
theorem dX7_isWithin_5 : decode cX7_isWithin 5 = .ok (.iload_n 0, 1) := by decide +kernel
theorem dX7_isWithin_6 : decode cX7_isWithin 6 = .ok (.iload_n 2, 1) := by decide +kernel
theorem dX7_isWithin_7 : decode cX7_isWithin 7 = .ok (.if_icmp .gt 7, 3) := by decide +kernel
theorem dX7_isWithin_10 : decode cX7_isWithin 10 = .ok (.iconst 1, 1) := by decide +kernel
theorem dX7_isWithin_11 : decode cX7_isWithin 11 = .ok (.goto 4, 3) := by decide +kernel
theorem dX7_isWithin_14 : decode cX7_isWithin 14 = .ok (.iconst 0, 1) := by decide +kernel
theorem dX7_isWithin_15 : decode cX7_isWithin 15 = .ok (.ireturn, 1) := by decide +kernel
theorem dX7_isSkimmed_0 : decode cX7_isSkimmed 0 = .ok (.iload_n 0, 1) := by decide +kernel
theorem dX7_isSkimmed_1 : decode cX7_isSkimmed 1 = .ok (.iconst 1, 1) := by decide +kernel
theorem dX7_isSkimmed_2 : decode cX7_isSkimmed 2 = .ok (.iand, 1) := by decide +kernel
theorem dX7_isSkimmed_3 : decode cX7_isSkimmed 3 = .ok (.iconst 1, 1) := by decide +kernel
theorem dX7_isSkimmed_4 : decode cX7_isSkimmed 4 = .ok (.if_icmp .ne 7, 3) := by decide +kernel
theorem dX7_isSkimmed_7 : decode cX7_isSkimmed 7 = .ok (.iconst 1, 1) := by decide +kernel
theorem dX7_isSkimmed_8 : decode cX7_isSkimmed 8 = .ok (.goto 4, 3) := by decide +kernel
theorem dX7_isSkimmed_11 : decode cX7_isSkimmed 11 = .ok (.iconst 0, 1) := by decide +kernel
theorem dX7_isSkimmed_12 : decode cX7_isSkimmed 12 = .ok (.ireturn, 1) := by decide +kernel
end
section
theorem dX8_init_0 : decode cX8_init 0 = .ok (.aload_n 0, 1) := by decide +kernel
theorem dX8_init_1 : decode cX8_init 1 = .ok (.invokespecial 3, 3) := by decide +kernel
theorem dX8_init_4 : decode cX8_init 4 = .ok (.aload_n 0, 1) := by decide +kernel
theorem dX8_init_5 : decode cX8_init 5 = .ok (.bipush 12, 2) := by decide +kernel
theorem dX8_init_7 : decode cX8_init 7 = .ok (.newarray .int, 2) := by decide +kernel
theorem dX8_init_9 : decode cX8_init 9 = .ok (.putfield 9, 3) := by decide +kernel
theorem dX8_init_12 : decode cX8_init 12 = .ok (.aload_n 0, 1) := by decide +kernel
theorem dX8_init_13 : decode cX8_init 13 = .ok (.bipush 12, 2) := by decide +kernel
theorem dX8_init_15 : decode cX8_init 15 = .ok (.newarray .int, 2) := by decide +kernel
theorem dX8_init_17 : decode cX8_init 17 = .ok (.putfield 13, 3) := by decide +kernel
theorem dX8_init_20 : decode cX8_init 20 = .ok (.aload_n 0, 1) := by decide +kernel
theorem dX8_init_21 : decode cX8_init 21 = .ok (.bipush 14, 2) := by decide +kernel
theorem dX8_init_23 : decode cX8_init 23 = .ok (.newarray .int, 2) := by decide +kernel
theorem dX8_init_25 : decode cX8_init 25 = .ok (.putfield 16, 3) := by decide +kernel
theorem dX8_init_28 : decode cX8_init 28 = .ok (.aload_n 0, 1) := by decide +kernel
theorem dX8_init_29 : decode cX8_init 29 = .ok (.bipush 14, 2) := by decide +kernel
theorem dX8_init_31 : decode cX8_init 31 = .ok (.newarray .int, 2) := by decide +kernel
theorem dX8_init_33 : decode cX8_init 33 = .ok (.putfield 19, 3) := by decide +kernel
theorem dX8_init_36 : decode cX8_init 36 = .ok (.aload_n 0, 1) := by decide +kernel
theorem dX8_init_37 : decode cX8_init 37 = .ok (.bipush 14, 2) := by decide +kernel
theorem dX8_init_39 : decode cX8_init 39 = .ok (.newarray .int, 2) := by decide +kernel
theorem dX8_init_41 : decode cX8_init 41 = .ok (.putfield 22, 3) := by decide +kernel
theorem dX8_init_44 : decode cX8_init 44 = .ok (.aload_n 0, 1) := by decide +kernel
theorem dX8_init_45 : decode cX8_init 45 = .ok (.bipush 14, 2) := by decide +kernel
theorem dX8_init_47 : decode cX8_init 47 = .ok (.newarray .int, 2) := by decide +kernel
theorem dX8_init_49 : decode cX8_init 49 = .ok (.putfield 25, 3) := by decide +kernel
theorem dX8_init_52 : decode cX8_init 52 = .ok (.aload_n 0, 1) := by decide +kernel
theorem dX8_init_53 : decode cX8_init 53 = .ok (.bipush 14, 2) := by decide +kernel
theorem dX8_init_55 : decode cX8_init 55 = .ok (.newarray .int, 2) := by decide +kernel
theorem dX8_init_57 : decode cX8_init 57 = .ok (.putfield 28, 3) := by decide +kernel
theorem dX8_init_60 : decode cX8_init 60 = .ok (.aload_n 0, 1) := by decide +kernel
theorem dX8_init_61 : decode cX8_init 61 = .ok (.iconst 2, 1) := by decide +kernel
theorem dX8_init_62 : decode cX8_init 62 = .ok (.putfield 31, 3) := by decide +kernel
theorem dX8_init_65 : decode cX8_init 65 = .ok (.aload_n 0, 1) := by decide +kernel
theorem dX8_init_66 : decode cX8_init 66 = .ok (.bipush 12, 2) := by decide +kernel
theorem dX8_init_68 : decode cX8_init 68 = .ok (.newarray .int, 2) := by decide +kernel
theorem dX8_init_70 : decode cX8_init 70 = .ok (.putfield 35, 3) := by decide +kernel
theorem dX8_init_73 : decode cX8_init 73 = .ok (.aload_n 0, 1) := by decide +kernel
theorem dX8_init_74 : decode cX8_init 74 = .ok (.bipush 52, 2) := by decide +kernel
theorem dX8_init_76 : decode cX8_init 76 = .ok (.newarray .int, 2) := by decide +kernel
theorem dX8_init_78 : decode cX8_init 78 = .ok (.putfield 38, 3) := by decide +kernel
theorem dX8_init_81 : decode cX8_init 81 = .ok (.aload_n 0, 1) := by decide +kernel
theorem dX8_init_82 : decode cX8_init 82 = .ok (.bipush 12, 2) := by decide +kernel
theorem dX8_init_84 : decode cX8_init 84 = .ok (.newarray .int, 2) := by decide +kernel
theorem dX8_init_86 : decode cX8_init 86 = .ok (.putfield 41, 3) := by decide +kernel
theorem dX8_init_89 : decode cX8_init 89 = .ok (.aload_n 0, 1) := by decide +kernel
theorem dX8_init_90 : decode cX8_init 90 = .ok (.bipush 12, 2) := by decide +kernel
theorem dX8_init_92 : decode cX8_init 92 = .ok (.newarray .int, 2) := by decide +kernel
theorem dX8_init_94 : decode cX8_init 94 = .ok (.putfield 44, 3) := by decide +kernel
theorem dX8_init_97 : decode cX8_init 97 = .ok (.aload_n 0, 1) := by decide +kernel
theorem dX8_init_98 : decode cX8_init 98 = .ok (.sipush 4096, 3) := by decide +kernel
theorem dX8_init_101 : decode cX8_init 101 = .ok (.newarray .int, 2) := by decide +kernel
theorem dX8_init_103 : decode cX8_init 103 = .ok (.putfield 47, 3) := by decide +kernel
theorem dX8_init_106 : decode cX8_init 106 = .ok (.aload_n 0, 1) := by decide +kernel
theorem dX8_init_107 : decode cX8_init 107 = .ok (.sipush 4096, 3) := by decide +kernel
theorem dX8_init_110 : decode cX8_init 110 = .ok (.newarray .int, 2) := by decide +kernel
theorem dX8_init_112 : decode cX8_init 112 = .ok (.putfield 50, 3) := by decide +kernel
theorem dX8_init_115 : decode cX8_init 115 = .ok (.aload_n 0, 1) := by decide +kernel
theorem dX8_init_116 : decode cX8_init 116 = .ok (.sipush 4096, 3) := by decide +kernel
theorem dX8_init_119 : decode cX8_init 119 = .ok (.newarray .boolean, 2) := by decide +kernel
theorem dX8_init_121 : decode cX8_init 121 = .ok (.putfield 53, 3) := by decide +kernel
theorem dX8_init_124 : decode cX8_init 124 = .ok (.aload_n 0, 1) := by decide +kernel
theorem dX8_init_125 : decode cX8_init 125 = .ok (.bipush 12, 2) := by decide +kernel
theorem dX8_init_127 : decode cX8_init 127 = .ok (.newarray .int, 2) := by decide +kernel
theorem dX8_init_129 : decode cX8_init 129 = .ok (.putfield 57, 3) := by decide +kernel
theorem dX8_init_132 : decode cX8_init 132 = .ok (.aload_n 0, 1) := by decide +kernel
theorem dX8_init_133 : decode cX8_init 133 = .ok (.bipush 64, 2) := by decide +kernel
theorem dX8_init_135 : decode cX8_init 135 = .ok (.newarray .int, 2) := by decide +kernel
theorem dX8_init_137 : decode cX8_init 137 = .ok (.putfield 60, 3) := by decide +kernel
theorem dX8_init_140 : decode cX8_init 140 = .ok (.iconst 0, 1) := by decide +kernel
theorem dX8_init_141 : decode cX8_init 141 = .ok (.istore_n 1, 1) := by decide +kernel
theorem dX8_init_142 : decode cX8_init 142 = .ok (.iload_n 1, 1) := by decide +kernel
theorem dX8_init_143 : decode cX8_init 143 = .ok (.bipush 52, 2) := by decide +kernel
theorem dX8_init_145 : decode cX8_init 145 = .ok (.if_icmp .ge 18, 3) := by decide +kernel
theorem dX8_init_148 : decode cX8_init 148 = .ok (.aload_n 0, 1) := by decide +kernel
theorem dX8_init_149 : decode cX8_init 149 = .ok (.getfield 38, 3) := by decide +kernel
theorem dX8_init_152 : decode cX8_init 152 = .ok (.iload_n 1, 1) := by decide +kernel
theorem dX8_init_153 : decode cX8_init 153 = .ok (.sipush 300, 3) := by decide +kernel
theorem dX8_init_156 : decode cX8_init 156 = .ok (.iastore, 1) := by decide +kernel
theorem dX8_init_157 : decode cX8_init 157 = .ok (.iinc 1 1, 3) := by decide +kernel
theorem dX8_init_160 : decode cX8_init 160 = .ok (.goto (-18), 3) := by decide +kernel
theorem dX8_init_163 : decode cX8_init 163 = .ok (.return_, 1) := by decide +kernel
theorem dX8_thrown_0 : decode cX8_thrown 0 = .ok (.aload_n 0, 1) := by decide +kernel
theorem dX8_thrown_1 : decode cX8_thrown 1 = .ok (.getfield 63, 3) := by decide +kernel
theorem dX8_thrown_4 : decode cX8_thrown 4 = .ok (.ireturn, 1) := by decide +kernel
theorem dX8_in_0 : decode cX8_in 0 = .ok (.iload_n 0, 1) := by decide +kernel
theorem dX8_in_1 : decode cX8_in 1 = .ok (.iload_n 1, 1) := by decide +kernel
theorem dX8_in_2 : decode cX8_in 2 = .ok (.if_icmp .lt 12, 3) := by decide +kernel
theorem dX8_in_5 : decode cX8_in 5 = .ok (.iload_n 0, 1) := by decide +kernel
theorem dX8_in_6 : decode cX8_in 6 = .ok (.iload_n 2, 1) := by decide +kernel
theorem dX8_in_7 : decode cX8_in 7 = .ok (.if_icmp .gt 7, 3) := by decide +kernel
theorem dX8_in_10 : decode cX8_in 10 = .ok (.iconst 1, 1) := by decide +kernel
theorem dX8_in_11 : decode cX8_in 11 = .ok (.goto 4, 3) := by decide +kernel
theorem dX8_in_14 : decode cX8_in 14 = .ok (.iconst 0, 1) := by decide +kernel
theorem dX8_in_15 : decode cX8_in 15 = .ok (.ireturn, 1) := by decide +kernel
set_option maxRecDepth 20000 in
theorem ggX8_areBits_X8_in : GoodIn wsX8_areBits wsX8_in := goodIn_r _ [5] (by decide +kernel) (by decide +kernel)
set_option maxRecDepth 20000 in
theorem gX8_areBits_X8_in : GoodIn wsX8_areBits (va_wsS RX8 69 yX8_in wsX8_in) := goodIn_app (goodIn_of _ (by decide +kernel)) ggX8_areBits_X8_in
theorem dX8_areBits_0 : decode cX8_areBits 0 = .ok (.iload_n 1, 1) := by decide +kernel
theorem dX8_areBits_1 : decode cX8_areBits 1 = .ok (.iconst 0, 1) := by decide +kernel
theorem dX8_areBits_2 : decode cX8_areBits 2 = .ok (.iconst 1, 1) := by decide +kernel
theorem dX8_areBits_3 : decode cX8_areBits 3 = .ok (.aload_n 0, 1) := by decide +kernel
theorem dX8_areBits_4 : decode cX8_areBits 4 = .ok (.getfield 66, 3) := by decide +kernel
theorem dX8_areBits_7 : decode cX8_areBits 7 = .ok (.ishl, 1) := by decide +kernel
theorem dX8_areBits_8 : decode cX8_areBits 8 = .ok (.iconst 1, 1) := by decide +kernel
theorem dX8_areBits_9 : decode cX8_areBits 9 = .ok (.isub, 1) := by decide +kernel
theorem dX8_areBits_10 : decode cX8_areBits 10 = .ok (.invokestatic 69, 3) := by decide +kernel
theorem dX8_areBits_13 : decode cX8_areBits 13 = .ok (.ireturn, 1) := by decide +kernel
set_option maxRecDepth 20000 in
theorem ggX8_isStep_X8_in : GoodIn wsX8_isStep wsX8_in := goodIn_r _ [5] (by decide +kernel) (by decide +kernel)
set_option maxRecDepth 20000 in
theorem gX8_isStep_X8_in : GoodIn wsX8_isStep (va_wsS RX8 69 yX8_in wsX8_in) := goodIn_app (goodIn_of _ (by decide +kernel)) ggX8_isStep_X8_in
theorem dX8_isStep_0 : decode cX8_isStep 0 = .ok (.iload_n 1, 1) := by decide +kernel
theorem dX8_isStep_1 : decode cX8_isStep 1 = .ok (.iconst 0, 1) := by decide +kernel
theorem dX8_isStep_2 : decode cX8_isStep 2 = .ok (.iconst 2, 1) := by decide +kernel
theorem dX8_isStep_3 : decode cX8_isStep 3 = .ok (.aload_n 0, 1) := by decide +kernel
theorem dX8_isStep_4 : decode cX8_isStep 4 = .ok (.getfield 73, 3) := by decide +kernel
theorem dX8_isStep_7 : decode cX8_isStep 7 = .ok (.imul, 1) := by decide +kernel
theorem dX8_isStep_8 : decode cX8_isStep 8 = .ok (.iconst 1, 1) := by decide +kernel
theorem dX8_isStep_9 : decode cX8_isStep 9 = .ok (.isub, 1) := by decide +kernel
theorem dX8_isStep_10 : decode cX8_isStep 10 = .ok (.invokestatic 69, 3) := by decide +kernel
theorem dX8_isStep_13 : decode cX8_isStep 13 = .ok (.ireturn, 1) := by decide +kernel
theorem dX8_withAll_0 : decode cX8_withAll 0 = .ok (.iload_n 1, 1) := by decide +kernel
theorem dX8_withAll_1 : decode cX8_withAll 1 = .ok (.istore_n 2, 1) := by decide +kernel
theorem dX8_withAll_2 : decode cX8_withAll 2 = .ok (.iconst 0, 1) := by decide +kernel
theorem dX8_withAll_3 : decode cX8_withAll 3 = .ok (.istore_n 3, 1) := by decide +kernel
theorem dX8_withAll_4 : decode cX8_withAll 4 = .ok (.iload_n 3, 1) := by decide +kernel
theorem dX8_withAll_5 : decode cX8_withAll 5 = .ok (.aload_n 0, 1) := by decide +kernel
theorem dX8_withAll_6 : decode cX8_withAll 6 = .ok (.getfield 66, 3) := by decide +kernel
theorem dX8_withAll_9 : decode cX8_withAll 9 = .ok (.if_icmp .ge 27, 3) := by decide +kernel
theorem dX8_withAll_12 : decode cX8_withAll 12 = .ok (.iload_n 1, 1) := by decide +kernel
theorem dX8_withAll_13 : decode cX8_withAll 13 = .ok (.iload_n 3, 1) := by decide +kernel
theorem dX8_withAll_14 : decode cX8_withAll 14 = .ok (.ishr, 1) := by decide +kernel
theorem dX8_withAll_15 : decode cX8_withAll 15 = .ok (.iconst 1, 1) := by decide +kernel
theorem dX8_withAll_16 : decode cX8_withAll 16 = .ok (.iand, 1) := by decide +kernel
theorem dX8_withAll_17 : decode cX8_withAll 17 = .ok (.iconst 1, 1) := by decide +kernel
theorem dX8_withAll_18 : decode cX8_withAll 18 = .ok (.if_icmp .ne 12, 3) := by decide +kernel
theorem dX8_withAll_21 : decode cX8_withAll 21 = .ok (.iload_n 2, 1) := by decide +kernel
theorem dX8_withAll_22 : decode cX8_withAll 22 = .ok (.aload_n 0, 1) := by decide +kernel
theorem dX8_withAll_23 : decode cX8_withAll 23 = .ok (.getfield 13, 3) := by decide +kernel
theorem dX8_withAll_26 : decode cX8_withAll 26 = .ok (.iload_n 3, 1) := by decide +kernel
theorem dX8_withAll_27 : decode cX8_withAll 27 = .ok (.iaload, 1) := by decide +kernel
theorem dX8_withAll_28 : decode cX8_withAll 28 = .ok (.ior, 1) := by decide +kernel
theorem dX8_withAll_29 : decode cX8_withAll 29 = .ok (.istore_n 2, 1) := by decide +kernel
theorem dX8_withAll_30 : decode cX8_withAll 30 = .ok (.iinc 3 1, 3) := by decide +kernel
theorem dX8_withAll_33 : decode cX8_withAll 33 = .ok (.goto (-29), 3) := by decide +kernel
theorem dX8_withAll_36 : decode cX8_withAll 36 = .ok (.iload_n 2, 1) := by decide +kernel
theorem dX8_withAll_37 : decode cX8_withAll 37 = .ok (.ireturn, 1) := by decide +kernel
set_option maxRecDepth 20000 in
theorem ggX8_topic_X8_in : GoodIn wsX8_topic wsX8_in := goodIn_r _ [8] (by decide +kernel) (by decide +kernel)
set_option maxRecDepth 20000 in
theorem gX8_topic_X8_in : GoodIn wsX8_topic (va_wsS RX8 69 yX8_in wsX8_in) := goodIn_app (goodIn_of _ (by decide +kernel)) ggX8_topic_X8_in
set_option maxRecDepth 20000 in
theorem ggX8_topic_X8_areBits : GoodIn wsX8_topic wsX8_areBits := goodIn_r _ [12, 2, 5, 6, 7, 8, 17, 18, 19, 20, 21, 22, 23, 24, 25, 26, 27, 28, 29, 30, 31, 32, 33, 34, 35, 36, 37, 38, 39, 40] (by decide +kernel) (by decide +kernel)
set_option maxRecDepth 20000 in
theorem gX8_topic_X8_areBits : GoodIn wsX8_topic (wsV RX8 76 RX8 yX8_areBits wsX8_areBits) := goodIn_app (goodIn_of _ (by decide +kernel)) ggX8_topic_X8_areBits
set_option maxRecDepth 20000 in
theorem ggX8_topic_X8_withAll : GoodIn wsX8_topic wsX8_withAll := goodIn_r _ [16, 2, 4, 17, 18, 19, 20, 21, 22, 23, 24, 25, 26, 27, 28, 29, 30, 31, 32, 33, 34, 35, 36, 37, 38, 39, 40] (by decide +kernel) (by decide +kernel)
set_option maxRecDepth 20000 in
theorem gX8_topic_X8_withAll : GoodIn wsX8_topic (wsV RX8 80 RX8 yX8_withAll wsX8_withAll) := goodIn_app (goodIn_of _ (by decide +kernel)) ggX8_topic_X8_withAll
theorem dX8_topic_0 : decode cX8_topic 0 = .ok (.aload_n 0, 1) := by decide +kernel
theorem dX8_topic_1 : decode cX8_topic 1 = .ok (.iconst 0, 1) := by decide +kernel
theorem dX8_topic_2 : decode cX8_topic 2 = .ok (.putfield 63, 3) := by decide +kernel
theorem dX8_topic_5 : decode cX8_topic 5 = .ok (.iload_n 1, 1) := by decide +kernel
theorem dX8_topic_6 : decode cX8_topic 6 = .ok (.iconst 0, 1) := by decide +kernel
theorem dX8_topic_7 : decode cX8_topic 7 = .ok (.bipush 9, 2) := by decide +kernel
theorem dX8_topic_9 : decode cX8_topic 9 = .ok (.invokestatic 69, 3) := by decide +kernel
theorem dX8_topic_12 : decode cX8_topic 12 = .ok (.ifCond .eq 20, 3) := by decide +kernel
theorem dX8_topic_15 : decode cX8_topic 15 = .ok (.aload_n 0, 1) := by decide +kernel
theorem dX8_topic_16 : decode cX8_topic 16 = .ok (.iload_n 2, 1) := by decide +kernel
theorem dX8_topic_17 : decode cX8_topic 17 = .ok (.invokevirtual 76, 3) := by decide +kernel
theorem dX8_topic_20 : decode cX8_topic 20 = .ok (.ifCond .eq 12, 3) := by decide +kernel
theorem dX8_topic_23 : decode cX8_topic 23 = .ok (.aload_n 0, 1) := by decide +kernel
theorem dX8_topic_24 : decode cX8_topic 24 = .ok (.getfield 66, 3) := by decide +kernel
theorem dX8_topic_27 : decode cX8_topic 27 = .ok (.bipush 12, 2) := by decide +kernel
theorem dX8_topic_29 : decode cX8_topic 29 = .ok (.if_icmp .ne 5, 3) := by decide +kernel
theorem dX8_topic_32 : decode cX8_topic 32 = .ok (.iconst (-1), 1) := by decide +kernel
theorem dX8_topic_33 : decode cX8_topic 33 = .ok (.ireturn, 1) := by decide +kernel
theorem dX8_topic_34 : decode cX8_topic 34 = .ok (.aload_n 0, 1) := by decide +kernel
theorem dX8_topic_35 : decode cX8_topic 35 = .ok (.getfield 9, 3) := by decide +kernel
theorem dX8_topic_38 : decode cX8_topic 38 = .ok (.aload_n 0, 1) := by decide +kernel
theorem dX8_topic_39 : decode cX8_topic 39 = .ok (.getfield 66, 3) := by decide +kernel
theorem dX8_topic_42 : decode cX8_topic 42 = .ok (.iload_n 1, 1) := by decide +kernel
theorem dX8_topic_43 : decode cX8_topic 43 = .ok (.iastore, 1) := by decide +kernel
theorem dX8_topic_44 : decode cX8_topic 44 = .ok (.aload_n 0, 1) := by decide +kernel
theorem dX8_topic_45 : decode cX8_topic 45 = .ok (.getfield 13, 3) := by decide +kernel
theorem dX8_topic_48 : decode cX8_topic 48 = .ok (.aload_n 0, 1) := by decide +kernel
theorem dX8_topic_49 : decode cX8_topic 49 = .ok (.getfield 66, 3) := by decide +kernel
theorem dX8_topic_52 : decode cX8_topic 52 = .ok (.aload_n 0, 1) := by decide +kernel
theorem dX8_topic_53 : decode cX8_topic 53 = .ok (.iload_n 2, 1) := by decide +kernel
theorem dX8_topic_54 : decode cX8_topic 54 = .ok (.invokevirtual 80, 3) := by decide +kernel
theorem dX8_topic_57 : decode cX8_topic 57 = .ok (.iastore, 1) := by decide +kernel
theorem dX8_topic_58 : decode cX8_topic 58 = .ok (.aload_n 0, 1) := by decide +kernel
theorem dX8_topic_59 : decode cX8_topic 59 = .ok (.dup, 1) := by decide +kernel
theorem dX8_topic_60 : decode cX8_topic 60 = .ok (.getfield 66, 3) := by decide +kernel
theorem dX8_topic_63 : decode cX8_topic 63 = .ok (.iconst 1, 1) := by decide +kernel
theorem dX8_topic_64 : decode cX8_topic 64 = .ok (.iadd, 1) := by decide +kernel
theorem dX8_topic_65 : decode cX8_topic 65 = .ok (.putfield 66, 3) := by decide +kernel
theorem dX8_topic_68 : decode cX8_topic 68 = .ok (.aload_n 0, 1) := by decide +kernel
theorem dX8_topic_69 : decode cX8_topic 69 = .ok (.getfield 66, 3) := by decide +kernel
theorem dX8_topic_72 : decode cX8_topic 72 = .ok (.iconst 1, 1) := by decide +kernel
theorem dX8_topic_73 : decode cX8_topic 73 = .ok (.isub, 1) := by decide +kernel
theorem dX8_topic_74 : decode cX8_topic 74 = .ok (.ireturn, 1) := by decide +kernel
set_option maxRecDepth 20000 in
theorem ggX8_piece_X8_areBits : GoodIn wsX8_piece wsX8_areBits := goodIn_r _ [12, 13, 14, 15, 11, 16, 17, 18, 19, 20, 21, 22, 23, 24, 25, 26, 27, 28, 29, 30, 31, 32, 33, 34, 35, 36, 37, 38, 39, 40] (by decide +kernel) (by decide +kernel)
set_option maxRecDepth 20000 in
theorem gX8_piece_X8_areBits : GoodIn wsX8_piece (wsV RX8 76 RX8 yX8_areBits wsX8_areBits) := goodIn_app (goodIn_of _ (by decide +kernel)) ggX8_piece_X8_areBits
set_option maxRecDepth 20000 in
theorem ggX8_piece_X8_in : GoodIn wsX8_piece wsX8_in := goodIn_r _ [16] (by decide +kernel) (by decide +kernel)
set_option maxRecDepth 20000 in
theorem gX8_piece_X8_in : GoodIn wsX8_piece (va_wsS RX8 69 yX8_in wsX8_in) := goodIn_app (goodIn_of _ (by decide +kernel)) ggX8_piece_X8_in
theorem dX8_piece_0 : decode cX8_piece 0 = .ok (.aload_n 0, 1) := by decide +kernel
theorem dX8_piece_1 : decode cX8_piece 1 = .ok (.iconst 0, 1) := by decide +kernel
theorem dX8_piece_2 : decode cX8_piece 2 = .ok (.putfield 63, 3) := by decide +kernel
theorem dX8_piece_5 : decode cX8_piece 5 = .ok (.aload_n 0, 1) := by decide +kernel
theorem dX8_piece_6 : decode cX8_piece 6 = .ok (.iload_n 1, 1) := by decide +kernel
theorem dX8_piece_7 : decode cX8_piece 7 = .ok (.invokevirtual 76, 3) := by decide +kernel
theorem dX8_piece_10 : decode cX8_piece 10 = .ok (.ifCond .eq 62, 3) := by decide +kernel
theorem dX8_piece_13 : decode cX8_piece 13 = .ok (.aload_n 0, 1) := by decide +kernel
theorem dX8_piece_14 : decode cX8_piece 14 = .ok (.iload_n 2, 1) := by decide +kernel
theorem dX8_piece_15 : decode cX8_piece 15 = .ok (.invokevirtual 76, 3) := by decide +kernel
theorem dX8_piece_18 : decode cX8_piece 18 = .ok (.ifCond .eq 54, 3) := by decide +kernel
theorem dX8_piece_21 : decode cX8_piece 21 = .ok (.aload_n 0, 1) := by decide +kernel
theorem dX8_piece_22 : decode cX8_piece 22 = .ok (.iload_n 3, 1) := by decide +kernel
theorem dX8_piece_23 : decode cX8_piece 23 = .ok (.invokevirtual 76, 3) := by decide +kernel
theorem dX8_piece_26 : decode cX8_piece 26 = .ok (.ifCond .eq 46, 3) := by decide +kernel
theorem dX8_piece_29 : decode cX8_piece 29 = .ok (.aload_n 0, 1) := by decide +kernel
theorem dX8_piece_30 : decode cX8_piece 30 = .ok (.iload 4, 2) := by decide +kernel
theorem dX8_piece_32 : decode cX8_piece 32 = .ok (.invokevirtual 76, 3) := by decide +kernel
theorem dX8_piece_35 : decode cX8_piece 35 = .ok (.ifCond .eq 37, 3) := by decide +kernel
theorem dX8_piece_38 : decode cX8_piece 38 = .ok (.iload_n 3, 1) := by decide +kernel
theorem dX8_piece_39 : decode cX8_piece 39 = .ok (.ifCond .eq 33, 3) := by decide +kernel
theorem dX8_piece_42 : decode cX8_piece 42 = .ok (.iload 4, 2) := by decide +kernel
theorem dX8_piece_44 : decode cX8_piece 44 = .ok (.iload_n 3, 1) := by decide +kernel
theorem dX8_piece_45 : decode cX8_piece 45 = .ok (.iconst (-1), 1) := by decide +kernel
theorem dX8_piece_46 : decode cX8_piece 46 = .ok (.ixor, 1) := by decide +kernel
theorem dX8_piece_47 : decode cX8_piece 47 = .ok (.iand, 1) := by decide +kernel
theorem dX8_piece_48 : decode cX8_piece 48 = .ok (.ifCond .ne 24, 3) := by decide +kernel
theorem dX8_piece_51 : decode cX8_piece 51 = .ok (.iload 5, 2) := by decide +kernel
theorem dX8_piece_53 : decode cX8_piece 53 = .ok (.iconst 1, 1) := by decide +kernel
theorem dX8_piece_54 : decode cX8_piece 54 = .ok (.sipush 400, 3) := by decide +kernel
theorem dX8_piece_57 : decode cX8_piece 57 = .ok (.invokestatic 69, 3) := by decide +kernel
theorem dX8_piece_60 : decode cX8_piece 60 = .ok (.ifCond .eq 12, 3) := by decide +kernel
theorem dX8_piece_63 : decode cX8_piece 63 = .ok (.aload_n 0, 1) := by decide +kernel
theorem dX8_piece_64 : decode cX8_piece 64 = .ok (.getfield 73, 3) := by decide +kernel
theorem dX8_piece_67 : decode cX8_piece 67 = .ok (.bipush 14, 2) := by decide +kernel
theorem dX8_piece_69 : decode cX8_piece 69 = .ok (.if_icmp .ne 5, 3) := by decide +kernel
theorem dX8_piece_72 : decode cX8_piece 72 = .ok (.iconst (-1), 1) := by decide +kernel
theorem dX8_piece_73 : decode cX8_piece 73 = .ok (.ireturn, 1) := by decide +kernel
theorem dX8_piece_74 : decode cX8_piece 74 = .ok (.aload_n 0, 1) := by decide +kernel
theorem dX8_piece_75 : decode cX8_piece 75 = .ok (.getfield 16, 3) := by decide +kernel
theorem dX8_piece_78 : decode cX8_piece 78 = .ok (.aload_n 0, 1) := by decide +kernel
theorem dX8_piece_79 : decode cX8_piece 79 = .ok (.getfield 73, 3) := by decide +kernel
theorem dX8_piece_82 : decode cX8_piece 82 = .ok (.iload_n 1, 1) := by decide +kernel
theorem dX8_piece_83 : decode cX8_piece 83 = .ok (.iastore, 1) := by decide +kernel
theorem dX8_piece_84 : decode cX8_piece 84 = .ok (.aload_n 0, 1) := by decide +kernel
theorem dX8_piece_85 : decode cX8_piece 85 = .ok (.getfield 19, 3) := by decide +kernel
theorem dX8_piece_88 : decode cX8_piece 88 = .ok (.aload_n 0, 1) := by decide +kernel
theorem dX8_piece_89 : decode cX8_piece 89 = .ok (.getfield 73, 3) := by decide +kernel
theorem dX8_piece_92 : decode cX8_piece 92 = .ok (.iload_n 2, 1) := by decide +kernel
theorem dX8_piece_93 : decode cX8_piece 93 = .ok (.iastore, 1) := by decide +kernel
theorem dX8_piece_94 : decode cX8_piece 94 = .ok (.aload_n 0, 1) := by decide +kernel
theorem dX8_piece_95 : decode cX8_piece 95 = .ok (.getfield 22, 3) := by decide +kernel
theorem dX8_piece_98 : decode cX8_piece 98 = .ok (.aload_n 0, 1) := by decide +kernel
theorem dX8_piece_99 : decode cX8_piece 99 = .ok (.getfield 73, 3) := by decide +kernel
theorem dX8_piece_102 : decode cX8_piece 102 = .ok (.iload_n 3, 1) := by decide +kernel
theorem dX8_piece_103 : decode cX8_piece 103 = .ok (.iastore, 1) := by decide +kernel
theorem dX8_piece_104 : decode cX8_piece 104 = .ok (.aload_n 0, 1) := by decide +kernel
theorem dX8_piece_105 : decode cX8_piece 105 = .ok (.getfield 25, 3) := by decide +kernel
theorem dX8_piece_108 : decode cX8_piece 108 = .ok (.aload_n 0, 1) := by decide +kernel
theorem dX8_piece_109 : decode cX8_piece 109 = .ok (.getfield 73, 3) := by decide +kernel
theorem dX8_piece_112 : decode cX8_piece 112 = .ok (.iload 4, 2) := by decide +kernel
theorem dX8_piece_114 : decode cX8_piece 114 = .ok (.iastore, 1) := by decide +kernel
theorem dX8_piece_115 : decode cX8_piece 115 = .ok (.aload_n 0, 1) := by decide +kernel
theorem dX8_piece_116 : decode cX8_piece 116 = .ok (.getfield 28, 3) := by decide +kernel
theorem dX8_piece_119 : decode cX8_piece 119 = .ok (.aload_n 0, 1) := by decide +kernel
theorem dX8_piece_120 : decode cX8_piece 120 = .ok (.getfield 73, 3) := by decide +kernel
theorem dX8_piece_123 : decode cX8_piece 123 = .ok (.iload 5, 2) := by decide +kernel
theorem dX8_piece_125 : decode cX8_piece 125 = .ok (.iastore, 1) := by decide +kernel
theorem dX8_piece_126 : decode cX8_piece 126 = .ok (.aload_n 0, 1) := by decide +kernel
theorem dX8_piece_127 : decode cX8_piece 127 = .ok (.dup, 1) := by decide +kernel
theorem dX8_piece_128 : decode cX8_piece 128 = .ok (.getfield 73, 3) := by decide +kernel
theorem dX8_piece_131 : decode cX8_piece 131 = .ok (.iconst 1, 1) := by decide +kernel
theorem dX8_piece_132 : decode cX8_piece 132 = .ok (.iadd, 1) := by decide +kernel
theorem dX8_piece_133 : decode cX8_piece 133 = .ok (.putfield 73, 3) := by decide +kernel
theorem dX8_piece_136 : decode cX8_piece 136 = .ok (.aload_n 0, 1) := by decide +kernel
theorem dX8_piece_137 : decode cX8_piece 137 = .ok (.getfield 73, 3) := by decide +kernel
theorem dX8_piece_140 : decode cX8_piece 140 = .ok (.iconst 1, 1) := by decide +kernel
theorem dX8_piece_141 : decode cX8_piece 141 = .ok (.isub, 1) := by decide +kernel
theorem dX8_piece_142 : decode cX8_piece 142 = .ok (.ireturn, 1) := by decide +kernel
theorem dX8_drop_0 : decode cX8_drop 0 = .ok (.aload_n 0, 1) := by decide +kernel
theorem dX8_drop_1 : decode cX8_drop 1 = .ok (.iconst 0, 1) := by decide +kernel
theorem dX8_drop_2 : decode cX8_drop 2 = .ok (.putfield 63, 3) := by decide +kernel
theorem dX8_drop_5 : decode cX8_drop 5 = .ok (.aload_n 0, 1) := by decide +kernel
theorem dX8_drop_6 : decode cX8_drop 6 = .ok (.getfield 73, 3) := by decide +kernel
theorem dX8_drop_9 : decode cX8_drop 9 = .ok (.ifCond .ne 5, 3) := by decide +kernel
theorem dX8_drop_12 : decode cX8_drop 12 = .ok (.iconst (-1), 1) := by decide +kernel
theorem dX8_drop_13 : decode cX8_drop 13 = .ok (.ireturn, 1) := by decide +kernel
theorem dX8_drop_14 : decode cX8_drop 14 = .ok (.aload_n 0, 1) := by decide +kernel
theorem dX8_drop_15 : decode cX8_drop 15 = .ok (.dup, 1) := by decide +kernel
theorem dX8_drop_16 : decode cX8_drop 16 = .ok (.getfield 73, 3) := by decide +kernel
theorem dX8_drop_19 : decode cX8_drop 19 = .ok (.iconst 1, 1) := by decide +kernel
theorem dX8_drop_20 : decode cX8_drop 20 = .ok (.isub, 1) := by decide +kernel
theorem dX8_drop_21 : decode cX8_drop 21 = .ok (.putfield 73, 3) := by decide +kernel
theorem dX8_drop_24 : decode cX8_drop 24 = .ok (.aload_n 0, 1) := by decide +kernel
theorem dX8_drop_25 : decode cX8_drop 25 = .ok (.getfield 73, 3) := by decide +kernel
theorem dX8_drop_28 : decode cX8_drop 28 = .ok (.ireturn, 1) := by decide +kernel
set_option maxRecDepth 20000 in
theorem ggX8_pace_X8_in : GoodIn wsX8_pace wsX8_in := goodIn_r _ [6] (by decide +kernel) (by decide +kernel)
set_option maxRecDepth 20000 in
theorem gX8_pace_X8_in : GoodIn wsX8_pace (va_wsS RX8 69 yX8_in wsX8_in) := goodIn_app (goodIn_of _ (by decide +kernel)) ggX8_pace_X8_in
theorem dX8_pace_0 : decode cX8_pace 0 = .ok (.aload_n 0, 1) := by decide +kernel
theorem dX8_pace_1 : decode cX8_pace 1 = .ok (.iconst 0, 1) := by decide +kernel
theorem dX8_pace_2 : decode cX8_pace 2 = .ok (.putfield 63, 3) := by decide +kernel
theorem dX8_pace_5 : decode cX8_pace 5 = .ok (.iload_n 1, 1) := by decide +kernel
theorem dX8_pace_6 : decode cX8_pace 6 = .ok (.iconst 1, 1) := by decide +kernel
theorem dX8_pace_7 : decode cX8_pace 7 = .ok (.bipush 10, 2) := by decide +kernel
theorem dX8_pace_9 : decode cX8_pace 9 = .ok (.invokestatic 69, 3) := by decide +kernel
theorem dX8_pace_12 : decode cX8_pace 12 = .ok (.ifCond .ne 5, 3) := by decide +kernel
theorem dX8_pace_15 : decode cX8_pace 15 = .ok (.iconst (-1), 1) := by decide +kernel
theorem dX8_pace_16 : decode cX8_pace 16 = .ok (.ireturn, 1) := by decide +kernel
theorem dX8_pace_17 : decode cX8_pace 17 = .ok (.aload_n 0, 1) := by decide +kernel
theorem dX8_pace_18 : decode cX8_pace 18 = .ok (.getfield 31, 3) := by decide +kernel
theorem dX8_pace_21 : decode cX8_pace 21 = .ok (.istore_n 2, 1) := by decide +kernel
theorem dX8_pace_22 : decode cX8_pace 22 = .ok (.aload_n 0, 1) := by decide +kernel
theorem dX8_pace_23 : decode cX8_pace 23 = .ok (.iload_n 1, 1) := by decide +kernel
theorem dX8_pace_24 : decode cX8_pace 24 = .ok (.putfield 31, 3) := by decide +kernel
theorem dX8_pace_27 : decode cX8_pace 27 = .ok (.iload_n 2, 1) := by decide +kernel
theorem dX8_pace_28 : decode cX8_pace 28 = .ok (.ireturn, 1) := by decide +kernel
set_option maxRecDepth 20000 in
theorem ggX8_know_X8_areBits : GoodIn wsX8_know wsX8_areBits := goodIn_r _ [7, 8, 9, 10, 6, 11, 17, 18, 19, 20, 21, 22, 23, 24, 25, 26, 27, 28, 29, 30, 31, 32, 33, 34, 35, 36, 37, 38, 39, 40] (by decide +kernel) (by decide +kernel)
set_option maxRecDepth 20000 in
theorem gX8_know_X8_areBits : GoodIn wsX8_know (wsV RX8 76 RX8 yX8_areBits wsX8_areBits) := goodIn_app (goodIn_of _ (by decide +kernel)) ggX8_know_X8_areBits
set_option maxRecDepth 20000 in
theorem ggX8_know_X8_withAll : GoodIn wsX8_know wsX8_withAll := goodIn_r _ [15, 8, 16, 17, 18, 19, 20, 21, 22, 23, 24, 25, 26, 27, 28, 29, 30, 31, 32, 33, 34, 35, 36, 37, 38, 39, 40] (by decide +kernel) (by decide +kernel)
set_option maxRecDepth 20000 in
theorem gX8_know_X8_withAll : GoodIn wsX8_know (wsV RX8 80 RX8 yX8_withAll wsX8_withAll) := goodIn_app (goodIn_of _ (by decide +kernel)) ggX8_know_X8_withAll
theorem dX8_know_0 : decode cX8_know 0 = .ok (.aload_n 0, 1) := by decide +kernel
theorem dX8_know_1 : decode cX8_know 1 = .ok (.iconst 0, 1) := by decide +kernel
theorem dX8_know_2 : decode cX8_know 2 = .ok (.putfield 63, 3) := by decide +kernel
theorem dX8_know_5 : decode cX8_know 5 = .ok (.aload_n 0, 1) := by decide +kernel
theorem dX8_know_6 : decode cX8_know 6 = .ok (.iload_n 1, 1) := by decide +kernel
theorem dX8_know_7 : decode cX8_know 7 = .ok (.invokevirtual 76, 3) := by decide +kernel
theorem dX8_know_10 : decode cX8_know 10 = .ok (.ifCond .ne 5, 3) := by decide +kernel
theorem dX8_know_13 : decode cX8_know 13 = .ok (.iconst (-1), 1) := by decide +kernel
theorem dX8_know_14 : decode cX8_know 14 = .ok (.ireturn, 1) := by decide +kernel
theorem dX8_know_15 : decode cX8_know 15 = .ok (.aload_n 0, 1) := by decide +kernel
theorem dX8_know_16 : decode cX8_know 16 = .ok (.aload_n 0, 1) := by decide +kernel
theorem dX8_know_17 : decode cX8_know 17 = .ok (.iload_n 1, 1) := by decide +kernel
theorem dX8_know_18 : decode cX8_know 18 = .ok (.invokevirtual 80, 3) := by decide +kernel
theorem dX8_know_21 : decode cX8_know 21 = .ok (.putfield 84, 3) := by decide +kernel
theorem dX8_know_24 : decode cX8_know 24 = .ok (.aload_n 0, 1) := by decide +kernel
theorem dX8_know_25 : decode cX8_know 25 = .ok (.getfield 84, 3) := by decide +kernel
theorem dX8_know_28 : decode cX8_know 28 = .ok (.ireturn, 1) := by decide +kernel
theorem dX8_worthOf_0 : decode cX8_worthOf 0 = .ok (.iconst 0, 1) := by decide +kernel
theorem dX8_worthOf_1 : decode cX8_worthOf 1 = .ok (.istore_n 2, 1) := by decide +kernel
theorem dX8_worthOf_2 : decode cX8_worthOf 2 = .ok (.iconst 0, 1) := by decide +kernel
theorem dX8_worthOf_3 : decode cX8_worthOf 3 = .ok (.istore_n 3, 1) := by decide +kernel
theorem dX8_worthOf_4 : decode cX8_worthOf 4 = .ok (.iload_n 3, 1) := by decide +kernel
theorem dX8_worthOf_5 : decode cX8_worthOf 5 = .ok (.aload_n 0, 1) := by decide +kernel
theorem dX8_worthOf_6 : decode cX8_worthOf 6 = .ok (.getfield 66, 3) := by decide +kernel
theorem dX8_worthOf_9 : decode cX8_worthOf 9 = .ok (.if_icmp .ge 27, 3) := by decide +kernel
theorem dX8_worthOf_12 : decode cX8_worthOf 12 = .ok (.iload_n 1, 1) := by decide +kernel
theorem dX8_worthOf_13 : decode cX8_worthOf 13 = .ok (.iload_n 3, 1) := by decide +kernel
theorem dX8_worthOf_14 : decode cX8_worthOf 14 = .ok (.ishr, 1) := by decide +kernel
theorem dX8_worthOf_15 : decode cX8_worthOf 15 = .ok (.iconst 1, 1) := by decide +kernel
theorem dX8_worthOf_16 : decode cX8_worthOf 16 = .ok (.iand, 1) := by decide +kernel
theorem dX8_worthOf_17 : decode cX8_worthOf 17 = .ok (.iconst 1, 1) := by decide +kernel
theorem dX8_worthOf_18 : decode cX8_worthOf 18 = .ok (.if_icmp .ne 12, 3) := by decide +kernel
theorem dX8_worthOf_21 : decode cX8_worthOf 21 = .ok (.iload_n 2, 1) := by decide +kernel
theorem dX8_worthOf_22 : decode cX8_worthOf 22 = .ok (.aload_n 0, 1) := by decide +kernel
theorem dX8_worthOf_23 : decode cX8_worthOf 23 = .ok (.getfield 9, 3) := by decide +kernel
theorem dX8_worthOf_26 : decode cX8_worthOf 26 = .ok (.iload_n 3, 1) := by decide +kernel
theorem dX8_worthOf_27 : decode cX8_worthOf 27 = .ok (.iaload, 1) := by decide +kernel
theorem dX8_worthOf_28 : decode cX8_worthOf 28 = .ok (.iadd, 1) := by decide +kernel
theorem dX8_worthOf_29 : decode cX8_worthOf 29 = .ok (.istore_n 2, 1) := by decide +kernel
theorem dX8_worthOf_30 : decode cX8_worthOf 30 = .ok (.iinc 3 1, 3) := by decide +kernel
theorem dX8_worthOf_33 : decode cX8_worthOf 33 = .ok (.goto (-29), 3) := by decide +kernel
theorem dX8_worthOf_36 : decode cX8_worthOf 36 = .ok (.iload_n 2, 1) := by decide +kernel
theorem dX8_worthOf_37 : decode cX8_worthOf 37 = .ok (.ireturn, 1) := by decide +kernel
set_option maxRecDepth 20000 in
theorem ggX8_count_X8_worthOf : GoodIn wsX8_count wsX8_worthOf := goodIn_r _ [11, 2, 12, 13, 14, 15, 16, 17, 18, 19, 20, 21, 22, 23, 24, 25, 26, 27, 28, 29, 30, 31, 32, 33, 34, 35, 36] (by decide +kernel) (by decide +kernel)
set_option maxRecDepth 20000 in
theorem gX8_count_X8_worthOf : GoodIn wsX8_count (wsV RX8 87 RX8 yX8_worthOf wsX8_worthOf) := goodIn_app (goodIn_of _ (by decide +kernel)) ggX8_count_X8_worthOf
theorem dX8_count_0 : decode cX8_count 0 = .ok (.aload_n 0, 1) := by decide +kernel
theorem dX8_count_1 : decode cX8_count 1 = .ok (.iconst 0, 1) := by decide +kernel
theorem dX8_count_2 : decode cX8_count 2 = .ok (.putfield 63, 3) := by decide +kernel
theorem dX8_count_5 : decode cX8_count 5 = .ok (.iload_n 1, 1) := by decide +kernel
theorem dX8_count_6 : decode cX8_count 6 = .ok (.tableswitch 72 0 5 #[38, 43, 48, 53, 58, 67], 38) := by decide +kernel
theorem dX8_count_44 : decode cX8_count 44 = .ok (.aload_n 0, 1) := by decide +kernel
theorem dX8_count_45 : decode cX8_count 45 = .ok (.getfield 66, 3) := by decide +kernel
theorem dX8_count_48 : decode cX8_count 48 = .ok (.ireturn, 1) := by decide +kernel
theorem dX8_count_49 : decode cX8_count 49 = .ok (.aload_n 0, 1) := by decide +kernel
theorem dX8_count_50 : decode cX8_count 50 = .ok (.getfield 73, 3) := by decide +kernel
theorem dX8_count_53 : decode cX8_count 53 = .ok (.ireturn, 1) := by decide +kernel
theorem dX8_count_54 : decode cX8_count 54 = .ok (.aload_n 0, 1) := by decide +kernel
theorem dX8_count_55 : decode cX8_count 55 = .ok (.getfield 84, 3) := by decide +kernel
theorem dX8_count_58 : decode cX8_count 58 = .ok (.ireturn, 1) := by decide +kernel
theorem dX8_count_59 : decode cX8_count 59 = .ok (.aload_n 0, 1) := by decide +kernel
theorem dX8_count_60 : decode cX8_count 60 = .ok (.getfield 31, 3) := by decide +kernel
theorem dX8_count_63 : decode cX8_count 63 = .ok (.ireturn, 1) := by decide +kernel
theorem dX8_count_64 : decode cX8_count 64 = .ok (.aload_n 0, 1) := by decide +kernel
theorem dX8_count_65 : decode cX8_count 65 = .ok (.aload_n 0, 1) := by decide +kernel
theorem dX8_count_66 : decode cX8_count 66 = .ok (.getfield 84, 3) := by decide +kernel
theorem dX8_count_69 : decode cX8_count 69 = .ok (.invokevirtual 87, 3) := by decide +kernel
theorem dX8_count_72 : decode cX8_count 72 = .ok (.ireturn, 1) := by decide +kernel
theorem dX8_count_73 : decode cX8_count 73 = .ok (.aload_n 0, 1) := by decide +kernel
theorem dX8_count_74 : decode cX8_count 74 = .ok (.getfield 90, 3) := by decide +kernel
theorem dX8_count_77 : decode cX8_count 77 = .ok (.ireturn, 1) := by decide +kernel
theorem dX8_count_78 : decode cX8_count 78 = .ok (.iconst (-1), 1) := by decide +kernel
theorem dX8_count_79 : decode cX8_count 79 = .ok (.ireturn, 1) := by decide +kernel
set_option maxRecDepth 20000 in
theorem ggX8_with_X8_areBits : GoodIn wsX8_with wsX8_areBits := goodIn_r _ [6, 7, 8, 9, 5, 10, 16, 17, 18, 19, 20, 21, 22, 23, 24, 25, 26, 27, 28, 29, 30, 31, 32, 33, 34, 35, 36, 37, 38, 39] (by decide +kernel) (by decide +kernel)
set_option maxRecDepth 20000 in
theorem gX8_with_X8_areBits : GoodIn wsX8_with (wsV RX8 76 RX8 yX8_areBits wsX8_areBits) := goodIn_app (goodIn_of _ (by decide +kernel)) ggX8_with_X8_areBits
set_option maxRecDepth 20000 in
theorem ggX8_with_X8_withAll : GoodIn wsX8_with wsX8_withAll := goodIn_r _ [14, 7, 15, 16, 17, 18, 19, 20, 21, 22, 23, 24, 25, 26, 27, 28, 29, 30, 31, 32, 33, 34, 35, 36, 37, 38, 39] (by decide +kernel) (by decide +kernel)
set_option maxRecDepth 20000 in
theorem gX8_with_X8_withAll : GoodIn wsX8_with (wsV RX8 80 RX8 yX8_withAll wsX8_withAll) := goodIn_app (goodIn_of _ (by decide +kernel)) ggX8_with_X8_withAll
theorem dX8_with_0 : decode cX8_with 0 = .ok (.aload_n 0, 1) := by decide +kernel
theorem dX8_with_1 : decode cX8_with 1 = .ok (.iconst 0, 1) := by decide +kernel
theorem dX8_with_2 : decode cX8_with 2 = .ok (.putfield 63, 3) := by decide +kernel
theorem dX8_with_5 : decode cX8_with 5 = .ok (.aload_n 0, 1) := by decide +kernel
theorem dX8_with_6 : decode cX8_with 6 = .ok (.iload_n 1, 1) := by decide +kernel
theorem dX8_with_7 : decode cX8_with 7 = .ok (.invokevirtual 76, 3) := by decide +kernel
theorem dX8_with_10 : decode cX8_with 10 = .ok (.ifCond .eq 11, 3) := by decide +kernel
theorem dX8_with_13 : decode cX8_with 13 = .ok (.aload_n 0, 1) := by decide +kernel
theorem dX8_with_14 : decode cX8_with 14 = .ok (.iload_n 1, 1) := by decide +kernel
theorem dX8_with_15 : decode cX8_with 15 = .ok (.invokevirtual 80, 3) := by decide +kernel
theorem dX8_with_18 : decode cX8_with 18 = .ok (.goto 4, 3) := by decide +kernel
theorem dX8_with_21 : decode cX8_with 21 = .ok (.iconst (-1), 1) := by decide +kernel
theorem dX8_with_22 : decode cX8_with 22 = .ok (.ireturn, 1) := by decide +kernel
theorem dX8_time_0 : decode cX8_time 0 = .ok (.aload_n 0, 1) := by decide +kernel
theorem dX8_time_1 : decode cX8_time 1 = .ok (.getfield 28, 3) := by decide +kernel
theorem dX8_time_4 : decode cX8_time 4 = .ok (.iload_n 1, 1) := by decide +kernel
theorem dX8_time_5 : decode cX8_time 5 = .ok (.iconst 2, 1) := by decide +kernel
theorem dX8_time_6 : decode cX8_time 6 = .ok (.idiv, 1) := by decide +kernel
theorem dX8_time_7 : decode cX8_time 7 = .ok (.iaload, 1) := by decide +kernel
theorem dX8_time_8 : decode cX8_time 8 = .ok (.aload_n 0, 1) := by decide +kernel
theorem dX8_time_9 : decode cX8_time 9 = .ok (.getfield 31, 3) := by decide +kernel
theorem dX8_time_12 : decode cX8_time 12 = .ok (.imul, 1) := by decide +kernel
theorem dX8_time_13 : decode cX8_time 13 = .ok (.istore_n 2, 1) := by decide +kernel
theorem dX8_time_14 : decode cX8_time 14 = .ok (.iload_n 1, 1) := by decide +kernel
theorem dX8_time_15 : decode cX8_time 15 = .ok (.iconst 2, 1) := by decide +kernel
theorem dX8_time_16 : decode cX8_time 16 = .ok (.irem, 1) := by decide +kernel
theorem dX8_time_17 : decode cX8_time 17 = .ok (.ifCond .ne 7, 3) := by decide +kernel
theorem dX8_time_20 : decode cX8_time 20 = .ok (.iload_n 2, 1) := by decide +kernel
theorem dX8_time_21 : decode cX8_time 21 = .ok (.goto 8, 3) := by decide +kernel
theorem dX8_time_24 : decode cX8_time 24 = .ok (.iload_n 2, 1) := by decide +kernel
theorem dX8_time_25 : decode cX8_time 25 = .ok (.iconst 2, 1) := by decide +kernel
theorem dX8_time_26 : decode cX8_time 26 = .ok (.iadd, 1) := by decide +kernel
theorem dX8_time_27 : decode cX8_time 27 = .ok (.iconst 3, 1) := by decide +kernel
theorem dX8_time_28 : decode cX8_time 28 = .ok (.idiv, 1) := by decide +kernel
theorem dX8_time_29 : decode cX8_time 29 = .ok (.ireturn, 1) := by decide +kernel
set_option maxRecDepth 20000 in
theorem ggX8_minutes_X8_isStep : GoodIn wsX8_minutes wsX8_isStep := goodIn_r _ [6, 7, 8, 9, 5, 10, 17, 18, 19, 20, 21, 22, 23, 24, 25, 26, 27, 28, 29, 30, 31, 32, 33, 34, 35, 36, 37, 38, 39, 40] (by decide +kernel) (by decide +kernel)
set_option maxRecDepth 20000 in
theorem gX8_minutes_X8_isStep : GoodIn wsX8_minutes (wsV RX8 93 RX8 yX8_isStep wsX8_isStep) := goodIn_app (goodIn_of _ (by decide +kernel)) ggX8_minutes_X8_isStep
set_option maxRecDepth 20000 in
theorem ggX8_minutes_X8_time : GoodIn wsX8_minutes wsX8_time := goodIn_r _ [14, 15, 16, 17, 18, 19, 20, 21, 22, 23, 24, 25, 26, 27, 28, 29, 30, 31, 32, 33, 34, 35, 36, 37, 38, 39, 40] (by decide +kernel) (by decide +kernel)
set_option maxRecDepth 20000 in
theorem gX8_minutes_X8_time : GoodIn wsX8_minutes (wsV RX8 96 RX8 yX8_time wsX8_time) := goodIn_app (goodIn_of _ (by decide +kernel)) ggX8_minutes_X8_time
theorem dX8_minutes_0 : decode cX8_minutes 0 = .ok (.aload_n 0, 1) := by decide +kernel
theorem dX8_minutes_1 : decode cX8_minutes 1 = .ok (.iconst 0, 1) := by decide +kernel
theorem dX8_minutes_2 : decode cX8_minutes 2 = .ok (.putfield 63, 3) := by decide +kernel
theorem dX8_minutes_5 : decode cX8_minutes 5 = .ok (.aload_n 0, 1) := by decide +kernel
theorem dX8_minutes_6 : decode cX8_minutes 6 = .ok (.iload_n 1, 1) := by decide +kernel
theorem dX8_minutes_7 : decode cX8_minutes 7 = .ok (.invokevirtual 93, 3) := by decide +kernel
theorem dX8_minutes_10 : decode cX8_minutes 10 = .ok (.ifCond .eq 11, 3) := by decide +kernel
theorem dX8_minutes_13 : decode cX8_minutes 13 = .ok (.aload_n 0, 1) := by decide +kernel
theorem dX8_minutes_14 : decode cX8_minutes 14 = .ok (.iload_n 1, 1) := by decide +kernel
theorem dX8_minutes_15 : decode cX8_minutes 15 = .ok (.invokevirtual 96, 3) := by decide +kernel
theorem dX8_minutes_18 : decode cX8_minutes 18 = .ok (.goto 4, 3) := by decide +kernel
theorem dX8_minutes_21 : decode cX8_minutes 21 = .ok (.iconst (-1), 1) := by decide +kernel
theorem dX8_minutes_22 : decode cX8_minutes 22 = .ok (.ireturn, 1) := by decide +kernel
theorem dX8_canDo_0 : decode cX8_canDo 0 = .ok (.iload_n 1, 1) := by decide +kernel
theorem dX8_canDo_1 : decode cX8_canDo 1 = .ok (.iconst 2, 1) := by decide +kernel
theorem dX8_canDo_2 : decode cX8_canDo 2 = .ok (.idiv, 1) := by decide +kernel
theorem dX8_canDo_3 : decode cX8_canDo 3 = .ok (.istore_n 3, 1) := by decide +kernel
theorem dX8_canDo_4 : decode cX8_canDo 4 = .ok (.aload_n 0, 1) := by decide +kernel
theorem dX8_canDo_5 : decode cX8_canDo 5 = .ok (.getfield 16, 3) := by decide +kernel
theorem dX8_canDo_8 : decode cX8_canDo 8 = .ok (.iload_n 3, 1) := by decide +kernel
theorem dX8_canDo_9 : decode cX8_canDo 9 = .ok (.iaload, 1) := by decide +kernel
theorem dX8_canDo_10 : decode cX8_canDo 10 = .ok (.iload_n 2, 1) := by decide +kernel
theorem dX8_canDo_11 : decode cX8_canDo 11 = .ok (.iconst (-1), 1) := by decide +kernel
theorem dX8_canDo_12 : decode cX8_canDo 12 = .ok (.ixor, 1) := by decide +kernel
theorem dX8_canDo_13 : decode cX8_canDo 13 = .ok (.iand, 1) := by decide +kernel
theorem dX8_canDo_14 : decode cX8_canDo 14 = .ok (.ifCond .ne 27, 3) := by decide +kernel
theorem dX8_canDo_17 : decode cX8_canDo 17 = .ok (.aload_n 0, 1) := by decide +kernel
theorem dX8_canDo_18 : decode cX8_canDo 18 = .ok (.getfield 19, 3) := by decide +kernel
theorem dX8_canDo_21 : decode cX8_canDo 21 = .ok (.iload_n 3, 1) := by decide +kernel
theorem dX8_canDo_22 : decode cX8_canDo 22 = .ok (.iaload, 1) := by decide +kernel
theorem dX8_canDo_23 : decode cX8_canDo 23 = .ok (.ifCond .eq 14, 3) := by decide +kernel
theorem dX8_canDo_26 : decode cX8_canDo 26 = .ok (.aload_n 0, 1) := by decide +kernel
theorem dX8_canDo_27 : decode cX8_canDo 27 = .ok (.getfield 19, 3) := by decide +kernel
theorem dX8_canDo_30 : decode cX8_canDo 30 = .ok (.iload_n 3, 1) := by decide +kernel
theorem dX8_canDo_31 : decode cX8_canDo 31 = .ok (.iaload, 1) := by decide +kernel
theorem dX8_canDo_32 : decode cX8_canDo 32 = .ok (.iload_n 2, 1) := by decide +kernel
theorem dX8_canDo_33 : decode cX8_canDo 33 = .ok (.iand, 1) := by decide +kernel
theorem dX8_canDo_34 : decode cX8_canDo 34 = .ok (.ifCond .eq 7, 3) := by decide +kernel
theorem dX8_canDo_37 : decode cX8_canDo 37 = .ok (.iconst 1, 1) := by decide +kernel
theorem dX8_canDo_38 : decode cX8_canDo 38 = .ok (.goto 4, 3) := by decide +kernel
theorem dX8_canDo_41 : decode cX8_canDo 41 = .ok (.iconst 0, 1) := by decide +kernel
theorem dX8_canDo_42 : decode cX8_canDo 42 = .ok (.ireturn, 1) := by decide +kernel
set_option maxRecDepth 20000 in
theorem ggX8_behind_X8_withAll : GoodIn wsX8_behind wsX8_withAll := goodIn_r _ [7, 8, 9, 10, 11, 12, 13, 14, 15, 16, 17, 18, 19, 20, 21, 22, 23, 24, 25, 26, 27, 28, 29, 30, 31, 32, 33] (by decide +kernel) (by decide +kernel)
set_option maxRecDepth 20000 in
theorem gX8_behind_X8_withAll : GoodIn wsX8_behind (wsV RX8 80 RX8 yX8_withAll wsX8_withAll) := goodIn_app (goodIn_of _ (by decide +kernel)) ggX8_behind_X8_withAll
theorem dX8_behind_0 : decode cX8_behind 0 = .ok (.iload_n 2, 1) := by decide +kernel
theorem dX8_behind_1 : decode cX8_behind 1 = .ok (.aload_n 0, 1) := by decide +kernel
theorem dX8_behind_2 : decode cX8_behind 2 = .ok (.iload_n 1, 1) := by decide +kernel
theorem dX8_behind_3 : decode cX8_behind 3 = .ok (.iconst 2, 1) := by decide +kernel
theorem dX8_behind_4 : decode cX8_behind 4 = .ok (.irem, 1) := by decide +kernel
theorem dX8_behind_5 : decode cX8_behind 5 = .ok (.ifCond .ne 14, 3) := by decide +kernel
theorem dX8_behind_8 : decode cX8_behind 8 = .ok (.aload_n 0, 1) := by decide +kernel
theorem dX8_behind_9 : decode cX8_behind 9 = .ok (.getfield 22, 3) := by decide +kernel
theorem dX8_behind_12 : decode cX8_behind 12 = .ok (.iload_n 1, 1) := by decide +kernel
theorem dX8_behind_13 : decode cX8_behind 13 = .ok (.iconst 2, 1) := by decide +kernel
theorem dX8_behind_14 : decode cX8_behind 14 = .ok (.idiv, 1) := by decide +kernel
theorem dX8_behind_15 : decode cX8_behind 15 = .ok (.iaload, 1) := by decide +kernel
theorem dX8_behind_16 : decode cX8_behind 16 = .ok (.goto 11, 3) := by decide +kernel
theorem dX8_behind_19 : decode cX8_behind 19 = .ok (.aload_n 0, 1) := by decide +kernel
theorem dX8_behind_20 : decode cX8_behind 20 = .ok (.getfield 25, 3) := by decide +kernel
theorem dX8_behind_23 : decode cX8_behind 23 = .ok (.iload_n 1, 1) := by decide +kernel
theorem dX8_behind_24 : decode cX8_behind 24 = .ok (.iconst 2, 1) := by decide +kernel
theorem dX8_behind_25 : decode cX8_behind 25 = .ok (.idiv, 1) := by decide +kernel
theorem dX8_behind_26 : decode cX8_behind 26 = .ok (.iaload, 1) := by decide +kernel
theorem dX8_behind_27 : decode cX8_behind 27 = .ok (.invokevirtual 80, 3) := by decide +kernel
theorem dX8_behind_30 : decode cX8_behind 30 = .ok (.ior, 1) := by decide +kernel
theorem dX8_behind_31 : decode cX8_behind 31 = .ok (.ireturn, 1) := by decide +kernel
set_option maxRecDepth 20000 in
theorem ggX8_can_X8_isStep : GoodIn wsX8_can wsX8_isStep := goodIn_r _ [7, 8, 9, 10, 6, 11, 18, 19, 20, 21, 22, 23, 24, 25, 26, 27, 28, 29, 30, 31, 32, 33, 34, 35, 36, 37, 38, 39, 40, 41] (by decide +kernel) (by decide +kernel)
set_option maxRecDepth 20000 in
theorem gX8_can_X8_isStep : GoodIn wsX8_can (wsV RX8 93 RX8 yX8_isStep wsX8_isStep) := goodIn_app (goodIn_of _ (by decide +kernel)) ggX8_can_X8_isStep
set_option maxRecDepth 20000 in
theorem ggX8_can_X8_canDo : GoodIn wsX8_can wsX8_canDo := goodIn_r _ [15, 16, 17, 18, 19, 20, 21, 22, 23, 24, 25, 26, 27, 28, 29, 30, 31, 32, 33, 34, 35, 36, 37, 38, 39, 40, 41] (by decide +kernel) (by decide +kernel)
set_option maxRecDepth 20000 in
theorem gX8_can_X8_canDo : GoodIn wsX8_can (wsV RX8 99 RX8 yX8_canDo wsX8_canDo) := goodIn_app (goodIn_of _ (by decide +kernel)) ggX8_can_X8_canDo
theorem dX8_can_0 : decode cX8_can 0 = .ok (.aload_n 0, 1) := by decide +kernel
theorem dX8_can_1 : decode cX8_can 1 = .ok (.iconst 0, 1) := by decide +kernel
theorem dX8_can_2 : decode cX8_can 2 = .ok (.putfield 63, 3) := by decide +kernel
theorem dX8_can_5 : decode cX8_can 5 = .ok (.aload_n 0, 1) := by decide +kernel
theorem dX8_can_6 : decode cX8_can 6 = .ok (.iload_n 1, 1) := by decide +kernel
theorem dX8_can_7 : decode cX8_can 7 = .ok (.invokevirtual 93, 3) := by decide +kernel
theorem dX8_can_10 : decode cX8_can 10 = .ok (.ifCond .eq 23, 3) := by decide +kernel
theorem dX8_can_13 : decode cX8_can 13 = .ok (.aload_n 0, 1) := by decide +kernel
theorem dX8_can_14 : decode cX8_can 14 = .ok (.iload_n 1, 1) := by decide +kernel
theorem dX8_can_15 : decode cX8_can 15 = .ok (.aload_n 0, 1) := by decide +kernel
theorem dX8_can_16 : decode cX8_can 16 = .ok (.getfield 84, 3) := by decide +kernel
theorem dX8_can_19 : decode cX8_can 19 = .ok (.invokevirtual 99, 3) := by decide +kernel
theorem dX8_can_22 : decode cX8_can 22 = .ok (.ifCond .eq 7, 3) := by decide +kernel
theorem dX8_can_25 : decode cX8_can 25 = .ok (.iconst 1, 1) := by decide +kernel
theorem dX8_can_26 : decode cX8_can 26 = .ok (.goto 8, 3) := by decide +kernel
theorem dX8_can_29 : decode cX8_can 29 = .ok (.iconst 0, 1) := by decide +kernel
theorem dX8_can_30 : decode cX8_can 30 = .ok (.goto 4, 3) := by decide +kernel
theorem dX8_can_33 : decode cX8_can 33 = .ok (.iconst (-1), 1) := by decide +kernel
theorem dX8_can_34 : decode cX8_can 34 = .ok (.ireturn, 1) := by decide +kernel
set_option maxRecDepth 20000 in
theorem ggX8_done_X8_isStep : GoodIn wsX8_done wsX8_isStep := goodIn_r _ [7, 8, 9, 10, 6, 11, 30, 31, 32, 33, 34, 35, 36, 37, 38, 39, 40, 41, 42, 43, 44, 45, 46, 47, 48, 49, 50, 51, 52, 53] (by decide +kernel) (by decide +kernel)
set_option maxRecDepth 20000 in
theorem gX8_done_X8_isStep : GoodIn wsX8_done (wsV RX8 93 RX8 yX8_isStep wsX8_isStep) := goodIn_app (goodIn_of _ (by decide +kernel)) ggX8_done_X8_isStep
set_option maxRecDepth 20000 in
theorem ggX8_done_X8_canDo : GoodIn wsX8_done wsX8_canDo := goodIn_r _ [15, 16, 17, 30, 31, 32, 33, 34, 35, 36, 37, 38, 39, 40, 41, 42, 43, 44, 45, 46, 47, 48, 49, 50, 51, 52, 53] (by decide +kernel) (by decide +kernel)
set_option maxRecDepth 20000 in
theorem gX8_done_X8_canDo : GoodIn wsX8_done (wsV RX8 99 RX8 yX8_canDo wsX8_canDo) := goodIn_app (goodIn_of _ (by decide +kernel)) ggX8_done_X8_canDo
set_option maxRecDepth 20000 in
theorem ggX8_done_X8_behind : GoodIn wsX8_done wsX8_behind := goodIn_r _ [21, 22, 23, 24, 25, 26, 6, 27, 28, 29, 30, 31, 32, 33, 34, 35, 36, 37, 38, 39, 40, 41, 42, 43, 44, 45, 46, 47, 48, 49, 50, 51, 52, 53] (by decide +kernel) (by decide +kernel)
set_option maxRecDepth 20000 in
theorem gX8_done_X8_behind : GoodIn wsX8_done (wsV RX8 103 RX8 yX8_behind wsX8_behind) := goodIn_app (goodIn_of _ (by decide +kernel)) ggX8_done_X8_behind
theorem dX8_done_0 : decode cX8_done 0 = .ok (.aload_n 0, 1) := by decide +kernel
theorem dX8_done_1 : decode cX8_done 1 = .ok (.iconst 0, 1) := by decide +kernel
theorem dX8_done_2 : decode cX8_done 2 = .ok (.putfield 63, 3) := by decide +kernel
theorem dX8_done_5 : decode cX8_done 5 = .ok (.aload_n 0, 1) := by decide +kernel
theorem dX8_done_6 : decode cX8_done 6 = .ok (.iload_n 1, 1) := by decide +kernel
theorem dX8_done_7 : decode cX8_done 7 = .ok (.invokevirtual 93, 3) := by decide +kernel
theorem dX8_done_10 : decode cX8_done 10 = .ok (.ifCond .eq 15, 3) := by decide +kernel
theorem dX8_done_13 : decode cX8_done 13 = .ok (.aload_n 0, 1) := by decide +kernel
theorem dX8_done_14 : decode cX8_done 14 = .ok (.iload_n 1, 1) := by decide +kernel
theorem dX8_done_15 : decode cX8_done 15 = .ok (.aload_n 0, 1) := by decide +kernel
theorem dX8_done_16 : decode cX8_done 16 = .ok (.getfield 84, 3) := by decide +kernel
theorem dX8_done_19 : decode cX8_done 19 = .ok (.invokevirtual 99, 3) := by decide +kernel
theorem dX8_done_22 : decode cX8_done 22 = .ok (.ifCond .ne 5, 3) := by decide +kernel
theorem dX8_done_25 : decode cX8_done 25 = .ok (.iconst (-1), 1) := by decide +kernel
theorem dX8_done_26 : decode cX8_done 26 = .ok (.ireturn, 1) := by decide +kernel
theorem dX8_done_27 : decode cX8_done 27 = .ok (.aload_n 0, 1) := by decide +kernel
theorem dX8_done_28 : decode cX8_done 28 = .ok (.aload_n 0, 1) := by decide +kernel
theorem dX8_done_29 : decode cX8_done 29 = .ok (.iload_n 1, 1) := by decide +kernel
theorem dX8_done_30 : decode cX8_done 30 = .ok (.aload_n 0, 1) := by decide +kernel
theorem dX8_done_31 : decode cX8_done 31 = .ok (.getfield 84, 3) := by decide +kernel
theorem dX8_done_34 : decode cX8_done 34 = .ok (.invokevirtual 103, 3) := by decide +kernel
theorem dX8_done_37 : decode cX8_done 37 = .ok (.putfield 84, 3) := by decide +kernel
theorem dX8_done_40 : decode cX8_done 40 = .ok (.aload_n 0, 1) := by decide +kernel
theorem dX8_done_41 : decode cX8_done 41 = .ok (.getfield 84, 3) := by decide +kernel
theorem dX8_done_44 : decode cX8_done 44 = .ok (.ireturn, 1) := by decide +kernel
set_option maxRecDepth 20000 in
theorem ggX8_newBehind_X8_canDo : GoodIn wsX8_newBehind wsX8_canDo := goodIn_r _ [6, 7, 8, 21, 22, 23, 24, 25, 26, 27, 28, 29, 30, 31, 32, 33, 34, 35, 36, 37, 38, 39, 40, 41, 42, 43, 44] (by decide +kernel) (by decide +kernel)
set_option maxRecDepth 20000 in
theorem gX8_newBehind_X8_canDo : GoodIn wsX8_newBehind (wsV RX8 99 RX8 yX8_canDo wsX8_canDo) := goodIn_app (goodIn_of _ (by decide +kernel)) ggX8_newBehind_X8_canDo
set_option maxRecDepth 20000 in
theorem ggX8_newBehind_X8_behind : GoodIn wsX8_newBehind wsX8_behind := goodIn_r _ [12, 13, 14, 15, 16, 17, 5, 18, 19, 20, 21, 22, 23, 24, 25, 26, 27, 28, 29, 30, 31, 32, 33, 34, 35, 36, 37, 38, 39, 40, 41, 42, 43, 44] (by decide +kernel) (by decide +kernel)
set_option maxRecDepth 20000 in
theorem gX8_newBehind_X8_behind : GoodIn wsX8_newBehind (wsV RX8 103 RX8 yX8_behind wsX8_behind) := goodIn_app (goodIn_of _ (by decide +kernel)) ggX8_newBehind_X8_behind
theorem dX8_newBehind_0 : decode cX8_newBehind 0 = .ok (.iload_n 1, 1) := by decide +kernel
theorem dX8_newBehind_1 : decode cX8_newBehind 1 = .ok (.iconst 2, 1) := by decide +kernel
theorem dX8_newBehind_2 : decode cX8_newBehind 2 = .ok (.idiv, 1) := by decide +kernel
theorem dX8_newBehind_3 : decode cX8_newBehind 3 = .ok (.aload_n 0, 1) := by decide +kernel
theorem dX8_newBehind_4 : decode cX8_newBehind 4 = .ok (.getfield 107, 3) := by decide +kernel
theorem dX8_newBehind_7 : decode cX8_newBehind 7 = .ok (.if_icmp .eq 12, 3) := by decide +kernel
theorem dX8_newBehind_10 : decode cX8_newBehind 10 = .ok (.aload_n 0, 1) := by decide +kernel
theorem dX8_newBehind_11 : decode cX8_newBehind 11 = .ok (.iload_n 1, 1) := by decide +kernel
theorem dX8_newBehind_12 : decode cX8_newBehind 12 = .ok (.iload_n 2, 1) := by decide +kernel
theorem dX8_newBehind_13 : decode cX8_newBehind 13 = .ok (.invokevirtual 99, 3) := by decide +kernel
theorem dX8_newBehind_16 : decode cX8_newBehind 16 = .ok (.ifCond .ne 5, 3) := by decide +kernel
theorem dX8_newBehind_19 : decode cX8_newBehind 19 = .ok (.iconst (-1), 1) := by decide +kernel
theorem dX8_newBehind_20 : decode cX8_newBehind 20 = .ok (.ireturn, 1) := by decide +kernel
theorem dX8_newBehind_21 : decode cX8_newBehind 21 = .ok (.aload_n 0, 1) := by decide +kernel
theorem dX8_newBehind_22 : decode cX8_newBehind 22 = .ok (.iload_n 1, 1) := by decide +kernel
theorem dX8_newBehind_23 : decode cX8_newBehind 23 = .ok (.iload_n 2, 1) := by decide +kernel
theorem dX8_newBehind_24 : decode cX8_newBehind 24 = .ok (.invokevirtual 103, 3) := by decide +kernel
theorem dX8_newBehind_27 : decode cX8_newBehind 27 = .ok (.istore_n 3, 1) := by decide +kernel
theorem dX8_newBehind_28 : decode cX8_newBehind 28 = .ok (.iload_n 3, 1) := by decide +kernel
theorem dX8_newBehind_29 : decode cX8_newBehind 29 = .ok (.iload_n 2, 1) := by decide +kernel
theorem dX8_newBehind_30 : decode cX8_newBehind 30 = .ok (.if_icmp .ne 7, 3) := by decide +kernel
theorem dX8_newBehind_33 : decode cX8_newBehind 33 = .ok (.iconst (-1), 1) := by decide +kernel
theorem dX8_newBehind_34 : decode cX8_newBehind 34 = .ok (.goto 4, 3) := by decide +kernel
theorem dX8_newBehind_37 : decode cX8_newBehind 37 = .ok (.iload_n 3, 1) := by decide +kernel
theorem dX8_newBehind_38 : decode cX8_newBehind 38 = .ok (.ireturn, 1) := by decide +kernel
set_option maxRecDepth 20000 in
theorem ggX8_findWays_X8_newBehind : GoodIn wsX8_findWays wsX8_newBehind := goodIn_r _ [11, 1, 12, 13, 14, 10, 15, 16, 17, 18, 19, 20, 21, 22, 23, 24, 25, 26, 27, 2, 28, 35, 36, 37, 38, 39, 40, 41, 42, 43, 44, 45, 46, 47, 48, 49, 50, 51, 52, 53, 54, 55, 56, 57, 58] (by decide +kernel) (by decide +kernel)
set_option maxRecDepth 20000 in
theorem gX8_findWays_X8_newBehind : GoodIn wsX8_findWays (wsV RX8 111 RX8 yX8_newBehind wsX8_newBehind) := goodIn_app (goodIn_of _ (by decide +kernel)) ggX8_findWays_X8_newBehind
set_option maxRecDepth 20000 in
theorem ggX8_findWays_X8_time : GoodIn wsX8_findWays wsX8_time := goodIn_r _ [32, 33, 34, 35, 36, 37, 38, 39, 40, 41, 42, 43, 44, 45, 46, 47, 48, 49, 50, 51, 52, 53, 54, 55, 56, 57, 58] (by decide +kernel) (by decide +kernel)
set_option maxRecDepth 20000 in
theorem gX8_findWays_X8_time : GoodIn wsX8_findWays (wsV RX8 96 RX8 yX8_time wsX8_time) := goodIn_app (goodIn_of _ (by decide +kernel)) ggX8_findWays_X8_time
theorem dX8_findWays_0 : decode cX8_findWays 0 = .ok (.aload_n 0, 1) := by decide +kernel
theorem dX8_findWays_1 : decode cX8_findWays 1 = .ok (.iload_n 2, 1) := by decide +kernel
theorem dX8_findWays_2 : decode cX8_findWays 2 = .ok (.putfield 107, 3) := by decide +kernel
theorem dX8_findWays_5 : decode cX8_findWays 5 = .ok (.iconst 1, 1) := by decide +kernel
theorem dX8_findWays_6 : decode cX8_findWays 6 = .ok (.aload_n 0, 1) := by decide +kernel
theorem dX8_findWays_7 : decode cX8_findWays 7 = .ok (.getfield 66, 3) := by decide +kernel
theorem dX8_findWays_10 : decode cX8_findWays 10 = .ok (.ishl, 1) := by decide +kernel
theorem dX8_findWays_11 : decode cX8_findWays 11 = .ok (.iconst 1, 1) := by decide +kernel
theorem dX8_findWays_12 : decode cX8_findWays 12 = .ok (.isub, 1) := by decide +kernel
theorem dX8_findWays_13 : decode cX8_findWays 13 = .ok (.istore_n 3, 1) := by decide +kernel
theorem dX8_findWays_14 : decode cX8_findWays 14 = .ok (.iload_n 3, 1) := by decide +kernel
theorem dX8_findWays_15 : decode cX8_findWays 15 = .ok (.ifCond .lt 182, 3) := by decide +kernel
theorem dX8_findWays_18 : decode cX8_findWays 18 = .ok (.iload_n 1, 1) := by decide +kernel
theorem dX8_findWays_19 : decode cX8_findWays 19 = .ok (.iload_n 3, 1) := by decide +kernel
theorem dX8_findWays_20 : decode cX8_findWays 20 = .ok (.iconst (-1), 1) := by decide +kernel
theorem dX8_findWays_21 : decode cX8_findWays 21 = .ok (.ixor, 1) := by decide +kernel
theorem dX8_findWays_22 : decode cX8_findWays 22 = .ok (.iand, 1) := by decide +kernel
theorem dX8_findWays_23 : decode cX8_findWays 23 = .ok (.ifCond .ne 7, 3) := by decide +kernel
theorem dX8_findWays_26 : decode cX8_findWays 26 = .ok (.iconst 1, 1) := by decide +kernel
theorem dX8_findWays_27 : decode cX8_findWays 27 = .ok (.goto 4, 3) := by decide +kernel
theorem dX8_findWays_30 : decode cX8_findWays 30 = .ok (.iconst 0, 1) := by decide +kernel
theorem dX8_findWays_31 : decode cX8_findWays 31 = .ok (.istore 4, 2) := by decide +kernel
theorem dX8_findWays_33 : decode cX8_findWays 33 = .ok (.aload_n 0, 1) := by decide +kernel
theorem dX8_findWays_34 : decode cX8_findWays 34 = .ok (.getfield 47, 3) := by decide +kernel
theorem dX8_findWays_37 : decode cX8_findWays 37 = .ok (.iload_n 3, 1) := by decide +kernel
theorem dX8_findWays_38 : decode cX8_findWays 38 = .ok (.iload 4, 2) := by decide +kernel
theorem dX8_findWays_40 : decode cX8_findWays 40 = .ok (.ifCond .eq 7, 3) := by decide +kernel
theorem dX8_findWays_43 : decode cX8_findWays 43 = .ok (.iconst 0, 1) := by decide +kernel
theorem dX8_findWays_44 : decode cX8_findWays 44 = .ok (.goto 5, 3) := by decide +kernel
theorem dX8_findWays_47 : decode cX8_findWays 47 = .ok (.ldc 110, 2) := by decide +kernel
theorem dX8_findWays_49 : decode cX8_findWays 49 = .ok (.iastore, 1) := by decide +kernel
theorem dX8_findWays_50 : decode cX8_findWays 50 = .ok (.aload_n 0, 1) := by decide +kernel
theorem dX8_findWays_51 : decode cX8_findWays 51 = .ok (.getfield 50, 3) := by decide +kernel
theorem dX8_findWays_54 : decode cX8_findWays 54 = .ok (.iload_n 3, 1) := by decide +kernel
theorem dX8_findWays_55 : decode cX8_findWays 55 = .ok (.iconst 0, 1) := by decide +kernel
theorem dX8_findWays_56 : decode cX8_findWays 56 = .ok (.iastore, 1) := by decide +kernel
theorem dX8_findWays_57 : decode cX8_findWays 57 = .ok (.iconst 0, 1) := by decide +kernel
theorem dX8_findWays_58 : decode cX8_findWays 58 = .ok (.istore 5, 2) := by decide +kernel
theorem dX8_findWays_60 : decode cX8_findWays 60 = .ok (.iload 5, 2) := by decide +kernel
theorem dX8_findWays_62 : decode cX8_findWays 62 = .ok (.iconst 2, 1) := by decide +kernel
theorem dX8_findWays_63 : decode cX8_findWays 63 = .ok (.aload_n 0, 1) := by decide +kernel
theorem dX8_findWays_64 : decode cX8_findWays 64 = .ok (.getfield 73, 3) := by decide +kernel
theorem dX8_findWays_67 : decode cX8_findWays 67 = .ok (.imul, 1) := by decide +kernel
theorem dX8_findWays_68 : decode cX8_findWays 68 = .ok (.if_icmp .ge 123, 3) := by decide +kernel
theorem dX8_findWays_71 : decode cX8_findWays 71 = .ok (.iload 4, 2) := by decide +kernel
theorem dX8_findWays_73 : decode cX8_findWays 73 = .ok (.ifCond .ne 118, 3) := by decide +kernel
theorem dX8_findWays_76 : decode cX8_findWays 76 = .ok (.aload_n 0, 1) := by decide +kernel
theorem dX8_findWays_77 : decode cX8_findWays 77 = .ok (.iload 5, 2) := by decide +kernel
theorem dX8_findWays_79 : decode cX8_findWays 79 = .ok (.iload_n 3, 1) := by decide +kernel
theorem dX8_findWays_80 : decode cX8_findWays 80 = .ok (.invokevirtual 111, 3) := by decide +kernel
theorem dX8_findWays_83 : decode cX8_findWays 83 = .ok (.istore 6, 2) := by decide +kernel
theorem dX8_findWays_85 : decode cX8_findWays 85 = .ok (.iload 6, 2) := by decide +kernel
theorem dX8_findWays_87 : decode cX8_findWays 87 = .ok (.iconst (-1), 1) := by decide +kernel
theorem dX8_findWays_88 : decode cX8_findWays 88 = .ok (.if_icmp .eq 97, 3) := by decide +kernel
theorem dX8_findWays_91 : decode cX8_findWays 91 = .ok (.aload_n 0, 1) := by decide +kernel
theorem dX8_findWays_92 : decode cX8_findWays 92 = .ok (.getfield 47, 3) := by decide +kernel
theorem dX8_findWays_95 : decode cX8_findWays 95 = .ok (.iload 6, 2) := by decide +kernel
theorem dX8_findWays_97 : decode cX8_findWays 97 = .ok (.iaload, 1) := by decide +kernel
theorem dX8_findWays_98 : decode cX8_findWays 98 = .ok (.ldc 110, 2) := by decide +kernel
theorem dX8_findWays_100 : decode cX8_findWays 100 = .ok (.if_icmp .ne 6, 3) := by decide +kernel
theorem dX8_findWays_103 : decode cX8_findWays 103 = .ok (.goto 82, 3) := by decide +kernel
theorem dX8_findWays_106 : decode cX8_findWays 106 = .ok (.aload_n 0, 1) := by decide +kernel
theorem dX8_findWays_107 : decode cX8_findWays 107 = .ok (.iload 5, 2) := by decide +kernel
theorem dX8_findWays_109 : decode cX8_findWays 109 = .ok (.invokevirtual 96, 3) := by decide +kernel
theorem dX8_findWays_112 : decode cX8_findWays 112 = .ok (.aload_n 0, 1) := by decide +kernel
theorem dX8_findWays_113 : decode cX8_findWays 113 = .ok (.getfield 47, 3) := by decide +kernel
theorem dX8_findWays_116 : decode cX8_findWays 116 = .ok (.iload 6, 2) := by decide +kernel
theorem dX8_findWays_118 : decode cX8_findWays 118 = .ok (.iaload, 1) := by decide +kernel
theorem dX8_findWays_119 : decode cX8_findWays 119 = .ok (.iadd, 1) := by decide +kernel
theorem dX8_findWays_120 : decode cX8_findWays 120 = .ok (.istore 7, 2) := by decide +kernel
theorem dX8_findWays_122 : decode cX8_findWays 122 = .ok (.iconst 1, 1) := by decide +kernel
theorem dX8_findWays_123 : decode cX8_findWays 123 = .ok (.aload_n 0, 1) := by decide +kernel
theorem dX8_findWays_124 : decode cX8_findWays 124 = .ok (.getfield 50, 3) := by decide +kernel
theorem dX8_findWays_127 : decode cX8_findWays 127 = .ok (.iload 6, 2) := by decide +kernel
theorem dX8_findWays_129 : decode cX8_findWays 129 = .ok (.iaload, 1) := by decide +kernel
theorem dX8_findWays_130 : decode cX8_findWays 130 = .ok (.iadd, 1) := by decide +kernel
theorem dX8_findWays_131 : decode cX8_findWays 131 = .ok (.istore 8, 2) := by decide +kernel
theorem dX8_findWays_133 : decode cX8_findWays 133 = .ok (.iload 7, 2) := by decide +kernel
theorem dX8_findWays_135 : decode cX8_findWays 135 = .ok (.aload_n 0, 1) := by decide +kernel
theorem dX8_findWays_136 : decode cX8_findWays 136 = .ok (.getfield 47, 3) := by decide +kernel
theorem dX8_findWays_139 : decode cX8_findWays 139 = .ok (.iload_n 3, 1) := by decide +kernel
theorem dX8_findWays_140 : decode cX8_findWays 140 = .ok (.iaload, 1) := by decide +kernel
theorem dX8_findWays_141 : decode cX8_findWays 141 = .ok (.if_icmp .gt 44, 3) := by decide +kernel
theorem dX8_findWays_144 : decode cX8_findWays 144 = .ok (.iload 7, 2) := by decide +kernel
theorem dX8_findWays_146 : decode cX8_findWays 146 = .ok (.aload_n 0, 1) := by decide +kernel
theorem dX8_findWays_147 : decode cX8_findWays 147 = .ok (.getfield 47, 3) := by decide +kernel
theorem dX8_findWays_150 : decode cX8_findWays 150 = .ok (.iload_n 3, 1) := by decide +kernel
theorem dX8_findWays_151 : decode cX8_findWays 151 = .ok (.iaload, 1) := by decide +kernel
theorem dX8_findWays_152 : decode cX8_findWays 152 = .ok (.if_icmp .ne 17, 3) := by decide +kernel
theorem dX8_findWays_155 : decode cX8_findWays 155 = .ok (.iload 8, 2) := by decide +kernel
theorem dX8_findWays_157 : decode cX8_findWays 157 = .ok (.aload_n 0, 1) := by decide +kernel
theorem dX8_findWays_158 : decode cX8_findWays 158 = .ok (.getfield 50, 3) := by decide +kernel
theorem dX8_findWays_161 : decode cX8_findWays 161 = .ok (.iload_n 3, 1) := by decide +kernel
theorem dX8_findWays_162 : decode cX8_findWays 162 = .ok (.iaload, 1) := by decide +kernel
theorem dX8_findWays_163 : decode cX8_findWays 163 = .ok (.if_icmp .lt 6, 3) := by decide +kernel
theorem dX8_findWays_166 : decode cX8_findWays 166 = .ok (.goto 19, 3) := by decide +kernel
theorem dX8_findWays_169 : decode cX8_findWays 169 = .ok (.aload_n 0, 1) := by decide +kernel
theorem dX8_findWays_170 : decode cX8_findWays 170 = .ok (.getfield 47, 3) := by decide +kernel
theorem dX8_findWays_173 : decode cX8_findWays 173 = .ok (.iload_n 3, 1) := by decide +kernel
theorem dX8_findWays_174 : decode cX8_findWays 174 = .ok (.iload 7, 2) := by decide +kernel
theorem dX8_findWays_176 : decode cX8_findWays 176 = .ok (.iastore, 1) := by decide +kernel
theorem dX8_findWays_177 : decode cX8_findWays 177 = .ok (.aload_n 0, 1) := by decide +kernel
theorem dX8_findWays_178 : decode cX8_findWays 178 = .ok (.getfield 50, 3) := by decide +kernel
theorem dX8_findWays_181 : decode cX8_findWays 181 = .ok (.iload_n 3, 1) := by decide +kernel
theorem dX8_findWays_182 : decode cX8_findWays 182 = .ok (.iload 8, 2) := by decide +kernel
theorem dX8_findWays_184 : decode cX8_findWays 184 = .ok (.iastore, 1) := by decide +kernel
theorem dX8_findWays_185 : decode cX8_findWays 185 = .ok (.iinc 5 1, 3) := by decide +kernel
theorem dX8_findWays_188 : decode cX8_findWays 188 = .ok (.goto (-128), 3) := by decide +kernel
theorem dX8_findWays_191 : decode cX8_findWays 191 = .ok (.iinc 3 (-1), 3) := by decide +kernel
theorem dX8_findWays_194 : decode cX8_findWays 194 = .ok (.goto (-180), 3) := by decide +kernel
theorem dX8_findWays_197 : decode cX8_findWays 197 = .ok (.return_, 1) := by decide +kernel
set_option maxRecDepth 20000 in
theorem ggX8_way_X8_areBits : GoodIn wsX8_way wsX8_areBits := goodIn_r _ [12, 13, 14, 15, 11, 16, 50, 51, 52, 53, 54, 55, 56, 57, 58, 59, 60, 61, 62, 63, 64, 65, 66, 67, 68, 69, 70, 71, 72, 73] (by decide +kernel) (by decide +kernel)
set_option maxRecDepth 20000 in
theorem gX8_way_X8_areBits : GoodIn wsX8_way (wsV RX8 76 RX8 yX8_areBits wsX8_areBits) := goodIn_app (goodIn_of _ (by decide +kernel)) ggX8_way_X8_areBits
set_option maxRecDepth 20000 in
theorem ggX8_way_X8_findWays : GoodIn wsX8_way wsX8_findWays := goodIn_r _ [20, 21, 13, 2, 4, 5, 22, 23, 24, 25, 11, 26, 27, 28, 29, 30, 31, 32, 33, 34, 35, 36, 37, 38, 39, 40, 41, 42, 43, 44, 45, 46, 47, 48, 49, 50, 51, 52, 53, 54, 55, 56, 57, 58, 59, 60, 61, 62, 63, 64, 65, 66, 67, 68, 69, 70, 71, 72, 73] (by decide +kernel) (by decide +kernel)
set_option maxRecDepth 20000 in
theorem gX8_way_X8_findWays : GoodIn wsX8_way (wsV RX8 114 RX8 yX8_findWays wsX8_findWays) := goodIn_app (goodIn_of _ (by decide +kernel)) ggX8_way_X8_findWays
set_option maxRecDepth 20000 in
theorem ggX8_way_X8_newBehind : GoodIn wsX8_way wsX8_newBehind := goodIn_r _ [26, 21, 27, 28, 29, 11, 30, 31, 32, 33, 34, 35, 36, 37, 38, 39, 40, 41, 42, 13, 43, 50, 51, 52, 53, 54, 55, 56, 57, 58, 59, 60, 61, 62, 63, 64, 65, 66, 67, 68, 69, 70, 71, 72, 73] (by decide +kernel) (by decide +kernel)
set_option maxRecDepth 20000 in
theorem gX8_way_X8_newBehind : GoodIn wsX8_way (wsV RX8 111 RX8 yX8_newBehind wsX8_newBehind) := goodIn_app (goodIn_of _ (by decide +kernel)) ggX8_way_X8_newBehind
set_option maxRecDepth 20000 in
theorem ggX8_way_X8_time : GoodIn wsX8_way wsX8_time := goodIn_r _ [47, 48, 49, 50, 51, 52, 53, 54, 55, 56, 57, 58, 59, 60, 61, 62, 63, 64, 65, 66, 67, 68, 69, 70, 71, 72, 73] (by decide +kernel) (by decide +kernel)
set_option maxRecDepth 20000 in
theorem gX8_way_X8_time : GoodIn wsX8_way (wsV RX8 96 RX8 yX8_time wsX8_time) := goodIn_app (goodIn_of _ (by decide +kernel)) ggX8_way_X8_time
set_option maxRecDepth 20000 in
theorem ggX8_way_X8_behind : GoodIn wsX8_way wsX8_behind := goodIn_r _ [36, 37, 38, 39, 40, 41, 11, 42, 13, 43, 50, 51, 52, 53, 54, 55, 56, 57, 58, 59, 60, 61, 62, 63, 64, 65, 66, 67, 68, 69, 70, 71, 72, 73] (by decide +kernel) (by decide +kernel)
set_option maxRecDepth 20000 in
theorem gX8_way_X8_behind : GoodIn wsX8_way (wsV RX8 103 RX8 yX8_behind wsX8_behind) := goodIn_app (goodIn_of _ (by decide +kernel)) ggX8_way_X8_behind
theorem dX8_way_0 : decode cX8_way 0 = .ok (.aload_n 0, 1) := by decide +kernel
theorem dX8_way_1 : decode cX8_way 1 = .ok (.iconst 0, 1) := by decide +kernel
theorem dX8_way_2 : decode cX8_way 2 = .ok (.putfield 63, 3) := by decide +kernel
theorem dX8_way_5 : decode cX8_way 5 = .ok (.aload_n 0, 1) := by decide +kernel
theorem dX8_way_6 : decode cX8_way 6 = .ok (.iload_n 1, 1) := by decide +kernel
theorem dX8_way_7 : decode cX8_way 7 = .ok (.invokevirtual 76, 3) := by decide +kernel
theorem dX8_way_10 : decode cX8_way 10 = .ok (.ifCond .ne 5, 3) := by decide +kernel
theorem dX8_way_13 : decode cX8_way 13 = .ok (.iconst (-1), 1) := by decide +kernel
theorem dX8_way_14 : decode cX8_way 14 = .ok (.ireturn, 1) := by decide +kernel
theorem dX8_way_15 : decode cX8_way 15 = .ok (.aload_n 0, 1) := by decide +kernel
theorem dX8_way_16 : decode cX8_way 16 = .ok (.iload_n 1, 1) := by decide +kernel
theorem dX8_way_17 : decode cX8_way 17 = .ok (.iconst (-1), 1) := by decide +kernel
theorem dX8_way_18 : decode cX8_way 18 = .ok (.invokevirtual 114, 3) := by decide +kernel
theorem dX8_way_21 : decode cX8_way 21 = .ok (.aload_n 0, 1) := by decide +kernel
theorem dX8_way_22 : decode cX8_way 22 = .ok (.getfield 47, 3) := by decide +kernel
theorem dX8_way_25 : decode cX8_way 25 = .ok (.aload_n 0, 1) := by decide +kernel
theorem dX8_way_26 : decode cX8_way 26 = .ok (.getfield 84, 3) := by decide +kernel
theorem dX8_way_29 : decode cX8_way 29 = .ok (.iaload, 1) := by decide +kernel
theorem dX8_way_30 : decode cX8_way 30 = .ok (.ldc 110, 2) := by decide +kernel
theorem dX8_way_32 : decode cX8_way 32 = .ok (.if_icmp .ne 5, 3) := by decide +kernel
theorem dX8_way_35 : decode cX8_way 35 = .ok (.iconst (-1), 1) := by decide +kernel
theorem dX8_way_36 : decode cX8_way 36 = .ok (.ireturn, 1) := by decide +kernel
theorem dX8_way_37 : decode cX8_way 37 = .ok (.iconst 0, 1) := by decide +kernel
theorem dX8_way_38 : decode cX8_way 38 = .ok (.istore_n 2, 1) := by decide +kernel
theorem dX8_way_39 : decode cX8_way 39 = .ok (.aload_n 0, 1) := by decide +kernel
theorem dX8_way_40 : decode cX8_way 40 = .ok (.getfield 84, 3) := by decide +kernel
theorem dX8_way_43 : decode cX8_way 43 = .ok (.istore_n 3, 1) := by decide +kernel
theorem dX8_way_44 : decode cX8_way 44 = .ok (.aload_n 0, 1) := by decide +kernel
theorem dX8_way_45 : decode cX8_way 45 = .ok (.getfield 50, 3) := by decide +kernel
theorem dX8_way_48 : decode cX8_way 48 = .ok (.iload_n 3, 1) := by decide +kernel
theorem dX8_way_49 : decode cX8_way 49 = .ok (.iaload, 1) := by decide +kernel
theorem dX8_way_50 : decode cX8_way 50 = .ok (.ifCond .le 105, 3) := by decide +kernel
theorem dX8_way_53 : decode cX8_way 53 = .ok (.iconst 0, 1) := by decide +kernel
theorem dX8_way_54 : decode cX8_way 54 = .ok (.istore 4, 2) := by decide +kernel
theorem dX8_way_56 : decode cX8_way 56 = .ok (.aload_n 0, 1) := by decide +kernel
theorem dX8_way_57 : decode cX8_way 57 = .ok (.iload 4, 2) := by decide +kernel
theorem dX8_way_59 : decode cX8_way 59 = .ok (.iload_n 3, 1) := by decide +kernel
theorem dX8_way_60 : decode cX8_way 60 = .ok (.invokevirtual 111, 3) := by decide +kernel
theorem dX8_way_63 : decode cX8_way 63 = .ok (.istore 5, 2) := by decide +kernel
theorem dX8_way_65 : decode cX8_way 65 = .ok (.iload 5, 2) := by decide +kernel
theorem dX8_way_67 : decode cX8_way 67 = .ok (.iconst (-1), 1) := by decide +kernel
theorem dX8_way_68 : decode cX8_way 68 = .ok (.if_icmp .eq 59, 3) := by decide +kernel
theorem dX8_way_71 : decode cX8_way 71 = .ok (.aload_n 0, 1) := by decide +kernel
theorem dX8_way_72 : decode cX8_way 72 = .ok (.getfield 47, 3) := by decide +kernel
theorem dX8_way_75 : decode cX8_way 75 = .ok (.iload 5, 2) := by decide +kernel
theorem dX8_way_77 : decode cX8_way 77 = .ok (.iaload, 1) := by decide +kernel
theorem dX8_way_78 : decode cX8_way 78 = .ok (.ldc 110, 2) := by decide +kernel
theorem dX8_way_80 : decode cX8_way 80 = .ok (.if_icmp .ge 47, 3) := by decide +kernel
theorem dX8_way_83 : decode cX8_way 83 = .ok (.aload_n 0, 1) := by decide +kernel
theorem dX8_way_84 : decode cX8_way 84 = .ok (.iload 4, 2) := by decide +kernel
theorem dX8_way_86 : decode cX8_way 86 = .ok (.invokevirtual 96, 3) := by decide +kernel
theorem dX8_way_89 : decode cX8_way 89 = .ok (.aload_n 0, 1) := by decide +kernel
theorem dX8_way_90 : decode cX8_way 90 = .ok (.getfield 47, 3) := by decide +kernel
theorem dX8_way_93 : decode cX8_way 93 = .ok (.iload 5, 2) := by decide +kernel
theorem dX8_way_95 : decode cX8_way 95 = .ok (.iaload, 1) := by decide +kernel
theorem dX8_way_96 : decode cX8_way 96 = .ok (.iadd, 1) := by decide +kernel
theorem dX8_way_97 : decode cX8_way 97 = .ok (.aload_n 0, 1) := by decide +kernel
theorem dX8_way_98 : decode cX8_way 98 = .ok (.getfield 47, 3) := by decide +kernel
theorem dX8_way_101 : decode cX8_way 101 = .ok (.iload_n 3, 1) := by decide +kernel
theorem dX8_way_102 : decode cX8_way 102 = .ok (.iaload, 1) := by decide +kernel
theorem dX8_way_103 : decode cX8_way 103 = .ok (.if_icmp .ne 24, 3) := by decide +kernel
theorem dX8_way_106 : decode cX8_way 106 = .ok (.iconst 1, 1) := by decide +kernel
theorem dX8_way_107 : decode cX8_way 107 = .ok (.aload_n 0, 1) := by decide +kernel
theorem dX8_way_108 : decode cX8_way 108 = .ok (.getfield 50, 3) := by decide +kernel
theorem dX8_way_111 : decode cX8_way 111 = .ok (.iload 5, 2) := by decide +kernel
theorem dX8_way_113 : decode cX8_way 113 = .ok (.iaload, 1) := by decide +kernel
theorem dX8_way_114 : decode cX8_way 114 = .ok (.iadd, 1) := by decide +kernel
theorem dX8_way_115 : decode cX8_way 115 = .ok (.aload_n 0, 1) := by decide +kernel
theorem dX8_way_116 : decode cX8_way 116 = .ok (.getfield 50, 3) := by decide +kernel
theorem dX8_way_119 : decode cX8_way 119 = .ok (.iload_n 3, 1) := by decide +kernel
theorem dX8_way_120 : decode cX8_way 120 = .ok (.iaload, 1) := by decide +kernel
theorem dX8_way_121 : decode cX8_way 121 = .ok (.if_icmp .ne 6, 3) := by decide +kernel
theorem dX8_way_124 : decode cX8_way 124 = .ok (.goto 9, 3) := by decide +kernel
theorem dX8_way_127 : decode cX8_way 127 = .ok (.iinc 4 1, 3) := by decide +kernel
theorem dX8_way_130 : decode cX8_way 130 = .ok (.goto (-74), 3) := by decide +kernel
theorem dX8_way_133 : decode cX8_way 133 = .ok (.aload_n 0, 1) := by decide +kernel
theorem dX8_way_134 : decode cX8_way 134 = .ok (.getfield 35, 3) := by decide +kernel
theorem dX8_way_137 : decode cX8_way 137 = .ok (.iload_n 2, 1) := by decide +kernel
theorem dX8_way_138 : decode cX8_way 138 = .ok (.iload 4, 2) := by decide +kernel
theorem dX8_way_140 : decode cX8_way 140 = .ok (.iastore, 1) := by decide +kernel
theorem dX8_way_141 : decode cX8_way 141 = .ok (.iinc 2 1, 3) := by decide +kernel
theorem dX8_way_144 : decode cX8_way 144 = .ok (.aload_n 0, 1) := by decide +kernel
theorem dX8_way_145 : decode cX8_way 145 = .ok (.iload 4, 2) := by decide +kernel
theorem dX8_way_147 : decode cX8_way 147 = .ok (.iload_n 3, 1) := by decide +kernel
theorem dX8_way_148 : decode cX8_way 148 = .ok (.invokevirtual 103, 3) := by decide +kernel
theorem dX8_way_151 : decode cX8_way 151 = .ok (.istore_n 3, 1) := by decide +kernel
theorem dX8_way_152 : decode cX8_way 152 = .ok (.goto (-108), 3) := by decide +kernel
theorem dX8_way_155 : decode cX8_way 155 = .ok (.aload_n 0, 1) := by decide +kernel
theorem dX8_way_156 : decode cX8_way 156 = .ok (.iload_n 2, 1) := by decide +kernel
theorem dX8_way_157 : decode cX8_way 157 = .ok (.putfield 90, 3) := by decide +kernel
theorem dX8_way_160 : decode cX8_way 160 = .ok (.aload_n 0, 1) := by decide +kernel
theorem dX8_way_161 : decode cX8_way 161 = .ok (.getfield 47, 3) := by decide +kernel
theorem dX8_way_164 : decode cX8_way 164 = .ok (.aload_n 0, 1) := by decide +kernel
theorem dX8_way_165 : decode cX8_way 165 = .ok (.getfield 84, 3) := by decide +kernel
theorem dX8_way_168 : decode cX8_way 168 = .ok (.iaload, 1) := by decide +kernel
theorem dX8_way_169 : decode cX8_way 169 = .ok (.ireturn, 1) := by decide +kernel
set_option maxRecDepth 20000 in
theorem ggX8_step_X8_in : GoodIn wsX8_step wsX8_in := goodIn_r _ [7] (by decide +kernel) (by decide +kernel)
set_option maxRecDepth 20000 in
theorem gX8_step_X8_in : GoodIn wsX8_step (va_wsS RX8 69 yX8_in wsX8_in) := goodIn_app (goodIn_of _ (by decide +kernel)) ggX8_step_X8_in
theorem dX8_step_0 : decode cX8_step 0 = .ok (.aload_n 0, 1) := by decide +kernel
theorem dX8_step_1 : decode cX8_step 1 = .ok (.iconst 0, 1) := by decide +kernel
theorem dX8_step_2 : decode cX8_step 2 = .ok (.putfield 63, 3) := by decide +kernel
theorem dX8_step_5 : decode cX8_step 5 = .ok (.iload_n 1, 1) := by decide +kernel
theorem dX8_step_6 : decode cX8_step 6 = .ok (.iconst 0, 1) := by decide +kernel
theorem dX8_step_7 : decode cX8_step 7 = .ok (.aload_n 0, 1) := by decide +kernel
theorem dX8_step_8 : decode cX8_step 8 = .ok (.getfield 90, 3) := by decide +kernel
theorem dX8_step_11 : decode cX8_step 11 = .ok (.iconst 1, 1) := by decide +kernel
theorem dX8_step_12 : decode cX8_step 12 = .ok (.isub, 1) := by decide +kernel
theorem dX8_step_13 : decode cX8_step 13 = .ok (.invokestatic 69, 3) := by decide +kernel
theorem dX8_step_16 : decode cX8_step 16 = .ok (.ifCond .eq 12, 3) := by decide +kernel
theorem dX8_step_19 : decode cX8_step 19 = .ok (.aload_n 0, 1) := by decide +kernel
theorem dX8_step_20 : decode cX8_step 20 = .ok (.getfield 35, 3) := by decide +kernel
theorem dX8_step_23 : decode cX8_step 23 = .ok (.iload_n 1, 1) := by decide +kernel
theorem dX8_step_24 : decode cX8_step 24 = .ok (.iaload, 1) := by decide +kernel
theorem dX8_step_25 : decode cX8_step 25 = .ok (.goto 4, 3) := by decide +kernel
theorem dX8_step_28 : decode cX8_step 28 = .ok (.iconst (-1), 1) := by decide +kernel
theorem dX8_step_29 : decode cX8_step 29 = .ok (.ireturn, 1) := by decide +kernel
set_option maxRecDepth 20000 in
theorem ggX8_isTight_X8_time : GoodIn wsX8_isTight wsX8_time := goodIn_r _ [7, 8, 9, 10, 11, 12, 13, 14, 15, 16, 17, 18, 19, 20, 21, 22, 23, 24, 25, 26, 27, 28, 29, 30, 31, 32, 33] (by decide +kernel) (by decide +kernel)
set_option maxRecDepth 20000 in
theorem gX8_isTight_X8_time : GoodIn wsX8_isTight (wsV RX8 96 RX8 yX8_time wsX8_time) := goodIn_app (goodIn_of _ (by decide +kernel)) ggX8_isTight_X8_time
theorem dX8_isTight_0 : decode cX8_isTight 0 = .ok (.aload_n 0, 1) := by decide +kernel
theorem dX8_isTight_1 : decode cX8_isTight 1 = .ok (.getfield 47, 3) := by decide +kernel
theorem dX8_isTight_4 : decode cX8_isTight 4 = .ok (.iload_n 2, 1) := by decide +kernel
theorem dX8_isTight_5 : decode cX8_isTight 5 = .ok (.iaload, 1) := by decide +kernel
theorem dX8_isTight_6 : decode cX8_isTight 6 = .ok (.aload_n 0, 1) := by decide +kernel
theorem dX8_isTight_7 : decode cX8_isTight 7 = .ok (.iload_n 1, 1) := by decide +kernel
theorem dX8_isTight_8 : decode cX8_isTight 8 = .ok (.invokevirtual 96, 3) := by decide +kernel
theorem dX8_isTight_11 : decode cX8_isTight 11 = .ok (.iadd, 1) := by decide +kernel
theorem dX8_isTight_12 : decode cX8_isTight 12 = .ok (.aload_n 0, 1) := by decide +kernel
theorem dX8_isTight_13 : decode cX8_isTight 13 = .ok (.getfield 47, 3) := by decide +kernel
theorem dX8_isTight_16 : decode cX8_isTight 16 = .ok (.iload_n 3, 1) := by decide +kernel
theorem dX8_isTight_17 : decode cX8_isTight 17 = .ok (.iaload, 1) := by decide +kernel
theorem dX8_isTight_18 : decode cX8_isTight 18 = .ok (.if_icmp .ne 24, 3) := by decide +kernel
theorem dX8_isTight_21 : decode cX8_isTight 21 = .ok (.aload_n 0, 1) := by decide +kernel
theorem dX8_isTight_22 : decode cX8_isTight 22 = .ok (.getfield 50, 3) := by decide +kernel
theorem dX8_isTight_25 : decode cX8_isTight 25 = .ok (.iload_n 2, 1) := by decide +kernel
theorem dX8_isTight_26 : decode cX8_isTight 26 = .ok (.iaload, 1) := by decide +kernel
theorem dX8_isTight_27 : decode cX8_isTight 27 = .ok (.iconst 1, 1) := by decide +kernel
theorem dX8_isTight_28 : decode cX8_isTight 28 = .ok (.iadd, 1) := by decide +kernel
theorem dX8_isTight_29 : decode cX8_isTight 29 = .ok (.aload_n 0, 1) := by decide +kernel
theorem dX8_isTight_30 : decode cX8_isTight 30 = .ok (.getfield 50, 3) := by decide +kernel
theorem dX8_isTight_33 : decode cX8_isTight 33 = .ok (.iload_n 3, 1) := by decide +kernel
theorem dX8_isTight_34 : decode cX8_isTight 34 = .ok (.iaload, 1) := by decide +kernel
theorem dX8_isTight_35 : decode cX8_isTight 35 = .ok (.if_icmp .ne 7, 3) := by decide +kernel
theorem dX8_isTight_38 : decode cX8_isTight 38 = .ok (.iconst 1, 1) := by decide +kernel
theorem dX8_isTight_39 : decode cX8_isTight 39 = .ok (.goto 4, 3) := by decide +kernel
theorem dX8_isTight_42 : decode cX8_isTight 42 = .ok (.iconst 0, 1) := by decide +kernel
theorem dX8_isTight_43 : decode cX8_isTight 43 = .ok (.ireturn, 1) := by decide +kernel
set_option maxRecDepth 20000 in
theorem ggX8_most_X8_in : GoodIn wsX8_most wsX8_in := goodIn_r _ [15] (by decide +kernel) (by decide +kernel)
set_option maxRecDepth 20000 in
theorem gX8_most_X8_in : GoodIn wsX8_most (va_wsS RX8 69 yX8_in wsX8_in) := goodIn_app (goodIn_of _ (by decide +kernel)) ggX8_most_X8_in
set_option maxRecDepth 20000 in
theorem ggX8_most_X8_newBehind : GoodIn wsX8_most wsX8_newBehind := goodIn_r _ [19, 2, 20, 21, 22, 14, 23, 24, 25, 26, 27, 28, 29, 30, 31, 32, 33, 34, 35, 3, 36, 52, 53, 54, 55, 56, 57, 58, 59, 60, 61, 62, 63, 64, 65, 66, 67, 68, 69, 70, 71, 72, 73, 74, 75] (by decide +kernel) (by decide +kernel)
set_option maxRecDepth 20000 in
theorem gX8_most_X8_newBehind : GoodIn wsX8_most (wsV RX8 111 RX8 yX8_newBehind wsX8_newBehind) := goodIn_app (goodIn_of _ (by decide +kernel)) ggX8_most_X8_newBehind
set_option maxRecDepth 20000 in
theorem ggX8_most_X8_time : GoodIn wsX8_most wsX8_time := goodIn_r _ [40, 41, 42, 52, 53, 54, 55, 56, 57, 58, 59, 60, 61, 62, 63, 64, 65, 66, 67, 68, 69, 70, 71, 72, 73, 74, 75] (by decide +kernel) (by decide +kernel)
set_option maxRecDepth 20000 in
theorem gX8_most_X8_time : GoodIn wsX8_most (wsV RX8 96 RX8 yX8_time wsX8_time) := goodIn_app (goodIn_of _ (by decide +kernel)) ggX8_most_X8_time
set_option maxRecDepth 20000 in
theorem ggX8_most_X8_worthOf : GoodIn wsX8_most wsX8_worthOf := goodIn_r _ [46, 3, 47, 52, 53, 54, 55, 56, 57, 58, 59, 60, 61, 62, 63, 64, 65, 66, 67, 68, 69, 70, 71, 72, 73, 74, 75] (by decide +kernel) (by decide +kernel)
set_option maxRecDepth 20000 in
theorem gX8_most_X8_worthOf : GoodIn wsX8_most (wsV RX8 87 RX8 yX8_worthOf wsX8_worthOf) := goodIn_app (goodIn_of _ (by decide +kernel)) ggX8_most_X8_worthOf
set_option maxRecDepth 20000 in
theorem ggX8_most_X8_isTight : GoodIn wsX8_most wsX8_isTight := goodIn_r _ [51, 4, 7, 37, 38, 39, 14, 40, 41, 42, 52, 53, 54, 55, 56, 57, 58, 59, 60, 61, 62, 63, 64, 65, 66, 67, 68, 69, 70, 71, 72, 73, 74, 75] (by decide +kernel) (by decide +kernel)
set_option maxRecDepth 20000 in
theorem gX8_most_X8_isTight : GoodIn wsX8_most (wsV RX8 118 RX8 yX8_isTight wsX8_isTight) := goodIn_app (goodIn_of _ (by decide +kernel)) ggX8_most_X8_isTight
set_option maxRecDepth 20000 in
theorem ggX8_most_X8_behind : GoodIn wsX8_most wsX8_behind := goodIn_r _ [29, 30, 31, 32, 33, 34, 14, 35, 3, 36, 52, 53, 54, 55, 56, 57, 58, 59, 60, 61, 62, 63, 64, 65, 66, 67, 68, 69, 70, 71, 72, 73, 74, 75] (by decide +kernel) (by decide +kernel)
set_option maxRecDepth 20000 in
theorem gX8_most_X8_behind : GoodIn wsX8_most (wsV RX8 103 RX8 yX8_behind wsX8_behind) := goodIn_app (goodIn_of _ (by decide +kernel)) ggX8_most_X8_behind
theorem dX8_most_0 : decode cX8_most 0 = .ok (.aload_n 0, 1) := by decide +kernel
theorem dX8_most_1 : decode cX8_most 1 = .ok (.iconst 0, 1) := by decide +kernel
theorem dX8_most_2 : decode cX8_most 2 = .ok (.putfield 63, 3) := by decide +kernel
theorem dX8_most_5 : decode cX8_most 5 = .ok (.iload_n 1, 1) := by decide +kernel
theorem dX8_most_6 : decode cX8_most 6 = .ok (.iconst 0, 1) := by decide +kernel
theorem dX8_most_7 : decode cX8_most 7 = .ok (.sipush 10000, 3) := by decide +kernel
theorem dX8_most_10 : decode cX8_most 10 = .ok (.invokestatic 69, 3) := by decide +kernel
theorem dX8_most_13 : decode cX8_most 13 = .ok (.ifCond .ne 5, 3) := by decide +kernel
theorem dX8_most_16 : decode cX8_most 16 = .ok (.iconst (-1), 1) := by decide +kernel
theorem dX8_most_17 : decode cX8_most 17 = .ok (.ireturn, 1) := by decide +kernel
theorem dX8_most_18 : decode cX8_most 18 = .ok (.aload_n 0, 1) := by decide +kernel
theorem dX8_most_19 : decode cX8_most 19 = .ok (.iconst (-1), 1) := by decide +kernel
theorem dX8_most_20 : decode cX8_most 20 = .ok (.putfield 107, 3) := by decide +kernel
theorem dX8_most_23 : decode cX8_most 23 = .ok (.iconst 1, 1) := by decide +kernel
theorem dX8_most_24 : decode cX8_most 24 = .ok (.aload_n 0, 1) := by decide +kernel
theorem dX8_most_25 : decode cX8_most 25 = .ok (.getfield 66, 3) := by decide +kernel
theorem dX8_most_28 : decode cX8_most 28 = .ok (.ishl, 1) := by decide +kernel
theorem dX8_most_29 : decode cX8_most 29 = .ok (.istore_n 2, 1) := by decide +kernel
theorem dX8_most_30 : decode cX8_most 30 = .ok (.iconst 0, 1) := by decide +kernel
theorem dX8_most_31 : decode cX8_most 31 = .ok (.istore_n 3, 1) := by decide +kernel
theorem dX8_most_32 : decode cX8_most 32 = .ok (.iload_n 3, 1) := by decide +kernel
theorem dX8_most_33 : decode cX8_most 33 = .ok (.iload_n 2, 1) := by decide +kernel
theorem dX8_most_34 : decode cX8_most 34 = .ok (.if_icmp .ge 36, 3) := by decide +kernel
theorem dX8_most_37 : decode cX8_most 37 = .ok (.aload_n 0, 1) := by decide +kernel
theorem dX8_most_38 : decode cX8_most 38 = .ok (.getfield 47, 3) := by decide +kernel
theorem dX8_most_41 : decode cX8_most 41 = .ok (.iload_n 3, 1) := by decide +kernel
theorem dX8_most_42 : decode cX8_most 42 = .ok (.iload_n 3, 1) := by decide +kernel
theorem dX8_most_43 : decode cX8_most 43 = .ok (.aload_n 0, 1) := by decide +kernel
theorem dX8_most_44 : decode cX8_most 44 = .ok (.getfield 84, 3) := by decide +kernel
theorem dX8_most_47 : decode cX8_most 47 = .ok (.if_icmp .ne 7, 3) := by decide +kernel
theorem dX8_most_50 : decode cX8_most 50 = .ok (.iconst 0, 1) := by decide +kernel
theorem dX8_most_51 : decode cX8_most 51 = .ok (.goto 5, 3) := by decide +kernel
theorem dX8_most_54 : decode cX8_most 54 = .ok (.ldc 110, 2) := by decide +kernel
theorem dX8_most_56 : decode cX8_most 56 = .ok (.iastore, 1) := by decide +kernel
theorem dX8_most_57 : decode cX8_most 57 = .ok (.aload_n 0, 1) := by decide +kernel
theorem dX8_most_58 : decode cX8_most 58 = .ok (.getfield 50, 3) := by decide +kernel
theorem dX8_most_61 : decode cX8_most 61 = .ok (.iload_n 3, 1) := by decide +kernel
theorem dX8_most_62 : decode cX8_most 62 = .ok (.iconst 0, 1) := by decide +kernel
theorem dX8_most_63 : decode cX8_most 63 = .ok (.iastore, 1) := by decide +kernel
theorem dX8_most_64 : decode cX8_most 64 = .ok (.iinc 3 1, 3) := by decide +kernel
theorem dX8_most_67 : decode cX8_most 67 = .ok (.goto (-35), 3) := by decide +kernel
theorem dX8_most_70 : decode cX8_most 70 = .ok (.aload_n 0, 1) := by decide +kernel
theorem dX8_most_71 : decode cX8_most 71 = .ok (.getfield 84, 3) := by decide +kernel
theorem dX8_most_74 : decode cX8_most 74 = .ok (.istore_n 3, 1) := by decide +kernel
theorem dX8_most_75 : decode cX8_most 75 = .ok (.iload_n 3, 1) := by decide +kernel
theorem dX8_most_76 : decode cX8_most 76 = .ok (.iload_n 2, 1) := by decide +kernel
theorem dX8_most_77 : decode cX8_most 77 = .ok (.if_icmp .ge 140, 3) := by decide +kernel
theorem dX8_most_80 : decode cX8_most 80 = .ok (.iconst 0, 1) := by decide +kernel
theorem dX8_most_81 : decode cX8_most 81 = .ok (.istore 4, 2) := by decide +kernel
theorem dX8_most_83 : decode cX8_most 83 = .ok (.iload 4, 2) := by decide +kernel
theorem dX8_most_85 : decode cX8_most 85 = .ok (.iconst 2, 1) := by decide +kernel
theorem dX8_most_86 : decode cX8_most 86 = .ok (.aload_n 0, 1) := by decide +kernel
theorem dX8_most_87 : decode cX8_most 87 = .ok (.getfield 73, 3) := by decide +kernel
theorem dX8_most_90 : decode cX8_most 90 = .ok (.imul, 1) := by decide +kernel
theorem dX8_most_91 : decode cX8_most 91 = .ok (.if_icmp .ge 120, 3) := by decide +kernel
theorem dX8_most_94 : decode cX8_most 94 = .ok (.aload_n 0, 1) := by decide +kernel
theorem dX8_most_95 : decode cX8_most 95 = .ok (.getfield 47, 3) := by decide +kernel
theorem dX8_most_98 : decode cX8_most 98 = .ok (.iload_n 3, 1) := by decide +kernel
theorem dX8_most_99 : decode cX8_most 99 = .ok (.iaload, 1) := by decide +kernel
theorem dX8_most_100 : decode cX8_most 100 = .ok (.ldc 110, 2) := by decide +kernel
theorem dX8_most_102 : decode cX8_most 102 = .ok (.if_icmp .ge 109, 3) := by decide +kernel
theorem dX8_most_105 : decode cX8_most 105 = .ok (.aload_n 0, 1) := by decide +kernel
theorem dX8_most_106 : decode cX8_most 106 = .ok (.iload 4, 2) := by decide +kernel
theorem dX8_most_108 : decode cX8_most 108 = .ok (.iload_n 3, 1) := by decide +kernel
theorem dX8_most_109 : decode cX8_most 109 = .ok (.invokevirtual 111, 3) := by decide +kernel
theorem dX8_most_112 : decode cX8_most 112 = .ok (.istore 5, 2) := by decide +kernel
theorem dX8_most_114 : decode cX8_most 114 = .ok (.iload 5, 2) := by decide +kernel
theorem dX8_most_116 : decode cX8_most 116 = .ok (.iconst (-1), 1) := by decide +kernel
theorem dX8_most_117 : decode cX8_most 117 = .ok (.if_icmp .ne 6, 3) := by decide +kernel
theorem dX8_most_120 : decode cX8_most 120 = .ok (.goto 85, 3) := by decide +kernel
theorem dX8_most_123 : decode cX8_most 123 = .ok (.aload_n 0, 1) := by decide +kernel
theorem dX8_most_124 : decode cX8_most 124 = .ok (.getfield 47, 3) := by decide +kernel
theorem dX8_most_127 : decode cX8_most 127 = .ok (.iload_n 3, 1) := by decide +kernel
theorem dX8_most_128 : decode cX8_most 128 = .ok (.iaload, 1) := by decide +kernel
theorem dX8_most_129 : decode cX8_most 129 = .ok (.aload_n 0, 1) := by decide +kernel
theorem dX8_most_130 : decode cX8_most 130 = .ok (.iload 4, 2) := by decide +kernel
theorem dX8_most_132 : decode cX8_most 132 = .ok (.invokevirtual 96, 3) := by decide +kernel
theorem dX8_most_135 : decode cX8_most 135 = .ok (.iadd, 1) := by decide +kernel
theorem dX8_most_136 : decode cX8_most 136 = .ok (.istore 6, 2) := by decide +kernel
theorem dX8_most_138 : decode cX8_most 138 = .ok (.aload_n 0, 1) := by decide +kernel
theorem dX8_most_139 : decode cX8_most 139 = .ok (.getfield 50, 3) := by decide +kernel
theorem dX8_most_142 : decode cX8_most 142 = .ok (.iload_n 3, 1) := by decide +kernel
theorem dX8_most_143 : decode cX8_most 143 = .ok (.iaload, 1) := by decide +kernel
theorem dX8_most_144 : decode cX8_most 144 = .ok (.iconst 1, 1) := by decide +kernel
theorem dX8_most_145 : decode cX8_most 145 = .ok (.iadd, 1) := by decide +kernel
theorem dX8_most_146 : decode cX8_most 146 = .ok (.istore 7, 2) := by decide +kernel
theorem dX8_most_148 : decode cX8_most 148 = .ok (.iload 6, 2) := by decide +kernel
theorem dX8_most_150 : decode cX8_most 150 = .ok (.aload_n 0, 1) := by decide +kernel
theorem dX8_most_151 : decode cX8_most 151 = .ok (.getfield 47, 3) := by decide +kernel
theorem dX8_most_154 : decode cX8_most 154 = .ok (.iload 5, 2) := by decide +kernel
theorem dX8_most_156 : decode cX8_most 156 = .ok (.iaload, 1) := by decide +kernel
theorem dX8_most_157 : decode cX8_most 157 = .ok (.if_icmp .gt 48, 3) := by decide +kernel
theorem dX8_most_160 : decode cX8_most 160 = .ok (.iload 6, 2) := by decide +kernel
theorem dX8_most_162 : decode cX8_most 162 = .ok (.aload_n 0, 1) := by decide +kernel
theorem dX8_most_163 : decode cX8_most 163 = .ok (.getfield 47, 3) := by decide +kernel
theorem dX8_most_166 : decode cX8_most 166 = .ok (.iload 5, 2) := by decide +kernel
theorem dX8_most_168 : decode cX8_most 168 = .ok (.iaload, 1) := by decide +kernel
theorem dX8_most_169 : decode cX8_most 169 = .ok (.if_icmp .ne 18, 3) := by decide +kernel
theorem dX8_most_172 : decode cX8_most 172 = .ok (.iload 7, 2) := by decide +kernel
theorem dX8_most_174 : decode cX8_most 174 = .ok (.aload_n 0, 1) := by decide +kernel
theorem dX8_most_175 : decode cX8_most 175 = .ok (.getfield 50, 3) := by decide +kernel
theorem dX8_most_178 : decode cX8_most 178 = .ok (.iload 5, 2) := by decide +kernel
theorem dX8_most_180 : decode cX8_most 180 = .ok (.iaload, 1) := by decide +kernel
theorem dX8_most_181 : decode cX8_most 181 = .ok (.if_icmp .lt 6, 3) := by decide +kernel
theorem dX8_most_184 : decode cX8_most 184 = .ok (.goto 21, 3) := by decide +kernel
theorem dX8_most_187 : decode cX8_most 187 = .ok (.aload_n 0, 1) := by decide +kernel
theorem dX8_most_188 : decode cX8_most 188 = .ok (.getfield 47, 3) := by decide +kernel
theorem dX8_most_191 : decode cX8_most 191 = .ok (.iload 5, 2) := by decide +kernel
theorem dX8_most_193 : decode cX8_most 193 = .ok (.iload 6, 2) := by decide +kernel
theorem dX8_most_195 : decode cX8_most 195 = .ok (.iastore, 1) := by decide +kernel
theorem dX8_most_196 : decode cX8_most 196 = .ok (.aload_n 0, 1) := by decide +kernel
theorem dX8_most_197 : decode cX8_most 197 = .ok (.getfield 50, 3) := by decide +kernel
theorem dX8_most_200 : decode cX8_most 200 = .ok (.iload 5, 2) := by decide +kernel
theorem dX8_most_202 : decode cX8_most 202 = .ok (.iload 7, 2) := by decide +kernel
theorem dX8_most_204 : decode cX8_most 204 = .ok (.iastore, 1) := by decide +kernel
theorem dX8_most_205 : decode cX8_most 205 = .ok (.iinc 4 1, 3) := by decide +kernel
theorem dX8_most_208 : decode cX8_most 208 = .ok (.goto (-125), 3) := by decide +kernel
theorem dX8_most_211 : decode cX8_most 211 = .ok (.iinc 3 1, 3) := by decide +kernel
theorem dX8_most_214 : decode cX8_most 214 = .ok (.goto (-139), 3) := by decide +kernel
theorem dX8_most_217 : decode cX8_most 217 = .ok (.aload_n 0, 1) := by decide +kernel
theorem dX8_most_218 : decode cX8_most 218 = .ok (.getfield 84, 3) := by decide +kernel
theorem dX8_most_221 : decode cX8_most 221 = .ok (.istore_n 3, 1) := by decide +kernel
theorem dX8_most_222 : decode cX8_most 222 = .ok (.iconst 0, 1) := by decide +kernel
theorem dX8_most_223 : decode cX8_most 223 = .ok (.istore 4, 2) := by decide +kernel
theorem dX8_most_225 : decode cX8_most 225 = .ok (.iload 4, 2) := by decide +kernel
theorem dX8_most_227 : decode cX8_most 227 = .ok (.iload_n 2, 1) := by decide +kernel
theorem dX8_most_228 : decode cX8_most 228 = .ok (.if_icmp .ge 87, 3) := by decide +kernel
theorem dX8_most_231 : decode cX8_most 231 = .ok (.aload_n 0, 1) := by decide +kernel
theorem dX8_most_232 : decode cX8_most 232 = .ok (.getfield 47, 3) := by decide +kernel
theorem dX8_most_235 : decode cX8_most 235 = .ok (.iload 4, 2) := by decide +kernel
theorem dX8_most_237 : decode cX8_most 237 = .ok (.iaload, 1) := by decide +kernel
theorem dX8_most_238 : decode cX8_most 238 = .ok (.iload_n 1, 1) := by decide +kernel
theorem dX8_most_239 : decode cX8_most 239 = .ok (.if_icmp .le 6, 3) := by decide +kernel
theorem dX8_most_242 : decode cX8_most 242 = .ok (.goto 67, 3) := by decide +kernel
theorem dX8_most_245 : decode cX8_most 245 = .ok (.aload_n 0, 1) := by decide +kernel
theorem dX8_most_246 : decode cX8_most 246 = .ok (.iload 4, 2) := by decide +kernel
theorem dX8_most_248 : decode cX8_most 248 = .ok (.invokevirtual 87, 3) := by decide +kernel
theorem dX8_most_251 : decode cX8_most 251 = .ok (.aload_n 0, 1) := by decide +kernel
theorem dX8_most_252 : decode cX8_most 252 = .ok (.iload_n 3, 1) := by decide +kernel
theorem dX8_most_253 : decode cX8_most 253 = .ok (.invokevirtual 87, 3) := by decide +kernel
theorem dX8_most_256 : decode cX8_most 256 = .ok (.isub, 1) := by decide +kernel
theorem dX8_most_257 : decode cX8_most 257 = .ok (.istore 5, 2) := by decide +kernel
theorem dX8_most_259 : decode cX8_most 259 = .ok (.iload 5, 2) := by decide +kernel
theorem dX8_most_261 : decode cX8_most 261 = .ok (.ifCond .ne 19, 3) := by decide +kernel
theorem dX8_most_264 : decode cX8_most 264 = .ok (.aload_n 0, 1) := by decide +kernel
theorem dX8_most_265 : decode cX8_most 265 = .ok (.getfield 47, 3) := by decide +kernel
theorem dX8_most_268 : decode cX8_most 268 = .ok (.iload_n 3, 1) := by decide +kernel
theorem dX8_most_269 : decode cX8_most 269 = .ok (.iaload, 1) := by decide +kernel
theorem dX8_most_270 : decode cX8_most 270 = .ok (.aload_n 0, 1) := by decide +kernel
theorem dX8_most_271 : decode cX8_most 271 = .ok (.getfield 47, 3) := by decide +kernel
theorem dX8_most_274 : decode cX8_most 274 = .ok (.iload 4, 2) := by decide +kernel
theorem dX8_most_276 : decode cX8_most 276 = .ok (.iaload, 1) := by decide +kernel
theorem dX8_most_277 : decode cX8_most 277 = .ok (.isub, 1) := by decide +kernel
theorem dX8_most_278 : decode cX8_most 278 = .ok (.istore 5, 2) := by decide +kernel
theorem dX8_most_280 : decode cX8_most 280 = .ok (.iload 5, 2) := by decide +kernel
theorem dX8_most_282 : decode cX8_most 282 = .ok (.ifCond .ne 19, 3) := by decide +kernel
theorem dX8_most_285 : decode cX8_most 285 = .ok (.aload_n 0, 1) := by decide +kernel
theorem dX8_most_286 : decode cX8_most 286 = .ok (.getfield 50, 3) := by decide +kernel
theorem dX8_most_289 : decode cX8_most 289 = .ok (.iload_n 3, 1) := by decide +kernel
theorem dX8_most_290 : decode cX8_most 290 = .ok (.iaload, 1) := by decide +kernel
theorem dX8_most_291 : decode cX8_most 291 = .ok (.aload_n 0, 1) := by decide +kernel
theorem dX8_most_292 : decode cX8_most 292 = .ok (.getfield 50, 3) := by decide +kernel
theorem dX8_most_295 : decode cX8_most 295 = .ok (.iload 4, 2) := by decide +kernel
theorem dX8_most_297 : decode cX8_most 297 = .ok (.iaload, 1) := by decide +kernel
theorem dX8_most_298 : decode cX8_most 298 = .ok (.isub, 1) := by decide +kernel
theorem dX8_most_299 : decode cX8_most 299 = .ok (.istore 5, 2) := by decide +kernel
theorem dX8_most_301 : decode cX8_most 301 = .ok (.iload 5, 2) := by decide +kernel
theorem dX8_most_303 : decode cX8_most 303 = .ok (.ifCond .le 6, 3) := by decide +kernel
theorem dX8_most_306 : decode cX8_most 306 = .ok (.iload 4, 2) := by decide +kernel
theorem dX8_most_308 : decode cX8_most 308 = .ok (.istore_n 3, 1) := by decide +kernel
theorem dX8_most_309 : decode cX8_most 309 = .ok (.iinc 4 1, 3) := by decide +kernel
theorem dX8_most_312 : decode cX8_most 312 = .ok (.goto (-87), 3) := by decide +kernel
theorem dX8_most_315 : decode cX8_most 315 = .ok (.aload_n 0, 1) := by decide +kernel
theorem dX8_most_316 : decode cX8_most 316 = .ok (.iload_n 3, 1) := by decide +kernel
theorem dX8_most_317 : decode cX8_most 317 = .ok (.invokevirtual 87, 3) := by decide +kernel
theorem dX8_most_320 : decode cX8_most 320 = .ok (.istore 4, 2) := by decide +kernel
theorem dX8_most_322 : decode cX8_most 322 = .ok (.iload_n 2, 1) := by decide +kernel
theorem dX8_most_323 : decode cX8_most 323 = .ok (.iconst 1, 1) := by decide +kernel
theorem dX8_most_324 : decode cX8_most 324 = .ok (.isub, 1) := by decide +kernel
theorem dX8_most_325 : decode cX8_most 325 = .ok (.istore 5, 2) := by decide +kernel
theorem dX8_most_327 : decode cX8_most 327 = .ok (.iload 5, 2) := by decide +kernel
theorem dX8_most_329 : decode cX8_most 329 = .ok (.ifCond .lt 157, 3) := by decide +kernel
theorem dX8_most_332 : decode cX8_most 332 = .ok (.aload_n 0, 1) := by decide +kernel
theorem dX8_most_333 : decode cX8_most 333 = .ok (.getfield 53, 3) := by decide +kernel
theorem dX8_most_336 : decode cX8_most 336 = .ok (.iload 5, 2) := by decide +kernel
theorem dX8_most_338 : decode cX8_most 338 = .ok (.aload_n 0, 1) := by decide +kernel
theorem dX8_most_339 : decode cX8_most 339 = .ok (.getfield 47, 3) := by decide +kernel
theorem dX8_most_342 : decode cX8_most 342 = .ok (.iload 5, 2) := by decide +kernel
theorem dX8_most_344 : decode cX8_most 344 = .ok (.iaload, 1) := by decide +kernel
theorem dX8_most_345 : decode cX8_most 345 = .ok (.aload_n 0, 1) := by decide +kernel
theorem dX8_most_346 : decode cX8_most 346 = .ok (.getfield 47, 3) := by decide +kernel
theorem dX8_most_349 : decode cX8_most 349 = .ok (.iload_n 3, 1) := by decide +kernel
theorem dX8_most_350 : decode cX8_most 350 = .ok (.iaload, 1) := by decide +kernel
theorem dX8_most_351 : decode cX8_most 351 = .ok (.if_icmp .ne 34, 3) := by decide +kernel
theorem dX8_most_354 : decode cX8_most 354 = .ok (.aload_n 0, 1) := by decide +kernel
theorem dX8_most_355 : decode cX8_most 355 = .ok (.getfield 50, 3) := by decide +kernel
theorem dX8_most_358 : decode cX8_most 358 = .ok (.iload 5, 2) := by decide +kernel
theorem dX8_most_360 : decode cX8_most 360 = .ok (.iaload, 1) := by decide +kernel
theorem dX8_most_361 : decode cX8_most 361 = .ok (.aload_n 0, 1) := by decide +kernel
theorem dX8_most_362 : decode cX8_most 362 = .ok (.getfield 50, 3) := by decide +kernel
theorem dX8_most_365 : decode cX8_most 365 = .ok (.iload_n 3, 1) := by decide +kernel
theorem dX8_most_366 : decode cX8_most 366 = .ok (.iaload, 1) := by decide +kernel
theorem dX8_most_367 : decode cX8_most 367 = .ok (.if_icmp .ne 18, 3) := by decide +kernel
theorem dX8_most_370 : decode cX8_most 370 = .ok (.aload_n 0, 1) := by decide +kernel
theorem dX8_most_371 : decode cX8_most 371 = .ok (.iload 5, 2) := by decide +kernel
theorem dX8_most_373 : decode cX8_most 373 = .ok (.invokevirtual 87, 3) := by decide +kernel
theorem dX8_most_376 : decode cX8_most 376 = .ok (.iload 4, 2) := by decide +kernel
theorem dX8_most_378 : decode cX8_most 378 = .ok (.if_icmp .ne 7, 3) := by decide +kernel
theorem dX8_most_381 : decode cX8_most 381 = .ok (.iconst 1, 1) := by decide +kernel
theorem dX8_most_382 : decode cX8_most 382 = .ok (.goto 4, 3) := by decide +kernel
theorem dX8_most_385 : decode cX8_most 385 = .ok (.iconst 0, 1) := by decide +kernel
theorem dX8_most_386 : decode cX8_most 386 = .ok (.bastore, 1) := by decide +kernel
theorem dX8_most_387 : decode cX8_most 387 = .ok (.iconst 0, 1) := by decide +kernel
theorem dX8_most_388 : decode cX8_most 388 = .ok (.istore 6, 2) := by decide +kernel
theorem dX8_most_390 : decode cX8_most 390 = .ok (.iload 6, 2) := by decide +kernel
theorem dX8_most_392 : decode cX8_most 392 = .ok (.iconst 2, 1) := by decide +kernel
theorem dX8_most_393 : decode cX8_most 393 = .ok (.aload_n 0, 1) := by decide +kernel
theorem dX8_most_394 : decode cX8_most 394 = .ok (.getfield 73, 3) := by decide +kernel
theorem dX8_most_397 : decode cX8_most 397 = .ok (.imul, 1) := by decide +kernel
theorem dX8_most_398 : decode cX8_most 398 = .ok (.if_icmp .ge 82, 3) := by decide +kernel
theorem dX8_most_401 : decode cX8_most 401 = .ok (.aload_n 0, 1) := by decide +kernel
theorem dX8_most_402 : decode cX8_most 402 = .ok (.getfield 47, 3) := by decide +kernel
theorem dX8_most_405 : decode cX8_most 405 = .ok (.iload 5, 2) := by decide +kernel
theorem dX8_most_407 : decode cX8_most 407 = .ok (.iaload, 1) := by decide +kernel
theorem dX8_most_408 : decode cX8_most 408 = .ok (.ldc 110, 2) := by decide +kernel
theorem dX8_most_410 : decode cX8_most 410 = .ok (.if_icmp .ge 70, 3) := by decide +kernel
theorem dX8_most_413 : decode cX8_most 413 = .ok (.aload_n 0, 1) := by decide +kernel
theorem dX8_most_414 : decode cX8_most 414 = .ok (.getfield 53, 3) := by decide +kernel
theorem dX8_most_417 : decode cX8_most 417 = .ok (.iload 5, 2) := by decide +kernel
theorem dX8_most_419 : decode cX8_most 419 = .ok (.baload, 1) := by decide +kernel
theorem dX8_most_420 : decode cX8_most 420 = .ok (.ifCond .ne 60, 3) := by decide +kernel
theorem dX8_most_423 : decode cX8_most 423 = .ok (.aload_n 0, 1) := by decide +kernel
theorem dX8_most_424 : decode cX8_most 424 = .ok (.iload 6, 2) := by decide +kernel
theorem dX8_most_426 : decode cX8_most 426 = .ok (.iload 5, 2) := by decide +kernel
theorem dX8_most_428 : decode cX8_most 428 = .ok (.invokevirtual 111, 3) := by decide +kernel
theorem dX8_most_431 : decode cX8_most 431 = .ok (.istore 7, 2) := by decide +kernel
theorem dX8_most_433 : decode cX8_most 433 = .ok (.aload_n 0, 1) := by decide +kernel
theorem dX8_most_434 : decode cX8_most 434 = .ok (.getfield 53, 3) := by decide +kernel
theorem dX8_most_437 : decode cX8_most 437 = .ok (.iload 5, 2) := by decide +kernel
theorem dX8_most_439 : decode cX8_most 439 = .ok (.iload 7, 2) := by decide +kernel
theorem dX8_most_441 : decode cX8_most 441 = .ok (.iconst (-1), 1) := by decide +kernel
theorem dX8_most_442 : decode cX8_most 442 = .ok (.if_icmp .eq 30, 3) := by decide +kernel
theorem dX8_most_445 : decode cX8_most 445 = .ok (.aload_n 0, 1) := by decide +kernel
theorem dX8_most_446 : decode cX8_most 446 = .ok (.getfield 53, 3) := by decide +kernel
theorem dX8_most_449 : decode cX8_most 449 = .ok (.iload 7, 2) := by decide +kernel
theorem dX8_most_451 : decode cX8_most 451 = .ok (.baload, 1) := by decide +kernel
theorem dX8_most_452 : decode cX8_most 452 = .ok (.ifCond .eq 20, 3) := by decide +kernel
theorem dX8_most_455 : decode cX8_most 455 = .ok (.aload_n 0, 1) := by decide +kernel
theorem dX8_most_456 : decode cX8_most 456 = .ok (.iload 6, 2) := by decide +kernel
theorem dX8_most_458 : decode cX8_most 458 = .ok (.iload 5, 2) := by decide +kernel
theorem dX8_most_460 : decode cX8_most 460 = .ok (.iload 7, 2) := by decide +kernel
theorem dX8_most_462 : decode cX8_most 462 = .ok (.invokevirtual 118, 3) := by decide +kernel
theorem dX8_most_465 : decode cX8_most 465 = .ok (.ifCond .eq 7, 3) := by decide +kernel
theorem dX8_most_468 : decode cX8_most 468 = .ok (.iconst 1, 1) := by decide +kernel
theorem dX8_most_469 : decode cX8_most 469 = .ok (.goto 4, 3) := by decide +kernel
theorem dX8_most_472 : decode cX8_most 472 = .ok (.iconst 0, 1) := by decide +kernel
theorem dX8_most_473 : decode cX8_most 473 = .ok (.bastore, 1) := by decide +kernel
theorem dX8_most_474 : decode cX8_most 474 = .ok (.iinc 6 1, 3) := by decide +kernel
theorem dX8_most_477 : decode cX8_most 477 = .ok (.goto (-87), 3) := by decide +kernel
theorem dX8_most_480 : decode cX8_most 480 = .ok (.iinc 5 (-1), 3) := by decide +kernel
theorem dX8_most_483 : decode cX8_most 483 = .ok (.goto (-156), 3) := by decide +kernel
theorem dX8_most_486 : decode cX8_most 486 = .ok (.iconst 0, 1) := by decide +kernel
theorem dX8_most_487 : decode cX8_most 487 = .ok (.istore 5, 2) := by decide +kernel
theorem dX8_most_489 : decode cX8_most 489 = .ok (.aload_n 0, 1) := by decide +kernel
theorem dX8_most_490 : decode cX8_most 490 = .ok (.getfield 84, 3) := by decide +kernel
theorem dX8_most_493 : decode cX8_most 493 = .ok (.istore 6, 2) := by decide +kernel
theorem dX8_most_495 : decode cX8_most 495 = .ok (.iload 5, 2) := by decide +kernel
theorem dX8_most_497 : decode cX8_most 497 = .ok (.aload_n 0, 1) := by decide +kernel
theorem dX8_most_498 : decode cX8_most 498 = .ok (.getfield 50, 3) := by decide +kernel
theorem dX8_most_501 : decode cX8_most 501 = .ok (.iload_n 3, 1) := by decide +kernel
theorem dX8_most_502 : decode cX8_most 502 = .ok (.iaload, 1) := by decide +kernel
theorem dX8_most_503 : decode cX8_most 503 = .ok (.if_icmp .ge 79, 3) := by decide +kernel
theorem dX8_most_506 : decode cX8_most 506 = .ok (.iconst 0, 1) := by decide +kernel
theorem dX8_most_507 : decode cX8_most 507 = .ok (.istore 7, 2) := by decide +kernel
theorem dX8_most_509 : decode cX8_most 509 = .ok (.aload_n 0, 1) := by decide +kernel
theorem dX8_most_510 : decode cX8_most 510 = .ok (.iload 7, 2) := by decide +kernel
theorem dX8_most_512 : decode cX8_most 512 = .ok (.iload 6, 2) := by decide +kernel
theorem dX8_most_514 : decode cX8_most 514 = .ok (.invokevirtual 111, 3) := by decide +kernel
theorem dX8_most_517 : decode cX8_most 517 = .ok (.istore 8, 2) := by decide +kernel
theorem dX8_most_519 : decode cX8_most 519 = .ok (.iload 8, 2) := by decide +kernel
theorem dX8_most_521 : decode cX8_most 521 = .ok (.iconst (-1), 1) := by decide +kernel
theorem dX8_most_522 : decode cX8_most 522 = .ok (.if_icmp .eq 29, 3) := by decide +kernel
theorem dX8_most_525 : decode cX8_most 525 = .ok (.aload_n 0, 1) := by decide +kernel
theorem dX8_most_526 : decode cX8_most 526 = .ok (.getfield 53, 3) := by decide +kernel
theorem dX8_most_529 : decode cX8_most 529 = .ok (.iload 8, 2) := by decide +kernel
theorem dX8_most_531 : decode cX8_most 531 = .ok (.baload, 1) := by decide +kernel
theorem dX8_most_532 : decode cX8_most 532 = .ok (.ifCond .eq 19, 3) := by decide +kernel
theorem dX8_most_535 : decode cX8_most 535 = .ok (.aload_n 0, 1) := by decide +kernel
theorem dX8_most_536 : decode cX8_most 536 = .ok (.iload 7, 2) := by decide +kernel
theorem dX8_most_538 : decode cX8_most 538 = .ok (.iload 6, 2) := by decide +kernel
theorem dX8_most_540 : decode cX8_most 540 = .ok (.iload 8, 2) := by decide +kernel
theorem dX8_most_542 : decode cX8_most 542 = .ok (.invokevirtual 118, 3) := by decide +kernel
theorem dX8_most_545 : decode cX8_most 545 = .ok (.ifCond .eq 6, 3) := by decide +kernel
theorem dX8_most_548 : decode cX8_most 548 = .ok (.goto 9, 3) := by decide +kernel
theorem dX8_most_551 : decode cX8_most 551 = .ok (.iinc 7 1, 3) := by decide +kernel
theorem dX8_most_554 : decode cX8_most 554 = .ok (.goto (-45), 3) := by decide +kernel
theorem dX8_most_557 : decode cX8_most 557 = .ok (.aload_n 0, 1) := by decide +kernel
theorem dX8_most_558 : decode cX8_most 558 = .ok (.getfield 35, 3) := by decide +kernel
theorem dX8_most_561 : decode cX8_most 561 = .ok (.iload 5, 2) := by decide +kernel
theorem dX8_most_563 : decode cX8_most 563 = .ok (.iload 7, 2) := by decide +kernel
theorem dX8_most_565 : decode cX8_most 565 = .ok (.iastore, 1) := by decide +kernel
theorem dX8_most_566 : decode cX8_most 566 = .ok (.iinc 5 1, 3) := by decide +kernel
theorem dX8_most_569 : decode cX8_most 569 = .ok (.aload_n 0, 1) := by decide +kernel
theorem dX8_most_570 : decode cX8_most 570 = .ok (.iload 7, 2) := by decide +kernel
theorem dX8_most_572 : decode cX8_most 572 = .ok (.iload 6, 2) := by decide +kernel
theorem dX8_most_574 : decode cX8_most 574 = .ok (.invokevirtual 103, 3) := by decide +kernel
theorem dX8_most_577 : decode cX8_most 577 = .ok (.istore 6, 2) := by decide +kernel
theorem dX8_most_579 : decode cX8_most 579 = .ok (.goto (-84), 3) := by decide +kernel
theorem dX8_most_582 : decode cX8_most 582 = .ok (.aload_n 0, 1) := by decide +kernel
theorem dX8_most_583 : decode cX8_most 583 = .ok (.iload 5, 2) := by decide +kernel
theorem dX8_most_585 : decode cX8_most 585 = .ok (.putfield 90, 3) := by decide +kernel
theorem dX8_most_588 : decode cX8_most 588 = .ok (.iload 4, 2) := by decide +kernel
theorem dX8_most_590 : decode cX8_most 590 = .ok (.ireturn, 1) := by decide +kernel
set_option maxRecDepth 20000 in
theorem ggX8_reached_X8_canDo : GoodIn wsX8_reached wsX8_canDo := goodIn_r _ [7, 8, 9, 22, 23, 24, 25, 26, 27, 28, 29, 30, 31, 32, 33, 34, 35, 36, 37, 38, 39, 40, 41, 42, 43, 44, 45] (by decide +kernel) (by decide +kernel)
set_option maxRecDepth 20000 in
theorem gX8_reached_X8_canDo : GoodIn wsX8_reached (wsV RX8 99 RX8 yX8_canDo wsX8_canDo) := goodIn_app (goodIn_of _ (by decide +kernel)) ggX8_reached_X8_canDo
set_option maxRecDepth 20000 in
theorem ggX8_reached_X8_behind : GoodIn wsX8_reached wsX8_behind := goodIn_r _ [13, 14, 15, 16, 17, 18, 6, 19, 20, 21, 22, 23, 24, 25, 26, 27, 28, 29, 30, 31, 32, 33, 34, 35, 36, 37, 38, 39, 40, 41, 42, 43, 44, 45] (by decide +kernel) (by decide +kernel)
set_option maxRecDepth 20000 in
theorem gX8_reached_X8_behind : GoodIn wsX8_reached (wsV RX8 103 RX8 yX8_behind wsX8_behind) := goodIn_app (goodIn_of _ (by decide +kernel)) ggX8_reached_X8_behind
theorem dX8_reached_0 : decode cX8_reached 0 = .ok (.aload_n 0, 1) := by decide +kernel
theorem dX8_reached_1 : decode cX8_reached 1 = .ok (.getfield 84, 3) := by decide +kernel
theorem dX8_reached_4 : decode cX8_reached 4 = .ok (.istore_n 1, 1) := by decide +kernel
theorem dX8_reached_5 : decode cX8_reached 5 = .ok (.iconst 1, 1) := by decide +kernel
theorem dX8_reached_6 : decode cX8_reached 6 = .ok (.istore_n 2, 1) := by decide +kernel
theorem dX8_reached_7 : decode cX8_reached 7 = .ok (.iload_n 2, 1) := by decide +kernel
theorem dX8_reached_8 : decode cX8_reached 8 = .ok (.ifCond .eq 57, 3) := by decide +kernel
theorem dX8_reached_11 : decode cX8_reached 11 = .ok (.iload_n 1, 1) := by decide +kernel
theorem dX8_reached_12 : decode cX8_reached 12 = .ok (.istore_n 3, 1) := by decide +kernel
theorem dX8_reached_13 : decode cX8_reached 13 = .ok (.iconst 0, 1) := by decide +kernel
theorem dX8_reached_14 : decode cX8_reached 14 = .ok (.istore 4, 2) := by decide +kernel
theorem dX8_reached_16 : decode cX8_reached 16 = .ok (.iload 4, 2) := by decide +kernel
theorem dX8_reached_18 : decode cX8_reached 18 = .ok (.iconst 2, 1) := by decide +kernel
theorem dX8_reached_19 : decode cX8_reached 19 = .ok (.aload_n 0, 1) := by decide +kernel
theorem dX8_reached_20 : decode cX8_reached 20 = .ok (.getfield 73, 3) := by decide +kernel
theorem dX8_reached_23 : decode cX8_reached 23 = .ok (.imul, 1) := by decide +kernel
theorem dX8_reached_24 : decode cX8_reached 24 = .ok (.if_icmp .ge 27, 3) := by decide +kernel
theorem dX8_reached_27 : decode cX8_reached 27 = .ok (.aload_n 0, 1) := by decide +kernel
theorem dX8_reached_28 : decode cX8_reached 28 = .ok (.iload 4, 2) := by decide +kernel
theorem dX8_reached_30 : decode cX8_reached 30 = .ok (.iload_n 1, 1) := by decide +kernel
theorem dX8_reached_31 : decode cX8_reached 31 = .ok (.invokevirtual 99, 3) := by decide +kernel
theorem dX8_reached_34 : decode cX8_reached 34 = .ok (.ifCond .eq 11, 3) := by decide +kernel
theorem dX8_reached_37 : decode cX8_reached 37 = .ok (.aload_n 0, 1) := by decide +kernel
theorem dX8_reached_38 : decode cX8_reached 38 = .ok (.iload 4, 2) := by decide +kernel
theorem dX8_reached_40 : decode cX8_reached 40 = .ok (.iload_n 1, 1) := by decide +kernel
theorem dX8_reached_41 : decode cX8_reached 41 = .ok (.invokevirtual 103, 3) := by decide +kernel
theorem dX8_reached_44 : decode cX8_reached 44 = .ok (.istore_n 1, 1) := by decide +kernel
theorem dX8_reached_45 : decode cX8_reached 45 = .ok (.iinc 4 2, 3) := by decide +kernel
theorem dX8_reached_48 : decode cX8_reached 48 = .ok (.goto (-32), 3) := by decide +kernel
theorem dX8_reached_51 : decode cX8_reached 51 = .ok (.iload_n 1, 1) := by decide +kernel
theorem dX8_reached_52 : decode cX8_reached 52 = .ok (.iload_n 3, 1) := by decide +kernel
theorem dX8_reached_53 : decode cX8_reached 53 = .ok (.if_icmp .eq 7, 3) := by decide +kernel
theorem dX8_reached_56 : decode cX8_reached 56 = .ok (.iconst 1, 1) := by decide +kernel
theorem dX8_reached_57 : decode cX8_reached 57 = .ok (.goto 4, 3) := by decide +kernel
theorem dX8_reached_60 : decode cX8_reached 60 = .ok (.iconst 0, 1) := by decide +kernel
theorem dX8_reached_61 : decode cX8_reached 61 = .ok (.istore_n 2, 1) := by decide +kernel
theorem dX8_reached_62 : decode cX8_reached 62 = .ok (.goto (-55), 3) := by decide +kernel
theorem dX8_reached_65 : decode cX8_reached 65 = .ok (.iload_n 1, 1) := by decide +kernel
theorem dX8_reached_66 : decode cX8_reached 66 = .ok (.ireturn, 1) := by decide +kernel
set_option maxRecDepth 20000 in
theorem ggX8_reach_X8_reached : GoodIn wsX8_reach wsX8_reached := goodIn_r _ [6, 7, 8, 9, 10, 11, 5, 12, 13, 14, 15, 16, 17, 18, 19, 20, 21, 22, 23, 24, 25, 26, 27, 28, 29, 30, 31, 32, 33, 34, 35, 36, 37, 38, 39, 40, 41, 42, 43, 44, 45, 46, 47, 48, 49, 50] (by decide +kernel) (by decide +kernel)
set_option maxRecDepth 20000 in
theorem gX8_reach_X8_reached : GoodIn wsX8_reach (wsV RX8 121 RX8 yX8_reached wsX8_reached) := goodIn_app (goodIn_of _ (by decide +kernel)) ggX8_reach_X8_reached
theorem dX8_reach_0 : decode cX8_reach 0 = .ok (.aload_n 0, 1) := by decide +kernel
theorem dX8_reach_1 : decode cX8_reach 1 = .ok (.iconst 0, 1) := by decide +kernel
theorem dX8_reach_2 : decode cX8_reach 2 = .ok (.putfield 63, 3) := by decide +kernel
theorem dX8_reach_5 : decode cX8_reach 5 = .ok (.aload_n 0, 1) := by decide +kernel
theorem dX8_reach_6 : decode cX8_reach 6 = .ok (.invokevirtual 121, 3) := by decide +kernel
theorem dX8_reach_9 : decode cX8_reach 9 = .ok (.ireturn, 1) := by decide +kernel
set_option maxRecDepth 20000 in
theorem ggX8_gaps_X8_withAll : GoodIn wsX8_gaps wsX8_withAll := goodIn_r _ [10, 11, 12, 13, 14, 15, 16, 17, 18, 19, 20, 21, 22, 23, 24, 25, 26, 27, 28, 29, 30, 31, 32, 33, 34, 35, 36] (by decide +kernel) (by decide +kernel)
set_option maxRecDepth 20000 in
theorem gX8_gaps_X8_withAll : GoodIn wsX8_gaps (wsV RX8 80 RX8 yX8_withAll wsX8_withAll) := goodIn_app (goodIn_of _ (by decide +kernel)) ggX8_gaps_X8_withAll
theorem dX8_gaps_0 : decode cX8_gaps 0 = .ok (.aload_n 0, 1) := by decide +kernel
theorem dX8_gaps_1 : decode cX8_gaps 1 = .ok (.iconst 0, 1) := by decide +kernel
theorem dX8_gaps_2 : decode cX8_gaps 2 = .ok (.putfield 63, 3) := by decide +kernel
theorem dX8_gaps_5 : decode cX8_gaps 5 = .ok (.iconst 0, 1) := by decide +kernel
theorem dX8_gaps_6 : decode cX8_gaps 6 = .ok (.istore_n 1, 1) := by decide +kernel
theorem dX8_gaps_7 : decode cX8_gaps 7 = .ok (.aload_n 0, 1) := by decide +kernel
theorem dX8_gaps_8 : decode cX8_gaps 8 = .ok (.getfield 84, 3) := by decide +kernel
theorem dX8_gaps_11 : decode cX8_gaps 11 = .ok (.istore_n 2, 1) := by decide +kernel
theorem dX8_gaps_12 : decode cX8_gaps 12 = .ok (.iconst 0, 1) := by decide +kernel
theorem dX8_gaps_13 : decode cX8_gaps 13 = .ok (.istore_n 3, 1) := by decide +kernel
theorem dX8_gaps_14 : decode cX8_gaps 14 = .ok (.iload_n 3, 1) := by decide +kernel
theorem dX8_gaps_15 : decode cX8_gaps 15 = .ok (.aload_n 0, 1) := by decide +kernel
theorem dX8_gaps_16 : decode cX8_gaps 16 = .ok (.getfield 73, 3) := by decide +kernel
theorem dX8_gaps_19 : decode cX8_gaps 19 = .ok (.if_icmp .ge 31, 3) := by decide +kernel
theorem dX8_gaps_22 : decode cX8_gaps 22 = .ok (.iload_n 1, 1) := by decide +kernel
theorem dX8_gaps_23 : decode cX8_gaps 23 = .ok (.aload_n 0, 1) := by decide +kernel
theorem dX8_gaps_24 : decode cX8_gaps 24 = .ok (.getfield 16, 3) := by decide +kernel
theorem dX8_gaps_27 : decode cX8_gaps 27 = .ok (.iload_n 3, 1) := by decide +kernel
theorem dX8_gaps_28 : decode cX8_gaps 28 = .ok (.iaload, 1) := by decide +kernel
theorem dX8_gaps_29 : decode cX8_gaps 29 = .ok (.ior, 1) := by decide +kernel
theorem dX8_gaps_30 : decode cX8_gaps 30 = .ok (.istore_n 1, 1) := by decide +kernel
theorem dX8_gaps_31 : decode cX8_gaps 31 = .ok (.iload_n 2, 1) := by decide +kernel
theorem dX8_gaps_32 : decode cX8_gaps 32 = .ok (.aload_n 0, 1) := by decide +kernel
theorem dX8_gaps_33 : decode cX8_gaps 33 = .ok (.aload_n 0, 1) := by decide +kernel
theorem dX8_gaps_34 : decode cX8_gaps 34 = .ok (.getfield 22, 3) := by decide +kernel
theorem dX8_gaps_37 : decode cX8_gaps 37 = .ok (.iload_n 3, 1) := by decide +kernel
theorem dX8_gaps_38 : decode cX8_gaps 38 = .ok (.iaload, 1) := by decide +kernel
theorem dX8_gaps_39 : decode cX8_gaps 39 = .ok (.invokevirtual 80, 3) := by decide +kernel
theorem dX8_gaps_42 : decode cX8_gaps 42 = .ok (.ior, 1) := by decide +kernel
theorem dX8_gaps_43 : decode cX8_gaps 43 = .ok (.istore_n 2, 1) := by decide +kernel
theorem dX8_gaps_44 : decode cX8_gaps 44 = .ok (.iinc 3 1, 3) := by decide +kernel
theorem dX8_gaps_47 : decode cX8_gaps 47 = .ok (.goto (-33), 3) := by decide +kernel
theorem dX8_gaps_50 : decode cX8_gaps 50 = .ok (.iload_n 1, 1) := by decide +kernel
theorem dX8_gaps_51 : decode cX8_gaps 51 = .ok (.iload_n 2, 1) := by decide +kernel
theorem dX8_gaps_52 : decode cX8_gaps 52 = .ok (.iconst (-1), 1) := by decide +kernel
theorem dX8_gaps_53 : decode cX8_gaps 53 = .ok (.ixor, 1) := by decide +kernel
theorem dX8_gaps_54 : decode cX8_gaps 54 = .ok (.iand, 1) := by decide +kernel
theorem dX8_gaps_55 : decode cX8_gaps 55 = .ok (.ireturn, 1) := by decide +kernel
set_option maxRecDepth 20000 in
theorem ggX8_shortens_X8_in : GoodIn wsX8_shortens wsX8_in := goodIn_r _ [9] (by decide +kernel) (by decide +kernel)
set_option maxRecDepth 20000 in
theorem gX8_shortens_X8_in : GoodIn wsX8_shortens (va_wsS RX8 69 yX8_in wsX8_in) := goodIn_app (goodIn_of _ (by decide +kernel)) ggX8_shortens_X8_in
set_option maxRecDepth 20000 in
theorem ggX8_shortens_X8_areBits : GoodIn wsX8_shortens wsX8_areBits := goodIn_r _ [13, 14, 6, 7, 8, 9, 48, 49, 50, 51, 52, 53, 54, 55, 56, 57, 58, 59, 60, 61, 62, 63, 64, 65, 66, 67, 68, 69, 70, 71] (by decide +kernel) (by decide +kernel)
set_option maxRecDepth 20000 in
theorem gX8_shortens_X8_areBits : GoodIn wsX8_shortens (wsV RX8 76 RX8 yX8_areBits wsX8_areBits) := goodIn_app (goodIn_of _ (by decide +kernel)) ggX8_shortens_X8_areBits
set_option maxRecDepth 20000 in
theorem ggX8_shortens_X8_findWays : GoodIn wsX8_shortens wsX8_findWays := goodIn_r _ [18, 19, 14, 3, 5, 20, 2, 21, 22, 23, 8, 24, 25, 26, 27, 28, 29, 30, 31, 32, 33, 34, 35, 36, 37, 38, 39, 40, 41, 42, 43, 44, 45, 46, 47, 48, 49, 50, 51, 52, 53, 54, 55, 56, 57, 58, 59, 60, 61, 62, 63, 64, 65, 66, 67, 68, 69, 70, 71] (by decide +kernel) (by decide +kernel)
set_option maxRecDepth 20000 in
theorem gX8_shortens_X8_findWays : GoodIn wsX8_shortens (wsV RX8 114 RX8 yX8_findWays wsX8_findWays) := goodIn_app (goodIn_of _ (by decide +kernel)) ggX8_shortens_X8_findWays
theorem dX8_shortens_0 : decode cX8_shortens 0 = .ok (.aload_n 0, 1) := by decide +kernel
theorem dX8_shortens_1 : decode cX8_shortens 1 = .ok (.iconst 0, 1) := by decide +kernel
theorem dX8_shortens_2 : decode cX8_shortens 2 = .ok (.putfield 63, 3) := by decide +kernel
theorem dX8_shortens_5 : decode cX8_shortens 5 = .ok (.iload_n 1, 1) := by decide +kernel
theorem dX8_shortens_6 : decode cX8_shortens 6 = .ok (.iconst 0, 1) := by decide +kernel
theorem dX8_shortens_7 : decode cX8_shortens 7 = .ok (.aload_n 0, 1) := by decide +kernel
theorem dX8_shortens_8 : decode cX8_shortens 8 = .ok (.getfield 73, 3) := by decide +kernel
theorem dX8_shortens_11 : decode cX8_shortens 11 = .ok (.iconst 1, 1) := by decide +kernel
theorem dX8_shortens_12 : decode cX8_shortens 12 = .ok (.isub, 1) := by decide +kernel
theorem dX8_shortens_13 : decode cX8_shortens 13 = .ok (.invokestatic 69, 3) := by decide +kernel
theorem dX8_shortens_16 : decode cX8_shortens 16 = .ok (.ifCond .eq 11, 3) := by decide +kernel
theorem dX8_shortens_19 : decode cX8_shortens 19 = .ok (.aload_n 0, 1) := by decide +kernel
theorem dX8_shortens_20 : decode cX8_shortens 20 = .ok (.iload_n 2, 1) := by decide +kernel
theorem dX8_shortens_21 : decode cX8_shortens 21 = .ok (.invokevirtual 76, 3) := by decide +kernel
theorem dX8_shortens_24 : decode cX8_shortens 24 = .ok (.ifCond .ne 5, 3) := by decide +kernel
theorem dX8_shortens_27 : decode cX8_shortens 27 = .ok (.iconst (-1), 1) := by decide +kernel
theorem dX8_shortens_28 : decode cX8_shortens 28 = .ok (.ireturn, 1) := by decide +kernel
theorem dX8_shortens_29 : decode cX8_shortens 29 = .ok (.aload_n 0, 1) := by decide +kernel
theorem dX8_shortens_30 : decode cX8_shortens 30 = .ok (.iload_n 2, 1) := by decide +kernel
theorem dX8_shortens_31 : decode cX8_shortens 31 = .ok (.iconst (-1), 1) := by decide +kernel
theorem dX8_shortens_32 : decode cX8_shortens 32 = .ok (.invokevirtual 114, 3) := by decide +kernel
theorem dX8_shortens_35 : decode cX8_shortens 35 = .ok (.aload_n 0, 1) := by decide +kernel
theorem dX8_shortens_36 : decode cX8_shortens 36 = .ok (.getfield 47, 3) := by decide +kernel
theorem dX8_shortens_39 : decode cX8_shortens 39 = .ok (.aload_n 0, 1) := by decide +kernel
theorem dX8_shortens_40 : decode cX8_shortens 40 = .ok (.getfield 84, 3) := by decide +kernel
theorem dX8_shortens_43 : decode cX8_shortens 43 = .ok (.iaload, 1) := by decide +kernel
theorem dX8_shortens_44 : decode cX8_shortens 44 = .ok (.istore_n 3, 1) := by decide +kernel
theorem dX8_shortens_45 : decode cX8_shortens 45 = .ok (.iload_n 3, 1) := by decide +kernel
theorem dX8_shortens_46 : decode cX8_shortens 46 = .ok (.ldc 110, 2) := by decide +kernel
theorem dX8_shortens_48 : decode cX8_shortens 48 = .ok (.if_icmp .ne 5, 3) := by decide +kernel
theorem dX8_shortens_51 : decode cX8_shortens 51 = .ok (.iconst (-1), 1) := by decide +kernel
theorem dX8_shortens_52 : decode cX8_shortens 52 = .ok (.ireturn, 1) := by decide +kernel
theorem dX8_shortens_53 : decode cX8_shortens 53 = .ok (.aload_n 0, 1) := by decide +kernel
theorem dX8_shortens_54 : decode cX8_shortens 54 = .ok (.iload_n 2, 1) := by decide +kernel
theorem dX8_shortens_55 : decode cX8_shortens 55 = .ok (.iload_n 1, 1) := by decide +kernel
theorem dX8_shortens_56 : decode cX8_shortens 56 = .ok (.invokevirtual 114, 3) := by decide +kernel
theorem dX8_shortens_59 : decode cX8_shortens 59 = .ok (.aload_n 0, 1) := by decide +kernel
theorem dX8_shortens_60 : decode cX8_shortens 60 = .ok (.getfield 47, 3) := by decide +kernel
theorem dX8_shortens_63 : decode cX8_shortens 63 = .ok (.aload_n 0, 1) := by decide +kernel
theorem dX8_shortens_64 : decode cX8_shortens 64 = .ok (.getfield 84, 3) := by decide +kernel
theorem dX8_shortens_67 : decode cX8_shortens 67 = .ok (.iaload, 1) := by decide +kernel
theorem dX8_shortens_68 : decode cX8_shortens 68 = .ok (.ldc 110, 2) := by decide +kernel
theorem dX8_shortens_70 : decode cX8_shortens 70 = .ok (.if_icmp .ne 8, 3) := by decide +kernel
theorem dX8_shortens_73 : decode cX8_shortens 73 = .ok (.bipush (-2), 2) := by decide +kernel
theorem dX8_shortens_75 : decode cX8_shortens 75 = .ok (.goto 14, 3) := by decide +kernel
theorem dX8_shortens_78 : decode cX8_shortens 78 = .ok (.aload_n 0, 1) := by decide +kernel
theorem dX8_shortens_79 : decode cX8_shortens 79 = .ok (.getfield 47, 3) := by decide +kernel
theorem dX8_shortens_82 : decode cX8_shortens 82 = .ok (.aload_n 0, 1) := by decide +kernel
theorem dX8_shortens_83 : decode cX8_shortens 83 = .ok (.getfield 84, 3) := by decide +kernel
theorem dX8_shortens_86 : decode cX8_shortens 86 = .ok (.iaload, 1) := by decide +kernel
theorem dX8_shortens_87 : decode cX8_shortens 87 = .ok (.iload_n 3, 1) := by decide +kernel
theorem dX8_shortens_88 : decode cX8_shortens 88 = .ok (.isub, 1) := by decide +kernel
theorem dX8_shortens_89 : decode cX8_shortens 89 = .ok (.ireturn, 1) := by decide +kernel
set_option maxRecDepth 20000 in
theorem ggX8_week_X8_in : GoodIn wsX8_week wsX8_in := goodIn_r _ [6] (by decide +kernel) (by decide +kernel)
set_option maxRecDepth 20000 in
theorem gX8_week_X8_in : GoodIn wsX8_week (va_wsS RX8 69 yX8_in wsX8_in) := goodIn_app (goodIn_of _ (by decide +kernel)) ggX8_week_X8_in
theorem dX8_week_0 : decode cX8_week 0 = .ok (.aload_n 0, 1) := by decide +kernel
theorem dX8_week_1 : decode cX8_week 1 = .ok (.iconst 0, 1) := by decide +kernel
theorem dX8_week_2 : decode cX8_week 2 = .ok (.putfield 63, 3) := by decide +kernel
theorem dX8_week_5 : decode cX8_week 5 = .ok (.iload_n 1, 1) := by decide +kernel
theorem dX8_week_6 : decode cX8_week 6 = .ok (.iconst 0, 1) := by decide +kernel
theorem dX8_week_7 : decode cX8_week 7 = .ok (.bipush 51, 2) := by decide +kernel
theorem dX8_week_9 : decode cX8_week 9 = .ok (.invokestatic 69, 3) := by decide +kernel
theorem dX8_week_12 : decode cX8_week 12 = .ok (.ifCond .eq 14, 3) := by decide +kernel
theorem dX8_week_15 : decode cX8_week 15 = .ok (.iload_n 2, 1) := by decide +kernel
theorem dX8_week_16 : decode cX8_week 16 = .ok (.iconst 0, 1) := by decide +kernel
theorem dX8_week_17 : decode cX8_week 17 = .ok (.sipush 3000, 3) := by decide +kernel
theorem dX8_week_20 : decode cX8_week 20 = .ok (.invokestatic 69, 3) := by decide +kernel
theorem dX8_week_23 : decode cX8_week 23 = .ok (.ifCond .ne 5, 3) := by decide +kernel
theorem dX8_week_26 : decode cX8_week 26 = .ok (.iconst 0, 1) := by decide +kernel
theorem dX8_week_27 : decode cX8_week 27 = .ok (.ireturn, 1) := by decide +kernel
theorem dX8_week_28 : decode cX8_week 28 = .ok (.aload_n 0, 1) := by decide +kernel
theorem dX8_week_29 : decode cX8_week 29 = .ok (.getfield 38, 3) := by decide +kernel
theorem dX8_week_32 : decode cX8_week 32 = .ok (.iload_n 1, 1) := by decide +kernel
theorem dX8_week_33 : decode cX8_week 33 = .ok (.iload_n 2, 1) := by decide +kernel
theorem dX8_week_34 : decode cX8_week 34 = .ok (.iastore, 1) := by decide +kernel
theorem dX8_week_35 : decode cX8_week 35 = .ok (.iconst 1, 1) := by decide +kernel
theorem dX8_week_36 : decode cX8_week 36 = .ok (.ireturn, 1) := by decide +kernel
set_option maxRecDepth 20000 in
theorem ggX8_lay_X8_in : GoodIn wsX8_lay wsX8_in := goodIn_r _ [11] (by decide +kernel) (by decide +kernel)
set_option maxRecDepth 20000 in
theorem gX8_lay_X8_in : GoodIn wsX8_lay (va_wsS RX8 69 yX8_in wsX8_in) := goodIn_app (goodIn_of _ (by decide +kernel)) ggX8_lay_X8_in
set_option maxRecDepth 20000 in
theorem ggX8_lay_X8_isStep : GoodIn wsX8_lay wsX8_isStep := goodIn_r _ [15, 16, 8, 9, 10, 11, 23, 24, 25, 26, 27, 28, 29, 30, 31, 32, 33, 34, 35, 36, 37, 38, 39, 40, 41, 42, 43, 44, 45, 46] (by decide +kernel) (by decide +kernel)
set_option maxRecDepth 20000 in
theorem gX8_lay_X8_isStep : GoodIn wsX8_lay (wsV RX8 93 RX8 yX8_isStep wsX8_isStep) := goodIn_app (goodIn_of _ (by decide +kernel)) ggX8_lay_X8_isStep
set_option maxRecDepth 20000 in
theorem ggX8_lay_X8_time : GoodIn wsX8_lay wsX8_time := goodIn_r _ [20, 21, 22, 23, 24, 25, 26, 27, 28, 29, 30, 31, 32, 33, 34, 35, 36, 37, 38, 39, 40, 41, 42, 43, 44, 45, 46] (by decide +kernel) (by decide +kernel)
set_option maxRecDepth 20000 in
theorem gX8_lay_X8_time : GoodIn wsX8_lay (wsV RX8 96 RX8 yX8_time wsX8_time) := goodIn_app (goodIn_of _ (by decide +kernel)) ggX8_lay_X8_time
theorem dX8_lay_0 : decode cX8_lay 0 = .ok (.aload_n 0, 1) := by decide +kernel
theorem dX8_lay_1 : decode cX8_lay 1 = .ok (.iconst 0, 1) := by decide +kernel
theorem dX8_lay_2 : decode cX8_lay 2 = .ok (.putfield 63, 3) := by decide +kernel
theorem dX8_lay_5 : decode cX8_lay 5 = .ok (.iload_n 1, 1) := by decide +kernel
theorem dX8_lay_6 : decode cX8_lay 6 = .ok (.iconst 0, 1) := by decide +kernel
theorem dX8_lay_7 : decode cX8_lay 7 = .ok (.bipush 51, 2) := by decide +kernel
theorem dX8_lay_9 : decode cX8_lay 9 = .ok (.invokestatic 69, 3) := by decide +kernel
theorem dX8_lay_12 : decode cX8_lay 12 = .ok (.ifCond .ne 5, 3) := by decide +kernel
theorem dX8_lay_15 : decode cX8_lay 15 = .ok (.iconst (-1), 1) := by decide +kernel
theorem dX8_lay_16 : decode cX8_lay 16 = .ok (.ireturn, 1) := by decide +kernel
theorem dX8_lay_17 : decode cX8_lay 17 = .ok (.iload_n 1, 1) := by decide +kernel
theorem dX8_lay_18 : decode cX8_lay 18 = .ok (.istore_n 2, 1) := by decide +kernel
theorem dX8_lay_19 : decode cX8_lay 19 = .ok (.iconst 0, 1) := by decide +kernel
theorem dX8_lay_20 : decode cX8_lay 20 = .ok (.istore_n 3, 1) := by decide +kernel
theorem dX8_lay_21 : decode cX8_lay 21 = .ok (.iconst 0, 1) := by decide +kernel
theorem dX8_lay_22 : decode cX8_lay 22 = .ok (.istore 4, 2) := by decide +kernel
theorem dX8_lay_24 : decode cX8_lay 24 = .ok (.iload 4, 2) := by decide +kernel
theorem dX8_lay_26 : decode cX8_lay 26 = .ok (.aload_n 0, 1) := by decide +kernel
theorem dX8_lay_27 : decode cX8_lay 27 = .ok (.getfield 90, 3) := by decide +kernel
theorem dX8_lay_30 : decode cX8_lay 30 = .ok (.if_icmp .ge 93, 3) := by decide +kernel
theorem dX8_lay_33 : decode cX8_lay 33 = .ok (.aload_n 0, 1) := by decide +kernel
theorem dX8_lay_34 : decode cX8_lay 34 = .ok (.aload_n 0, 1) := by decide +kernel
theorem dX8_lay_35 : decode cX8_lay 35 = .ok (.getfield 35, 3) := by decide +kernel
theorem dX8_lay_38 : decode cX8_lay 38 = .ok (.iload 4, 2) := by decide +kernel
theorem dX8_lay_40 : decode cX8_lay 40 = .ok (.iaload, 1) := by decide +kernel
theorem dX8_lay_41 : decode cX8_lay 41 = .ok (.invokevirtual 93, 3) := by decide +kernel
theorem dX8_lay_44 : decode cX8_lay 44 = .ok (.ifCond .ne 6, 3) := by decide +kernel
theorem dX8_lay_47 : decode cX8_lay 47 = .ok (.bipush (-2), 2) := by decide +kernel
theorem dX8_lay_49 : decode cX8_lay 49 = .ok (.ireturn, 1) := by decide +kernel
theorem dX8_lay_50 : decode cX8_lay 50 = .ok (.iload_n 2, 1) := by decide +kernel
theorem dX8_lay_51 : decode cX8_lay 51 = .ok (.bipush 52, 2) := by decide +kernel
theorem dX8_lay_53 : decode cX8_lay 53 = .ok (.if_icmp .ge 33, 3) := by decide +kernel
theorem dX8_lay_56 : decode cX8_lay 56 = .ok (.iload_n 3, 1) := by decide +kernel
theorem dX8_lay_57 : decode cX8_lay 57 = .ok (.aload_n 0, 1) := by decide +kernel
theorem dX8_lay_58 : decode cX8_lay 58 = .ok (.aload_n 0, 1) := by decide +kernel
theorem dX8_lay_59 : decode cX8_lay 59 = .ok (.getfield 35, 3) := by decide +kernel
theorem dX8_lay_62 : decode cX8_lay 62 = .ok (.iload 4, 2) := by decide +kernel
theorem dX8_lay_64 : decode cX8_lay 64 = .ok (.iaload, 1) := by decide +kernel
theorem dX8_lay_65 : decode cX8_lay 65 = .ok (.invokevirtual 96, 3) := by decide +kernel
theorem dX8_lay_68 : decode cX8_lay 68 = .ok (.iadd, 1) := by decide +kernel
theorem dX8_lay_69 : decode cX8_lay 69 = .ok (.aload_n 0, 1) := by decide +kernel
theorem dX8_lay_70 : decode cX8_lay 70 = .ok (.getfield 38, 3) := by decide +kernel
theorem dX8_lay_73 : decode cX8_lay 73 = .ok (.iload_n 2, 1) := by decide +kernel
theorem dX8_lay_74 : decode cX8_lay 74 = .ok (.iaload, 1) := by decide +kernel
theorem dX8_lay_75 : decode cX8_lay 75 = .ok (.if_icmp .le 11, 3) := by decide +kernel
theorem dX8_lay_78 : decode cX8_lay 78 = .ok (.iinc 2 1, 3) := by decide +kernel
theorem dX8_lay_81 : decode cX8_lay 81 = .ok (.iconst 0, 1) := by decide +kernel
theorem dX8_lay_82 : decode cX8_lay 82 = .ok (.istore_n 3, 1) := by decide +kernel
theorem dX8_lay_83 : decode cX8_lay 83 = .ok (.goto (-33), 3) := by decide +kernel
theorem dX8_lay_86 : decode cX8_lay 86 = .ok (.iload_n 2, 1) := by decide +kernel
theorem dX8_lay_87 : decode cX8_lay 87 = .ok (.bipush 52, 2) := by decide +kernel
theorem dX8_lay_89 : decode cX8_lay 89 = .ok (.if_icmp .ne 6, 3) := by decide +kernel
theorem dX8_lay_92 : decode cX8_lay 92 = .ok (.bipush (-2), 2) := by decide +kernel
theorem dX8_lay_94 : decode cX8_lay 94 = .ok (.ireturn, 1) := by decide +kernel
theorem dX8_lay_95 : decode cX8_lay 95 = .ok (.iload_n 3, 1) := by decide +kernel
theorem dX8_lay_96 : decode cX8_lay 96 = .ok (.aload_n 0, 1) := by decide +kernel
theorem dX8_lay_97 : decode cX8_lay 97 = .ok (.aload_n 0, 1) := by decide +kernel
theorem dX8_lay_98 : decode cX8_lay 98 = .ok (.getfield 35, 3) := by decide +kernel
theorem dX8_lay_101 : decode cX8_lay 101 = .ok (.iload 4, 2) := by decide +kernel
theorem dX8_lay_103 : decode cX8_lay 103 = .ok (.iaload, 1) := by decide +kernel
theorem dX8_lay_104 : decode cX8_lay 104 = .ok (.invokevirtual 96, 3) := by decide +kernel
theorem dX8_lay_107 : decode cX8_lay 107 = .ok (.iadd, 1) := by decide +kernel
theorem dX8_lay_108 : decode cX8_lay 108 = .ok (.istore_n 3, 1) := by decide +kernel
theorem dX8_lay_109 : decode cX8_lay 109 = .ok (.aload_n 0, 1) := by decide +kernel
theorem dX8_lay_110 : decode cX8_lay 110 = .ok (.getfield 57, 3) := by decide +kernel
theorem dX8_lay_113 : decode cX8_lay 113 = .ok (.iload 4, 2) := by decide +kernel
theorem dX8_lay_115 : decode cX8_lay 115 = .ok (.iload_n 2, 1) := by decide +kernel
theorem dX8_lay_116 : decode cX8_lay 116 = .ok (.iastore, 1) := by decide +kernel
theorem dX8_lay_117 : decode cX8_lay 117 = .ok (.iinc 4 1, 3) := by decide +kernel
theorem dX8_lay_120 : decode cX8_lay 120 = .ok (.goto (-96), 3) := by decide +kernel
theorem dX8_lay_123 : decode cX8_lay 123 = .ok (.aload_n 0, 1) := by decide +kernel
theorem dX8_lay_124 : decode cX8_lay 124 = .ok (.aload_n 0, 1) := by decide +kernel
theorem dX8_lay_125 : decode cX8_lay 125 = .ok (.getfield 90, 3) := by decide +kernel
theorem dX8_lay_128 : decode cX8_lay 128 = .ok (.putfield 125, 3) := by decide +kernel
theorem dX8_lay_131 : decode cX8_lay 131 = .ok (.iconst 0, 1) := by decide +kernel
theorem dX8_lay_132 : decode cX8_lay 132 = .ok (.istore 4, 2) := by decide +kernel
theorem dX8_lay_134 : decode cX8_lay 134 = .ok (.iload 4, 2) := by decide +kernel
theorem dX8_lay_136 : decode cX8_lay 136 = .ok (.aload_n 0, 1) := by decide +kernel
theorem dX8_lay_137 : decode cX8_lay 137 = .ok (.getfield 90, 3) := by decide +kernel
theorem dX8_lay_140 : decode cX8_lay 140 = .ok (.if_icmp .ge 23, 3) := by decide +kernel
theorem dX8_lay_143 : decode cX8_lay 143 = .ok (.aload_n 0, 1) := by decide +kernel
theorem dX8_lay_144 : decode cX8_lay 144 = .ok (.getfield 41, 3) := by decide +kernel
theorem dX8_lay_147 : decode cX8_lay 147 = .ok (.iload 4, 2) := by decide +kernel
theorem dX8_lay_149 : decode cX8_lay 149 = .ok (.aload_n 0, 1) := by decide +kernel
theorem dX8_lay_150 : decode cX8_lay 150 = .ok (.getfield 57, 3) := by decide +kernel
theorem dX8_lay_153 : decode cX8_lay 153 = .ok (.iload 4, 2) := by decide +kernel
theorem dX8_lay_155 : decode cX8_lay 155 = .ok (.iaload, 1) := by decide +kernel
theorem dX8_lay_156 : decode cX8_lay 156 = .ok (.iastore, 1) := by decide +kernel
theorem dX8_lay_157 : decode cX8_lay 157 = .ok (.iinc 4 1, 3) := by decide +kernel
theorem dX8_lay_160 : decode cX8_lay 160 = .ok (.goto (-26), 3) := by decide +kernel
theorem dX8_lay_163 : decode cX8_lay 163 = .ok (.iload_n 2, 1) := by decide +kernel
theorem dX8_lay_164 : decode cX8_lay 164 = .ok (.ireturn, 1) := by decide +kernel
set_option maxRecDepth 20000 in
theorem ggX8_laid_X8_in : GoodIn wsX8_laid wsX8_in := goodIn_r _ [7] (by decide +kernel) (by decide +kernel)
set_option maxRecDepth 20000 in
theorem gX8_laid_X8_in : GoodIn wsX8_laid (va_wsS RX8 69 yX8_in wsX8_in) := goodIn_app (goodIn_of _ (by decide +kernel)) ggX8_laid_X8_in
theorem dX8_laid_0 : decode cX8_laid 0 = .ok (.aload_n 0, 1) := by decide +kernel
theorem dX8_laid_1 : decode cX8_laid 1 = .ok (.iconst 0, 1) := by decide +kernel
theorem dX8_laid_2 : decode cX8_laid 2 = .ok (.putfield 63, 3) := by decide +kernel
theorem dX8_laid_5 : decode cX8_laid 5 = .ok (.iload_n 1, 1) := by decide +kernel
theorem dX8_laid_6 : decode cX8_laid 6 = .ok (.iconst 0, 1) := by decide +kernel
theorem dX8_laid_7 : decode cX8_laid 7 = .ok (.aload_n 0, 1) := by decide +kernel
theorem dX8_laid_8 : decode cX8_laid 8 = .ok (.getfield 125, 3) := by decide +kernel
theorem dX8_laid_11 : decode cX8_laid 11 = .ok (.iconst 1, 1) := by decide +kernel
theorem dX8_laid_12 : decode cX8_laid 12 = .ok (.isub, 1) := by decide +kernel
theorem dX8_laid_13 : decode cX8_laid 13 = .ok (.invokestatic 69, 3) := by decide +kernel
theorem dX8_laid_16 : decode cX8_laid 16 = .ok (.ifCond .eq 12, 3) := by decide +kernel
theorem dX8_laid_19 : decode cX8_laid 19 = .ok (.aload_n 0, 1) := by decide +kernel
theorem dX8_laid_20 : decode cX8_laid 20 = .ok (.getfield 41, 3) := by decide +kernel
theorem dX8_laid_23 : decode cX8_laid 23 = .ok (.iload_n 1, 1) := by decide +kernel
theorem dX8_laid_24 : decode cX8_laid 24 = .ok (.iaload, 1) := by decide +kernel
theorem dX8_laid_25 : decode cX8_laid 25 = .ok (.goto 4, 3) := by decide +kernel
theorem dX8_laid_28 : decode cX8_laid 28 = .ok (.iconst (-1), 1) := by decide +kernel
theorem dX8_laid_29 : decode cX8_laid 29 = .ok (.ireturn, 1) := by decide +kernel
set_option maxRecDepth 20000 in
theorem ggX8_isState_X8_withAll : GoodIn wsX8_isState wsX8_withAll := goodIn_r _ [7, 1, 8, 9, 10, 11, 12, 13, 14, 15, 16, 17, 18, 19, 20, 21, 22, 23, 24, 25, 26, 27, 28, 29, 30, 31, 32] (by decide +kernel) (by decide +kernel)
set_option maxRecDepth 20000 in
theorem gX8_isState_X8_withAll : GoodIn wsX8_isState (wsV RX8 80 RX8 yX8_withAll wsX8_withAll) := goodIn_app (goodIn_of _ (by decide +kernel)) ggX8_isState_X8_withAll
theorem dX8_isState_0 : decode cX8_isState 0 = .ok (.aload_n 0, 1) := by decide +kernel
theorem dX8_isState_1 : decode cX8_isState 1 = .ok (.iload_n 1, 1) := by decide +kernel
theorem dX8_isState_2 : decode cX8_isState 2 = .ok (.invokevirtual 80, 3) := by decide +kernel
theorem dX8_isState_5 : decode cX8_isState 5 = .ok (.iload_n 1, 1) := by decide +kernel
theorem dX8_isState_6 : decode cX8_isState 6 = .ok (.if_icmp .eq 5, 3) := by decide +kernel
theorem dX8_isState_9 : decode cX8_isState 9 = .ok (.iconst 0, 1) := by decide +kernel
theorem dX8_isState_10 : decode cX8_isState 10 = .ok (.ireturn, 1) := by decide +kernel
theorem dX8_isState_11 : decode cX8_isState 11 = .ok (.iconst 0, 1) := by decide +kernel
theorem dX8_isState_12 : decode cX8_isState 12 = .ok (.istore_n 2, 1) := by decide +kernel
theorem dX8_isState_13 : decode cX8_isState 13 = .ok (.iload_n 2, 1) := by decide +kernel
theorem dX8_isState_14 : decode cX8_isState 14 = .ok (.aload_n 0, 1) := by decide +kernel
theorem dX8_isState_15 : decode cX8_isState 15 = .ok (.getfield 66, 3) := by decide +kernel
theorem dX8_isState_18 : decode cX8_isState 18 = .ok (.if_icmp .ge 43, 3) := by decide +kernel
theorem dX8_isState_21 : decode cX8_isState 21 = .ok (.aload_n 0, 1) := by decide +kernel
theorem dX8_isState_22 : decode cX8_isState 22 = .ok (.getfield 44, 3) := by decide +kernel
theorem dX8_isState_25 : decode cX8_isState 25 = .ok (.iload_n 2, 1) := by decide +kernel
theorem dX8_isState_26 : decode cX8_isState 26 = .ok (.iaload, 1) := by decide +kernel
theorem dX8_isState_27 : decode cX8_isState 27 = .ok (.ifCond .eq 28, 3) := by decide +kernel
theorem dX8_isState_30 : decode cX8_isState 30 = .ok (.iload_n 1, 1) := by decide +kernel
theorem dX8_isState_31 : decode cX8_isState 31 = .ok (.iload_n 2, 1) := by decide +kernel
theorem dX8_isState_32 : decode cX8_isState 32 = .ok (.ishr, 1) := by decide +kernel
theorem dX8_isState_33 : decode cX8_isState 33 = .ok (.iconst 1, 1) := by decide +kernel
theorem dX8_isState_34 : decode cX8_isState 34 = .ok (.iand, 1) := by decide +kernel
theorem dX8_isState_35 : decode cX8_isState 35 = .ok (.aload_n 0, 1) := by decide +kernel
theorem dX8_isState_36 : decode cX8_isState 36 = .ok (.getfield 44, 3) := by decide +kernel
theorem dX8_isState_39 : decode cX8_isState 39 = .ok (.iload_n 2, 1) := by decide +kernel
theorem dX8_isState_40 : decode cX8_isState 40 = .ok (.iaload, 1) := by decide +kernel
theorem dX8_isState_41 : decode cX8_isState 41 = .ok (.iconst 1, 1) := by decide +kernel
theorem dX8_isState_42 : decode cX8_isState 42 = .ok (.if_icmp .ne 7, 3) := by decide +kernel
theorem dX8_isState_45 : decode cX8_isState 45 = .ok (.iconst 1, 1) := by decide +kernel
theorem dX8_isState_46 : decode cX8_isState 46 = .ok (.goto 4, 3) := by decide +kernel
theorem dX8_isState_49 : decode cX8_isState 49 = .ok (.iconst 0, 1) := by decide +kernel
theorem dX8_isState_50 : decode cX8_isState 50 = .ok (.if_icmp .eq 5, 3) := by decide +kernel
theorem dX8_isState_53 : decode cX8_isState 53 = .ok (.iconst 0, 1) := by decide +kernel
theorem dX8_isState_54 : decode cX8_isState 54 = .ok (.ireturn, 1) := by decide +kernel
theorem dX8_isState_55 : decode cX8_isState 55 = .ok (.iinc 2 1, 3) := by decide +kernel
theorem dX8_isState_58 : decode cX8_isState 58 = .ok (.goto (-45), 3) := by decide +kernel
theorem dX8_isState_61 : decode cX8_isState 61 = .ok (.iconst 1, 1) := by decide +kernel
theorem dX8_isState_62 : decode cX8_isState 62 = .ok (.ireturn, 1) := by decide +kernel
set_option maxRecDepth 20000 in
theorem ggX8_stateMany_X8_isState : GoodIn wsX8_stateMany wsX8_isState := goodIn_r _ [6, 1, 7, 8, 9, 10, 5, 11, 12, 13, 14, 15, 16, 17, 18, 19, 20, 21, 22, 23, 24, 25, 26, 27, 28, 29, 30, 31, 32, 33, 34, 35, 36] (by decide +kernel) (by decide +kernel)
set_option maxRecDepth 20000 in
theorem gX8_stateMany_X8_isState : GoodIn wsX8_stateMany (wsV RX8 128 RX8 yX8_isState wsX8_isState) := goodIn_app (goodIn_of _ (by decide +kernel)) ggX8_stateMany_X8_isState
theorem dX8_stateMany_0 : decode cX8_stateMany 0 = .ok (.iconst 0, 1) := by decide +kernel
theorem dX8_stateMany_1 : decode cX8_stateMany 1 = .ok (.istore_n 1, 1) := by decide +kernel
theorem dX8_stateMany_2 : decode cX8_stateMany 2 = .ok (.iconst 0, 1) := by decide +kernel
theorem dX8_stateMany_3 : decode cX8_stateMany 3 = .ok (.istore_n 2, 1) := by decide +kernel
theorem dX8_stateMany_4 : decode cX8_stateMany 4 = .ok (.iload_n 2, 1) := by decide +kernel
theorem dX8_stateMany_5 : decode cX8_stateMany 5 = .ok (.iconst 1, 1) := by decide +kernel
theorem dX8_stateMany_6 : decode cX8_stateMany 6 = .ok (.aload_n 0, 1) := by decide +kernel
theorem dX8_stateMany_7 : decode cX8_stateMany 7 = .ok (.getfield 66, 3) := by decide +kernel
theorem dX8_stateMany_10 : decode cX8_stateMany 10 = .ok (.ishl, 1) := by decide +kernel
theorem dX8_stateMany_11 : decode cX8_stateMany 11 = .ok (.if_icmp .ge 20, 3) := by decide +kernel
theorem dX8_stateMany_14 : decode cX8_stateMany 14 = .ok (.aload_n 0, 1) := by decide +kernel
theorem dX8_stateMany_15 : decode cX8_stateMany 15 = .ok (.iload_n 2, 1) := by decide +kernel
theorem dX8_stateMany_16 : decode cX8_stateMany 16 = .ok (.invokevirtual 128, 3) := by decide +kernel
theorem dX8_stateMany_19 : decode cX8_stateMany 19 = .ok (.ifCond .eq 6, 3) := by decide +kernel
theorem dX8_stateMany_22 : decode cX8_stateMany 22 = .ok (.iinc 1 1, 3) := by decide +kernel
theorem dX8_stateMany_25 : decode cX8_stateMany 25 = .ok (.iinc 2 1, 3) := by decide +kernel
theorem dX8_stateMany_28 : decode cX8_stateMany 28 = .ok (.goto (-24), 3) := by decide +kernel
theorem dX8_stateMany_31 : decode cX8_stateMany 31 = .ok (.iload_n 1, 1) := by decide +kernel
theorem dX8_stateMany_32 : decode cX8_stateMany 32 = .ok (.ireturn, 1) := by decide +kernel
set_option maxRecDepth 20000 in
theorem ggX8_answer_X8_in : GoodIn wsX8_answer wsX8_in := goodIn_r _ [7] (by decide +kernel) (by decide +kernel)
set_option maxRecDepth 20000 in
theorem gX8_answer_X8_in : GoodIn wsX8_answer (va_wsS RX8 69 yX8_in wsX8_in) := goodIn_app (goodIn_of _ (by decide +kernel)) ggX8_answer_X8_in
set_option maxRecDepth 20000 in
theorem ggX8_answer_X8_stateMany : GoodIn wsX8_answer wsX8_stateMany := goodIn_r _ [11, 2, 12, 13, 14, 6, 15, 3, 16, 17, 18, 19, 20, 21, 22, 23, 24, 25, 26, 27, 28, 29, 30, 31, 32, 33, 34, 35, 36, 37, 38, 39, 40, 41, 42, 43, 44] (by decide +kernel) (by decide +kernel)
set_option maxRecDepth 20000 in
theorem gX8_answer_X8_stateMany : GoodIn wsX8_answer (wsV RX8 131 RX8 yX8_stateMany wsX8_stateMany) := goodIn_app (goodIn_of _ (by decide +kernel)) ggX8_answer_X8_stateMany
theorem dX8_answer_0 : decode cX8_answer 0 = .ok (.aload_n 0, 1) := by decide +kernel
theorem dX8_answer_1 : decode cX8_answer 1 = .ok (.iconst 0, 1) := by decide +kernel
theorem dX8_answer_2 : decode cX8_answer 2 = .ok (.putfield 63, 3) := by decide +kernel
theorem dX8_answer_5 : decode cX8_answer 5 = .ok (.iload_n 1, 1) := by decide +kernel
theorem dX8_answer_6 : decode cX8_answer 6 = .ok (.iconst 0, 1) := by decide +kernel
theorem dX8_answer_7 : decode cX8_answer 7 = .ok (.aload_n 0, 1) := by decide +kernel
theorem dX8_answer_8 : decode cX8_answer 8 = .ok (.getfield 66, 3) := by decide +kernel
theorem dX8_answer_11 : decode cX8_answer 11 = .ok (.iconst 1, 1) := by decide +kernel
theorem dX8_answer_12 : decode cX8_answer 12 = .ok (.isub, 1) := by decide +kernel
theorem dX8_answer_13 : decode cX8_answer 13 = .ok (.invokestatic 69, 3) := by decide +kernel
theorem dX8_answer_16 : decode cX8_answer 16 = .ok (.ifCond .eq 12, 3) := by decide +kernel
theorem dX8_answer_19 : decode cX8_answer 19 = .ok (.aload_n 0, 1) := by decide +kernel
theorem dX8_answer_20 : decode cX8_answer 20 = .ok (.getfield 44, 3) := by decide +kernel
theorem dX8_answer_23 : decode cX8_answer 23 = .ok (.iload_n 1, 1) := by decide +kernel
theorem dX8_answer_24 : decode cX8_answer 24 = .ok (.iaload, 1) := by decide +kernel
theorem dX8_answer_25 : decode cX8_answer 25 = .ok (.ifCond .eq 5, 3) := by decide +kernel
theorem dX8_answer_28 : decode cX8_answer 28 = .ok (.iconst (-1), 1) := by decide +kernel
theorem dX8_answer_29 : decode cX8_answer 29 = .ok (.ireturn, 1) := by decide +kernel
theorem dX8_answer_30 : decode cX8_answer 30 = .ok (.aload_n 0, 1) := by decide +kernel
theorem dX8_answer_31 : decode cX8_answer 31 = .ok (.getfield 44, 3) := by decide +kernel
theorem dX8_answer_34 : decode cX8_answer 34 = .ok (.iload_n 1, 1) := by decide +kernel
theorem dX8_answer_35 : decode cX8_answer 35 = .ok (.iload_n 2, 1) := by decide +kernel
theorem dX8_answer_36 : decode cX8_answer 36 = .ok (.ifCond .eq 7, 3) := by decide +kernel
theorem dX8_answer_39 : decode cX8_answer 39 = .ok (.iconst 1, 1) := by decide +kernel
theorem dX8_answer_40 : decode cX8_answer 40 = .ok (.goto 4, 3) := by decide +kernel
theorem dX8_answer_43 : decode cX8_answer 43 = .ok (.iconst 2, 1) := by decide +kernel
theorem dX8_answer_44 : decode cX8_answer 44 = .ok (.iastore, 1) := by decide +kernel
theorem dX8_answer_45 : decode cX8_answer 45 = .ok (.aload_n 0, 1) := by decide +kernel
theorem dX8_answer_46 : decode cX8_answer 46 = .ok (.invokevirtual 131, 3) := by decide +kernel
theorem dX8_answer_49 : decode cX8_answer 49 = .ok (.istore_n 3, 1) := by decide +kernel
theorem dX8_answer_50 : decode cX8_answer 50 = .ok (.iload_n 3, 1) := by decide +kernel
theorem dX8_answer_51 : decode cX8_answer 51 = .ok (.ifCond .le 5, 3) := by decide +kernel
theorem dX8_answer_54 : decode cX8_answer 54 = .ok (.iload_n 3, 1) := by decide +kernel
theorem dX8_answer_55 : decode cX8_answer 55 = .ok (.ireturn, 1) := by decide +kernel
theorem dX8_answer_56 : decode cX8_answer 56 = .ok (.aload_n 0, 1) := by decide +kernel
theorem dX8_answer_57 : decode cX8_answer 57 = .ok (.getfield 44, 3) := by decide +kernel
theorem dX8_answer_60 : decode cX8_answer 60 = .ok (.iload_n 1, 1) := by decide +kernel
theorem dX8_answer_61 : decode cX8_answer 61 = .ok (.iconst 0, 1) := by decide +kernel
theorem dX8_answer_62 : decode cX8_answer 62 = .ok (.iastore, 1) := by decide +kernel
theorem dX8_answer_63 : decode cX8_answer 63 = .ok (.iconst (-1), 1) := by decide +kernel
theorem dX8_answer_64 : decode cX8_answer 64 = .ok (.ireturn, 1) := by decide +kernel
set_option maxRecDepth 20000 in
theorem ggX8_ask_X8_stateMany : GoodIn wsX8_ask wsX8_stateMany := goodIn_r _ [7, 8, 9, 10, 11, 6, 12, 2, 13, 14, 15, 16, 17, 18, 19, 20, 21, 22, 23, 24, 25, 26, 27, 28, 29, 30, 31, 32, 33, 34, 35, 36, 37, 38, 39, 40, 41] (by decide +kernel) (by decide +kernel)
set_option maxRecDepth 20000 in
theorem gX8_ask_X8_stateMany : GoodIn wsX8_ask (wsV RX8 131 RX8 yX8_stateMany wsX8_stateMany) := goodIn_app (goodIn_of _ (by decide +kernel)) ggX8_ask_X8_stateMany
theorem dX8_ask_0 : decode cX8_ask 0 = .ok (.aload_n 0, 1) := by decide +kernel
theorem dX8_ask_1 : decode cX8_ask 1 = .ok (.iconst 0, 1) := by decide +kernel
theorem dX8_ask_2 : decode cX8_ask 2 = .ok (.putfield 63, 3) := by decide +kernel
theorem dX8_ask_5 : decode cX8_ask 5 = .ok (.iconst 0, 1) := by decide +kernel
theorem dX8_ask_6 : decode cX8_ask 6 = .ok (.istore_n 1, 1) := by decide +kernel
theorem dX8_ask_7 : decode cX8_ask 7 = .ok (.iload_n 1, 1) := by decide +kernel
theorem dX8_ask_8 : decode cX8_ask 8 = .ok (.bipush 12, 2) := by decide +kernel
theorem dX8_ask_10 : decode cX8_ask 10 = .ok (.if_icmp .ge 16, 3) := by decide +kernel
theorem dX8_ask_13 : decode cX8_ask 13 = .ok (.aload_n 0, 1) := by decide +kernel
theorem dX8_ask_14 : decode cX8_ask 14 = .ok (.getfield 44, 3) := by decide +kernel
theorem dX8_ask_17 : decode cX8_ask 17 = .ok (.iload_n 1, 1) := by decide +kernel
theorem dX8_ask_18 : decode cX8_ask 18 = .ok (.iconst 0, 1) := by decide +kernel
theorem dX8_ask_19 : decode cX8_ask 19 = .ok (.iastore, 1) := by decide +kernel
theorem dX8_ask_20 : decode cX8_ask 20 = .ok (.iinc 1 1, 3) := by decide +kernel
theorem dX8_ask_23 : decode cX8_ask 23 = .ok (.goto (-16), 3) := by decide +kernel
theorem dX8_ask_26 : decode cX8_ask 26 = .ok (.aload_n 0, 1) := by decide +kernel
theorem dX8_ask_27 : decode cX8_ask 27 = .ok (.invokevirtual 131, 3) := by decide +kernel
theorem dX8_ask_30 : decode cX8_ask 30 = .ok (.ireturn, 1) := by decide +kernel
set_option maxRecDepth 20000 in
theorem ggX8_states_X8_stateMany : GoodIn wsX8_states wsX8_stateMany := goodIn_r _ [6, 7, 8, 9, 10, 5, 11, 12, 13, 14, 15, 16, 17, 18, 19, 20, 21, 22, 23, 24, 25, 26, 27, 28, 29, 30, 31, 32, 33, 34, 35, 36, 37, 38, 39, 40, 41] (by decide +kernel) (by decide +kernel)
set_option maxRecDepth 20000 in
theorem gX8_states_X8_stateMany : GoodIn wsX8_states (wsV RX8 131 RX8 yX8_stateMany wsX8_stateMany) := goodIn_app (goodIn_of _ (by decide +kernel)) ggX8_states_X8_stateMany
theorem dX8_states_0 : decode cX8_states 0 = .ok (.aload_n 0, 1) := by decide +kernel
theorem dX8_states_1 : decode cX8_states 1 = .ok (.iconst 0, 1) := by decide +kernel
theorem dX8_states_2 : decode cX8_states 2 = .ok (.putfield 63, 3) := by decide +kernel
theorem dX8_states_5 : decode cX8_states 5 = .ok (.aload_n 0, 1) := by decide +kernel
theorem dX8_states_6 : decode cX8_states 6 = .ok (.invokevirtual 131, 3) := by decide +kernel
theorem dX8_states_9 : decode cX8_states 9 = .ok (.ireturn, 1) := by decide +kernel
set_option maxRecDepth 20000 in
theorem ggX8_question_X8_stateMany : GoodIn wsX8_question wsX8_stateMany := goodIn_r _ [8, 2, 9, 10, 11, 7, 12, 3, 13, 14, 15, 16, 17, 18, 19, 20, 21, 22, 23, 24, 25, 26, 27, 28, 29, 30, 31, 32, 33, 34, 35, 36, 37, 38, 39, 40, 41] (by decide +kernel) (by decide +kernel)
set_option maxRecDepth 20000 in
theorem gX8_question_X8_stateMany : GoodIn wsX8_question (wsV RX8 131 RX8 yX8_stateMany wsX8_stateMany) := goodIn_app (goodIn_of _ (by decide +kernel)) ggX8_question_X8_stateMany
set_option maxRecDepth 20000 in
theorem ggX8_question_X8_isState : GoodIn wsX8_question wsX8_isState := goodIn_r _ [12, 2, 3, 13, 14, 15, 7, 16, 17, 18, 19, 20, 21, 22, 23, 24, 25, 26, 27, 28, 29, 30, 31, 32, 33, 34, 35, 36, 37, 38, 39, 40, 41] (by decide +kernel) (by decide +kernel)
set_option maxRecDepth 20000 in
theorem gX8_question_X8_isState : GoodIn wsX8_question (wsV RX8 128 RX8 yX8_isState wsX8_isState) := goodIn_app (goodIn_of _ (by decide +kernel)) ggX8_question_X8_isState
theorem dX8_question_0 : decode cX8_question 0 = .ok (.aload_n 0, 1) := by decide +kernel
theorem dX8_question_1 : decode cX8_question 1 = .ok (.iconst 0, 1) := by decide +kernel
theorem dX8_question_2 : decode cX8_question 2 = .ok (.putfield 63, 3) := by decide +kernel
theorem dX8_question_5 : decode cX8_question 5 = .ok (.aload_n 0, 1) := by decide +kernel
theorem dX8_question_6 : decode cX8_question 6 = .ok (.invokevirtual 131, 3) := by decide +kernel
theorem dX8_question_9 : decode cX8_question 9 = .ok (.istore_n 1, 1) := by decide +kernel
theorem dX8_question_10 : decode cX8_question 10 = .ok (.iconst (-1), 1) := by decide +kernel
theorem dX8_question_11 : decode cX8_question 11 = .ok (.istore_n 2, 1) := by decide +kernel
theorem dX8_question_12 : decode cX8_question 12 = .ok (.iconst 0, 1) := by decide +kernel
theorem dX8_question_13 : decode cX8_question 13 = .ok (.istore_n 3, 1) := by decide +kernel
theorem dX8_question_14 : decode cX8_question 14 = .ok (.iconst 0, 1) := by decide +kernel
theorem dX8_question_15 : decode cX8_question 15 = .ok (.istore 4, 2) := by decide +kernel
theorem dX8_question_17 : decode cX8_question 17 = .ok (.iload 4, 2) := by decide +kernel
theorem dX8_question_19 : decode cX8_question 19 = .ok (.aload_n 0, 1) := by decide +kernel
theorem dX8_question_20 : decode cX8_question 20 = .ok (.getfield 66, 3) := by decide +kernel
theorem dX8_question_23 : decode cX8_question 23 = .ok (.if_icmp .ge 119, 3) := by decide +kernel
theorem dX8_question_26 : decode cX8_question 26 = .ok (.iconst 0, 1) := by decide +kernel
theorem dX8_question_27 : decode cX8_question 27 = .ok (.istore 5, 2) := by decide +kernel
theorem dX8_question_29 : decode cX8_question 29 = .ok (.iconst 0, 1) := by decide +kernel
theorem dX8_question_30 : decode cX8_question 30 = .ok (.istore 6, 2) := by decide +kernel
theorem dX8_question_32 : decode cX8_question 32 = .ok (.iload 6, 2) := by decide +kernel
theorem dX8_question_34 : decode cX8_question 34 = .ok (.iconst 1, 1) := by decide +kernel
theorem dX8_question_35 : decode cX8_question 35 = .ok (.aload_n 0, 1) := by decide +kernel
theorem dX8_question_36 : decode cX8_question 36 = .ok (.getfield 66, 3) := by decide +kernel
theorem dX8_question_39 : decode cX8_question 39 = .ok (.ishl, 1) := by decide +kernel
theorem dX8_question_40 : decode cX8_question 40 = .ok (.if_icmp .ge 32, 3) := by decide +kernel
theorem dX8_question_43 : decode cX8_question 43 = .ok (.iload 6, 2) := by decide +kernel
theorem dX8_question_45 : decode cX8_question 45 = .ok (.iload 4, 2) := by decide +kernel
theorem dX8_question_47 : decode cX8_question 47 = .ok (.ishr, 1) := by decide +kernel
theorem dX8_question_48 : decode cX8_question 48 = .ok (.iconst 1, 1) := by decide +kernel
theorem dX8_question_49 : decode cX8_question 49 = .ok (.iand, 1) := by decide +kernel
theorem dX8_question_50 : decode cX8_question 50 = .ok (.iconst 1, 1) := by decide +kernel
theorem dX8_question_51 : decode cX8_question 51 = .ok (.if_icmp .ne 15, 3) := by decide +kernel
theorem dX8_question_54 : decode cX8_question 54 = .ok (.aload_n 0, 1) := by decide +kernel
theorem dX8_question_55 : decode cX8_question 55 = .ok (.iload 6, 2) := by decide +kernel
theorem dX8_question_57 : decode cX8_question 57 = .ok (.invokevirtual 128, 3) := by decide +kernel
theorem dX8_question_60 : decode cX8_question 60 = .ok (.ifCond .eq 6, 3) := by decide +kernel
theorem dX8_question_63 : decode cX8_question 63 = .ok (.iinc 5 1, 3) := by decide +kernel
theorem dX8_question_66 : decode cX8_question 66 = .ok (.iinc 6 1, 3) := by decide +kernel
theorem dX8_question_69 : decode cX8_question 69 = .ok (.goto (-37), 3) := by decide +kernel
theorem dX8_question_72 : decode cX8_question 72 = .ok (.aload_n 0, 1) := by decide +kernel
theorem dX8_question_73 : decode cX8_question 73 = .ok (.getfield 44, 3) := by decide +kernel
theorem dX8_question_76 : decode cX8_question 76 = .ok (.iload 4, 2) := by decide +kernel
theorem dX8_question_78 : decode cX8_question 78 = .ok (.iaload, 1) := by decide +kernel
theorem dX8_question_79 : decode cX8_question 79 = .ok (.ifCond .ne 57, 3) := by decide +kernel
theorem dX8_question_82 : decode cX8_question 82 = .ok (.iload 5, 2) := by decide +kernel
theorem dX8_question_84 : decode cX8_question 84 = .ok (.ifCond .eq 52, 3) := by decide +kernel
theorem dX8_question_87 : decode cX8_question 87 = .ok (.iload 5, 2) := by decide +kernel
theorem dX8_question_89 : decode cX8_question 89 = .ok (.iload_n 1, 1) := by decide +kernel
theorem dX8_question_90 : decode cX8_question 90 = .ok (.if_icmp .ne 6, 3) := by decide +kernel
theorem dX8_question_93 : decode cX8_question 93 = .ok (.goto 43, 3) := by decide +kernel
theorem dX8_question_96 : decode cX8_question 96 = .ok (.iload 5, 2) := by decide +kernel
theorem dX8_question_98 : decode cX8_question 98 = .ok (.iload_n 1, 1) := by decide +kernel
theorem dX8_question_99 : decode cX8_question 99 = .ok (.iload 5, 2) := by decide +kernel
theorem dX8_question_101 : decode cX8_question 101 = .ok (.isub, 1) := by decide +kernel
theorem dX8_question_102 : decode cX8_question 102 = .ok (.if_icmp .le 8, 3) := by decide +kernel
theorem dX8_question_105 : decode cX8_question 105 = .ok (.iload 5, 2) := by decide +kernel
theorem dX8_question_107 : decode cX8_question 107 = .ok (.goto 7, 3) := by decide +kernel
theorem dX8_question_110 : decode cX8_question 110 = .ok (.iload_n 1, 1) := by decide +kernel
theorem dX8_question_111 : decode cX8_question 111 = .ok (.iload 5, 2) := by decide +kernel
theorem dX8_question_113 : decode cX8_question 113 = .ok (.isub, 1) := by decide +kernel
theorem dX8_question_114 : decode cX8_question 114 = .ok (.istore 6, 2) := by decide +kernel
theorem dX8_question_116 : decode cX8_question 116 = .ok (.iload_n 2, 1) := by decide +kernel
theorem dX8_question_117 : decode cX8_question 117 = .ok (.iconst (-1), 1) := by decide +kernel
theorem dX8_question_118 : decode cX8_question 118 = .ok (.if_icmp .eq 12, 3) := by decide +kernel
theorem dX8_question_121 : decode cX8_question 121 = .ok (.iload 6, 2) := by decide +kernel
theorem dX8_question_123 : decode cX8_question 123 = .ok (.iload_n 3, 1) := by decide +kernel
theorem dX8_question_124 : decode cX8_question 124 = .ok (.if_icmp .lt 6, 3) := by decide +kernel
theorem dX8_question_127 : decode cX8_question 127 = .ok (.goto 9, 3) := by decide +kernel
theorem dX8_question_130 : decode cX8_question 130 = .ok (.iload 4, 2) := by decide +kernel
theorem dX8_question_132 : decode cX8_question 132 = .ok (.istore_n 2, 1) := by decide +kernel
theorem dX8_question_133 : decode cX8_question 133 = .ok (.iload 6, 2) := by decide +kernel
theorem dX8_question_135 : decode cX8_question 135 = .ok (.istore_n 3, 1) := by decide +kernel
theorem dX8_question_136 : decode cX8_question 136 = .ok (.iinc 4 1, 3) := by decide +kernel
theorem dX8_question_139 : decode cX8_question 139 = .ok (.goto (-122), 3) := by decide +kernel
theorem dX8_question_142 : decode cX8_question 142 = .ok (.iload_n 2, 1) := by decide +kernel
theorem dX8_question_143 : decode cX8_question 143 = .ok (.ireturn, 1) := by decide +kernel
set_option maxRecDepth 20000 in
theorem ggX8_worstOf_J13_bitCount_95d88 : GoodIn wsX8_worstOf wsJ13_bitCount_95d88 := goodIn_r _ [7, 8, 9, 10] (by decide +kernel) (by decide +kernel)
set_option maxRecDepth 20000 in
theorem gX8_worstOf_J13_bitCount_95d88 : GoodIn wsX8_worstOf (va_wsS RX8 134 yJ13_bitCount_95d88 wsJ13_bitCount_95d88) := goodIn_app (goodIn_of _ (by decide +kernel)) ggX8_worstOf_J13_bitCount_95d88
set_option maxRecDepth 20000 in
theorem ggX8_worstOf_X8_worstOf : GoodIn wsX8_worstOf wsX8_worstOf := goodIn_r _ [0, 1, 2, 3, 4, 5, 6, 7, 8, 9, 10, 11, 12, 13, 14, 15, 16, 17, 18, 19, 20, 21, 22, 23, 24, 25, 26, 27, 28, 29, 30, 31, 32, 33, 34, 35, 36, 37, 38] (by decide +kernel) (by decide +kernel)
set_option maxRecDepth 20000 in
theorem gX8_worstOf_X8_worstOf : GoodIn wsX8_worstOf (wsV RX8 140 RX8 yX8_worstOf wsX8_worstOf) := goodIn_app (goodIn_of _ (by decide +kernel)) ggX8_worstOf_X8_worstOf
theorem dX8_worstOf_0 : decode cX8_worstOf 0 = .ok (.lload_n 1, 1) := by decide +kernel
theorem dX8_worstOf_1 : decode cX8_worstOf 1 = .ok (.invokestatic 134, 3) := by decide +kernel
theorem dX8_worstOf_4 : decode cX8_worstOf 4 = .ok (.istore_n 3, 1) := by decide +kernel
theorem dX8_worstOf_5 : decode cX8_worstOf 5 = .ok (.lconst 0, 1) := by decide +kernel
theorem dX8_worstOf_6 : decode cX8_worstOf 6 = .ok (.lstore 4, 2) := by decide +kernel
theorem dX8_worstOf_8 : decode cX8_worstOf 8 = .ok (.iload_n 3, 1) := by decide +kernel
theorem dX8_worstOf_9 : decode cX8_worstOf 9 = .ok (.istore 6, 2) := by decide +kernel
theorem dX8_worstOf_11 : decode cX8_worstOf 11 = .ok (.iconst 0, 1) := by decide +kernel
theorem dX8_worstOf_12 : decode cX8_worstOf 12 = .ok (.istore 7, 2) := by decide +kernel
theorem dX8_worstOf_14 : decode cX8_worstOf 14 = .ok (.iload 7, 2) := by decide +kernel
theorem dX8_worstOf_16 : decode cX8_worstOf 16 = .ok (.aload_n 0, 1) := by decide +kernel
theorem dX8_worstOf_17 : decode cX8_worstOf 17 = .ok (.getfield 66, 3) := by decide +kernel
theorem dX8_worstOf_20 : decode cX8_worstOf 20 = .ok (.if_icmp .ge 109, 3) := by decide +kernel
theorem dX8_worstOf_23 : decode cX8_worstOf 23 = .ok (.lconst 0, 1) := by decide +kernel
theorem dX8_worstOf_24 : decode cX8_worstOf 24 = .ok (.lstore 8, 2) := by decide +kernel
theorem dX8_worstOf_26 : decode cX8_worstOf 26 = .ok (.iconst 0, 1) := by decide +kernel
theorem dX8_worstOf_27 : decode cX8_worstOf 27 = .ok (.istore 10, 2) := by decide +kernel
theorem dX8_worstOf_29 : decode cX8_worstOf 29 = .ok (.iload 10, 2) := by decide +kernel
theorem dX8_worstOf_31 : decode cX8_worstOf 31 = .ok (.bipush 64, 2) := by decide +kernel
theorem dX8_worstOf_33 : decode cX8_worstOf 33 = .ok (.if_icmp .ge 45, 3) := by decide +kernel
theorem dX8_worstOf_36 : decode cX8_worstOf 36 = .ok (.lload_n 1, 1) := by decide +kernel
theorem dX8_worstOf_37 : decode cX8_worstOf 37 = .ok (.iload 10, 2) := by decide +kernel
theorem dX8_worstOf_39 : decode cX8_worstOf 39 = .ok (.lshr, 1) := by decide +kernel
theorem dX8_worstOf_40 : decode cX8_worstOf 40 = .ok (.lconst 1, 1) := by decide +kernel
theorem dX8_worstOf_41 : decode cX8_worstOf 41 = .ok (.land, 1) := by decide +kernel
theorem dX8_worstOf_42 : decode cX8_worstOf 42 = .ok (.lconst 1, 1) := by decide +kernel
theorem dX8_worstOf_43 : decode cX8_worstOf 43 = .ok (.lcmp, 1) := by decide +kernel
theorem dX8_worstOf_44 : decode cX8_worstOf 44 = .ok (.ifCond .ne 28, 3) := by decide +kernel
theorem dX8_worstOf_47 : decode cX8_worstOf 47 = .ok (.aload_n 0, 1) := by decide +kernel
theorem dX8_worstOf_48 : decode cX8_worstOf 48 = .ok (.getfield 60, 3) := by decide +kernel
theorem dX8_worstOf_51 : decode cX8_worstOf 51 = .ok (.iload 10, 2) := by decide +kernel
theorem dX8_worstOf_53 : decode cX8_worstOf 53 = .ok (.iaload, 1) := by decide +kernel
theorem dX8_worstOf_54 : decode cX8_worstOf 54 = .ok (.iload 7, 2) := by decide +kernel
theorem dX8_worstOf_56 : decode cX8_worstOf 56 = .ok (.ishr, 1) := by decide +kernel
theorem dX8_worstOf_57 : decode cX8_worstOf 57 = .ok (.iconst 1, 1) := by decide +kernel
theorem dX8_worstOf_58 : decode cX8_worstOf 58 = .ok (.iand, 1) := by decide +kernel
theorem dX8_worstOf_59 : decode cX8_worstOf 59 = .ok (.iconst 1, 1) := by decide +kernel
theorem dX8_worstOf_60 : decode cX8_worstOf 60 = .ok (.if_icmp .ne 12, 3) := by decide +kernel
theorem dX8_worstOf_63 : decode cX8_worstOf 63 = .ok (.lload 8, 2) := by decide +kernel
theorem dX8_worstOf_65 : decode cX8_worstOf 65 = .ok (.lconst 1, 1) := by decide +kernel
theorem dX8_worstOf_66 : decode cX8_worstOf 66 = .ok (.iload 10, 2) := by decide +kernel
theorem dX8_worstOf_68 : decode cX8_worstOf 68 = .ok (.lshl, 1) := by decide +kernel
theorem dX8_worstOf_69 : decode cX8_worstOf 69 = .ok (.lor, 1) := by decide +kernel
theorem dX8_worstOf_70 : decode cX8_worstOf 70 = .ok (.lstore 8, 2) := by decide +kernel
theorem dX8_worstOf_72 : decode cX8_worstOf 72 = .ok (.iinc 10 1, 3) := by decide +kernel
theorem dX8_worstOf_75 : decode cX8_worstOf 75 = .ok (.goto (-46), 3) := by decide +kernel
theorem dX8_worstOf_78 : decode cX8_worstOf 78 = .ok (.lload 8, 2) := by decide +kernel
theorem dX8_worstOf_80 : decode cX8_worstOf 80 = .ok (.invokestatic 134, 3) := by decide +kernel
theorem dX8_worstOf_83 : decode cX8_worstOf 83 = .ok (.istore 10, 2) := by decide +kernel
theorem dX8_worstOf_85 : decode cX8_worstOf 85 = .ok (.iload 10, 2) := by decide +kernel
theorem dX8_worstOf_87 : decode cX8_worstOf 87 = .ok (.iload_n 3, 1) := by decide +kernel
theorem dX8_worstOf_88 : decode cX8_worstOf 88 = .ok (.iload 10, 2) := by decide +kernel
theorem dX8_worstOf_90 : decode cX8_worstOf 90 = .ok (.isub, 1) := by decide +kernel
theorem dX8_worstOf_91 : decode cX8_worstOf 91 = .ok (.if_icmp .le 8, 3) := by decide +kernel
theorem dX8_worstOf_94 : decode cX8_worstOf 94 = .ok (.iload 10, 2) := by decide +kernel
theorem dX8_worstOf_96 : decode cX8_worstOf 96 = .ok (.goto 7, 3) := by decide +kernel
theorem dX8_worstOf_99 : decode cX8_worstOf 99 = .ok (.iload_n 3, 1) := by decide +kernel
theorem dX8_worstOf_100 : decode cX8_worstOf 100 = .ok (.iload 10, 2) := by decide +kernel
theorem dX8_worstOf_102 : decode cX8_worstOf 102 = .ok (.isub, 1) := by decide +kernel
theorem dX8_worstOf_103 : decode cX8_worstOf 103 = .ok (.istore 11, 2) := by decide +kernel
theorem dX8_worstOf_105 : decode cX8_worstOf 105 = .ok (.iload 11, 2) := by decide +kernel
theorem dX8_worstOf_107 : decode cX8_worstOf 107 = .ok (.iload 6, 2) := by decide +kernel
theorem dX8_worstOf_109 : decode cX8_worstOf 109 = .ok (.if_icmp .lt 6, 3) := by decide +kernel
theorem dX8_worstOf_112 : decode cX8_worstOf 112 = .ok (.goto 11, 3) := by decide +kernel
theorem dX8_worstOf_115 : decode cX8_worstOf 115 = .ok (.iload 11, 2) := by decide +kernel
theorem dX8_worstOf_117 : decode cX8_worstOf 117 = .ok (.istore 6, 2) := by decide +kernel
theorem dX8_worstOf_119 : decode cX8_worstOf 119 = .ok (.lload 8, 2) := by decide +kernel
theorem dX8_worstOf_121 : decode cX8_worstOf 121 = .ok (.lstore 4, 2) := by decide +kernel
theorem dX8_worstOf_123 : decode cX8_worstOf 123 = .ok (.iinc 7 1, 3) := by decide +kernel
theorem dX8_worstOf_126 : decode cX8_worstOf 126 = .ok (.goto (-112), 3) := by decide +kernel
theorem dX8_worstOf_129 : decode cX8_worstOf 129 = .ok (.iload 6, 2) := by decide +kernel
theorem dX8_worstOf_131 : decode cX8_worstOf 131 = .ok (.iload_n 3, 1) := by decide +kernel
theorem dX8_worstOf_132 : decode cX8_worstOf 132 = .ok (.if_icmp .ne 5, 3) := by decide +kernel
theorem dX8_worstOf_135 : decode cX8_worstOf 135 = .ok (.iconst 0, 1) := by decide +kernel
theorem dX8_worstOf_136 : decode cX8_worstOf 136 = .ok (.ireturn, 1) := by decide +kernel
theorem dX8_worstOf_137 : decode cX8_worstOf 137 = .ok (.aload_n 0, 1) := by decide +kernel
theorem dX8_worstOf_138 : decode cX8_worstOf 138 = .ok (.lload 4, 2) := by decide +kernel
theorem dX8_worstOf_140 : decode cX8_worstOf 140 = .ok (.invokevirtual 140, 3) := by decide +kernel
theorem dX8_worstOf_143 : decode cX8_worstOf 143 = .ok (.istore 7, 2) := by decide +kernel
theorem dX8_worstOf_145 : decode cX8_worstOf 145 = .ok (.aload_n 0, 1) := by decide +kernel
theorem dX8_worstOf_146 : decode cX8_worstOf 146 = .ok (.lload_n 1, 1) := by decide +kernel
theorem dX8_worstOf_147 : decode cX8_worstOf 147 = .ok (.lload 4, 2) := by decide +kernel
theorem dX8_worstOf_149 : decode cX8_worstOf 149 = .ok (.ldc2_w 143, 3) := by decide +kernel
theorem dX8_worstOf_152 : decode cX8_worstOf 152 = .ok (.lxor, 1) := by decide +kernel
theorem dX8_worstOf_153 : decode cX8_worstOf 153 = .ok (.land, 1) := by decide +kernel
theorem dX8_worstOf_154 : decode cX8_worstOf 154 = .ok (.invokevirtual 140, 3) := by decide +kernel
theorem dX8_worstOf_157 : decode cX8_worstOf 157 = .ok (.istore 8, 2) := by decide +kernel
theorem dX8_worstOf_159 : decode cX8_worstOf 159 = .ok (.iconst 1, 1) := by decide +kernel
theorem dX8_worstOf_160 : decode cX8_worstOf 160 = .ok (.iload 7, 2) := by decide +kernel
theorem dX8_worstOf_162 : decode cX8_worstOf 162 = .ok (.iload 8, 2) := by decide +kernel
theorem dX8_worstOf_164 : decode cX8_worstOf 164 = .ok (.if_icmp .le 8, 3) := by decide +kernel
theorem dX8_worstOf_167 : decode cX8_worstOf 167 = .ok (.iload 7, 2) := by decide +kernel
theorem dX8_worstOf_169 : decode cX8_worstOf 169 = .ok (.goto 5, 3) := by decide +kernel
theorem dX8_worstOf_172 : decode cX8_worstOf 172 = .ok (.iload 8, 2) := by decide +kernel
theorem dX8_worstOf_174 : decode cX8_worstOf 174 = .ok (.iadd, 1) := by decide +kernel
theorem dX8_worstOf_175 : decode cX8_worstOf 175 = .ok (.ireturn, 1) := by decide +kernel
set_option maxRecDepth 20000 in
theorem ggX8_worst_X8_stateMany : GoodIn wsX8_worst wsX8_stateMany := goodIn_r _ [9, 2, 10, 11, 12, 8, 13, 14, 15, 16, 17, 18, 19, 31, 32, 33, 34, 35, 36, 37, 38, 39, 40, 41, 42, 43, 44, 45, 46, 47, 48, 49, 50, 51, 52, 53, 54] (by decide +kernel) (by decide +kernel)
set_option maxRecDepth 20000 in
theorem gX8_worst_X8_stateMany : GoodIn wsX8_worst (wsV RX8 131 RX8 yX8_stateMany wsX8_stateMany) := goodIn_app (goodIn_of _ (by decide +kernel)) ggX8_worst_X8_stateMany
set_option maxRecDepth 20000 in
theorem ggX8_worst_X8_isState : GoodIn wsX8_worst wsX8_isState := goodIn_r _ [13, 2, 14, 15, 16, 17, 8, 18, 19, 31, 32, 33, 34, 35, 36, 37, 38, 39, 40, 41, 42, 43, 44, 45, 46, 47, 48, 49, 50, 51, 52, 53, 54] (by decide +kernel) (by decide +kernel)
set_option maxRecDepth 20000 in
theorem gX8_worst_X8_isState : GoodIn wsX8_worst (wsV RX8 128 RX8 yX8_isState wsX8_isState) := goodIn_app (goodIn_of _ (by decide +kernel)) ggX8_worst_X8_isState
set_option maxRecDepth 20000 in
theorem ggX8_worst_X8_worstOf : GoodIn wsX8_worst wsX8_worstOf := goodIn_r _ [23, 2, 3, 4, 24, 25, 26, 27, 28, 29, 30, 20, 21, 22, 8, 31, 32, 33, 34, 35, 36, 37, 38, 39, 40, 41, 42, 43, 44, 45, 46, 47, 48, 49, 50, 51, 52, 53, 54] (by decide +kernel) (by decide +kernel)
set_option maxRecDepth 20000 in
theorem gX8_worst_X8_worstOf : GoodIn wsX8_worst (wsV RX8 140 RX8 yX8_worstOf wsX8_worstOf) := goodIn_app (goodIn_of _ (by decide +kernel)) ggX8_worst_X8_worstOf
theorem dX8_worst_0 : decode cX8_worst 0 = .ok (.aload_n 0, 1) := by decide +kernel
theorem dX8_worst_1 : decode cX8_worst 1 = .ok (.iconst 0, 1) := by decide +kernel
theorem dX8_worst_2 : decode cX8_worst 2 = .ok (.putfield 63, 3) := by decide +kernel
theorem dX8_worst_5 : decode cX8_worst 5 = .ok (.aload_n 0, 1) := by decide +kernel
theorem dX8_worst_6 : decode cX8_worst 6 = .ok (.invokevirtual 131, 3) := by decide +kernel
theorem dX8_worst_9 : decode cX8_worst 9 = .ok (.istore_n 1, 1) := by decide +kernel
theorem dX8_worst_10 : decode cX8_worst 10 = .ok (.iload_n 1, 1) := by decide +kernel
theorem dX8_worst_11 : decode cX8_worst 11 = .ok (.bipush 64, 2) := by decide +kernel
theorem dX8_worst_13 : decode cX8_worst 13 = .ok (.if_icmp .le 5, 3) := by decide +kernel
theorem dX8_worst_16 : decode cX8_worst 16 = .ok (.iconst (-1), 1) := by decide +kernel
theorem dX8_worst_17 : decode cX8_worst 17 = .ok (.ireturn, 1) := by decide +kernel
theorem dX8_worst_18 : decode cX8_worst 18 = .ok (.iconst 0, 1) := by decide +kernel
theorem dX8_worst_19 : decode cX8_worst 19 = .ok (.istore_n 2, 1) := by decide +kernel
theorem dX8_worst_20 : decode cX8_worst 20 = .ok (.iconst 0, 1) := by decide +kernel
theorem dX8_worst_21 : decode cX8_worst 21 = .ok (.istore_n 3, 1) := by decide +kernel
theorem dX8_worst_22 : decode cX8_worst 22 = .ok (.iload_n 3, 1) := by decide +kernel
theorem dX8_worst_23 : decode cX8_worst 23 = .ok (.iconst 1, 1) := by decide +kernel
theorem dX8_worst_24 : decode cX8_worst 24 = .ok (.aload_n 0, 1) := by decide +kernel
theorem dX8_worst_25 : decode cX8_worst 25 = .ok (.getfield 66, 3) := by decide +kernel
theorem dX8_worst_28 : decode cX8_worst 28 = .ok (.ishl, 1) := by decide +kernel
theorem dX8_worst_29 : decode cX8_worst 29 = .ok (.if_icmp .ge 30, 3) := by decide +kernel
theorem dX8_worst_32 : decode cX8_worst 32 = .ok (.aload_n 0, 1) := by decide +kernel
theorem dX8_worst_33 : decode cX8_worst 33 = .ok (.iload_n 3, 1) := by decide +kernel
theorem dX8_worst_34 : decode cX8_worst 34 = .ok (.invokevirtual 128, 3) := by decide +kernel
theorem dX8_worst_37 : decode cX8_worst 37 = .ok (.ifCond .ne 6, 3) := by decide +kernel
theorem dX8_worst_40 : decode cX8_worst 40 = .ok (.goto 13, 3) := by decide +kernel
theorem dX8_worst_43 : decode cX8_worst 43 = .ok (.aload_n 0, 1) := by decide +kernel
theorem dX8_worst_44 : decode cX8_worst 44 = .ok (.getfield 60, 3) := by decide +kernel
theorem dX8_worst_47 : decode cX8_worst 47 = .ok (.iload_n 2, 1) := by decide +kernel
theorem dX8_worst_48 : decode cX8_worst 48 = .ok (.iload_n 3, 1) := by decide +kernel
theorem dX8_worst_49 : decode cX8_worst 49 = .ok (.iastore, 1) := by decide +kernel
theorem dX8_worst_50 : decode cX8_worst 50 = .ok (.iinc 2 1, 3) := by decide +kernel
theorem dX8_worst_53 : decode cX8_worst 53 = .ok (.iinc 3 1, 3) := by decide +kernel
theorem dX8_worst_56 : decode cX8_worst 56 = .ok (.goto (-34), 3) := by decide +kernel
theorem dX8_worst_59 : decode cX8_worst 59 = .ok (.aload_n 0, 1) := by decide +kernel
theorem dX8_worst_60 : decode cX8_worst 60 = .ok (.iload_n 1, 1) := by decide +kernel
theorem dX8_worst_61 : decode cX8_worst 61 = .ok (.bipush 64, 2) := by decide +kernel
theorem dX8_worst_63 : decode cX8_worst 63 = .ok (.if_icmp .ne 9, 3) := by decide +kernel
theorem dX8_worst_66 : decode cX8_worst 66 = .ok (.ldc2_w 143, 3) := by decide +kernel
theorem dX8_worst_69 : decode cX8_worst 69 = .ok (.goto 8, 3) := by decide +kernel
theorem dX8_worst_72 : decode cX8_worst 72 = .ok (.lconst 1, 1) := by decide +kernel
theorem dX8_worst_73 : decode cX8_worst 73 = .ok (.iload_n 1, 1) := by decide +kernel
theorem dX8_worst_74 : decode cX8_worst 74 = .ok (.lshl, 1) := by decide +kernel
theorem dX8_worst_75 : decode cX8_worst 75 = .ok (.lconst 1, 1) := by decide +kernel
theorem dX8_worst_76 : decode cX8_worst 76 = .ok (.lsub, 1) := by decide +kernel
theorem dX8_worst_77 : decode cX8_worst 77 = .ok (.invokevirtual 140, 3) := by decide +kernel
theorem dX8_worst_80 : decode cX8_worst 80 = .ok (.ireturn, 1) := by decide +kernel
set_option maxRecDepth 20000 in
theorem ggX8_settle_X8_isState : GoodIn wsX8_settle wsX8_isState := goodIn_r _ [8, 2, 9, 10, 11, 12, 7, 13, 14, 15, 16, 17, 18, 19, 20, 21, 22, 23, 24, 25, 26, 27, 28, 29, 30, 31, 32, 33, 34, 35, 36, 37, 38] (by decide +kernel) (by decide +kernel)
set_option maxRecDepth 20000 in
theorem gX8_settle_X8_isState : GoodIn wsX8_settle (wsV RX8 128 RX8 yX8_isState wsX8_isState) := goodIn_app (goodIn_of _ (by decide +kernel)) ggX8_settle_X8_isState
theorem dX8_settle_0 : decode cX8_settle 0 = .ok (.aload_n 0, 1) := by decide +kernel
theorem dX8_settle_1 : decode cX8_settle 1 = .ok (.iconst 0, 1) := by decide +kernel
theorem dX8_settle_2 : decode cX8_settle 2 = .ok (.putfield 63, 3) := by decide +kernel
theorem dX8_settle_5 : decode cX8_settle 5 = .ok (.iconst 1, 1) := by decide +kernel
theorem dX8_settle_6 : decode cX8_settle 6 = .ok (.aload_n 0, 1) := by decide +kernel
theorem dX8_settle_7 : decode cX8_settle 7 = .ok (.getfield 66, 3) := by decide +kernel
theorem dX8_settle_10 : decode cX8_settle 10 = .ok (.ishl, 1) := by decide +kernel
theorem dX8_settle_11 : decode cX8_settle 11 = .ok (.iconst 1, 1) := by decide +kernel
theorem dX8_settle_12 : decode cX8_settle 12 = .ok (.isub, 1) := by decide +kernel
theorem dX8_settle_13 : decode cX8_settle 13 = .ok (.istore_n 1, 1) := by decide +kernel
theorem dX8_settle_14 : decode cX8_settle 14 = .ok (.iconst 0, 1) := by decide +kernel
theorem dX8_settle_15 : decode cX8_settle 15 = .ok (.istore_n 2, 1) := by decide +kernel
theorem dX8_settle_16 : decode cX8_settle 16 = .ok (.iload_n 2, 1) := by decide +kernel
theorem dX8_settle_17 : decode cX8_settle 17 = .ok (.iconst 1, 1) := by decide +kernel
theorem dX8_settle_18 : decode cX8_settle 18 = .ok (.aload_n 0, 1) := by decide +kernel
theorem dX8_settle_19 : decode cX8_settle 19 = .ok (.getfield 66, 3) := by decide +kernel
theorem dX8_settle_22 : decode cX8_settle 22 = .ok (.ishl, 1) := by decide +kernel
theorem dX8_settle_23 : decode cX8_settle 23 = .ok (.if_icmp .ge 21, 3) := by decide +kernel
theorem dX8_settle_26 : decode cX8_settle 26 = .ok (.aload_n 0, 1) := by decide +kernel
theorem dX8_settle_27 : decode cX8_settle 27 = .ok (.iload_n 2, 1) := by decide +kernel
theorem dX8_settle_28 : decode cX8_settle 28 = .ok (.invokevirtual 128, 3) := by decide +kernel
theorem dX8_settle_31 : decode cX8_settle 31 = .ok (.ifCond .eq 7, 3) := by decide +kernel
theorem dX8_settle_34 : decode cX8_settle 34 = .ok (.iload_n 1, 1) := by decide +kernel
theorem dX8_settle_35 : decode cX8_settle 35 = .ok (.iload_n 2, 1) := by decide +kernel
theorem dX8_settle_36 : decode cX8_settle 36 = .ok (.iand, 1) := by decide +kernel
theorem dX8_settle_37 : decode cX8_settle 37 = .ok (.istore_n 1, 1) := by decide +kernel
theorem dX8_settle_38 : decode cX8_settle 38 = .ok (.iinc 2 1, 3) := by decide +kernel
theorem dX8_settle_41 : decode cX8_settle 41 = .ok (.goto (-25), 3) := by decide +kernel
theorem dX8_settle_44 : decode cX8_settle 44 = .ok (.aload_n 0, 1) := by decide +kernel
theorem dX8_settle_45 : decode cX8_settle 45 = .ok (.iload_n 1, 1) := by decide +kernel
theorem dX8_settle_46 : decode cX8_settle 46 = .ok (.putfield 84, 3) := by decide +kernel
theorem dX8_settle_49 : decode cX8_settle 49 = .ok (.aload_n 0, 1) := by decide +kernel
theorem dX8_settle_50 : decode cX8_settle 50 = .ok (.getfield 84, 3) := by decide +kernel
theorem dX8_settle_53 : decode cX8_settle 53 = .ok (.ireturn, 1) := by decide +kernel
set_option maxRecDepth 20000 in
theorem ggX8_state_X8_isState : GoodIn wsX8_state wsX8_isState := goodIn_r _ [7, 2, 8, 9, 10, 11, 6, 12, 13, 14, 15, 16, 17, 18, 19, 20, 21, 22, 23, 24, 25, 26, 27, 28, 29, 30, 31, 32, 33, 34, 35, 36, 37] (by decide +kernel) (by decide +kernel)
set_option maxRecDepth 20000 in
theorem gX8_state_X8_isState : GoodIn wsX8_state (wsV RX8 128 RX8 yX8_isState wsX8_isState) := goodIn_app (goodIn_of _ (by decide +kernel)) ggX8_state_X8_isState
theorem dX8_state_0 : decode cX8_state 0 = .ok (.aload_n 0, 1) := by decide +kernel
theorem dX8_state_1 : decode cX8_state 1 = .ok (.iconst 0, 1) := by decide +kernel
theorem dX8_state_2 : decode cX8_state 2 = .ok (.putfield 63, 3) := by decide +kernel
theorem dX8_state_5 : decode cX8_state 5 = .ok (.iload_n 1, 1) := by decide +kernel
theorem dX8_state_6 : decode cX8_state 6 = .ok (.istore_n 2, 1) := by decide +kernel
theorem dX8_state_7 : decode cX8_state 7 = .ok (.iconst 0, 1) := by decide +kernel
theorem dX8_state_8 : decode cX8_state 8 = .ok (.istore_n 3, 1) := by decide +kernel
theorem dX8_state_9 : decode cX8_state 9 = .ok (.iload_n 3, 1) := by decide +kernel
theorem dX8_state_10 : decode cX8_state 10 = .ok (.iconst 1, 1) := by decide +kernel
theorem dX8_state_11 : decode cX8_state 11 = .ok (.aload_n 0, 1) := by decide +kernel
theorem dX8_state_12 : decode cX8_state 12 = .ok (.getfield 66, 3) := by decide +kernel
theorem dX8_state_15 : decode cX8_state 15 = .ok (.ishl, 1) := by decide +kernel
theorem dX8_state_16 : decode cX8_state 16 = .ok (.if_icmp .ge 33, 3) := by decide +kernel
theorem dX8_state_19 : decode cX8_state 19 = .ok (.iload_n 1, 1) := by decide +kernel
theorem dX8_state_20 : decode cX8_state 20 = .ok (.ifCond .lt 29, 3) := by decide +kernel
theorem dX8_state_23 : decode cX8_state 23 = .ok (.aload_n 0, 1) := by decide +kernel
theorem dX8_state_24 : decode cX8_state 24 = .ok (.iload_n 3, 1) := by decide +kernel
theorem dX8_state_25 : decode cX8_state 25 = .ok (.invokevirtual 128, 3) := by decide +kernel
theorem dX8_state_28 : decode cX8_state 28 = .ok (.ifCond .ne 6, 3) := by decide +kernel
theorem dX8_state_31 : decode cX8_state 31 = .ok (.goto 12, 3) := by decide +kernel
theorem dX8_state_34 : decode cX8_state 34 = .ok (.iload_n 2, 1) := by decide +kernel
theorem dX8_state_35 : decode cX8_state 35 = .ok (.ifCond .ne 5, 3) := by decide +kernel
theorem dX8_state_38 : decode cX8_state 38 = .ok (.iload_n 3, 1) := by decide +kernel
theorem dX8_state_39 : decode cX8_state 39 = .ok (.ireturn, 1) := by decide +kernel
theorem dX8_state_40 : decode cX8_state 40 = .ok (.iinc 2 (-1), 3) := by decide +kernel
theorem dX8_state_43 : decode cX8_state 43 = .ok (.iinc 3 1, 3) := by decide +kernel
theorem dX8_state_46 : decode cX8_state 46 = .ok (.goto (-37), 3) := by decide +kernel
theorem dX8_state_49 : decode cX8_state 49 = .ok (.aload_n 0, 1) := by decide +kernel
theorem dX8_state_50 : decode cX8_state 50 = .ok (.iconst 1, 1) := by decide +kernel
theorem dX8_state_51 : decode cX8_state 51 = .ok (.putfield 63, 3) := by decide +kernel
theorem dX8_state_54 : decode cX8_state 54 = .ok (.iconst 0, 1) := by decide +kernel
theorem dX8_state_55 : decode cX8_state 55 = .ok (.ireturn, 1) := by decide +kernel
end
section
theorem dJ13_bitCount_95d88_0 : decode cJ13_bitCount_95d88 0 = .ok (.lload_n 0, 1) := by decide +kernel
theorem dJ13_bitCount_95d88_1 : decode cJ13_bitCount_95d88 1 = .ok (.lload_n 0, 1) := by decide +kernel
theorem dJ13_bitCount_95d88_2 : decode cJ13_bitCount_95d88 2 = .ok (.iconst 1, 1) := by decide +kernel
theorem dJ13_bitCount_95d88_3 : decode cJ13_bitCount_95d88 3 = .ok (.lushr, 1) := by decide +kernel
theorem dJ13_bitCount_95d88_4 : decode cJ13_bitCount_95d88 4 = .ok (.ldc2_w 314, 3) := by decide +kernel
theorem dJ13_bitCount_95d88_7 : decode cJ13_bitCount_95d88 7 = .ok (.land, 1) := by decide +kernel
theorem dJ13_bitCount_95d88_8 : decode cJ13_bitCount_95d88 8 = .ok (.lsub, 1) := by decide +kernel
theorem dJ13_bitCount_95d88_9 : decode cJ13_bitCount_95d88 9 = .ok (.lstore_n 0, 1) := by decide +kernel
theorem dJ13_bitCount_95d88_10 : decode cJ13_bitCount_95d88 10 = .ok (.lload_n 0, 1) := by decide +kernel
theorem dJ13_bitCount_95d88_11 : decode cJ13_bitCount_95d88 11 = .ok (.ldc2_w 316, 3) := by decide +kernel
theorem dJ13_bitCount_95d88_14 : decode cJ13_bitCount_95d88 14 = .ok (.land, 1) := by decide +kernel
theorem dJ13_bitCount_95d88_15 : decode cJ13_bitCount_95d88 15 = .ok (.lload_n 0, 1) := by decide +kernel
theorem dJ13_bitCount_95d88_16 : decode cJ13_bitCount_95d88 16 = .ok (.iconst 2, 1) := by decide +kernel
theorem dJ13_bitCount_95d88_17 : decode cJ13_bitCount_95d88 17 = .ok (.lushr, 1) := by decide +kernel
theorem dJ13_bitCount_95d88_18 : decode cJ13_bitCount_95d88 18 = .ok (.ldc2_w 316, 3) := by decide +kernel
theorem dJ13_bitCount_95d88_21 : decode cJ13_bitCount_95d88 21 = .ok (.land, 1) := by decide +kernel
theorem dJ13_bitCount_95d88_22 : decode cJ13_bitCount_95d88 22 = .ok (.ladd, 1) := by decide +kernel
theorem dJ13_bitCount_95d88_23 : decode cJ13_bitCount_95d88 23 = .ok (.lstore_n 0, 1) := by decide +kernel
theorem dJ13_bitCount_95d88_24 : decode cJ13_bitCount_95d88 24 = .ok (.lload_n 0, 1) := by decide +kernel
theorem dJ13_bitCount_95d88_25 : decode cJ13_bitCount_95d88 25 = .ok (.lload_n 0, 1) := by decide +kernel
theorem dJ13_bitCount_95d88_26 : decode cJ13_bitCount_95d88 26 = .ok (.iconst 4, 1) := by decide +kernel
theorem dJ13_bitCount_95d88_27 : decode cJ13_bitCount_95d88 27 = .ok (.lushr, 1) := by decide +kernel
theorem dJ13_bitCount_95d88_28 : decode cJ13_bitCount_95d88 28 = .ok (.ladd, 1) := by decide +kernel
theorem dJ13_bitCount_95d88_29 : decode cJ13_bitCount_95d88 29 = .ok (.ldc2_w 318, 3) := by decide +kernel
theorem dJ13_bitCount_95d88_32 : decode cJ13_bitCount_95d88 32 = .ok (.land, 1) := by decide +kernel
theorem dJ13_bitCount_95d88_33 : decode cJ13_bitCount_95d88 33 = .ok (.lstore_n 0, 1) := by decide +kernel
theorem dJ13_bitCount_95d88_34 : decode cJ13_bitCount_95d88 34 = .ok (.lload_n 0, 1) := by decide +kernel
theorem dJ13_bitCount_95d88_35 : decode cJ13_bitCount_95d88 35 = .ok (.lload_n 0, 1) := by decide +kernel
theorem dJ13_bitCount_95d88_36 : decode cJ13_bitCount_95d88 36 = .ok (.bipush 8, 2) := by decide +kernel
theorem dJ13_bitCount_95d88_38 : decode cJ13_bitCount_95d88 38 = .ok (.lushr, 1) := by decide +kernel
theorem dJ13_bitCount_95d88_39 : decode cJ13_bitCount_95d88 39 = .ok (.ladd, 1) := by decide +kernel
theorem dJ13_bitCount_95d88_40 : decode cJ13_bitCount_95d88 40 = .ok (.lstore_n 0, 1) := by decide +kernel
theorem dJ13_bitCount_95d88_41 : decode cJ13_bitCount_95d88 41 = .ok (.lload_n 0, 1) := by decide +kernel
theorem dJ13_bitCount_95d88_42 : decode cJ13_bitCount_95d88 42 = .ok (.lload_n 0, 1) := by decide +kernel
theorem dJ13_bitCount_95d88_43 : decode cJ13_bitCount_95d88 43 = .ok (.bipush 16, 2) := by decide +kernel
theorem dJ13_bitCount_95d88_45 : decode cJ13_bitCount_95d88 45 = .ok (.lushr, 1) := by decide +kernel
theorem dJ13_bitCount_95d88_46 : decode cJ13_bitCount_95d88 46 = .ok (.ladd, 1) := by decide +kernel
theorem dJ13_bitCount_95d88_47 : decode cJ13_bitCount_95d88 47 = .ok (.lstore_n 0, 1) := by decide +kernel
theorem dJ13_bitCount_95d88_48 : decode cJ13_bitCount_95d88 48 = .ok (.lload_n 0, 1) := by decide +kernel
theorem dJ13_bitCount_95d88_49 : decode cJ13_bitCount_95d88 49 = .ok (.lload_n 0, 1) := by decide +kernel
theorem dJ13_bitCount_95d88_50 : decode cJ13_bitCount_95d88 50 = .ok (.bipush 32, 2) := by decide +kernel
theorem dJ13_bitCount_95d88_52 : decode cJ13_bitCount_95d88 52 = .ok (.lushr, 1) := by decide +kernel
theorem dJ13_bitCount_95d88_53 : decode cJ13_bitCount_95d88 53 = .ok (.ladd, 1) := by decide +kernel
theorem dJ13_bitCount_95d88_54 : decode cJ13_bitCount_95d88 54 = .ok (.lstore_n 0, 1) := by decide +kernel
theorem dJ13_bitCount_95d88_55 : decode cJ13_bitCount_95d88 55 = .ok (.lload_n 0, 1) := by decide +kernel
theorem dJ13_bitCount_95d88_56 : decode cJ13_bitCount_95d88 56 = .ok (.l2i, 1) := by decide +kernel
theorem dJ13_bitCount_95d88_57 : decode cJ13_bitCount_95d88 57 = .ok (.bipush 127, 2) := by decide +kernel
theorem dJ13_bitCount_95d88_59 : decode cJ13_bitCount_95d88 59 = .ok (.iand, 1) := by decide +kernel
theorem dJ13_bitCount_95d88_60 : decode cJ13_bitCount_95d88 60 = .ok (.ireturn, 1) := by decide +kernel
theorem dJ9_max_7cf53_0 : decode cJ9_max_7cf53 0 = .ok (.iload_n 0, 1) := by decide +kernel
theorem dJ9_max_7cf53_1 : decode cJ9_max_7cf53 1 = .ok (.iload_n 1, 1) := by decide +kernel
theorem dJ9_max_7cf53_2 : decode cJ9_max_7cf53 2 = .ok (.if_icmp .lt 7, 3) := by decide +kernel
theorem dJ9_max_7cf53_5 : decode cJ9_max_7cf53 5 = .ok (.iload_n 0, 1) := by decide +kernel
theorem dJ9_max_7cf53_6 : decode cJ9_max_7cf53 6 = .ok (.goto 4, 3) := by decide +kernel
theorem dJ9_max_7cf53_9 : decode cJ9_max_7cf53 9 = .ok (.iload_n 1, 1) := by decide +kernel
theorem dJ9_max_7cf53_10 : decode cJ9_max_7cf53 10 = .ok (.ireturn, 1) := by decide +kernel
theorem dJ9_min_7cf53_0 : decode cJ9_min_7cf53 0 = .ok (.iload_n 0, 1) := by decide +kernel
theorem dJ9_min_7cf53_1 : decode cJ9_min_7cf53 1 = .ok (.iload_n 1, 1) := by decide +kernel
theorem dJ9_min_7cf53_2 : decode cJ9_min_7cf53 2 = .ok (.if_icmp .gt 7, 3) := by decide +kernel
theorem dJ9_min_7cf53_5 : decode cJ9_min_7cf53 5 = .ok (.iload_n 0, 1) := by decide +kernel
theorem dJ9_min_7cf53_6 : decode cJ9_min_7cf53 6 = .ok (.goto 4, 3) := by decide +kernel
theorem dJ9_min_7cf53_9 : decode cJ9_min_7cf53 9 = .ok (.iload_n 1, 1) := by decide +kernel
theorem dJ9_min_7cf53_10 : decode cJ9_min_7cf53 10 = .ok (.ireturn, 1) := by decide +kernel
theorem dJxa1e45_init_da8c8_0 : decode cJxa1e45_init_da8c8 0 = .ok (.aload_n 0, 1) := by decide +kernel
theorem dJxa1e45_init_da8c8_1 : decode cJxa1e45_init_da8c8 1 = .ok (.invokespecial 1, 3) := by decide +kernel
theorem dJxa1e45_init_da8c8_4 : decode cJxa1e45_init_da8c8 4 = .ok (.return_, 1) := by decide +kernel
set_option maxRecDepth 20000 in
theorem ggJxc12de_init_da8c8_Jxa1e45_init_da8c8 : GoodIn wsJxc12de_init_da8c8 wsJxa1e45_init_da8c8 := goodIn_r _ [5, 6, 7, 8] (by decide +kernel) (by decide +kernel)
set_option maxRecDepth 20000 in
theorem gJxc12de_init_da8c8_Jxa1e45_init_da8c8 : GoodIn wsJxc12de_init_da8c8 (wsJxa1e45_init_da8c8) := ggJxc12de_init_da8c8_Jxa1e45_init_da8c8
theorem dJxc12de_init_da8c8_0 : decode cJxc12de_init_da8c8 0 = .ok (.aload_n 0, 1) := by decide +kernel
theorem dJxc12de_init_da8c8_1 : decode cJxc12de_init_da8c8 1 = .ok (.invokespecial 1, 3) := by decide +kernel
theorem dJxc12de_init_da8c8_4 : decode cJxc12de_init_da8c8 4 = .ok (.aload_n 0, 1) := by decide +kernel
theorem dJxc12de_init_da8c8_5 : decode cJxc12de_init_da8c8 5 = .ok (.iconst 0, 1) := by decide +kernel
theorem dJxc12de_init_da8c8_6 : decode cJxc12de_init_da8c8 6 = .ok (.putfield 7, 3) := by decide +kernel
theorem dJxc12de_init_da8c8_9 : decode cJxc12de_init_da8c8 9 = .ok (.return_, 1) := by decide +kernel
set_option maxRecDepth 20000 in
theorem ggJx4a65c_init_da8c8_Jxc12de_init_da8c8 : GoodIn wsJx4a65c_init_da8c8 wsJxc12de_init_da8c8 := goodIn_r _ [6, 7, 8, 9, 10, 11, 12, 13, 14, 15, 16, 17] (by decide +kernel) (by decide +kernel)
set_option maxRecDepth 20000 in
theorem gJx4a65c_init_da8c8_Jxc12de_init_da8c8 : GoodIn wsJx4a65c_init_da8c8 (wsJxc12de_init_da8c8) := ggJx4a65c_init_da8c8_Jxc12de_init_da8c8
theorem dJx4a65c_init_da8c8_0 : decode cJx4a65c_init_da8c8 0 = .ok (.aload_n 0, 1) := by decide +kernel
theorem dJx4a65c_init_da8c8_1 : decode cJx4a65c_init_da8c8 1 = .ok (.invokespecial 1, 3) := by decide +kernel
theorem dJx4a65c_init_da8c8_4 : decode cJx4a65c_init_da8c8 4 = .ok (.aload_n 0, 1) := by decide +kernel
theorem dJx4a65c_init_da8c8_5 : decode cJx4a65c_init_da8c8 5 = .ok (.getstatic 39, 3) := by decide +kernel
theorem dJx4a65c_init_da8c8_8 : decode cJx4a65c_init_da8c8 8 = .ok (.putfield 9, 3) := by decide +kernel
theorem dJx4a65c_init_da8c8_11 : decode cJx4a65c_init_da8c8 11 = .ok (.return_, 1) := by decide +kernel
set_option maxRecDepth 20000 in
theorem ggJx4a65c_grow_92f84_J8_newLength_cabcc : GoodIn wsJx4a65c_grow_92f84 wsJ8_newLength_cabcc := goodIn_r _ [11, 12, 4, 5, 6, 13, 14, 15, 10, 16] (by decide +kernel) (by decide +kernel)
set_option maxRecDepth 20000 in
theorem gJx4a65c_grow_92f84_J8_newLength_cabcc : GoodIn wsJx4a65c_grow_92f84 (va_wsS RJx4a65c 73 yJ8_newLength_cabcc wsJ8_newLength_cabcc) := goodIn_app (goodIn_of _ (by decide +kernel)) ggJx4a65c_grow_92f84_J8_newLength_cabcc
set_option maxRecDepth 20000 in
theorem ggJx4a65c_grow_92f84_J7_copyOf_1904c : GoodIn wsJx4a65c_grow_92f84 wsJ7_copyOf_1904c := goodIn_r _ [20, 21, 22, 23, 24, 25, 26, 19, 27, 28, 29, 30, 31, 5, 32, 33, 34, 35, 36] (by decide +kernel) (by decide +kernel)
set_option maxRecDepth 20000 in
theorem gJx4a65c_grow_92f84_J7_copyOf_1904c : GoodIn wsJx4a65c_grow_92f84 (va_wsS RJx4a65c 66 yJ7_copyOf_1904c wsJ7_copyOf_1904c) := goodIn_app (goodIn_of _ (by decide +kernel)) ggJx4a65c_grow_92f84_J7_copyOf_1904c
theorem dJx4a65c_grow_92f84_0 : decode cJx4a65c_grow_92f84 0 = .ok (.aload_n 0, 1) := by decide +kernel
theorem dJx4a65c_grow_92f84_1 : decode cJx4a65c_grow_92f84 1 = .ok (.getfield 9, 3) := by decide +kernel
theorem dJx4a65c_grow_92f84_4 : decode cJx4a65c_grow_92f84 4 = .ok (.arraylength, 1) := by decide +kernel
theorem dJx4a65c_grow_92f84_5 : decode cJx4a65c_grow_92f84 5 = .ok (.istore_n 2, 1) := by decide +kernel
theorem dJx4a65c_grow_92f84_6 : decode cJx4a65c_grow_92f84 6 = .ok (.iload_n 2, 1) := by decide +kernel
theorem dJx4a65c_grow_92f84_7 : decode cJx4a65c_grow_92f84 7 = .ok (.ifCond .gt 13, 3) := by decide +kernel
theorem dJx4a65c_grow_92f84_10 : decode cJx4a65c_grow_92f84 10 = .ok (.aload_n 0, 1) := by decide +kernel
theorem dJx4a65c_grow_92f84_11 : decode cJx4a65c_grow_92f84 11 = .ok (.getfield 9, 3) := by decide +kernel
theorem dJx4a65c_grow_92f84_14 : decode cJx4a65c_grow_92f84 14 = .ok (.getstatic 39, 3) := by decide +kernel
theorem dJx4a65c_grow_92f84_17 : decode cJx4a65c_grow_92f84 17 = .ok (.if_acmp .eq 28, 3) := by decide +kernel
theorem dJx4a65c_grow_92f84_20 : decode cJx4a65c_grow_92f84 20 = .ok (.iload_n 2, 1) := by decide +kernel
theorem dJx4a65c_grow_92f84_21 : decode cJx4a65c_grow_92f84 21 = .ok (.iload_n 1, 1) := by decide +kernel
theorem dJx4a65c_grow_92f84_22 : decode cJx4a65c_grow_92f84 22 = .ok (.iload_n 2, 1) := by decide +kernel
theorem dJx4a65c_grow_92f84_23 : decode cJx4a65c_grow_92f84 23 = .ok (.isub, 1) := by decide +kernel
theorem dJx4a65c_grow_92f84_24 : decode cJx4a65c_grow_92f84 24 = .ok (.iload_n 2, 1) := by decide +kernel
theorem dJx4a65c_grow_92f84_25 : decode cJx4a65c_grow_92f84 25 = .ok (.iconst 1, 1) := by decide +kernel
theorem dJx4a65c_grow_92f84_26 : decode cJx4a65c_grow_92f84 26 = .ok (.ishr, 1) := by decide +kernel
theorem dJx4a65c_grow_92f84_27 : decode cJx4a65c_grow_92f84 27 = .ok (.invokestatic 73, 3) := by decide +kernel
theorem dJx4a65c_grow_92f84_30 : decode cJx4a65c_grow_92f84 30 = .ok (.istore_n 3, 1) := by decide +kernel
theorem dJx4a65c_grow_92f84_31 : decode cJx4a65c_grow_92f84 31 = .ok (.aload_n 0, 1) := by decide +kernel
theorem dJx4a65c_grow_92f84_32 : decode cJx4a65c_grow_92f84 32 = .ok (.aload_n 0, 1) := by decide +kernel
theorem dJx4a65c_grow_92f84_33 : decode cJx4a65c_grow_92f84 33 = .ok (.getfield 9, 3) := by decide +kernel
theorem dJx4a65c_grow_92f84_36 : decode cJx4a65c_grow_92f84 36 = .ok (.iload_n 3, 1) := by decide +kernel
theorem dJx4a65c_grow_92f84_37 : decode cJx4a65c_grow_92f84 37 = .ok (.invokestatic 66, 3) := by decide +kernel
theorem dJx4a65c_grow_92f84_40 : decode cJx4a65c_grow_92f84 40 = .ok (.dup_x1, 1) := by decide +kernel
theorem dJx4a65c_grow_92f84_41 : decode cJx4a65c_grow_92f84 41 = .ok (.putfield 9, 3) := by decide +kernel
theorem dJx4a65c_grow_92f84_44 : decode cJx4a65c_grow_92f84 44 = .ok (.areturn, 1) := by decide +kernel
theorem dJx4a65c_grow_92f84_45 : decode cJx4a65c_grow_92f84 45 = .ok (.aload_n 0, 1) := by decide +kernel
theorem dJx4a65c_grow_92f84_46 : decode cJx4a65c_grow_92f84 46 = .ok (.bipush 10, 2) := by decide +kernel
theorem dJx4a65c_grow_92f84_48 : decode cJx4a65c_grow_92f84 48 = .ok (.iload_n 1, 1) := by decide +kernel
theorem dJx4a65c_grow_92f84_49 : decode cJx4a65c_grow_92f84 49 = .ok (.invokestatic 79, 3) := by decide +kernel
theorem dJx4a65c_grow_92f84_52 : decode cJx4a65c_grow_92f84 52 = .ok (.anewarray 7, 3) := by decide +kernel
theorem dJx4a65c_grow_92f84_55 : decode cJx4a65c_grow_92f84 55 = .ok (.dup_x1, 1) := by decide +kernel
theorem dJx4a65c_grow_92f84_56 : decode cJx4a65c_grow_92f84 56 = .ok (.putfield 9, 3) := by decide +kernel
theorem dJx4a65c_grow_92f84_59 : decode cJx4a65c_grow_92f84 59 = .ok (.areturn, 1) := by decide +kernel
set_option maxRecDepth 20000 in
theorem ggJx4a65c_grow_d5877_Jx4a65c_grow_92f84 : GoodIn wsJx4a65c_grow_d5877 wsJx4a65c_grow_92f84 := goodIn_r _ [6, 7, 8, 9, 10, 11, 12, 13, 14, 15, 16, 17, 18, 19, 20, 21, 22, 23, 24, 25, 26, 27, 28, 29, 30, 31, 32, 33, 34, 35, 36, 37, 38, 39, 40, 41, 42, 43, 44, 45] (by decide +kernel) (by decide +kernel)
set_option maxRecDepth 20000 in
theorem gJx4a65c_grow_d5877_Jx4a65c_grow_92f84 : GoodIn wsJx4a65c_grow_d5877 (wsV RJx4a65c 69 RJx4a65c yJx4a65c_grow_92f84 wsJx4a65c_grow_92f84) := goodIn_app (goodIn_of _ (by decide +kernel)) ggJx4a65c_grow_d5877_Jx4a65c_grow_92f84
theorem dJx4a65c_grow_d5877_0 : decode cJx4a65c_grow_d5877 0 = .ok (.aload_n 0, 1) := by decide +kernel
theorem dJx4a65c_grow_d5877_1 : decode cJx4a65c_grow_d5877 1 = .ok (.aload_n 0, 1) := by decide +kernel
theorem dJx4a65c_grow_d5877_2 : decode cJx4a65c_grow_d5877 2 = .ok (.getfield 48, 3) := by decide +kernel
theorem dJx4a65c_grow_d5877_5 : decode cJx4a65c_grow_d5877 5 = .ok (.iconst 1, 1) := by decide +kernel
theorem dJx4a65c_grow_d5877_6 : decode cJx4a65c_grow_d5877 6 = .ok (.iadd, 1) := by decide +kernel
theorem dJx4a65c_grow_d5877_7 : decode cJx4a65c_grow_d5877 7 = .ok (.invokevirtual 69, 3) := by decide +kernel
theorem dJx4a65c_grow_d5877_10 : decode cJx4a65c_grow_d5877 10 = .ok (.areturn, 1) := by decide +kernel
theorem dJx4a65c_size_8abf5_0 : decode cJx4a65c_size_8abf5 0 = .ok (.aload_n 0, 1) := by decide +kernel
theorem dJx4a65c_size_8abf5_1 : decode cJx4a65c_size_8abf5 1 = .ok (.getfield 48, 3) := by decide +kernel
theorem dJx4a65c_size_8abf5_4 : decode cJx4a65c_size_8abf5 4 = .ok (.ireturn, 1) := by decide +kernel
theorem dJx4a65c_isEmpty_aae02_0 : decode cJx4a65c_isEmpty_aae02 0 = .ok (.aload_n 0, 1) := by decide +kernel
theorem dJx4a65c_isEmpty_aae02_1 : decode cJx4a65c_isEmpty_aae02 1 = .ok (.getfield 48, 3) := by decide +kernel
theorem dJx4a65c_isEmpty_aae02_4 : decode cJx4a65c_isEmpty_aae02 4 = .ok (.ifCond .ne 7, 3) := by decide +kernel
theorem dJx4a65c_isEmpty_aae02_7 : decode cJx4a65c_isEmpty_aae02 7 = .ok (.iconst 1, 1) := by decide +kernel
theorem dJx4a65c_isEmpty_aae02_8 : decode cJx4a65c_isEmpty_aae02 8 = .ok (.goto 4, 3) := by decide +kernel
theorem dJx4a65c_isEmpty_aae02_11 : decode cJx4a65c_isEmpty_aae02 11 = .ok (.iconst 0, 1) := by decide +kernel
theorem dJx4a65c_isEmpty_aae02_12 : decode cJx4a65c_isEmpty_aae02 12 = .ok (.ireturn, 1) := by decide +kernel
theorem dJx4a65c_elementData_915e3_0 : decode cJx4a65c_elementData_915e3 0 = .ok (.aload_n 0, 1) := by decide +kernel
theorem dJx4a65c_elementData_915e3_1 : decode cJx4a65c_elementData_915e3 1 = .ok (.getfield 9, 3) := by decide +kernel
theorem dJx4a65c_elementData_915e3_4 : decode cJx4a65c_elementData_915e3 4 = .ok (.iload_n 1, 1) := by decide +kernel
theorem dJx4a65c_elementData_915e3_5 : decode cJx4a65c_elementData_915e3 5 = .ok (.aaload, 1) := by decide +kernel
theorem dJx4a65c_elementData_915e3_6 : decode cJx4a65c_elementData_915e3 6 = .ok (.areturn, 1) := by decide +kernel
set_option maxRecDepth 20000 in
theorem ggJx4a65c_get_915e3_J15_checkIndex_7cf53 : GoodIn wsJx4a65c_get_915e3 wsJ15_checkIndex_7cf53 := goodIn_r _ [5, 6, 7, 8, 9] (by decide +kernel) (by decide +kernel)
set_option maxRecDepth 20000 in
theorem gJx4a65c_get_915e3_J15_checkIndex_7cf53 : GoodIn wsJx4a65c_get_915e3 (va_wsS RJx4a65c 118 yJ15_checkIndex_7cf53 wsJ15_checkIndex_7cf53) := goodIn_app (goodIn_of _ (by decide +kernel)) ggJx4a65c_get_915e3_J15_checkIndex_7cf53
set_option maxRecDepth 20000 in
theorem ggJx4a65c_get_915e3_Jx4a65c_elementData_915e3 : GoodIn wsJx4a65c_get_915e3 wsJx4a65c_elementData_915e3 := goodIn_r _ [14, 15, 16, 17, 18] (by decide +kernel) (by decide +kernel)
set_option maxRecDepth 20000 in
theorem gJx4a65c_get_915e3_Jx4a65c_elementData_915e3 : GoodIn wsJx4a65c_get_915e3 (wsV RJx4a65c 123 RJx4a65c yJx4a65c_elementData_915e3 wsJx4a65c_elementData_915e3) := goodIn_app (goodIn_of _ (by decide +kernel)) ggJx4a65c_get_915e3_Jx4a65c_elementData_915e3
theorem dJx4a65c_get_915e3_0 : decode cJx4a65c_get_915e3 0 = .ok (.iload_n 1, 1) := by decide +kernel
theorem dJx4a65c_get_915e3_1 : decode cJx4a65c_get_915e3 1 = .ok (.aload_n 0, 1) := by decide +kernel
theorem dJx4a65c_get_915e3_2 : decode cJx4a65c_get_915e3 2 = .ok (.getfield 48, 3) := by decide +kernel
theorem dJx4a65c_get_915e3_5 : decode cJx4a65c_get_915e3 5 = .ok (.invokestatic 118, 3) := by decide +kernel
theorem dJx4a65c_get_915e3_8 : decode cJx4a65c_get_915e3 8 = .ok (.pop, 1) := by decide +kernel
theorem dJx4a65c_get_915e3_9 : decode cJx4a65c_get_915e3 9 = .ok (.aload_n 0, 1) := by decide +kernel
theorem dJx4a65c_get_915e3_10 : decode cJx4a65c_get_915e3 10 = .ok (.iload_n 1, 1) := by decide +kernel
theorem dJx4a65c_get_915e3_11 : decode cJx4a65c_get_915e3 11 = .ok (.invokevirtual 123, 3) := by decide +kernel
theorem dJx4a65c_get_915e3_14 : decode cJx4a65c_get_915e3 14 = .ok (.areturn, 1) := by decide +kernel
set_option maxRecDepth 20000 in
theorem ggJx4a65c_add_72be8_Jx4a65c_grow_d5877 : GoodIn wsJx4a65c_add_72be8 wsJx4a65c_grow_d5877 := goodIn_r _ [6, 1, 7, 8, 9, 5, 10, 11, 12, 13, 14, 15, 16, 17, 18, 19, 20, 21, 22, 23, 24, 25, 26, 27, 28, 29, 30, 31, 32, 33, 34, 35, 36, 37, 38, 39, 40, 41, 42, 43, 44, 45, 46, 47, 48, 49] (by decide +kernel) (by decide +kernel)
set_option maxRecDepth 20000 in
theorem gJx4a65c_add_72be8_Jx4a65c_grow_d5877 : GoodIn wsJx4a65c_add_72be8 (wsV RJx4a65c 129 RJx4a65c yJx4a65c_grow_d5877 wsJx4a65c_grow_d5877) := goodIn_app (goodIn_of _ (by decide +kernel)) ggJx4a65c_add_72be8_Jx4a65c_grow_d5877
theorem dJx4a65c_add_72be8_0 : decode cJx4a65c_add_72be8 0 = .ok (.iload_n 3, 1) := by decide +kernel
theorem dJx4a65c_add_72be8_1 : decode cJx4a65c_add_72be8 1 = .ok (.aload_n 2, 1) := by decide +kernel
theorem dJx4a65c_add_72be8_2 : decode cJx4a65c_add_72be8 2 = .ok (.arraylength, 1) := by decide +kernel
theorem dJx4a65c_add_72be8_3 : decode cJx4a65c_add_72be8 3 = .ok (.if_icmp .ne 8, 3) := by decide +kernel
theorem dJx4a65c_add_72be8_6 : decode cJx4a65c_add_72be8 6 = .ok (.aload_n 0, 1) := by decide +kernel
theorem dJx4a65c_add_72be8_7 : decode cJx4a65c_add_72be8 7 = .ok (.invokevirtual 129, 3) := by decide +kernel
theorem dJx4a65c_add_72be8_10 : decode cJx4a65c_add_72be8 10 = .ok (.astore_n 2, 1) := by decide +kernel
theorem dJx4a65c_add_72be8_11 : decode cJx4a65c_add_72be8 11 = .ok (.aload_n 2, 1) := by decide +kernel
theorem dJx4a65c_add_72be8_12 : decode cJx4a65c_add_72be8 12 = .ok (.iload_n 3, 1) := by decide +kernel
theorem dJx4a65c_add_72be8_13 : decode cJx4a65c_add_72be8 13 = .ok (.aload_n 1, 1) := by decide +kernel
theorem dJx4a65c_add_72be8_14 : decode cJx4a65c_add_72be8 14 = .ok (.aastore, 1) := by decide +kernel
theorem dJx4a65c_add_72be8_15 : decode cJx4a65c_add_72be8 15 = .ok (.aload_n 0, 1) := by decide +kernel
theorem dJx4a65c_add_72be8_16 : decode cJx4a65c_add_72be8 16 = .ok (.iload_n 3, 1) := by decide +kernel
theorem dJx4a65c_add_72be8_17 : decode cJx4a65c_add_72be8 17 = .ok (.iconst 1, 1) := by decide +kernel
theorem dJx4a65c_add_72be8_18 : decode cJx4a65c_add_72be8 18 = .ok (.iadd, 1) := by decide +kernel
theorem dJx4a65c_add_72be8_19 : decode cJx4a65c_add_72be8 19 = .ok (.putfield 48, 3) := by decide +kernel
theorem dJx4a65c_add_72be8_22 : decode cJx4a65c_add_72be8 22 = .ok (.return_, 1) := by decide +kernel
set_option maxRecDepth 20000 in
theorem ggJx4a65c_add_9ea2d_Jx4a65c_add_72be8 : GoodIn wsJx4a65c_add_9ea2d wsJx4a65c_add_72be8 := goodIn_r _ [9, 4, 10, 11, 12, 8, 13, 14, 15, 16, 17, 3, 18, 19, 20, 21, 22, 23, 24, 25, 26, 27, 28, 29, 30, 31, 32, 33, 34, 35, 36, 37, 38, 39, 40, 41, 42, 43, 44, 45, 46, 47, 48, 49, 50, 51, 52, 53, 54, 55] (by decide +kernel) (by decide +kernel)
set_option maxRecDepth 20000 in
theorem gJx4a65c_add_9ea2d_Jx4a65c_add_72be8 : GoodIn wsJx4a65c_add_9ea2d (wsV RJx4a65c 131 RJx4a65c yJx4a65c_add_72be8 wsJx4a65c_add_72be8) := goodIn_app (goodIn_of _ (by decide +kernel)) ggJx4a65c_add_9ea2d_Jx4a65c_add_72be8
theorem dJx4a65c_add_9ea2d_0 : decode cJx4a65c_add_9ea2d 0 = .ok (.aload_n 0, 1) := by decide +kernel
theorem dJx4a65c_add_9ea2d_1 : decode cJx4a65c_add_9ea2d 1 = .ok (.dup, 1) := by decide +kernel
theorem dJx4a65c_add_9ea2d_2 : decode cJx4a65c_add_9ea2d 2 = .ok (.getfield 63, 3) := by decide +kernel
theorem dJx4a65c_add_9ea2d_5 : decode cJx4a65c_add_9ea2d 5 = .ok (.iconst 1, 1) := by decide +kernel
theorem dJx4a65c_add_9ea2d_6 : decode cJx4a65c_add_9ea2d 6 = .ok (.iadd, 1) := by decide +kernel
theorem dJx4a65c_add_9ea2d_7 : decode cJx4a65c_add_9ea2d 7 = .ok (.putfield 63, 3) := by decide +kernel
theorem dJx4a65c_add_9ea2d_10 : decode cJx4a65c_add_9ea2d 10 = .ok (.aload_n 0, 1) := by decide +kernel
theorem dJx4a65c_add_9ea2d_11 : decode cJx4a65c_add_9ea2d 11 = .ok (.aload_n 1, 1) := by decide +kernel
theorem dJx4a65c_add_9ea2d_12 : decode cJx4a65c_add_9ea2d 12 = .ok (.aload_n 0, 1) := by decide +kernel
theorem dJx4a65c_add_9ea2d_13 : decode cJx4a65c_add_9ea2d 13 = .ok (.getfield 9, 3) := by decide +kernel
theorem dJx4a65c_add_9ea2d_16 : decode cJx4a65c_add_9ea2d 16 = .ok (.aload_n 0, 1) := by decide +kernel
theorem dJx4a65c_add_9ea2d_17 : decode cJx4a65c_add_9ea2d 17 = .ok (.getfield 48, 3) := by decide +kernel
theorem dJx4a65c_add_9ea2d_20 : decode cJx4a65c_add_9ea2d 20 = .ok (.invokevirtual 131, 3) := by decide +kernel
theorem dJx4a65c_add_9ea2d_23 : decode cJx4a65c_add_9ea2d 23 = .ok (.iconst 1, 1) := by decide +kernel
theorem dJx4a65c_add_9ea2d_24 : decode cJx4a65c_add_9ea2d 24 = .ok (.ireturn, 1) := by decide +kernel
set_option maxRecDepth 20000 in
theorem ggJx4a65c_remove_915e3_J15_checkIndex_7cf53 : GoodIn wsJx4a65c_remove_915e3 wsJ15_checkIndex_7cf53 := goodIn_r _ [6, 7, 8, 9, 10] (by decide +kernel) (by decide +kernel)
set_option maxRecDepth 20000 in
theorem gJx4a65c_remove_915e3_J15_checkIndex_7cf53 : GoodIn wsJx4a65c_remove_915e3 (va_wsS RJx4a65c 118 yJ15_checkIndex_7cf53 wsJ15_checkIndex_7cf53) := goodIn_app (goodIn_of _ (by decide +kernel)) ggJx4a65c_remove_915e3_J15_checkIndex_7cf53
set_option maxRecDepth 20000 in
theorem ggJx4a65c_remove_915e3_Jx4a65c_fastRemove_b59b0 : GoodIn wsJx4a65c_remove_915e3 wsJx4a65c_fastRemove_b59b0 := goodIn_r _ [15, 16, 17, 1, 18, 19, 20, 21, 22, 23, 24] (by decide +kernel) (by decide +kernel)
set_option maxRecDepth 20000 in
theorem gJx4a65c_remove_915e3_Jx4a65c_fastRemove_b59b0 : GoodIn wsJx4a65c_remove_915e3 (wsV RJx4a65c 144 RJx4a65c yJx4a65c_fastRemove_b59b0 wsJx4a65c_fastRemove_b59b0) := goodIn_app (goodIn_of _ (by decide +kernel)) ggJx4a65c_remove_915e3_Jx4a65c_fastRemove_b59b0
theorem dJx4a65c_remove_915e3_0 : decode cJx4a65c_remove_915e3 0 = .ok (.iload_n 1, 1) := by decide +kernel
theorem dJx4a65c_remove_915e3_1 : decode cJx4a65c_remove_915e3 1 = .ok (.aload_n 0, 1) := by decide +kernel
theorem dJx4a65c_remove_915e3_2 : decode cJx4a65c_remove_915e3 2 = .ok (.getfield 48, 3) := by decide +kernel
theorem dJx4a65c_remove_915e3_5 : decode cJx4a65c_remove_915e3 5 = .ok (.invokestatic 118, 3) := by decide +kernel
theorem dJx4a65c_remove_915e3_8 : decode cJx4a65c_remove_915e3 8 = .ok (.pop, 1) := by decide +kernel
theorem dJx4a65c_remove_915e3_9 : decode cJx4a65c_remove_915e3 9 = .ok (.aload_n 0, 1) := by decide +kernel
theorem dJx4a65c_remove_915e3_10 : decode cJx4a65c_remove_915e3 10 = .ok (.getfield 9, 3) := by decide +kernel
theorem dJx4a65c_remove_915e3_13 : decode cJx4a65c_remove_915e3 13 = .ok (.astore_n 2, 1) := by decide +kernel
theorem dJx4a65c_remove_915e3_14 : decode cJx4a65c_remove_915e3 14 = .ok (.aload_n 2, 1) := by decide +kernel
theorem dJx4a65c_remove_915e3_15 : decode cJx4a65c_remove_915e3 15 = .ok (.iload_n 1, 1) := by decide +kernel
theorem dJx4a65c_remove_915e3_16 : decode cJx4a65c_remove_915e3 16 = .ok (.aaload, 1) := by decide +kernel
theorem dJx4a65c_remove_915e3_17 : decode cJx4a65c_remove_915e3 17 = .ok (.astore_n 3, 1) := by decide +kernel
theorem dJx4a65c_remove_915e3_18 : decode cJx4a65c_remove_915e3 18 = .ok (.aload_n 0, 1) := by decide +kernel
theorem dJx4a65c_remove_915e3_19 : decode cJx4a65c_remove_915e3 19 = .ok (.aload_n 2, 1) := by decide +kernel
theorem dJx4a65c_remove_915e3_20 : decode cJx4a65c_remove_915e3 20 = .ok (.iload_n 1, 1) := by decide +kernel
theorem dJx4a65c_remove_915e3_21 : decode cJx4a65c_remove_915e3 21 = .ok (.invokevirtual 144, 3) := by decide +kernel
theorem dJx4a65c_remove_915e3_24 : decode cJx4a65c_remove_915e3 24 = .ok (.aload_n 3, 1) := by decide +kernel
theorem dJx4a65c_remove_915e3_25 : decode cJx4a65c_remove_915e3 25 = .ok (.areturn, 1) := by decide +kernel
theorem dJx4a65c_fastRemove_b59b0_0 : decode cJx4a65c_fastRemove_b59b0 0 = .ok (.aload_n 0, 1) := by decide +kernel
theorem dJx4a65c_fastRemove_b59b0_1 : decode cJx4a65c_fastRemove_b59b0 1 = .ok (.dup, 1) := by decide +kernel
theorem dJx4a65c_fastRemove_b59b0_2 : decode cJx4a65c_fastRemove_b59b0 2 = .ok (.getfield 63, 3) := by decide +kernel
theorem dJx4a65c_fastRemove_b59b0_5 : decode cJx4a65c_fastRemove_b59b0 5 = .ok (.iconst 1, 1) := by decide +kernel
theorem dJx4a65c_fastRemove_b59b0_6 : decode cJx4a65c_fastRemove_b59b0 6 = .ok (.iadd, 1) := by decide +kernel
theorem dJx4a65c_fastRemove_b59b0_7 : decode cJx4a65c_fastRemove_b59b0 7 = .ok (.putfield 63, 3) := by decide +kernel
theorem dJx4a65c_fastRemove_b59b0_10 : decode cJx4a65c_fastRemove_b59b0 10 = .ok (.aload_n 0, 1) := by decide +kernel
theorem dJx4a65c_fastRemove_b59b0_11 : decode cJx4a65c_fastRemove_b59b0 11 = .ok (.getfield 48, 3) := by decide +kernel
theorem dJx4a65c_fastRemove_b59b0_14 : decode cJx4a65c_fastRemove_b59b0 14 = .ok (.iconst 1, 1) := by decide +kernel
theorem dJx4a65c_fastRemove_b59b0_15 : decode cJx4a65c_fastRemove_b59b0 15 = .ok (.isub, 1) := by decide +kernel
theorem dJx4a65c_fastRemove_b59b0_16 : decode cJx4a65c_fastRemove_b59b0 16 = .ok (.dup, 1) := by decide +kernel
theorem dJx4a65c_fastRemove_b59b0_17 : decode cJx4a65c_fastRemove_b59b0 17 = .ok (.istore_n 3, 1) := by decide +kernel
theorem dJx4a65c_fastRemove_b59b0_18 : decode cJx4a65c_fastRemove_b59b0 18 = .ok (.iload_n 2, 1) := by decide +kernel
theorem dJx4a65c_fastRemove_b59b0_19 : decode cJx4a65c_fastRemove_b59b0 19 = .ok (.if_icmp .le 15, 3) := by decide +kernel
theorem dJx4a65c_fastRemove_b59b0_22 : decode cJx4a65c_fastRemove_b59b0 22 = .ok (.aload_n 1, 1) := by decide +kernel
theorem dJx4a65c_fastRemove_b59b0_23 : decode cJx4a65c_fastRemove_b59b0 23 = .ok (.iload_n 2, 1) := by decide +kernel
theorem dJx4a65c_fastRemove_b59b0_24 : decode cJx4a65c_fastRemove_b59b0 24 = .ok (.iconst 1, 1) := by decide +kernel
theorem dJx4a65c_fastRemove_b59b0_25 : decode cJx4a65c_fastRemove_b59b0 25 = .ok (.iadd, 1) := by decide +kernel
theorem dJx4a65c_fastRemove_b59b0_26 : decode cJx4a65c_fastRemove_b59b0 26 = .ok (.aload_n 1, 1) := by decide +kernel
theorem dJx4a65c_fastRemove_b59b0_27 : decode cJx4a65c_fastRemove_b59b0 27 = .ok (.iload_n 2, 1) := by decide +kernel
theorem dJx4a65c_fastRemove_b59b0_28 : decode cJx4a65c_fastRemove_b59b0 28 = .ok (.iload_n 3, 1) := by decide +kernel
theorem dJx4a65c_fastRemove_b59b0_29 : decode cJx4a65c_fastRemove_b59b0 29 = .ok (.iload_n 2, 1) := by decide +kernel
theorem dJx4a65c_fastRemove_b59b0_30 : decode cJx4a65c_fastRemove_b59b0 30 = .ok (.isub, 1) := by decide +kernel
theorem dJx4a65c_fastRemove_b59b0_31 : decode cJx4a65c_fastRemove_b59b0 31 = .ok (.invokestatic 112, 3) := by decide +kernel
theorem dJx4a65c_fastRemove_b59b0_34 : decode cJx4a65c_fastRemove_b59b0 34 = .ok (.aload_n 1, 1) := by decide +kernel
theorem dJx4a65c_fastRemove_b59b0_35 : decode cJx4a65c_fastRemove_b59b0 35 = .ok (.aload_n 0, 1) := by decide +kernel
theorem dJx4a65c_fastRemove_b59b0_36 : decode cJx4a65c_fastRemove_b59b0 36 = .ok (.iload_n 3, 1) := by decide +kernel
theorem dJx4a65c_fastRemove_b59b0_37 : decode cJx4a65c_fastRemove_b59b0 37 = .ok (.dup_x1, 1) := by decide +kernel
theorem dJx4a65c_fastRemove_b59b0_38 : decode cJx4a65c_fastRemove_b59b0 38 = .ok (.putfield 48, 3) := by decide +kernel
theorem dJx4a65c_fastRemove_b59b0_41 : decode cJx4a65c_fastRemove_b59b0 41 = .ok (.aconst_null, 1) := by decide +kernel
theorem dJx4a65c_fastRemove_b59b0_42 : decode cJx4a65c_fastRemove_b59b0 42 = .ok (.aastore, 1) := by decide +kernel
theorem dJx4a65c_fastRemove_b59b0_43 : decode cJx4a65c_fastRemove_b59b0 43 = .ok (.return_, 1) := by decide +kernel
set_option maxRecDepth 20000 in
theorem ggJ7_copyOf_1904c_J7_copyOf_6403c : GoodIn wsJ7_copyOf_1904c wsJ7_copyOf_6403c := goodIn_r _ [8, 9, 10, 11, 12, 13, 14, 15, 16, 17, 18] (by decide +kernel) (by decide +kernel)
set_option maxRecDepth 20000 in
theorem gJ7_copyOf_1904c_J7_copyOf_6403c : GoodIn wsJ7_copyOf_1904c (va_wsS RJ7 300 yJ7_copyOf_6403c wsJ7_copyOf_6403c) := goodIn_app (goodIn_of _ (by decide +kernel)) ggJ7_copyOf_1904c_J7_copyOf_6403c
theorem dJ7_copyOf_1904c_0 : decode cJ7_copyOf_1904c 0 = .ok (.aload_n 0, 1) := by decide +kernel
theorem dJ7_copyOf_1904c_1 : decode cJ7_copyOf_1904c 1 = .ok (.iload_n 1, 1) := by decide +kernel
theorem dJ7_copyOf_1904c_2 : decode cJ7_copyOf_1904c 2 = .ok (.aload_n 0, 1) := by decide +kernel
theorem dJ7_copyOf_1904c_3 : decode cJ7_copyOf_1904c 3 = .ok (.invokevirtual 86, 3) := by decide +kernel
theorem dJ7_copyOf_1904c_6 : decode cJ7_copyOf_1904c 6 = .ok (.invokestatic 300, 3) := by decide +kernel
theorem dJ7_copyOf_1904c_9 : decode cJ7_copyOf_1904c 9 = .ok (.areturn, 1) := by decide +kernel
theorem dJ7_copyOf_6403c_0 : decode cJ7_copyOf_6403c 0 = .ok (.aload_n 2, 1) := by decide +kernel
theorem dJ7_copyOf_6403c_1 : decode cJ7_copyOf_6403c 1 = .ok (.ldc 110, 2) := by decide +kernel
theorem dJ7_copyOf_6403c_3 : decode cJ7_copyOf_6403c 3 = .ok (.if_acmp .ne 10, 3) := by decide +kernel
theorem dJ7_copyOf_6403c_6 : decode cJ7_copyOf_6403c 6 = .ok (.iload_n 1, 1) := by decide +kernel
theorem dJ7_copyOf_6403c_7 : decode cJ7_copyOf_6403c 7 = .ok (.anewarray 2, 3) := by decide +kernel
theorem dJ7_copyOf_6403c_10 : decode cJ7_copyOf_6403c 10 = .ok (.goto 14, 3) := by decide +kernel
theorem dJ7_copyOf_6403c_13 : decode cJ7_copyOf_6403c 13 = .ok (.aload_n 2, 1) := by decide +kernel
theorem dJ7_copyOf_6403c_14 : decode cJ7_copyOf_6403c 14 = .ok (.invokevirtual 90, 3) := by decide +kernel
theorem dJ7_copyOf_6403c_17 : decode cJ7_copyOf_6403c 17 = .ok (.iload_n 1, 1) := by decide +kernel
theorem dJ7_copyOf_6403c_18 : decode cJ7_copyOf_6403c 18 = .ok (.invokestatic 95, 3) := by decide +kernel
theorem dJ7_copyOf_6403c_21 : decode cJ7_copyOf_6403c 21 = .ok (.checkcast 110, 3) := by decide +kernel
theorem dJ7_copyOf_6403c_24 : decode cJ7_copyOf_6403c 24 = .ok (.astore_n 3, 1) := by decide +kernel
theorem dJ7_copyOf_6403c_25 : decode cJ7_copyOf_6403c 25 = .ok (.aload_n 0, 1) := by decide +kernel
theorem dJ7_copyOf_6403c_26 : decode cJ7_copyOf_6403c 26 = .ok (.iconst 0, 1) := by decide +kernel
theorem dJ7_copyOf_6403c_27 : decode cJ7_copyOf_6403c 27 = .ok (.aload_n 3, 1) := by decide +kernel
theorem dJ7_copyOf_6403c_28 : decode cJ7_copyOf_6403c 28 = .ok (.iconst 0, 1) := by decide +kernel
theorem dJ7_copyOf_6403c_29 : decode cJ7_copyOf_6403c 29 = .ok (.aload_n 0, 1) := by decide +kernel
theorem dJ7_copyOf_6403c_30 : decode cJ7_copyOf_6403c 30 = .ok (.arraylength, 1) := by decide +kernel
theorem dJ7_copyOf_6403c_31 : decode cJ7_copyOf_6403c 31 = .ok (.iload_n 1, 1) := by decide +kernel
theorem dJ7_copyOf_6403c_32 : decode cJ7_copyOf_6403c 32 = .ok (.invokestatic 304, 3) := by decide +kernel
theorem dJ7_copyOf_6403c_35 : decode cJ7_copyOf_6403c 35 = .ok (.invokestatic 150, 3) := by decide +kernel
theorem dJ7_copyOf_6403c_38 : decode cJ7_copyOf_6403c 38 = .ok (.aload_n 3, 1) := by decide +kernel
theorem dJ7_copyOf_6403c_39 : decode cJ7_copyOf_6403c 39 = .ok (.areturn, 1) := by decide +kernel
set_option maxRecDepth 20000 in
theorem ggJ15_checkIndex_7cf53_J3_checkIndex_8e157 : GoodIn wsJ15_checkIndex_7cf53 wsJ3_checkIndex_8e157 := goodIn_r _ [4] (by decide +kernel) (by decide +kernel)
set_option maxRecDepth 20000 in
theorem gJ15_checkIndex_7cf53_J3_checkIndex_8e157 : GoodIn wsJ15_checkIndex_7cf53 (va_wsS RJ15 105 yJ3_checkIndex_8e157 wsJ3_checkIndex_8e157) := goodIn_app (goodIn_of _ (by decide +kernel)) ggJ15_checkIndex_7cf53_J3_checkIndex_8e157
theorem dJ15_checkIndex_7cf53_0 : decode cJ15_checkIndex_7cf53 0 = .ok (.iload_n 0, 1) := by decide +kernel
theorem dJ15_checkIndex_7cf53_1 : decode cJ15_checkIndex_7cf53 1 = .ok (.iload_n 1, 1) := by decide +kernel
theorem dJ15_checkIndex_7cf53_2 : decode cJ15_checkIndex_7cf53 2 = .ok (.aconst_null, 1) := by decide +kernel
theorem dJ15_checkIndex_7cf53_3 : decode cJ15_checkIndex_7cf53 3 = .ok (.invokestatic 105, 3) := by decide +kernel
theorem dJ15_checkIndex_7cf53_6 : decode cJ15_checkIndex_7cf53 6 = .ok (.ireturn, 1) := by decide +kernel
set_option maxRecDepth 20000 in
theorem ggJ8_newLength_cabcc_J8_hugeLength_7cf53 : GoodIn wsJ8_newLength_cabcc wsJ8_hugeLength_7cf53 := goodIn_r _ [9, 5] (by decide +kernel) (by decide +kernel)
set_option maxRecDepth 20000 in
theorem gJ8_newLength_cabcc_J8_hugeLength_7cf53 : GoodIn wsJ8_newLength_cabcc (va_wsS RJ8 201 yJ8_hugeLength_7cf53 wsJ8_hugeLength_7cf53) := goodIn_app (goodIn_of _ (by decide +kernel)) ggJ8_newLength_cabcc_J8_hugeLength_7cf53
theorem dJ8_newLength_cabcc_0 : decode cJ8_newLength_cabcc 0 = .ok (.iload_n 0, 1) := by decide +kernel
theorem dJ8_newLength_cabcc_1 : decode cJ8_newLength_cabcc 1 = .ok (.iload_n 1, 1) := by decide +kernel
theorem dJ8_newLength_cabcc_2 : decode cJ8_newLength_cabcc 2 = .ok (.iload_n 2, 1) := by decide +kernel
theorem dJ8_newLength_cabcc_3 : decode cJ8_newLength_cabcc 3 = .ok (.invokestatic 194, 3) := by decide +kernel
theorem dJ8_newLength_cabcc_6 : decode cJ8_newLength_cabcc 6 = .ok (.iadd, 1) := by decide +kernel
theorem dJ8_newLength_cabcc_7 : decode cJ8_newLength_cabcc 7 = .ok (.istore_n 3, 1) := by decide +kernel
theorem dJ8_newLength_cabcc_8 : decode cJ8_newLength_cabcc 8 = .ok (.iconst 0, 1) := by decide +kernel
theorem dJ8_newLength_cabcc_9 : decode cJ8_newLength_cabcc 9 = .ok (.iload_n 3, 1) := by decide +kernel
theorem dJ8_newLength_cabcc_10 : decode cJ8_newLength_cabcc 10 = .ok (.if_icmp .ge 11, 3) := by decide +kernel
theorem dJ8_newLength_cabcc_13 : decode cJ8_newLength_cabcc 13 = .ok (.iload_n 3, 1) := by decide +kernel
theorem dJ8_newLength_cabcc_14 : decode cJ8_newLength_cabcc 14 = .ok (.ldc 200, 2) := by decide +kernel
theorem dJ8_newLength_cabcc_16 : decode cJ8_newLength_cabcc 16 = .ok (.if_icmp .gt 5, 3) := by decide +kernel
theorem dJ8_newLength_cabcc_19 : decode cJ8_newLength_cabcc 19 = .ok (.iload_n 3, 1) := by decide +kernel
theorem dJ8_newLength_cabcc_20 : decode cJ8_newLength_cabcc 20 = .ok (.ireturn, 1) := by decide +kernel
theorem dJ8_newLength_cabcc_21 : decode cJ8_newLength_cabcc 21 = .ok (.iload_n 0, 1) := by decide +kernel
theorem dJ8_newLength_cabcc_22 : decode cJ8_newLength_cabcc 22 = .ok (.iload_n 1, 1) := by decide +kernel
theorem dJ8_newLength_cabcc_23 : decode cJ8_newLength_cabcc 23 = .ok (.invokestatic 201, 3) := by decide +kernel
theorem dJ8_newLength_cabcc_26 : decode cJ8_newLength_cabcc 26 = .ok (.ireturn, 1) := by decide +kernel
theorem dJ8_hugeLength_7cf53_0 : decode cJ8_hugeLength_7cf53 0 = .ok (.iload_n 0, 1) := by decide +kernel
theorem dJ8_hugeLength_7cf53_1 : decode cJ8_hugeLength_7cf53 1 = .ok (.iload_n 1, 1) := by decide +kernel
theorem dJ8_hugeLength_7cf53_2 : decode cJ8_hugeLength_7cf53 2 = .ok (.iadd, 1) := by decide +kernel
theorem dJ8_hugeLength_7cf53_3 : decode cJ8_hugeLength_7cf53 3 = .ok (.istore_n 2, 1) := by decide +kernel
theorem dJ8_hugeLength_7cf53_4 : decode cJ8_hugeLength_7cf53 4 = .ok (.iload_n 2, 1) := by decide +kernel
theorem dJ8_hugeLength_7cf53_5 : decode cJ8_hugeLength_7cf53 5 = .ok (.ifCond .ge 44, 3) := by decide +kernel
theorem dJ8_hugeLength_7cf53_8 : decode cJ8_hugeLength_7cf53 8 = .ok (.new 204, 3) := by decide +kernel
theorem dJ8_hugeLength_7cf53_11 : decode cJ8_hugeLength_7cf53 11 = .ok (.dup, 1) := by decide +kernel
theorem dJ8_hugeLength_7cf53_12 : decode cJ8_hugeLength_7cf53 12 = .ok (.new 89, 3) := by decide +kernel
theorem dJ8_hugeLength_7cf53_15 : decode cJ8_hugeLength_7cf53 15 = .ok (.dup, 1) := by decide +kernel
theorem dJ8_hugeLength_7cf53_16 : decode cJ8_hugeLength_7cf53 16 = .ok (.invokespecial 91, 3) := by decide +kernel
theorem dJ8_hugeLength_7cf53_19 : decode cJ8_hugeLength_7cf53 19 = .ok (.ldc 206, 2) := by decide +kernel
theorem dJ8_hugeLength_7cf53_21 : decode cJ8_hugeLength_7cf53 21 = .ok (.invokevirtual 94, 3) := by decide +kernel
theorem dJ8_hugeLength_7cf53_24 : decode cJ8_hugeLength_7cf53 24 = .ok (.iload_n 0, 1) := by decide +kernel
theorem dJ8_hugeLength_7cf53_25 : decode cJ8_hugeLength_7cf53 25 = .ok (.invokevirtual 98, 3) := by decide +kernel
theorem dJ8_hugeLength_7cf53_28 : decode cJ8_hugeLength_7cf53 28 = .ok (.ldc 208, 2) := by decide +kernel
theorem dJ8_hugeLength_7cf53_30 : decode cJ8_hugeLength_7cf53 30 = .ok (.invokevirtual 94, 3) := by decide +kernel
theorem dJ8_hugeLength_7cf53_33 : decode cJ8_hugeLength_7cf53 33 = .ok (.iload_n 1, 1) := by decide +kernel
theorem dJ8_hugeLength_7cf53_34 : decode cJ8_hugeLength_7cf53 34 = .ok (.invokevirtual 98, 3) := by decide +kernel
theorem dJ8_hugeLength_7cf53_37 : decode cJ8_hugeLength_7cf53 37 = .ok (.ldc 210, 2) := by decide +kernel
theorem dJ8_hugeLength_7cf53_39 : decode cJ8_hugeLength_7cf53 39 = .ok (.invokevirtual 94, 3) := by decide +kernel
theorem dJ8_hugeLength_7cf53_42 : decode cJ8_hugeLength_7cf53 42 = .ok (.invokevirtual 101, 3) := by decide +kernel
theorem dJ8_hugeLength_7cf53_45 : decode cJ8_hugeLength_7cf53 45 = .ok (.invokespecial 212, 3) := by decide +kernel
theorem dJ8_hugeLength_7cf53_48 : decode cJ8_hugeLength_7cf53 48 = .ok (.athrow, 1) := by decide +kernel
theorem dJ8_hugeLength_7cf53_49 : decode cJ8_hugeLength_7cf53 49 = .ok (.iload_n 2, 1) := by decide +kernel
theorem dJ8_hugeLength_7cf53_50 : decode cJ8_hugeLength_7cf53 50 = .ok (.ldc 200, 2) := by decide +kernel
theorem dJ8_hugeLength_7cf53_52 : decode cJ8_hugeLength_7cf53 52 = .ok (.if_icmp .gt 6, 3) := by decide +kernel
theorem dJ8_hugeLength_7cf53_55 : decode cJ8_hugeLength_7cf53 55 = .ok (.ldc 200, 2) := by decide +kernel
theorem dJ8_hugeLength_7cf53_57 : decode cJ8_hugeLength_7cf53 57 = .ok (.ireturn, 1) := by decide +kernel
theorem dJ8_hugeLength_7cf53_58 : decode cJ8_hugeLength_7cf53 58 = .ok (.iload_n 2, 1) := by decide +kernel
theorem dJ8_hugeLength_7cf53_59 : decode cJ8_hugeLength_7cf53 59 = .ok (.ireturn, 1) := by decide +kernel
theorem dJ3_checkIndex_8e157_0 : decode cJ3_checkIndex_8e157 0 = .ok (.iload_n 0, 1) := by decide +kernel
theorem dJ3_checkIndex_8e157_1 : decode cJ3_checkIndex_8e157 1 = .ok (.ifCond .lt 8, 3) := by decide +kernel
theorem dJ3_checkIndex_8e157_4 : decode cJ3_checkIndex_8e157 4 = .ok (.iload_n 0, 1) := by decide +kernel
theorem dJ3_checkIndex_8e157_5 : decode cJ3_checkIndex_8e157 5 = .ok (.iload_n 1, 1) := by decide +kernel
theorem dJ3_checkIndex_8e157_6 : decode cJ3_checkIndex_8e157 6 = .ok (.if_icmp .lt 10, 3) := by decide +kernel
theorem dJ3_checkIndex_8e157_9 : decode cJ3_checkIndex_8e157 9 = .ok (.aload_n 2, 1) := by decide +kernel
theorem dJ3_checkIndex_8e157_10 : decode cJ3_checkIndex_8e157 10 = .ok (.iload_n 0, 1) := by decide +kernel
theorem dJ3_checkIndex_8e157_11 : decode cJ3_checkIndex_8e157 11 = .ok (.iload_n 1, 1) := by decide +kernel
theorem dJ3_checkIndex_8e157_12 : decode cJ3_checkIndex_8e157 12 = .ok (.invokestatic 95, 3) := by decide +kernel
theorem dJ3_checkIndex_8e157_15 : decode cJ3_checkIndex_8e157 15 = .ok (.athrow, 1) := by decide +kernel
theorem dJ3_checkIndex_8e157_16 : decode cJ3_checkIndex_8e157 16 = .ok (.iload_n 0, 1) := by decide +kernel
theorem dJ3_checkIndex_8e157_17 : decode cJ3_checkIndex_8e157 17 = .ok (.ireturn, 1) := by decide +kernel
end
section
abbrev vwCl : List vw_C := [(RJx4a65c, TJx4a65c, 3), (RX0, TX0, 4), (RX1, TX1, 5), (RX2, TX2, 2), (RX3, TX3, 2), (RX4, TX4, 3), (RX5, TX5, 3), (RX6, TX6, 3), (RX7, TX7, 7), (RX8, TX8, 24)]
/-! ===== contracts of this claim: what a method needs and leaves, over worlds ===== -/
def pcE (a b c d e : Int32) : va_E := .inr (2, [.int a, .int b, .int c, .int d, .int e])
def kNs (own : String) : Cond := .methodLinkNest own 49 yX7_isSkimmed RX7
def kI1 : MethodName := ⟨"java/util/List", "size", "()I"⟩
def kI2 : MethodName := ⟨"java/util/List", "get", "(I)Ljava/lang/Object;"⟩
def kI3 : MethodName := ⟨"java/util/List", "add", "(Ljava/lang/Object;)Z"⟩
def kI4 : MethodName := ⟨"java/util/List", "isEmpty", "()Z"⟩
def kI5 : MethodName := ⟨"java/util/List", "remove", "(I)Ljava/lang/Object;"⟩
/-- what every method may take as known of the tables -/
def kK (D : va_G) (TY : List (ClassId × FieldType)) (U : State) : Prop :=
  va_K D vwCl TY U ∧ va_Nw (kNs RX3) U ∧ va_Nw (kNs RX5) U ∧ va_Fw RJx4a65c kI1 yJx4a65c_size_8abf5 U ∧ va_Fw RJx4a65c kI2 yJx4a65c_get_915e3 U ∧ va_Fw RJx4a65c kI3 yJx4a65c_add_9ea2d U ∧ va_Fw RJx4a65c kI4 yJx4a65c_isEmpty_aae02 U ∧ va_Fw RJx4a65c kI5 yJx4a65c_remove_915e3 U ∧ va_Nw (.castable RX1 "java/lang/Object") U
theorem kK.warm {D : va_G} {TY : List (ClassId × FieldType)} {s U : State} (hW : s.WarmedH U.vm) (h : kK D TY s) : kK D TY U :=
  ⟨va_K.moved hW.alike h.1, va_Nw.warmM hW h.2.1, va_Nw.warmM hW h.2.2.1, h.2.2.2.1.moved ⟨by decide +kernel, by decide +kernel⟩ hW.alike, h.2.2.2.2.1.moved ⟨by decide +kernel, by decide +kernel⟩ hW.alike, h.2.2.2.2.2.1.moved ⟨by decide +kernel, by decide +kernel⟩ hW.alike, h.2.2.2.2.2.2.1.moved ⟨by decide +kernel, by decide +kernel⟩ hW.alike, h.2.2.2.2.2.2.2.1.moved ⟨by decide +kernel, by decide +kernel⟩ hW.alike, va_Nw.warmC hW h.2.2.2.2.2.2.2.2⟩
theorem kK.same {D : va_G} {TY : List (ClassId × FieldType)} {u U : State} (hv : u.vm = U.vm) (h : kK D TY u) : kK D TY U := by
  have ha : u.vm.Alike U.vm := by rw [hv]; exact Vm.Alike.refl U.vm
  exact ⟨va_K.moved ha h.1, va_Nw.same rfl hv h.2.1, va_Nw.same rfl hv h.2.2.1, h.2.2.2.1.moved ⟨by decide +kernel, by decide +kernel⟩ ha, h.2.2.2.2.1.moved ⟨by decide +kernel, by decide +kernel⟩ ha, h.2.2.2.2.2.1.moved ⟨by decide +kernel, by decide +kernel⟩ ha, h.2.2.2.2.2.2.1.moved ⟨by decide +kernel, by decide +kernel⟩ ha, h.2.2.2.2.2.2.2.1.moved ⟨by decide +kernel, by decide +kernel⟩ ha, va_Nw.same rfl hv h.2.2.2.2.2.2.2.2⟩
/-- a method that writes: its world w at the start; at the end an answer and a world -/
def kP (D : va_G) (TY : List (ClassId × FieldType)) (w : va_W) (sz : Nat) : State → Prop := fun U => U.heap.size = sz ∧ va_P D vwCl w U.heap ∧ kK D TY U ∧ va_D (fun _ => True) w
def kQ (D : va_G) (w : va_W) (sz : Nat) (post : Option Value → va_W → Prop) : Array Value → State → Outcome → State → Prop := fun _ st o t =>
  (∃ (v : Option Value) (w1 : va_W), o = .returned v ∧ post v w1 ∧ va_P D vwCl w1 t.heap ∧ va_D (va_A w sz) w1) ∧ va_F (va_A w sz) st t
def kC (l : Launch) (D : va_G) (TY : List (ClassId × FieldType)) (y : MethodName) (ws : List Cond) (fr lo mc ms : Nat) (av : List Value) (w : va_W) (post : Option Value → va_W → Prop) : Prop :=
  ∀ sz : Nat, Met l y ws ({ frames := fr, cells := mc, slots := ms, locals := lo }) (va_Pc av (kP D TY w sz)) (kQ D w sz post) mc ms (va_A w sz)
/-- a method that only reads -/
def kPr (D : va_G) (TY : List (ClassId × FieldType)) (w : va_W) : State → Prop := fun U => va_P D vwCl w U.heap ∧ kK D TY U
def kQr (post : Option Value → Prop) : Array Value → State → Outcome → State → Prop := fun _ st o t => ∃ v : Option Value, o = .returned v ∧ post v ∧ t.heap = st.heap
def kR (l : Launch) (D : va_G) (TY : List (ClassId × FieldType)) (y : MethodName) (ws : List Cond) (fr lo : Nat) (av : List Value) (w : va_W) (post : Option Value → Prop) : Prop :=
  Met l y ws ({ frames := fr, cells := 0, slots := 0, locals := lo }) (va_Pc av (kPr D TY w)) (kQr post) 0 0 (fun _ => False)
section KFE
variable {l : Launch} {D : va_G} {TY : List (ClassId × FieldType)} {y : MethodName} {ws ws' : List Cond} {fr lo mc ms : Nat} {vs : List Value} {w : va_W} {cc : ByteArray} {maxL : Nat} {ret : Option FieldType}
/-- into a method that writes -/
theorem kEnter {post : Option Value → va_W → Prop} (hy : plainName y.cls = true) (hw : ws = .code y cc maxL ret :: ws') (hn : (lg_sl vs).length ≤ maxL)
    (walk : ∀ (p : Program) (e : Env) (s : State) (m : MethodId) (args : Array Value) (below : List Frame) (meth : Method) (c : Code), p.tables.exec = Jvm.exec → c.code = cc → meth.sig.returnType = ret → c.maxLocals = maxL → (∀ q ∈ ws, q.before args s = true) → s.vm.findClass y.cls = some m.cls → meth.locks = false → meth.name = y.name → kK D TY s → va_P D vwCl w s.heap → va_D (va_A w s.heap.size) w → va_S (va_A w s.heap.size) s.heap s.heap [] → (∀ q : Nat, s.heap.size ≤ q → va_A w s.heap.size q) → ∀ ls : Array Slot, lv_has ls maxL (lv_args 0 vs) →
      W p l e ({ frames := fr, cells := mc, slots := ms, locals := lo }) s m args below meth c s.heap [] 0 0 (MQ below (kQ D w s.heap.size post) args s mc ms (va_A w s.heap.size)) (F0 m 0 ls [])) : kC l D TY y ws fr lo mc ms vs w post := by
  intro sz
  refine Met.ofW (cc := cc) (maxL := maxL) (ret := ret) hy hw ?_
  intro p e s m args below meth c s₁ B hml hv
  obtain ⟨rfl, rfl, hP, hK, hD0⟩ := hv
  have hl := lv_entry vs (n := maxL) hn
  rw [lg_entry_eq]
  exact walk p e s m _ below meth c B.exec B.bytes B.returns hml (atoms_spec (ws := ws) B.pre) (findClass_of_methodNamed B.named) B.notSynchronized (name_of_methodNamed B.named B.method).1 hK hP hD0.self va_S.rf (fun q h => Or.inr h) _ hl
/-- into a method that reads -/
theorem kEnterR {post : Option Value → Prop} (hy : plainName y.cls = true) (hw : ws = .code y cc maxL ret :: ws') (hn : (lg_sl vs).length ≤ maxL)
    (walk : ∀ (p : Program) (e : Env) (s : State) (m : MethodId) (args : Array Value) (below : List Frame) (meth : Method) (c : Code), p.tables.exec = Jvm.exec → c.code = cc → meth.sig.returnType = ret → c.maxLocals = maxL → (∀ q ∈ ws, q.before args s = true) → s.vm.findClass y.cls = some m.cls → meth.locks = false → kK D TY s → va_P D vwCl w s.heap → ∀ ls : Array Slot, lv_has ls maxL (lv_args 0 vs) →
      W p l e ({ frames := fr, cells := 0, slots := 0, locals := lo }) s m args below meth c s.heap [] 0 0 (MQ below (kQr post) args s 0 0 (fun _ => False)) (F0 m 0 ls [])) : kR l D TY y ws fr lo vs w post := by
  refine Met.ofW (cc := cc) (maxL := maxL) (ret := ret) hy hw ?_
  intro p e s m args below meth c s₁ B hml hv
  obtain ⟨rfl, hP, hK⟩ := hv
  have hl := lv_entry vs (n := maxL) hn
  rw [lg_entry_eq]
  exact walk p e s m _ below meth c B.exec B.bytes B.returns hml (atoms_spec (ws := ws) B.pre) (findClass_of_methodNamed B.named) B.notSynchronized hK hP _ hl
end KFE
section KFR
variable {p : Program} {l : Launch} {e : Env} {R : Room} {s : State} {m : MethodId} {args : Array Value} {below : List Frame} {meth : Method} {c : Code} {H : Heap} {locs : List Loc} {cells slots mc ms : Nat} {cc : ByteArray} {pc : Nat} {ls : Array Slot} {D : va_G} {w w1 : va_W}
theorem kRetI {post : Option Value → va_W → Prop} {v : Int32} (hx : p.tables.exec = Jvm.exec) (hb : c.code = cc) (hr : meth.sig.returnType = some .int) (hlk : meth.locks = false) (hd : decode cc pc = .ok (.ireturn, 1)) (hP : va_P D vwCl w1 H) (hD : va_D (va_A w s.heap.size) w1) (hS : va_S (va_A w s.heap.size) s.heap H locs) (h1 : cells ≤ mc) (h2 : slots ≤ ms) (hp : post (some (.int v)) w1) :
    W p l e R s m args below meth c H locs cells slots (MQ below (kQ D w s.heap.size post) args s mc ms (va_A w s.heap.size)) (F0 m pc ls [.int v]) :=
  W.widen h1 h2 (W.iret hx hb hr (fun t ht _ => ⟨⟨_, w1, rfl, hp, by rw [ht]; exact hP, hD⟩, hS.F ht⟩) hS.2.2 hd hlk)
theorem kRetV {post : Option Value → va_W → Prop} (hx : p.tables.exec = Jvm.exec) (hb : c.code = cc) (hr : meth.sig.returnType = none) (hlk : meth.locks = false) (hd : decode cc pc = .ok (.return_, 1)) (hP : va_P D vwCl w1 H) (hD : va_D (va_A w s.heap.size) w1) (hS : va_S (va_A w s.heap.size) s.heap H locs) (h1 : cells ≤ mc) (h2 : slots ≤ ms) (hp : post none w1) :
    W p l e R s m args below meth c H locs cells slots (MQ below (kQ D w s.heap.size post) args s mc ms (va_A w s.heap.size)) (F0 m pc ls []) :=
  W.widen h1 h2 (W.vret hx hb hr (fun t ht _ => ⟨⟨_, w1, rfl, hp, by rw [ht]; exact hP, hD⟩, hS.F ht⟩) hS.2.2 hd hlk)
def k01 (b : Bool) : Int32 := if b then 1 else 0
theorem k01_nar (b : Bool) : narrow .boolean (.int (k01 b)) = .int (k01 b) := by cases b <;> rfl
theorem k01_t : k01 true = 1 := rfl
theorem k01_f : k01 false = 0 := rfl
theorem k01_z {b : Bool} (h : k01 b = 0) : b = false := by cases b <;> simp_all [k01]
theorem k01_n {b : Bool} (h : ¬ k01 b = 0) : b = true := by cases b <;> simp_all [k01]
theorem kRetZ {post : Option Value → va_W → Prop} {v : Int32} (b : Bool) (hv : v = k01 b) (hx : p.tables.exec = Jvm.exec) (hb : c.code = cc) (hr : meth.sig.returnType = some .boolean) (hlk : meth.locks = false) (hd : decode cc pc = .ok (.ireturn, 1)) (hP : va_P D vwCl w1 H) (hD : va_D (va_A w s.heap.size) w1) (hS : va_S (va_A w s.heap.size) s.heap H locs) (h1 : cells ≤ mc) (h2 : slots ≤ ms) (hp : post (some (.int (k01 b))) w1) :
    W p l e R s m args below meth c H locs cells slots (MQ below (kQ D w s.heap.size post) args s mc ms (va_A w s.heap.size)) (F0 m pc ls [.int v]) := by
  subst hv
  exact W.widen h1 h2 (W.zret hx hb hr (k01_nar b) (fun t ht _ => ⟨⟨_, w1, rfl, hp, by rw [ht]; exact hP, hD⟩, hS.F ht⟩) hS.2.2 hd hlk)
theorem kRetIr {post : Option Value → Prop} {v : Int32} (hx : p.tables.exec = Jvm.exec) (hb : c.code = cc) (hr : meth.sig.returnType = some .int) (hlk : meth.locks = false) (hd : decode cc pc = .ok (.ireturn, 1)) (hp : post (some (.int v))) :
    W p l e R s m args below meth c s.heap [] 0 0 (MQ below (kQr post) args s 0 0 (fun _ => False)) (F0 m pc ls [.int v]) :=
  W.iret hx hb hr (fun t ht _ => ⟨_, rfl, hp, ht⟩) (fun _ h => by cases h) hd hlk
theorem kRetZr {post : Option Value → Prop} {v : Int32} (b : Bool) (hv : v = k01 b) (hx : p.tables.exec = Jvm.exec) (hb : c.code = cc) (hr : meth.sig.returnType = some .boolean) (hlk : meth.locks = false) (hd : decode cc pc = .ok (.ireturn, 1)) (hp : post (some (.int (k01 b)))) :
    W p l e R s m args below meth c s.heap [] 0 0 (MQ below (kQr post) args s 0 0 (fun _ => False)) (F0 m pc ls [.int v]) := by
  subst hv
  exact W.zret hx hb hr (k01_nar b) (fun t ht _ => ⟨_, rfl, hp, ht⟩) (fun _ h => by cases h) hd hlk
theorem kRetAr {post : Option Value → Prop} {v : Value} {C : String} (hx : p.tables.exec = Jvm.exec) (hb : c.code = cc) (hr : meth.sig.returnType = some (.object C)) (hlk : meth.locks = false) (hd : decode cc pc = .ok (.areturn, 1)) (hv : v = .null ∨ ∃ a, v = .ref a) (hp : post (some v)) :
    W p l e R s m args below meth c s.heap [] 0 0 (MQ below (kQr post) args s 0 0 (fun _ => False)) (F0 m pc ls [v]) :=
  W.aret hx hb hr (Or.inl ⟨C, rfl⟩) hv (fun t ht _ => ⟨_, rfl, hp, ht⟩) (fun _ h => by cases h) hd hlk
end KFR
section KFC
variable {p : Program} {l : Launch} {e : Env} {R : Room} {s : State} {m : MethodId} {args : Array Value} {below : List Frame} {meth : Method} {c : Code} {H : Heap} {locs : List Loc} {cells slots mc ms : Nat} {Q : State → Prop} {pc : Nat} {ls : Array Slot} {D : va_G} {TY : List (ClassId × FieldType)} {st0 rest As : List Value} {a : Array Value} {A : Nat → Prop} {ws wc wr X cx rx pl pl1 : va_W} {b : Addr} {C : String} {q0 ci : Nat} {fs : List Value} {qc : vw_C}
theorem kPc_sub (hP : va_P D vwCl ws H) (isC : List Nat) (hC : isC.map (fun i => ws[i]?) = wc.map some) : va_P D vwCl wc H := fun k q hq => by
  obtain ⟨i, _, h2⟩ := va_in_of isC hC hq
  exact hP i q h2
theorem kBlind {av : List Value} {w : va_W} {sz : Nat} : FrameBlind (va_Pc av (kP D TY w sz)) := fun a U g mk h => by
  obtain ⟨h1, h2, h3, h4, h5⟩ := h
  exact ⟨h1, h2, h3, kK.same (u := U) (U := U.calling g mk a) rfl h4, h5⟩
theorem kBlindR {av : List Value} {w : va_W} : FrameBlind (va_Pc av (kPr D TY w)) := fun a U g mk h => by
  obtain ⟨h1, h3, h4⟩ := h
  exact ⟨h1, h3, kK.same (u := U) (U := U.calling g mk a) rfl h4⟩
theorem kPreS (hK : kK D TY s) (hP : va_P D vwCl wc H) (hD : va_D (fun _ => True) wc) : PreS s H (va_Pc As (kP D TY wc H.size)) As :=
  ⟨kBlind, fun U hU hW => ⟨rfl, by rw [hU], by rw [hU]; exact hP, hK.warm hW, hD⟩⟩
theorem kPreV (hK : kK D TY s) (hP : va_P D vwCl wc H) (hD : va_D (fun _ => True) wc) (hc : vwCl[ci]? = some qc) (he : wc[q0]? = some (b, .inr (ci, fs))) (hC : qc.1 = C) : PreV s H C b (va_Pc (.ref b :: As) (kP D TY wc H.size)) As :=
  ⟨kBlind, by subst hC; exact va_recv hK.1 hP hc he, fun U hU hW => ⟨rfl, by rw [hU], by rw [hU]; exact hP, hK.warm hW, hD⟩⟩
theorem kPreSR (hK : kK D TY s) (hP : va_P D vwCl wc H) : PreS s H (va_Pc As (kPr D TY wc)) As :=
  ⟨kBlindR, fun U hU hW => ⟨rfl, by rw [hU]; exact hP, hK.warm hW⟩⟩
theorem kPreVR (hK : kK D TY s) (hP : va_P D vwCl wc H) (hc : vwCl[ci]? = some qc) (he : wc[q0]? = some (b, .inr (ci, fs))) (hC : qc.1 = C) : PreV s H C b (va_Pc (.ref b :: As) (kPr D TY wc)) As :=
  ⟨kBlindR, by subst hC; exact va_recv hK.1 hP hc he, fun U hU hW => ⟨rfl, by rw [hU]; exact hP, hK.warm hW⟩⟩
/-- behind a call that only read -/
theorem kGoR {post : Option Value → Prop} (hr : va_Run p l e R s m args below meth c H locs cells slots 0 0 (F0 m pc ls st0) rest (kQr post a) (fun _ => False))
    (kk : ∀ v : Option Value, post v → W p l e R s m args below meth c H locs cells slots Q (F0 m (pc + 3) ls (v.toList ++ rest))) : W p l e R s m args below meth c H locs cells slots Q (F0 m pc ls st0) := by
  intro T hT X
  obtain ⟨v, st₀, t, T', L, h0, X', hL, e1, e2, ⟨v2, hv, hp, hh⟩, st⟩ := hr T hT X
  cases hv
  obtain ⟨t2, a1, b1⟩ := kk v hp T' (by rw [e1, hh, h0]) (Stand.forget X' (fun q h => (hL q h).elim))
  exact ⟨t2, st t2 a1, b1⟩
theorem kGo5R {post : Option Value → Prop} (hr : va_Run5 p l e R s m args below meth c H locs cells slots 0 0 (F0 m pc ls st0) rest (kQr post a) (fun _ => False))
    (kk : ∀ v : Option Value, post v → W p l e R s m args below meth c H locs cells slots Q (F0 m (pc + 5) ls (v.toList ++ rest))) : W p l e R s m args below meth c H locs cells slots Q (F0 m pc ls st0) := by
  intro T hT X
  obtain ⟨v, st₀, t, T', L, h0, X', hL, e1, e2, ⟨v2, hv, hp, hh⟩, st⟩ := hr T hT X
  cases hv
  obtain ⟨t2, a1, b1⟩ := kk v hp T' (by rw [e1, hh, h0]) (Stand.forget X' (fun q h => (hL q h).elim))
  exact ⟨t2, st t2 a1, b1⟩
theorem kS_call {H1 : Heap} {L : List Loc} (hS : va_S A s.heap H locs) (hz : H.size ≤ H1.size) (hk : ∀ q : Nat, q < H.size → ¬ va_A wc H.size q → H1[q]? = H[q]?) (hF : ∀ q, va_A wc H.size q → A q) (hL : ∀ q ∈ L, va_A wc H.size q.base) : va_S A s.heap H1 (locs ++ L) :=
  ⟨Nat.le_trans hS.1 hz, fun q h1 h2 => by rw [hk q (Nat.lt_of_lt_of_le h1 hS.1) (fun z => h2 (hF q z))]; exact hS.2.1 q h1 h2, fun q hq => by
    rcases List.mem_append.mp hq with h | h
    · exact hS.2.2 q h
    · exact hF _ (hL q h)⟩
/-- behind a call that wrote: the caller's other cells, then the callee's -/
theorem kGo {post : Option Value → va_W → Prop} (hr : va_Run p l e R s m args below meth c H locs cells slots mc ms (F0 m pc ls st0) rest (kQ D wc H.size post a) (va_A wc H.size))
    (hP : va_P D vwCl ws H) (hD : va_D A ws) (hS : va_S A s.heap H locs) (hA : ∀ q, s.heap.size ≤ q → A q) (isC isR : List Nat) (hC : isC.map (fun i => ws[i]?) = wc.map some) (hR : isR.map (fun i => ws[i]?) = wr.map some) (hn : va_nd isR = true) (hdis : ∀ i ∈ isR, i ∉ isC)
    (kk : ∀ (v : Option Value) (w1 : va_W) (H1 : Heap) (locs1 : List Loc), post v w1 → va_P D vwCl (wr ++ w1) H1 → va_D A (wr ++ w1) → va_S A s.heap H1 locs1 → W p l e R s m args below meth c H1 locs1 (cells + mc) (slots + ms) Q (F0 m (pc + 3) ls (v.toList ++ rest))) : W p l e R s m args below meth c H locs cells slots Q (F0 m pc ls st0) := by
  intro T hT X
  obtain ⟨v, st₀, t, T', L, h0, X', hL, e1, e2, ⟨⟨v2, w1, hv, hp, hP1, hD1⟩, hz, hk⟩, st⟩ := hr T hT X
  cases hv
  rw [h0] at hz hk
  have hF := va_free hD hS hA isC hC
  have hk1 : ∀ q : Nat, q < H.size → ¬ va_A wc H.size q → T'.heap[q]? = H[q]? := fun q h1 h2 => by rw [e1]; exact hk q h1 h2
  obtain ⟨hP2, hD2⟩ := va_join hP hD isC isR hC hR hn hdis hk1 hF (by rw [e1]; exact hP1) hD1
  obtain ⟨t2, a1, b1⟩ := kk v w1 T'.heap (locs ++ L) hp hP2 hD2 (kS_call hS (by rw [e1]; exact hz) hk1 hF hL) T' rfl X'
  exact ⟨t2, st t2 a1, b1⟩
/-- the same, where caller and callee hold the pool pl -/
theorem kGoP {post : Option Value → va_W → Prop} (hr : va_Run p l e R s m args below meth c H locs cells slots mc ms (F0 m pc ls st0) rest (kQ D (cx ++ pl) H.size post a) (va_A (cx ++ pl) H.size))
    (hP : va_P D vwCl (X ++ pl) H) (hD : va_D A (X ++ pl)) (hS : va_S A s.heap H locs) (hA : ∀ q, s.heap.size ≤ q → A q) (isC isR : List Nat) (hC : isC.map (fun i => X[i]?) = cx.map some) (hR : isR.map (fun i => X[i]?) = wr.map some) (hn : va_nd isR = true) (hdis : ∀ i ∈ isR, i ∉ isC)
    (kk : ∀ (v : Option Value) (w1 : va_W) (H1 : Heap) (locs1 : List Loc), post v w1 → (∀ rx pl1 : va_W, w1 = rx ++ pl1 → va_P D vwCl ((wr ++ rx) ++ pl1) H1 ∧ va_D A ((wr ++ rx) ++ pl1)) → va_S A s.heap H1 locs1 → W p l e R s m args below meth c H1 locs1 (cells + mc) (slots + ms) Q (F0 m (pc + 3) ls (v.toList ++ rest))) : W p l e R s m args below meth c H locs cells slots Q (F0 m pc ls st0) := by
  intro T hT X'
  obtain ⟨v, st₀, t, T', L, h0, X2, hL, e1, e2, ⟨⟨v2, w1, hv, hp, hP1, hD1⟩, hz, hk⟩, st⟩ := hr T hT X'
  cases hv
  rw [h0] at hz hk
  have hF := va_freeP hD hS hA isC hC
  have hk1 : ∀ q : Nat, q < H.size → ¬ va_A (cx ++ pl) H.size q → T'.heap[q]? = H[q]? := fun q h1 h2 => by rw [e1]; exact hk q h1 h2
  obtain ⟨t2, a1, b1⟩ := kk v w1 T'.heap (locs ++ L) hp (fun rx pl1 hw => by
    subst hw
    exact va_joinP hP hD isC isR hC hR hn hdis hk1 hF (by rw [e1]; exact hP1) hD1) (kS_call hS (by rw [e1]; exact hz) hk1 hF hL) T' rfl X2
  exact ⟨t2, st t2 a1, b1⟩
/-- the same, where the caller alone holds the pool -/
theorem kGoQ {post : Option Value → va_W → Prop} (hr : va_Run p l e R s m args below meth c H locs cells slots mc ms (F0 m pc ls st0) rest (kQ D cx H.size post a) (va_A cx H.size))
    (hP : va_P D vwCl (X ++ pl) H) (hD : va_D A (X ++ pl)) (hS : va_S A s.heap H locs) (hA : ∀ q, s.heap.size ≤ q → A q) (isC isR : List Nat) (hC : isC.map (fun i => X[i]?) = cx.map some) (hR : isR.map (fun i => X[i]?) = wr.map some) (hn : va_nd isR = true) (hdis : ∀ i ∈ isR, i ∉ isC)
    (kk : ∀ (v : Option Value) (w1 : va_W) (H1 : Heap) (locs1 : List Loc), post v w1 → va_P D vwCl ((wr ++ w1) ++ pl) H1 → va_D A ((wr ++ w1) ++ pl) → va_S A s.heap H1 locs1 → W p l e R s m args below meth c H1 locs1 (cells + mc) (slots + ms) Q (F0 m (pc + 3) ls (v.toList ++ rest))) : W p l e R s m args below meth c H locs cells slots Q (F0 m pc ls st0) := by
  intro T hT X'
  obtain ⟨v, st₀, t, T', L, h0, X2, hL, e1, e2, ⟨⟨v2, w1, hv, hp, hP1, hD1⟩, hz, hk⟩, st⟩ := hr T hT X'
  cases hv
  rw [h0] at hz hk
  have hF : ∀ q, va_A cx H.size q → A q := fun q h => by
    rcases h with ⟨k, e, h⟩ | h
    · obtain ⟨i, _, h2⟩ := va_in_of isC hC h
      have h3 : (X ++ pl)[i]? = some (q, e) := by rw [List.getElem?_append_left (List.getElem?_eq_some_iff.mp h2).1]; exact h2
      exact hD.2 i _ h3
    · exact hA q (Nat.le_trans hS.1 h)
  have hk1 : ∀ q : Nat, q < H.size → ¬ va_A cx H.size q → T'.heap[q]? = H[q]? := fun q h1 h2 => by rw [e1]; exact hk q h1 h2
  obtain ⟨hP2, hD2⟩ := va_joinQ hP hD isC isR hC hR hn hdis hk1 hF (by rw [e1]; exact hP1) hD1
  obtain ⟨t2, a1, b1⟩ := kk v w1 T'.heap (locs ++ L) hp hP2 hD2 (kS_call hS (by rw [e1]; exact hz) hk1 hF hL) T' rfl X2
  exact ⟨t2, st t2 a1, b1⟩
end KFC
/-! ===== small rows beside the kit's ===== -/
abbrev kTY (cI cJ cZ cO : ClassId) : List (ClassId × FieldType) := [(cI, .int), (cJ, .long), (cZ, .boolean), (cO, .object "java/lang/Object")]
def kmax (x y : Int32) : Int32 := if x < y then y else x
def kmin (x y : Int32) : Int32 := if y < x then y else x
theorem kpi {a b : Int32} (h : a = b) : some (Value.int a) = some (Value.int b) := by rw [h]
theorem kAt {D : va_G} {TY : List (ClassId × FieldType)} {s : State} (hK : kK D TY s) {ci : Nat} {q : vw_C} (h : vwCl[ci]? = some q) : ClassAt s q.1 (D.1 ci) := (hK.1.1 ci q h).2
/-- the pool's part of a world for a callee that holds none -/
theorem kPl_sub {D : va_G} {X pl cx : va_W} {H : Heap} (hP : va_P D vwCl (X ++ pl) H) (is : List Nat) (hs : is.map (fun i => X[i]?) = cx.map some) : va_P D vwCl cx H := fun k q hq => by
  obtain ⟨i, _, h2⟩ := va_in_of is hs hq
  exact hP i q (by rw [List.getElem?_append_left (List.getElem?_eq_some_iff.mp h2).1]; exact h2)
theorem kDl_sub {A : Nat → Prop} {X pl cx : va_W} (hD : va_D A (X ++ pl)) (is : List Nat) (hn : va_nd is = true) (hs : is.map (fun i => X[i]?) = cx.map some) : va_D A cx := by
  have hX : va_D A X := hD.by id (fun k q hq => by show (X ++ pl)[k]? = some q; rw [List.getElem?_append_left (List.getElem?_eq_some_iff.mp hq).1]; exact hq) (fun i j _ _ e => e)
  exact hX.sub is hn hs
theorem kPl_one {D : va_G} {X : va_W} {LP : List Nat} {pf : Nat → va_E} {H : Heap} {q : Nat} (hP : va_P D vwCl (X ++ va_pl LP pf) H) (h : q ∈ LP) : va_P D vwCl [(q, pf q)] H := fun k x hx => by
  obtain ⟨i, hi⟩ := va_pl_get (X := X) (f := pf) h
  match k, hx with
  | 0, hx => cases hx; exact hP i _ hi
  | k + 1, hx => simp at hx
theorem kw1 {β : Type} {α0 : Type} (F : α0 → β) {a0 b0 : α0} (h0 : a0 = b0) : F a0 = F b0 := by subst h0; rfl
theorem kw2 {β : Type} {α0 α1 : Type} (F : α0 → α1 → β) {a0 b0 : α0} {a1 b1 : α1} (h0 : a0 = b0) (h1 : a1 = b1) : F a0 a1 = F b0 b1 := by subst h0; subst h1; rfl
theorem kw3 {β : Type} {α0 α1 α2 : Type} (F : α0 → α1 → α2 → β) {a0 b0 : α0} {a1 b1 : α1} {a2 b2 : α2} (h0 : a0 = b0) (h1 : a1 = b1) (h2 : a2 = b2) : F a0 a1 a2 = F b0 b1 b2 := by subst h0; subst h1; subst h2; rfl
theorem kw4 {β : Type} {α0 α1 α2 α3 : Type} (F : α0 → α1 → α2 → α3 → β) {a0 b0 : α0} {a1 b1 : α1} {a2 b2 : α2} {a3 b3 : α3} (h0 : a0 = b0) (h1 : a1 = b1) (h2 : a2 = b2) (h3 : a3 = b3) : F a0 a1 a2 a3 = F b0 b1 b2 b3 := by subst h0; subst h1; subst h2; subst h3; rfl
theorem kw5 {β : Type} {α0 α1 α2 α3 α4 : Type} (F : α0 → α1 → α2 → α3 → α4 → β) {a0 b0 : α0} {a1 b1 : α1} {a2 b2 : α2} {a3 b3 : α3} {a4 b4 : α4} (h0 : a0 = b0) (h1 : a1 = b1) (h2 : a2 = b2) (h3 : a3 = b3) (h4 : a4 = b4) : F a0 a1 a2 a3 a4 = F b0 b1 b2 b3 b4 := by subst h0; subst h1; subst h2; subst h3; subst h4; rfl
theorem kw6 {β : Type} {α0 α1 α2 α3 α4 α5 : Type} (F : α0 → α1 → α2 → α3 → α4 → α5 → β) {a0 b0 : α0} {a1 b1 : α1} {a2 b2 : α2} {a3 b3 : α3} {a4 b4 : α4} {a5 b5 : α5} (h0 : a0 = b0) (h1 : a1 = b1) (h2 : a2 = b2) (h3 : a3 = b3) (h4 : a4 = b4) (h5 : a5 = b5) : F a0 a1 a2 a3 a4 a5 = F b0 b1 b2 b3 b4 b5 := by subst h0; subst h1; subst h2; subst h3; subst h4; subst h5; rfl
section KFN
variable {p : Program} {l : Launch} {e : Env} {R : Room} {s : State} {m : MethodId} {args : Array Value} {below : List Frame} {meth : Method} {c : Code} {H : Heap} {locs : List Loc} {cells slots : Nat} {Q : State → Prop} {cc : ByteArray} {pc : Nat} {ls : Array Slot} {rest : List Value} {D : va_G} {A : Nat → Prop} {ws : va_W} {H0 : Heap} {cI cJ cZ cO : ClassId}
theorem kIfnonnullN (hexec : p.tables.exec = Jvm.exec) (hb : c.code = cc) {off : Int} (hdg : decode cc pc = .ok (.ifnonnull off, 3)) (k : W p l e R s m args below meth c H locs cells slots Q (F0 m (pc + 3) ls rest)) : W p l e R s m args below meth c H locs cells slots Q (F0 m pc ls (.null :: rest)) := by
  intro T hT X
  obtain ⟨t, a, b⟩ := k T hT X
  refine ⟨t, ?_, b⟩
  jvm_step X.here [X.here.top, hexec, hb, hdg, Value.isRef]
  exact a
theorem kIfnullN (hexec : p.tables.exec = Jvm.exec) (hb : c.code = cc) {off : Int} {tgt : Nat} (hdg : decode cc pc = .ok (.ifnull off, 3)) (ht : (pc : Int) + off = (tgt : Int)) (k : W p l e R s m args below meth c H locs cells slots Q (F0 m tgt ls rest)) : W p l e R s m args below meth c H locs cells slots Q (F0 m pc ls (.null :: rest)) := by
  intro T hT X
  obtain ⟨t, a, b⟩ := k T hT X
  refine ⟨t, ?_, b⟩
  jvm_step X.here [X.here.top, hexec, hb, hdg, ht, Value.isRef]
  exact a
theorem kAloadN_n (hexec : p.tables.exec = Jvm.exec) (hb : c.code = cc) {k : Fin 4} {i : Nat} (hdg : decode cc pc = .ok (.aload_n k, 1)) (hi : (k : Nat) = i) (hl : ls[i]? = some (.val .null))
    (k : W p l e R s m args below meth c H locs cells slots Q (F0 m (pc + 1) ls (.null :: rest))) : W p l e R s m args below meth c H locs cells slots Q (F0 m pc ls (rest)) := by
  subst hi
  intro T hT X
  obtain ⟨t, a, b⟩ := k T hT X
  refine ⟨t, ?_, b⟩
  jvm_step X.here [X.here.top, hexec, hb, hdg, hl, Value.isRef]
  exact a
theorem kAloadN (hexec : p.tables.exec = Jvm.exec) (hb : c.code = cc) {i : Nat} (hdg : decode cc pc = .ok (.aload i, 2)) (hl : ls[i]? = some (.val .null))
    (k : W p l e R s m args below meth c H locs cells slots Q (F0 m (pc + 2) ls (.null :: rest))) : W p l e R s m args below meth c H locs cells slots Q (F0 m pc ls (rest)) := by
  intro T hT X
  obtain ⟨t, a, b⟩ := k T hT X
  refine ⟨t, ?_, b⟩
  jvm_step X.here [X.here.top, hexec, hb, hdg, hl, Value.isRef]
  exact a
theorem kAstoreN_n (hexec : p.tables.exec = Jvm.exec) (hb : c.code = cc) {k : Fin 4} {i nL : Nat} {lv lv' : List (Nat × Value)} (hdg : decode cc pc = .ok (.astore_n k, 1)) (hi : (k : Nat) = i) (h : lv_has ls nL lv) (hn : i < nL) (hl : (i, Value.null) :: lv.filter (fun q => !(q.1 == i) && !(q.1 + 1 == i && q.2.category == 2)) = lv')
    (kk : ∀ ls' : Array Slot, lv_has ls' nL lv' → W p l e R s m args below meth c H locs cells slots Q (F0 m (pc + 1) ls' rest)) : W p l e R s m args below meth c H locs cells slots Q (F0 m pc ls (.null :: rest)) := by
  subst hi
  obtain ⟨ls', e', h'⟩ := lv_store1 (v := .null) h hn rfl
  intro T hT X
  obtain ⟨t, a, b⟩ := kk ls' (hl ▸ h') T hT X
  refine ⟨t, ?_, b⟩
  jvm_step X.here [X.here.top, ↓top_set X.here.top, hexec, hb, hdg, e', Value.isRef]
  exact a
theorem kAstoreN (hexec : p.tables.exec = Jvm.exec) (hb : c.code = cc) {i nL : Nat} {lv lv' : List (Nat × Value)} (hdg : decode cc pc = .ok (.astore i, 2)) (h : lv_has ls nL lv) (hn : i < nL) (hl : (i, Value.null) :: lv.filter (fun q => !(q.1 == i) && !(q.1 + 1 == i && q.2.category == 2)) = lv')
    (kk : ∀ ls' : Array Slot, lv_has ls' nL lv' → W p l e R s m args below meth c H locs cells slots Q (F0 m (pc + 2) ls' rest)) : W p l e R s m args below meth c H locs cells slots Q (F0 m pc ls (.null :: rest)) := by
  obtain ⟨ls', e', h'⟩ := lv_store1 (v := .null) h hn rfl
  intro T hT X
  obtain ⟨t, a, b⟩ := kk ls' (hl ▸ h') T hT X
  refine ⟨t, ?_, b⟩
  jvm_step X.here [X.here.top, ↓top_set X.here.top, hexec, hb, hdg, e', Value.isRef]
  exact a
/-- new arrays: their class is the one that the tables name -/
theorem kNewaI {n : Int32} {N' : Nat} (hexec : p.tables.exec = Jvm.exec) (hb : c.code = cc) (harr : (Cond.arrayClass .int).before args s = true) (hK : va_K D vwCl (kTY cI cJ cZ cO) s) (hP : va_P D vwCl ws H) (hD : va_D A ws) (hS : va_S A H0 H locs) (hA : ∀ q, H0.size ≤ q → A q)
    (hn : ¬ n < 0) (hN : n.toNatClampNeg = N') (hbytes : N' * 4 ≤ 536870912) (hcells : cells + 1 ≤ R.cells) (hslots : slots + N' ≤ R.slots) (hdg : decode cc pc = .ok (.newarray .int, 2))
    (kk : ∀ (q : Nat) (H1 : Heap), va_P D vwCl (ws ++ [(q, .inl (cI, N', .inl (fun _ => 0)))]) H1 → va_D A (ws ++ [(q, .inl (cI, N', .inl (fun _ => 0)))]) → va_S A H0 H1 locs →
      W p l e R s m args below meth c H1 locs (cells + 1) (slots + N') Q (F0 m (pc + 2) ls (.ref q :: rest))) : W p l e R s m args below meth c H locs cells slots Q (F0 m pc ls (.int n :: rest)) := by
  refine va_newa (atype := .int) (ty := .int) (a0 := (N', .inl (fun _ => 0))) hexec hb harr rfl hK hP hD hS hA (fun _ => rfl) hn hN hbytes hcells hslots hdg (fun q cA H1 hK1 hP1 hD1 hS1 => ?_)
  have h1 := va_nm_int (hK1.2 4 (cA, .int) rfl).2
  have h2 := va_nm_int (hK.2 0 (cI, .int) rfl).2
  have h3 : cA = cI := Option.some.inj (h1.symm.trans h2)
  subst h3
  exact kk q H1 hP1 hD1 hS1
theorem kNewaJ {n : Int32} {N' : Nat} (hexec : p.tables.exec = Jvm.exec) (hb : c.code = cc) (harr : (Cond.arrayClass .long).before args s = true) (hK : va_K D vwCl (kTY cI cJ cZ cO) s) (hP : va_P D vwCl ws H) (hD : va_D A ws) (hS : va_S A H0 H locs) (hA : ∀ q, H0.size ≤ q → A q)
    (hn : ¬ n < 0) (hN : n.toNatClampNeg = N') (hbytes : N' * 8 ≤ 536870912) (hcells : cells + 1 ≤ R.cells) (hslots : slots + N' ≤ R.slots) (hdg : decode cc pc = .ok (.newarray .long, 2))
    (kk : ∀ (q : Nat) (H1 : Heap), va_P D vwCl (ws ++ [(q, .inl (cJ, N', .inr (.inl (fun _ => 0))))]) H1 → va_D A (ws ++ [(q, .inl (cJ, N', .inr (.inl (fun _ => 0))))]) → va_S A H0 H1 locs →
      W p l e R s m args below meth c H1 locs (cells + 1) (slots + N') Q (F0 m (pc + 2) ls (.ref q :: rest))) : W p l e R s m args below meth c H locs cells slots Q (F0 m pc ls (.int n :: rest)) := by
  refine va_newa (atype := .long) (ty := .long) (a0 := (N', .inr (.inl (fun _ => 0)))) hexec hb harr rfl hK hP hD hS hA (fun _ => rfl) hn hN hbytes hcells hslots hdg (fun q cA H1 hK1 hP1 hD1 hS1 => ?_)
  have h1 := va_nm_long (hK1.2 4 (cA, .long) rfl).2
  have h2 := va_nm_long (hK.2 1 (cJ, .long) rfl).2
  have h3 : cA = cJ := Option.some.inj (h1.symm.trans h2)
  subst h3
  exact kk q H1 hP1 hD1 hS1
theorem kNewaZ {n : Int32} {N' : Nat} (hexec : p.tables.exec = Jvm.exec) (hb : c.code = cc) (harr : (Cond.arrayClass .boolean).before args s = true) (hK : va_K D vwCl (kTY cI cJ cZ cO) s) (hP : va_P D vwCl ws H) (hD : va_D A ws) (hS : va_S A H0 H locs) (hA : ∀ q, H0.size ≤ q → A q)
    (hn : ¬ n < 0) (hN : n.toNatClampNeg = N') (hbytes : N' * 1 ≤ 536870912) (hcells : cells + 1 ≤ R.cells) (hslots : slots + N' ≤ R.slots) (hdg : decode cc pc = .ok (.newarray .boolean, 2))
    (kk : ∀ (q : Nat) (H1 : Heap), va_P D vwCl (ws ++ [(q, .inl (cZ, N', .inl (fun _ => 0)))]) H1 → va_D A (ws ++ [(q, .inl (cZ, N', .inl (fun _ => 0)))]) → va_S A H0 H1 locs →
      W p l e R s m args below meth c H1 locs (cells + 1) (slots + N') Q (F0 m (pc + 2) ls (.ref q :: rest))) : W p l e R s m args below meth c H locs cells slots Q (F0 m pc ls (.int n :: rest)) := by
  refine va_newa (atype := .boolean) (ty := .boolean) (a0 := (N', .inl (fun _ => 0))) hexec hb harr rfl hK hP hD hS hA (fun _ => rfl) hn hN hbytes hcells hslots hdg (fun q cA H1 hK1 hP1 hD1 hS1 => ?_)
  have h1 := va_nm_boolean (hK1.2 4 (cA, .boolean) rfl).2
  have h2 := va_nm_boolean (hK.2 2 (cZ, .boolean) rfl).2
  have h3 : cA = cZ := Option.some.inj (h1.symm.trans h2)
  subst h3
  exact kk q H1 hP1 hD1 hS1
end KFN
end
section
/-! ===== what the methods answer, as numbers: leaves ===== -/
def closF (cl : Nat → Int32) (b : Int32) : Nat → Int32
  | 0 => b
  | n + 1 => if ((b >>> (nI n &&& 31)) &&& 1) = 1 then closF cl b n ||| cl n else closF cl b n
def worthF (wo : Nat → Int32) (b : Int32) : Nat → Int32
  | 0 => 0
  | n + 1 => if ((b >>> (nI n &&& 31)) &&& 1) = 1 then worthF wo b n + wo n else worthF wo b n
def haveB (cnt b : Int32) : Bool := decide (¬ b < 0) && decide (¬ (1 <<< (cnt &&& 31)) ≤ b)
def implF (cl : Nat → Int32) (t : Int32) : Int32 := closF cl (1 <<< (t &&& 31)) 12 &&& ((1 <<< (t &&& 31)) ^^^ (-1))
def openB (n e k : Int32) : Bool := decide (k &&& n = n) && (decide (e = 0) || decide (¬ k &&& e = 0))
def timeF (pg pc : Int32) (sk : Bool) : Int32 := if sk then (pg * pc + 2) / 3 else pg * pc
def rowAt (f : Nat → Int32) (c i : Int32) : Int32 := if ¬ i < 0 ∧ ¬ c ≤ i ∧ ¬ 12 ≤ i then f i.toNatClampNeg else -1
theorem rowAt_nI {f : Nat → Int32} {k i : Nat} (hk : k ≤ 12) (hi : i < k) : rowAt f (nI k) (nI i) = f i := by
  unfold rowAt
  rw [if_pos ⟨nI_pos (by omega), (not_congr (nI_leI (by omega) (by omega))).mpr (by omega), (not_congr (nI_leI (a := 12) (by omega) (by omega))).mpr (by omega)⟩, nI_clamp (by omega)]
def becF (f g : Nat → Int32) : Nat → Nat → Int32
  | 0 => f
  | i + 1 => upd (becF f g i) i (g i)
def withinB (v a b : Int32) : Bool := decide (¬ v < a) && decide (¬ b < v)
theorem kin {x : Int32} {N : Nat} (n : Int32) (hn : n = nI N) (hN : N < 2 ^ 31) (h0 : ¬ x < 0) (h1 : ¬ n ≤ x) : vp_in x N := by
  obtain ⟨j, hj, rfl⟩ := nI_of h0
  subst hn
  have := (not_congr (nI_leI hN hj)).mp h1
  exact vp_in_nI (by omega) hN

set_option maxHeartbeats 4000000 in
set_option maxRecDepth 100000 in
theorem c_X4_init (l : Launch) (D : va_G) (cI cJ cZ cO : ClassId) (h0 : Nat) : kC l D (kTY cI cJ cZ cO) yX4_init wsX4_init 1 12 2 24 [.ref h0] [(h0, .inr (5, [.null, .null, .int 0]))] (fun rv_ rw_ => ∃ q1 : Nat, ∃ q2 : Nat, rv_ = none ∧ rw_ = [(h0, .inr (5, [.ref q1, .ref q2, .int 0])), (q1, .inl (cI, 12, .inl (fun _ => 0))), (q2, .inl (cI, 12, .inl (fun _ => 0)))]) := by
  refine kEnter (cc := cX4_init) (maxL := 1) (ret := none) (by decide) rfl (Nat.le_of_ble_eq_true rfl) ?_
  intro p e s m args below meth c hx hb hr hml hts hown hlk hnm hK hP hD hS hA ls hl
  have hl : lv_has ls 1 [(0, .ref h0)] := hl
  have hw_m3 := hts (.methodLink RX4 3 objectInit) (by decide +kernel)
  have hw_io := hts (.instanceMethod objectInit) (by decide +kernel)
  have hw_co := hts (.code objectInit ⟨#[0xb1]⟩ 1 none) (by decide +kernel)
  have hw_aI := hts (.arrayClass .int) (by decide +kernel)
  have hw_f9 := hts (.fieldLink RX4 9 "WhatToRead$Topics" "worths" "[I") (by decide +kernel)
  have hi_X4 : ∀ w ∈ wsX40, w ∈ wsX4_init := by decide +kernel
  have hw_f15 := hts (.fieldLink RX4 15 "WhatToRead$Topics" "closures" "[I") (by decide +kernel)
  have hw_f18 := hts (.fieldLink RX4 18 "WhatToRead$Topics" "count" "I") (by decide +kernel)
  refine lv_aload_n hx hb dX4_init_0 rfl (lv_at hl 0 rfl) ?_
  refine W.objInit hx hb hown hw_m3 hw_io hw_co rfl (by rw [hml]; exact hl.1) rfl dX4_init_1 (Nat.le_of_ble_eq_true rfl) (Nat.le_of_ble_eq_true rfl) ?_
  refine W.eq (g2 := F0 m 4 ls []) rfl ?_
  refine lv_aload_n hx hb dX4_init_4 rfl (lv_at hl 0 rfl) ?_
  refine lv_bipush (v := 12) hx hb dX4_init_5 (by decide) ?_
  refine kNewaI (N' := 12) hx hb hw_aI hK.1 hP hD hS hA (by decide) (by decide) (Nat.le_of_ble_eq_true rfl) (Nat.le_of_ble_eq_true rfl) (Nat.le_of_ble_eq_true rfl) dX4_init_7 (fun q1 H hP hD hS => ?_)
  have hP : va_P D vwCl [(h0, .inr (5, [.null, .null, .int 0])), (q1, .inl (cI, 12, .inl (fun _ => 0)))] H := hP
  have hD : va_D _ [(h0, .inr (5, [.null, .null, .int 0])), (q1, .inl (cI, 12, .inl (fun _ => 0)))] := hD
  refine va_putF (D := D) (ci := 5) (v := .ref q1) (ty := .array .int) (C := RX4) (T := TX4) (N := 3) hx hb hts hi_X4 tyX4 tyX4_ok nmX4 hown hK.1 hP hD hS 0 rfl rfl 0 (by decide) hw_f9 (fun _ h9 => h9) rfl hnm rfl (by decide +kernel) rfl rfl (Nat.le_of_ble_eq_true rfl) dX4_init_9 (fun H locs hP hD hS => ?_)
  have hP : va_P D vwCl [(h0, .inr (5, [.ref q1, .null, .int 0])), (q1, .inl (cI, 12, .inl (fun _ => 0)))] H := hP
  have hD : va_D _ [(h0, .inr (5, [.ref q1, .null, .int 0])), (q1, .inl (cI, 12, .inl (fun _ => 0)))] := hD
  refine lv_aload_n hx hb dX4_init_12 rfl (lv_at hl 0 rfl) ?_
  refine lv_bipush (v := 12) hx hb dX4_init_13 (by decide) ?_
  refine kNewaI (N' := 12) hx hb hw_aI hK.1 hP hD hS hA (by decide) (by decide) (Nat.le_of_ble_eq_true rfl) (Nat.le_of_ble_eq_true rfl) (Nat.le_of_ble_eq_true rfl) dX4_init_15 (fun q2 H hP hD hS => ?_)
  have hP : va_P D vwCl [(h0, .inr (5, [.ref q1, .null, .int 0])), (q1, .inl (cI, 12, .inl (fun _ => 0))), (q2, .inl (cI, 12, .inl (fun _ => 0)))] H := hP
  have hD : va_D _ [(h0, .inr (5, [.ref q1, .null, .int 0])), (q1, .inl (cI, 12, .inl (fun _ => 0))), (q2, .inl (cI, 12, .inl (fun _ => 0)))] := hD
  refine va_putF (D := D) (ci := 5) (v := .ref q2) (ty := .array .int) (C := RX4) (T := TX4) (N := 3) hx hb hts hi_X4 tyX4 tyX4_ok nmX4 hown hK.1 hP hD hS 0 rfl rfl 1 (by decide) hw_f15 (fun _ h9 => h9) rfl hnm rfl (by decide +kernel) rfl rfl (Nat.le_of_ble_eq_true rfl) dX4_init_17 (fun H locs hP hD hS => ?_)
  have hP : va_P D vwCl [(h0, .inr (5, [.ref q1, .ref q2, .int 0])), (q1, .inl (cI, 12, .inl (fun _ => 0))), (q2, .inl (cI, 12, .inl (fun _ => 0)))] H := hP
  have hD : va_D _ [(h0, .inr (5, [.ref q1, .ref q2, .int 0])), (q1, .inl (cI, 12, .inl (fun _ => 0))), (q2, .inl (cI, 12, .inl (fun _ => 0)))] := hD
  refine lv_aload_n hx hb dX4_init_20 rfl (lv_at hl 0 rfl) ?_
  refine lv_iconst (v := 0) hx hb dX4_init_21 (by decide) ?_
  refine va_put (D := D) (ci := 5) (v := .int 0) (ty := .int) (C := RX4) (T := TX4) (N := 3) hx hb hts hi_X4 tyX4 tyX4_ok nmX4 hown hK.1 hP hD hS 0 rfl rfl 2 (by decide) hw_f18 (fun _ h9 => h9) rfl (by decide +kernel) rfl rfl (Nat.le_of_ble_eq_true rfl) dX4_init_22 (fun H locs hP hD hS => ?_)
  have hP : va_P D vwCl [(h0, .inr (5, [.ref q1, .ref q2, .int 0])), (q1, .inl (cI, 12, .inl (fun _ => 0))), (q2, .inl (cI, 12, .inl (fun _ => 0)))] H := hP
  have hD : va_D _ [(h0, .inr (5, [.ref q1, .ref q2, .int 0])), (q1, .inl (cI, 12, .inl (fun _ => 0))), (q2, .inl (cI, 12, .inl (fun _ => 0)))] := hD
  exact kRetV hx hb hr hlk dX4_init_25 hP hD hS (Nat.le_of_ble_eq_true rfl) (Nat.le_of_ble_eq_true rfl) ⟨q1, q2, rfl, rfl⟩

set_option maxHeartbeats 4000000 in
set_option maxRecDepth 100000 in
theorem c_X4_size (l : Launch) (D : va_G) (cI cJ cZ cO : ClassId) (h0 : Nat) (h1 : Nat) (h2 : Nat) (cnt : Int32) (wo : Nat → Int32) (cl : Nat → Int32) : kR l D (kTY cI cJ cZ cO) yX4_size wsX4_size 0 0 [.ref h0] [(h0, .inr (5, [.ref h1, .ref h2, .int cnt])), (h1, .inl (cI, 12, .inl wo)), (h2, .inl (cI, 12, .inl cl))] (fun rv_ => rv_ = some (.int cnt)) := by
  refine kEnterR (cc := cX4_size) (maxL := 1) (ret := (some .int)) (by decide) rfl (Nat.le_of_ble_eq_true rfl) ?_
  intro p e s m args below meth c hx hb hr hml hts hown hlk hK hP ls hl
  have hl : lv_has ls 1 [(0, .ref h0)] := hl
  have hw_f18 := hts (.fieldLink RX4 18 "WhatToRead$Topics" "count" "I") (by decide +kernel)
  have hi_X4 : ∀ w ∈ wsX40, w ∈ wsX4_size := by decide +kernel
  refine lv_aload_n hx hb dX4_size_0 rfl (lv_at hl 0 rfl) ?_
  refine va_get (D := D) (ci := 5) (v := .int cnt) (C := RX4) (T := TX4) (N := 3) hx hb hts hi_X4 hown hK.1 hP 0 rfl rfl 2 (by decide) hw_f18 (fun _ h9 => h9) rfl dX4_size_1 ?_
  exact kRetIr hx hb hr hlk dX4_size_4 rfl

set_option maxHeartbeats 4000000 in
set_option maxRecDepth 100000 in
theorem c_X4_haveAll (l : Launch) (D : va_G) (cI cJ cZ cO : ClassId) (h0 : Nat) (h1 : Nat) (h2 : Nat) (cnt : Int32) (wo : Nat → Int32) (cl : Nat → Int32) (b : Int32) : kR l D (kTY cI cJ cZ cO) yX4_haveAll wsX4_haveAll 0 0 [.ref h0, .int b] [(h0, .inr (5, [.ref h1, .ref h2, .int cnt])), (h1, .inl (cI, 12, .inl wo)), (h2, .inl (cI, 12, .inl cl))] (fun rv_ => rv_ = some (.int (k01 (haveB cnt b)))) := by
  refine kEnterR (cc := cX4_haveAll) (maxL := 2) (ret := (some .boolean)) (by decide) rfl (Nat.le_of_ble_eq_true rfl) ?_
  intro p e s m args below meth c hx hb hr hml hts hown hlk hK hP ls hl
  have hl : lv_has ls 2 [(0, .ref h0), (1, .int b)] := hl
  have hw_f18 := hts (.fieldLink RX4 18 "WhatToRead$Topics" "count" "I") (by decide +kernel)
  have hi_X4 : ∀ w ∈ wsX40, w ∈ wsX4_haveAll := by decide +kernel
  refine lv_iload_n hx hb dX4_haveAll_0 rfl (lv_at hl 1 rfl) ?_
  refine lv_if_lt (tgt := 18) hx hb dX4_haveAll_1 (by decide) (fun c_1 => ?_) (fun c_1 => ?_)
  · skip
    refine lv_iconst (v := 0) hx hb dX4_haveAll_18 (by decide) ?_
    exact kRetZr (haveB cnt b) (by first | rfl | (rw [ex, e12]; done) | (rw [em, e12]; done) | (rw [ey, e12]; done) | (rw [e12]; done) | (simp [haveB, k01, c_1]; done) | (simp_all [haveB, k01]; done)) hx hb hr hlk dX4_haveAll_19 rfl
  · skip
    refine lv_iload_n hx hb dX4_haveAll_4 rfl (lv_at hl 1 rfl) ?_
    refine lv_iconst (v := 1) hx hb dX4_haveAll_5 (by decide) ?_
    refine lv_aload_n hx hb dX4_haveAll_6 rfl (lv_at hl 0 rfl) ?_
    refine va_get (D := D) (ci := 5) (v := .int cnt) (C := RX4) (T := TX4) (N := 3) hx hb hts hi_X4 hown hK.1 hP 0 rfl rfl 2 (by decide) hw_f18 (fun _ h9 => h9) rfl dX4_haveAll_7 ?_
    refine lv_ishl hx hb dX4_haveAll_10 ?_
    refine lv_icmp_ge (tgt := 18) hx hb dX4_haveAll_11 (by decide) (fun c_11 => ?_) (fun c_11 => ?_)
    · skip
      refine lv_iconst (v := 0) hx hb dX4_haveAll_18 (by decide) ?_
      exact kRetZr (haveB cnt b) (by first | rfl | (rw [ex, e12]; done) | (rw [em, e12]; done) | (rw [ey, e12]; done) | (rw [e12]; done) | (simp [haveB, k01, c_1, c_11]; done) | (simp_all [haveB, k01]; done)) hx hb hr hlk dX4_haveAll_19 rfl
    · skip
      refine lv_iconst (v := 1) hx hb dX4_haveAll_14 (by decide) ?_
      refine lv_goto (tgt := 19) hx hb dX4_haveAll_15 (by decide) ?_
      exact kRetZr (haveB cnt b) (by first | rfl | (rw [ex, e12]; done) | (rw [em, e12]; done) | (rw [ey, e12]; done) | (rw [e12]; done) | (simp [haveB, k01, c_1, c_11]; done) | (simp_all [haveB, k01]; done)) hx hb hr hlk dX4_haveAll_19 rfl

set_option maxHeartbeats 4000000 in
set_option maxRecDepth 100000 in
theorem c_X4_closure (l : Launch) (D : va_G) (cI cJ cZ cO : ClassId) (h0 : Nat) (h1 : Nat) (h2 : Nat) (cnt : Int32) (wo : Nat → Int32) (cl : Nat → Int32) (b : Int32) : kR l D (kTY cI cJ cZ cO) yX4_closure wsX4_closure 0 0 [.ref h0, .int b] [(h0, .inr (5, [.ref h1, .ref h2, .int cnt])), (h1, .inl (cI, 12, .inl wo)), (h2, .inl (cI, 12, .inl cl))] (fun rv_ => rv_ = some (.int (closF cl b 12))) := by
  refine kEnterR (cc := cX4_closure) (maxL := 4) (ret := (some .int)) (by decide) rfl (Nat.le_of_ble_eq_true rfl) ?_
  intro p e s m args below meth c hx hb hr hml hts hown hlk hK hP ls hl
  have hl : lv_has ls 4 [(0, .ref h0), (1, .int b)] := hl
  have hw_f15 := hts (.fieldLink RX4 15 "WhatToRead$Topics" "closures" "[I") (by decide +kernel)
  have hi_X4 : ∀ w ∈ wsX40, w ∈ wsX4_closure := by decide +kernel
  refine lv_iload_n hx hb dX4_closure_0 rfl (lv_at hl 1 rfl) ?_
  refine lv_istore_n (lv' := [(2, .int b), (0, .ref h0), (1, .int b)]) hx hb dX4_closure_1 rfl hl (by decide) rfl (fun ls hl => ?_)
  refine lv_iconst (v := 0) hx hb dX4_closure_2 (by decide) ?_
  refine lv_istore_n (lv' := [(3, .int 0), (2, .int b), (0, .ref h0), (1, .int b)]) hx hb dX4_closure_3 rfl hl (by decide) rfl (fun ls hl => ?_)
  have hloop_4 : ∀ (fu : Nat) (i : Nat) (x2 : Int32), 12 - i < fu → i ≤ 12 → x2 = closF cl b i → ∀ ls : Array Slot, lv_has ls 4 [(0, .ref h0), (1, .int b), (2, .int x2), (3, .int (nI i))] → W p l e ({ frames := 0, cells := 0, slots := 0, locals := 0 }) s m args below meth c s.heap [] 0 0 (MQ below (kQr (fun rv_ => rv_ = some (.int (closF cl b 12)))) args s 0 0 (fun _ => False)) (F0 m 4 ls []) := by
    intro fu
    induction fu with
    | zero => intro i x2 hmu; exact absurd hmu (Nat.not_lt_zero _)
    | succ fu ih_4 =>
      intro i x2 hmu_4 hi e2 ls hl
      refine lv_iload_n hx hb dX4_closure_4 rfl (lv_at hl 3 rfl) ?_
      refine lv_aload_n hx hb dX4_closure_5 rfl (lv_at hl 0 rfl) ?_
      refine va_get (D := D) (ci := 5) (v := .ref h2) (C := RX4) (T := TX4) (N := 3) hx hb hts hi_X4 hown hK.1 hP 0 rfl rfl 1 (by decide) hw_f15 (fun _ h9 => h9) rfl dX4_closure_6 ?_
      refine va_alen (v := 12) hx hb hK.1 hP 2 0 rfl rfl rfl dX4_closure_9 ?_
      refine lv_icmp_ge (tgt := 37) hx hb dX4_closure_10 (by decide) (fun c_10 => ?_) (fun c_10 => ?_)
      · skip
        have nc_10 : 12 ≤ i := (nI_leI (a := 12) (b := i) (by omega) (by omega)).mp c_10
        have e12 : 12 = i := by omega
        subst e12
        refine lv_iload_n hx hb dX4_closure_37 rfl (lv_at hl 2 rfl) ?_
        exact kRetIr hx hb hr hlk dX4_closure_38 (kpi (by exact e2))
      · skip
        have nc_10 : ¬ 12 ≤ i := (not_congr (nI_leI (a := 12) (b := i) (by omega) (by omega))).mp c_10
        refine lv_iload_n hx hb dX4_closure_13 rfl (lv_at hl 1 rfl) ?_
        refine lv_iload_n hx hb dX4_closure_14 rfl (lv_at hl 3 rfl) ?_
        refine lv_ishr hx hb dX4_closure_15 ?_
        refine lv_iconst (v := 1) hx hb dX4_closure_16 (by decide) ?_
        refine lv_iand hx hb dX4_closure_17 ?_
        refine lv_iconst (v := 1) hx hb dX4_closure_18 (by decide) ?_
        refine lv_icmp_ne (tgt := 31) hx hb dX4_closure_19 (by decide) (fun c_19 => ?_) (fun c_19 => ?_)
        · skip
          refine lv_iinc (v := nI (i + 1)) (lv' := [(3, .int (nI (i + 1))), (0, .ref h0), (1, .int b), (2, .int x2)]) hx hb dX4_closure_31 hl (k := 3) rfl (nI_1 _) (by decide) rfl (fun ls hl => ?_)
          refine lv_goto (tgt := 4) hx hb dX4_closure_34 (by decide) ?_
          exact ih_4  (i + 1) x2 (by omega) (by first | omega | assumption) (by rw [e2]; simp [closF, hi, e2, c_10, c_19]) _ (lv_sub hl [1, 2, 3, 0] rfl)
        · skip
          refine lv_iload_n hx hb dX4_closure_22 rfl (lv_at hl 2 rfl) ?_
          refine lv_aload_n hx hb dX4_closure_23 rfl (lv_at hl 0 rfl) ?_
          refine va_get (D := D) (ci := 5) (v := .ref h2) (C := RX4) (T := TX4) (N := 3) hx hb hts hi_X4 hown hK.1 hP 0 rfl rfl 1 (by decide) hw_f15 (fun _ h9 => h9) rfl dX4_closure_24 ?_
          refine lv_iload_n hx hb dX4_closure_27 rfl (lv_at hl 3 rfl) ?_
          refine va_iald hx hb hK.1 hP 2 0 rfl rfl (vp_in_nI (by omega) (by omega)) dX4_closure_28 ?_
          refine lv_topi (fun nv_1 ev_1 => ?_)
          obtain rfl : nv_1 = cl i := by rw [ev_1, nI_clamp (by omega)]
          refine lv_ior hx hb dX4_closure_29 ?_
          refine lv_istore_n (lv' := [(2, .int (x2 ||| (cl i))), (0, .ref h0), (1, .int b), (3, .int (nI i))]) hx hb dX4_closure_30 rfl hl (by decide) rfl (fun ls hl => ?_)
          refine lv_iinc (v := nI (i + 1)) (lv' := [(3, .int (nI (i + 1))), (2, .int (x2 ||| (cl i))), (0, .ref h0), (1, .int b)]) hx hb dX4_closure_31 hl (k := 3) rfl (nI_1 _) (by decide) rfl (fun ls hl => ?_)
          refine lv_goto (tgt := 4) hx hb dX4_closure_34 (by decide) ?_
          exact ih_4  (i + 1) (x2 ||| (cl i)) (by omega) (by first | omega | assumption) (by rw [e2]; simp [closF, hi, e2, c_10, c_19]) _ (lv_sub hl [2, 3, 1, 0] rfl)
  exact hloop_4 ((12 - 0) + 1) 0 b (Nat.lt_succ_self _) (by first | omega | assumption) (by rfl) _ (lv_sub hl [2, 3, 1, 0] rfl)

set_option maxHeartbeats 4000000 in
set_option maxRecDepth 100000 in
theorem c_X4_worthOf (l : Launch) (D : va_G) (cI cJ cZ cO : ClassId) (h0 : Nat) (h1 : Nat) (h2 : Nat) (cnt : Int32) (wo : Nat → Int32) (cl : Nat → Int32) (b : Int32) : kR l D (kTY cI cJ cZ cO) yX4_worthOf wsX4_worthOf 0 0 [.ref h0, .int b] [(h0, .inr (5, [.ref h1, .ref h2, .int cnt])), (h1, .inl (cI, 12, .inl wo)), (h2, .inl (cI, 12, .inl cl))] (fun rv_ => rv_ = some (.int (worthF wo b 12))) := by
  refine kEnterR (cc := cX4_worthOf) (maxL := 4) (ret := (some .int)) (by decide) rfl (Nat.le_of_ble_eq_true rfl) ?_
  intro p e s m args below meth c hx hb hr hml hts hown hlk hK hP ls hl
  have hl : lv_has ls 4 [(0, .ref h0), (1, .int b)] := hl
  have hw_f9 := hts (.fieldLink RX4 9 "WhatToRead$Topics" "worths" "[I") (by decide +kernel)
  have hi_X4 : ∀ w ∈ wsX40, w ∈ wsX4_worthOf := by decide +kernel
  refine lv_iconst (v := 0) hx hb dX4_worthOf_0 (by decide) ?_
  refine lv_istore_n (lv' := [(2, .int 0), (0, .ref h0), (1, .int b)]) hx hb dX4_worthOf_1 rfl hl (by decide) rfl (fun ls hl => ?_)
  refine lv_iconst (v := 0) hx hb dX4_worthOf_2 (by decide) ?_
  refine lv_istore_n (lv' := [(3, .int 0), (2, .int 0), (0, .ref h0), (1, .int b)]) hx hb dX4_worthOf_3 rfl hl (by decide) rfl (fun ls hl => ?_)
  have hloop_4 : ∀ (fu : Nat) (i : Nat) (x2 : Int32), 12 - i < fu → i ≤ 12 → x2 = worthF wo b i → ∀ ls : Array Slot, lv_has ls 4 [(0, .ref h0), (1, .int b), (2, .int x2), (3, .int (nI i))] → W p l e ({ frames := 0, cells := 0, slots := 0, locals := 0 }) s m args below meth c s.heap [] 0 0 (MQ below (kQr (fun rv_ => rv_ = some (.int (worthF wo b 12)))) args s 0 0 (fun _ => False)) (F0 m 4 ls []) := by
    intro fu
    induction fu with
    | zero => intro i x2 hmu; exact absurd hmu (Nat.not_lt_zero _)
    | succ fu ih_4 =>
      intro i x2 hmu_4 hi e2 ls hl
      refine lv_iload_n hx hb dX4_worthOf_4 rfl (lv_at hl 3 rfl) ?_
      refine lv_aload_n hx hb dX4_worthOf_5 rfl (lv_at hl 0 rfl) ?_
      refine va_get (D := D) (ci := 5) (v := .ref h1) (C := RX4) (T := TX4) (N := 3) hx hb hts hi_X4 hown hK.1 hP 0 rfl rfl 0 (by decide) hw_f9 (fun _ h9 => h9) rfl dX4_worthOf_6 ?_
      refine va_alen (v := 12) hx hb hK.1 hP 1 0 rfl rfl rfl dX4_worthOf_9 ?_
      refine lv_icmp_ge (tgt := 37) hx hb dX4_worthOf_10 (by decide) (fun c_10 => ?_) (fun c_10 => ?_)
      · skip
        have nc_10 : 12 ≤ i := (nI_leI (a := 12) (b := i) (by omega) (by omega)).mp c_10
        have e12 : 12 = i := by omega
        subst e12
        refine lv_iload_n hx hb dX4_worthOf_37 rfl (lv_at hl 2 rfl) ?_
        exact kRetIr hx hb hr hlk dX4_worthOf_38 (kpi (by exact e2))
      · skip
        have nc_10 : ¬ 12 ≤ i := (not_congr (nI_leI (a := 12) (b := i) (by omega) (by omega))).mp c_10
        refine lv_iload_n hx hb dX4_worthOf_13 rfl (lv_at hl 1 rfl) ?_
        refine lv_iload_n hx hb dX4_worthOf_14 rfl (lv_at hl 3 rfl) ?_
        refine lv_ishr hx hb dX4_worthOf_15 ?_
        refine lv_iconst (v := 1) hx hb dX4_worthOf_16 (by decide) ?_
        refine lv_iand hx hb dX4_worthOf_17 ?_
        refine lv_iconst (v := 1) hx hb dX4_worthOf_18 (by decide) ?_
        refine lv_icmp_ne (tgt := 31) hx hb dX4_worthOf_19 (by decide) (fun c_19 => ?_) (fun c_19 => ?_)
        · skip
          refine lv_iinc (v := nI (i + 1)) (lv' := [(3, .int (nI (i + 1))), (0, .ref h0), (1, .int b), (2, .int x2)]) hx hb dX4_worthOf_31 hl (k := 3) rfl (nI_1 _) (by decide) rfl (fun ls hl => ?_)
          refine lv_goto (tgt := 4) hx hb dX4_worthOf_34 (by decide) ?_
          exact ih_4  (i + 1) x2 (by omega) (by first | omega | assumption) (by rw [e2]; simp [worthF, hi, e2, c_10, c_19]) _ (lv_sub hl [1, 2, 3, 0] rfl)
        · skip
          refine lv_iload_n hx hb dX4_worthOf_22 rfl (lv_at hl 2 rfl) ?_
          refine lv_aload_n hx hb dX4_worthOf_23 rfl (lv_at hl 0 rfl) ?_
          refine va_get (D := D) (ci := 5) (v := .ref h1) (C := RX4) (T := TX4) (N := 3) hx hb hts hi_X4 hown hK.1 hP 0 rfl rfl 0 (by decide) hw_f9 (fun _ h9 => h9) rfl dX4_worthOf_24 ?_
          refine lv_iload_n hx hb dX4_worthOf_27 rfl (lv_at hl 3 rfl) ?_
          refine va_iald hx hb hK.1 hP 1 0 rfl rfl (vp_in_nI (by omega) (by omega)) dX4_worthOf_28 ?_
          refine lv_topi (fun nv_1 ev_1 => ?_)
          obtain rfl : nv_1 = wo i := by rw [ev_1, nI_clamp (by omega)]
          refine lv_iadd hx hb dX4_worthOf_29 ?_
          refine lv_istore_n (lv' := [(2, .int (x2 + (wo i))), (0, .ref h0), (1, .int b), (3, .int (nI i))]) hx hb dX4_worthOf_30 rfl hl (by decide) rfl (fun ls hl => ?_)
          refine lv_iinc (v := nI (i + 1)) (lv' := [(3, .int (nI (i + 1))), (2, .int (x2 + (wo i))), (0, .ref h0), (1, .int b)]) hx hb dX4_worthOf_31 hl (k := 3) rfl (nI_1 _) (by decide) rfl (fun ls hl => ?_)
          refine lv_goto (tgt := 4) hx hb dX4_worthOf_34 (by decide) ?_
          exact ih_4  (i + 1) (x2 + (wo i)) (by omega) (by first | omega | assumption) (by rw [e2]; simp [worthF, hi, e2, c_10, c_19]) _ (lv_sub hl [2, 3, 1, 0] rfl)
  exact hloop_4 ((12 - 0) + 1) 0 0 (Nat.lt_succ_self _) (by first | omega | assumption) (by rfl) _ (lv_sub hl [2, 3, 1, 0] rfl)

set_option maxHeartbeats 4000000 in
set_option maxRecDepth 100000 in
theorem c_X4_impliedBy (l : Launch) (D : va_G) (cI cJ cZ cO : ClassId) (h0 : Nat) (h1 : Nat) (h2 : Nat) (cnt : Int32) (wo : Nat → Int32) (cl : Nat → Int32) (t : Int32) : kR l D (kTY cI cJ cZ cO) yX4_impliedBy wsX4_impliedBy 1 23 [.ref h0, .int t] [(h0, .inr (5, [.ref h1, .ref h2, .int cnt])), (h1, .inl (cI, 12, .inl wo)), (h2, .inl (cI, 12, .inl cl))] (fun rv_ => rv_ = some (.int (implF cl t))) := by
  refine kEnterR (cc := cX4_impliedBy) (maxL := 3) (ret := (some .int)) (by decide) rfl (Nat.le_of_ble_eq_true rfl) ?_
  intro p e s m args below meth c hx hb hr hml hts hown hlk hK hP ls hl
  have hl : lv_has ls 3 [(0, .ref h0), (1, .int t)] := hl
  refine lv_iconst (v := 1) hx hb dX4_impliedBy_0 (by decide) ?_
  refine lv_iload_n hx hb dX4_impliedBy_1 rfl (lv_at hl 1 rfl) ?_
  refine lv_ishl hx hb dX4_impliedBy_2 ?_
  refine lv_istore_n (lv' := [(2, .int (1 <<< (t &&& 31))), (0, .ref h0), (1, .int t)]) hx hb dX4_impliedBy_3 rfl hl (by decide) rfl (fun ls hl => ?_)
  refine lv_aload_n hx hb dX4_impliedBy_4 rfl (lv_at hl 1 rfl) ?_
  refine lv_iload_n hx hb dX4_impliedBy_5 rfl (lv_at hl 0 rfl) ?_
  refine kGoR (va_runV (As := [.int (1 <<< (t &&& 31))]) (rest := []) ⟨hx, hb, hml, hown, hts⟩ (c_X4_closure l D cI cJ cZ cO h0 h1 h2 cnt wo cl (1 <<< (t &&& 31)) ) (cwV 1 hts gX4_impliedBy_X4_closure rfl rfl rfl (by decide +kernel) ⟨Nat.le_of_ble_eq_true rfl, Nat.le_of_ble_eq_true rfl⟩) (kPreVR (ci := 5) (q0 := 0) hK (kPc_sub hP [0, 1, 2] rfl) rfl rfl rfl) rfl rfl hl.1 rfl (lv_room (Nat.le_of_ble_eq_true rfl)) dX4_impliedBy_6 ⟨Nat.le_of_ble_eq_true rfl, Nat.le_of_ble_eq_true rfl⟩) (fun v_1 hv_1 => ?_)
  obtain rfl := hv_1
  refine W.eq (g2 := F0 m 9 ls [.int (closF cl (1 <<< (t &&& 31)) 12)]) rfl ?_
  refine lv_iload_n hx hb dX4_impliedBy_9 rfl (lv_at hl 0 rfl) ?_
  refine lv_iconst (v := (-1)) hx hb dX4_impliedBy_10 (by decide) ?_
  refine lv_ixor hx hb dX4_impliedBy_11 ?_
  refine lv_iand hx hb dX4_impliedBy_12 ?_
  exact kRetIr hx hb hr hlk dX4_impliedBy_13 (kpi (by first | rfl | (rw [ex, e12]; done) | (rw [em, e12]; done) | (rw [ey, e12]; done) | (rw [e12]; done) | (simp [implF]; done) | (simp_all [implF]; done)))

set_option maxHeartbeats 4000000 in
set_option maxRecDepth 100000 in
theorem c_X4_add (l : Launch) (D : va_G) (cI cJ cZ cO : ClassId) (h0 : Nat) (h1 : Nat) (h2 : Nat) (T : Nat) (wo : Nat → Int32) (cl : Nat → Int32) (w : Int32) (b : Int32) (hT : T < 4096) : kC l D (kTY cI cJ cZ cO) yX4_add wsX4_add 1 23 0 0 [.ref h0, .int w, .int b] [(h0, .inr (5, [.ref h1, .ref h2, .int (nI T)])), (h1, .inl (cI, 12, .inl wo)), (h2, .inl (cI, 12, .inl cl))] (fun rv_ rw_ => rv_ = some (.int (if T < 12 then nI T else -1)) ∧ rw_ = [(h0, .inr (5, [.ref h1, .ref h2, .int (if T < 12 then nI (T + 1) else nI T)])), (h1, .inl (cI, 12, .inl (if T < 12 then upd wo T w else wo))), (h2, .inl (cI, 12, .inl (if T < 12 then upd cl T ((1 <<< (nI T &&& 31)) ||| closF cl b 12) else cl)))]) := by
  refine kEnter (cc := cX4_add) (maxL := 4) (ret := (some .int)) (by decide) rfl (Nat.le_of_ble_eq_true rfl) ?_
  intro p e s m args below meth c hx hb hr hml hts hown hlk hnm hK hP hD hS hA ls hl
  have hl : lv_has ls 4 [(0, .ref h0), (1, .int w), (2, .int b)] := hl
  have hw_f18 := hts (.fieldLink RX4 18 "WhatToRead$Topics" "count" "I") (by decide +kernel)
  have hi_X4 : ∀ w ∈ wsX40, w ∈ wsX4_add := by decide +kernel
  have hw_f9 := hts (.fieldLink RX4 9 "WhatToRead$Topics" "worths" "[I") (by decide +kernel)
  have hw_f15 := hts (.fieldLink RX4 15 "WhatToRead$Topics" "closures" "[I") (by decide +kernel)
  refine lv_aload_n hx hb dX4_add_0 rfl (lv_at hl 0 rfl) ?_
  refine va_get (D := D) (ci := 5) (v := .int (nI T)) (C := RX4) (T := TX4) (N := 3) hx hb hts hi_X4 hown hK.1 hP 0 rfl rfl 2 (by decide) hw_f18 (fun _ h9 => h9) rfl dX4_add_1 ?_
  refine lv_istore_n (lv' := [(3, .int (nI T)), (0, .ref h0), (1, .int w), (2, .int b)]) hx hb dX4_add_4 rfl hl (by decide) rfl (fun ls hl => ?_)
  refine lv_iload_n hx hb dX4_add_5 rfl (lv_at hl 0 rfl) ?_
  refine lv_aload_n hx hb dX4_add_6 rfl (lv_at hl 1 rfl) ?_
  refine va_get (D := D) (ci := 5) (v := .ref h1) (C := RX4) (T := TX4) (N := 3) hx hb hts hi_X4 hown hK.1 hP 0 rfl rfl 0 (by decide) hw_f9 (fun _ h9 => h9) rfl dX4_add_7 ?_
  refine va_alen (v := 12) hx hb hK.1 hP 1 0 rfl rfl rfl dX4_add_10 ?_
  refine lv_icmp_ge (tgt := 23) hx hb dX4_add_11 (by decide) (fun c_11 => ?_) (fun c_11 => ?_)
  · skip
    have nc_11 : 12 ≤ T := (nI_leI (a := 12) (b := T) (by omega) (by omega)).mp c_11
    refine lv_iconst (v := (-1)) hx hb dX4_add_23 (by decide) ?_
    have ew_0 : (nI T : Int32) = if T < 12 then nI (T + 1) else nI T := by first | (have hq : T < 12 := (by omega); simp [hq]; done) | (have hq : ¬ T < 12 := (by omega); simp [hq]; done)
    have ew_1 : (wo : Nat → Int32) = if T < 12 then upd wo T w else wo := by first | (have hq : T < 12 := (by omega); simp [hq]; done) | (have hq : ¬ T < 12 := (by omega); simp [hq]; done)
    have ew_2 : (cl : Nat → Int32) = if T < 12 then upd cl T ((1 <<< (nI T &&& 31)) ||| closF cl b 12) else cl := by first | (have hq : T < 12 := (by omega); simp [hq]; done) | (have hq : ¬ T < 12 := (by omega); simp [hq]; done)
    exact kRetI hx hb hr hlk dX4_add_24 hP hD hS (Nat.le_of_ble_eq_true rfl) (Nat.le_of_ble_eq_true rfl) ⟨(kpi (by first | (have hq : T < 12 := (by omega); simp [hq]; done) | (have hq : ¬ T < 12 := (by omega); simp [hq]; done))), (kw3 (fun (z_0 : Int32) (z_1 : Nat → Int32) (z_2 : Nat → Int32) => ([(h0, .inr (5, [.ref h1, .ref h2, .int z_0])), (h1, .inl (cI, 12, .inl z_1)), (h2, .inl (cI, 12, .inl z_2))] : va_W)) ew_0 ew_1 ew_2)⟩
  · skip
    have nc_11 : ¬ 12 ≤ T := (not_congr (nI_leI (a := 12) (b := T) (by omega) (by omega))).mp c_11
    refine lv_iload_n hx hb dX4_add_14 rfl (lv_at hl 0 rfl) ?_
    refine lv_aload_n hx hb dX4_add_15 rfl (lv_at hl 1 rfl) ?_
    refine va_get (D := D) (ci := 5) (v := .ref h2) (C := RX4) (T := TX4) (N := 3) hx hb hts hi_X4 hown hK.1 hP 0 rfl rfl 1 (by decide) hw_f15 (fun _ h9 => h9) rfl dX4_add_16 ?_
    refine va_alen (v := 12) hx hb hK.1 hP 2 0 rfl rfl rfl dX4_add_19 ?_
    refine lv_icmp_lt (tgt := 25) hx hb dX4_add_20 (by decide) (fun c_20 => ?_) (fun c_20 => ?_)
    · skip
      have nc_20 : T < 12 := (nI_ltI (a := T) (b := 12) (by omega) (by omega)).mp c_20
      refine lv_aload_n hx hb dX4_add_25 rfl (lv_at hl 1 rfl) ?_
      refine va_get (D := D) (ci := 5) (v := .ref h1) (C := RX4) (T := TX4) (N := 3) hx hb hts hi_X4 hown hK.1 hP 0 rfl rfl 0 (by decide) hw_f9 (fun _ h9 => h9) rfl dX4_add_26 ?_
      refine lv_iload_n hx hb dX4_add_29 rfl (lv_at hl 0 rfl) ?_
      refine lv_iload_n hx hb dX4_add_30 rfl (lv_at hl 2 rfl) ?_
      refine va_iast hx hb hK.1 hP hD hS 1 0 rfl rfl (vp_in_nI (by omega) (by omega)) dX4_add_31 (fun H locs hP hD hS => ?_)
      rw [nI_clamp (by omega)] at hP hD
      have hP : va_P D vwCl [(h0, .inr (5, [.ref h1, .ref h2, .int (nI T)])), (h1, .inl (cI, 12, .inl (upd wo T w))), (h2, .inl (cI, 12, .inl cl))] H := hP
      have hD : va_D _ [(h0, .inr (5, [.ref h1, .ref h2, .int (nI T)])), (h1, .inl (cI, 12, .inl (upd wo T w))), (h2, .inl (cI, 12, .inl cl))] := hD
      refine lv_aload_n hx hb dX4_add_32 rfl (lv_at hl 1 rfl) ?_
      refine va_get (D := D) (ci := 5) (v := .ref h2) (C := RX4) (T := TX4) (N := 3) hx hb hts hi_X4 hown hK.1 hP 0 rfl rfl 1 (by decide) hw_f15 (fun _ h9 => h9) rfl dX4_add_33 ?_
      refine lv_iload_n hx hb dX4_add_36 rfl (lv_at hl 0 rfl) ?_
      refine lv_iconst (v := 1) hx hb dX4_add_37 (by decide) ?_
      refine lv_iload_n hx hb dX4_add_38 rfl (lv_at hl 0 rfl) ?_
      refine lv_ishl hx hb dX4_add_39 ?_
      refine lv_aload_n hx hb dX4_add_40 rfl (lv_at hl 1 rfl) ?_
      refine lv_iload_n hx hb dX4_add_41 rfl (lv_at hl 3 rfl) ?_
      refine kGoR (va_runV (As := [.int b]) (rest := [.int (1 <<< ((nI T) &&& 31)), .int (nI T), .ref h2]) ⟨hx, hb, hml, hown, hts⟩ (c_X4_closure l D cI cJ cZ cO h0 h1 h2 (nI T) (upd wo T w) cl b ) (cwV 1 hts gX4_add_X4_closure rfl rfl rfl (by decide +kernel) ⟨Nat.le_of_ble_eq_true rfl, Nat.le_of_ble_eq_true rfl⟩) (kPreVR (ci := 5) (q0 := 0) hK (kPc_sub hP [0, 1, 2] rfl) rfl rfl rfl) rfl rfl hl.1 rfl (lv_room (Nat.le_of_ble_eq_true rfl)) dX4_add_42 ⟨Nat.le_of_ble_eq_true rfl, Nat.le_of_ble_eq_true rfl⟩) (fun v_1 hv_1 => ?_)
      obtain rfl := hv_1
      refine W.eq (g2 := F0 m 45 ls [.int (closF cl b 12), .int (1 <<< ((nI T) &&& 31)), .int (nI T), .ref h2]) rfl ?_
      refine lv_ior hx hb dX4_add_45 ?_
      refine va_iast hx hb hK.1 hP hD hS 2 0 rfl rfl (vp_in_nI (by omega) (by omega)) dX4_add_46 (fun H locs hP hD hS => ?_)
      rw [nI_clamp (by omega)] at hP hD
      have hP : va_P D vwCl [(h0, .inr (5, [.ref h1, .ref h2, .int (nI T)])), (h1, .inl (cI, 12, .inl (upd wo T w))), (h2, .inl (cI, 12, .inl (upd cl T ((1 <<< ((nI T) &&& 31)) ||| (closF cl b 12)))))] H := hP
      have hD : va_D _ [(h0, .inr (5, [.ref h1, .ref h2, .int (nI T)])), (h1, .inl (cI, 12, .inl (upd wo T w))), (h2, .inl (cI, 12, .inl (upd cl T ((1 <<< ((nI T) &&& 31)) ||| (closF cl b 12)))))] := hD
      refine lv_aload_n hx hb dX4_add_47 rfl (lv_at hl 1 rfl) ?_
      refine lv_dup hx hb dX4_add_48 rfl ?_
      refine va_get (D := D) (ci := 5) (v := .int (nI T)) (C := RX4) (T := TX4) (N := 3) hx hb hts hi_X4 hown hK.1 hP 0 rfl rfl 2 (by decide) hw_f18 (fun _ h9 => h9) rfl dX4_add_49 ?_
      refine lv_iconst (v := 1) hx hb dX4_add_52 (by decide) ?_
      refine lv_iadd hx hb dX4_add_53 ?_
      refine lv_topi (fun nv_2 ev_2 => ?_)
      obtain rfl : nv_2 = nI (T + 1) := ev_2.trans (nI_1 T)
      refine va_put (D := D) (ci := 5) (v := .int (nI (T + 1))) (ty := .int) (C := RX4) (T := TX4) (N := 3) hx hb hts hi_X4 tyX4 tyX4_ok nmX4 hown hK.1 hP hD hS 0 rfl rfl 2 (by decide) hw_f18 (fun _ h9 => h9) rfl (by decide +kernel) rfl rfl (Nat.le_of_ble_eq_true rfl) dX4_add_54 (fun H locs hP hD hS => ?_)
      have hP : va_P D vwCl [(h0, .inr (5, [.ref h1, .ref h2, .int (nI (T + 1))])), (h1, .inl (cI, 12, .inl (upd wo T w))), (h2, .inl (cI, 12, .inl (upd cl T ((1 <<< ((nI T) &&& 31)) ||| (closF cl b 12)))))] H := hP
      have hD : va_D _ [(h0, .inr (5, [.ref h1, .ref h2, .int (nI (T + 1))])), (h1, .inl (cI, 12, .inl (upd wo T w))), (h2, .inl (cI, 12, .inl (upd cl T ((1 <<< ((nI T) &&& 31)) ||| (closF cl b 12)))))] := hD
      refine lv_iload_n hx hb dX4_add_57 rfl (lv_at hl 0 rfl) ?_
      have ew_0 : (nI (T + 1) : Int32) = if T < 12 then nI (T + 1) else nI T := by first | (have hq : T < 12 := (by omega); simp [hq]; done) | (have hq : ¬ T < 12 := (by omega); simp [hq]; done)
      have ew_1 : (upd wo T w : Nat → Int32) = if T < 12 then upd wo T w else wo := by first | (have hq : T < 12 := (by omega); simp [hq]; done) | (have hq : ¬ T < 12 := (by omega); simp [hq]; done)
      have ew_2 : (upd cl T ((1 <<< ((nI T) &&& 31)) ||| (closF cl b 12)) : Nat → Int32) = if T < 12 then upd cl T ((1 <<< (nI T &&& 31)) ||| closF cl b 12) else cl := by first | (have hq : T < 12 := (by omega); simp [hq]; done) | (have hq : ¬ T < 12 := (by omega); simp [hq]; done)
      exact kRetI hx hb hr hlk dX4_add_58 hP hD hS (Nat.le_of_ble_eq_true rfl) (Nat.le_of_ble_eq_true rfl) ⟨(kpi (by first | (have hq : T < 12 := (by omega); simp [hq]; done) | (have hq : ¬ T < 12 := (by omega); simp [hq]; done))), (kw3 (fun (z_0 : Int32) (z_1 : Nat → Int32) (z_2 : Nat → Int32) => ([(h0, .inr (5, [.ref h1, .ref h2, .int z_0])), (h1, .inl (cI, 12, .inl z_1)), (h2, .inl (cI, 12, .inl z_2))] : va_W)) ew_0 ew_1 ew_2)⟩
    · skip
      have nc_20 : ¬ T < 12 := (not_congr (nI_ltI (a := T) (b := 12) (by omega) (by omega))).mp c_20
      refine lv_iconst (v := (-1)) hx hb dX4_add_23 (by decide) ?_
      have ew_0 : (nI T : Int32) = if T < 12 then nI (T + 1) else nI T := by first | (have hq : T < 12 := (by omega); simp [hq]; done) | (have hq : ¬ T < 12 := (by omega); simp [hq]; done)
      have ew_1 : (wo : Nat → Int32) = if T < 12 then upd wo T w else wo := by first | (have hq : T < 12 := (by omega); simp [hq]; done) | (have hq : ¬ T < 12 := (by omega); simp [hq]; done)
      have ew_2 : (cl : Nat → Int32) = if T < 12 then upd cl T ((1 <<< (nI T &&& 31)) ||| closF cl b 12) else cl := by first | (have hq : T < 12 := (by omega); simp [hq]; done) | (have hq : ¬ T < 12 := (by omega); simp [hq]; done)
      exact kRetI hx hb hr hlk dX4_add_24 hP hD hS (Nat.le_of_ble_eq_true rfl) (Nat.le_of_ble_eq_true rfl) ⟨(kpi (by first | (have hq : T < 12 := (by omega); simp [hq]; done) | (have hq : ¬ T < 12 := (by omega); simp [hq]; done))), (kw3 (fun (z_0 : Int32) (z_1 : Nat → Int32) (z_2 : Nat → Int32) => ([(h0, .inr (5, [.ref h1, .ref h2, .int z_0])), (h1, .inl (cI, 12, .inl z_1)), (h2, .inl (cI, 12, .inl z_2))] : va_W)) ew_0 ew_1 ew_2)⟩

set_option maxHeartbeats 4000000 in
set_option maxRecDepth 100000 in
theorem c_X1_init (l : Launch) (D : va_G) (cI cJ cZ cO : ClassId) (h0 : Nat) (a1 : Int32) (a2 : Int32) (a3 : Int32) (a4 : Int32) (a5 : Int32) : kC l D (kTY cI cJ cZ cO) yX1_init wsX1_init 1 12 0 0 [.ref h0, .int a1, .int a2, .int a3, .int a4, .int a5] [(h0, .inr (2, [.int 0, .int 0, .int 0, .int 0, .int 0]))] (fun rv_ rw_ => rv_ = none ∧ rw_ = [(h0, .inr (2, [.int a1, .int a2, .int a3, .int a4, .int a5]))]) := by
  refine kEnter (cc := cX1_init) (maxL := 6) (ret := none) (by decide) rfl (Nat.le_of_ble_eq_true rfl) ?_
  intro p e s m args below meth c hx hb hr hml hts hown hlk hnm hK hP hD hS hA ls hl
  have hl : lv_has ls 6 [(0, .ref h0), (1, .int a1), (2, .int a2), (3, .int a3), (4, .int a4), (5, .int a5)] := hl
  have hw_m1 := hts (.methodLink RX1 1 objectInit) (by decide +kernel)
  have hw_io := hts (.instanceMethod objectInit) (by decide +kernel)
  have hw_co := hts (.code objectInit ⟨#[0xb1]⟩ 1 none) (by decide +kernel)
  have hw_f7 := hts (.fieldLink RX1 7 "WhatToRead$Piece" "needs" "I") (by decide +kernel)
  have hi_X1 : ∀ w ∈ wsX10, w ∈ wsX1_init := by decide +kernel
  have hw_f13 := hts (.fieldLink RX1 13 "WhatToRead$Piece" "either" "I") (by decide +kernel)
  have hw_f16 := hts (.fieldLink RX1 16 "WhatToRead$Piece" "given" "I") (by decide +kernel)
  have hw_f19 := hts (.fieldLink RX1 19 "WhatToRead$Piece" "skimmed" "I") (by decide +kernel)
  have hw_f22 := hts (.fieldLink RX1 22 "WhatToRead$Piece" "pages" "I") (by decide +kernel)
  refine lv_aload_n hx hb dX1_init_0 rfl (lv_at hl 0 rfl) ?_
  refine W.objInit hx hb hown hw_m1 hw_io hw_co rfl (by rw [hml]; exact hl.1) rfl dX1_init_1 (Nat.le_of_ble_eq_true rfl) (Nat.le_of_ble_eq_true rfl) ?_
  refine W.eq (g2 := F0 m 4 ls []) rfl ?_
  refine lv_aload_n hx hb dX1_init_4 rfl (lv_at hl 0 rfl) ?_
  refine lv_iload_n hx hb dX1_init_5 rfl (lv_at hl 1 rfl) ?_
  refine va_putF (D := D) (ci := 2) (v := .int a1) (ty := .int) (C := RX1) (T := TX1) (N := 5) hx hb hts hi_X1 tyX1 tyX1_ok nmX1 hown hK.1 hP hD hS 0 rfl rfl 0 (by decide) hw_f7 (fun _ h9 => h9) rfl hnm rfl (by decide +kernel) rfl rfl (Nat.le_of_ble_eq_true rfl) dX1_init_6 (fun H locs hP hD hS => ?_)
  have hP : va_P D vwCl [(h0, .inr (2, [.int a1, .int 0, .int 0, .int 0, .int 0]))] H := hP
  have hD : va_D _ [(h0, .inr (2, [.int a1, .int 0, .int 0, .int 0, .int 0]))] := hD
  refine lv_aload_n hx hb dX1_init_9 rfl (lv_at hl 0 rfl) ?_
  refine lv_iload_n hx hb dX1_init_10 rfl (lv_at hl 2 rfl) ?_
  refine va_putF (D := D) (ci := 2) (v := .int a2) (ty := .int) (C := RX1) (T := TX1) (N := 5) hx hb hts hi_X1 tyX1 tyX1_ok nmX1 hown hK.1 hP hD hS 0 rfl rfl 1 (by decide) hw_f13 (fun _ h9 => h9) rfl hnm rfl (by decide +kernel) rfl rfl (Nat.le_of_ble_eq_true rfl) dX1_init_11 (fun H locs hP hD hS => ?_)
  have hP : va_P D vwCl [(h0, .inr (2, [.int a1, .int a2, .int 0, .int 0, .int 0]))] H := hP
  have hD : va_D _ [(h0, .inr (2, [.int a1, .int a2, .int 0, .int 0, .int 0]))] := hD
  refine lv_aload_n hx hb dX1_init_14 rfl (lv_at hl 0 rfl) ?_
  refine lv_iload_n hx hb dX1_init_15 rfl (lv_at hl 3 rfl) ?_
  refine va_putF (D := D) (ci := 2) (v := .int a3) (ty := .int) (C := RX1) (T := TX1) (N := 5) hx hb hts hi_X1 tyX1 tyX1_ok nmX1 hown hK.1 hP hD hS 0 rfl rfl 2 (by decide) hw_f16 (fun _ h9 => h9) rfl hnm rfl (by decide +kernel) rfl rfl (Nat.le_of_ble_eq_true rfl) dX1_init_16 (fun H locs hP hD hS => ?_)
  have hP : va_P D vwCl [(h0, .inr (2, [.int a1, .int a2, .int a3, .int 0, .int 0]))] H := hP
  have hD : va_D _ [(h0, .inr (2, [.int a1, .int a2, .int a3, .int 0, .int 0]))] := hD
  refine lv_aload_n hx hb dX1_init_19 rfl (lv_at hl 0 rfl) ?_
  refine lv_iload hx hb dX1_init_20 (lv_at hl 4 rfl) ?_
  refine va_putF (D := D) (ci := 2) (v := .int a4) (ty := .int) (C := RX1) (T := TX1) (N := 5) hx hb hts hi_X1 tyX1 tyX1_ok nmX1 hown hK.1 hP hD hS 0 rfl rfl 3 (by decide) hw_f19 (fun _ h9 => h9) rfl hnm rfl (by decide +kernel) rfl rfl (Nat.le_of_ble_eq_true rfl) dX1_init_22 (fun H locs hP hD hS => ?_)
  have hP : va_P D vwCl [(h0, .inr (2, [.int a1, .int a2, .int a3, .int a4, .int 0]))] H := hP
  have hD : va_D _ [(h0, .inr (2, [.int a1, .int a2, .int a3, .int a4, .int 0]))] := hD
  refine lv_aload_n hx hb dX1_init_25 rfl (lv_at hl 0 rfl) ?_
  refine lv_iload hx hb dX1_init_26 (lv_at hl 5 rfl) ?_
  refine va_putF (D := D) (ci := 2) (v := .int a5) (ty := .int) (C := RX1) (T := TX1) (N := 5) hx hb hts hi_X1 tyX1 tyX1_ok nmX1 hown hK.1 hP hD hS 0 rfl rfl 4 (by decide) hw_f22 (fun _ h9 => h9) rfl hnm rfl (by decide +kernel) rfl rfl (Nat.le_of_ble_eq_true rfl) dX1_init_28 (fun H locs hP hD hS => ?_)
  have hP : va_P D vwCl [(h0, .inr (2, [.int a1, .int a2, .int a3, .int a4, .int a5]))] H := hP
  have hD : va_D _ [(h0, .inr (2, [.int a1, .int a2, .int a3, .int a4, .int a5]))] := hD
  exact kRetV hx hb hr hlk dX1_init_31 hP hD hS (Nat.le_of_ble_eq_true rfl) (Nat.le_of_ble_eq_true rfl) ⟨rfl, rfl⟩

set_option maxHeartbeats 4000000 in
set_option maxRecDepth 100000 in
theorem c_X1_isOpenTo (l : Launch) (D : va_G) (cI cJ cZ cO : ClassId) (h0 : Nat) (ne : Int32) (ei : Int32) (gv : Int32) (sk : Int32) (pg : Int32) (k : Int32) : kR l D (kTY cI cJ cZ cO) yX1_isOpenTo wsX1_isOpenTo 0 0 [.ref h0, .int k] [(h0, .inr (2, [.int ne, .int ei, .int gv, .int sk, .int pg]))] (fun rv_ => rv_ = some (.int (k01 (openB ne ei k)))) := by
  refine kEnterR (cc := cX1_isOpenTo) (maxL := 2) (ret := (some .boolean)) (by decide) rfl (Nat.le_of_ble_eq_true rfl) ?_
  intro p e s m args below meth c hx hb hr hml hts hown hlk hK hP ls hl
  have hl : lv_has ls 2 [(0, .ref h0), (1, .int k)] := hl
  have hw_f7 := hts (.fieldLink RX1 7 "WhatToRead$Piece" "needs" "I") (by decide +kernel)
  have hi_X1 : ∀ w ∈ wsX10, w ∈ wsX1_isOpenTo := by decide +kernel
  have hw_f13 := hts (.fieldLink RX1 13 "WhatToRead$Piece" "either" "I") (by decide +kernel)
  refine lv_iload_n hx hb dX1_isOpenTo_0 rfl (lv_at hl 1 rfl) ?_
  refine lv_aload_n hx hb dX1_isOpenTo_1 rfl (lv_at hl 0 rfl) ?_
  refine va_get (D := D) (ci := 2) (v := .int ne) (C := RX1) (T := TX1) (N := 5) hx hb hts hi_X1 hown hK.1 hP 0 rfl rfl 0 (by decide) hw_f7 (fun _ h9 => h9) rfl dX1_isOpenTo_2 ?_
  refine lv_iand hx hb dX1_isOpenTo_5 ?_
  refine lv_aload_n hx hb dX1_isOpenTo_6 rfl (lv_at hl 0 rfl) ?_
  refine va_get (D := D) (ci := 2) (v := .int ne) (C := RX1) (T := TX1) (N := 5) hx hb hts hi_X1 hown hK.1 hP 0 rfl rfl 0 (by decide) hw_f7 (fun _ h9 => h9) rfl dX1_isOpenTo_7 ?_
  refine lv_icmp_ne (tgt := 33) hx hb dX1_isOpenTo_10 (by decide) (fun c_10 => ?_) (fun c_10 => ?_)
  · skip
    refine lv_iconst (v := 0) hx hb dX1_isOpenTo_33 (by decide) ?_
    exact kRetZr (openB ne ei k) (by first | rfl | (rw [ex, e12]; done) | (rw [em, e12]; done) | (rw [ey, e12]; done) | (rw [e12]; done) | (simp [openB, k01, c_10]; done) | (simp_all [openB, k01]; done)) hx hb hr hlk dX1_isOpenTo_34 rfl
  · skip
    refine lv_aload_n hx hb dX1_isOpenTo_13 rfl (lv_at hl 0 rfl) ?_
    refine va_get (D := D) (ci := 2) (v := .int ei) (C := RX1) (T := TX1) (N := 5) hx hb hts hi_X1 hown hK.1 hP 0 rfl rfl 1 (by decide) hw_f13 (fun _ h9 => h9) rfl dX1_isOpenTo_14 ?_
    refine lv_if_eq (tgt := 29) hx hb dX1_isOpenTo_17 (by decide) (fun c_17 => ?_) (fun c_17 => ?_)
    · skip
      refine lv_iconst (v := 1) hx hb dX1_isOpenTo_29 (by decide) ?_
      refine lv_goto (tgt := 34) hx hb dX1_isOpenTo_30 (by decide) ?_
      exact kRetZr (openB ne ei k) (by first | rfl | (rw [ex, e12]; done) | (rw [em, e12]; done) | (rw [ey, e12]; done) | (rw [e12]; done) | (simp [openB, k01, c_10, c_17]; done) | (simp_all [openB, k01]; done)) hx hb hr hlk dX1_isOpenTo_34 rfl
    · skip
      refine lv_iload_n hx hb dX1_isOpenTo_20 rfl (lv_at hl 1 rfl) ?_
      refine lv_aload_n hx hb dX1_isOpenTo_21 rfl (lv_at hl 0 rfl) ?_
      refine va_get (D := D) (ci := 2) (v := .int ei) (C := RX1) (T := TX1) (N := 5) hx hb hts hi_X1 hown hK.1 hP 0 rfl rfl 1 (by decide) hw_f13 (fun _ h9 => h9) rfl dX1_isOpenTo_22 ?_
      refine lv_iand hx hb dX1_isOpenTo_25 ?_
      refine lv_if_eq (tgt := 33) hx hb dX1_isOpenTo_26 (by decide) (fun c_26 => ?_) (fun c_26 => ?_)
      · skip
        refine lv_iconst (v := 0) hx hb dX1_isOpenTo_33 (by decide) ?_
        exact kRetZr (openB ne ei k) (by first | rfl | (rw [ex, e12]; done) | (rw [em, e12]; done) | (rw [ey, e12]; done) | (rw [e12]; done) | (simp [openB, k01, c_10, c_17, c_26]; done) | (simp_all [openB, k01]; done)) hx hb hr hlk dX1_isOpenTo_34 rfl
      · skip
        refine lv_iconst (v := 1) hx hb dX1_isOpenTo_29 (by decide) ?_
        refine lv_goto (tgt := 34) hx hb dX1_isOpenTo_30 (by decide) ?_
        exact kRetZr (openB ne ei k) (by first | rfl | (rw [ex, e12]; done) | (rw [em, e12]; done) | (rw [ey, e12]; done) | (rw [e12]; done) | (simp [openB, k01, c_10, c_17, c_26]; done) | (simp_all [openB, k01]; done)) hx hb hr hlk dX1_isOpenTo_34 rfl

set_option maxHeartbeats 4000000 in
set_option maxRecDepth 100000 in
theorem c_X1_needed (l : Launch) (D : va_G) (cI cJ cZ cO : ClassId) (h0 : Nat) (ne : Int32) (ei : Int32) (gv : Int32) (sk : Int32) (pg : Int32) : kR l D (kTY cI cJ cZ cO) yX1_needed wsX1_needed 0 0 [.ref h0] [(h0, .inr (2, [.int ne, .int ei, .int gv, .int sk, .int pg]))] (fun rv_ => rv_ = some (.int ne)) := by
  refine kEnterR (cc := cX1_needed) (maxL := 1) (ret := (some .int)) (by decide) rfl (Nat.le_of_ble_eq_true rfl) ?_
  intro p e s m args below meth c hx hb hr hml hts hown hlk hK hP ls hl
  have hl : lv_has ls 1 [(0, .ref h0)] := hl
  have hw_f7 := hts (.fieldLink RX1 7 "WhatToRead$Piece" "needs" "I") (by decide +kernel)
  have hi_X1 : ∀ w ∈ wsX10, w ∈ wsX1_needed := by decide +kernel
  refine lv_aload_n hx hb dX1_needed_0 rfl (lv_at hl 0 rfl) ?_
  refine va_get (D := D) (ci := 2) (v := .int ne) (C := RX1) (T := TX1) (N := 5) hx hb hts hi_X1 hown hK.1 hP 0 rfl rfl 0 (by decide) hw_f7 (fun _ h9 => h9) rfl dX1_needed_1 ?_
  exact kRetIr hx hb hr hlk dX1_needed_4 rfl

set_option maxHeartbeats 4000000 in
set_option maxRecDepth 100000 in
theorem c_X1_brings (l : Launch) (D : va_G) (cI cJ cZ cO : ClassId) (h0 : Nat) (ne : Int32) (ei : Int32) (gv : Int32) (sk : Int32) (pg : Int32) (s1 : Bool) : kR l D (kTY cI cJ cZ cO) yX1_brings wsX1_brings 0 0 [.ref h0, .int (k01 s1)] [(h0, .inr (2, [.int ne, .int ei, .int gv, .int sk, .int pg]))] (fun rv_ => rv_ = some (.int (if s1 then sk else gv))) := by
  refine kEnterR (cc := cX1_brings) (maxL := 2) (ret := (some .int)) (by decide) rfl (Nat.le_of_ble_eq_true rfl) ?_
  intro p e s m args below meth c hx hb hr hml hts hown hlk hK hP ls hl
  have hl : lv_has ls 2 [(0, .ref h0), (1, .int (k01 s1))] := hl
  have hw_f16 := hts (.fieldLink RX1 16 "WhatToRead$Piece" "given" "I") (by decide +kernel)
  have hi_X1 : ∀ w ∈ wsX10, w ∈ wsX1_brings := by decide +kernel
  have hw_f19 := hts (.fieldLink RX1 19 "WhatToRead$Piece" "skimmed" "I") (by decide +kernel)
  refine lv_iload_n hx hb dX1_brings_0 rfl (lv_at hl 1 rfl) ?_
  refine lv_if_eq (tgt := 11) hx hb dX1_brings_1 (by decide) (fun c_1 => ?_) (fun c_1 => ?_)
  · skip
    have c_1 := k01_z c_1
    refine lv_aload_n hx hb dX1_brings_11 rfl (lv_at hl 0 rfl) ?_
    refine va_get (D := D) (ci := 2) (v := .int gv) (C := RX1) (T := TX1) (N := 5) hx hb hts hi_X1 hown hK.1 hP 0 rfl rfl 2 (by decide) hw_f16 (fun _ h9 => h9) rfl dX1_brings_12 ?_
    exact kRetIr hx hb hr hlk dX1_brings_15 (kpi (by first | rfl | (rw [ex, e12]; done) | (rw [em, e12]; done) | (rw [ey, e12]; done) | (rw [e12]; done) | (simp [c_1]; done) | (simp_all []; done)))
  · skip
    have c_1 := k01_n c_1
    refine lv_aload_n hx hb dX1_brings_4 rfl (lv_at hl 0 rfl) ?_
    refine va_get (D := D) (ci := 2) (v := .int sk) (C := RX1) (T := TX1) (N := 5) hx hb hts hi_X1 hown hK.1 hP 0 rfl rfl 3 (by decide) hw_f19 (fun _ h9 => h9) rfl dX1_brings_5 ?_
    refine lv_goto (tgt := 15) hx hb dX1_brings_8 (by decide) ?_
    exact kRetIr hx hb hr hlk dX1_brings_15 (kpi (by first | rfl | (rw [ex, e12]; done) | (rw [em, e12]; done) | (rw [ey, e12]; done) | (rw [e12]; done) | (simp [c_1]; done) | (simp_all []; done)))

set_option maxHeartbeats 4000000 in
set_option maxRecDepth 100000 in
theorem c_X1_minutesAt (l : Launch) (D : va_G) (cI cJ cZ cO : ClassId) (h0 : Nat) (ne : Int32) (ei : Int32) (gv : Int32) (sk : Int32) (pg : Int32) (v : Int32) (s1 : Bool) : kR l D (kTY cI cJ cZ cO) yX1_minutesAt wsX1_minutesAt 0 0 [.ref h0, .int v, .int (k01 s1)] [(h0, .inr (2, [.int ne, .int ei, .int gv, .int sk, .int pg]))] (fun rv_ => rv_ = some (.int (timeF pg v s1))) := by
  refine kEnterR (cc := cX1_minutesAt) (maxL := 4) (ret := (some .int)) (by decide) rfl (Nat.le_of_ble_eq_true rfl) ?_
  intro p e s m args below meth c hx hb hr hml hts hown hlk hK hP ls hl
  have hl : lv_has ls 4 [(0, .ref h0), (1, .int v), (2, .int (k01 s1))] := hl
  have hw_f22 := hts (.fieldLink RX1 22 "WhatToRead$Piece" "pages" "I") (by decide +kernel)
  have hi_X1 : ∀ w ∈ wsX10, w ∈ wsX1_minutesAt := by decide +kernel
  refine lv_aload_n hx hb dX1_minutesAt_0 rfl (lv_at hl 0 rfl) ?_
  refine va_get (D := D) (ci := 2) (v := .int pg) (C := RX1) (T := TX1) (N := 5) hx hb hts hi_X1 hown hK.1 hP 0 rfl rfl 4 (by decide) hw_f22 (fun _ h9 => h9) rfl dX1_minutesAt_1 ?_
  refine lv_iload_n hx hb dX1_minutesAt_4 rfl (lv_at hl 1 rfl) ?_
  refine lv_imul hx hb dX1_minutesAt_5 ?_
  refine lv_istore_n (lv' := [(3, .int (pg * v)), (0, .ref h0), (1, .int v), (2, .int (k01 s1))]) hx hb dX1_minutesAt_6 rfl hl (by decide) rfl (fun ls hl => ?_)
  refine lv_iload_n hx hb dX1_minutesAt_7 rfl (lv_at hl 3 rfl) ?_
  refine lv_if_eq (tgt := 19) hx hb dX1_minutesAt_8 (by decide) (fun c_8 => ?_) (fun c_8 => ?_)
  · skip
    have c_8 := k01_z c_8
    refine lv_iload_n hx hb dX1_minutesAt_19 rfl (lv_at hl 0 rfl) ?_
    exact kRetIr hx hb hr hlk dX1_minutesAt_20 (kpi (by first | rfl | (rw [ex, e12]; done) | (rw [em, e12]; done) | (rw [ey, e12]; done) | (rw [e12]; done) | (simp [timeF, c_8]; done) | (simp_all [timeF]; done)))
  · skip
    have c_8 := k01_n c_8
    refine lv_iload_n hx hb dX1_minutesAt_11 rfl (lv_at hl 0 rfl) ?_
    refine lv_iconst (v := 2) hx hb dX1_minutesAt_12 (by decide) ?_
    refine lv_iadd hx hb dX1_minutesAt_13 ?_
    refine lv_iconst (v := 3) hx hb dX1_minutesAt_14 (by decide) ?_
    refine lv_idiv hx hb dX1_minutesAt_15 (by decide) ?_
    refine lv_goto (tgt := 20) hx hb dX1_minutesAt_16 (by decide) ?_
    exact kRetIr hx hb hr hlk dX1_minutesAt_20 (kpi (by first | rfl | (rw [ex, e12]; done) | (rw [em, e12]; done) | (rw [ey, e12]; done) | (rw [e12]; done) | (simp [timeF, c_8]; done) | (simp_all [timeF]; done)))

set_option maxHeartbeats 4000000 in
set_option maxRecDepth 100000 in
theorem c_X2_init (l : Launch) (D : va_G) (cI cJ cZ cO : ClassId) (h0 : Nat) : kC l D (kTY cI cJ cZ cO) yX2_init wsX2_init 1 12 1 12 [.ref h0] [(h0, .inr (3, [.null, .int 0]))] (fun rv_ rw_ => ∃ q1 : Nat, rv_ = none ∧ rw_ = [(h0, .inr (3, [.ref q1, .int 0])), (q1, .inl (cI, 12, .inl (fun _ => 0)))]) := by
  refine kEnter (cc := cX2_init) (maxL := 1) (ret := none) (by decide) rfl (Nat.le_of_ble_eq_true rfl) ?_
  intro p e s m args below meth c hx hb hr hml hts hown hlk hnm hK hP hD hS hA ls hl
  have hl : lv_has ls 1 [(0, .ref h0)] := hl
  have hw_m3 := hts (.methodLink RX2 3 objectInit) (by decide +kernel)
  have hw_io := hts (.instanceMethod objectInit) (by decide +kernel)
  have hw_co := hts (.code objectInit ⟨#[0xb1]⟩ 1 none) (by decide +kernel)
  have hw_aI := hts (.arrayClass .int) (by decide +kernel)
  have hw_f9 := hts (.fieldLink RX2 9 "WhatToRead$Row" "items" "[I") (by decide +kernel)
  have hi_X2 : ∀ w ∈ wsX20, w ∈ wsX2_init := by decide +kernel
  have hw_f15 := hts (.fieldLink RX2 15 "WhatToRead$Row" "count" "I") (by decide +kernel)
  refine lv_aload_n hx hb dX2_init_0 rfl (lv_at hl 0 rfl) ?_
  refine W.objInit hx hb hown hw_m3 hw_io hw_co rfl (by rw [hml]; exact hl.1) rfl dX2_init_1 (Nat.le_of_ble_eq_true rfl) (Nat.le_of_ble_eq_true rfl) ?_
  refine W.eq (g2 := F0 m 4 ls []) rfl ?_
  refine lv_aload_n hx hb dX2_init_4 rfl (lv_at hl 0 rfl) ?_
  refine lv_bipush (v := 12) hx hb dX2_init_5 (by decide) ?_
  refine kNewaI (N' := 12) hx hb hw_aI hK.1 hP hD hS hA (by decide) (by decide) (Nat.le_of_ble_eq_true rfl) (Nat.le_of_ble_eq_true rfl) (Nat.le_of_ble_eq_true rfl) dX2_init_7 (fun q1 H hP hD hS => ?_)
  have hP : va_P D vwCl [(h0, .inr (3, [.null, .int 0])), (q1, .inl (cI, 12, .inl (fun _ => 0)))] H := hP
  have hD : va_D _ [(h0, .inr (3, [.null, .int 0])), (q1, .inl (cI, 12, .inl (fun _ => 0)))] := hD
  refine va_putF (D := D) (ci := 3) (v := .ref q1) (ty := .array .int) (C := RX2) (T := TX2) (N := 2) hx hb hts hi_X2 tyX2 tyX2_ok nmX2 hown hK.1 hP hD hS 0 rfl rfl 0 (by decide) hw_f9 (fun _ h9 => h9) rfl hnm rfl (by decide +kernel) rfl rfl (Nat.le_of_ble_eq_true rfl) dX2_init_9 (fun H locs hP hD hS => ?_)
  have hP : va_P D vwCl [(h0, .inr (3, [.ref q1, .int 0])), (q1, .inl (cI, 12, .inl (fun _ => 0)))] H := hP
  have hD : va_D _ [(h0, .inr (3, [.ref q1, .int 0])), (q1, .inl (cI, 12, .inl (fun _ => 0)))] := hD
  refine lv_aload_n hx hb dX2_init_12 rfl (lv_at hl 0 rfl) ?_
  refine lv_iconst (v := 0) hx hb dX2_init_13 (by decide) ?_
  refine va_put (D := D) (ci := 3) (v := .int 0) (ty := .int) (C := RX2) (T := TX2) (N := 2) hx hb hts hi_X2 tyX2 tyX2_ok nmX2 hown hK.1 hP hD hS 0 rfl rfl 1 (by decide) hw_f15 (fun _ h9 => h9) rfl (by decide +kernel) rfl rfl (Nat.le_of_ble_eq_true rfl) dX2_init_14 (fun H locs hP hD hS => ?_)
  have hP : va_P D vwCl [(h0, .inr (3, [.ref q1, .int 0])), (q1, .inl (cI, 12, .inl (fun _ => 0)))] H := hP
  have hD : va_D _ [(h0, .inr (3, [.ref q1, .int 0])), (q1, .inl (cI, 12, .inl (fun _ => 0)))] := hD
  exact kRetV hx hb hr hlk dX2_init_17 hP hD hS (Nat.le_of_ble_eq_true rfl) (Nat.le_of_ble_eq_true rfl) ⟨q1, rfl, rfl⟩

set_option maxHeartbeats 4000000 in
set_option maxRecDepth 100000 in
theorem c_X2_size (l : Launch) (D : va_G) (cI cJ cZ cO : ClassId) (h0 : Nat) (h1 : Nat) (n : Int32) (f : Nat → Int32) : kR l D (kTY cI cJ cZ cO) yX2_size wsX2_size 0 0 [.ref h0] [(h0, .inr (3, [.ref h1, .int n])), (h1, .inl (cI, 12, .inl f))] (fun rv_ => rv_ = some (.int n)) := by
  refine kEnterR (cc := cX2_size) (maxL := 1) (ret := (some .int)) (by decide) rfl (Nat.le_of_ble_eq_true rfl) ?_
  intro p e s m args below meth c hx hb hr hml hts hown hlk hK hP ls hl
  have hl : lv_has ls 1 [(0, .ref h0)] := hl
  have hw_f15 := hts (.fieldLink RX2 15 "WhatToRead$Row" "count" "I") (by decide +kernel)
  have hi_X2 : ∀ w ∈ wsX20, w ∈ wsX2_size := by decide +kernel
  refine lv_aload_n hx hb dX2_size_0 rfl (lv_at hl 0 rfl) ?_
  refine va_get (D := D) (ci := 3) (v := .int n) (C := RX2) (T := TX2) (N := 2) hx hb hts hi_X2 hown hK.1 hP 0 rfl rfl 1 (by decide) hw_f15 (fun _ h9 => h9) rfl dX2_size_1 ?_
  exact kRetIr hx hb hr hlk dX2_size_4 rfl

set_option maxHeartbeats 4000000 in
set_option maxRecDepth 100000 in
theorem c_X2_at (l : Launch) (D : va_G) (cI cJ cZ cO : ClassId) (h0 : Nat) (h1 : Nat) (n : Int32) (f : Nat → Int32) (i : Int32) : kR l D (kTY cI cJ cZ cO) yX2_at wsX2_at 0 0 [.ref h0, .int i] [(h0, .inr (3, [.ref h1, .int n])), (h1, .inl (cI, 12, .inl f))] (fun rv_ => rv_ = some (.int (rowAt f n i))) := by
  refine kEnterR (cc := cX2_at) (maxL := 2) (ret := (some .int)) (by decide) rfl (Nat.le_of_ble_eq_true rfl) ?_
  intro p e s m args below meth c hx hb hr hml hts hown hlk hK hP ls hl
  have hl : lv_has ls 2 [(0, .ref h0), (1, .int i)] := hl
  have hw_f15 := hts (.fieldLink RX2 15 "WhatToRead$Row" "count" "I") (by decide +kernel)
  have hi_X2 : ∀ w ∈ wsX20, w ∈ wsX2_at := by decide +kernel
  have hw_f9 := hts (.fieldLink RX2 9 "WhatToRead$Row" "items" "[I") (by decide +kernel)
  refine lv_iload_n hx hb dX2_at_0 rfl (lv_at hl 1 rfl) ?_
  refine lv_if_lt (tgt := 30) hx hb dX2_at_1 (by decide) (fun c_1 => ?_) (fun c_1 => ?_)
  · skip
    refine lv_iconst (v := (-1)) hx hb dX2_at_30 (by decide) ?_
    exact kRetIr hx hb hr hlk dX2_at_31 (kpi (by first | rfl | (rw [ex, e12]; done) | (rw [em, e12]; done) | (rw [ey, e12]; done) | (rw [e12]; done) | (simp [rowAt, c_1]; done) | (simp_all [rowAt]; done)))
  · skip
    refine lv_iload_n hx hb dX2_at_4 rfl (lv_at hl 1 rfl) ?_
    refine lv_aload_n hx hb dX2_at_5 rfl (lv_at hl 0 rfl) ?_
    refine va_get (D := D) (ci := 3) (v := .int n) (C := RX2) (T := TX2) (N := 2) hx hb hts hi_X2 hown hK.1 hP 0 rfl rfl 1 (by decide) hw_f15 (fun _ h9 => h9) rfl dX2_at_6 ?_
    refine lv_icmp_ge (tgt := 30) hx hb dX2_at_9 (by decide) (fun c_9 => ?_) (fun c_9 => ?_)
    · skip
      refine lv_iconst (v := (-1)) hx hb dX2_at_30 (by decide) ?_
      exact kRetIr hx hb hr hlk dX2_at_31 (kpi (by first | rfl | (rw [ex, e12]; done) | (rw [em, e12]; done) | (rw [ey, e12]; done) | (rw [e12]; done) | (simp [rowAt, c_1, c_9]; done) | (simp_all [rowAt]; done)))
    · skip
      refine lv_iload_n hx hb dX2_at_12 rfl (lv_at hl 1 rfl) ?_
      refine lv_aload_n hx hb dX2_at_13 rfl (lv_at hl 0 rfl) ?_
      refine va_get (D := D) (ci := 3) (v := .ref h1) (C := RX2) (T := TX2) (N := 2) hx hb hts hi_X2 hown hK.1 hP 0 rfl rfl 0 (by decide) hw_f9 (fun _ h9 => h9) rfl dX2_at_14 ?_
      refine va_alen (v := 12) hx hb hK.1 hP 1 0 rfl rfl rfl dX2_at_17 ?_
      refine lv_icmp_ge (tgt := 30) hx hb dX2_at_18 (by decide) (fun c_18 => ?_) (fun c_18 => ?_)
      · skip
        refine lv_iconst (v := (-1)) hx hb dX2_at_30 (by decide) ?_
        exact kRetIr hx hb hr hlk dX2_at_31 (kpi (by first | rfl | (rw [ex, e12]; done) | (rw [em, e12]; done) | (rw [ey, e12]; done) | (rw [e12]; done) | (simp [rowAt, c_1, c_9, c_18]; done) | (simp_all [rowAt]; done)))
      · skip
        refine lv_aload_n hx hb dX2_at_21 rfl (lv_at hl 0 rfl) ?_
        refine va_get (D := D) (ci := 3) (v := .ref h1) (C := RX2) (T := TX2) (N := 2) hx hb hts hi_X2 hown hK.1 hP 0 rfl rfl 0 (by decide) hw_f9 (fun _ h9 => h9) rfl dX2_at_22 ?_
        refine lv_iload_n hx hb dX2_at_25 rfl (lv_at hl 1 rfl) ?_
        refine va_iald hx hb hK.1 hP 1 0 rfl rfl (kin 12 rfl (by decide) c_1 c_18) dX2_at_26 ?_
        refine lv_goto (tgt := 31) hx hb dX2_at_27 (by decide) ?_
        exact kRetIr hx hb hr hlk dX2_at_31 (kpi (by first | rfl | (rw [ex, e12]; done) | (rw [em, e12]; done) | (rw [ey, e12]; done) | (rw [e12]; done) | (simp [rowAt, c_1, c_9, c_18]; done) | (simp_all [rowAt]; done)))

set_option maxHeartbeats 4000000 in
set_option maxRecDepth 100000 in
theorem c_X2_clear (l : Launch) (D : va_G) (cI cJ cZ cO : ClassId) (h0 : Nat) (h1 : Nat) (n : Int32) (f : Nat → Int32) : kC l D (kTY cI cJ cZ cO) yX2_clear wsX2_clear 0 0 0 0 [.ref h0] [(h0, .inr (3, [.ref h1, .int n])), (h1, .inl (cI, 12, .inl f))] (fun rv_ rw_ => rv_ = none ∧ rw_ = [(h0, .inr (3, [.ref h1, .int 0])), (h1, .inl (cI, 12, .inl f))]) := by
  refine kEnter (cc := cX2_clear) (maxL := 1) (ret := none) (by decide) rfl (Nat.le_of_ble_eq_true rfl) ?_
  intro p e s m args below meth c hx hb hr hml hts hown hlk hnm hK hP hD hS hA ls hl
  have hl : lv_has ls 1 [(0, .ref h0)] := hl
  have hw_f15 := hts (.fieldLink RX2 15 "WhatToRead$Row" "count" "I") (by decide +kernel)
  have hi_X2 : ∀ w ∈ wsX20, w ∈ wsX2_clear := by decide +kernel
  refine lv_aload_n hx hb dX2_clear_0 rfl (lv_at hl 0 rfl) ?_
  refine lv_iconst (v := 0) hx hb dX2_clear_1 (by decide) ?_
  refine va_put (D := D) (ci := 3) (v := .int 0) (ty := .int) (C := RX2) (T := TX2) (N := 2) hx hb hts hi_X2 tyX2 tyX2_ok nmX2 hown hK.1 hP hD hS 0 rfl rfl 1 (by decide) hw_f15 (fun _ h9 => h9) rfl (by decide +kernel) rfl rfl (Nat.le_of_ble_eq_true rfl) dX2_clear_2 (fun H locs hP hD hS => ?_)
  have hP : va_P D vwCl [(h0, .inr (3, [.ref h1, .int 0])), (h1, .inl (cI, 12, .inl f))] H := hP
  have hD : va_D _ [(h0, .inr (3, [.ref h1, .int 0])), (h1, .inl (cI, 12, .inl f))] := hD
  exact kRetV hx hb hr hlk dX2_clear_5 hP hD hS (Nat.le_of_ble_eq_true rfl) (Nat.le_of_ble_eq_true rfl) ⟨rfl, rfl⟩

set_option maxHeartbeats 4000000 in
set_option maxRecDepth 100000 in
theorem c_X2_add_a (l : Launch) (D : va_G) (cI cJ cZ cO : ClassId) (h0 : Nat) (h1 : Nat) (n : Int32) (f : Nat → Int32) (x : Int32) : kC l D (kTY cI cJ cZ cO) yX2_add wsX2_add 0 0 0 0 [.ref h0, .int x] [(h0, .inr (3, [.ref h1, .int n])), (h1, .inl (cI, 12, .inl f))] (fun rv_ rw_ => rv_ = none ∧ rw_ = [(h0, .inr (3, [.ref h1, .int (if ¬ n < 0 ∧ ¬ 12 ≤ n then n + 1 else n)])), (h1, .inl (cI, 12, .inl (if ¬ n < 0 ∧ ¬ 12 ≤ n then upd f n.toNatClampNeg x else f)))]) := by
  refine kEnter (cc := cX2_add) (maxL := 2) (ret := none) (by decide) rfl (Nat.le_of_ble_eq_true rfl) ?_
  intro p e s m args below meth c hx hb hr hml hts hown hlk hnm hK hP hD hS hA ls hl
  have hl : lv_has ls 2 [(0, .ref h0), (1, .int x)] := hl
  have hw_f15 := hts (.fieldLink RX2 15 "WhatToRead$Row" "count" "I") (by decide +kernel)
  have hi_X2 : ∀ w ∈ wsX20, w ∈ wsX2_add := by decide +kernel
  have hw_f9 := hts (.fieldLink RX2 9 "WhatToRead$Row" "items" "[I") (by decide +kernel)
  refine lv_aload_n hx hb dX2_add_0 rfl (lv_at hl 0 rfl) ?_
  refine va_get (D := D) (ci := 3) (v := .int n) (C := RX2) (T := TX2) (N := 2) hx hb hts hi_X2 hown hK.1 hP 0 rfl rfl 1 (by decide) hw_f15 (fun _ h9 => h9) rfl dX2_add_1 ?_
  refine lv_if_lt (tgt := 39) hx hb dX2_add_4 (by decide) (fun c_4 => ?_) (fun c_4 => ?_)
  · skip
    have ew_0 : (n : Int32) = if ¬ n < 0 ∧ ¬ 12 ≤ n then n + 1 else n := by first | rfl | (rw [ex, e12]; done) | (rw [em, e12]; done) | (rw [ey, e12]; done) | (rw [e12]; done) | (simp [c_4]; done) | (simp_all []; done)
    have ew_1 : (f : Nat → Int32) = if ¬ n < 0 ∧ ¬ 12 ≤ n then upd f n.toNatClampNeg x else f := by first | rfl | (rw [ex, e12]; done) | (rw [em, e12]; done) | (rw [ey, e12]; done) | (rw [e12]; done) | (simp [c_4]; done) | (simp_all []; done)
    exact kRetV hx hb hr hlk dX2_add_39 hP hD hS (Nat.le_of_ble_eq_true rfl) (Nat.le_of_ble_eq_true rfl) ⟨rfl, (kw2 (fun (z_0 : Int32) (z_1 : Nat → Int32) => ([(h0, .inr (3, [.ref h1, .int z_0])), (h1, .inl (cI, 12, .inl z_1))] : va_W)) ew_0 ew_1)⟩
  · skip
    refine lv_aload_n hx hb dX2_add_7 rfl (lv_at hl 0 rfl) ?_
    refine va_get (D := D) (ci := 3) (v := .int n) (C := RX2) (T := TX2) (N := 2) hx hb hts hi_X2 hown hK.1 hP 0 rfl rfl 1 (by decide) hw_f15 (fun _ h9 => h9) rfl dX2_add_8 ?_
    refine lv_aload_n hx hb dX2_add_11 rfl (lv_at hl 0 rfl) ?_
    refine va_get (D := D) (ci := 3) (v := .ref h1) (C := RX2) (T := TX2) (N := 2) hx hb hts hi_X2 hown hK.1 hP 0 rfl rfl 0 (by decide) hw_f9 (fun _ h9 => h9) rfl dX2_add_12 ?_
    refine va_alen (v := 12) hx hb hK.1 hP 1 0 rfl rfl rfl dX2_add_15 ?_
    refine lv_icmp_ge (tgt := 39) hx hb dX2_add_16 (by decide) (fun c_16 => ?_) (fun c_16 => ?_)
    · skip
      have ew_0 : (n : Int32) = if ¬ n < 0 ∧ ¬ 12 ≤ n then n + 1 else n := by first | rfl | (rw [ex, e12]; done) | (rw [em, e12]; done) | (rw [ey, e12]; done) | (rw [e12]; done) | (simp [c_4, c_16]; done) | (simp_all []; done)
      have ew_1 : (f : Nat → Int32) = if ¬ n < 0 ∧ ¬ 12 ≤ n then upd f n.toNatClampNeg x else f := by first | rfl | (rw [ex, e12]; done) | (rw [em, e12]; done) | (rw [ey, e12]; done) | (rw [e12]; done) | (simp [c_4, c_16]; done) | (simp_all []; done)
      exact kRetV hx hb hr hlk dX2_add_39 hP hD hS (Nat.le_of_ble_eq_true rfl) (Nat.le_of_ble_eq_true rfl) ⟨rfl, (kw2 (fun (z_0 : Int32) (z_1 : Nat → Int32) => ([(h0, .inr (3, [.ref h1, .int z_0])), (h1, .inl (cI, 12, .inl z_1))] : va_W)) ew_0 ew_1)⟩
    · skip
      refine lv_aload_n hx hb dX2_add_19 rfl (lv_at hl 0 rfl) ?_
      refine va_get (D := D) (ci := 3) (v := .ref h1) (C := RX2) (T := TX2) (N := 2) hx hb hts hi_X2 hown hK.1 hP 0 rfl rfl 0 (by decide) hw_f9 (fun _ h9 => h9) rfl dX2_add_20 ?_
      refine lv_aload_n hx hb dX2_add_23 rfl (lv_at hl 0 rfl) ?_
      refine va_get (D := D) (ci := 3) (v := .int n) (C := RX2) (T := TX2) (N := 2) hx hb hts hi_X2 hown hK.1 hP 0 rfl rfl 1 (by decide) hw_f15 (fun _ h9 => h9) rfl dX2_add_24 ?_
      refine lv_iload_n hx hb dX2_add_27 rfl (lv_at hl 1 rfl) ?_
      refine va_iast hx hb hK.1 hP hD hS 1 0 rfl rfl (kin 12 rfl (by decide) c_4 c_16) dX2_add_28 (fun H locs hP hD hS => ?_)
      have hP : va_P D vwCl [(h0, .inr (3, [.ref h1, .int n])), (h1, .inl (cI, 12, .inl (upd f (n).toNatClampNeg x)))] H := hP
      have hD : va_D _ [(h0, .inr (3, [.ref h1, .int n])), (h1, .inl (cI, 12, .inl (upd f (n).toNatClampNeg x)))] := hD
      refine lv_aload_n hx hb dX2_add_29 rfl (lv_at hl 0 rfl) ?_
      refine lv_dup hx hb dX2_add_30 rfl ?_
      refine va_get (D := D) (ci := 3) (v := .int n) (C := RX2) (T := TX2) (N := 2) hx hb hts hi_X2 hown hK.1 hP 0 rfl rfl 1 (by decide) hw_f15 (fun _ h9 => h9) rfl dX2_add_31 ?_
      refine lv_iconst (v := 1) hx hb dX2_add_34 (by decide) ?_
      refine lv_iadd hx hb dX2_add_35 ?_
      refine va_put (D := D) (ci := 3) (v := .int (n + 1)) (ty := .int) (C := RX2) (T := TX2) (N := 2) hx hb hts hi_X2 tyX2 tyX2_ok nmX2 hown hK.1 hP hD hS 0 rfl rfl 1 (by decide) hw_f15 (fun _ h9 => h9) rfl (by decide +kernel) rfl rfl (Nat.le_of_ble_eq_true rfl) dX2_add_36 (fun H locs hP hD hS => ?_)
      have hP : va_P D vwCl [(h0, .inr (3, [.ref h1, .int (n + 1)])), (h1, .inl (cI, 12, .inl (upd f (n).toNatClampNeg x)))] H := hP
      have hD : va_D _ [(h0, .inr (3, [.ref h1, .int (n + 1)])), (h1, .inl (cI, 12, .inl (upd f (n).toNatClampNeg x)))] := hD
      have ew_0 : (n + 1 : Int32) = if ¬ n < 0 ∧ ¬ 12 ≤ n then n + 1 else n := by first | rfl | (rw [ex, e12]; done) | (rw [em, e12]; done) | (rw [ey, e12]; done) | (rw [e12]; done) | (simp [c_4, c_16]; done) | (simp_all []; done)
      have ew_1 : (upd f (n).toNatClampNeg x : Nat → Int32) = if ¬ n < 0 ∧ ¬ 12 ≤ n then upd f n.toNatClampNeg x else f := by first | rfl | (rw [ex, e12]; done) | (rw [em, e12]; done) | (rw [ey, e12]; done) | (rw [e12]; done) | (simp [c_4, c_16]; done) | (simp_all []; done)
      exact kRetV hx hb hr hlk dX2_add_39 hP hD hS (Nat.le_of_ble_eq_true rfl) (Nat.le_of_ble_eq_true rfl) ⟨rfl, (kw2 (fun (z_0 : Int32) (z_1 : Nat → Int32) => ([(h0, .inr (3, [.ref h1, .int z_0])), (h1, .inl (cI, 12, .inl z_1))] : va_W)) ew_0 ew_1)⟩

set_option maxHeartbeats 4000000 in
set_option maxRecDepth 100000 in
theorem c_X2_add_b (l : Launch) (D : va_G) (cI cJ cZ cO : ClassId) (h0 : Nat) (h1 : Nat) (k : Nat) (f : Nat → Int32) (x : Int32) (hk : k < 12) : kC l D (kTY cI cJ cZ cO) yX2_add wsX2_add 0 0 0 0 [.ref h0, .int x] [(h0, .inr (3, [.ref h1, .int (nI k)])), (h1, .inl (cI, 12, .inl f))] (fun rv_ rw_ => rv_ = none ∧ rw_ = [(h0, .inr (3, [.ref h1, .int (nI (k + 1))])), (h1, .inl (cI, 12, .inl (upd f k x)))]) := by
  refine kEnter (cc := cX2_add) (maxL := 2) (ret := none) (by decide) rfl (Nat.le_of_ble_eq_true rfl) ?_
  intro p e s m args below meth c hx hb hr hml hts hown hlk hnm hK hP hD hS hA ls hl
  have hl : lv_has ls 2 [(0, .ref h0), (1, .int x)] := hl
  have hw_f15 := hts (.fieldLink RX2 15 "WhatToRead$Row" "count" "I") (by decide +kernel)
  have hi_X2 : ∀ w ∈ wsX20, w ∈ wsX2_add := by decide +kernel
  have hw_f9 := hts (.fieldLink RX2 9 "WhatToRead$Row" "items" "[I") (by decide +kernel)
  refine lv_aload_n hx hb dX2_add_0 rfl (lv_at hl 0 rfl) ?_
  refine va_get (D := D) (ci := 3) (v := .int (nI k)) (C := RX2) (T := TX2) (N := 2) hx hb hts hi_X2 hown hK.1 hP 0 rfl rfl 1 (by decide) hw_f15 (fun _ h9 => h9) rfl dX2_add_1 ?_
  refine lv_if_lt (tgt := 39) hx hb dX2_add_4 (by decide) (fun c_4 => ?_) (fun c_4 => ?_)
  · exact absurd c_4 (nI_pos (by omega))
  · skip
    refine lv_aload_n hx hb dX2_add_7 rfl (lv_at hl 0 rfl) ?_
    refine va_get (D := D) (ci := 3) (v := .int (nI k)) (C := RX2) (T := TX2) (N := 2) hx hb hts hi_X2 hown hK.1 hP 0 rfl rfl 1 (by decide) hw_f15 (fun _ h9 => h9) rfl dX2_add_8 ?_
    refine lv_aload_n hx hb dX2_add_11 rfl (lv_at hl 0 rfl) ?_
    refine va_get (D := D) (ci := 3) (v := .ref h1) (C := RX2) (T := TX2) (N := 2) hx hb hts hi_X2 hown hK.1 hP 0 rfl rfl 0 (by decide) hw_f9 (fun _ h9 => h9) rfl dX2_add_12 ?_
    refine va_alen (v := 12) hx hb hK.1 hP 1 0 rfl rfl rfl dX2_add_15 ?_
    refine lv_icmp_ge (tgt := 39) hx hb dX2_add_16 (by decide) (fun c_16 => ?_) (fun c_16 => ?_)
    · exact absurd c_16 ((not_congr (nI_leI (a := 12) (b := k) (by omega) (by omega))).mpr (by omega))
    · skip
      refine lv_aload_n hx hb dX2_add_19 rfl (lv_at hl 0 rfl) ?_
      refine va_get (D := D) (ci := 3) (v := .ref h1) (C := RX2) (T := TX2) (N := 2) hx hb hts hi_X2 hown hK.1 hP 0 rfl rfl 0 (by decide) hw_f9 (fun _ h9 => h9) rfl dX2_add_20 ?_
      refine lv_aload_n hx hb dX2_add_23 rfl (lv_at hl 0 rfl) ?_
      refine va_get (D := D) (ci := 3) (v := .int (nI k)) (C := RX2) (T := TX2) (N := 2) hx hb hts hi_X2 hown hK.1 hP 0 rfl rfl 1 (by decide) hw_f15 (fun _ h9 => h9) rfl dX2_add_24 ?_
      refine lv_iload_n hx hb dX2_add_27 rfl (lv_at hl 1 rfl) ?_
      refine va_iast hx hb hK.1 hP hD hS 1 0 rfl rfl (vp_in_nI (by omega) (by omega)) dX2_add_28 (fun H locs hP hD hS => ?_)
      rw [nI_clamp (by omega)] at hP hD
      have hP : va_P D vwCl [(h0, .inr (3, [.ref h1, .int (nI k)])), (h1, .inl (cI, 12, .inl (upd f k x)))] H := hP
      have hD : va_D _ [(h0, .inr (3, [.ref h1, .int (nI k)])), (h1, .inl (cI, 12, .inl (upd f k x)))] := hD
      refine lv_aload_n hx hb dX2_add_29 rfl (lv_at hl 0 rfl) ?_
      refine lv_dup hx hb dX2_add_30 rfl ?_
      refine va_get (D := D) (ci := 3) (v := .int (nI k)) (C := RX2) (T := TX2) (N := 2) hx hb hts hi_X2 hown hK.1 hP 0 rfl rfl 1 (by decide) hw_f15 (fun _ h9 => h9) rfl dX2_add_31 ?_
      refine lv_iconst (v := 1) hx hb dX2_add_34 (by decide) ?_
      refine lv_iadd hx hb dX2_add_35 ?_
      refine lv_topi (fun nv_1 ev_1 => ?_)
      obtain rfl : nv_1 = nI (k + 1) := ev_1.trans (nI_1 k)
      refine va_put (D := D) (ci := 3) (v := .int (nI (k + 1))) (ty := .int) (C := RX2) (T := TX2) (N := 2) hx hb hts hi_X2 tyX2 tyX2_ok nmX2 hown hK.1 hP hD hS 0 rfl rfl 1 (by decide) hw_f15 (fun _ h9 => h9) rfl (by decide +kernel) rfl rfl (Nat.le_of_ble_eq_true rfl) dX2_add_36 (fun H locs hP hD hS => ?_)
      have hP : va_P D vwCl [(h0, .inr (3, [.ref h1, .int (nI (k + 1))])), (h1, .inl (cI, 12, .inl (upd f k x)))] H := hP
      have hD : va_D _ [(h0, .inr (3, [.ref h1, .int (nI (k + 1))])), (h1, .inl (cI, 12, .inl (upd f k x)))] := hD
      exact kRetV hx hb hr hlk dX2_add_39 hP hD hS (Nat.le_of_ble_eq_true rfl) (Nat.le_of_ble_eq_true rfl) ⟨rfl, rfl⟩

set_option maxHeartbeats 4000000 in
set_option maxRecDepth 100000 in
theorem c_X2_become (l : Launch) (D : va_G) (cI cJ cZ cO : ClassId) (h0 : Nat) (h1 : Nat) (n : Int32) (f : Nat → Int32) (g0 : Nat) (g1 : Nat) (k : Nat) (g : Nat → Int32) (hk : k ≤ 12) : kC l D (kTY cI cJ cZ cO) yX2_become wsX2_become 1 21 0 0 [.ref h0, .ref g0] [(h0, .inr (3, [.ref h1, .int n])), (h1, .inl (cI, 12, .inl f)), (g0, .inr (3, [.ref g1, .int (nI k)])), (g1, .inl (cI, 12, .inl g))] (fun rv_ rw_ => rv_ = none ∧ rw_ = [(h0, .inr (3, [.ref h1, .int (nI k)])), (h1, .inl (cI, 12, .inl (becF f g k))), (g0, .inr (3, [.ref g1, .int (nI k)])), (g1, .inl (cI, 12, .inl g))]) := by
  refine kEnter (cc := cX2_become) (maxL := 3) (ret := none) (by decide) rfl (Nat.le_of_ble_eq_true rfl) ?_
  intro p e s m args below meth c hx hb hr hml hts hown hlk hnm hK hP hD hS hA ls hl
  have hl : lv_has ls 3 [(0, .ref h0), (1, .ref g0)] := hl
  refine lv_aload_n hx hb dX2_become_0 rfl (lv_at hl 0 rfl) ?_
  refine kGo (wc := [(h0, .inr (3, [.ref h1, .int n])), (h1, .inl (cI, 12, .inl f))]) (wr := [(g0, .inr (3, [.ref g1, .int (nI k)])), (g1, .inl (cI, 12, .inl g))]) (va_runV (As := []) (rest := []) ⟨hx, hb, hml, hown, hts⟩ (c_X2_clear l D cI cJ cZ cO h0 h1 n f  _) (cwV 0 hts gX2_become_X2_clear rfl rfl rfl (by decide +kernel) ⟨Nat.le_of_ble_eq_true rfl, Nat.le_of_ble_eq_true rfl⟩) (kPreV (ci := 3) (q0 := 0) hK (kPc_sub hP [0, 1] rfl) ((hD.sub [0, 1] (by decide) rfl).weaken (fun _ _ _ _ => trivial)) rfl rfl rfl) rfl rfl hl.1 rfl (lv_room (Nat.le_of_ble_eq_true rfl)) dX2_become_1 ⟨Nat.le_of_ble_eq_true rfl, Nat.le_of_ble_eq_true rfl⟩) hP hD hS hA [0, 1] [2, 3] rfl rfl (by decide) (by decide) (fun v_1 w_1 H locs hv_1 hP hD hS => ?_)
  obtain ⟨rfl, rfl⟩ := hv_1
  have hP : va_P D vwCl [(h0, .inr (3, [.ref h1, .int 0])), (h1, .inl (cI, 12, .inl f)), (g0, .inr (3, [.ref g1, .int (nI k)])), (g1, .inl (cI, 12, .inl g))] H := hP.sub [2, 3, 0, 1] rfl
  have hD : va_D _ [(h0, .inr (3, [.ref h1, .int 0])), (h1, .inl (cI, 12, .inl f)), (g0, .inr (3, [.ref g1, .int (nI k)])), (g1, .inl (cI, 12, .inl g))] := hD.sub [2, 3, 0, 1] (by decide) rfl
  refine W.eq (g2 := F0 m 4 ls []) rfl ?_
  refine lv_iconst (v := 0) hx hb dX2_become_4 (by decide) ?_
  refine lv_istore_n (lv' := [(2, .int 0), (0, .ref h0), (1, .ref g0)]) hx hb dX2_become_5 rfl hl (by decide) rfl (fun ls hl => ?_)
  have hloop_6 : ∀ (fu : Nat) (i : Nat) (x : Nat → Int32), k - i < fu → i ≤ k → x = becF f g i → ∀ (H : Heap) (locs : List Loc), va_P D vwCl [(h0, .inr (3, [.ref h1, .int (nI i)])), (h1, .inl (cI, 12, .inl x)), (g0, .inr (3, [.ref g1, .int (nI k)])), (g1, .inl (cI, 12, .inl g))] H → va_D (va_A [(h0, .inr (3, [.ref h1, .int n])), (h1, .inl (cI, 12, .inl f)), (g0, .inr (3, [.ref g1, .int (nI k)])), (g1, .inl (cI, 12, .inl g))] s.heap.size) [(h0, .inr (3, [.ref h1, .int (nI i)])), (h1, .inl (cI, 12, .inl x)), (g0, .inr (3, [.ref g1, .int (nI k)])), (g1, .inl (cI, 12, .inl g))] → va_S (va_A [(h0, .inr (3, [.ref h1, .int n])), (h1, .inl (cI, 12, .inl f)), (g0, .inr (3, [.ref g1, .int (nI k)])), (g1, .inl (cI, 12, .inl g))] s.heap.size) s.heap H locs → ∀ ls : Array Slot, lv_has ls 3 [(0, .ref h0), (1, .ref g0), (2, .int (nI i))] → W p l e ({ frames := 1, cells := 0, slots := 0, locals := 21 }) s m args below meth c H locs 0 0 (MQ below (kQ D [(h0, .inr (3, [.ref h1, .int n])), (h1, .inl (cI, 12, .inl f)), (g0, .inr (3, [.ref g1, .int (nI k)])), (g1, .inl (cI, 12, .inl g))] s.heap.size (fun rv_ rw_ => rv_ = none ∧ rw_ = [(h0, .inr (3, [.ref h1, .int (nI k)])), (h1, .inl (cI, 12, .inl (becF f g k))), (g0, .inr (3, [.ref g1, .int (nI k)])), (g1, .inl (cI, 12, .inl g))])) args s 0 0 (va_A [(h0, .inr (3, [.ref h1, .int n])), (h1, .inl (cI, 12, .inl f)), (g0, .inr (3, [.ref g1, .int (nI k)])), (g1, .inl (cI, 12, .inl g))] s.heap.size)) (F0 m 6 ls []) := by
    intro fu
    induction fu with
    | zero => intro i x hmu; exact absurd hmu (Nat.not_lt_zero _)
    | succ fu ih_6 =>
      intro i x hmu_6 hi ex H locs hP hD hS ls hl
      refine lv_iload_n hx hb dX2_become_6 rfl (lv_at hl 2 rfl) ?_
      refine lv_aload_n hx hb dX2_become_7 rfl (lv_at hl 1 rfl) ?_
      refine kGoR (va_runV (As := []) (rest := [.int (nI i)]) ⟨hx, hb, hml, hown, hts⟩ (c_X2_size l D cI cJ cZ cO g0 g1 (nI k) g ) (cwV 0 hts gX2_become_X2_size rfl rfl rfl (by decide +kernel) ⟨Nat.le_of_ble_eq_true rfl, Nat.le_of_ble_eq_true rfl⟩) (kPreVR (ci := 3) (q0 := 0) hK (kPc_sub hP [2, 3] rfl) rfl rfl rfl) rfl rfl hl.1 rfl (lv_room (Nat.le_of_ble_eq_true rfl)) dX2_become_8 ⟨Nat.le_of_ble_eq_true rfl, Nat.le_of_ble_eq_true rfl⟩) (fun v_2 hv_2 => ?_)
      obtain rfl := hv_2
      refine W.eq (g2 := F0 m 11 ls [.int (nI k), .int (nI i)]) rfl ?_
      refine lv_icmp_ge (tgt := 29) hx hb dX2_become_11 (by decide) (fun c_11 => ?_) (fun c_11 => ?_)
      · skip
        have nc_11 : k ≤ i := (nI_leI (a := k) (b := i) (by omega) (by omega)).mp c_11
        have e12 : i = k := by omega
        have ew_0 : (nI i : Int32) = nI k := by first | rfl | (rw [ex, e12]; done) | (rw [em, e12]; done) | (rw [ey, e12]; done) | (rw [e12]; done) | (simp [hi, ex, c_11]; done) | (simp_all []; done)
        have ew_1 : (x : Nat → Int32) = becF f g k := by first | rfl | (rw [ex, e12]; done) | (rw [em, e12]; done) | (rw [ey, e12]; done) | (rw [e12]; done) | (simp [hi, ex, c_11]; done) | (simp_all []; done)
        exact kRetV hx hb hr hlk dX2_become_29 hP hD hS (Nat.le_of_ble_eq_true rfl) (Nat.le_of_ble_eq_true rfl) ⟨rfl, (kw2 (fun (z_0 : Int32) (z_1 : Nat → Int32) => ([(h0, .inr (3, [.ref h1, .int z_0])), (h1, .inl (cI, 12, .inl z_1)), (g0, .inr (3, [.ref g1, .int (nI k)])), (g1, .inl (cI, 12, .inl g))] : va_W)) ew_0 ew_1)⟩
      · skip
        have nc_11 : ¬ k ≤ i := (not_congr (nI_leI (a := k) (b := i) (by omega) (by omega))).mp c_11
        refine lv_aload_n hx hb dX2_become_14 rfl (lv_at hl 0 rfl) ?_
        refine lv_aload_n hx hb dX2_become_15 rfl (lv_at hl 1 rfl) ?_
        refine lv_iload_n hx hb dX2_become_16 rfl (lv_at hl 2 rfl) ?_
        refine kGoR (va_runV (As := [.int (nI i)]) (rest := [.ref h0]) ⟨hx, hb, hml, hown, hts⟩ (c_X2_at l D cI cJ cZ cO g0 g1 (nI k) g (nI i) ) (cwV 1 hts gX2_become_X2_at rfl rfl rfl (by decide +kernel) ⟨Nat.le_of_ble_eq_true rfl, Nat.le_of_ble_eq_true rfl⟩) (kPreVR (ci := 3) (q0 := 0) hK (kPc_sub hP [2, 3] rfl) rfl rfl rfl) rfl rfl hl.1 rfl (lv_room (Nat.le_of_ble_eq_true rfl)) dX2_become_17 ⟨Nat.le_of_ble_eq_true rfl, Nat.le_of_ble_eq_true rfl⟩) (fun v_3 hv_3 => ?_)
        obtain rfl := hv_3
        refine W.eq (g2 := F0 m 20 ls [.int (rowAt g (nI k) (nI i)), .ref h0]) rfl ?_
        refine lv_topi (fun nv_4 ev_4 => ?_)
        obtain rfl : nv_4 = g i := ev_4.trans (rowAt_nI (by omega) (by omega))
        refine kGo (wc := [(h0, .inr (3, [.ref h1, .int (nI i)])), (h1, .inl (cI, 12, .inl x))]) (wr := [(g0, .inr (3, [.ref g1, .int (nI k)])), (g1, .inl (cI, 12, .inl g))]) (va_runV (As := [.int (g i)]) (rest := []) ⟨hx, hb, hml, hown, hts⟩ (c_X2_add_b l D cI cJ cZ cO h0 h1 i x (g i) (by first | assumption | omega | decide) _) (cwV 1 hts gX2_become_X2_add rfl rfl rfl (by decide +kernel) ⟨Nat.le_of_ble_eq_true rfl, Nat.le_of_ble_eq_true rfl⟩) (kPreV (ci := 3) (q0 := 0) hK (kPc_sub hP [0, 1] rfl) ((hD.sub [0, 1] (by decide) rfl).weaken (fun _ _ _ _ => trivial)) rfl rfl rfl) rfl rfl hl.1 rfl (lv_room (Nat.le_of_ble_eq_true rfl)) dX2_become_20 ⟨Nat.le_of_ble_eq_true rfl, Nat.le_of_ble_eq_true rfl⟩) hP hD hS hA [0, 1] [2, 3] rfl rfl (by decide) (by decide) (fun v_5 w_5 H locs hv_5 hP hD hS => ?_)
        obtain ⟨rfl, rfl⟩ := hv_5
        have hP : va_P D vwCl [(h0, .inr (3, [.ref h1, .int (nI (i + 1))])), (h1, .inl (cI, 12, .inl (upd x i (g i)))), (g0, .inr (3, [.ref g1, .int (nI k)])), (g1, .inl (cI, 12, .inl g))] H := hP.sub [2, 3, 0, 1] rfl
        have hD : va_D _ [(h0, .inr (3, [.ref h1, .int (nI (i + 1))])), (h1, .inl (cI, 12, .inl (upd x i (g i)))), (g0, .inr (3, [.ref g1, .int (nI k)])), (g1, .inl (cI, 12, .inl g))] := hD.sub [2, 3, 0, 1] (by decide) rfl
        refine W.eq (g2 := F0 m 23 ls []) rfl ?_
        refine lv_iinc (v := nI (i + 1)) (lv' := [(2, .int (nI (i + 1))), (0, .ref h0), (1, .ref g0)]) hx hb dX2_become_23 hl (k := 2) rfl (nI_1 _) (by decide) rfl (fun ls hl => ?_)
        refine lv_goto (tgt := 6) hx hb dX2_become_26 (by decide) ?_
        exact ih_6  (i + 1) (upd x i (g i)) (by omega) (by first | omega | assumption) (by rw [ex]; rfl) _ _ hP hD hS _ (lv_sub hl [1, 2, 0] rfl)
  exact hloop_6 ((k - 0) + 1) 0 f (Nat.lt_succ_self _) (by first | omega | assumption) (by rfl) _ _ hP hD hS _ (lv_sub hl [1, 2, 0] rfl)

set_option maxHeartbeats 4000000 in
set_option maxRecDepth 100000 in
theorem c_X7_isWithin (l : Launch) (D : va_G) (cI cJ cZ cO : ClassId) (v : Int32) (a : Int32) (b : Int32) : kR l D (kTY cI cJ cZ cO) yX7_isWithin wsX7_isWithin 0 0 [.int v, .int a, .int b] [] (fun rv_ => rv_ = some (.int (k01 (withinB v a b)))) := by
  refine kEnterR (cc := cX7_isWithin) (maxL := 3) (ret := (some .boolean)) (by decide) rfl (Nat.le_of_ble_eq_true rfl) ?_
  intro p e s m args below meth c hx hb hr hml hts hown hlk hK hP ls hl
  have hl : lv_has ls 3 [(0, .int v), (1, .int a), (2, .int b)] := hl
  refine lv_iload_n hx hb dX7_isWithin_0 rfl (lv_at hl 0 rfl) ?_
  refine lv_iload_n hx hb dX7_isWithin_1 rfl (lv_at hl 1 rfl) ?_
  refine lv_icmp_lt (tgt := 14) hx hb dX7_isWithin_2 (by decide) (fun c_2 => ?_) (fun c_2 => ?_)
  · skip
    refine lv_iconst (v := 0) hx hb dX7_isWithin_14 (by decide) ?_
    exact kRetZr (withinB v a b) (by first | rfl | (rw [ex, e12]; done) | (rw [em, e12]; done) | (rw [ey, e12]; done) | (rw [e12]; done) | (simp [withinB, k01, c_2]; done) | (simp_all [withinB, k01]; done)) hx hb hr hlk dX7_isWithin_15 rfl
  · skip
    refine lv_iload_n hx hb dX7_isWithin_5 rfl (lv_at hl 0 rfl) ?_
    refine lv_iload_n hx hb dX7_isWithin_6 rfl (lv_at hl 2 rfl) ?_
    refine lv_icmp_gt (tgt := 14) hx hb dX7_isWithin_7 (by decide) (fun c_7 => ?_) (fun c_7 => ?_)
    · skip
      refine lv_iconst (v := 0) hx hb dX7_isWithin_14 (by decide) ?_
      exact kRetZr (withinB v a b) (by first | rfl | (rw [ex, e12]; done) | (rw [em, e12]; done) | (rw [ey, e12]; done) | (rw [e12]; done) | (simp [withinB, k01, c_2, c_7]; done) | (simp_all [withinB, k01]; done)) hx hb hr hlk dX7_isWithin_15 rfl
    · skip
      refine lv_iconst (v := 1) hx hb dX7_isWithin_10 (by decide) ?_
      refine lv_goto (tgt := 15) hx hb dX7_isWithin_11 (by decide) ?_
      exact kRetZr (withinB v a b) (by first | rfl | (rw [ex, e12]; done) | (rw [em, e12]; done) | (rw [ey, e12]; done) | (rw [e12]; done) | (simp [withinB, k01, c_2, c_7]; done) | (simp_all [withinB, k01]; done)) hx hb hr hlk dX7_isWithin_15 rfl

set_option maxHeartbeats 4000000 in
set_option maxRecDepth 100000 in
theorem c_X7_isSkimmed (l : Launch) (D : va_G) (cI cJ cZ cO : ClassId) (v : Int32) : kR l D (kTY cI cJ cZ cO) yX7_isSkimmed wsX7_isSkimmed 0 0 [.int v] [] (fun rv_ => rv_ = some (.int (k01 (decide (v &&& 1 = 1))))) := by
  refine kEnterR (cc := cX7_isSkimmed) (maxL := 1) (ret := (some .boolean)) (by decide) rfl (Nat.le_of_ble_eq_true rfl) ?_
  intro p e s m args below meth c hx hb hr hml hts hown hlk hK hP ls hl
  have hl : lv_has ls 1 [(0, .int v)] := hl
  refine lv_iload_n hx hb dX7_isSkimmed_0 rfl (lv_at hl 0 rfl) ?_
  refine lv_iconst (v := 1) hx hb dX7_isSkimmed_1 (by decide) ?_
  refine lv_iand hx hb dX7_isSkimmed_2 ?_
  refine lv_iconst (v := 1) hx hb dX7_isSkimmed_3 (by decide) ?_
  refine lv_icmp_ne (tgt := 11) hx hb dX7_isSkimmed_4 (by decide) (fun c_4 => ?_) (fun c_4 => ?_)
  · skip
    refine lv_iconst (v := 0) hx hb dX7_isSkimmed_11 (by decide) ?_
    exact kRetZr (decide (v &&& 1 = 1)) (by first | rfl | (rw [ex, e12]; done) | (rw [em, e12]; done) | (rw [ey, e12]; done) | (rw [e12]; done) | (simp [k01, c_4]; done) | (simp_all [k01]; done)) hx hb hr hlk dX7_isSkimmed_12 rfl
  · skip
    refine lv_iconst (v := 1) hx hb dX7_isSkimmed_7 (by decide) ?_
    refine lv_goto (tgt := 12) hx hb dX7_isSkimmed_8 (by decide) ?_
    exact kRetZr (decide (v &&& 1 = 1)) (by first | rfl | (rw [ex, e12]; done) | (rw [em, e12]; done) | (rw [ey, e12]; done) | (rw [e12]; done) | (simp [k01, c_4]; done) | (simp_all [k01]; done)) hx hb hr hlk dX7_isSkimmed_12 rfl
end
