/-! ===== the class: state, which throws ===== -/
def kYB : List Cond := (vx_atS RX7 183 "java/util/NoSuchElementException" ["java/lang/RuntimeException", "java/lang/Exception"]).filter (fun w => !goodWord w)
def kFa (w : Cond) : Bool := match w with
  | .castable _ _ => true
  | .declares _ => true
  | _ => false
theorem kFa_warm {w : Cond} (h : kFa w = true) {s U : State} (hW : s.WarmedH U.vm) (hZ : va_Nw w s) : va_Nw w U := by
  unfold kFa at h
  split at h
  · exact va_Nw.warmC hW hZ
  · exact va_Nw.warmD hW hZ
  · cases h
theorem kFa_tab {w : Cond} (h : kFa w = true) : w.onTables = true := by
  unfold kFa at h
  split at h
  · rfl
  · rfl
  · cases h
theorem kYB_fa : ∀ w ∈ kYB, kFa w = true := by decide +kernel
def kY (sa : Nat) (A : Nat → Prop) (U : State) (H : Heap) : Prop := vk_R RX7 181 "no such state" sa U ∧ (∀ w ∈ kYB, va_Nw w U) ∧ vx_Zq Bundle.tN "UNASSIGNED_STACK" Bundle.steD A U H ∧ vx_Zq Bundle.tN "SUPPRESSED_SENTINEL" Bundle.listD A U H
theorem kY.use {sa : Nat} {A B : Nat → Prop} {s U : State} {H : Heap} {locs : List Loc} (h : kY sa A s s.heap) (hS : va_S A s.heap H locs) (hF : ∀ q, B q → A q) (hW : s.WarmedH U.vm) (hU : U.heap = H) : kY sa B U U.heap := by
  rw [hU]
  exact ⟨h.1.warm hW, fun w hw => kFa_warm (kYB_fa w hw) hW (h.2.1 w hw), ((h.2.2.1.kept hS.2.1).narrow hF).moved hW.alike, ((h.2.2.2.kept hS.2.1).narrow hF).moved hW.alike⟩
theorem kY.same {sa : Nat} {A : Nat → Prop} {u U : State} (hv : u.vm = U.vm) (hh : u.heap = U.heap) (h : kY sa A u u.heap) : kY sa A U U.heap := by
  have ha : u.vm.Alike U.vm := by rw [hv]; exact Vm.Alike.refl U.vm
  rw [← hh]
  exact ⟨vk_R.same hv.symm h.1, fun w hw => va_Nw.same (kFa_tab (kYB_fa w hw)) hv (h.2.1 w hw), h.2.2.1.moved ha, h.2.2.2.moved ha⟩
def kPt (D : va_G) (TY : List (ClassId × FieldType)) (sa : Nat) (w : va_W) : State → Prop := fun U => kPr D TY w U ∧ kY sa (fun _ => False) U U.heap
theorem kBlindT {D : va_G} {TY : List (ClassId × FieldType)} {sa : Nat} {av : List Value} {w : va_W} : FrameBlind (va_Pc av (kPt D TY sa w)) := fun a U g mk h => by
  obtain ⟨h1, ⟨h3, h4⟩, h6⟩ := h
  exact ⟨h1, ⟨h3, kK.same (u := U) (U := U.calling g mk a) rfl h4⟩, kY.same (u := U) (U := U.calling g mk a) rfl rfl h6⟩
/-- what a call of state leaves when it throws -/
def kXC (P : Prop) : String → State → State → Prop := fun E st t => E = "java/util/NoSuchElementException" ∧ P ∧ st.heap.size ≤ t.heap.size ∧ ∀ q : Nat, q < st.heap.size → t.heap[q]? = st.heap[q]?
theorem c_X7_state (l : Launch) (hlf : l.stackTraces = false) (D : va_G) (cI cJ cZ cO : ClassId) (sa : Nat) (o t0 h0 w0 r0 k0 s0 : Nat) (kn : Int32) (s1 s2 ns : Nat) (an : Int32) (sf sg : Nat → Int32) (x : Int32) :
    vx_Met l yX7_state wsX7_state ({ frames := 6, cells := 1, slots := 6, locals := 82 }) (va_Pc [.ref o, .int x] (kPt D (kTY cI cJ cZ cO) sa [(o, .inr (8, [.ref t0, .ref h0, .ref w0, .ref r0, .ref k0, .ref s0, .int kn])), (s0, .inr (1, [.ref s1, .ref s2, .int (nI ns), .int an])), (s1, .inl (cI, 4096, .inl sf)), (s2, .inl (cI, 64, .inl sg))]))
      (kQr (fun rv_ => rv_ = some (.int (setAt sf (nI ns) x)) ∧ ¬ setAt sf (nI ns) x = -1)) (kXC (setAt sf (nI ns) x = -1)) 1 6 (fun _ => False) := by
  refine vx_ofW (cc := cX7_state) (maxL := 3) (ret := (some .int)) (by decide) rfl ?_
  intro p e s m args below meth c s₁ B hml hexc hv
  obtain ⟨rfl, ⟨hP, hK⟩, hY⟩ := hv
  have hl := lv_entry [.ref o, .int x] (n := 3) (Nat.le_of_ble_eq_true rfl)
  rw [lg_entry_eq]
  generalize (entryFrame m ([.ref o, .int x] : List Value).toArray 3).locals = ls at hl ⊢
  sorry
