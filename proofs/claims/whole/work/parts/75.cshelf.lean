/-! ===== the class's list: remove; the shelf's add and removeLast ===== -/
section KGO5
variable {p : Program} {l : Launch} {e : Env} {R : Room} {s : State} {m : MethodId} {args : Array Value} {below : List Frame} {meth : Method} {c : Code} {H : Heap} {locs : List Loc} {cells slots mc ms : Nat} {Q : State → Prop} {pc : Nat} {ls : Array Slot} {D : va_G} {st0 rest : List Value} {a : Array Value} {A : Nat → Prop} {wr X cx pl : va_W}
theorem kGoP5 {post : Option Value → va_W → Prop} (hr : va_Run5 p l e R s m args below meth c H locs cells slots mc ms (F0 m pc ls st0) rest (kQ D (cx ++ pl) H.size post a) (va_A (cx ++ pl) H.size))
    (hP : va_P D vwCl (X ++ pl) H) (hD : va_D A (X ++ pl)) (hS : va_S A s.heap H locs) (hA : ∀ q, s.heap.size ≤ q → A q) (isC isR : List Nat) (hC : isC.map (fun i => X[i]?) = cx.map some) (hR : isR.map (fun i => X[i]?) = wr.map some) (hn : va_nd isR = true) (hdis : ∀ i ∈ isR, i ∉ isC)
    (kk : ∀ (v : Option Value) (w1 : va_W) (H1 : Heap) (locs1 : List Loc), post v w1 → (∀ rx pl1 : va_W, w1 = rx ++ pl1 → va_P D vwCl ((wr ++ rx) ++ pl1) H1 ∧ va_D A ((wr ++ rx) ++ pl1)) → va_S A s.heap H1 locs1 → W p l e R s m args below meth c H1 locs1 (cells + mc) (slots + ms) Q (F0 m (pc + 5) ls (v.toList ++ rest))) : W p l e R s m args below meth c H locs cells slots Q (F0 m pc ls st0) := by
  intro T hT X'
  obtain ⟨v, st₀, t, T', L, h0, X2, hL, e1, e2, ⟨⟨v2, w1, hv, hp, hP1, hD1⟩, hz, hk⟩, st⟩ := hr T hT X'
  cases hv
  rw [h0] at hz hk
  have hF := va_freeP hD hS hA isC hC
  have hk1 : ∀ q : Nat, q < H.size → ¬ va_A (cx ++ pl) H.size q → T'.heap[q]? = H[q]? := fun q h1 h2 => by rw [e1]; exact hk q h1 h2
  obtain ⟨t2, a1, b1⟩ := kk v w1 T'.heap (locs ++ L) hp (fun rx pl1 hw => by
    subst hw
    exact va_joinP hP hD isC isR hC hR hn hdis hk1 hF (by rw [e1]; exact hP1) hD1) (kS_call hS (by rw [e1]; exact hz) hk1 hF hL) T' rfl X2
  exact ⟨t2, st t2 a1, b1⟩
end KGO5
/-- a cell of its own into the pool -/
theorem kToPool {D : va_G} {A : Nat → Prop} {X : va_W} {LP : List Nat} {pf : Nat → va_E} {q : Nat} {x : va_E} {H : Heap} (hP : va_P D vwCl ((X ++ [(q, x)]) ++ va_pl LP pf) H) (hD : va_D A ((X ++ [(q, x)]) ++ va_pl LP pf)) :
    q ∉ LP ∧ va_P D vwCl (X ++ va_pl (LP ++ [q]) (va_up pf q x)) H ∧ va_D A (X ++ va_pl (LP ++ [q]) (va_up pf q x)) := by
  have hP1 : va_P D vwCl ((X ++ va_pl LP pf) ++ [(q, x)]) H := hP.by _ (fun k z hk => va_swapG (a := X) (b := [(q, x)]) (c := va_pl LP pf) k z hk)
  have hD1 : va_D A ((X ++ va_pl LP pf) ++ [(q, x)]) := hD.by _ (fun k z hk => va_swapG (a := X) (b := [(q, x)]) (c := va_pl LP pf) k z hk) (fun i j hi hj e => by
    simp only [List.length_append, List.length_cons, List.length_nil] at hi hj
    simp only [List.length_cons, List.length_nil] at e
    split at e <;> split at e <;> (try split at e) <;> (try split at e) <;> omega)
  have hq := kPush hD1
  rw [kPushW hq] at hP1 hD1
  exact ⟨hq, hP1, hD1⟩
theorem kFrN {D : va_G} {X pl nw : va_W} {H : Heap} (hP : va_P D vwCl ((X ++ pl) ++ nw) H) : va_P D vwCl ((X ++ nw) ++ pl) H := hP.by _ (fun k z hk => va_swapG (a := X) (b := pl) (c := nw) k z hk)
theorem kFrD {A : Nat → Prop} {X pl nw : va_W} (hD : va_D A ((X ++ pl) ++ nw)) : va_D A ((X ++ nw) ++ pl) := hD.by _ (fun k z hk => va_swapG (a := X) (b := pl) (c := nw) k z hk) (fun i j hi hj e => by
    simp only [List.length_append] at hi hj
    split at e <;> split at e <;> (try split at e) <;> (try split at e) <;> omega)
def pcB (T : Nat) (a b1 c1 d1 e1 : Int32) : Bool := haveB (nI T) a && haveB (nI T) b1 && haveB (nI T) c1 && decide (¬ c1 = 0) && decide (d1 &&& (c1 ^^^ (-1)) = 0) && withinB e1 1 400
theorem pcB_t {T : Nat} {a b1 c1 d1 e1 : Int32} (h : pcB T a b1 c1 d1 e1 = true) : haveB (nI T) a = true ∧ haveB (nI T) b1 = true ∧ haveB (nI T) c1 = true ∧ ¬ c1 = 0 ∧ d1 &&& (c1 ^^^ (-1)) = 0 ∧ withinB e1 1 400 = true := by
  unfold pcB at h
  simp only [Bool.and_eq_true, decide_eq_true_iff] at h
  exact ⟨h.1.1.1.1.1, h.1.1.1.1.2, h.1.1.1.2, h.1.1.2, h.1.2, h.2⟩

set_option maxHeartbeats 4000000 in
set_option maxRecDepth 100000 in
theorem c_Jx4a65c_fastRemove_b59b0 (l : Launch) (D : va_G) (cI cJ cZ cO : ClassId) (la : Nat) (mo : Int32) (ea : Nat) (al : Nat → Option Nat) (LP : List Nat) (pf : Nat → va_E) (cap : Nat) (k : Nat) (hm : ea ∈ LP) (hpf : pf ea = arE cO cap al) (hkc : k < cap) (hcap : cap < 4096) : kC l D (kTY cI cJ cZ cO) yJx4a65c_fastRemove_b59b0 wsJx4a65c_fastRemove_b59b0 0 0 0 0 [.ref la, .ref ea, .int (nI k)] ([(la, .inr (0, [.int mo, .ref ea, .int (nI (k + 1))]))] ++ va_pl LP pf) (fun rv_ rw_ => rv_ = none ∧ rw_ = ([(la, .inr (0, [.int (mo + 1), .ref ea, .int (nI k)]))] ++ va_pl LP (va_up pf ea (arE cO cap (va_up al k none))))) := by
  refine kEnter (cc := cJx4a65c_fastRemove_b59b0) (maxL := 4) (ret := none) (by decide) rfl (Nat.le_of_ble_eq_true rfl) ?_
  intro p e s m args below meth c hx hb hr hml hts hown hlk hnm hK hP hD hS hA ls hl
  have hl : lv_has ls 4 [(0, .ref la), (1, .ref ea), (2, .int (nI k))] := hl
  have hw_f63 := hts (.fieldLink RJx4a65c 63 "java/util/ArrayList" "modCount" "I") (by decide +kernel)
  have hw_s63 := hts (.sameField "java/util/ArrayList" "java/util/AbstractList" "modCount" "I") (by decide +kernel)
  have hi_Jx4a65c : ∀ w ∈ wsJx4a65c0, w ∈ wsJx4a65c_fastRemove_b59b0 := by decide +kernel
  have hw_f48 := hts (.fieldLink RJx4a65c 48 "java/util/ArrayList" "size" "I") (by decide +kernel)
  refine lv_aload_n hx hb dJx4a65c_fastRemove_b59b0_0 rfl (lv_at hl 0 rfl) ?_
  refine lv_dup hx hb dJx4a65c_fastRemove_b59b0_1 rfl ?_
  refine va_get (D := D) (ci := 0) (v := .int mo) (C := RJx4a65c) (T := TJx4a65c) (N := 3) hx hb hts hi_Jx4a65c hown hK.1 hP 0 rfl rfl 0 (by decide) hw_f63 (fun x h9 => u_same hw_s63 x h9) rfl dJx4a65c_fastRemove_b59b0_2 ?_
  refine lv_iconst (v := 1) hx hb dJx4a65c_fastRemove_b59b0_5 (by decide) ?_
  refine lv_iadd hx hb dJx4a65c_fastRemove_b59b0_6 ?_
  refine va_put (D := D) (ci := 0) (v := .int (mo + 1)) (ty := .int) (C := RJx4a65c) (T := TJx4a65c) (N := 3) hx hb hts hi_Jx4a65c tyJx4a65c tyJx4a65c_ok nmJx4a65c hown hK.1 hP hD hS 0 rfl rfl 0 (by decide) hw_f63 (fun x h9 => u_same hw_s63 x h9) rfl (by decide +kernel) rfl rfl (Nat.le_of_ble_eq_true rfl) dJx4a65c_fastRemove_b59b0_7 (fun H locs hP hD hS => ?_)
  have hP : va_P D vwCl ([(la, .inr (0, [.int (mo + 1), .ref ea, .int (nI (k + 1))]))] ++ va_pl LP pf) H := hP
  have hD : va_D _ ([(la, .inr (0, [.int (mo + 1), .ref ea, .int (nI (k + 1))]))] ++ va_pl LP pf) := hD
  refine lv_aload_n hx hb dJx4a65c_fastRemove_b59b0_10 rfl (lv_at hl 0 rfl) ?_
  refine va_get (D := D) (ci := 0) (v := .int (nI (k + 1))) (C := RJx4a65c) (T := TJx4a65c) (N := 3) hx hb hts hi_Jx4a65c hown hK.1 hP 0 rfl rfl 2 (by decide) hw_f48 (fun _ h9 => h9) rfl dJx4a65c_fastRemove_b59b0_11 ?_
  refine lv_iconst (v := 1) hx hb dJx4a65c_fastRemove_b59b0_14 (by decide) ?_
  refine lv_isub hx hb dJx4a65c_fastRemove_b59b0_15 ?_
  refine lv_topi (fun nv_1 ev_1 => ?_)
  obtain rfl : nv_1 = nI k := ev_1.trans (nI_pred k)
  refine lv_dup hx hb dJx4a65c_fastRemove_b59b0_16 rfl ?_
  refine lv_istore_n (lv' := [(3, .int (nI k)), (0, .ref la), (1, .ref ea), (2, .int (nI k))]) hx hb dJx4a65c_fastRemove_b59b0_17 rfl hl (by decide) rfl (fun ls hl => ?_)
  refine lv_iload_n hx hb dJx4a65c_fastRemove_b59b0_18 rfl (lv_at hl 3 rfl) ?_
  refine lv_icmp_le (tgt := 34) hx hb dJx4a65c_fastRemove_b59b0_19 (by decide) (fun c_19 => ?_) (fun c_19 => ?_)
  · skip
    refine lv_aload_n hx hb dJx4a65c_fastRemove_b59b0_34 rfl (lv_at hl 2 rfl) ?_
    refine lv_aload_n hx hb dJx4a65c_fastRemove_b59b0_35 rfl (lv_at hl 1 rfl) ?_
    refine lv_iload_n hx hb dJx4a65c_fastRemove_b59b0_36 rfl (lv_at hl 0 rfl) ?_
    refine lv_dup_x1 hx hb dJx4a65c_fastRemove_b59b0_37 rfl rfl ?_
    refine va_put (D := D) (ci := 0) (v := .int (nI k)) (ty := .int) (C := RJx4a65c) (T := TJx4a65c) (N := 3) hx hb hts hi_Jx4a65c tyJx4a65c tyJx4a65c_ok nmJx4a65c hown hK.1 hP hD hS 0 rfl rfl 2 (by decide) hw_f48 (fun _ h9 => h9) rfl (by decide +kernel) rfl rfl (Nat.le_of_ble_eq_true rfl) dJx4a65c_fastRemove_b59b0_38 (fun H locs hP hD hS => ?_)
    have hP : va_P D vwCl ([(la, .inr (0, [.int (mo + 1), .ref ea, .int (nI k)]))] ++ va_pl LP pf) H := hP
    have hD : va_D _ ([(la, .inr (0, [.int (mo + 1), .ref ea, .int (nI k)]))] ++ va_pl LP pf) := hD
    refine lv_null hx hb dJx4a65c_fastRemove_b59b0_41 ?_
    have hm_r : ea ∈ LP := hm
    obtain ⟨k_r, hk0_r⟩ := va_pl_get (X := [(la, .inr (0, [.int (mo + 1), .ref ea, .int (nI k)]))]) (f := pf) hm_r
    have hk_r := hk0_r
    rw [hpf] at hk_r
    have hset := va_pl_set (e := arE cO cap (va_up al k none)) hD hm_r hk0_r
    refine va_astqN hx hb hK.1 hP hD hS k_r 3 hk_r rfl (vp_in_nI (by omega) (by omega)) dJx4a65c_fastRemove_b59b0_42 (fun H locs hP hD hS => ?_)
    rw [nI_clamp (by omega)] at hP hD
    have hP : va_P D vwCl ((([(la, .inr (0, [.int (mo + 1), .ref ea, .int (nI k)]))] ++ va_pl LP pf) : va_W).set k_r (ea, arE cO cap (va_up al k none))) H := hP
    have hD : va_D _ ((([(la, .inr (0, [.int (mo + 1), .ref ea, .int (nI k)]))] ++ va_pl LP pf) : va_W).set k_r (ea, arE cO cap (va_up al k none))) := hD
    rw [hset] at hP hD
    have hP : va_P D vwCl ([(la, .inr (0, [.int (mo + 1), .ref ea, .int (nI k)]))] ++ va_pl LP (va_up pf ea (arE cO cap (va_up al k none)))) H := hP
    have hD : va_D _ ([(la, .inr (0, [.int (mo + 1), .ref ea, .int (nI k)]))] ++ va_pl LP (va_up pf ea (arE cO cap (va_up al k none)))) := hD
    exact kRetV hx hb hr hlk dJx4a65c_fastRemove_b59b0_43 hP hD hS (Nat.le_of_ble_eq_true rfl) (Nat.le_of_ble_eq_true rfl) ⟨rfl, rfl⟩
  · exact absurd (Int32.le_refl _) c_19

set_option maxHeartbeats 4000000 in
set_option maxRecDepth 100000 in
theorem c_Jx4a65c_remove_915e3 (l : Launch) (D : va_G) (cI cJ cZ cO : ClassId) (la : Nat) (mo : Int32) (ea : Nat) (al : Nat → Option Nat) (LP : List Nat) (pf : Nat → va_E) (cap : Nat) (k : Nat) (ak : Nat) (hm : ea ∈ LP) (hpf : pf ea = arE cO cap al) (hkc : k < cap) (hcap : cap < 4096) (hak : al k = some ak) : kC l D (kTY cI cJ cZ cO) yJx4a65c_remove_915e3 wsJx4a65c_remove_915e3 2 43 0 0 [.ref la, .int (nI k)] ([(la, .inr (0, [.int mo, .ref ea, .int (nI (k + 1))]))] ++ va_pl LP pf) (fun rv_ rw_ => rv_ = some (.ref ak) ∧ rw_ = ([(la, .inr (0, [.int (mo + 1), .ref ea, .int (nI k)]))] ++ va_pl LP (va_up pf ea (arE cO cap (va_up al k none))))) := by
  refine kEnter (cc := cJx4a65c_remove_915e3) (maxL := 4) (ret := (some (.object "java/lang/Object"))) (by decide) rfl (Nat.le_of_ble_eq_true rfl) ?_
  intro p e s m args below meth c hx hb hr hml hts hown hlk hnm hK hP hD hS hA ls hl
  have hl : lv_has ls 4 [(0, .ref la), (1, .int (nI k))] := hl
  have hw_f48 := hts (.fieldLink RJx4a65c 48 "java/util/ArrayList" "size" "I") (by decide +kernel)
  have hi_Jx4a65c : ∀ w ∈ wsJx4a65c0, w ∈ wsJx4a65c_remove_915e3 := by decide +kernel
  have hw_f9 := hts (.fieldLink RJx4a65c 9 "java/util/ArrayList" "elementData" "[Ljava/lang/Object;") (by decide +kernel)
  refine lv_iload_n hx hb dJx4a65c_remove_915e3_0 rfl (lv_at hl 1 rfl) ?_
  refine lv_aload_n hx hb dJx4a65c_remove_915e3_1 rfl (lv_at hl 0 rfl) ?_
  refine va_get (D := D) (ci := 0) (v := .int (nI (k + 1))) (C := RJx4a65c) (T := TJx4a65c) (N := 3) hx hb hts hi_Jx4a65c hown hK.1 hP 0 rfl rfl 2 (by decide) hw_f48 (fun _ h9 => h9) rfl dJx4a65c_remove_915e3_2 ?_
  refine kGoR (va_runS (As := [.int (nI k), .int (nI (k + 1))]) (rest := []) ⟨hx, hb, hml, hown, hts⟩ (c_J15_checkIndex_7cf53 l D cI cJ cZ cO k (k + 1) (by first | assumption | omega | decide) (by first | assumption | omega | decide)) (va_cwS 2 hts gJx4a65c_remove_915e3_J15_checkIndex_7cf53 rfl rfl rfl (by decide +kernel) ⟨Nat.le_of_ble_eq_true rfl, Nat.le_of_ble_eq_true rfl⟩) (kPreSR hK (kPc_sub hP [] rfl)) rfl rfl hl.1 rfl (lv_room (Nat.le_of_ble_eq_true rfl)) dJx4a65c_remove_915e3_5 ⟨Nat.le_of_ble_eq_true rfl, Nat.le_of_ble_eq_true rfl⟩) (fun v_1 hv_1 => ?_)
  obtain rfl := hv_1
  refine W.eq (g2 := F0 m 8 ls [.int (nI k)]) rfl ?_
  refine lv_pop hx hb dJx4a65c_remove_915e3_8 rfl ?_
  refine lv_aload_n hx hb dJx4a65c_remove_915e3_9 rfl (lv_at hl 0 rfl) ?_
  refine va_get (D := D) (ci := 0) (v := .ref ea) (C := RJx4a65c) (T := TJx4a65c) (N := 3) hx hb hts hi_Jx4a65c hown hK.1 hP 0 rfl rfl 1 (by decide) hw_f9 (fun _ h9 => h9) rfl dJx4a65c_remove_915e3_10 ?_
  refine lv_astore_n (lv' := [(2, .ref ea), (0, .ref la), (1, .int (nI k))]) hx hb dJx4a65c_remove_915e3_13 rfl hl (by decide) rfl (fun ls hl => ?_)
  refine lv_aload_n hx hb dJx4a65c_remove_915e3_14 rfl (lv_at hl 0 rfl) ?_
  refine lv_iload_n hx hb dJx4a65c_remove_915e3_15 rfl (lv_at hl 2 rfl) ?_
  have hm_r : ea ∈ LP := hm
  obtain ⟨k_r, hk0_r⟩ := va_pl_get (X := [(la, .inr (0, [.int mo, .ref ea, .int (nI (k + 1))]))]) (f := pf) hm_r
  have hk_r := hk0_r
  rw [hpf] at hk_r
  refine va_aldq hx hb hK.1 hP k_r 3 hk_r rfl (vp_in_nI (by omega) (by omega)) dJx4a65c_remove_915e3_16 ?_
  rw [nI_clamp (by omega), hak]
  refine W.eq (g2 := F0 m 17 ls [.ref ak]) rfl ?_
  refine lv_astore_n (lv' := [(3, .ref ak), (2, .ref ea), (0, .ref la), (1, .int (nI k))]) hx hb dJx4a65c_remove_915e3_17 rfl hl (by decide) rfl (fun ls hl => ?_)
  refine lv_aload_n hx hb dJx4a65c_remove_915e3_18 rfl (lv_at hl 2 rfl) ?_
  refine lv_aload_n hx hb dJx4a65c_remove_915e3_19 rfl (lv_at hl 1 rfl) ?_
  refine lv_iload_n hx hb dJx4a65c_remove_915e3_20 rfl (lv_at hl 3 rfl) ?_
  refine kGoP (cx := [(la, .inr (0, [.int mo, .ref ea, .int (nI (k + 1))]))]) (wr := []) (va_runV (As := [.ref ea, .int (nI k)]) (rest := []) ⟨hx, hb, hml, hown, hts⟩ (c_Jx4a65c_fastRemove_b59b0 l D cI cJ cZ cO la mo ea al LP pf cap k (by first | assumption | omega | decide) (by first | assumption | omega | decide) (by first | assumption | omega | decide) (by first | assumption | omega | decide) _) (cwV 2 hts gJx4a65c_remove_915e3_Jx4a65c_fastRemove_b59b0 rfl rfl rfl (by decide +kernel) ⟨Nat.le_of_ble_eq_true rfl, Nat.le_of_ble_eq_true rfl⟩) (kPreV (ci := 0) (q0 := 0) hK (hP.part [0] rfl) ((hD.part [0] (by decide) rfl).weaken (fun _ _ _ _ => trivial)) rfl rfl rfl) rfl rfl hl.1 rfl (lv_room (Nat.le_of_ble_eq_true rfl)) dJx4a65c_remove_915e3_21 ⟨Nat.le_of_ble_eq_true rfl, Nat.le_of_ble_eq_true rfl⟩) hP hD hS hA [0] [] rfl rfl (by decide) (by decide) (fun v_2 w_2 H locs hv_2 hP hS => ?_)
  obtain ⟨rfl, rfl⟩ := hv_2
  obtain ⟨hP, hD⟩ := hP _ _ rfl
  have hP : va_P D vwCl ([(la, .inr (0, [.int (mo + 1), .ref ea, .int (nI k)]))] ++ va_pl LP (va_up pf ea (arE cO cap (va_up al k none)))) H := hP.part [0] rfl
  have hD : va_D _ ([(la, .inr (0, [.int (mo + 1), .ref ea, .int (nI k)]))] ++ va_pl LP (va_up pf ea (arE cO cap (va_up al k none)))) := hD.part [0] (by decide) rfl
  refine W.eq (g2 := F0 m 24 ls []) rfl ?_
  refine lv_aload_n hx hb dJx4a65c_remove_915e3_24 rfl (lv_at hl 0 rfl) ?_
  exact kRetA hx hb (Or.inl ⟨_, hr⟩) hlk dJx4a65c_remove_915e3_25 (Or.inr ⟨_, rfl⟩) hP hD hS (Nat.le_of_ble_eq_true rfl) (Nat.le_of_ble_eq_true rfl) ⟨rfl, rfl⟩

set_option maxHeartbeats 4000000 in
set_option maxRecDepth 100000 in
theorem c_X3_removeLast_a (l : Launch) (D : va_G) (cI cJ cZ cO : ClassId) (h0 : Nat) (pc : Int32) (la : Nat) (mo : Int32) (ea : Nat) (LP : List Nat) (pf : Nat → va_E) : kC l D (kTY cI cJ cZ cO) yX3_removeLast wsX3_removeLast 3 66 0 0 [.ref h0] ([(h0, .inr (4, [.ref la, .int pc])), (la, .inr (0, [.int mo, .ref ea, .int (nI 0)]))] ++ va_pl LP pf) (fun rv_ rw_ => rv_ = some (.int (-1)) ∧ rw_ = ([(h0, .inr (4, [.ref la, .int pc])), (la, .inr (0, [.int mo, .ref ea, .int (nI 0)]))] ++ va_pl LP pf)) := by
  refine kEnter (cc := cX3_removeLast) (maxL := 1) (ret := (some .int)) (by decide) rfl (Nat.le_of_ble_eq_true rfl) ?_
  intro p e s m args below meth c hx hb hr hml hts hown hlk hnm hK hP hD hS hA ls hl
  have hl : lv_has ls 1 [(0, .ref h0)] := hl
  have hw_f12 := hts (.fieldLink RX3 12 "WhatToRead$Shelf" "pieces" "Ljava/util/List;") (by decide +kernel)
  have hi_X3 : ∀ w ∈ wsX30, w ∈ wsX3_removeLast := by decide +kernel
  refine lv_aload_n hx hb dX3_removeLast_0 rfl (lv_at hl 0 rfl) ?_
  refine va_get (D := D) (ci := 4) (v := .ref la) (C := RX3) (T := TX3) (N := 2) hx hb hts hi_X3 hown hK.1 hP 0 rfl rfl 0 (by decide) hw_f12 (fun _ h9 => h9) rfl dX3_removeLast_1 ?_
  refine kGo5R (va_runF (As := []) (rest := []) (kAt hK (ci := 0) rfl) ⟨hx, hb, hml, hown, hts⟩ (c_Jx4a65c_isEmpty_aae02 l D cI cJ cZ cO la ea mo 0 (by first | assumption | omega | decide)) (va_cwF 0 hts gX3_removeLast_Jx4a65c_isEmpty_aae02_f32Jx4a65c rfl rfl rfl hK.2.2.2.2.2.2.1 (by decide +kernel) ⟨Nat.le_of_ble_eq_true rfl, Nat.le_of_ble_eq_true rfl⟩) (kPreVR (ci := 0) (q0 := 0) hK (kPl_sub hP [1] rfl) rfl rfl rfl) rfl rfl hl.1 rfl (lv_room (Nat.le_of_ble_eq_true rfl)) dX3_removeLast_4 ⟨Nat.le_of_ble_eq_true rfl, Nat.le_of_ble_eq_true rfl⟩) (fun v_1 hv_1 => ?_)
  obtain rfl := hv_1
  refine W.eq (g2 := F0 m 9 ls [.int (k01 (decide (0 = 0)))]) rfl ?_
  refine lv_if_eq (tgt := 14) hx hb dX3_removeLast_9 (by decide) (fun c_9 => ?_) (fun c_9 => ?_)
  · exact absurd c_9 (by decide)
  · skip
    refine lv_iconst (v := (-1)) hx hb dX3_removeLast_12 (by decide) ?_
    exact kRetI hx hb hr hlk dX3_removeLast_13 hP hD hS (Nat.le_of_ble_eq_true rfl) (Nat.le_of_ble_eq_true rfl) ⟨rfl, rfl⟩

set_option maxHeartbeats 4000000 in
set_option maxRecDepth 100000 in
theorem c_X3_removeLast_b (l : Launch) (D : va_G) (cI cJ cZ cO : ClassId) (h0 : Nat) (pc : Int32) (la : Nat) (mo : Int32) (ea : Nat) (al : Nat → Option Nat) (LP : List Nat) (pf : Nat → va_E) (cap : Nat) (k : Nat) (ak : Nat) (hm : ea ∈ LP) (hpf : pf ea = arE cO cap al) (hkc : k < cap) (hcap : cap < 4096) (hak : al k = some ak) : kC l D (kTY cI cJ cZ cO) yX3_removeLast wsX3_removeLast 3 66 0 0 [.ref h0] ([(h0, .inr (4, [.ref la, .int pc])), (la, .inr (0, [.int mo, .ref ea, .int (nI (k + 1))]))] ++ va_pl LP pf) (fun rv_ rw_ => rv_ = some (.int (nI k)) ∧ rw_ = ([(h0, .inr (4, [.ref la, .int pc])), (la, .inr (0, [.int (mo + 1), .ref ea, .int (nI k)]))] ++ va_pl LP (va_up pf ea (arE cO cap (va_up al k none))))) := by
  refine kEnter (cc := cX3_removeLast) (maxL := 1) (ret := (some .int)) (by decide) rfl (Nat.le_of_ble_eq_true rfl) ?_
  intro p e s m args below meth c hx hb hr hml hts hown hlk hnm hK hP hD hS hA ls hl
  have hl : lv_has ls 1 [(0, .ref h0)] := hl
  have hw_f12 := hts (.fieldLink RX3 12 "WhatToRead$Shelf" "pieces" "Ljava/util/List;") (by decide +kernel)
  have hi_X3 : ∀ w ∈ wsX30, w ∈ wsX3_removeLast := by decide +kernel
  refine lv_aload_n hx hb dX3_removeLast_0 rfl (lv_at hl 0 rfl) ?_
  refine va_get (D := D) (ci := 4) (v := .ref la) (C := RX3) (T := TX3) (N := 2) hx hb hts hi_X3 hown hK.1 hP 0 rfl rfl 0 (by decide) hw_f12 (fun _ h9 => h9) rfl dX3_removeLast_1 ?_
  refine kGo5R (va_runF (As := []) (rest := []) (kAt hK (ci := 0) rfl) ⟨hx, hb, hml, hown, hts⟩ (c_Jx4a65c_isEmpty_aae02 l D cI cJ cZ cO la ea mo (k + 1) (by first | assumption | omega | decide)) (va_cwF 0 hts gX3_removeLast_Jx4a65c_isEmpty_aae02_f32Jx4a65c rfl rfl rfl hK.2.2.2.2.2.2.1 (by decide +kernel) ⟨Nat.le_of_ble_eq_true rfl, Nat.le_of_ble_eq_true rfl⟩) (kPreVR (ci := 0) (q0 := 0) hK (kPl_sub hP [1] rfl) rfl rfl rfl) rfl rfl hl.1 rfl (lv_room (Nat.le_of_ble_eq_true rfl)) dX3_removeLast_4 ⟨Nat.le_of_ble_eq_true rfl, Nat.le_of_ble_eq_true rfl⟩) (fun v_1 hv_1 => ?_)
  obtain rfl := hv_1
  refine W.eq (g2 := F0 m 9 ls [.int (k01 (decide ((k + 1) = 0)))]) rfl ?_
  refine lv_if_eq (tgt := 14) hx hb dX3_removeLast_9 (by decide) (fun c_9 => ?_) (fun c_9 => ?_)
  · skip
    refine lv_aload_n hx hb dX3_removeLast_14 rfl (lv_at hl 0 rfl) ?_
    refine va_get (D := D) (ci := 4) (v := .ref la) (C := RX3) (T := TX3) (N := 2) hx hb hts hi_X3 hown hK.1 hP 0 rfl rfl 0 (by decide) hw_f12 (fun _ h9 => h9) rfl dX3_removeLast_15 ?_
    refine lv_aload_n hx hb dX3_removeLast_18 rfl (lv_at hl 0 rfl) ?_
    refine va_get (D := D) (ci := 4) (v := .ref la) (C := RX3) (T := TX3) (N := 2) hx hb hts hi_X3 hown hK.1 hP 0 rfl rfl 0 (by decide) hw_f12 (fun _ h9 => h9) rfl dX3_removeLast_19 ?_
    refine kGo5R (va_runF (As := []) (rest := [.ref la]) (kAt hK (ci := 0) rfl) ⟨hx, hb, hml, hown, hts⟩ (c_Jx4a65c_size_8abf5 l D cI cJ cZ cO la ea mo (k + 1) ) (va_cwF 0 hts gX3_removeLast_Jx4a65c_size_8abf5_f22Jx4a65c rfl rfl rfl hK.2.2.2.1 (by decide +kernel) ⟨Nat.le_of_ble_eq_true rfl, Nat.le_of_ble_eq_true rfl⟩) (kPreVR (ci := 0) (q0 := 0) hK (kPl_sub hP [1] rfl) rfl rfl rfl) rfl rfl hl.1 rfl (lv_room (Nat.le_of_ble_eq_true rfl)) dX3_removeLast_22 ⟨Nat.le_of_ble_eq_true rfl, Nat.le_of_ble_eq_true rfl⟩) (fun v_2 hv_2 => ?_)
    obtain rfl := hv_2
    refine W.eq (g2 := F0 m 27 ls [.int (nI (k + 1)), .ref la]) rfl ?_
    refine lv_iconst (v := 1) hx hb dX3_removeLast_27 (by decide) ?_
    refine lv_isub hx hb dX3_removeLast_28 ?_
    refine lv_topi (fun nv_3 ev_3 => ?_)
    obtain rfl : nv_3 = nI k := ev_3.trans (nI_pred k)
    refine kGoP5 (cx := [(la, .inr (0, [.int mo, .ref ea, .int (nI (k + 1))]))]) (wr := [(h0, .inr (4, [.ref la, .int pc]))]) (va_runF (As := [.int (nI k)]) (rest := []) (kAt hK (ci := 0) rfl) ⟨hx, hb, hml, hown, hts⟩ (c_Jx4a65c_remove_915e3 l D cI cJ cZ cO la mo ea al LP pf cap k ak (by first | assumption | omega | decide) (by first | assumption | omega | decide) (by first | assumption | omega | decide) (by first | assumption | omega | decide) (by first | assumption | omega | decide) _) (va_cwF 1 hts gX3_removeLast_Jx4a65c_remove_915e3_f36Jx4a65c rfl rfl rfl hK.2.2.2.2.2.2.2.1 (by decide +kernel) ⟨Nat.le_of_ble_eq_true rfl, Nat.le_of_ble_eq_true rfl⟩) (kPreV (ci := 0) (q0 := 0) hK (hP.part [1] rfl) ((hD.part [1] (by decide) rfl).weaken (fun _ _ _ _ => trivial)) rfl rfl rfl) rfl rfl hl.1 rfl (lv_room (Nat.le_of_ble_eq_true rfl)) dX3_removeLast_29 ⟨Nat.le_of_ble_eq_true rfl, Nat.le_of_ble_eq_true rfl⟩) hP hD hS hA [1] [0] rfl rfl (by decide) (by decide) (fun v_4 w_4 H locs hv_4 hP hS => ?_)
    obtain ⟨rfl, rfl⟩ := hv_4
    obtain ⟨hP, hD⟩ := hP _ _ rfl
    have hP : va_P D vwCl ([(h0, .inr (4, [.ref la, .int pc])), (la, .inr (0, [.int (mo + 1), .ref ea, .int (nI k)]))] ++ va_pl LP (va_up pf ea (arE cO cap (va_up al k none)))) H := hP.part [0, 1] rfl
    have hD : va_D _ ([(h0, .inr (4, [.ref la, .int pc])), (la, .inr (0, [.int (mo + 1), .ref ea, .int (nI k)]))] ++ va_pl LP (va_up pf ea (arE cO cap (va_up al k none)))) := hD.part [0, 1] (by decide) rfl
    refine W.eq (g2 := F0 m 34 ls [.ref ak]) rfl ?_
    refine lv_pop hx hb dX3_removeLast_34 rfl ?_
    refine lv_aload_n hx hb dX3_removeLast_35 rfl (lv_at hl 0 rfl) ?_
    refine va_get (D := D) (ci := 4) (v := .ref la) (C := RX3) (T := TX3) (N := 2) hx hb hts hi_X3 hown hK.1 hP 0 rfl rfl 0 (by decide) hw_f12 (fun _ h9 => h9) rfl dX3_removeLast_36 ?_
    refine kGo5R (va_runF (As := []) (rest := []) (kAt hK (ci := 0) rfl) ⟨hx, hb, hml, hown, hts⟩ (c_Jx4a65c_size_8abf5 l D cI cJ cZ cO la ea (mo + 1) k ) (va_cwF 0 hts gX3_removeLast_Jx4a65c_size_8abf5_f22Jx4a65c rfl rfl rfl hK.2.2.2.1 (by decide +kernel) ⟨Nat.le_of_ble_eq_true rfl, Nat.le_of_ble_eq_true rfl⟩) (kPreVR (ci := 0) (q0 := 0) hK (kPl_sub hP [1] rfl) rfl rfl rfl) rfl rfl hl.1 rfl (lv_room (Nat.le_of_ble_eq_true rfl)) dX3_removeLast_39 ⟨Nat.le_of_ble_eq_true rfl, Nat.le_of_ble_eq_true rfl⟩) (fun v_5 hv_5 => ?_)
    obtain rfl := hv_5
    refine W.eq (g2 := F0 m 44 ls [.int (nI k)]) rfl ?_
    exact kRetI hx hb hr hlk dX3_removeLast_44 hP hD hS (Nat.le_of_ble_eq_true rfl) (Nat.le_of_ble_eq_true rfl) ⟨rfl, rfl⟩
  · exact absurd (by rw [decide_eq_false (by omega)]; decide) c_9

set_option maxHeartbeats 4000000 in
set_option maxRecDepth 100000 in
theorem c_X3_add_a (l : Launch) (D : va_G) (cI cJ cZ cO : ClassId) (e0 : Nat) (mi : Nat) (h0 : Nat) (pc : Int32) (la : Nat) (mo : Int32) (LP : List Nat) (pf : Nat → va_E) (pa : Nat) (ne : Int32) (ei : Int32) (gv : Int32) (sk : Int32) (pg : Int32) (hpa : pa ∈ LP) (hpe : pf pa = pcE ne ei gv sk pg) : kCx l D (kTY cI cJ cZ cO) e0 mi yX3_add wsX3_add 7 152 1 10 [.ref h0, .ref pa] ([(h0, .inr (4, [.ref la, .int pc])), (la, .inr (0, [.int mo, .ref e0, .int 0]))] ++ va_pl LP pf) (fun rv_ rw_ => ∃ q_52_7_7_20_21 : Nat, rv_ = some (.int 0) ∧ rw_ = ([(h0, .inr (4, [.ref la, .int pc])), (la, .inr (0, [.int (mo + 1), .ref q_52_7_7_20_21, .int 1]))] ++ va_pl (LP ++ [q_52_7_7_20_21]) (va_up pf q_52_7_7_20_21 (arE cO 10 (va_up (fun _ => none) 0 (some pa))))) ∧ q_52_7_7_20_21 ∉ LP) := by
  refine kEnterX (cc := cX3_add) (maxL := 2) (ret := (some .int)) (by decide) rfl (Nat.le_of_ble_eq_true rfl) ?_
  intro p e s m args below meth c hx hb hr hml hts hown hlk hnm hK hX hP hD hS hA ls hl
  have hl : lv_has ls 2 [(0, .ref h0), (1, .ref pa)] := hl
  have hw_f12 := hts (.fieldLink RX3 12 "WhatToRead$Shelf" "pieces" "Ljava/util/List;") (by decide +kernel)
  have hi_X3 : ∀ w ∈ wsX30, w ∈ wsX3_add := by decide +kernel
  refine lv_aload_n hx hb dX3_add_0 rfl (lv_at hl 0 rfl) ?_
  refine va_get (D := D) (ci := 4) (v := .ref la) (C := RX3) (T := TX3) (N := 2) hx hb hts hi_X3 hown hK.1 hP 0 rfl rfl 0 (by decide) hw_f12 (fun _ h9 => h9) rfl dX3_add_1 ?_
  refine kGo5R (va_runF (As := []) (rest := []) (kAt hK (ci := 0) rfl) ⟨hx, hb, hml, hown, hts⟩ (c_Jx4a65c_size_8abf5 l D cI cJ cZ cO la e0 mo 0 ) (va_cwF 0 hts gX3_add_Jx4a65c_size_8abf5_f22Jx4a65c rfl rfl rfl hK.2.2.2.1 (by decide +kernel) ⟨Nat.le_of_ble_eq_true rfl, Nat.le_of_ble_eq_true rfl⟩) (kPreVR (ci := 0) (q0 := 0) hK (kPl_sub hP [1] rfl) rfl rfl rfl) rfl rfl hl.1 rfl (lv_room (Nat.le_of_ble_eq_true rfl)) dX3_add_4 ⟨Nat.le_of_ble_eq_true rfl, Nat.le_of_ble_eq_true rfl⟩) (fun v_1 hv_1 => ?_)
  obtain rfl := hv_1
  refine W.eq (g2 := F0 m 9 ls [.int (nI 0)]) rfl ?_
  refine lv_topi (fun nv_2 ev_2 => ?_)
  obtain rfl : nv_2 = 0 := ev_2.trans (rfl)
  refine lv_bipush (v := 14) hx hb dX3_add_9 (by decide) ?_
  refine lv_icmp_lt (tgt := 16) hx hb dX3_add_11 (by decide) (fun c_11 => ?_) (fun c_11 => ?_)
  · skip
    refine lv_aload_n hx hb dX3_add_16 rfl (lv_at hl 0 rfl) ?_
    refine va_get (D := D) (ci := 4) (v := .ref la) (C := RX3) (T := TX3) (N := 2) hx hb hts hi_X3 hown hK.1 hP 0 rfl rfl 0 (by decide) hw_f12 (fun _ h9 => h9) rfl dX3_add_17 ?_
    refine lv_aload_n hx hb dX3_add_20 rfl (lv_at hl 1 rfl) ?_
    refine kGoP5 (cx := [(la, .inr (0, [.int mo, .ref e0, .int 0]))]) (wr := [(h0, .inr (4, [.ref la, .int pc]))]) (va_runF (As := [.ref pa]) (rest := []) (kAt hK (ci := 0) rfl) ⟨hx, hb, hml, hown, hts⟩ (c_Jx4a65c_add_9ea2d_a l D cI cJ cZ cO e0 mi la mo LP pf pa ne ei gv sk pg (by first | assumption | omega | decide) (by first | assumption | omega | decide) _) (va_cwF 1 hts gX3_add_Jx4a65c_add_9ea2d_f28Jx4a65c rfl rfl rfl hK.2.2.2.2.2.1 (by decide +kernel) ⟨Nat.le_of_ble_eq_true rfl, Nat.le_of_ble_eq_true rfl⟩) (kPreVX (ci := 0) (q0 := 0) hK hX hS (va_freeP hD hS hA [1] rfl) (hP.part [1] rfl) ((hD.part [1] (by decide) rfl).weaken (fun _ _ _ _ => trivial)) rfl rfl rfl) rfl rfl hl.1 rfl (lv_room (Nat.le_of_ble_eq_true rfl)) dX3_add_21 ⟨Nat.le_of_ble_eq_true rfl, Nat.le_of_ble_eq_true rfl⟩) hP hD hS hA [1] [0] rfl rfl (by decide) (by decide) (fun v_3 w_3 H locs hv_3 hP hS => ?_)
    obtain ⟨q_52_7_7_20_21, rfl, rfl, hqn_21⟩ := hv_3
    obtain ⟨hP, hD⟩ := hP _ _ rfl
    have hP : va_P D vwCl ([(h0, .inr (4, [.ref la, .int pc])), (la, .inr (0, [.int (mo + 1), .ref q_52_7_7_20_21, .int 1]))] ++ va_pl (LP ++ [q_52_7_7_20_21]) (va_up pf q_52_7_7_20_21 (arE cO 10 (va_up (fun _ => none) 0 (some pa))))) H := hP.part [0, 1] rfl
    have hD : va_D _ ([(h0, .inr (4, [.ref la, .int pc])), (la, .inr (0, [.int (mo + 1), .ref q_52_7_7_20_21, .int 1]))] ++ va_pl (LP ++ [q_52_7_7_20_21]) (va_up pf q_52_7_7_20_21 (arE cO 10 (va_up (fun _ => none) 0 (some pa))))) := hD.part [0, 1] (by decide) rfl
    refine W.eq (g2 := F0 m 26 ls [.int (k01 true)]) rfl ?_
    refine lv_pop hx hb dX3_add_26 rfl ?_
    refine lv_aload_n hx hb dX3_add_27 rfl (lv_at hl 0 rfl) ?_
    refine va_get (D := D) (ci := 4) (v := .ref la) (C := RX3) (T := TX3) (N := 2) hx hb hts hi_X3 hown hK.1 hP 0 rfl rfl 0 (by decide) hw_f12 (fun _ h9 => h9) rfl dX3_add_28 ?_
    refine kGo5R (va_runF (As := []) (rest := []) (kAt hK (ci := 0) rfl) ⟨hx, hb, hml, hown, hts⟩ (c_Jx4a65c_size_8abf5 l D cI cJ cZ cO la q_52_7_7_20_21 (mo + 1) 1 ) (va_cwF 0 hts gX3_add_Jx4a65c_size_8abf5_f22Jx4a65c rfl rfl rfl hK.2.2.2.1 (by decide +kernel) ⟨Nat.le_of_ble_eq_true rfl, Nat.le_of_ble_eq_true rfl⟩) (kPreVR (ci := 0) (q0 := 0) hK (kPl_sub hP [1] rfl) rfl rfl rfl) rfl rfl hl.1 rfl (lv_room (Nat.le_of_ble_eq_true rfl)) dX3_add_31 ⟨Nat.le_of_ble_eq_true rfl, Nat.le_of_ble_eq_true rfl⟩) (fun v_4 hv_4 => ?_)
    obtain rfl := hv_4
    refine W.eq (g2 := F0 m 36 ls [.int (nI 1)]) rfl ?_
    refine lv_topi (fun nv_5 ev_5 => ?_)
    obtain rfl : nv_5 = 1 := ev_5.trans (rfl)
    refine lv_iconst (v := 1) hx hb dX3_add_36 (by decide) ?_
    refine lv_isub hx hb dX3_add_37 ?_
    refine lv_topi (fun nv_6 ev_6 => ?_)
    obtain rfl : nv_6 = 0 := ev_6.trans (by decide)
    exact kRetI hx hb hr hlk dX3_add_38 hP hD hS (Nat.le_of_ble_eq_true rfl) (Nat.le_of_ble_eq_true rfl) ⟨q_52_7_7_20_21, rfl, rfl, hqn_21⟩
  · exact absurd (by decide) c_11

set_option maxHeartbeats 4000000 in
set_option maxRecDepth 100000 in
theorem c_X3_add_b (l : Launch) (D : va_G) (cI cJ cZ cO : ClassId) (e0 : Nat) (mi : Nat) (h0 : Nat) (pc : Int32) (la : Nat) (mo : Int32) (ea : Nat) (al : Nat → Option Nat) (LP : List Nat) (pf : Nat → va_E) (pa : Nat) (ne : Int32) (ei : Int32) (gv : Int32) (sk : Int32) (pg : Int32) (hm : ea ∈ LP) (hpf : pf ea = arE cO 10 al) (hel : pcs al LP pf) (hpa : pa ∈ LP) (hpe : pf pa = pcE ne ei gv sk pg) : kCx l D (kTY cI cJ cZ cO) e0 mi yX3_add wsX3_add 7 152 1 15 [.ref h0, .ref pa] ([(h0, .inr (4, [.ref la, .int pc])), (la, .inr (0, [.int mo, .ref ea, .int 10]))] ++ va_pl LP pf) (fun rv_ rw_ => ∃ q_7_6_37_7_7_20_21 : Nat, rv_ = some (.int 10) ∧ rw_ = ([(h0, .inr (4, [.ref la, .int pc])), (la, .inr (0, [.int (mo + 1), .ref q_7_6_37_7_7_20_21, .int 11]))] ++ va_pl (LP ++ [q_7_6_37_7_7_20_21]) (va_up pf q_7_6_37_7_7_20_21 (arE cO 15 (va_up (fun i => if i < 10 then al i else none) 10 (some pa))))) ∧ q_7_6_37_7_7_20_21 ∉ LP) := by
  refine kEnterX (cc := cX3_add) (maxL := 2) (ret := (some .int)) (by decide) rfl (Nat.le_of_ble_eq_true rfl) ?_
  intro p e s m args below meth c hx hb hr hml hts hown hlk hnm hK hX hP hD hS hA ls hl
  have hl : lv_has ls 2 [(0, .ref h0), (1, .ref pa)] := hl
  have hw_f12 := hts (.fieldLink RX3 12 "WhatToRead$Shelf" "pieces" "Ljava/util/List;") (by decide +kernel)
  have hi_X3 : ∀ w ∈ wsX30, w ∈ wsX3_add := by decide +kernel
  refine lv_aload_n hx hb dX3_add_0 rfl (lv_at hl 0 rfl) ?_
  refine va_get (D := D) (ci := 4) (v := .ref la) (C := RX3) (T := TX3) (N := 2) hx hb hts hi_X3 hown hK.1 hP 0 rfl rfl 0 (by decide) hw_f12 (fun _ h9 => h9) rfl dX3_add_1 ?_
  refine kGo5R (va_runF (As := []) (rest := []) (kAt hK (ci := 0) rfl) ⟨hx, hb, hml, hown, hts⟩ (c_Jx4a65c_size_8abf5 l D cI cJ cZ cO la ea mo 10 ) (va_cwF 0 hts gX3_add_Jx4a65c_size_8abf5_f22Jx4a65c rfl rfl rfl hK.2.2.2.1 (by decide +kernel) ⟨Nat.le_of_ble_eq_true rfl, Nat.le_of_ble_eq_true rfl⟩) (kPreVR (ci := 0) (q0 := 0) hK (kPl_sub hP [1] rfl) rfl rfl rfl) rfl rfl hl.1 rfl (lv_room (Nat.le_of_ble_eq_true rfl)) dX3_add_4 ⟨Nat.le_of_ble_eq_true rfl, Nat.le_of_ble_eq_true rfl⟩) (fun v_1 hv_1 => ?_)
  obtain rfl := hv_1
  refine W.eq (g2 := F0 m 9 ls [.int (nI 10)]) rfl ?_
  refine lv_topi (fun nv_2 ev_2 => ?_)
  obtain rfl : nv_2 = 10 := ev_2.trans (rfl)
  refine lv_bipush (v := 14) hx hb dX3_add_9 (by decide) ?_
  refine lv_icmp_lt (tgt := 16) hx hb dX3_add_11 (by decide) (fun c_11 => ?_) (fun c_11 => ?_)
  · skip
    refine lv_aload_n hx hb dX3_add_16 rfl (lv_at hl 0 rfl) ?_
    refine va_get (D := D) (ci := 4) (v := .ref la) (C := RX3) (T := TX3) (N := 2) hx hb hts hi_X3 hown hK.1 hP 0 rfl rfl 0 (by decide) hw_f12 (fun _ h9 => h9) rfl dX3_add_17 ?_
    refine lv_aload_n hx hb dX3_add_20 rfl (lv_at hl 1 rfl) ?_
    refine kGoP5 (cx := [(la, .inr (0, [.int mo, .ref ea, .int 10]))]) (wr := [(h0, .inr (4, [.ref la, .int pc]))]) (va_runF (As := [.ref pa]) (rest := []) (kAt hK (ci := 0) rfl) ⟨hx, hb, hml, hown, hts⟩ (c_Jx4a65c_add_9ea2d_b l D cI cJ cZ cO e0 mi la mo ea al LP pf pa ne ei gv sk pg (by first | assumption | omega | decide) (by first | assumption | omega | decide) (by first | assumption | omega | decide) (by first | assumption | omega | decide) (by first | assumption | omega | decide) _) (va_cwF 1 hts gX3_add_Jx4a65c_add_9ea2d_f28Jx4a65c rfl rfl rfl hK.2.2.2.2.2.1 (by decide +kernel) ⟨Nat.le_of_ble_eq_true rfl, Nat.le_of_ble_eq_true rfl⟩) (kPreVX (ci := 0) (q0 := 0) hK hX hS (va_freeP hD hS hA [1] rfl) (hP.part [1] rfl) ((hD.part [1] (by decide) rfl).weaken (fun _ _ _ _ => trivial)) rfl rfl rfl) rfl rfl hl.1 rfl (lv_room (Nat.le_of_ble_eq_true rfl)) dX3_add_21 ⟨Nat.le_of_ble_eq_true rfl, Nat.le_of_ble_eq_true rfl⟩) hP hD hS hA [1] [0] rfl rfl (by decide) (by decide) (fun v_3 w_3 H locs hv_3 hP hS => ?_)
    obtain ⟨q_7_6_37_7_7_20_21, rfl, rfl, hqn_21⟩ := hv_3
    obtain ⟨hP, hD⟩ := hP _ _ rfl
    have hP : va_P D vwCl ([(h0, .inr (4, [.ref la, .int pc])), (la, .inr (0, [.int (mo + 1), .ref q_7_6_37_7_7_20_21, .int 11]))] ++ va_pl (LP ++ [q_7_6_37_7_7_20_21]) (va_up pf q_7_6_37_7_7_20_21 (arE cO 15 (va_up (fun i => if i < 10 then al i else none) 10 (some pa))))) H := hP.part [0, 1] rfl
    have hD : va_D _ ([(h0, .inr (4, [.ref la, .int pc])), (la, .inr (0, [.int (mo + 1), .ref q_7_6_37_7_7_20_21, .int 11]))] ++ va_pl (LP ++ [q_7_6_37_7_7_20_21]) (va_up pf q_7_6_37_7_7_20_21 (arE cO 15 (va_up (fun i => if i < 10 then al i else none) 10 (some pa))))) := hD.part [0, 1] (by decide) rfl
    refine W.eq (g2 := F0 m 26 ls [.int (k01 true)]) rfl ?_
    refine lv_pop hx hb dX3_add_26 rfl ?_
    refine lv_aload_n hx hb dX3_add_27 rfl (lv_at hl 0 rfl) ?_
    refine va_get (D := D) (ci := 4) (v := .ref la) (C := RX3) (T := TX3) (N := 2) hx hb hts hi_X3 hown hK.1 hP 0 rfl rfl 0 (by decide) hw_f12 (fun _ h9 => h9) rfl dX3_add_28 ?_
    refine kGo5R (va_runF (As := []) (rest := []) (kAt hK (ci := 0) rfl) ⟨hx, hb, hml, hown, hts⟩ (c_Jx4a65c_size_8abf5 l D cI cJ cZ cO la q_7_6_37_7_7_20_21 (mo + 1) 11 ) (va_cwF 0 hts gX3_add_Jx4a65c_size_8abf5_f22Jx4a65c rfl rfl rfl hK.2.2.2.1 (by decide +kernel) ⟨Nat.le_of_ble_eq_true rfl, Nat.le_of_ble_eq_true rfl⟩) (kPreVR (ci := 0) (q0 := 0) hK (kPl_sub hP [1] rfl) rfl rfl rfl) rfl rfl hl.1 rfl (lv_room (Nat.le_of_ble_eq_true rfl)) dX3_add_31 ⟨Nat.le_of_ble_eq_true rfl, Nat.le_of_ble_eq_true rfl⟩) (fun v_4 hv_4 => ?_)
    obtain rfl := hv_4
    refine W.eq (g2 := F0 m 36 ls [.int (nI 11)]) rfl ?_
    refine lv_topi (fun nv_5 ev_5 => ?_)
    obtain rfl : nv_5 = 11 := ev_5.trans (rfl)
    refine lv_iconst (v := 1) hx hb dX3_add_36 (by decide) ?_
    refine lv_isub hx hb dX3_add_37 ?_
    refine lv_topi (fun nv_6 ev_6 => ?_)
    obtain rfl : nv_6 = 10 := ev_6.trans (by decide)
    exact kRetI hx hb hr hlk dX3_add_38 hP hD hS (Nat.le_of_ble_eq_true rfl) (Nat.le_of_ble_eq_true rfl) ⟨q_7_6_37_7_7_20_21, rfl, rfl, hqn_21⟩
  · exact absurd (by decide) c_11

set_option maxHeartbeats 4000000 in
set_option maxRecDepth 100000 in
theorem c_X3_add_c (l : Launch) (D : va_G) (cI cJ cZ cO : ClassId) (e0 : Nat) (mi : Nat) (h0 : Nat) (pc : Int32) (la : Nat) (mo : Int32) (ea : Nat) (al : Nat → Option Nat) (LP : List Nat) (pf : Nat → va_E) (cap : Nat) (n : Nat) (pa : Nat) (ne : Int32) (ei : Int32) (gv : Int32) (sk : Int32) (pg : Int32) (hm : ea ∈ LP) (hpf : pf ea = arE cO cap al) (hnc : n < cap) (hcap : cap < 4096) (hpa : pa ∈ LP) (hpe : pf pa = pcE ne ei gv sk pg) (hn14 : n < 14) : kCx l D (kTY cI cJ cZ cO) e0 mi yX3_add wsX3_add 7 152 0 0 [.ref h0, .ref pa] ([(h0, .inr (4, [.ref la, .int pc])), (la, .inr (0, [.int mo, .ref ea, .int (nI n)]))] ++ va_pl LP pf) (fun rv_ rw_ => rv_ = some (.int (nI n)) ∧ rw_ = ([(h0, .inr (4, [.ref la, .int pc])), (la, .inr (0, [.int (mo + 1), .ref ea, .int (nI (n + 1))]))] ++ va_pl LP (va_up pf ea (arE cO cap (va_up al n (some pa)))))) := by
  refine kEnterX (cc := cX3_add) (maxL := 2) (ret := (some .int)) (by decide) rfl (Nat.le_of_ble_eq_true rfl) ?_
  intro p e s m args below meth c hx hb hr hml hts hown hlk hnm hK hX hP hD hS hA ls hl
  have hl : lv_has ls 2 [(0, .ref h0), (1, .ref pa)] := hl
  have hw_f12 := hts (.fieldLink RX3 12 "WhatToRead$Shelf" "pieces" "Ljava/util/List;") (by decide +kernel)
  have hi_X3 : ∀ w ∈ wsX30, w ∈ wsX3_add := by decide +kernel
  refine lv_aload_n hx hb dX3_add_0 rfl (lv_at hl 0 rfl) ?_
  refine va_get (D := D) (ci := 4) (v := .ref la) (C := RX3) (T := TX3) (N := 2) hx hb hts hi_X3 hown hK.1 hP 0 rfl rfl 0 (by decide) hw_f12 (fun _ h9 => h9) rfl dX3_add_1 ?_
  refine kGo5R (va_runF (As := []) (rest := []) (kAt hK (ci := 0) rfl) ⟨hx, hb, hml, hown, hts⟩ (c_Jx4a65c_size_8abf5 l D cI cJ cZ cO la ea mo n ) (va_cwF 0 hts gX3_add_Jx4a65c_size_8abf5_f22Jx4a65c rfl rfl rfl hK.2.2.2.1 (by decide +kernel) ⟨Nat.le_of_ble_eq_true rfl, Nat.le_of_ble_eq_true rfl⟩) (kPreVR (ci := 0) (q0 := 0) hK (kPl_sub hP [1] rfl) rfl rfl rfl) rfl rfl hl.1 rfl (lv_room (Nat.le_of_ble_eq_true rfl)) dX3_add_4 ⟨Nat.le_of_ble_eq_true rfl, Nat.le_of_ble_eq_true rfl⟩) (fun v_1 hv_1 => ?_)
  obtain rfl := hv_1
  refine W.eq (g2 := F0 m 9 ls [.int (nI n)]) rfl ?_
  refine lv_bipush (v := 14) hx hb dX3_add_9 (by decide) ?_
  refine lv_icmp_lt (tgt := 16) hx hb dX3_add_11 (by decide) (fun c_11 => ?_) (fun c_11 => ?_)
  · skip
    refine lv_aload_n hx hb dX3_add_16 rfl (lv_at hl 0 rfl) ?_
    refine va_get (D := D) (ci := 4) (v := .ref la) (C := RX3) (T := TX3) (N := 2) hx hb hts hi_X3 hown hK.1 hP 0 rfl rfl 0 (by decide) hw_f12 (fun _ h9 => h9) rfl dX3_add_17 ?_
    refine lv_aload_n hx hb dX3_add_20 rfl (lv_at hl 1 rfl) ?_
    refine kGoP5 (cx := [(la, .inr (0, [.int mo, .ref ea, .int (nI n)]))]) (wr := [(h0, .inr (4, [.ref la, .int pc]))]) (va_runF (As := [.ref pa]) (rest := []) (kAt hK (ci := 0) rfl) ⟨hx, hb, hml, hown, hts⟩ (c_Jx4a65c_add_9ea2d_c l D cI cJ cZ cO e0 mi la mo ea al LP pf cap n pa ne ei gv sk pg (by first | assumption | omega | decide) (by first | assumption | omega | decide) (by first | assumption | omega | decide) (by first | assumption | omega | decide) (by first | assumption | omega | decide) (by first | assumption | omega | decide) _) (va_cwF 1 hts gX3_add_Jx4a65c_add_9ea2d_f28Jx4a65c rfl rfl rfl hK.2.2.2.2.2.1 (by decide +kernel) ⟨Nat.le_of_ble_eq_true rfl, Nat.le_of_ble_eq_true rfl⟩) (kPreVX (ci := 0) (q0 := 0) hK hX hS (va_freeP hD hS hA [1] rfl) (hP.part [1] rfl) ((hD.part [1] (by decide) rfl).weaken (fun _ _ _ _ => trivial)) rfl rfl rfl) rfl rfl hl.1 rfl (lv_room (Nat.le_of_ble_eq_true rfl)) dX3_add_21 ⟨Nat.le_of_ble_eq_true rfl, Nat.le_of_ble_eq_true rfl⟩) hP hD hS hA [1] [0] rfl rfl (by decide) (by decide) (fun v_2 w_2 H locs hv_2 hP hS => ?_)
    obtain ⟨rfl, rfl⟩ := hv_2
    obtain ⟨hP, hD⟩ := hP _ _ rfl
    have hP : va_P D vwCl ([(h0, .inr (4, [.ref la, .int pc])), (la, .inr (0, [.int (mo + 1), .ref ea, .int (nI (n + 1))]))] ++ va_pl LP (va_up pf ea (arE cO cap (va_up al n (some pa))))) H := hP.part [0, 1] rfl
    have hD : va_D _ ([(h0, .inr (4, [.ref la, .int pc])), (la, .inr (0, [.int (mo + 1), .ref ea, .int (nI (n + 1))]))] ++ va_pl LP (va_up pf ea (arE cO cap (va_up al n (some pa))))) := hD.part [0, 1] (by decide) rfl
    refine W.eq (g2 := F0 m 26 ls [.int (k01 true)]) rfl ?_
    refine lv_pop hx hb dX3_add_26 rfl ?_
    refine lv_aload_n hx hb dX3_add_27 rfl (lv_at hl 0 rfl) ?_
    refine va_get (D := D) (ci := 4) (v := .ref la) (C := RX3) (T := TX3) (N := 2) hx hb hts hi_X3 hown hK.1 hP 0 rfl rfl 0 (by decide) hw_f12 (fun _ h9 => h9) rfl dX3_add_28 ?_
    refine kGo5R (va_runF (As := []) (rest := []) (kAt hK (ci := 0) rfl) ⟨hx, hb, hml, hown, hts⟩ (c_Jx4a65c_size_8abf5 l D cI cJ cZ cO la ea (mo + 1) (n + 1) ) (va_cwF 0 hts gX3_add_Jx4a65c_size_8abf5_f22Jx4a65c rfl rfl rfl hK.2.2.2.1 (by decide +kernel) ⟨Nat.le_of_ble_eq_true rfl, Nat.le_of_ble_eq_true rfl⟩) (kPreVR (ci := 0) (q0 := 0) hK (kPl_sub hP [1] rfl) rfl rfl rfl) rfl rfl hl.1 rfl (lv_room (Nat.le_of_ble_eq_true rfl)) dX3_add_31 ⟨Nat.le_of_ble_eq_true rfl, Nat.le_of_ble_eq_true rfl⟩) (fun v_3 hv_3 => ?_)
    obtain rfl := hv_3
    refine W.eq (g2 := F0 m 36 ls [.int (nI (n + 1))]) rfl ?_
    refine lv_iconst (v := 1) hx hb dX3_add_36 (by decide) ?_
    refine lv_isub hx hb dX3_add_37 ?_
    refine lv_topi (fun nv_4 ev_4 => ?_)
    obtain rfl : nv_4 = nI n := ev_4.trans (nI_pred n)
    exact kRetI hx hb hr hlk dX3_add_38 hP hD hS (Nat.le_of_ble_eq_true rfl) (Nat.le_of_ble_eq_true rfl) ⟨rfl, rfl⟩
  · exact absurd ((nI_ltI (a := n) (b := 14) (by omega) (by omega)).mpr hn14) c_11

set_option maxHeartbeats 4000000 in
set_option maxRecDepth 100000 in
theorem c_X3_add_d (l : Launch) (D : va_G) (cI cJ cZ cO : ClassId) (h0 : Nat) (pc : Int32) (la : Nat) (mo : Int32) (ea : Nat) (LP : List Nat) (pf : Nat → va_E) (pa : Nat) : kC l D (kTY cI cJ cZ cO) yX3_add wsX3_add 1 20 0 0 [.ref h0, .ref pa] ([(h0, .inr (4, [.ref la, .int pc])), (la, .inr (0, [.int mo, .ref ea, .int (nI 14)]))] ++ va_pl LP pf) (fun rv_ rw_ => rv_ = some (.int (-1)) ∧ rw_ = ([(h0, .inr (4, [.ref la, .int pc])), (la, .inr (0, [.int mo, .ref ea, .int (nI 14)]))] ++ va_pl LP pf)) := by
  refine kEnter (cc := cX3_add) (maxL := 2) (ret := (some .int)) (by decide) rfl (Nat.le_of_ble_eq_true rfl) ?_
  intro p e s m args below meth c hx hb hr hml hts hown hlk hnm hK hP hD hS hA ls hl
  have hl : lv_has ls 2 [(0, .ref h0), (1, .ref pa)] := hl
  have hw_f12 := hts (.fieldLink RX3 12 "WhatToRead$Shelf" "pieces" "Ljava/util/List;") (by decide +kernel)
  have hi_X3 : ∀ w ∈ wsX30, w ∈ wsX3_add := by decide +kernel
  refine lv_aload_n hx hb dX3_add_0 rfl (lv_at hl 0 rfl) ?_
  refine va_get (D := D) (ci := 4) (v := .ref la) (C := RX3) (T := TX3) (N := 2) hx hb hts hi_X3 hown hK.1 hP 0 rfl rfl 0 (by decide) hw_f12 (fun _ h9 => h9) rfl dX3_add_1 ?_
  refine kGo5R (va_runF (As := []) (rest := []) (kAt hK (ci := 0) rfl) ⟨hx, hb, hml, hown, hts⟩ (c_Jx4a65c_size_8abf5 l D cI cJ cZ cO la ea mo 14 ) (va_cwF 0 hts gX3_add_Jx4a65c_size_8abf5_f22Jx4a65c rfl rfl rfl hK.2.2.2.1 (by decide +kernel) ⟨Nat.le_of_ble_eq_true rfl, Nat.le_of_ble_eq_true rfl⟩) (kPreVR (ci := 0) (q0 := 0) hK (kPl_sub hP [1] rfl) rfl rfl rfl) rfl rfl hl.1 rfl (lv_room (Nat.le_of_ble_eq_true rfl)) dX3_add_4 ⟨Nat.le_of_ble_eq_true rfl, Nat.le_of_ble_eq_true rfl⟩) (fun v_1 hv_1 => ?_)
  obtain rfl := hv_1
  refine W.eq (g2 := F0 m 9 ls [.int (nI 14)]) rfl ?_
  refine lv_bipush (v := 14) hx hb dX3_add_9 (by decide) ?_
  refine lv_icmp_lt (tgt := 16) hx hb dX3_add_11 (by decide) (fun c_11 => ?_) (fun c_11 => ?_)
  · exact absurd c_11 (by decide)
  · skip
    refine lv_iconst (v := (-1)) hx hb dX3_add_14 (by decide) ?_
    exact kRetI hx hb hr hlk dX3_add_15 hP hD hS (Nat.le_of_ble_eq_true rfl) (Nat.le_of_ble_eq_true rfl) ⟨rfl, rfl⟩

set_option maxHeartbeats 4000000 in
set_option maxRecDepth 100000 in
theorem c_X7_piece_a (l : Launch) (D : va_G) (cI cJ cZ cO : ClassId) (e0 : Nat) (mi : Nat) (o : Nat) (t0 : Nat) (h0 : Nat) (w0 : Nat) (r0 : Nat) (k0 : Nat) (s0 : Nat) (kn : Int32) (t1 : Nat) (t2 : Nat) (T : Nat) (wo : Nat → Int32) (cl : Nat → Int32) (pc : Int32) (la : Nat) (mo : Int32) (LP : List Nat) (pf : Nat → va_E) (a : Int32) (b1 : Int32) (c1 : Int32) (d1 : Int32) (e1 : Int32) (hok : pcB T a b1 c1 d1 e1 = true) : kCx l D (kTY cI cJ cZ cO) e0 mi yX7_piece wsX7_piece 8 173 2 15 [.ref o, .int a, .int b1, .int c1, .int d1, .int e1] ([(o, .inr (8, [.ref t0, .ref h0, .ref w0, .ref r0, .ref k0, .ref s0, .int kn])), (t0, .inr (5, [.ref t1, .ref t2, .int (nI T)])), (t1, .inl (cI, 12, .inl wo)), (t2, .inl (cI, 12, .inl cl)), (h0, .inr (4, [.ref la, .int pc])), (la, .inr (0, [.int mo, .ref e0, .int 0]))] ++ va_pl LP pf) (fun rv_ rw_ => ∃ q_76 : Nat, ∃ q_52_7_7_20_21_98 : Nat, rv_ = some (.int 0) ∧ rw_ = ([(o, .inr (8, [.ref t0, .ref h0, .ref w0, .ref r0, .ref k0, .ref s0, .int kn])), (t0, .inr (5, [.ref t1, .ref t2, .int (nI T)])), (t1, .inl (cI, 12, .inl wo)), (t2, .inl (cI, 12, .inl cl)), (h0, .inr (4, [.ref la, .int pc])), (la, .inr (0, [.int (mo + 1), .ref q_52_7_7_20_21_98, .int 1]))] ++ va_pl ((LP ++ [q_76]) ++ [q_52_7_7_20_21_98]) (va_up (va_up pf q_76 (pcE a b1 (closF cl c1 12) (closF cl d1 12) e1)) q_52_7_7_20_21_98 (arE cO 10 (va_up (fun _ => none) 0 (some q_76))))) ∧ q_76 ∉ LP ∧ q_52_7_7_20_21_98 ∉ LP ++ [q_76]) := by
  refine kEnterX (cc := cX7_piece) (maxL := 7) (ret := (some .int)) (by decide) rfl (Nat.le_of_ble_eq_true rfl) ?_
  intro p e s m args below meth c hx hb hr hml hts hown hlk hnm hK hX hP hD hS hA ls hl
  have hl : lv_has ls 7 [(0, .ref o), (1, .int a), (2, .int b1), (3, .int c1), (4, .int d1), (5, .int e1)] := hl
  have hw_f12 := hts (.fieldLink RX7 12 "WhatToRead" "topics" "LWhatToRead$Topics;") (by decide +kernel)
  have hi_X7 : ∀ w ∈ wsX70, w ∈ wsX7_piece := by decide +kernel
  have hw_f19 := hts (.fieldLink RX7 19 "WhatToRead" "shelf" "LWhatToRead$Shelf;") (by decide +kernel)
  have hw_c78 := hts (.classLink RX7 78 RX1) (by decide +kernel)
  have hw_nX1 := hts (.instantiable RX1 5) (by decide +kernel)
  have hw_iX1 := hts (.initialized RX1) (by decide +kernel)
  have hi_X1 : ∀ w ∈ wsX10, w ∈ wsX7_piece := by decide +kernel
  have hw_m80 := hts (.methodLink RX7 80 yX1_init) (by decide +kernel)
  have hw_im_X1_init := hts (.instanceMethod yX1_init) (by decide +kernel)
  obtain ⟨y1, y2, y3, y4, y5, y6⟩ := pcB_t hok
  refine lv_aload_n hx hb dX7_piece_0 rfl (lv_at hl 0 rfl) ?_
  refine va_get (D := D) (ci := 8) (v := .ref t0) (C := RX7) (T := TX7) (N := 7) hx hb hts hi_X7 hown hK.1 hP 0 rfl rfl 0 (by decide) hw_f12 (fun _ h9 => h9) rfl dX7_piece_1 ?_
  refine lv_iload_n hx hb dX7_piece_4 rfl (lv_at hl 1 rfl) ?_
  refine kGoR (va_runV (As := [.int a]) (rest := []) ⟨hx, hb, hml, hown, hts⟩ (c_X4_haveAll l D cI cJ cZ cO t0 t1 t2 (nI T) wo cl a ) (cwV 1 hts gX7_piece_X4_haveAll rfl rfl rfl (by decide +kernel) ⟨Nat.le_of_ble_eq_true rfl, Nat.le_of_ble_eq_true rfl⟩) (kPreVR (ci := 5) (q0 := 0) hK (kPl_sub hP [1, 2, 3] rfl) rfl rfl rfl) rfl rfl hl.1 rfl (lv_room (Nat.le_of_ble_eq_true rfl)) dX7_piece_5 ⟨Nat.le_of_ble_eq_true rfl, Nat.le_of_ble_eq_true rfl⟩) (fun v_1 hv_1 => ?_)
  obtain rfl := hv_1
  refine W.eq (g2 := F0 m 8 ls [.int (k01 (haveB (nI T) a))]) rfl ?_
  refine lv_if_eq (tgt := 33) hx hb dX7_piece_8 (by decide) (fun c_8 => ?_) (fun c_8 => ?_)
  · exact absurd c_8 (by rw [y1]; decide)
  · skip
    refine lv_aload_n hx hb dX7_piece_11 rfl (lv_at hl 0 rfl) ?_
    refine va_get (D := D) (ci := 8) (v := .ref t0) (C := RX7) (T := TX7) (N := 7) hx hb hts hi_X7 hown hK.1 hP 0 rfl rfl 0 (by decide) hw_f12 (fun _ h9 => h9) rfl dX7_piece_12 ?_
    refine lv_iload_n hx hb dX7_piece_15 rfl (lv_at hl 2 rfl) ?_
    refine kGoR (va_runV (As := [.int b1]) (rest := []) ⟨hx, hb, hml, hown, hts⟩ (c_X4_haveAll l D cI cJ cZ cO t0 t1 t2 (nI T) wo cl b1 ) (cwV 1 hts gX7_piece_X4_haveAll rfl rfl rfl (by decide +kernel) ⟨Nat.le_of_ble_eq_true rfl, Nat.le_of_ble_eq_true rfl⟩) (kPreVR (ci := 5) (q0 := 0) hK (kPl_sub hP [1, 2, 3] rfl) rfl rfl rfl) rfl rfl hl.1 rfl (lv_room (Nat.le_of_ble_eq_true rfl)) dX7_piece_16 ⟨Nat.le_of_ble_eq_true rfl, Nat.le_of_ble_eq_true rfl⟩) (fun v_2 hv_2 => ?_)
    obtain rfl := hv_2
    refine W.eq (g2 := F0 m 19 ls [.int (k01 (haveB (nI T) b1))]) rfl ?_
    refine lv_if_eq (tgt := 33) hx hb dX7_piece_19 (by decide) (fun c_19 => ?_) (fun c_19 => ?_)
    · exact absurd c_19 (by rw [y2]; decide)
    · skip
      refine lv_aload_n hx hb dX7_piece_22 rfl (lv_at hl 0 rfl) ?_
      refine va_get (D := D) (ci := 8) (v := .ref t0) (C := RX7) (T := TX7) (N := 7) hx hb hts hi_X7 hown hK.1 hP 0 rfl rfl 0 (by decide) hw_f12 (fun _ h9 => h9) rfl dX7_piece_23 ?_
      refine lv_iload_n hx hb dX7_piece_26 rfl (lv_at hl 3 rfl) ?_
      refine kGoR (va_runV (As := [.int c1]) (rest := []) ⟨hx, hb, hml, hown, hts⟩ (c_X4_haveAll l D cI cJ cZ cO t0 t1 t2 (nI T) wo cl c1 ) (cwV 1 hts gX7_piece_X4_haveAll rfl rfl rfl (by decide +kernel) ⟨Nat.le_of_ble_eq_true rfl, Nat.le_of_ble_eq_true rfl⟩) (kPreVR (ci := 5) (q0 := 0) hK (kPl_sub hP [1, 2, 3] rfl) rfl rfl rfl) rfl rfl hl.1 rfl (lv_room (Nat.le_of_ble_eq_true rfl)) dX7_piece_27 ⟨Nat.le_of_ble_eq_true rfl, Nat.le_of_ble_eq_true rfl⟩) (fun v_3 hv_3 => ?_)
      obtain rfl := hv_3
      refine W.eq (g2 := F0 m 30 ls [.int (k01 (haveB (nI T) c1))]) rfl ?_
      refine lv_if_ne (tgt := 35) hx hb dX7_piece_30 (by decide) (fun c_30 => ?_) (fun c_30 => ?_)
      · skip
        refine lv_iload_n hx hb dX7_piece_35 rfl (lv_at hl 3 rfl) ?_
        refine lv_if_eq (tgt := 60) hx hb dX7_piece_36 (by decide) (fun c_36 => ?_) (fun c_36 => ?_)
        · exact absurd c_36 (y4)
        · skip
          refine lv_iload hx hb dX7_piece_39 (lv_at hl 4 rfl) ?_
          refine lv_iload_n hx hb dX7_piece_41 rfl (lv_at hl 3 rfl) ?_
          refine lv_iconst (v := (-1)) hx hb dX7_piece_42 (by decide) ?_
          refine lv_ixor hx hb dX7_piece_43 ?_
          refine lv_iand hx hb dX7_piece_44 ?_
          refine lv_if_ne (tgt := 60) hx hb dX7_piece_45 (by decide) (fun c_45 => ?_) (fun c_45 => ?_)
          · exact absurd (y5) c_45
          · skip
            refine lv_iload hx hb dX7_piece_48 (lv_at hl 5 rfl) ?_
            refine lv_iconst (v := 1) hx hb dX7_piece_50 (by decide) ?_
            refine lv_sipush (v := 400) hx hb dX7_piece_51 (by decide) ?_
            refine kGoR (va_runS (As := [.int e1, .int 1, .int 400]) (rest := []) ⟨hx, hb, hml, hown, hts⟩ (c_X7_isWithin l D cI cJ cZ cO e1 1 400 ) (va_cwS 3 hts gX7_piece_X7_isWithin rfl rfl rfl (by decide +kernel) ⟨Nat.le_of_ble_eq_true rfl, Nat.le_of_ble_eq_true rfl⟩) (kPreSR hK (kPc_sub hP [] rfl)) rfl rfl hl.1 rfl (lv_room (Nat.le_of_ble_eq_true rfl)) dX7_piece_54 ⟨Nat.le_of_ble_eq_true rfl, Nat.le_of_ble_eq_true rfl⟩) (fun v_4 hv_4 => ?_)
            obtain rfl := hv_4
            refine W.eq (g2 := F0 m 57 ls [.int (k01 (withinB e1 1 400))]) rfl ?_
            refine lv_if_ne (tgt := 62) hx hb dX7_piece_57 (by decide) (fun c_57 => ?_) (fun c_57 => ?_)
            · skip
              refine lv_aload_n hx hb dX7_piece_62 rfl (lv_at hl 0 rfl) ?_
              refine va_get (D := D) (ci := 8) (v := .ref t0) (C := RX7) (T := TX7) (N := 7) hx hb hts hi_X7 hown hK.1 hP 0 rfl rfl 0 (by decide) hw_f12 (fun _ h9 => h9) rfl dX7_piece_63 ?_
              refine lv_iload_n hx hb dX7_piece_66 rfl (lv_at hl 3 rfl) ?_
              refine kGoR (va_runV (As := [.int c1]) (rest := []) ⟨hx, hb, hml, hown, hts⟩ (c_X4_closure l D cI cJ cZ cO t0 t1 t2 (nI T) wo cl c1 ) (cwV 1 hts gX7_piece_X4_closure rfl rfl rfl (by decide +kernel) ⟨Nat.le_of_ble_eq_true rfl, Nat.le_of_ble_eq_true rfl⟩) (kPreVR (ci := 5) (q0 := 0) hK (kPl_sub hP [1, 2, 3] rfl) rfl rfl rfl) rfl rfl hl.1 rfl (lv_room (Nat.le_of_ble_eq_true rfl)) dX7_piece_67 ⟨Nat.le_of_ble_eq_true rfl, Nat.le_of_ble_eq_true rfl⟩) (fun v_5 hv_5 => ?_)
              obtain rfl := hv_5
              refine W.eq (g2 := F0 m 70 ls [.int (closF cl c1 12)]) rfl ?_
              refine lv_istore (lv' := [(6, .int (closF cl c1 12)), (0, .ref o), (1, .int a), (2, .int b1), (3, .int c1), (4, .int d1), (5, .int e1)]) hx hb dX7_piece_70 hl (by decide) rfl (fun ls hl => ?_)
              refine lv_aload_n hx hb dX7_piece_72 rfl (lv_at hl 1 rfl) ?_
              refine va_get (D := D) (ci := 8) (v := .ref h0) (C := RX7) (T := TX7) (N := 7) hx hb hts hi_X7 hown hK.1 hP 0 rfl rfl 1 (by decide) hw_f19 (fun _ h9 => h9) rfl dX7_piece_73 ?_
              -- new WhatToRead$Piece
              refine va_new (ci := 2) (fs := [.int 0, .int 0, .int 0, .int 0, .int 0]) (C := RX1) (T := TX1) (N := 5) hx hb hts hi_X1 tyX1 tyX1_ok hown hw_c78 hw_nX1 hw_iX1 hK.1 hP hD hS hA rfl (fun j hj => by rcases (show j = 0 ∨ j = 1 ∨ j = 2 ∨ j = 3 ∨ j = 4 by omega) with rfl | rfl | rfl | rfl | rfl <;> rfl) (Nat.le_of_ble_eq_true rfl) (Nat.le_of_ble_eq_true rfl) dX7_piece_76 (fun q_76 H hP hD hS => ?_)
              have hP : va_P D vwCl (([(o, .inr (8, [.ref t0, .ref h0, .ref w0, .ref r0, .ref k0, .ref s0, .int kn])), (t0, .inr (5, [.ref t1, .ref t2, .int (nI T)])), (t1, .inl (cI, 12, .inl wo)), (t2, .inl (cI, 12, .inl cl)), (h0, .inr (4, [.ref la, .int pc])), (la, .inr (0, [.int mo, .ref e0, .int 0]))] ++ [(q_76, .inr (2, [.int 0, .int 0, .int 0, .int 0, .int 0]))]) ++ va_pl LP pf) H := kFrN hP
              have hD : va_D _ (([(o, .inr (8, [.ref t0, .ref h0, .ref w0, .ref r0, .ref k0, .ref s0, .int kn])), (t0, .inr (5, [.ref t1, .ref t2, .int (nI T)])), (t1, .inl (cI, 12, .inl wo)), (t2, .inl (cI, 12, .inl cl)), (h0, .inr (4, [.ref la, .int pc])), (la, .inr (0, [.int mo, .ref e0, .int 0]))] ++ [(q_76, .inr (2, [.int 0, .int 0, .int 0, .int 0, .int 0]))]) ++ va_pl LP pf) := kFrD hD
              have hP : va_P D vwCl ([(o, .inr (8, [.ref t0, .ref h0, .ref w0, .ref r0, .ref k0, .ref s0, .int kn])), (t0, .inr (5, [.ref t1, .ref t2, .int (nI T)])), (t1, .inl (cI, 12, .inl wo)), (t2, .inl (cI, 12, .inl cl)), (h0, .inr (4, [.ref la, .int pc])), (la, .inr (0, [.int mo, .ref e0, .int 0])), (q_76, .inr (2, [.int 0, .int 0, .int 0, .int 0, .int 0]))] ++ va_pl LP pf) H := hP
              have hD : va_D _ ([(o, .inr (8, [.ref t0, .ref h0, .ref w0, .ref r0, .ref k0, .ref s0, .int kn])), (t0, .inr (5, [.ref t1, .ref t2, .int (nI T)])), (t1, .inl (cI, 12, .inl wo)), (t2, .inl (cI, 12, .inl cl)), (h0, .inr (4, [.ref la, .int pc])), (la, .inr (0, [.int mo, .ref e0, .int 0])), (q_76, .inr (2, [.int 0, .int 0, .int 0, .int 0, .int 0]))] ++ va_pl LP pf) := hD
              refine lv_dup hx hb dX7_piece_79 rfl ?_
              refine lv_iload_n hx hb dX7_piece_80 rfl (lv_at hl 2 rfl) ?_
              refine lv_iload_n hx hb dX7_piece_81 rfl (lv_at hl 3 rfl) ?_
              refine lv_iload hx hb dX7_piece_82 (lv_at hl 0 rfl) ?_
              refine lv_aload_n hx hb dX7_piece_84 rfl (lv_at hl 1 rfl) ?_
              refine va_get (D := D) (ci := 8) (v := .ref t0) (C := RX7) (T := TX7) (N := 7) hx hb hts hi_X7 hown hK.1 hP 0 rfl rfl 0 (by decide) hw_f12 (fun _ h9 => h9) rfl dX7_piece_85 ?_
              refine lv_iload hx hb dX7_piece_88 (lv_at hl 5 rfl) ?_
              refine kGoR (va_runV (As := [.int d1]) (rest := [.int (closF cl c1 12), .int b1, .int a, .ref q_76, .ref q_76, .ref h0]) ⟨hx, hb, hml, hown, hts⟩ (c_X4_closure l D cI cJ cZ cO t0 t1 t2 (nI T) wo cl d1 ) (cwV 1 hts gX7_piece_X4_closure rfl rfl rfl (by decide +kernel) ⟨Nat.le_of_ble_eq_true rfl, Nat.le_of_ble_eq_true rfl⟩) (kPreVR (ci := 5) (q0 := 0) hK (kPl_sub hP [1, 2, 3] rfl) rfl rfl rfl) rfl rfl hl.1 rfl (lv_room (Nat.le_of_ble_eq_true rfl)) dX7_piece_90 ⟨Nat.le_of_ble_eq_true rfl, Nat.le_of_ble_eq_true rfl⟩) (fun v_7 hv_7 => ?_)
              obtain rfl := hv_7
              refine W.eq (g2 := F0 m 93 ls [.int (closF cl d1 12), .int (closF cl c1 12), .int b1, .int a, .ref q_76, .ref q_76, .ref h0]) rfl ?_
              refine lv_iload hx hb dX7_piece_93 (lv_at hl 6 rfl) ?_
              refine kGoQ (cx := [(q_76, .inr (2, [.int 0, .int 0, .int 0, .int 0, .int 0]))]) (wr := [(o, .inr (8, [.ref t0, .ref h0, .ref w0, .ref r0, .ref k0, .ref s0, .int kn])), (t0, .inr (5, [.ref t1, .ref t2, .int (nI T)])), (t1, .inl (cI, 12, .inl wo)), (t2, .inl (cI, 12, .inl cl)), (h0, .inr (4, [.ref la, .int pc])), (la, .inr (0, [.int mo, .ref e0, .int 0]))]) (va_runI (As := [.int a, .int b1, .int (closF cl c1 12), .int (closF cl d1 12), .int e1]) (rest := [.ref q_76, .ref h0]) ⟨hx, hb, hml, hown, hts⟩ (c_X1_init l D cI cJ cZ cO q_76 a b1 (closF cl c1 12) (closF cl d1 12) e1  _) (cwI 5 hts gX7_piece_X1_init rfl rfl rfl hw_iX1 hw_m80 hw_im_X1_init rfl (by decide +kernel) ⟨Nat.le_of_ble_eq_true rfl, Nat.le_of_ble_eq_true rfl⟩) (kPreS hK (kPl_sub hP [6] rfl) ((kDl_sub hD [6] (by decide) rfl).weaken (fun _ _ _ _ => trivial))) rfl rfl hl.1 rfl (lv_room (Nat.le_of_ble_eq_true rfl)) dX7_piece_95 ⟨Nat.le_of_ble_eq_true rfl, Nat.le_of_ble_eq_true rfl⟩) hP hD hS hA [6] [0, 1, 2, 3, 4, 5] rfl rfl (by decide) (by decide) (fun v_8 w_8 H locs hv_8 hP hD hS => ?_)
              obtain ⟨rfl, rfl⟩ := hv_8
              have hP : va_P D vwCl ([(o, .inr (8, [.ref t0, .ref h0, .ref w0, .ref r0, .ref k0, .ref s0, .int kn])), (t0, .inr (5, [.ref t1, .ref t2, .int (nI T)])), (t1, .inl (cI, 12, .inl wo)), (t2, .inl (cI, 12, .inl cl)), (h0, .inr (4, [.ref la, .int pc])), (la, .inr (0, [.int mo, .ref e0, .int 0])), (q_76, .inr (2, [.int a, .int b1, .int (closF cl c1 12), .int (closF cl d1 12), .int e1]))] ++ va_pl LP pf) H := hP.part [0, 1, 2, 3, 4, 5, 6] rfl
              have hD : va_D _ ([(o, .inr (8, [.ref t0, .ref h0, .ref w0, .ref r0, .ref k0, .ref s0, .int kn])), (t0, .inr (5, [.ref t1, .ref t2, .int (nI T)])), (t1, .inl (cI, 12, .inl wo)), (t2, .inl (cI, 12, .inl cl)), (h0, .inr (4, [.ref la, .int pc])), (la, .inr (0, [.int mo, .ref e0, .int 0])), (q_76, .inr (2, [.int a, .int b1, .int (closF cl c1 12), .int (closF cl d1 12), .int e1]))] ++ va_pl LP pf) := hD.part [0, 1, 2, 3, 4, 5, 6] (by decide) rfl
              refine W.eq (g2 := F0 m 98 ls [.ref q_76, .ref h0]) rfl ?_
              have hP : va_P D vwCl (([(o, .inr (8, [.ref t0, .ref h0, .ref w0, .ref r0, .ref k0, .ref s0, .int kn])), (t0, .inr (5, [.ref t1, .ref t2, .int (nI T)])), (t1, .inl (cI, 12, .inl wo)), (t2, .inl (cI, 12, .inl cl)), (h0, .inr (4, [.ref la, .int pc])), (la, .inr (0, [.int mo, .ref e0, .int 0]))] ++ [(q_76, pcE a b1 (closF cl c1 12) (closF cl d1 12) e1)]) ++ va_pl LP pf) H := hP.part [0, 1, 2, 3, 4, 5, 6] rfl
              have hD : va_D _ (([(o, .inr (8, [.ref t0, .ref h0, .ref w0, .ref r0, .ref k0, .ref s0, .int kn])), (t0, .inr (5, [.ref t1, .ref t2, .int (nI T)])), (t1, .inl (cI, 12, .inl wo)), (t2, .inl (cI, 12, .inl cl)), (h0, .inr (4, [.ref la, .int pc])), (la, .inr (0, [.int mo, .ref e0, .int 0]))] ++ [(q_76, pcE a b1 (closF cl c1 12) (closF cl d1 12) e1)]) ++ va_pl LP pf) := hD.part [0, 1, 2, 3, 4, 5, 6] (by decide) rfl
              obtain ⟨hqp, hP, hD⟩ := kToPool hP hD
              have hP : va_P D vwCl ([(o, .inr (8, [.ref t0, .ref h0, .ref w0, .ref r0, .ref k0, .ref s0, .int kn])), (t0, .inr (5, [.ref t1, .ref t2, .int (nI T)])), (t1, .inl (cI, 12, .inl wo)), (t2, .inl (cI, 12, .inl cl)), (h0, .inr (4, [.ref la, .int pc])), (la, .inr (0, [.int mo, .ref e0, .int 0]))] ++ va_pl (LP ++ [q_76]) (va_up pf q_76 (pcE a b1 (closF cl c1 12) (closF cl d1 12) e1))) H := hP
              have hD : va_D _ ([(o, .inr (8, [.ref t0, .ref h0, .ref w0, .ref r0, .ref k0, .ref s0, .int kn])), (t0, .inr (5, [.ref t1, .ref t2, .int (nI T)])), (t1, .inl (cI, 12, .inl wo)), (t2, .inl (cI, 12, .inl cl)), (h0, .inr (4, [.ref la, .int pc])), (la, .inr (0, [.int mo, .ref e0, .int 0]))] ++ va_pl (LP ++ [q_76]) (va_up pf q_76 (pcE a b1 (closF cl c1 12) (closF cl d1 12) e1))) := hD
              refine kGoP (cx := [(h0, .inr (4, [.ref la, .int pc])), (la, .inr (0, [.int mo, .ref e0, .int 0]))]) (wr := [(o, .inr (8, [.ref t0, .ref h0, .ref w0, .ref r0, .ref k0, .ref s0, .int kn])), (t0, .inr (5, [.ref t1, .ref t2, .int (nI T)])), (t1, .inl (cI, 12, .inl wo)), (t2, .inl (cI, 12, .inl cl))]) (va_runV (As := [.ref q_76]) (rest := []) ⟨hx, hb, hml, hown, hts⟩ (c_X3_add_a l D cI cJ cZ cO e0 mi h0 pc la mo (LP ++ [q_76]) (va_up pf q_76 (pcE a b1 (closF cl c1 12) (closF cl d1 12) e1)) q_76 a b1 (closF cl c1 12) (closF cl d1 12) e1 (List.mem_append_right _ List.mem_cons_self) (kup_s) _) (cwV 1 hts gX7_piece_X3_add rfl rfl rfl (by decide +kernel) ⟨Nat.le_of_ble_eq_true rfl, Nat.le_of_ble_eq_true rfl⟩) (kPreVX (ci := 4) (q0 := 0) hK hX hS (va_freeP hD hS hA [4, 5] rfl) (hP.part [4, 5] rfl) ((hD.part [4, 5] (by decide) rfl).weaken (fun _ _ _ _ => trivial)) rfl rfl rfl) rfl rfl hl.1 rfl (lv_room (Nat.le_of_ble_eq_true rfl)) dX7_piece_98 ⟨Nat.le_of_ble_eq_true rfl, Nat.le_of_ble_eq_true rfl⟩) hP hD hS hA [4, 5] [0, 1, 2, 3] rfl rfl (by decide) (by decide) (fun v_9 w_9 H locs hv_9 hP hS => ?_)
              obtain ⟨q_52_7_7_20_21_98, rfl, rfl, hqn_98⟩ := hv_9
              obtain ⟨hP, hD⟩ := hP _ _ rfl
              have hP : va_P D vwCl ([(o, .inr (8, [.ref t0, .ref h0, .ref w0, .ref r0, .ref k0, .ref s0, .int kn])), (t0, .inr (5, [.ref t1, .ref t2, .int (nI T)])), (t1, .inl (cI, 12, .inl wo)), (t2, .inl (cI, 12, .inl cl)), (h0, .inr (4, [.ref la, .int pc])), (la, .inr (0, [.int (mo + 1), .ref q_52_7_7_20_21_98, .int 1]))] ++ va_pl ((LP ++ [q_76]) ++ [q_52_7_7_20_21_98]) (va_up (va_up pf q_76 (pcE a b1 (closF cl c1 12) (closF cl d1 12) e1)) q_52_7_7_20_21_98 (arE cO 10 (va_up (fun _ => none) 0 (some q_76))))) H := hP.part [0, 1, 2, 3, 4, 5] rfl
              have hD : va_D _ ([(o, .inr (8, [.ref t0, .ref h0, .ref w0, .ref r0, .ref k0, .ref s0, .int kn])), (t0, .inr (5, [.ref t1, .ref t2, .int (nI T)])), (t1, .inl (cI, 12, .inl wo)), (t2, .inl (cI, 12, .inl cl)), (h0, .inr (4, [.ref la, .int pc])), (la, .inr (0, [.int (mo + 1), .ref q_52_7_7_20_21_98, .int 1]))] ++ va_pl ((LP ++ [q_76]) ++ [q_52_7_7_20_21_98]) (va_up (va_up pf q_76 (pcE a b1 (closF cl c1 12) (closF cl d1 12) e1)) q_52_7_7_20_21_98 (arE cO 10 (va_up (fun _ => none) 0 (some q_76))))) := hD.part [0, 1, 2, 3, 4, 5] (by decide) rfl
              refine W.eq (g2 := F0 m 101 ls [.int 0]) rfl ?_
              exact kRetI hx hb hr hlk dX7_piece_101 hP hD hS (Nat.le_of_ble_eq_true rfl) (Nat.le_of_ble_eq_true rfl) ⟨q_76, q_52_7_7_20_21_98, rfl, rfl, hqp, hqn_98⟩
            · exact absurd c_57 (by rw [y6]; decide)
      · exact absurd c_30 (by rw [y3]; decide)

set_option maxHeartbeats 4000000 in
set_option maxRecDepth 100000 in
theorem c_X7_piece_b (l : Launch) (D : va_G) (cI cJ cZ cO : ClassId) (e0 : Nat) (mi : Nat) (o : Nat) (t0 : Nat) (h0 : Nat) (w0 : Nat) (r0 : Nat) (k0 : Nat) (s0 : Nat) (kn : Int32) (t1 : Nat) (t2 : Nat) (T : Nat) (wo : Nat → Int32) (cl : Nat → Int32) (pc : Int32) (la : Nat) (mo : Int32) (ea : Nat) (al : Nat → Option Nat) (LP : List Nat) (pf : Nat → va_E) (a : Int32) (b1 : Int32) (c1 : Int32) (d1 : Int32) (e1 : Int32) (hm : ea ∈ LP) (hpf : pf ea = arE cO 10 al) (hel : pcs al LP pf) (hok : pcB T a b1 c1 d1 e1 = true) : kCx l D (kTY cI cJ cZ cO) e0 mi yX7_piece wsX7_piece 8 173 2 20 [.ref o, .int a, .int b1, .int c1, .int d1, .int e1] ([(o, .inr (8, [.ref t0, .ref h0, .ref w0, .ref r0, .ref k0, .ref s0, .int kn])), (t0, .inr (5, [.ref t1, .ref t2, .int (nI T)])), (t1, .inl (cI, 12, .inl wo)), (t2, .inl (cI, 12, .inl cl)), (h0, .inr (4, [.ref la, .int pc])), (la, .inr (0, [.int mo, .ref ea, .int 10]))] ++ va_pl LP pf) (fun rv_ rw_ => ∃ q_76 : Nat, ∃ q_7_6_37_7_7_20_21_98 : Nat, rv_ = some (.int 10) ∧ rw_ = ([(o, .inr (8, [.ref t0, .ref h0, .ref w0, .ref r0, .ref k0, .ref s0, .int kn])), (t0, .inr (5, [.ref t1, .ref t2, .int (nI T)])), (t1, .inl (cI, 12, .inl wo)), (t2, .inl (cI, 12, .inl cl)), (h0, .inr (4, [.ref la, .int pc])), (la, .inr (0, [.int (mo + 1), .ref q_7_6_37_7_7_20_21_98, .int 11]))] ++ va_pl ((LP ++ [q_76]) ++ [q_7_6_37_7_7_20_21_98]) (va_up (va_up pf q_76 (pcE a b1 (closF cl c1 12) (closF cl d1 12) e1)) q_7_6_37_7_7_20_21_98 (arE cO 15 (va_up (fun i => if i < 10 then al i else none) 10 (some q_76))))) ∧ q_76 ∉ LP ∧ q_7_6_37_7_7_20_21_98 ∉ LP ++ [q_76]) := by
  refine kEnterX (cc := cX7_piece) (maxL := 7) (ret := (some .int)) (by decide) rfl (Nat.le_of_ble_eq_true rfl) ?_
  intro p e s m args below meth c hx hb hr hml hts hown hlk hnm hK hX hP hD hS hA ls hl
  have hl : lv_has ls 7 [(0, .ref o), (1, .int a), (2, .int b1), (3, .int c1), (4, .int d1), (5, .int e1)] := hl
  have hw_f12 := hts (.fieldLink RX7 12 "WhatToRead" "topics" "LWhatToRead$Topics;") (by decide +kernel)
  have hi_X7 : ∀ w ∈ wsX70, w ∈ wsX7_piece := by decide +kernel
  have hw_f19 := hts (.fieldLink RX7 19 "WhatToRead" "shelf" "LWhatToRead$Shelf;") (by decide +kernel)
  have hw_c78 := hts (.classLink RX7 78 RX1) (by decide +kernel)
  have hw_nX1 := hts (.instantiable RX1 5) (by decide +kernel)
  have hw_iX1 := hts (.initialized RX1) (by decide +kernel)
  have hi_X1 : ∀ w ∈ wsX10, w ∈ wsX7_piece := by decide +kernel
  have hw_m80 := hts (.methodLink RX7 80 yX1_init) (by decide +kernel)
  have hw_im_X1_init := hts (.instanceMethod yX1_init) (by decide +kernel)
  obtain ⟨y1, y2, y3, y4, y5, y6⟩ := pcB_t hok
  refine lv_aload_n hx hb dX7_piece_0 rfl (lv_at hl 0 rfl) ?_
  refine va_get (D := D) (ci := 8) (v := .ref t0) (C := RX7) (T := TX7) (N := 7) hx hb hts hi_X7 hown hK.1 hP 0 rfl rfl 0 (by decide) hw_f12 (fun _ h9 => h9) rfl dX7_piece_1 ?_
  refine lv_iload_n hx hb dX7_piece_4 rfl (lv_at hl 1 rfl) ?_
  refine kGoR (va_runV (As := [.int a]) (rest := []) ⟨hx, hb, hml, hown, hts⟩ (c_X4_haveAll l D cI cJ cZ cO t0 t1 t2 (nI T) wo cl a ) (cwV 1 hts gX7_piece_X4_haveAll rfl rfl rfl (by decide +kernel) ⟨Nat.le_of_ble_eq_true rfl, Nat.le_of_ble_eq_true rfl⟩) (kPreVR (ci := 5) (q0 := 0) hK (kPl_sub hP [1, 2, 3] rfl) rfl rfl rfl) rfl rfl hl.1 rfl (lv_room (Nat.le_of_ble_eq_true rfl)) dX7_piece_5 ⟨Nat.le_of_ble_eq_true rfl, Nat.le_of_ble_eq_true rfl⟩) (fun v_1 hv_1 => ?_)
  obtain rfl := hv_1
  refine W.eq (g2 := F0 m 8 ls [.int (k01 (haveB (nI T) a))]) rfl ?_
  refine lv_if_eq (tgt := 33) hx hb dX7_piece_8 (by decide) (fun c_8 => ?_) (fun c_8 => ?_)
  · exact absurd c_8 (by rw [y1]; decide)
  · skip
    refine lv_aload_n hx hb dX7_piece_11 rfl (lv_at hl 0 rfl) ?_
    refine va_get (D := D) (ci := 8) (v := .ref t0) (C := RX7) (T := TX7) (N := 7) hx hb hts hi_X7 hown hK.1 hP 0 rfl rfl 0 (by decide) hw_f12 (fun _ h9 => h9) rfl dX7_piece_12 ?_
    refine lv_iload_n hx hb dX7_piece_15 rfl (lv_at hl 2 rfl) ?_
    refine kGoR (va_runV (As := [.int b1]) (rest := []) ⟨hx, hb, hml, hown, hts⟩ (c_X4_haveAll l D cI cJ cZ cO t0 t1 t2 (nI T) wo cl b1 ) (cwV 1 hts gX7_piece_X4_haveAll rfl rfl rfl (by decide +kernel) ⟨Nat.le_of_ble_eq_true rfl, Nat.le_of_ble_eq_true rfl⟩) (kPreVR (ci := 5) (q0 := 0) hK (kPl_sub hP [1, 2, 3] rfl) rfl rfl rfl) rfl rfl hl.1 rfl (lv_room (Nat.le_of_ble_eq_true rfl)) dX7_piece_16 ⟨Nat.le_of_ble_eq_true rfl, Nat.le_of_ble_eq_true rfl⟩) (fun v_2 hv_2 => ?_)
    obtain rfl := hv_2
    refine W.eq (g2 := F0 m 19 ls [.int (k01 (haveB (nI T) b1))]) rfl ?_
    refine lv_if_eq (tgt := 33) hx hb dX7_piece_19 (by decide) (fun c_19 => ?_) (fun c_19 => ?_)
    · exact absurd c_19 (by rw [y2]; decide)
    · skip
      refine lv_aload_n hx hb dX7_piece_22 rfl (lv_at hl 0 rfl) ?_
      refine va_get (D := D) (ci := 8) (v := .ref t0) (C := RX7) (T := TX7) (N := 7) hx hb hts hi_X7 hown hK.1 hP 0 rfl rfl 0 (by decide) hw_f12 (fun _ h9 => h9) rfl dX7_piece_23 ?_
      refine lv_iload_n hx hb dX7_piece_26 rfl (lv_at hl 3 rfl) ?_
      refine kGoR (va_runV (As := [.int c1]) (rest := []) ⟨hx, hb, hml, hown, hts⟩ (c_X4_haveAll l D cI cJ cZ cO t0 t1 t2 (nI T) wo cl c1 ) (cwV 1 hts gX7_piece_X4_haveAll rfl rfl rfl (by decide +kernel) ⟨Nat.le_of_ble_eq_true rfl, Nat.le_of_ble_eq_true rfl⟩) (kPreVR (ci := 5) (q0 := 0) hK (kPl_sub hP [1, 2, 3] rfl) rfl rfl rfl) rfl rfl hl.1 rfl (lv_room (Nat.le_of_ble_eq_true rfl)) dX7_piece_27 ⟨Nat.le_of_ble_eq_true rfl, Nat.le_of_ble_eq_true rfl⟩) (fun v_3 hv_3 => ?_)
      obtain rfl := hv_3
      refine W.eq (g2 := F0 m 30 ls [.int (k01 (haveB (nI T) c1))]) rfl ?_
      refine lv_if_ne (tgt := 35) hx hb dX7_piece_30 (by decide) (fun c_30 => ?_) (fun c_30 => ?_)
      · skip
        refine lv_iload_n hx hb dX7_piece_35 rfl (lv_at hl 3 rfl) ?_
        refine lv_if_eq (tgt := 60) hx hb dX7_piece_36 (by decide) (fun c_36 => ?_) (fun c_36 => ?_)
        · exact absurd c_36 (y4)
        · skip
          refine lv_iload hx hb dX7_piece_39 (lv_at hl 4 rfl) ?_
          refine lv_iload_n hx hb dX7_piece_41 rfl (lv_at hl 3 rfl) ?_
          refine lv_iconst (v := (-1)) hx hb dX7_piece_42 (by decide) ?_
          refine lv_ixor hx hb dX7_piece_43 ?_
          refine lv_iand hx hb dX7_piece_44 ?_
          refine lv_if_ne (tgt := 60) hx hb dX7_piece_45 (by decide) (fun c_45 => ?_) (fun c_45 => ?_)
          · exact absurd (y5) c_45
          · skip
            refine lv_iload hx hb dX7_piece_48 (lv_at hl 5 rfl) ?_
            refine lv_iconst (v := 1) hx hb dX7_piece_50 (by decide) ?_
            refine lv_sipush (v := 400) hx hb dX7_piece_51 (by decide) ?_
            refine kGoR (va_runS (As := [.int e1, .int 1, .int 400]) (rest := []) ⟨hx, hb, hml, hown, hts⟩ (c_X7_isWithin l D cI cJ cZ cO e1 1 400 ) (va_cwS 3 hts gX7_piece_X7_isWithin rfl rfl rfl (by decide +kernel) ⟨Nat.le_of_ble_eq_true rfl, Nat.le_of_ble_eq_true rfl⟩) (kPreSR hK (kPc_sub hP [] rfl)) rfl rfl hl.1 rfl (lv_room (Nat.le_of_ble_eq_true rfl)) dX7_piece_54 ⟨Nat.le_of_ble_eq_true rfl, Nat.le_of_ble_eq_true rfl⟩) (fun v_4 hv_4 => ?_)
            obtain rfl := hv_4
            refine W.eq (g2 := F0 m 57 ls [.int (k01 (withinB e1 1 400))]) rfl ?_
            refine lv_if_ne (tgt := 62) hx hb dX7_piece_57 (by decide) (fun c_57 => ?_) (fun c_57 => ?_)
            · skip
              refine lv_aload_n hx hb dX7_piece_62 rfl (lv_at hl 0 rfl) ?_
              refine va_get (D := D) (ci := 8) (v := .ref t0) (C := RX7) (T := TX7) (N := 7) hx hb hts hi_X7 hown hK.1 hP 0 rfl rfl 0 (by decide) hw_f12 (fun _ h9 => h9) rfl dX7_piece_63 ?_
              refine lv_iload_n hx hb dX7_piece_66 rfl (lv_at hl 3 rfl) ?_
              refine kGoR (va_runV (As := [.int c1]) (rest := []) ⟨hx, hb, hml, hown, hts⟩ (c_X4_closure l D cI cJ cZ cO t0 t1 t2 (nI T) wo cl c1 ) (cwV 1 hts gX7_piece_X4_closure rfl rfl rfl (by decide +kernel) ⟨Nat.le_of_ble_eq_true rfl, Nat.le_of_ble_eq_true rfl⟩) (kPreVR (ci := 5) (q0 := 0) hK (kPl_sub hP [1, 2, 3] rfl) rfl rfl rfl) rfl rfl hl.1 rfl (lv_room (Nat.le_of_ble_eq_true rfl)) dX7_piece_67 ⟨Nat.le_of_ble_eq_true rfl, Nat.le_of_ble_eq_true rfl⟩) (fun v_5 hv_5 => ?_)
              obtain rfl := hv_5
              refine W.eq (g2 := F0 m 70 ls [.int (closF cl c1 12)]) rfl ?_
              refine lv_istore (lv' := [(6, .int (closF cl c1 12)), (0, .ref o), (1, .int a), (2, .int b1), (3, .int c1), (4, .int d1), (5, .int e1)]) hx hb dX7_piece_70 hl (by decide) rfl (fun ls hl => ?_)
              refine lv_aload_n hx hb dX7_piece_72 rfl (lv_at hl 1 rfl) ?_
              refine va_get (D := D) (ci := 8) (v := .ref h0) (C := RX7) (T := TX7) (N := 7) hx hb hts hi_X7 hown hK.1 hP 0 rfl rfl 1 (by decide) hw_f19 (fun _ h9 => h9) rfl dX7_piece_73 ?_
              -- new WhatToRead$Piece
              refine va_new (ci := 2) (fs := [.int 0, .int 0, .int 0, .int 0, .int 0]) (C := RX1) (T := TX1) (N := 5) hx hb hts hi_X1 tyX1 tyX1_ok hown hw_c78 hw_nX1 hw_iX1 hK.1 hP hD hS hA rfl (fun j hj => by rcases (show j = 0 ∨ j = 1 ∨ j = 2 ∨ j = 3 ∨ j = 4 by omega) with rfl | rfl | rfl | rfl | rfl <;> rfl) (Nat.le_of_ble_eq_true rfl) (Nat.le_of_ble_eq_true rfl) dX7_piece_76 (fun q_76 H hP hD hS => ?_)
              have hP : va_P D vwCl (([(o, .inr (8, [.ref t0, .ref h0, .ref w0, .ref r0, .ref k0, .ref s0, .int kn])), (t0, .inr (5, [.ref t1, .ref t2, .int (nI T)])), (t1, .inl (cI, 12, .inl wo)), (t2, .inl (cI, 12, .inl cl)), (h0, .inr (4, [.ref la, .int pc])), (la, .inr (0, [.int mo, .ref ea, .int 10]))] ++ [(q_76, .inr (2, [.int 0, .int 0, .int 0, .int 0, .int 0]))]) ++ va_pl LP pf) H := kFrN hP
              have hD : va_D _ (([(o, .inr (8, [.ref t0, .ref h0, .ref w0, .ref r0, .ref k0, .ref s0, .int kn])), (t0, .inr (5, [.ref t1, .ref t2, .int (nI T)])), (t1, .inl (cI, 12, .inl wo)), (t2, .inl (cI, 12, .inl cl)), (h0, .inr (4, [.ref la, .int pc])), (la, .inr (0, [.int mo, .ref ea, .int 10]))] ++ [(q_76, .inr (2, [.int 0, .int 0, .int 0, .int 0, .int 0]))]) ++ va_pl LP pf) := kFrD hD
              have hP : va_P D vwCl ([(o, .inr (8, [.ref t0, .ref h0, .ref w0, .ref r0, .ref k0, .ref s0, .int kn])), (t0, .inr (5, [.ref t1, .ref t2, .int (nI T)])), (t1, .inl (cI, 12, .inl wo)), (t2, .inl (cI, 12, .inl cl)), (h0, .inr (4, [.ref la, .int pc])), (la, .inr (0, [.int mo, .ref ea, .int 10])), (q_76, .inr (2, [.int 0, .int 0, .int 0, .int 0, .int 0]))] ++ va_pl LP pf) H := hP
              have hD : va_D _ ([(o, .inr (8, [.ref t0, .ref h0, .ref w0, .ref r0, .ref k0, .ref s0, .int kn])), (t0, .inr (5, [.ref t1, .ref t2, .int (nI T)])), (t1, .inl (cI, 12, .inl wo)), (t2, .inl (cI, 12, .inl cl)), (h0, .inr (4, [.ref la, .int pc])), (la, .inr (0, [.int mo, .ref ea, .int 10])), (q_76, .inr (2, [.int 0, .int 0, .int 0, .int 0, .int 0]))] ++ va_pl LP pf) := hD
              refine lv_dup hx hb dX7_piece_79 rfl ?_
              refine lv_iload_n hx hb dX7_piece_80 rfl (lv_at hl 2 rfl) ?_
              refine lv_iload_n hx hb dX7_piece_81 rfl (lv_at hl 3 rfl) ?_
              refine lv_iload hx hb dX7_piece_82 (lv_at hl 0 rfl) ?_
              refine lv_aload_n hx hb dX7_piece_84 rfl (lv_at hl 1 rfl) ?_
              refine va_get (D := D) (ci := 8) (v := .ref t0) (C := RX7) (T := TX7) (N := 7) hx hb hts hi_X7 hown hK.1 hP 0 rfl rfl 0 (by decide) hw_f12 (fun _ h9 => h9) rfl dX7_piece_85 ?_
              refine lv_iload hx hb dX7_piece_88 (lv_at hl 5 rfl) ?_
              refine kGoR (va_runV (As := [.int d1]) (rest := [.int (closF cl c1 12), .int b1, .int a, .ref q_76, .ref q_76, .ref h0]) ⟨hx, hb, hml, hown, hts⟩ (c_X4_closure l D cI cJ cZ cO t0 t1 t2 (nI T) wo cl d1 ) (cwV 1 hts gX7_piece_X4_closure rfl rfl rfl (by decide +kernel) ⟨Nat.le_of_ble_eq_true rfl, Nat.le_of_ble_eq_true rfl⟩) (kPreVR (ci := 5) (q0 := 0) hK (kPl_sub hP [1, 2, 3] rfl) rfl rfl rfl) rfl rfl hl.1 rfl (lv_room (Nat.le_of_ble_eq_true rfl)) dX7_piece_90 ⟨Nat.le_of_ble_eq_true rfl, Nat.le_of_ble_eq_true rfl⟩) (fun v_7 hv_7 => ?_)
              obtain rfl := hv_7
              refine W.eq (g2 := F0 m 93 ls [.int (closF cl d1 12), .int (closF cl c1 12), .int b1, .int a, .ref q_76, .ref q_76, .ref h0]) rfl ?_
              refine lv_iload hx hb dX7_piece_93 (lv_at hl 6 rfl) ?_
              refine kGoQ (cx := [(q_76, .inr (2, [.int 0, .int 0, .int 0, .int 0, .int 0]))]) (wr := [(o, .inr (8, [.ref t0, .ref h0, .ref w0, .ref r0, .ref k0, .ref s0, .int kn])), (t0, .inr (5, [.ref t1, .ref t2, .int (nI T)])), (t1, .inl (cI, 12, .inl wo)), (t2, .inl (cI, 12, .inl cl)), (h0, .inr (4, [.ref la, .int pc])), (la, .inr (0, [.int mo, .ref ea, .int 10]))]) (va_runI (As := [.int a, .int b1, .int (closF cl c1 12), .int (closF cl d1 12), .int e1]) (rest := [.ref q_76, .ref h0]) ⟨hx, hb, hml, hown, hts⟩ (c_X1_init l D cI cJ cZ cO q_76 a b1 (closF cl c1 12) (closF cl d1 12) e1  _) (cwI 5 hts gX7_piece_X1_init rfl rfl rfl hw_iX1 hw_m80 hw_im_X1_init rfl (by decide +kernel) ⟨Nat.le_of_ble_eq_true rfl, Nat.le_of_ble_eq_true rfl⟩) (kPreS hK (kPl_sub hP [6] rfl) ((kDl_sub hD [6] (by decide) rfl).weaken (fun _ _ _ _ => trivial))) rfl rfl hl.1 rfl (lv_room (Nat.le_of_ble_eq_true rfl)) dX7_piece_95 ⟨Nat.le_of_ble_eq_true rfl, Nat.le_of_ble_eq_true rfl⟩) hP hD hS hA [6] [0, 1, 2, 3, 4, 5] rfl rfl (by decide) (by decide) (fun v_8 w_8 H locs hv_8 hP hD hS => ?_)
              obtain ⟨rfl, rfl⟩ := hv_8
              have hP : va_P D vwCl ([(o, .inr (8, [.ref t0, .ref h0, .ref w0, .ref r0, .ref k0, .ref s0, .int kn])), (t0, .inr (5, [.ref t1, .ref t2, .int (nI T)])), (t1, .inl (cI, 12, .inl wo)), (t2, .inl (cI, 12, .inl cl)), (h0, .inr (4, [.ref la, .int pc])), (la, .inr (0, [.int mo, .ref ea, .int 10])), (q_76, .inr (2, [.int a, .int b1, .int (closF cl c1 12), .int (closF cl d1 12), .int e1]))] ++ va_pl LP pf) H := hP.part [0, 1, 2, 3, 4, 5, 6] rfl
              have hD : va_D _ ([(o, .inr (8, [.ref t0, .ref h0, .ref w0, .ref r0, .ref k0, .ref s0, .int kn])), (t0, .inr (5, [.ref t1, .ref t2, .int (nI T)])), (t1, .inl (cI, 12, .inl wo)), (t2, .inl (cI, 12, .inl cl)), (h0, .inr (4, [.ref la, .int pc])), (la, .inr (0, [.int mo, .ref ea, .int 10])), (q_76, .inr (2, [.int a, .int b1, .int (closF cl c1 12), .int (closF cl d1 12), .int e1]))] ++ va_pl LP pf) := hD.part [0, 1, 2, 3, 4, 5, 6] (by decide) rfl
              refine W.eq (g2 := F0 m 98 ls [.ref q_76, .ref h0]) rfl ?_
              have hP : va_P D vwCl (([(o, .inr (8, [.ref t0, .ref h0, .ref w0, .ref r0, .ref k0, .ref s0, .int kn])), (t0, .inr (5, [.ref t1, .ref t2, .int (nI T)])), (t1, .inl (cI, 12, .inl wo)), (t2, .inl (cI, 12, .inl cl)), (h0, .inr (4, [.ref la, .int pc])), (la, .inr (0, [.int mo, .ref ea, .int 10]))] ++ [(q_76, pcE a b1 (closF cl c1 12) (closF cl d1 12) e1)]) ++ va_pl LP pf) H := hP.part [0, 1, 2, 3, 4, 5, 6] rfl
              have hD : va_D _ (([(o, .inr (8, [.ref t0, .ref h0, .ref w0, .ref r0, .ref k0, .ref s0, .int kn])), (t0, .inr (5, [.ref t1, .ref t2, .int (nI T)])), (t1, .inl (cI, 12, .inl wo)), (t2, .inl (cI, 12, .inl cl)), (h0, .inr (4, [.ref la, .int pc])), (la, .inr (0, [.int mo, .ref ea, .int 10]))] ++ [(q_76, pcE a b1 (closF cl c1 12) (closF cl d1 12) e1)]) ++ va_pl LP pf) := hD.part [0, 1, 2, 3, 4, 5, 6] (by decide) rfl
              obtain ⟨hqp, hP, hD⟩ := kToPool hP hD
              have hP : va_P D vwCl ([(o, .inr (8, [.ref t0, .ref h0, .ref w0, .ref r0, .ref k0, .ref s0, .int kn])), (t0, .inr (5, [.ref t1, .ref t2, .int (nI T)])), (t1, .inl (cI, 12, .inl wo)), (t2, .inl (cI, 12, .inl cl)), (h0, .inr (4, [.ref la, .int pc])), (la, .inr (0, [.int mo, .ref ea, .int 10]))] ++ va_pl (LP ++ [q_76]) (va_up pf q_76 (pcE a b1 (closF cl c1 12) (closF cl d1 12) e1))) H := hP
              have hD : va_D _ ([(o, .inr (8, [.ref t0, .ref h0, .ref w0, .ref r0, .ref k0, .ref s0, .int kn])), (t0, .inr (5, [.ref t1, .ref t2, .int (nI T)])), (t1, .inl (cI, 12, .inl wo)), (t2, .inl (cI, 12, .inl cl)), (h0, .inr (4, [.ref la, .int pc])), (la, .inr (0, [.int mo, .ref ea, .int 10]))] ++ va_pl (LP ++ [q_76]) (va_up pf q_76 (pcE a b1 (closF cl c1 12) (closF cl d1 12) e1))) := hD
              refine kGoP (cx := [(h0, .inr (4, [.ref la, .int pc])), (la, .inr (0, [.int mo, .ref ea, .int 10]))]) (wr := [(o, .inr (8, [.ref t0, .ref h0, .ref w0, .ref r0, .ref k0, .ref s0, .int kn])), (t0, .inr (5, [.ref t1, .ref t2, .int (nI T)])), (t1, .inl (cI, 12, .inl wo)), (t2, .inl (cI, 12, .inl cl))]) (va_runV (As := [.ref q_76]) (rest := []) ⟨hx, hb, hml, hown, hts⟩ (c_X3_add_b l D cI cJ cZ cO e0 mi h0 pc la mo ea al (LP ++ [q_76]) (va_up pf q_76 (pcE a b1 (closF cl c1 12) (closF cl d1 12) e1)) q_76 a b1 (closF cl c1 12) (closF cl d1 12) e1 (List.mem_append_left _ hm) ((kup_n (show ea ≠ q_76 from fun z => hqp (z ▸ hm))).trans hpf) (fun i y hy => by obtain ⟨z1, z2, z3, z4, z5, z6, z7⟩ := hel i y hy; exact ⟨List.mem_append_left _ z1, z2, z3, z4, z5, z6, (kup_n (show y ≠ q_76 from fun z => hqp (z ▸ z1))).trans z7⟩) (List.mem_append_right _ List.mem_cons_self) (kup_s) _) (cwV 1 hts gX7_piece_X3_add rfl rfl rfl (by decide +kernel) ⟨Nat.le_of_ble_eq_true rfl, Nat.le_of_ble_eq_true rfl⟩) (kPreVX (ci := 4) (q0 := 0) hK hX hS (va_freeP hD hS hA [4, 5] rfl) (hP.part [4, 5] rfl) ((hD.part [4, 5] (by decide) rfl).weaken (fun _ _ _ _ => trivial)) rfl rfl rfl) rfl rfl hl.1 rfl (lv_room (Nat.le_of_ble_eq_true rfl)) dX7_piece_98 ⟨Nat.le_of_ble_eq_true rfl, Nat.le_of_ble_eq_true rfl⟩) hP hD hS hA [4, 5] [0, 1, 2, 3] rfl rfl (by decide) (by decide) (fun v_9 w_9 H locs hv_9 hP hS => ?_)
              obtain ⟨q_7_6_37_7_7_20_21_98, rfl, rfl, hqn_98⟩ := hv_9
              obtain ⟨hP, hD⟩ := hP _ _ rfl
              have hP : va_P D vwCl ([(o, .inr (8, [.ref t0, .ref h0, .ref w0, .ref r0, .ref k0, .ref s0, .int kn])), (t0, .inr (5, [.ref t1, .ref t2, .int (nI T)])), (t1, .inl (cI, 12, .inl wo)), (t2, .inl (cI, 12, .inl cl)), (h0, .inr (4, [.ref la, .int pc])), (la, .inr (0, [.int (mo + 1), .ref q_7_6_37_7_7_20_21_98, .int 11]))] ++ va_pl ((LP ++ [q_76]) ++ [q_7_6_37_7_7_20_21_98]) (va_up (va_up pf q_76 (pcE a b1 (closF cl c1 12) (closF cl d1 12) e1)) q_7_6_37_7_7_20_21_98 (arE cO 15 (va_up (fun i => if i < 10 then al i else none) 10 (some q_76))))) H := hP.part [0, 1, 2, 3, 4, 5] rfl
              have hD : va_D _ ([(o, .inr (8, [.ref t0, .ref h0, .ref w0, .ref r0, .ref k0, .ref s0, .int kn])), (t0, .inr (5, [.ref t1, .ref t2, .int (nI T)])), (t1, .inl (cI, 12, .inl wo)), (t2, .inl (cI, 12, .inl cl)), (h0, .inr (4, [.ref la, .int pc])), (la, .inr (0, [.int (mo + 1), .ref q_7_6_37_7_7_20_21_98, .int 11]))] ++ va_pl ((LP ++ [q_76]) ++ [q_7_6_37_7_7_20_21_98]) (va_up (va_up pf q_76 (pcE a b1 (closF cl c1 12) (closF cl d1 12) e1)) q_7_6_37_7_7_20_21_98 (arE cO 15 (va_up (fun i => if i < 10 then al i else none) 10 (some q_76))))) := hD.part [0, 1, 2, 3, 4, 5] (by decide) rfl
              refine W.eq (g2 := F0 m 101 ls [.int 10]) rfl ?_
              exact kRetI hx hb hr hlk dX7_piece_101 hP hD hS (Nat.le_of_ble_eq_true rfl) (Nat.le_of_ble_eq_true rfl) ⟨q_76, q_7_6_37_7_7_20_21_98, rfl, rfl, hqp, hqn_98⟩
            · exact absurd c_57 (by rw [y6]; decide)
      · exact absurd c_30 (by rw [y3]; decide)

set_option maxHeartbeats 4000000 in
set_option maxRecDepth 100000 in
theorem c_X7_piece_c (l : Launch) (D : va_G) (cI cJ cZ cO : ClassId) (e0 : Nat) (mi : Nat) (o : Nat) (t0 : Nat) (h0 : Nat) (w0 : Nat) (r0 : Nat) (k0 : Nat) (s0 : Nat) (kn : Int32) (t1 : Nat) (t2 : Nat) (T : Nat) (wo : Nat → Int32) (cl : Nat → Int32) (pc : Int32) (la : Nat) (mo : Int32) (ea : Nat) (al : Nat → Option Nat) (LP : List Nat) (pf : Nat → va_E) (cap : Nat) (n : Nat) (a : Int32) (b1 : Int32) (c1 : Int32) (d1 : Int32) (e1 : Int32) (hm : ea ∈ LP) (hpf : pf ea = arE cO cap al) (hnc : n < cap) (hcap : cap < 4096) (hn14 : n < 14) (hok : pcB T a b1 c1 d1 e1 = true) : kCx l D (kTY cI cJ cZ cO) e0 mi yX7_piece wsX7_piece 8 173 1 5 [.ref o, .int a, .int b1, .int c1, .int d1, .int e1] ([(o, .inr (8, [.ref t0, .ref h0, .ref w0, .ref r0, .ref k0, .ref s0, .int kn])), (t0, .inr (5, [.ref t1, .ref t2, .int (nI T)])), (t1, .inl (cI, 12, .inl wo)), (t2, .inl (cI, 12, .inl cl)), (h0, .inr (4, [.ref la, .int pc])), (la, .inr (0, [.int mo, .ref ea, .int (nI n)]))] ++ va_pl LP pf) (fun rv_ rw_ => ∃ q_76 : Nat, rv_ = some (.int (nI n)) ∧ rw_ = ([(o, .inr (8, [.ref t0, .ref h0, .ref w0, .ref r0, .ref k0, .ref s0, .int kn])), (t0, .inr (5, [.ref t1, .ref t2, .int (nI T)])), (t1, .inl (cI, 12, .inl wo)), (t2, .inl (cI, 12, .inl cl)), (h0, .inr (4, [.ref la, .int pc])), (la, .inr (0, [.int (mo + 1), .ref ea, .int (nI (n + 1))]))] ++ va_pl (LP ++ [q_76]) (va_up (va_up pf q_76 (pcE a b1 (closF cl c1 12) (closF cl d1 12) e1)) ea (arE cO cap (va_up al n (some q_76))))) ∧ q_76 ∉ LP) := by
  refine kEnterX (cc := cX7_piece) (maxL := 7) (ret := (some .int)) (by decide) rfl (Nat.le_of_ble_eq_true rfl) ?_
  intro p e s m args below meth c hx hb hr hml hts hown hlk hnm hK hX hP hD hS hA ls hl
  have hl : lv_has ls 7 [(0, .ref o), (1, .int a), (2, .int b1), (3, .int c1), (4, .int d1), (5, .int e1)] := hl
  have hw_f12 := hts (.fieldLink RX7 12 "WhatToRead" "topics" "LWhatToRead$Topics;") (by decide +kernel)
  have hi_X7 : ∀ w ∈ wsX70, w ∈ wsX7_piece := by decide +kernel
  have hw_f19 := hts (.fieldLink RX7 19 "WhatToRead" "shelf" "LWhatToRead$Shelf;") (by decide +kernel)
  have hw_c78 := hts (.classLink RX7 78 RX1) (by decide +kernel)
  have hw_nX1 := hts (.instantiable RX1 5) (by decide +kernel)
  have hw_iX1 := hts (.initialized RX1) (by decide +kernel)
  have hi_X1 : ∀ w ∈ wsX10, w ∈ wsX7_piece := by decide +kernel
  have hw_m80 := hts (.methodLink RX7 80 yX1_init) (by decide +kernel)
  have hw_im_X1_init := hts (.instanceMethod yX1_init) (by decide +kernel)
  obtain ⟨y1, y2, y3, y4, y5, y6⟩ := pcB_t hok
  refine lv_aload_n hx hb dX7_piece_0 rfl (lv_at hl 0 rfl) ?_
  refine va_get (D := D) (ci := 8) (v := .ref t0) (C := RX7) (T := TX7) (N := 7) hx hb hts hi_X7 hown hK.1 hP 0 rfl rfl 0 (by decide) hw_f12 (fun _ h9 => h9) rfl dX7_piece_1 ?_
  refine lv_iload_n hx hb dX7_piece_4 rfl (lv_at hl 1 rfl) ?_
  refine kGoR (va_runV (As := [.int a]) (rest := []) ⟨hx, hb, hml, hown, hts⟩ (c_X4_haveAll l D cI cJ cZ cO t0 t1 t2 (nI T) wo cl a ) (cwV 1 hts gX7_piece_X4_haveAll rfl rfl rfl (by decide +kernel) ⟨Nat.le_of_ble_eq_true rfl, Nat.le_of_ble_eq_true rfl⟩) (kPreVR (ci := 5) (q0 := 0) hK (kPl_sub hP [1, 2, 3] rfl) rfl rfl rfl) rfl rfl hl.1 rfl (lv_room (Nat.le_of_ble_eq_true rfl)) dX7_piece_5 ⟨Nat.le_of_ble_eq_true rfl, Nat.le_of_ble_eq_true rfl⟩) (fun v_1 hv_1 => ?_)
  obtain rfl := hv_1
  refine W.eq (g2 := F0 m 8 ls [.int (k01 (haveB (nI T) a))]) rfl ?_
  refine lv_if_eq (tgt := 33) hx hb dX7_piece_8 (by decide) (fun c_8 => ?_) (fun c_8 => ?_)
  · exact absurd c_8 (by rw [y1]; decide)
  · skip
    refine lv_aload_n hx hb dX7_piece_11 rfl (lv_at hl 0 rfl) ?_
    refine va_get (D := D) (ci := 8) (v := .ref t0) (C := RX7) (T := TX7) (N := 7) hx hb hts hi_X7 hown hK.1 hP 0 rfl rfl 0 (by decide) hw_f12 (fun _ h9 => h9) rfl dX7_piece_12 ?_
    refine lv_iload_n hx hb dX7_piece_15 rfl (lv_at hl 2 rfl) ?_
    refine kGoR (va_runV (As := [.int b1]) (rest := []) ⟨hx, hb, hml, hown, hts⟩ (c_X4_haveAll l D cI cJ cZ cO t0 t1 t2 (nI T) wo cl b1 ) (cwV 1 hts gX7_piece_X4_haveAll rfl rfl rfl (by decide +kernel) ⟨Nat.le_of_ble_eq_true rfl, Nat.le_of_ble_eq_true rfl⟩) (kPreVR (ci := 5) (q0 := 0) hK (kPl_sub hP [1, 2, 3] rfl) rfl rfl rfl) rfl rfl hl.1 rfl (lv_room (Nat.le_of_ble_eq_true rfl)) dX7_piece_16 ⟨Nat.le_of_ble_eq_true rfl, Nat.le_of_ble_eq_true rfl⟩) (fun v_2 hv_2 => ?_)
    obtain rfl := hv_2
    refine W.eq (g2 := F0 m 19 ls [.int (k01 (haveB (nI T) b1))]) rfl ?_
    refine lv_if_eq (tgt := 33) hx hb dX7_piece_19 (by decide) (fun c_19 => ?_) (fun c_19 => ?_)
    · exact absurd c_19 (by rw [y2]; decide)
    · skip
      refine lv_aload_n hx hb dX7_piece_22 rfl (lv_at hl 0 rfl) ?_
      refine va_get (D := D) (ci := 8) (v := .ref t0) (C := RX7) (T := TX7) (N := 7) hx hb hts hi_X7 hown hK.1 hP 0 rfl rfl 0 (by decide) hw_f12 (fun _ h9 => h9) rfl dX7_piece_23 ?_
      refine lv_iload_n hx hb dX7_piece_26 rfl (lv_at hl 3 rfl) ?_
      refine kGoR (va_runV (As := [.int c1]) (rest := []) ⟨hx, hb, hml, hown, hts⟩ (c_X4_haveAll l D cI cJ cZ cO t0 t1 t2 (nI T) wo cl c1 ) (cwV 1 hts gX7_piece_X4_haveAll rfl rfl rfl (by decide +kernel) ⟨Nat.le_of_ble_eq_true rfl, Nat.le_of_ble_eq_true rfl⟩) (kPreVR (ci := 5) (q0 := 0) hK (kPl_sub hP [1, 2, 3] rfl) rfl rfl rfl) rfl rfl hl.1 rfl (lv_room (Nat.le_of_ble_eq_true rfl)) dX7_piece_27 ⟨Nat.le_of_ble_eq_true rfl, Nat.le_of_ble_eq_true rfl⟩) (fun v_3 hv_3 => ?_)
      obtain rfl := hv_3
      refine W.eq (g2 := F0 m 30 ls [.int (k01 (haveB (nI T) c1))]) rfl ?_
      refine lv_if_ne (tgt := 35) hx hb dX7_piece_30 (by decide) (fun c_30 => ?_) (fun c_30 => ?_)
      · skip
        refine lv_iload_n hx hb dX7_piece_35 rfl (lv_at hl 3 rfl) ?_
        refine lv_if_eq (tgt := 60) hx hb dX7_piece_36 (by decide) (fun c_36 => ?_) (fun c_36 => ?_)
        · exact absurd c_36 (y4)
        · skip
          refine lv_iload hx hb dX7_piece_39 (lv_at hl 4 rfl) ?_
          refine lv_iload_n hx hb dX7_piece_41 rfl (lv_at hl 3 rfl) ?_
          refine lv_iconst (v := (-1)) hx hb dX7_piece_42 (by decide) ?_
          refine lv_ixor hx hb dX7_piece_43 ?_
          refine lv_iand hx hb dX7_piece_44 ?_
          refine lv_if_ne (tgt := 60) hx hb dX7_piece_45 (by decide) (fun c_45 => ?_) (fun c_45 => ?_)
          · exact absurd (y5) c_45
          · skip
            refine lv_iload hx hb dX7_piece_48 (lv_at hl 5 rfl) ?_
            refine lv_iconst (v := 1) hx hb dX7_piece_50 (by decide) ?_
            refine lv_sipush (v := 400) hx hb dX7_piece_51 (by decide) ?_
            refine kGoR (va_runS (As := [.int e1, .int 1, .int 400]) (rest := []) ⟨hx, hb, hml, hown, hts⟩ (c_X7_isWithin l D cI cJ cZ cO e1 1 400 ) (va_cwS 3 hts gX7_piece_X7_isWithin rfl rfl rfl (by decide +kernel) ⟨Nat.le_of_ble_eq_true rfl, Nat.le_of_ble_eq_true rfl⟩) (kPreSR hK (kPc_sub hP [] rfl)) rfl rfl hl.1 rfl (lv_room (Nat.le_of_ble_eq_true rfl)) dX7_piece_54 ⟨Nat.le_of_ble_eq_true rfl, Nat.le_of_ble_eq_true rfl⟩) (fun v_4 hv_4 => ?_)
            obtain rfl := hv_4
            refine W.eq (g2 := F0 m 57 ls [.int (k01 (withinB e1 1 400))]) rfl ?_
            refine lv_if_ne (tgt := 62) hx hb dX7_piece_57 (by decide) (fun c_57 => ?_) (fun c_57 => ?_)
            · skip
              refine lv_aload_n hx hb dX7_piece_62 rfl (lv_at hl 0 rfl) ?_
              refine va_get (D := D) (ci := 8) (v := .ref t0) (C := RX7) (T := TX7) (N := 7) hx hb hts hi_X7 hown hK.1 hP 0 rfl rfl 0 (by decide) hw_f12 (fun _ h9 => h9) rfl dX7_piece_63 ?_
              refine lv_iload_n hx hb dX7_piece_66 rfl (lv_at hl 3 rfl) ?_
              refine kGoR (va_runV (As := [.int c1]) (rest := []) ⟨hx, hb, hml, hown, hts⟩ (c_X4_closure l D cI cJ cZ cO t0 t1 t2 (nI T) wo cl c1 ) (cwV 1 hts gX7_piece_X4_closure rfl rfl rfl (by decide +kernel) ⟨Nat.le_of_ble_eq_true rfl, Nat.le_of_ble_eq_true rfl⟩) (kPreVR (ci := 5) (q0 := 0) hK (kPl_sub hP [1, 2, 3] rfl) rfl rfl rfl) rfl rfl hl.1 rfl (lv_room (Nat.le_of_ble_eq_true rfl)) dX7_piece_67 ⟨Nat.le_of_ble_eq_true rfl, Nat.le_of_ble_eq_true rfl⟩) (fun v_5 hv_5 => ?_)
              obtain rfl := hv_5
              refine W.eq (g2 := F0 m 70 ls [.int (closF cl c1 12)]) rfl ?_
              refine lv_istore (lv' := [(6, .int (closF cl c1 12)), (0, .ref o), (1, .int a), (2, .int b1), (3, .int c1), (4, .int d1), (5, .int e1)]) hx hb dX7_piece_70 hl (by decide) rfl (fun ls hl => ?_)
              refine lv_aload_n hx hb dX7_piece_72 rfl (lv_at hl 1 rfl) ?_
              refine va_get (D := D) (ci := 8) (v := .ref h0) (C := RX7) (T := TX7) (N := 7) hx hb hts hi_X7 hown hK.1 hP 0 rfl rfl 1 (by decide) hw_f19 (fun _ h9 => h9) rfl dX7_piece_73 ?_
              -- new WhatToRead$Piece
              refine va_new (ci := 2) (fs := [.int 0, .int 0, .int 0, .int 0, .int 0]) (C := RX1) (T := TX1) (N := 5) hx hb hts hi_X1 tyX1 tyX1_ok hown hw_c78 hw_nX1 hw_iX1 hK.1 hP hD hS hA rfl (fun j hj => by rcases (show j = 0 ∨ j = 1 ∨ j = 2 ∨ j = 3 ∨ j = 4 by omega) with rfl | rfl | rfl | rfl | rfl <;> rfl) (Nat.le_of_ble_eq_true rfl) (Nat.le_of_ble_eq_true rfl) dX7_piece_76 (fun q_76 H hP hD hS => ?_)
              have hP : va_P D vwCl (([(o, .inr (8, [.ref t0, .ref h0, .ref w0, .ref r0, .ref k0, .ref s0, .int kn])), (t0, .inr (5, [.ref t1, .ref t2, .int (nI T)])), (t1, .inl (cI, 12, .inl wo)), (t2, .inl (cI, 12, .inl cl)), (h0, .inr (4, [.ref la, .int pc])), (la, .inr (0, [.int mo, .ref ea, .int (nI n)]))] ++ [(q_76, .inr (2, [.int 0, .int 0, .int 0, .int 0, .int 0]))]) ++ va_pl LP pf) H := kFrN hP
              have hD : va_D _ (([(o, .inr (8, [.ref t0, .ref h0, .ref w0, .ref r0, .ref k0, .ref s0, .int kn])), (t0, .inr (5, [.ref t1, .ref t2, .int (nI T)])), (t1, .inl (cI, 12, .inl wo)), (t2, .inl (cI, 12, .inl cl)), (h0, .inr (4, [.ref la, .int pc])), (la, .inr (0, [.int mo, .ref ea, .int (nI n)]))] ++ [(q_76, .inr (2, [.int 0, .int 0, .int 0, .int 0, .int 0]))]) ++ va_pl LP pf) := kFrD hD
              have hP : va_P D vwCl ([(o, .inr (8, [.ref t0, .ref h0, .ref w0, .ref r0, .ref k0, .ref s0, .int kn])), (t0, .inr (5, [.ref t1, .ref t2, .int (nI T)])), (t1, .inl (cI, 12, .inl wo)), (t2, .inl (cI, 12, .inl cl)), (h0, .inr (4, [.ref la, .int pc])), (la, .inr (0, [.int mo, .ref ea, .int (nI n)])), (q_76, .inr (2, [.int 0, .int 0, .int 0, .int 0, .int 0]))] ++ va_pl LP pf) H := hP
              have hD : va_D _ ([(o, .inr (8, [.ref t0, .ref h0, .ref w0, .ref r0, .ref k0, .ref s0, .int kn])), (t0, .inr (5, [.ref t1, .ref t2, .int (nI T)])), (t1, .inl (cI, 12, .inl wo)), (t2, .inl (cI, 12, .inl cl)), (h0, .inr (4, [.ref la, .int pc])), (la, .inr (0, [.int mo, .ref ea, .int (nI n)])), (q_76, .inr (2, [.int 0, .int 0, .int 0, .int 0, .int 0]))] ++ va_pl LP pf) := hD
              refine lv_dup hx hb dX7_piece_79 rfl ?_
              refine lv_iload_n hx hb dX7_piece_80 rfl (lv_at hl 2 rfl) ?_
              refine lv_iload_n hx hb dX7_piece_81 rfl (lv_at hl 3 rfl) ?_
              refine lv_iload hx hb dX7_piece_82 (lv_at hl 0 rfl) ?_
              refine lv_aload_n hx hb dX7_piece_84 rfl (lv_at hl 1 rfl) ?_
              refine va_get (D := D) (ci := 8) (v := .ref t0) (C := RX7) (T := TX7) (N := 7) hx hb hts hi_X7 hown hK.1 hP 0 rfl rfl 0 (by decide) hw_f12 (fun _ h9 => h9) rfl dX7_piece_85 ?_
              refine lv_iload hx hb dX7_piece_88 (lv_at hl 5 rfl) ?_
              refine kGoR (va_runV (As := [.int d1]) (rest := [.int (closF cl c1 12), .int b1, .int a, .ref q_76, .ref q_76, .ref h0]) ⟨hx, hb, hml, hown, hts⟩ (c_X4_closure l D cI cJ cZ cO t0 t1 t2 (nI T) wo cl d1 ) (cwV 1 hts gX7_piece_X4_closure rfl rfl rfl (by decide +kernel) ⟨Nat.le_of_ble_eq_true rfl, Nat.le_of_ble_eq_true rfl⟩) (kPreVR (ci := 5) (q0 := 0) hK (kPl_sub hP [1, 2, 3] rfl) rfl rfl rfl) rfl rfl hl.1 rfl (lv_room (Nat.le_of_ble_eq_true rfl)) dX7_piece_90 ⟨Nat.le_of_ble_eq_true rfl, Nat.le_of_ble_eq_true rfl⟩) (fun v_7 hv_7 => ?_)
              obtain rfl := hv_7
              refine W.eq (g2 := F0 m 93 ls [.int (closF cl d1 12), .int (closF cl c1 12), .int b1, .int a, .ref q_76, .ref q_76, .ref h0]) rfl ?_
              refine lv_iload hx hb dX7_piece_93 (lv_at hl 6 rfl) ?_
              refine kGoQ (cx := [(q_76, .inr (2, [.int 0, .int 0, .int 0, .int 0, .int 0]))]) (wr := [(o, .inr (8, [.ref t0, .ref h0, .ref w0, .ref r0, .ref k0, .ref s0, .int kn])), (t0, .inr (5, [.ref t1, .ref t2, .int (nI T)])), (t1, .inl (cI, 12, .inl wo)), (t2, .inl (cI, 12, .inl cl)), (h0, .inr (4, [.ref la, .int pc])), (la, .inr (0, [.int mo, .ref ea, .int (nI n)]))]) (va_runI (As := [.int a, .int b1, .int (closF cl c1 12), .int (closF cl d1 12), .int e1]) (rest := [.ref q_76, .ref h0]) ⟨hx, hb, hml, hown, hts⟩ (c_X1_init l D cI cJ cZ cO q_76 a b1 (closF cl c1 12) (closF cl d1 12) e1  _) (cwI 5 hts gX7_piece_X1_init rfl rfl rfl hw_iX1 hw_m80 hw_im_X1_init rfl (by decide +kernel) ⟨Nat.le_of_ble_eq_true rfl, Nat.le_of_ble_eq_true rfl⟩) (kPreS hK (kPl_sub hP [6] rfl) ((kDl_sub hD [6] (by decide) rfl).weaken (fun _ _ _ _ => trivial))) rfl rfl hl.1 rfl (lv_room (Nat.le_of_ble_eq_true rfl)) dX7_piece_95 ⟨Nat.le_of_ble_eq_true rfl, Nat.le_of_ble_eq_true rfl⟩) hP hD hS hA [6] [0, 1, 2, 3, 4, 5] rfl rfl (by decide) (by decide) (fun v_8 w_8 H locs hv_8 hP hD hS => ?_)
              obtain ⟨rfl, rfl⟩ := hv_8
              have hP : va_P D vwCl ([(o, .inr (8, [.ref t0, .ref h0, .ref w0, .ref r0, .ref k0, .ref s0, .int kn])), (t0, .inr (5, [.ref t1, .ref t2, .int (nI T)])), (t1, .inl (cI, 12, .inl wo)), (t2, .inl (cI, 12, .inl cl)), (h0, .inr (4, [.ref la, .int pc])), (la, .inr (0, [.int mo, .ref ea, .int (nI n)])), (q_76, .inr (2, [.int a, .int b1, .int (closF cl c1 12), .int (closF cl d1 12), .int e1]))] ++ va_pl LP pf) H := hP.part [0, 1, 2, 3, 4, 5, 6] rfl
              have hD : va_D _ ([(o, .inr (8, [.ref t0, .ref h0, .ref w0, .ref r0, .ref k0, .ref s0, .int kn])), (t0, .inr (5, [.ref t1, .ref t2, .int (nI T)])), (t1, .inl (cI, 12, .inl wo)), (t2, .inl (cI, 12, .inl cl)), (h0, .inr (4, [.ref la, .int pc])), (la, .inr (0, [.int mo, .ref ea, .int (nI n)])), (q_76, .inr (2, [.int a, .int b1, .int (closF cl c1 12), .int (closF cl d1 12), .int e1]))] ++ va_pl LP pf) := hD.part [0, 1, 2, 3, 4, 5, 6] (by decide) rfl
              refine W.eq (g2 := F0 m 98 ls [.ref q_76, .ref h0]) rfl ?_
              have hP : va_P D vwCl (([(o, .inr (8, [.ref t0, .ref h0, .ref w0, .ref r0, .ref k0, .ref s0, .int kn])), (t0, .inr (5, [.ref t1, .ref t2, .int (nI T)])), (t1, .inl (cI, 12, .inl wo)), (t2, .inl (cI, 12, .inl cl)), (h0, .inr (4, [.ref la, .int pc])), (la, .inr (0, [.int mo, .ref ea, .int (nI n)]))] ++ [(q_76, pcE a b1 (closF cl c1 12) (closF cl d1 12) e1)]) ++ va_pl LP pf) H := hP.part [0, 1, 2, 3, 4, 5, 6] rfl
              have hD : va_D _ (([(o, .inr (8, [.ref t0, .ref h0, .ref w0, .ref r0, .ref k0, .ref s0, .int kn])), (t0, .inr (5, [.ref t1, .ref t2, .int (nI T)])), (t1, .inl (cI, 12, .inl wo)), (t2, .inl (cI, 12, .inl cl)), (h0, .inr (4, [.ref la, .int pc])), (la, .inr (0, [.int mo, .ref ea, .int (nI n)]))] ++ [(q_76, pcE a b1 (closF cl c1 12) (closF cl d1 12) e1)]) ++ va_pl LP pf) := hD.part [0, 1, 2, 3, 4, 5, 6] (by decide) rfl
              obtain ⟨hqp, hP, hD⟩ := kToPool hP hD
              have hP : va_P D vwCl ([(o, .inr (8, [.ref t0, .ref h0, .ref w0, .ref r0, .ref k0, .ref s0, .int kn])), (t0, .inr (5, [.ref t1, .ref t2, .int (nI T)])), (t1, .inl (cI, 12, .inl wo)), (t2, .inl (cI, 12, .inl cl)), (h0, .inr (4, [.ref la, .int pc])), (la, .inr (0, [.int mo, .ref ea, .int (nI n)]))] ++ va_pl (LP ++ [q_76]) (va_up pf q_76 (pcE a b1 (closF cl c1 12) (closF cl d1 12) e1))) H := hP
              have hD : va_D _ ([(o, .inr (8, [.ref t0, .ref h0, .ref w0, .ref r0, .ref k0, .ref s0, .int kn])), (t0, .inr (5, [.ref t1, .ref t2, .int (nI T)])), (t1, .inl (cI, 12, .inl wo)), (t2, .inl (cI, 12, .inl cl)), (h0, .inr (4, [.ref la, .int pc])), (la, .inr (0, [.int mo, .ref ea, .int (nI n)]))] ++ va_pl (LP ++ [q_76]) (va_up pf q_76 (pcE a b1 (closF cl c1 12) (closF cl d1 12) e1))) := hD
              refine kGoP (cx := [(h0, .inr (4, [.ref la, .int pc])), (la, .inr (0, [.int mo, .ref ea, .int (nI n)]))]) (wr := [(o, .inr (8, [.ref t0, .ref h0, .ref w0, .ref r0, .ref k0, .ref s0, .int kn])), (t0, .inr (5, [.ref t1, .ref t2, .int (nI T)])), (t1, .inl (cI, 12, .inl wo)), (t2, .inl (cI, 12, .inl cl))]) (va_runV (As := [.ref q_76]) (rest := []) ⟨hx, hb, hml, hown, hts⟩ (c_X3_add_c l D cI cJ cZ cO e0 mi h0 pc la mo ea al (LP ++ [q_76]) (va_up pf q_76 (pcE a b1 (closF cl c1 12) (closF cl d1 12) e1)) cap n q_76 a b1 (closF cl c1 12) (closF cl d1 12) e1 (List.mem_append_left _ hm) ((kup_n (show ea ≠ q_76 from fun z => hqp (z ▸ hm))).trans hpf) (by first | assumption | omega | decide) (by first | assumption | omega | decide) (List.mem_append_right _ List.mem_cons_self) (kup_s) (by first | assumption | omega | decide) _) (cwV 1 hts gX7_piece_X3_add rfl rfl rfl (by decide +kernel) ⟨Nat.le_of_ble_eq_true rfl, Nat.le_of_ble_eq_true rfl⟩) (kPreVX (ci := 4) (q0 := 0) hK hX hS (va_freeP hD hS hA [4, 5] rfl) (hP.part [4, 5] rfl) ((hD.part [4, 5] (by decide) rfl).weaken (fun _ _ _ _ => trivial)) rfl rfl rfl) rfl rfl hl.1 rfl (lv_room (Nat.le_of_ble_eq_true rfl)) dX7_piece_98 ⟨Nat.le_of_ble_eq_true rfl, Nat.le_of_ble_eq_true rfl⟩) hP hD hS hA [4, 5] [0, 1, 2, 3] rfl rfl (by decide) (by decide) (fun v_9 w_9 H locs hv_9 hP hS => ?_)
              obtain ⟨rfl, rfl⟩ := hv_9
              obtain ⟨hP, hD⟩ := hP _ _ rfl
              have hP : va_P D vwCl ([(o, .inr (8, [.ref t0, .ref h0, .ref w0, .ref r0, .ref k0, .ref s0, .int kn])), (t0, .inr (5, [.ref t1, .ref t2, .int (nI T)])), (t1, .inl (cI, 12, .inl wo)), (t2, .inl (cI, 12, .inl cl)), (h0, .inr (4, [.ref la, .int pc])), (la, .inr (0, [.int (mo + 1), .ref ea, .int (nI (n + 1))]))] ++ va_pl (LP ++ [q_76]) (va_up (va_up pf q_76 (pcE a b1 (closF cl c1 12) (closF cl d1 12) e1)) ea (arE cO cap (va_up al n (some q_76))))) H := hP.part [0, 1, 2, 3, 4, 5] rfl
              have hD : va_D _ ([(o, .inr (8, [.ref t0, .ref h0, .ref w0, .ref r0, .ref k0, .ref s0, .int kn])), (t0, .inr (5, [.ref t1, .ref t2, .int (nI T)])), (t1, .inl (cI, 12, .inl wo)), (t2, .inl (cI, 12, .inl cl)), (h0, .inr (4, [.ref la, .int pc])), (la, .inr (0, [.int (mo + 1), .ref ea, .int (nI (n + 1))]))] ++ va_pl (LP ++ [q_76]) (va_up (va_up pf q_76 (pcE a b1 (closF cl c1 12) (closF cl d1 12) e1)) ea (arE cO cap (va_up al n (some q_76))))) := hD.part [0, 1, 2, 3, 4, 5] (by decide) rfl
              refine W.eq (g2 := F0 m 101 ls [.int (nI n)]) rfl ?_
              exact kRetI hx hb hr hlk dX7_piece_101 hP hD hS (Nat.le_of_ble_eq_true rfl) (Nat.le_of_ble_eq_true rfl) ⟨q_76, rfl, rfl, hqp⟩
            · exact absurd c_57 (by rw [y6]; decide)
      · exact absurd c_30 (by rw [y3]; decide)

set_option maxHeartbeats 4000000 in
set_option maxRecDepth 100000 in
theorem c_X7_piece_d (l : Launch) (D : va_G) (cI cJ cZ cO : ClassId) (o : Nat) (t0 : Nat) (h0 : Nat) (w0 : Nat) (r0 : Nat) (k0 : Nat) (s0 : Nat) (kn : Int32) (t1 : Nat) (t2 : Nat) (T : Nat) (wo : Nat → Int32) (cl : Nat → Int32) (pc : Int32) (la : Nat) (mo : Int32) (ea : Nat) (LP : List Nat) (pf : Nat → va_E) (a : Int32) (b1 : Int32) (c1 : Int32) (d1 : Int32) (e1 : Int32) (hok : pcB T a b1 c1 d1 e1 = true) : kC l D (kTY cI cJ cZ cO) yX7_piece wsX7_piece 8 173 1 5 [.ref o, .int a, .int b1, .int c1, .int d1, .int e1] ([(o, .inr (8, [.ref t0, .ref h0, .ref w0, .ref r0, .ref k0, .ref s0, .int kn])), (t0, .inr (5, [.ref t1, .ref t2, .int (nI T)])), (t1, .inl (cI, 12, .inl wo)), (t2, .inl (cI, 12, .inl cl)), (h0, .inr (4, [.ref la, .int pc])), (la, .inr (0, [.int mo, .ref ea, .int (nI 14)]))] ++ va_pl LP pf) (fun rv_ rw_ => ∃ q_76 : Nat, rv_ = some (.int (-1)) ∧ rw_ = ([(o, .inr (8, [.ref t0, .ref h0, .ref w0, .ref r0, .ref k0, .ref s0, .int kn])), (t0, .inr (5, [.ref t1, .ref t2, .int (nI T)])), (t1, .inl (cI, 12, .inl wo)), (t2, .inl (cI, 12, .inl cl)), (h0, .inr (4, [.ref la, .int pc])), (la, .inr (0, [.int mo, .ref ea, .int (nI 14)]))] ++ va_pl (LP ++ [q_76]) (va_up pf q_76 (pcE a b1 (closF cl c1 12) (closF cl d1 12) e1))) ∧ q_76 ∉ LP) := by
  refine kEnter (cc := cX7_piece) (maxL := 7) (ret := (some .int)) (by decide) rfl (Nat.le_of_ble_eq_true rfl) ?_
  intro p e s m args below meth c hx hb hr hml hts hown hlk hnm hK hP hD hS hA ls hl
  have hl : lv_has ls 7 [(0, .ref o), (1, .int a), (2, .int b1), (3, .int c1), (4, .int d1), (5, .int e1)] := hl
  have hw_f12 := hts (.fieldLink RX7 12 "WhatToRead" "topics" "LWhatToRead$Topics;") (by decide +kernel)
  have hi_X7 : ∀ w ∈ wsX70, w ∈ wsX7_piece := by decide +kernel
  have hw_f19 := hts (.fieldLink RX7 19 "WhatToRead" "shelf" "LWhatToRead$Shelf;") (by decide +kernel)
  have hw_c78 := hts (.classLink RX7 78 RX1) (by decide +kernel)
  have hw_nX1 := hts (.instantiable RX1 5) (by decide +kernel)
  have hw_iX1 := hts (.initialized RX1) (by decide +kernel)
  have hi_X1 : ∀ w ∈ wsX10, w ∈ wsX7_piece := by decide +kernel
  have hw_m80 := hts (.methodLink RX7 80 yX1_init) (by decide +kernel)
  have hw_im_X1_init := hts (.instanceMethod yX1_init) (by decide +kernel)
  obtain ⟨y1, y2, y3, y4, y5, y6⟩ := pcB_t hok
  refine lv_aload_n hx hb dX7_piece_0 rfl (lv_at hl 0 rfl) ?_
  refine va_get (D := D) (ci := 8) (v := .ref t0) (C := RX7) (T := TX7) (N := 7) hx hb hts hi_X7 hown hK.1 hP 0 rfl rfl 0 (by decide) hw_f12 (fun _ h9 => h9) rfl dX7_piece_1 ?_
  refine lv_iload_n hx hb dX7_piece_4 rfl (lv_at hl 1 rfl) ?_
  refine kGoR (va_runV (As := [.int a]) (rest := []) ⟨hx, hb, hml, hown, hts⟩ (c_X4_haveAll l D cI cJ cZ cO t0 t1 t2 (nI T) wo cl a ) (cwV 1 hts gX7_piece_X4_haveAll rfl rfl rfl (by decide +kernel) ⟨Nat.le_of_ble_eq_true rfl, Nat.le_of_ble_eq_true rfl⟩) (kPreVR (ci := 5) (q0 := 0) hK (kPl_sub hP [1, 2, 3] rfl) rfl rfl rfl) rfl rfl hl.1 rfl (lv_room (Nat.le_of_ble_eq_true rfl)) dX7_piece_5 ⟨Nat.le_of_ble_eq_true rfl, Nat.le_of_ble_eq_true rfl⟩) (fun v_1 hv_1 => ?_)
  obtain rfl := hv_1
  refine W.eq (g2 := F0 m 8 ls [.int (k01 (haveB (nI T) a))]) rfl ?_
  refine lv_if_eq (tgt := 33) hx hb dX7_piece_8 (by decide) (fun c_8 => ?_) (fun c_8 => ?_)
  · exact absurd c_8 (by rw [y1]; decide)
  · skip
    refine lv_aload_n hx hb dX7_piece_11 rfl (lv_at hl 0 rfl) ?_
    refine va_get (D := D) (ci := 8) (v := .ref t0) (C := RX7) (T := TX7) (N := 7) hx hb hts hi_X7 hown hK.1 hP 0 rfl rfl 0 (by decide) hw_f12 (fun _ h9 => h9) rfl dX7_piece_12 ?_
    refine lv_iload_n hx hb dX7_piece_15 rfl (lv_at hl 2 rfl) ?_
    refine kGoR (va_runV (As := [.int b1]) (rest := []) ⟨hx, hb, hml, hown, hts⟩ (c_X4_haveAll l D cI cJ cZ cO t0 t1 t2 (nI T) wo cl b1 ) (cwV 1 hts gX7_piece_X4_haveAll rfl rfl rfl (by decide +kernel) ⟨Nat.le_of_ble_eq_true rfl, Nat.le_of_ble_eq_true rfl⟩) (kPreVR (ci := 5) (q0 := 0) hK (kPl_sub hP [1, 2, 3] rfl) rfl rfl rfl) rfl rfl hl.1 rfl (lv_room (Nat.le_of_ble_eq_true rfl)) dX7_piece_16 ⟨Nat.le_of_ble_eq_true rfl, Nat.le_of_ble_eq_true rfl⟩) (fun v_2 hv_2 => ?_)
    obtain rfl := hv_2
    refine W.eq (g2 := F0 m 19 ls [.int (k01 (haveB (nI T) b1))]) rfl ?_
    refine lv_if_eq (tgt := 33) hx hb dX7_piece_19 (by decide) (fun c_19 => ?_) (fun c_19 => ?_)
    · exact absurd c_19 (by rw [y2]; decide)
    · skip
      refine lv_aload_n hx hb dX7_piece_22 rfl (lv_at hl 0 rfl) ?_
      refine va_get (D := D) (ci := 8) (v := .ref t0) (C := RX7) (T := TX7) (N := 7) hx hb hts hi_X7 hown hK.1 hP 0 rfl rfl 0 (by decide) hw_f12 (fun _ h9 => h9) rfl dX7_piece_23 ?_
      refine lv_iload_n hx hb dX7_piece_26 rfl (lv_at hl 3 rfl) ?_
      refine kGoR (va_runV (As := [.int c1]) (rest := []) ⟨hx, hb, hml, hown, hts⟩ (c_X4_haveAll l D cI cJ cZ cO t0 t1 t2 (nI T) wo cl c1 ) (cwV 1 hts gX7_piece_X4_haveAll rfl rfl rfl (by decide +kernel) ⟨Nat.le_of_ble_eq_true rfl, Nat.le_of_ble_eq_true rfl⟩) (kPreVR (ci := 5) (q0 := 0) hK (kPl_sub hP [1, 2, 3] rfl) rfl rfl rfl) rfl rfl hl.1 rfl (lv_room (Nat.le_of_ble_eq_true rfl)) dX7_piece_27 ⟨Nat.le_of_ble_eq_true rfl, Nat.le_of_ble_eq_true rfl⟩) (fun v_3 hv_3 => ?_)
      obtain rfl := hv_3
      refine W.eq (g2 := F0 m 30 ls [.int (k01 (haveB (nI T) c1))]) rfl ?_
      refine lv_if_ne (tgt := 35) hx hb dX7_piece_30 (by decide) (fun c_30 => ?_) (fun c_30 => ?_)
      · skip
        refine lv_iload_n hx hb dX7_piece_35 rfl (lv_at hl 3 rfl) ?_
        refine lv_if_eq (tgt := 60) hx hb dX7_piece_36 (by decide) (fun c_36 => ?_) (fun c_36 => ?_)
        · exact absurd c_36 (y4)
        · skip
          refine lv_iload hx hb dX7_piece_39 (lv_at hl 4 rfl) ?_
          refine lv_iload_n hx hb dX7_piece_41 rfl (lv_at hl 3 rfl) ?_
          refine lv_iconst (v := (-1)) hx hb dX7_piece_42 (by decide) ?_
          refine lv_ixor hx hb dX7_piece_43 ?_
          refine lv_iand hx hb dX7_piece_44 ?_
          refine lv_if_ne (tgt := 60) hx hb dX7_piece_45 (by decide) (fun c_45 => ?_) (fun c_45 => ?_)
          · exact absurd (y5) c_45
          · skip
            refine lv_iload hx hb dX7_piece_48 (lv_at hl 5 rfl) ?_
            refine lv_iconst (v := 1) hx hb dX7_piece_50 (by decide) ?_
            refine lv_sipush (v := 400) hx hb dX7_piece_51 (by decide) ?_
            refine kGoR (va_runS (As := [.int e1, .int 1, .int 400]) (rest := []) ⟨hx, hb, hml, hown, hts⟩ (c_X7_isWithin l D cI cJ cZ cO e1 1 400 ) (va_cwS 3 hts gX7_piece_X7_isWithin rfl rfl rfl (by decide +kernel) ⟨Nat.le_of_ble_eq_true rfl, Nat.le_of_ble_eq_true rfl⟩) (kPreSR hK (kPc_sub hP [] rfl)) rfl rfl hl.1 rfl (lv_room (Nat.le_of_ble_eq_true rfl)) dX7_piece_54 ⟨Nat.le_of_ble_eq_true rfl, Nat.le_of_ble_eq_true rfl⟩) (fun v_4 hv_4 => ?_)
            obtain rfl := hv_4
            refine W.eq (g2 := F0 m 57 ls [.int (k01 (withinB e1 1 400))]) rfl ?_
            refine lv_if_ne (tgt := 62) hx hb dX7_piece_57 (by decide) (fun c_57 => ?_) (fun c_57 => ?_)
            · skip
              refine lv_aload_n hx hb dX7_piece_62 rfl (lv_at hl 0 rfl) ?_
              refine va_get (D := D) (ci := 8) (v := .ref t0) (C := RX7) (T := TX7) (N := 7) hx hb hts hi_X7 hown hK.1 hP 0 rfl rfl 0 (by decide) hw_f12 (fun _ h9 => h9) rfl dX7_piece_63 ?_
              refine lv_iload_n hx hb dX7_piece_66 rfl (lv_at hl 3 rfl) ?_
              refine kGoR (va_runV (As := [.int c1]) (rest := []) ⟨hx, hb, hml, hown, hts⟩ (c_X4_closure l D cI cJ cZ cO t0 t1 t2 (nI T) wo cl c1 ) (cwV 1 hts gX7_piece_X4_closure rfl rfl rfl (by decide +kernel) ⟨Nat.le_of_ble_eq_true rfl, Nat.le_of_ble_eq_true rfl⟩) (kPreVR (ci := 5) (q0 := 0) hK (kPl_sub hP [1, 2, 3] rfl) rfl rfl rfl) rfl rfl hl.1 rfl (lv_room (Nat.le_of_ble_eq_true rfl)) dX7_piece_67 ⟨Nat.le_of_ble_eq_true rfl, Nat.le_of_ble_eq_true rfl⟩) (fun v_5 hv_5 => ?_)
              obtain rfl := hv_5
              refine W.eq (g2 := F0 m 70 ls [.int (closF cl c1 12)]) rfl ?_
              refine lv_istore (lv' := [(6, .int (closF cl c1 12)), (0, .ref o), (1, .int a), (2, .int b1), (3, .int c1), (4, .int d1), (5, .int e1)]) hx hb dX7_piece_70 hl (by decide) rfl (fun ls hl => ?_)
              refine lv_aload_n hx hb dX7_piece_72 rfl (lv_at hl 1 rfl) ?_
              refine va_get (D := D) (ci := 8) (v := .ref h0) (C := RX7) (T := TX7) (N := 7) hx hb hts hi_X7 hown hK.1 hP 0 rfl rfl 1 (by decide) hw_f19 (fun _ h9 => h9) rfl dX7_piece_73 ?_
              -- new WhatToRead$Piece
              refine va_new (ci := 2) (fs := [.int 0, .int 0, .int 0, .int 0, .int 0]) (C := RX1) (T := TX1) (N := 5) hx hb hts hi_X1 tyX1 tyX1_ok hown hw_c78 hw_nX1 hw_iX1 hK.1 hP hD hS hA rfl (fun j hj => by rcases (show j = 0 ∨ j = 1 ∨ j = 2 ∨ j = 3 ∨ j = 4 by omega) with rfl | rfl | rfl | rfl | rfl <;> rfl) (Nat.le_of_ble_eq_true rfl) (Nat.le_of_ble_eq_true rfl) dX7_piece_76 (fun q_76 H hP hD hS => ?_)
              have hP : va_P D vwCl (([(o, .inr (8, [.ref t0, .ref h0, .ref w0, .ref r0, .ref k0, .ref s0, .int kn])), (t0, .inr (5, [.ref t1, .ref t2, .int (nI T)])), (t1, .inl (cI, 12, .inl wo)), (t2, .inl (cI, 12, .inl cl)), (h0, .inr (4, [.ref la, .int pc])), (la, .inr (0, [.int mo, .ref ea, .int (nI 14)]))] ++ [(q_76, .inr (2, [.int 0, .int 0, .int 0, .int 0, .int 0]))]) ++ va_pl LP pf) H := kFrN hP
              have hD : va_D _ (([(o, .inr (8, [.ref t0, .ref h0, .ref w0, .ref r0, .ref k0, .ref s0, .int kn])), (t0, .inr (5, [.ref t1, .ref t2, .int (nI T)])), (t1, .inl (cI, 12, .inl wo)), (t2, .inl (cI, 12, .inl cl)), (h0, .inr (4, [.ref la, .int pc])), (la, .inr (0, [.int mo, .ref ea, .int (nI 14)]))] ++ [(q_76, .inr (2, [.int 0, .int 0, .int 0, .int 0, .int 0]))]) ++ va_pl LP pf) := kFrD hD
              have hP : va_P D vwCl ([(o, .inr (8, [.ref t0, .ref h0, .ref w0, .ref r0, .ref k0, .ref s0, .int kn])), (t0, .inr (5, [.ref t1, .ref t2, .int (nI T)])), (t1, .inl (cI, 12, .inl wo)), (t2, .inl (cI, 12, .inl cl)), (h0, .inr (4, [.ref la, .int pc])), (la, .inr (0, [.int mo, .ref ea, .int (nI 14)])), (q_76, .inr (2, [.int 0, .int 0, .int 0, .int 0, .int 0]))] ++ va_pl LP pf) H := hP
              have hD : va_D _ ([(o, .inr (8, [.ref t0, .ref h0, .ref w0, .ref r0, .ref k0, .ref s0, .int kn])), (t0, .inr (5, [.ref t1, .ref t2, .int (nI T)])), (t1, .inl (cI, 12, .inl wo)), (t2, .inl (cI, 12, .inl cl)), (h0, .inr (4, [.ref la, .int pc])), (la, .inr (0, [.int mo, .ref ea, .int (nI 14)])), (q_76, .inr (2, [.int 0, .int 0, .int 0, .int 0, .int 0]))] ++ va_pl LP pf) := hD
              refine lv_dup hx hb dX7_piece_79 rfl ?_
              refine lv_iload_n hx hb dX7_piece_80 rfl (lv_at hl 2 rfl) ?_
              refine lv_iload_n hx hb dX7_piece_81 rfl (lv_at hl 3 rfl) ?_
              refine lv_iload hx hb dX7_piece_82 (lv_at hl 0 rfl) ?_
              refine lv_aload_n hx hb dX7_piece_84 rfl (lv_at hl 1 rfl) ?_
              refine va_get (D := D) (ci := 8) (v := .ref t0) (C := RX7) (T := TX7) (N := 7) hx hb hts hi_X7 hown hK.1 hP 0 rfl rfl 0 (by decide) hw_f12 (fun _ h9 => h9) rfl dX7_piece_85 ?_
              refine lv_iload hx hb dX7_piece_88 (lv_at hl 5 rfl) ?_
              refine kGoR (va_runV (As := [.int d1]) (rest := [.int (closF cl c1 12), .int b1, .int a, .ref q_76, .ref q_76, .ref h0]) ⟨hx, hb, hml, hown, hts⟩ (c_X4_closure l D cI cJ cZ cO t0 t1 t2 (nI T) wo cl d1 ) (cwV 1 hts gX7_piece_X4_closure rfl rfl rfl (by decide +kernel) ⟨Nat.le_of_ble_eq_true rfl, Nat.le_of_ble_eq_true rfl⟩) (kPreVR (ci := 5) (q0 := 0) hK (kPl_sub hP [1, 2, 3] rfl) rfl rfl rfl) rfl rfl hl.1 rfl (lv_room (Nat.le_of_ble_eq_true rfl)) dX7_piece_90 ⟨Nat.le_of_ble_eq_true rfl, Nat.le_of_ble_eq_true rfl⟩) (fun v_7 hv_7 => ?_)
              obtain rfl := hv_7
              refine W.eq (g2 := F0 m 93 ls [.int (closF cl d1 12), .int (closF cl c1 12), .int b1, .int a, .ref q_76, .ref q_76, .ref h0]) rfl ?_
              refine lv_iload hx hb dX7_piece_93 (lv_at hl 6 rfl) ?_
              refine kGoQ (cx := [(q_76, .inr (2, [.int 0, .int 0, .int 0, .int 0, .int 0]))]) (wr := [(o, .inr (8, [.ref t0, .ref h0, .ref w0, .ref r0, .ref k0, .ref s0, .int kn])), (t0, .inr (5, [.ref t1, .ref t2, .int (nI T)])), (t1, .inl (cI, 12, .inl wo)), (t2, .inl (cI, 12, .inl cl)), (h0, .inr (4, [.ref la, .int pc])), (la, .inr (0, [.int mo, .ref ea, .int (nI 14)]))]) (va_runI (As := [.int a, .int b1, .int (closF cl c1 12), .int (closF cl d1 12), .int e1]) (rest := [.ref q_76, .ref h0]) ⟨hx, hb, hml, hown, hts⟩ (c_X1_init l D cI cJ cZ cO q_76 a b1 (closF cl c1 12) (closF cl d1 12) e1  _) (cwI 5 hts gX7_piece_X1_init rfl rfl rfl hw_iX1 hw_m80 hw_im_X1_init rfl (by decide +kernel) ⟨Nat.le_of_ble_eq_true rfl, Nat.le_of_ble_eq_true rfl⟩) (kPreS hK (kPl_sub hP [6] rfl) ((kDl_sub hD [6] (by decide) rfl).weaken (fun _ _ _ _ => trivial))) rfl rfl hl.1 rfl (lv_room (Nat.le_of_ble_eq_true rfl)) dX7_piece_95 ⟨Nat.le_of_ble_eq_true rfl, Nat.le_of_ble_eq_true rfl⟩) hP hD hS hA [6] [0, 1, 2, 3, 4, 5] rfl rfl (by decide) (by decide) (fun v_8 w_8 H locs hv_8 hP hD hS => ?_)
              obtain ⟨rfl, rfl⟩ := hv_8
              have hP : va_P D vwCl ([(o, .inr (8, [.ref t0, .ref h0, .ref w0, .ref r0, .ref k0, .ref s0, .int kn])), (t0, .inr (5, [.ref t1, .ref t2, .int (nI T)])), (t1, .inl (cI, 12, .inl wo)), (t2, .inl (cI, 12, .inl cl)), (h0, .inr (4, [.ref la, .int pc])), (la, .inr (0, [.int mo, .ref ea, .int (nI 14)])), (q_76, .inr (2, [.int a, .int b1, .int (closF cl c1 12), .int (closF cl d1 12), .int e1]))] ++ va_pl LP pf) H := hP.part [0, 1, 2, 3, 4, 5, 6] rfl
              have hD : va_D _ ([(o, .inr (8, [.ref t0, .ref h0, .ref w0, .ref r0, .ref k0, .ref s0, .int kn])), (t0, .inr (5, [.ref t1, .ref t2, .int (nI T)])), (t1, .inl (cI, 12, .inl wo)), (t2, .inl (cI, 12, .inl cl)), (h0, .inr (4, [.ref la, .int pc])), (la, .inr (0, [.int mo, .ref ea, .int (nI 14)])), (q_76, .inr (2, [.int a, .int b1, .int (closF cl c1 12), .int (closF cl d1 12), .int e1]))] ++ va_pl LP pf) := hD.part [0, 1, 2, 3, 4, 5, 6] (by decide) rfl
              refine W.eq (g2 := F0 m 98 ls [.ref q_76, .ref h0]) rfl ?_
              have hP : va_P D vwCl (([(o, .inr (8, [.ref t0, .ref h0, .ref w0, .ref r0, .ref k0, .ref s0, .int kn])), (t0, .inr (5, [.ref t1, .ref t2, .int (nI T)])), (t1, .inl (cI, 12, .inl wo)), (t2, .inl (cI, 12, .inl cl)), (h0, .inr (4, [.ref la, .int pc])), (la, .inr (0, [.int mo, .ref ea, .int (nI 14)]))] ++ [(q_76, pcE a b1 (closF cl c1 12) (closF cl d1 12) e1)]) ++ va_pl LP pf) H := hP.part [0, 1, 2, 3, 4, 5, 6] rfl
              have hD : va_D _ (([(o, .inr (8, [.ref t0, .ref h0, .ref w0, .ref r0, .ref k0, .ref s0, .int kn])), (t0, .inr (5, [.ref t1, .ref t2, .int (nI T)])), (t1, .inl (cI, 12, .inl wo)), (t2, .inl (cI, 12, .inl cl)), (h0, .inr (4, [.ref la, .int pc])), (la, .inr (0, [.int mo, .ref ea, .int (nI 14)]))] ++ [(q_76, pcE a b1 (closF cl c1 12) (closF cl d1 12) e1)]) ++ va_pl LP pf) := hD.part [0, 1, 2, 3, 4, 5, 6] (by decide) rfl
              obtain ⟨hqp, hP, hD⟩ := kToPool hP hD
              have hP : va_P D vwCl ([(o, .inr (8, [.ref t0, .ref h0, .ref w0, .ref r0, .ref k0, .ref s0, .int kn])), (t0, .inr (5, [.ref t1, .ref t2, .int (nI T)])), (t1, .inl (cI, 12, .inl wo)), (t2, .inl (cI, 12, .inl cl)), (h0, .inr (4, [.ref la, .int pc])), (la, .inr (0, [.int mo, .ref ea, .int (nI 14)]))] ++ va_pl (LP ++ [q_76]) (va_up pf q_76 (pcE a b1 (closF cl c1 12) (closF cl d1 12) e1))) H := hP
              have hD : va_D _ ([(o, .inr (8, [.ref t0, .ref h0, .ref w0, .ref r0, .ref k0, .ref s0, .int kn])), (t0, .inr (5, [.ref t1, .ref t2, .int (nI T)])), (t1, .inl (cI, 12, .inl wo)), (t2, .inl (cI, 12, .inl cl)), (h0, .inr (4, [.ref la, .int pc])), (la, .inr (0, [.int mo, .ref ea, .int (nI 14)]))] ++ va_pl (LP ++ [q_76]) (va_up pf q_76 (pcE a b1 (closF cl c1 12) (closF cl d1 12) e1))) := hD
              refine kGoP (cx := [(h0, .inr (4, [.ref la, .int pc])), (la, .inr (0, [.int mo, .ref ea, .int (nI 14)]))]) (wr := [(o, .inr (8, [.ref t0, .ref h0, .ref w0, .ref r0, .ref k0, .ref s0, .int kn])), (t0, .inr (5, [.ref t1, .ref t2, .int (nI T)])), (t1, .inl (cI, 12, .inl wo)), (t2, .inl (cI, 12, .inl cl))]) (va_runV (As := [.ref q_76]) (rest := []) ⟨hx, hb, hml, hown, hts⟩ (c_X3_add_d l D cI cJ cZ cO h0 pc la mo ea (LP ++ [q_76]) (va_up pf q_76 (pcE a b1 (closF cl c1 12) (closF cl d1 12) e1)) q_76  _) (cwV 1 hts gX7_piece_X3_add rfl rfl rfl (by decide +kernel) ⟨Nat.le_of_ble_eq_true rfl, Nat.le_of_ble_eq_true rfl⟩) (kPreV (ci := 4) (q0 := 0) hK (hP.part [4, 5] rfl) ((hD.part [4, 5] (by decide) rfl).weaken (fun _ _ _ _ => trivial)) rfl rfl rfl) rfl rfl hl.1 rfl (lv_room (Nat.le_of_ble_eq_true rfl)) dX7_piece_98 ⟨Nat.le_of_ble_eq_true rfl, Nat.le_of_ble_eq_true rfl⟩) hP hD hS hA [4, 5] [0, 1, 2, 3] rfl rfl (by decide) (by decide) (fun v_9 w_9 H locs hv_9 hP hS => ?_)
              obtain ⟨rfl, rfl⟩ := hv_9
              obtain ⟨hP, hD⟩ := hP _ _ rfl
              have hP : va_P D vwCl ([(o, .inr (8, [.ref t0, .ref h0, .ref w0, .ref r0, .ref k0, .ref s0, .int kn])), (t0, .inr (5, [.ref t1, .ref t2, .int (nI T)])), (t1, .inl (cI, 12, .inl wo)), (t2, .inl (cI, 12, .inl cl)), (h0, .inr (4, [.ref la, .int pc])), (la, .inr (0, [.int mo, .ref ea, .int (nI 14)]))] ++ va_pl (LP ++ [q_76]) (va_up pf q_76 (pcE a b1 (closF cl c1 12) (closF cl d1 12) e1))) H := hP.part [0, 1, 2, 3, 4, 5] rfl
              have hD : va_D _ ([(o, .inr (8, [.ref t0, .ref h0, .ref w0, .ref r0, .ref k0, .ref s0, .int kn])), (t0, .inr (5, [.ref t1, .ref t2, .int (nI T)])), (t1, .inl (cI, 12, .inl wo)), (t2, .inl (cI, 12, .inl cl)), (h0, .inr (4, [.ref la, .int pc])), (la, .inr (0, [.int mo, .ref ea, .int (nI 14)]))] ++ va_pl (LP ++ [q_76]) (va_up pf q_76 (pcE a b1 (closF cl c1 12) (closF cl d1 12) e1))) := hD.part [0, 1, 2, 3, 4, 5] (by decide) rfl
              refine W.eq (g2 := F0 m 101 ls [.int (-1)]) rfl ?_
              exact kRetI hx hb hr hlk dX7_piece_101 hP hD hS (Nat.le_of_ble_eq_true rfl) (Nat.le_of_ble_eq_true rfl) ⟨q_76, rfl, rfl, hqp⟩
            · exact absurd c_57 (by rw [y6]; decide)
      · exact absurd c_30 (by rw [y3]; decide)

set_option maxHeartbeats 4000000 in
set_option maxRecDepth 100000 in
theorem c_X7_piece_e (l : Launch) (D : va_G) (cI cJ cZ cO : ClassId) (o : Nat) (t0 : Nat) (h0 : Nat) (w0 : Nat) (r0 : Nat) (k0 : Nat) (s0 : Nat) (kn : Int32) (t1 : Nat) (t2 : Nat) (T : Nat) (wo : Nat → Int32) (cl : Nat → Int32) (a : Int32) (b1 : Int32) (c1 : Int32) (d1 : Int32) (e1 : Int32) (hok : pcB T a b1 c1 d1 e1 = false) : kR l D (kTY cI cJ cZ cO) yX7_piece wsX7_piece 1 22 [.ref o, .int a, .int b1, .int c1, .int d1, .int e1] [(o, .inr (8, [.ref t0, .ref h0, .ref w0, .ref r0, .ref k0, .ref s0, .int kn])), (t0, .inr (5, [.ref t1, .ref t2, .int (nI T)])), (t1, .inl (cI, 12, .inl wo)), (t2, .inl (cI, 12, .inl cl))] (fun rv_ => rv_ = some (.int (-1))) := by
  refine kEnterR (cc := cX7_piece) (maxL := 7) (ret := (some .int)) (by decide) rfl (Nat.le_of_ble_eq_true rfl) ?_
  intro p e s m args below meth c hx hb hr hml hts hown hlk hK hP ls hl
  have hl : lv_has ls 7 [(0, .ref o), (1, .int a), (2, .int b1), (3, .int c1), (4, .int d1), (5, .int e1)] := hl
  have hw_f12 := hts (.fieldLink RX7 12 "WhatToRead" "topics" "LWhatToRead$Topics;") (by decide +kernel)
  have hi_X7 : ∀ w ∈ wsX70, w ∈ wsX7_piece := by decide +kernel
  refine lv_aload_n hx hb dX7_piece_0 rfl (lv_at hl 0 rfl) ?_
  refine va_get (D := D) (ci := 8) (v := .ref t0) (C := RX7) (T := TX7) (N := 7) hx hb hts hi_X7 hown hK.1 hP 0 rfl rfl 0 (by decide) hw_f12 (fun _ h9 => h9) rfl dX7_piece_1 ?_
  refine lv_iload_n hx hb dX7_piece_4 rfl (lv_at hl 1 rfl) ?_
  refine kGoR (va_runV (As := [.int a]) (rest := []) ⟨hx, hb, hml, hown, hts⟩ (c_X4_haveAll l D cI cJ cZ cO t0 t1 t2 (nI T) wo cl a ) (cwV 1 hts gX7_piece_X4_haveAll rfl rfl rfl (by decide +kernel) ⟨Nat.le_of_ble_eq_true rfl, Nat.le_of_ble_eq_true rfl⟩) (kPreVR (ci := 5) (q0 := 0) hK (kPc_sub hP [1, 2, 3] rfl) rfl rfl rfl) rfl rfl hl.1 rfl (lv_room (Nat.le_of_ble_eq_true rfl)) dX7_piece_5 ⟨Nat.le_of_ble_eq_true rfl, Nat.le_of_ble_eq_true rfl⟩) (fun v_1 hv_1 => ?_)
  obtain rfl := hv_1
  refine W.eq (g2 := F0 m 8 ls [.int (k01 (haveB (nI T) a))]) rfl ?_
  refine lv_if_eq (tgt := 33) hx hb dX7_piece_8 (by decide) (fun c_8 => ?_) (fun c_8 => ?_)
  · skip
    have c_8 := k01_z c_8
    refine lv_iconst (v := (-1)) hx hb dX7_piece_33 (by decide) ?_
    exact kRetIr hx hb hr hlk dX7_piece_34 rfl
  · skip
    have c_8 := k01_n c_8
    refine lv_aload_n hx hb dX7_piece_11 rfl (lv_at hl 0 rfl) ?_
    refine va_get (D := D) (ci := 8) (v := .ref t0) (C := RX7) (T := TX7) (N := 7) hx hb hts hi_X7 hown hK.1 hP 0 rfl rfl 0 (by decide) hw_f12 (fun _ h9 => h9) rfl dX7_piece_12 ?_
    refine lv_iload_n hx hb dX7_piece_15 rfl (lv_at hl 2 rfl) ?_
    refine kGoR (va_runV (As := [.int b1]) (rest := []) ⟨hx, hb, hml, hown, hts⟩ (c_X4_haveAll l D cI cJ cZ cO t0 t1 t2 (nI T) wo cl b1 ) (cwV 1 hts gX7_piece_X4_haveAll rfl rfl rfl (by decide +kernel) ⟨Nat.le_of_ble_eq_true rfl, Nat.le_of_ble_eq_true rfl⟩) (kPreVR (ci := 5) (q0 := 0) hK (kPc_sub hP [1, 2, 3] rfl) rfl rfl rfl) rfl rfl hl.1 rfl (lv_room (Nat.le_of_ble_eq_true rfl)) dX7_piece_16 ⟨Nat.le_of_ble_eq_true rfl, Nat.le_of_ble_eq_true rfl⟩) (fun v_2 hv_2 => ?_)
    obtain rfl := hv_2
    refine W.eq (g2 := F0 m 19 ls [.int (k01 (haveB (nI T) b1))]) rfl ?_
    refine lv_if_eq (tgt := 33) hx hb dX7_piece_19 (by decide) (fun c_19 => ?_) (fun c_19 => ?_)
    · skip
      have c_19 := k01_z c_19
      refine lv_iconst (v := (-1)) hx hb dX7_piece_33 (by decide) ?_
      exact kRetIr hx hb hr hlk dX7_piece_34 rfl
    · skip
      have c_19 := k01_n c_19
      refine lv_aload_n hx hb dX7_piece_22 rfl (lv_at hl 0 rfl) ?_
      refine va_get (D := D) (ci := 8) (v := .ref t0) (C := RX7) (T := TX7) (N := 7) hx hb hts hi_X7 hown hK.1 hP 0 rfl rfl 0 (by decide) hw_f12 (fun _ h9 => h9) rfl dX7_piece_23 ?_
      refine lv_iload_n hx hb dX7_piece_26 rfl (lv_at hl 3 rfl) ?_
      refine kGoR (va_runV (As := [.int c1]) (rest := []) ⟨hx, hb, hml, hown, hts⟩ (c_X4_haveAll l D cI cJ cZ cO t0 t1 t2 (nI T) wo cl c1 ) (cwV 1 hts gX7_piece_X4_haveAll rfl rfl rfl (by decide +kernel) ⟨Nat.le_of_ble_eq_true rfl, Nat.le_of_ble_eq_true rfl⟩) (kPreVR (ci := 5) (q0 := 0) hK (kPc_sub hP [1, 2, 3] rfl) rfl rfl rfl) rfl rfl hl.1 rfl (lv_room (Nat.le_of_ble_eq_true rfl)) dX7_piece_27 ⟨Nat.le_of_ble_eq_true rfl, Nat.le_of_ble_eq_true rfl⟩) (fun v_3 hv_3 => ?_)
      obtain rfl := hv_3
      refine W.eq (g2 := F0 m 30 ls [.int (k01 (haveB (nI T) c1))]) rfl ?_
      refine lv_if_ne (tgt := 35) hx hb dX7_piece_30 (by decide) (fun c_30 => ?_) (fun c_30 => ?_)
      · skip
        have c_30 := k01_n c_30
        refine lv_iload_n hx hb dX7_piece_35 rfl (lv_at hl 3 rfl) ?_
        refine lv_if_eq (tgt := 60) hx hb dX7_piece_36 (by decide) (fun c_36 => ?_) (fun c_36 => ?_)
        · skip
          refine lv_iconst (v := (-1)) hx hb dX7_piece_60 (by decide) ?_
          exact kRetIr hx hb hr hlk dX7_piece_61 rfl
        · skip
          refine lv_iload hx hb dX7_piece_39 (lv_at hl 4 rfl) ?_
          refine lv_iload_n hx hb dX7_piece_41 rfl (lv_at hl 3 rfl) ?_
          refine lv_iconst (v := (-1)) hx hb dX7_piece_42 (by decide) ?_
          refine lv_ixor hx hb dX7_piece_43 ?_
          refine lv_iand hx hb dX7_piece_44 ?_
          refine lv_if_ne (tgt := 60) hx hb dX7_piece_45 (by decide) (fun c_45 => ?_) (fun c_45 => ?_)
          · skip
            refine lv_iconst (v := (-1)) hx hb dX7_piece_60 (by decide) ?_
            exact kRetIr hx hb hr hlk dX7_piece_61 rfl
          · skip
            refine lv_iload hx hb dX7_piece_48 (lv_at hl 5 rfl) ?_
            refine lv_iconst (v := 1) hx hb dX7_piece_50 (by decide) ?_
            refine lv_sipush (v := 400) hx hb dX7_piece_51 (by decide) ?_
            refine kGoR (va_runS (As := [.int e1, .int 1, .int 400]) (rest := []) ⟨hx, hb, hml, hown, hts⟩ (c_X7_isWithin l D cI cJ cZ cO e1 1 400 ) (va_cwS 3 hts gX7_piece_X7_isWithin rfl rfl rfl (by decide +kernel) ⟨Nat.le_of_ble_eq_true rfl, Nat.le_of_ble_eq_true rfl⟩) (kPreSR hK (kPc_sub hP [] rfl)) rfl rfl hl.1 rfl (lv_room (Nat.le_of_ble_eq_true rfl)) dX7_piece_54 ⟨Nat.le_of_ble_eq_true rfl, Nat.le_of_ble_eq_true rfl⟩) (fun v_4 hv_4 => ?_)
            obtain rfl := hv_4
            refine W.eq (g2 := F0 m 57 ls [.int (k01 (withinB e1 1 400))]) rfl ?_
            refine lv_if_ne (tgt := 62) hx hb dX7_piece_57 (by decide) (fun c_57 => ?_) (fun c_57 => ?_)
            · skip
              have c_57 := k01_n c_57
              exact absurd (hok.symm.trans (show pcB T a b1 c1 d1 e1 = true by simp only [pcB, c_8, c_19, c_30, c_36, c_45, c_57, not_false_eq_true, decide_true, eq_self, Bool.and_self])) (by decide)
            · skip
              have c_57 := k01_z c_57
              refine lv_iconst (v := (-1)) hx hb dX7_piece_60 (by decide) ?_
              exact kRetIr hx hb hr hlk dX7_piece_61 rfl
      · skip
        have c_30 := k01_z c_30
        refine lv_iconst (v := (-1)) hx hb dX7_piece_33 (by decide) ?_
        exact kRetIr hx hb hr hlk dX7_piece_34 rfl

set_option maxHeartbeats 4000000 in
set_option maxRecDepth 100000 in
theorem c_X7_drop_a (l : Launch) (D : va_G) (cI cJ cZ cO : ClassId) (o : Nat) (t0 : Nat) (h0 : Nat) (w0 : Nat) (r0 : Nat) (k0 : Nat) (s0 : Nat) (kn : Int32) (pc : Int32) (la : Nat) (mo : Int32) (ea : Nat) (LP : List Nat) (pf : Nat → va_E) : kC l D (kTY cI cJ cZ cO) yX7_drop wsX7_drop 4 86 0 0 [.ref o] ([(o, .inr (8, [.ref t0, .ref h0, .ref w0, .ref r0, .ref k0, .ref s0, .int kn])), (h0, .inr (4, [.ref la, .int pc])), (la, .inr (0, [.int mo, .ref ea, .int (nI 0)]))] ++ va_pl LP pf) (fun rv_ rw_ => rv_ = some (.int (-1)) ∧ rw_ = ([(o, .inr (8, [.ref t0, .ref h0, .ref w0, .ref r0, .ref k0, .ref s0, .int kn])), (h0, .inr (4, [.ref la, .int pc])), (la, .inr (0, [.int mo, .ref ea, .int (nI 0)]))] ++ va_pl LP pf)) := by
  refine kEnter (cc := cX7_drop) (maxL := 1) (ret := (some .int)) (by decide) rfl (Nat.le_of_ble_eq_true rfl) ?_
  intro p e s m args below meth c hx hb hr hml hts hown hlk hnm hK hP hD hS hA ls hl
  have hl : lv_has ls 1 [(0, .ref o)] := hl
  have hw_f19 := hts (.fieldLink RX7 19 "WhatToRead" "shelf" "LWhatToRead$Shelf;") (by decide +kernel)
  have hi_X7 : ∀ w ∈ wsX70, w ∈ wsX7_drop := by decide +kernel
  refine lv_aload_n hx hb dX7_drop_0 rfl (lv_at hl 0 rfl) ?_
  refine va_get (D := D) (ci := 8) (v := .ref h0) (C := RX7) (T := TX7) (N := 7) hx hb hts hi_X7 hown hK.1 hP 0 rfl rfl 1 (by decide) hw_f19 (fun _ h9 => h9) rfl dX7_drop_1 ?_
  refine kGoP (cx := [(h0, .inr (4, [.ref la, .int pc])), (la, .inr (0, [.int mo, .ref ea, .int (nI 0)]))]) (wr := [(o, .inr (8, [.ref t0, .ref h0, .ref w0, .ref r0, .ref k0, .ref s0, .int kn]))]) (va_runV (As := []) (rest := []) ⟨hx, hb, hml, hown, hts⟩ (c_X3_removeLast_a l D cI cJ cZ cO h0 pc la mo ea LP pf  _) (cwV 0 hts gX7_drop_X3_removeLast rfl rfl rfl (by decide +kernel) ⟨Nat.le_of_ble_eq_true rfl, Nat.le_of_ble_eq_true rfl⟩) (kPreV (ci := 4) (q0 := 0) hK (hP.part [1, 2] rfl) ((hD.part [1, 2] (by decide) rfl).weaken (fun _ _ _ _ => trivial)) rfl rfl rfl) rfl rfl hl.1 rfl (lv_room (Nat.le_of_ble_eq_true rfl)) dX7_drop_4 ⟨Nat.le_of_ble_eq_true rfl, Nat.le_of_ble_eq_true rfl⟩) hP hD hS hA [1, 2] [0] rfl rfl (by decide) (by decide) (fun v_1 w_1 H locs hv_1 hP hS => ?_)
  obtain ⟨rfl, rfl⟩ := hv_1
  obtain ⟨hP, hD⟩ := hP _ _ rfl
  have hP : va_P D vwCl ([(o, .inr (8, [.ref t0, .ref h0, .ref w0, .ref r0, .ref k0, .ref s0, .int kn])), (h0, .inr (4, [.ref la, .int pc])), (la, .inr (0, [.int mo, .ref ea, .int (nI 0)]))] ++ va_pl LP pf) H := hP.part [0, 1, 2] rfl
  have hD : va_D _ ([(o, .inr (8, [.ref t0, .ref h0, .ref w0, .ref r0, .ref k0, .ref s0, .int kn])), (h0, .inr (4, [.ref la, .int pc])), (la, .inr (0, [.int mo, .ref ea, .int (nI 0)]))] ++ va_pl LP pf) := hD.part [0, 1, 2] (by decide) rfl
  refine W.eq (g2 := F0 m 7 ls [.int (-1)]) rfl ?_
  exact kRetI hx hb hr hlk dX7_drop_7 hP hD hS (Nat.le_of_ble_eq_true rfl) (Nat.le_of_ble_eq_true rfl) ⟨rfl, rfl⟩

set_option maxHeartbeats 4000000 in
set_option maxRecDepth 100000 in
theorem c_X7_drop_b (l : Launch) (D : va_G) (cI cJ cZ cO : ClassId) (o : Nat) (t0 : Nat) (h0 : Nat) (w0 : Nat) (r0 : Nat) (k0 : Nat) (s0 : Nat) (kn : Int32) (pc : Int32) (la : Nat) (mo : Int32) (ea : Nat) (al : Nat → Option Nat) (LP : List Nat) (pf : Nat → va_E) (cap : Nat) (k : Nat) (ak : Nat) (hm : ea ∈ LP) (hpf : pf ea = arE cO cap al) (hkc : k < cap) (hcap : cap < 4096) (hak : al k = some ak) : kC l D (kTY cI cJ cZ cO) yX7_drop wsX7_drop 4 86 0 0 [.ref o] ([(o, .inr (8, [.ref t0, .ref h0, .ref w0, .ref r0, .ref k0, .ref s0, .int kn])), (h0, .inr (4, [.ref la, .int pc])), (la, .inr (0, [.int mo, .ref ea, .int (nI (k + 1))]))] ++ va_pl LP pf) (fun rv_ rw_ => rv_ = some (.int (nI k)) ∧ rw_ = ([(o, .inr (8, [.ref t0, .ref h0, .ref w0, .ref r0, .ref k0, .ref s0, .int kn])), (h0, .inr (4, [.ref la, .int pc])), (la, .inr (0, [.int (mo + 1), .ref ea, .int (nI k)]))] ++ va_pl LP (va_up pf ea (arE cO cap (va_up al k none))))) := by
  refine kEnter (cc := cX7_drop) (maxL := 1) (ret := (some .int)) (by decide) rfl (Nat.le_of_ble_eq_true rfl) ?_
  intro p e s m args below meth c hx hb hr hml hts hown hlk hnm hK hP hD hS hA ls hl
  have hl : lv_has ls 1 [(0, .ref o)] := hl
  have hw_f19 := hts (.fieldLink RX7 19 "WhatToRead" "shelf" "LWhatToRead$Shelf;") (by decide +kernel)
  have hi_X7 : ∀ w ∈ wsX70, w ∈ wsX7_drop := by decide +kernel
  refine lv_aload_n hx hb dX7_drop_0 rfl (lv_at hl 0 rfl) ?_
  refine va_get (D := D) (ci := 8) (v := .ref h0) (C := RX7) (T := TX7) (N := 7) hx hb hts hi_X7 hown hK.1 hP 0 rfl rfl 1 (by decide) hw_f19 (fun _ h9 => h9) rfl dX7_drop_1 ?_
  refine kGoP (cx := [(h0, .inr (4, [.ref la, .int pc])), (la, .inr (0, [.int mo, .ref ea, .int (nI (k + 1))]))]) (wr := [(o, .inr (8, [.ref t0, .ref h0, .ref w0, .ref r0, .ref k0, .ref s0, .int kn]))]) (va_runV (As := []) (rest := []) ⟨hx, hb, hml, hown, hts⟩ (c_X3_removeLast_b l D cI cJ cZ cO h0 pc la mo ea al LP pf cap k ak (by first | assumption | omega | decide) (by first | assumption | omega | decide) (by first | assumption | omega | decide) (by first | assumption | omega | decide) (by first | assumption | omega | decide) _) (cwV 0 hts gX7_drop_X3_removeLast rfl rfl rfl (by decide +kernel) ⟨Nat.le_of_ble_eq_true rfl, Nat.le_of_ble_eq_true rfl⟩) (kPreV (ci := 4) (q0 := 0) hK (hP.part [1, 2] rfl) ((hD.part [1, 2] (by decide) rfl).weaken (fun _ _ _ _ => trivial)) rfl rfl rfl) rfl rfl hl.1 rfl (lv_room (Nat.le_of_ble_eq_true rfl)) dX7_drop_4 ⟨Nat.le_of_ble_eq_true rfl, Nat.le_of_ble_eq_true rfl⟩) hP hD hS hA [1, 2] [0] rfl rfl (by decide) (by decide) (fun v_1 w_1 H locs hv_1 hP hS => ?_)
  obtain ⟨rfl, rfl⟩ := hv_1
  obtain ⟨hP, hD⟩ := hP _ _ rfl
  have hP : va_P D vwCl ([(o, .inr (8, [.ref t0, .ref h0, .ref w0, .ref r0, .ref k0, .ref s0, .int kn])), (h0, .inr (4, [.ref la, .int pc])), (la, .inr (0, [.int (mo + 1), .ref ea, .int (nI k)]))] ++ va_pl LP (va_up pf ea (arE cO cap (va_up al k none)))) H := hP.part [0, 1, 2] rfl
  have hD : va_D _ ([(o, .inr (8, [.ref t0, .ref h0, .ref w0, .ref r0, .ref k0, .ref s0, .int kn])), (h0, .inr (4, [.ref la, .int pc])), (la, .inr (0, [.int (mo + 1), .ref ea, .int (nI k)]))] ++ va_pl LP (va_up pf ea (arE cO cap (va_up al k none)))) := hD.part [0, 1, 2] (by decide) rfl
  refine W.eq (g2 := F0 m 7 ls [.int (nI k)]) rfl ?_
  exact kRetI hx hb hr hlk dX7_drop_7 hP hD hS (Nat.le_of_ble_eq_true rfl) (Nat.le_of_ble_eq_true rfl) ⟨rfl, rfl⟩
