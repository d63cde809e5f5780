/-! ===== the weeks ===== -/
def fill3 (f : Nat → Int32) (i : Nat) : Nat → Int32 := fun j => if j < i then 300 else f j
theorem fill3_0 (f : Nat → Int32) : fill3 f 0 = f := by funext j; simp [fill3]
theorem fill3_s (f : Nat → Int32) (i : Nat) : upd (fill3 f i) i 300 = fill3 f (i + 1) := by
  funext j
  unfold upd fill3
  by_cases h1 : j = i
  · subst h1; simp
  · by_cases h2 : j < i
    · rw [if_neg h1, if_pos h2, if_pos (by omega)]
    · rw [if_neg h1, if_neg h2, if_neg (by omega)]
def minF (n : Nat) (pg : Nat → Int32) (pc x : Int32) : Int32 := if x >>> (1 &&& 31) < 0 ∨ nI n ≤ x >>> (1 &&& 31) then -1 else timeF (pg (x >>> (1 &&& 31)).toNatClampNeg) pc (decide (x &&& 1 = 1))
theorem khalf {k : Nat} (hk : k < 4096) : nI k >>> ((1 : Int32) &&& 31) = nI (k / 2) := pk_shrN (by omega) _ 1 (by decide)
theorem kstep (x : Int32) {n : Nat} (hn : n ≤ 14) : (∃ k, k < 2 * n ∧ x = nI k) ∨ (x >>> (1 &&& 31) < 0 ∨ nI n ≤ x >>> (1 &&& 31)) := by
  by_cases h : x >>> (1 &&& 31) < 0 ∨ nI n ≤ x >>> (1 &&& 31)
  · exact Or.inr h
  · left
    obtain ⟨h1, h2⟩ := not_or.mp h
    obtain ⟨j, hj, ej⟩ := nI_of h1
    have e1 : (x >>> (1 &&& 31)).toInt = x.toInt >>> 1 := pk_shr x (1 &&& 31) 1 (by decide)
    rw [ej] at h2 e1
    have h3 := (not_congr (nI_leI (by omega) hj)).mp h2
    rw [nI_toInt hj, Int.shiftRight_eq_div_pow] at e1
    have e2 : x.toInt / 2 = (j : Int) := by
      rw [e1]; rfl
    refine ⟨x.toInt.toNat, by omega, ?_⟩
    apply Int32.toInt_inj.mp
    rw [nI_toInt (by omega)]
    omega
theorem minF_in {k n : Nat} {pg : Nat → Int32} {pc : Int32} (hn : n ≤ 14) (hk : k < 2 * n) : minF n pg pc (nI k) = timeF (pg (k / 2)) pc (decide (nI k &&& 1 = 1)) := by
  unfold minF
  rw [khalf (by omega), if_neg, nI_clamp (by omega)]
  intro h
  rcases h with h | h
  · exact nI_pos (by omega) h
  · have := (nI_leI (by omega) (by omega)).mp h; omega
theorem minF_out {x : Int32} {n : Nat} {pg : Nat → Int32} {pc : Int32} (h : x >>> (1 &&& 31) < 0 ∨ nI n ≤ x >>> (1 &&& 31)) : minF n pg pc x = -1 := by
  unfold minF
  rw [if_pos h]
def layW (mi : Nat → Int32) (nd : Int32) : Nat → Nat → Int32 → Nat × Int32
  | 0, w, l => (w, l)
  | f + 1, w, l => if ¬ nd ≤ l ∧ w + 1 < 52 then layW mi nd f (w + 1) (mi (w + 1)) else (w, l)
def layG (mi : Nat → Int32) (nd : Int32) (i : Nat) (s : Nat × Int32 × (Nat → Int32)) : Option (Nat × Int32 × (Nat → Int32)) :=
  if nd = -1 ∨ ¬ nd ≤ (layW mi nd (52 - s.1) s.1 s.2.1).2 then none else some ((layW mi nd (52 - s.1) s.1 s.2.1).1, (layW mi nd (52 - s.1) s.1 s.2.1).2 - nd, upd s.2.2 i (nI (layW mi nd (52 - s.1) s.1 s.2.1).1))
def layS (mi : Nat → Int32) (nd : Nat → Int32) (F : Nat) (df : Nat → Int32) : Nat → Option (Nat × Int32 × (Nat → Int32))
  | 0 => some (F, mi F, df)
  | i + 1 => (layS mi nd F df i).bind (layG mi (nd i) i)
def layR (o : Option (Nat × Int32 × (Nat → Int32))) : Int32 := match o with
  | none => -2
  | some s => nI s.1
def layN (o : Option (Nat × Int32 × (Nat → Int32))) (rn ln : Nat) : Nat := match o with
  | none => ln
  | some _ => rn
def layA (o : Option (Nat × Int32 × (Nat → Int32))) (rn : Nat) (lf : Nat → Int32) : Nat → Int32 := match o with
  | none => lf
  | some s => becF lf s.2.2 rn
theorem layS_stuck {mi : Nat → Int32} {nd : Nat → Int32} {F : Nat} {df : Nat → Int32} {i : Nat} (h : layS mi nd F df i = none) : ∀ j, layS mi nd F df (i + j) = none
  | 0 => h
  | j + 1 => by
    show (layS mi nd F df (i + j)).bind _ = none
    rw [layS_stuck h j]
    rfl
theorem layS_fail {mi : Nat → Int32} {nd : Nat → Int32} {F : Nat} {df : Nat → Int32} {i rn : Nat} {s : Nat × Int32 × (Nat → Int32)} (h : layS mi nd F df i = some s) (hi : i < rn) (hg : layG mi (nd i) i s = none) : layS mi nd F df rn = none := by
  have h1 : layS mi nd F df (i + 1) = none := by
    show (layS mi nd F df i).bind _ = none
    rw [h]; exact hg
  have := layS_stuck h1 (rn - (i + 1))
  rwa [show i + 1 + (rn - (i + 1)) = rn by omega] at this
theorem layW_id {mi : Nat → Int32} {nd : Int32} {w : Nat} {l : Int32} (h : nd ≤ l ∨ 52 ≤ w + 1) : ∀ f, layW mi nd f w l = (w, l)
  | 0 => rfl
  | f + 1 => by
    unfold layW
    rw [if_neg]
    intro q
    rcases h with h | h
    · exact q.1 h
    · omega
theorem layW_go {mi : Nat → Int32} {nd : Int32} {w : Nat} {l : Int32} {r : Nat × Int32} (hR : layW mi nd (52 - w) w l = r) (h : ¬ nd ≤ l) (hw : ¬ 52 ≤ w + 1) : layW mi nd (52 - (w + 1)) (w + 1) (mi (w + 1)) = r := by
  rw [show 52 - w = (52 - (w + 1)) + 1 by omega] at hR
  rw [← hR]
  exact (if_pos ⟨h, by omega⟩).symm
theorem layS_step {mi : Nat → Int32} {nd : Nat → Int32} {F i w w2 : Nat} {df d : Nat → Int32} {le le2 : Int32} (h : layS mi nd F df i = some (w, le, d)) (hR : layW mi (nd i) (52 - w2) w2 le2 = layW mi (nd i) (52 - w) w le) (hs : nd i ≤ le2 ∨ 52 ≤ w2 + 1) (h1 : ¬ nd i = -1) (h2 : nd i ≤ le2) : layS mi nd F df (i + 1) = some (w2, le2 - nd i, upd d i (nI w2)) := by
  show (layS mi nd F df i).bind (layG mi (nd i) i) = _
  rw [h]
  show layG mi (nd i) i (w, le, d) = _
  unfold layG
  dsimp only
  rw [← hR, layW_id hs, if_neg]
  intro q
  rcases q with q | q
  · exact h1 q
  · exact q h2
theorem layS_bad {mi : Nat → Int32} {nd : Nat → Int32} {F i w w2 rn : Nat} {df d : Nat → Int32} {le le2 : Int32} (h : layS mi nd F df i = some (w, le, d)) (hR : layW mi (nd i) (52 - w2) w2 le2 = layW mi (nd i) (52 - w) w le) (hs : nd i ≤ le2 ∨ 52 ≤ w2 + 1) (hb : nd i = -1 ∨ ¬ nd i ≤ le2) (hi : i < rn) : layS mi nd F df rn = none := by
  refine layS_fail h hi ?_
  unfold layG
  dsimp only
  rw [← hR, layW_id hs, if_pos hb]

set_option maxHeartbeats 4000000 in
set_option maxRecDepth 100000 in
theorem c_X6_init (l : Launch) (D : va_G) (cI cJ cZ cO : ClassId) (h0 : Nat) : kC l D (kTY cI cJ cZ cO) yX6_init wsX6_init 2 32 5 80 [.ref h0] [(h0, .inr (7, [.null, .null, .null]))] (fun rv_ rw_ => ∃ q_7 : Nat, ∃ q_39 : Nat, ∃ q1_43 : Nat, ∃ q_50 : Nat, ∃ q1_54 : Nat, rv_ = none ∧ rw_ = [(h0, .inr (7, [.ref q_7, .ref q_39, .ref q_50])), (q_7, .inl (cI, 52, .inl (fill3 (fun _ => 0) 52))), (q_39, .inr (3, [.ref q1_43, .int 0])), (q1_43, .inl (cI, 12, .inl (fun _ => 0))), (q_50, .inr (3, [.ref q1_54, .int 0])), (q1_54, .inl (cI, 12, .inl (fun _ => 0)))]) := by
  refine kEnter (cc := cX6_init) (maxL := 2) (ret := none) (by decide) rfl (Nat.le_of_ble_eq_true rfl) ?_
  intro p e s m args below meth c hx hb hr hml hts hown hlk hnm hK hP hD hS hA ls hl
  have hl : lv_has ls 2 [(0, .ref h0)] := hl
  have hw_m3 := hts (.methodLink RX6 3 objectInit) (by decide +kernel)
  have hw_io := hts (.instanceMethod objectInit) (by decide +kernel)
  have hw_co := hts (.code objectInit ⟨#[0xb1]⟩ 1 none) (by decide +kernel)
  have hw_aI := hts (.arrayClass .int) (by decide +kernel)
  have hw_f9 := hts (.fieldLink RX6 9 "WhatToRead$Weeks" "minutes" "[I") (by decide +kernel)
  have hi_X6 : ∀ w ∈ wsX60, w ∈ wsX6_init := by decide +kernel
  have hw_c15 := hts (.classLink RX6 15 RX2) (by decide +kernel)
  have hw_nX2 := hts (.instantiable RX2 2) (by decide +kernel)
  have hw_iX2 := hts (.initialized RX2) (by decide +kernel)
  have hi_X2 : ∀ w ∈ wsX20, w ∈ wsX6_init := by decide +kernel
  have hw_m17 := hts (.methodLink RX6 17 yX2_init) (by decide +kernel)
  have hw_im_X2_init := hts (.instanceMethod yX2_init) (by decide +kernel)
  have hw_f18 := hts (.fieldLink RX6 18 "WhatToRead$Weeks" "laidWeeks" "LWhatToRead$Row;") (by decide +kernel)
  have hw_f22 := hts (.fieldLink RX6 22 "WhatToRead$Weeks" "draft" "LWhatToRead$Row;") (by decide +kernel)
  refine lv_aload_n hx hb dX6_init_0 rfl (lv_at hl 0 rfl) ?_
  refine W.objInit hx hb hown hw_m3 hw_io hw_co rfl (by rw [hml]; exact hl.1) rfl dX6_init_1 (Nat.le_of_ble_eq_true rfl) (Nat.le_of_ble_eq_true rfl) ?_
  refine W.eq (g2 := F0 m 4 ls []) rfl ?_
  refine lv_aload_n hx hb dX6_init_4 rfl (lv_at hl 0 rfl) ?_
  refine lv_bipush (v := 52) hx hb dX6_init_5 (by decide) ?_
  refine kNewaI (N' := 52) hx hb hw_aI hK.1 hP hD hS hA (by decide) (by decide) (Nat.le_of_ble_eq_true rfl) (Nat.le_of_ble_eq_true rfl) (Nat.le_of_ble_eq_true rfl) dX6_init_7 (fun q_7 H hP hD hS => ?_)
  have hP : va_P D vwCl [(h0, .inr (7, [.null, .null, .null])), (q_7, .inl (cI, 52, .inl (fun _ => 0)))] H := hP
  have hD : va_D _ [(h0, .inr (7, [.null, .null, .null])), (q_7, .inl (cI, 52, .inl (fun _ => 0)))] := hD
  refine va_putF (D := D) (ci := 7) (v := .ref q_7) (ty := .array .int) (C := RX6) (T := TX6) (N := 3) hx hb hts hi_X6 tyX6 tyX6_ok nmX6 hown hK.1 hP hD hS 0 rfl rfl 0 (by decide) hw_f9 (fun _ h9 => h9) rfl hnm rfl (by decide +kernel) rfl rfl (Nat.le_of_ble_eq_true rfl) dX6_init_9 (fun H locs hP hD hS => ?_)
  have hP : va_P D vwCl [(h0, .inr (7, [.ref q_7, .null, .null])), (q_7, .inl (cI, 52, .inl (fun _ => 0)))] H := hP
  have hD : va_D _ [(h0, .inr (7, [.ref q_7, .null, .null])), (q_7, .inl (cI, 52, .inl (fun _ => 0)))] := hD
  refine lv_iconst (v := 0) hx hb dX6_init_12 (by decide) ?_
  refine lv_istore_n (lv' := [(1, .int 0), (0, .ref h0)]) hx hb dX6_init_13 rfl hl (by decide) rfl (fun ls hl => ?_)
  have hloop_14 : ∀ (fu : Nat) (i : Nat) (x : Nat → Int32), 52 - i < fu → i ≤ 52 → x = fill3 (fun _ => 0) i → ∀ (H : Heap) (locs : List Loc), va_P D vwCl [(h0, .inr (7, [.ref q_7, .null, .null])), (q_7, .inl (cI, 52, .inl x))] H → va_D (va_A [(h0, .inr (7, [.null, .null, .null]))] s.heap.size) [(h0, .inr (7, [.ref q_7, .null, .null])), (q_7, .inl (cI, 52, .inl x))] → va_S (va_A [(h0, .inr (7, [.null, .null, .null]))] s.heap.size) s.heap H locs → ∀ ls : Array Slot, lv_has ls 2 [(0, .ref h0), (1, .int (nI i))] → W p l e ({ frames := 2, cells := 5, slots := 80, locals := 32 }) s m args below meth c H locs 1 52 (MQ below (kQ D [(h0, .inr (7, [.null, .null, .null]))] s.heap.size (fun rv_ rw_ => ∃ q_7 : Nat, ∃ q_39 : Nat, ∃ q1_43 : Nat, ∃ q_50 : Nat, ∃ q1_54 : Nat, rv_ = none ∧ rw_ = [(h0, .inr (7, [.ref q_7, .ref q_39, .ref q_50])), (q_7, .inl (cI, 52, .inl (fill3 (fun _ => 0) 52))), (q_39, .inr (3, [.ref q1_43, .int 0])), (q1_43, .inl (cI, 12, .inl (fun _ => 0))), (q_50, .inr (3, [.ref q1_54, .int 0])), (q1_54, .inl (cI, 12, .inl (fun _ => 0)))])) args s 5 80 (va_A [(h0, .inr (7, [.null, .null, .null]))] s.heap.size)) (F0 m 14 ls []) := by
    intro fu
    induction fu with
    | zero => intro i x hmu; exact absurd hmu (Nat.not_lt_zero _)
    | succ fu ih_14 =>
      intro i x hmu_14 hi ex H locs hP hD hS ls hl
      refine lv_iload_n hx hb dX6_init_14 rfl (lv_at hl 1 rfl) ?_
      refine lv_aload_n hx hb dX6_init_15 rfl (lv_at hl 0 rfl) ?_
      refine va_get (D := D) (ci := 7) (v := .ref q_7) (C := RX6) (T := TX6) (N := 3) hx hb hts hi_X6 hown hK.1 hP 0 rfl rfl 0 (by decide) hw_f9 (fun _ h9 => h9) rfl dX6_init_16 ?_
      refine va_alen (v := 52) hx hb hK.1 hP 1 0 rfl rfl rfl dX6_init_19 ?_
      refine lv_icmp_ge (tgt := 38) hx hb dX6_init_20 (by decide) (fun c_20 => ?_) (fun c_20 => ?_)
      · skip
        have nc_20 : 52 ≤ i := (nI_leI (a := 52) (b := i) (by omega) (by omega)).mp c_20
        have e12 : i = 52 := by omega
        refine lv_aload_n hx hb dX6_init_38 rfl (lv_at hl 0 rfl) ?_
        -- new WhatToRead$Row
        refine va_new (ci := 3) (fs := [.null, .int 0]) (C := RX2) (T := TX2) (N := 2) hx hb hts hi_X2 tyX2 tyX2_ok hown hw_c15 hw_nX2 hw_iX2 hK.1 hP hD hS hA rfl (fun j hj => by rcases (show j = 0 ∨ j = 1 by omega) with rfl | rfl <;> rfl) (Nat.le_of_ble_eq_true rfl) (Nat.le_of_ble_eq_true rfl) dX6_init_39 (fun q_39 H hP hD hS => ?_)
        have hP : va_P D vwCl [(h0, .inr (7, [.ref q_7, .null, .null])), (q_7, .inl (cI, 52, .inl x)), (q_39, .inr (3, [.null, .int 0]))] H := hP
        have hD : va_D _ [(h0, .inr (7, [.ref q_7, .null, .null])), (q_7, .inl (cI, 52, .inl x)), (q_39, .inr (3, [.null, .int 0]))] := hD
        refine lv_dup hx hb dX6_init_42 rfl ?_
        refine kGo (wc := [(q_39, .inr (3, [.null, .int 0]))]) (wr := [(h0, .inr (7, [.ref q_7, .null, .null])), (q_7, .inl (cI, 52, .inl x))]) (va_runI (As := []) (rest := [.ref q_39, .ref h0]) ⟨hx, hb, hml, hown, hts⟩ (c_X2_init l D cI cJ cZ cO q_39  _) (cwI 0 hts gX6_init_X2_init rfl rfl rfl hw_iX2 hw_m17 hw_im_X2_init rfl (by decide +kernel) ⟨Nat.le_of_ble_eq_true rfl, Nat.le_of_ble_eq_true rfl⟩) (kPreS hK (kPc_sub hP [2] rfl) ((hD.sub [2] (by decide) rfl).weaken (fun _ _ _ _ => trivial))) rfl rfl hl.1 rfl (lv_room (Nat.le_of_ble_eq_true rfl)) dX6_init_43 ⟨Nat.le_of_ble_eq_true rfl, Nat.le_of_ble_eq_true rfl⟩) hP hD hS hA [2] [0, 1] rfl rfl (by decide) (by decide) (fun v_2 w_2 H locs hv_2 hP hD hS => ?_)
        obtain ⟨q1_43, rfl, rfl⟩ := hv_2
        have hP : va_P D vwCl [(h0, .inr (7, [.ref q_7, .null, .null])), (q_7, .inl (cI, 52, .inl x)), (q_39, .inr (3, [.ref q1_43, .int 0])), (q1_43, .inl (cI, 12, .inl (fun _ => 0)))] H := hP.sub [0, 1, 2, 3] rfl
        have hD : va_D _ [(h0, .inr (7, [.ref q_7, .null, .null])), (q_7, .inl (cI, 52, .inl x)), (q_39, .inr (3, [.ref q1_43, .int 0])), (q1_43, .inl (cI, 12, .inl (fun _ => 0)))] := hD.sub [0, 1, 2, 3] (by decide) rfl
        refine W.eq (g2 := F0 m 46 ls [.ref q_39, .ref h0]) rfl ?_
        refine va_putF (D := D) (ci := 7) (v := .ref q_39) (ty := .object "WhatToRead$Row") (C := RX6) (T := TX6) (N := 3) hx hb hts hi_X6 tyX6 tyX6_ok nmX6 hown hK.1 hP hD hS 0 rfl rfl 1 (by decide) hw_f18 (fun _ h9 => h9) rfl hnm rfl (by decide +kernel) rfl rfl (Nat.le_of_ble_eq_true rfl) dX6_init_46 (fun H locs hP hD hS => ?_)
        have hP : va_P D vwCl [(h0, .inr (7, [.ref q_7, .ref q_39, .null])), (q_7, .inl (cI, 52, .inl x)), (q_39, .inr (3, [.ref q1_43, .int 0])), (q1_43, .inl (cI, 12, .inl (fun _ => 0)))] H := hP
        have hD : va_D _ [(h0, .inr (7, [.ref q_7, .ref q_39, .null])), (q_7, .inl (cI, 52, .inl x)), (q_39, .inr (3, [.ref q1_43, .int 0])), (q1_43, .inl (cI, 12, .inl (fun _ => 0)))] := hD
        refine lv_aload_n hx hb dX6_init_49 rfl (lv_at hl 0 rfl) ?_
        -- new WhatToRead$Row
        refine va_new (ci := 3) (fs := [.null, .int 0]) (C := RX2) (T := TX2) (N := 2) hx hb hts hi_X2 tyX2 tyX2_ok hown hw_c15 hw_nX2 hw_iX2 hK.1 hP hD hS hA rfl (fun j hj => by rcases (show j = 0 ∨ j = 1 by omega) with rfl | rfl <;> rfl) (Nat.le_of_ble_eq_true rfl) (Nat.le_of_ble_eq_true rfl) dX6_init_50 (fun q_50 H hP hD hS => ?_)
        have hP : va_P D vwCl [(h0, .inr (7, [.ref q_7, .ref q_39, .null])), (q_7, .inl (cI, 52, .inl x)), (q_39, .inr (3, [.ref q1_43, .int 0])), (q1_43, .inl (cI, 12, .inl (fun _ => 0))), (q_50, .inr (3, [.null, .int 0]))] H := hP
        have hD : va_D _ [(h0, .inr (7, [.ref q_7, .ref q_39, .null])), (q_7, .inl (cI, 52, .inl x)), (q_39, .inr (3, [.ref q1_43, .int 0])), (q1_43, .inl (cI, 12, .inl (fun _ => 0))), (q_50, .inr (3, [.null, .int 0]))] := hD
        refine lv_dup hx hb dX6_init_53 rfl ?_
        refine kGo (wc := [(q_50, .inr (3, [.null, .int 0]))]) (wr := [(h0, .inr (7, [.ref q_7, .ref q_39, .null])), (q_7, .inl (cI, 52, .inl x)), (q_39, .inr (3, [.ref q1_43, .int 0])), (q1_43, .inl (cI, 12, .inl (fun _ => 0)))]) (va_runI (As := []) (rest := [.ref q_50, .ref h0]) ⟨hx, hb, hml, hown, hts⟩ (c_X2_init l D cI cJ cZ cO q_50  _) (cwI 0 hts gX6_init_X2_init rfl rfl rfl hw_iX2 hw_m17 hw_im_X2_init rfl (by decide +kernel) ⟨Nat.le_of_ble_eq_true rfl, Nat.le_of_ble_eq_true rfl⟩) (kPreS hK (kPc_sub hP [4] rfl) ((hD.sub [4] (by decide) rfl).weaken (fun _ _ _ _ => trivial))) rfl rfl hl.1 rfl (lv_room (Nat.le_of_ble_eq_true rfl)) dX6_init_54 ⟨Nat.le_of_ble_eq_true rfl, Nat.le_of_ble_eq_true rfl⟩) hP hD hS hA [4] [0, 1, 2, 3] rfl rfl (by decide) (by decide) (fun v_4 w_4 H locs hv_4 hP hD hS => ?_)
        obtain ⟨q1_54, rfl, rfl⟩ := hv_4
        have hP : va_P D vwCl [(h0, .inr (7, [.ref q_7, .ref q_39, .null])), (q_7, .inl (cI, 52, .inl x)), (q_39, .inr (3, [.ref q1_43, .int 0])), (q1_43, .inl (cI, 12, .inl (fun _ => 0))), (q_50, .inr (3, [.ref q1_54, .int 0])), (q1_54, .inl (cI, 12, .inl (fun _ => 0)))] H := hP.sub [0, 1, 2, 3, 4, 5] rfl
        have hD : va_D _ [(h0, .inr (7, [.ref q_7, .ref q_39, .null])), (q_7, .inl (cI, 52, .inl x)), (q_39, .inr (3, [.ref q1_43, .int 0])), (q1_43, .inl (cI, 12, .inl (fun _ => 0))), (q_50, .inr (3, [.ref q1_54, .int 0])), (q1_54, .inl (cI, 12, .inl (fun _ => 0)))] := hD.sub [0, 1, 2, 3, 4, 5] (by decide) rfl
        refine W.eq (g2 := F0 m 57 ls [.ref q_50, .ref h0]) rfl ?_
        refine va_putF (D := D) (ci := 7) (v := .ref q_50) (ty := .object "WhatToRead$Row") (C := RX6) (T := TX6) (N := 3) hx hb hts hi_X6 tyX6 tyX6_ok nmX6 hown hK.1 hP hD hS 0 rfl rfl 2 (by decide) hw_f22 (fun _ h9 => h9) rfl hnm rfl (by decide +kernel) rfl rfl (Nat.le_of_ble_eq_true rfl) dX6_init_57 (fun H locs hP hD hS => ?_)
        have hP : va_P D vwCl [(h0, .inr (7, [.ref q_7, .ref q_39, .ref q_50])), (q_7, .inl (cI, 52, .inl x)), (q_39, .inr (3, [.ref q1_43, .int 0])), (q1_43, .inl (cI, 12, .inl (fun _ => 0))), (q_50, .inr (3, [.ref q1_54, .int 0])), (q1_54, .inl (cI, 12, .inl (fun _ => 0)))] H := hP
        have hD : va_D _ [(h0, .inr (7, [.ref q_7, .ref q_39, .ref q_50])), (q_7, .inl (cI, 52, .inl x)), (q_39, .inr (3, [.ref q1_43, .int 0])), (q1_43, .inl (cI, 12, .inl (fun _ => 0))), (q_50, .inr (3, [.ref q1_54, .int 0])), (q1_54, .inl (cI, 12, .inl (fun _ => 0)))] := hD
        have ew_0 : (x : Nat → Int32) = fill3 (fun _ => 0) 52 := by first | rfl | (rw [ex, e12]; done) | (rw [em, e12]; done) | (rw [ey, e12]; done) | (rw [e12]; done) | (simp [hi, ex, c_20, nc_20]; done) | (simp_all []; done)
        exact kRetV hx hb hr hlk dX6_init_60 hP hD hS (Nat.le_of_ble_eq_true rfl) (Nat.le_of_ble_eq_true rfl) ⟨q_7, q_39, q1_43, q_50, q1_54, rfl, (kw1 (fun (z_0 : Nat → Int32) => ([(h0, .inr (7, [.ref q_7, .ref q_39, .ref q_50])), (q_7, .inl (cI, 52, .inl z_0)), (q_39, .inr (3, [.ref q1_43, .int 0])), (q1_43, .inl (cI, 12, .inl (fun _ => 0))), (q_50, .inr (3, [.ref q1_54, .int 0])), (q1_54, .inl (cI, 12, .inl (fun _ => 0)))] : va_W)) ew_0)⟩
      · skip
        have nc_20 : ¬ 52 ≤ i := (not_congr (nI_leI (a := 52) (b := i) (by omega) (by omega))).mp c_20
        refine lv_aload_n hx hb dX6_init_23 rfl (lv_at hl 0 rfl) ?_
        refine va_get (D := D) (ci := 7) (v := .ref q_7) (C := RX6) (T := TX6) (N := 3) hx hb hts hi_X6 hown hK.1 hP 0 rfl rfl 0 (by decide) hw_f9 (fun _ h9 => h9) rfl dX6_init_24 ?_
        refine lv_iload_n hx hb dX6_init_27 rfl (lv_at hl 1 rfl) ?_
        refine lv_sipush (v := 300) hx hb dX6_init_28 (by decide) ?_
        refine va_iast hx hb hK.1 hP hD hS 1 0 rfl rfl (vp_in_nI (by omega) (by omega)) dX6_init_31 (fun H locs hP hD hS => ?_)
        rw [nI_clamp (by omega)] at hP hD
        have hP : va_P D vwCl [(h0, .inr (7, [.ref q_7, .null, .null])), (q_7, .inl (cI, 52, .inl (upd x i 300)))] H := hP
        have hD : va_D _ [(h0, .inr (7, [.ref q_7, .null, .null])), (q_7, .inl (cI, 52, .inl (upd x i 300)))] := hD
        refine lv_iinc (v := nI (i + 1)) (lv' := [(1, .int (nI (i + 1))), (0, .ref h0)]) hx hb dX6_init_32 hl (k := 1) rfl (nI_1 _) (by decide) rfl (fun ls hl => ?_)
        refine lv_goto (tgt := 14) hx hb dX6_init_35 (by decide) ?_
        exact ih_14  (i + 1) (upd x i 300) (by omega) (by first | omega | assumption) (by rw [ex]; exact fill3_s _ i) _ _ hP hD hS _ (lv_sub hl [1, 0] rfl)
  exact hloop_14 ((52 - 0) + 1) 0 (fun _ => 0) (Nat.lt_succ_self _) (by first | omega | assumption) (by exact (fill3_0 _).symm) _ _ hP hD hS _ (lv_sub hl [1, 0] rfl)

set_option maxHeartbeats 4000000 in
set_option maxRecDepth 100000 in
theorem c_X6_change (l : Launch) (D : va_G) (cI cJ cZ cO : ClassId) (k0 : Nat) (k1 : Nat) (k2 : Nat) (k3 : Nat) (mi : Nat → Int32) (w : Int32) (x : Int32) : kC l D (kTY cI cJ cZ cO) yX6_change wsX6_change 0 0 0 0 [.ref k0, .int w, .int x] [(k0, .inr (7, [.ref k1, .ref k2, .ref k3])), (k1, .inl (cI, 52, .inl mi))] (fun rv_ rw_ => rv_ = none ∧ rw_ = [(k0, .inr (7, [.ref k1, .ref k2, .ref k3])), (k1, .inl (cI, 52, .inl (if ¬ w < 0 ∧ ¬ 52 ≤ w then upd mi w.toNatClampNeg x else mi)))]) := by
  refine kEnter (cc := cX6_change) (maxL := 3) (ret := none) (by decide) rfl (Nat.le_of_ble_eq_true rfl) ?_
  intro p e s m args below meth c hx hb hr hml hts hown hlk hnm hK hP hD hS hA ls hl
  have hl : lv_has ls 3 [(0, .ref k0), (1, .int w), (2, .int x)] := hl
  have hw_f9 := hts (.fieldLink RX6 9 "WhatToRead$Weeks" "minutes" "[I") (by decide +kernel)
  have hi_X6 : ∀ w ∈ wsX60, w ∈ wsX6_change := by decide +kernel
  refine lv_iload_n hx hb dX6_change_0 rfl (lv_at hl 1 rfl) ?_
  refine lv_if_lt (tgt := 20) hx hb dX6_change_1 (by decide) (fun c_1 => ?_) (fun c_1 => ?_)
  · skip
    have ew_0 : (mi : Nat → Int32) = if ¬ w < 0 ∧ ¬ 52 ≤ w then upd mi w.toNatClampNeg x else mi := by first | rfl | (rw [ex, e12]; done) | (rw [em, e12]; done) | (rw [ey, e12]; done) | (rw [e12]; done) | (simp [c_1]; done) | (simp_all []; done)
    exact kRetV hx hb hr hlk dX6_change_20 hP hD hS (Nat.le_of_ble_eq_true rfl) (Nat.le_of_ble_eq_true rfl) ⟨rfl, (kw1 (fun (z_0 : Nat → Int32) => ([(k0, .inr (7, [.ref k1, .ref k2, .ref k3])), (k1, .inl (cI, 52, .inl z_0))] : va_W)) ew_0)⟩
  · skip
    refine lv_iload_n hx hb dX6_change_4 rfl (lv_at hl 1 rfl) ?_
    refine lv_aload_n hx hb dX6_change_5 rfl (lv_at hl 0 rfl) ?_
    refine va_get (D := D) (ci := 7) (v := .ref k1) (C := RX6) (T := TX6) (N := 3) hx hb hts hi_X6 hown hK.1 hP 0 rfl rfl 0 (by decide) hw_f9 (fun _ h9 => h9) rfl dX6_change_6 ?_
    refine va_alen (v := 52) hx hb hK.1 hP 1 0 rfl rfl rfl dX6_change_9 ?_
    refine lv_icmp_ge (tgt := 20) hx hb dX6_change_10 (by decide) (fun c_10 => ?_) (fun c_10 => ?_)
    · skip
      have ew_0 : (mi : Nat → Int32) = if ¬ w < 0 ∧ ¬ 52 ≤ w then upd mi w.toNatClampNeg x else mi := by first | rfl | (rw [ex, e12]; done) | (rw [em, e12]; done) | (rw [ey, e12]; done) | (rw [e12]; done) | (simp [c_1, c_10]; done) | (simp_all []; done)
      exact kRetV hx hb hr hlk dX6_change_20 hP hD hS (Nat.le_of_ble_eq_true rfl) (Nat.le_of_ble_eq_true rfl) ⟨rfl, (kw1 (fun (z_0 : Nat → Int32) => ([(k0, .inr (7, [.ref k1, .ref k2, .ref k3])), (k1, .inl (cI, 52, .inl z_0))] : va_W)) ew_0)⟩
    · skip
      refine lv_aload_n hx hb dX6_change_13 rfl (lv_at hl 0 rfl) ?_
      refine va_get (D := D) (ci := 7) (v := .ref k1) (C := RX6) (T := TX6) (N := 3) hx hb hts hi_X6 hown hK.1 hP 0 rfl rfl 0 (by decide) hw_f9 (fun _ h9 => h9) rfl dX6_change_14 ?_
      refine lv_iload_n hx hb dX6_change_17 rfl (lv_at hl 1 rfl) ?_
      refine lv_iload_n hx hb dX6_change_18 rfl (lv_at hl 2 rfl) ?_
      refine va_iast hx hb hK.1 hP hD hS 1 0 rfl rfl (kin 52 rfl (by decide) c_1 c_10) dX6_change_19 (fun H locs hP hD hS => ?_)
      have hP : va_P D vwCl [(k0, .inr (7, [.ref k1, .ref k2, .ref k3])), (k1, .inl (cI, 52, .inl (upd mi (w).toNatClampNeg x)))] H := hP
      have hD : va_D _ [(k0, .inr (7, [.ref k1, .ref k2, .ref k3])), (k1, .inl (cI, 52, .inl (upd mi (w).toNatClampNeg x)))] := hD
      have ew_0 : (upd mi (w).toNatClampNeg x : Nat → Int32) = if ¬ w < 0 ∧ ¬ 52 ≤ w then upd mi w.toNatClampNeg x else mi := by first | rfl | (rw [ex, e12]; done) | (rw [em, e12]; done) | (rw [ey, e12]; done) | (rw [e12]; done) | (simp [c_1, c_10]; done) | (simp_all []; done)
      exact kRetV hx hb hr hlk dX6_change_20 hP hD hS (Nat.le_of_ble_eq_true rfl) (Nat.le_of_ble_eq_true rfl) ⟨rfl, (kw1 (fun (z_0 : Nat → Int32) => ([(k0, .inr (7, [.ref k1, .ref k2, .ref k3])), (k1, .inl (cI, 52, .inl z_0))] : va_W)) ew_0)⟩

set_option maxHeartbeats 4000000 in
set_option maxRecDepth 100000 in
theorem c_X6_weekOf (l : Launch) (D : va_G) (cI cJ cZ cO : ClassId) (k0 : Nat) (k1 : Nat) (k2 : Nat) (k3 : Nat) (k4 : Nat) (ln : Nat) (lf : Nat → Int32) (i : Int32) : kR l D (kTY cI cJ cZ cO) yX6_weekOf wsX6_weekOf 1 21 [.ref k0, .int i] [(k0, .inr (7, [.ref k1, .ref k2, .ref k3])), (k2, .inr (3, [.ref k4, .int (nI ln)])), (k4, .inl (cI, 12, .inl lf))] (fun rv_ => rv_ = some (.int (rowAt lf (nI ln) i))) := by
  refine kEnterR (cc := cX6_weekOf) (maxL := 2) (ret := (some .int)) (by decide) rfl (Nat.le_of_ble_eq_true rfl) ?_
  intro p e s m args below meth c hx hb hr hml hts hown hlk hK hP ls hl
  have hl : lv_has ls 2 [(0, .ref k0), (1, .int i)] := hl
  have hw_f18 := hts (.fieldLink RX6 18 "WhatToRead$Weeks" "laidWeeks" "LWhatToRead$Row;") (by decide +kernel)
  have hi_X6 : ∀ w ∈ wsX60, w ∈ wsX6_weekOf := by decide +kernel
  refine lv_aload_n hx hb dX6_weekOf_0 rfl (lv_at hl 0 rfl) ?_
  refine va_get (D := D) (ci := 7) (v := .ref k2) (C := RX6) (T := TX6) (N := 3) hx hb hts hi_X6 hown hK.1 hP 0 rfl rfl 1 (by decide) hw_f18 (fun _ h9 => h9) rfl dX6_weekOf_1 ?_
  refine lv_iload_n hx hb dX6_weekOf_4 rfl (lv_at hl 1 rfl) ?_
  refine kGoR (va_runV (As := [.int i]) (rest := []) ⟨hx, hb, hml, hown, hts⟩ (c_X2_at l D cI cJ cZ cO k2 k4 (nI ln) lf i ) (cwV 1 hts gX6_weekOf_X2_at rfl rfl rfl (by decide +kernel) ⟨Nat.le_of_ble_eq_true rfl, Nat.le_of_ble_eq_true rfl⟩) (kPreVR (ci := 3) (q0 := 0) hK (kPc_sub hP [1, 2] rfl) rfl rfl rfl) rfl rfl hl.1 rfl (lv_room (Nat.le_of_ble_eq_true rfl)) dX6_weekOf_5 ⟨Nat.le_of_ble_eq_true rfl, Nat.le_of_ble_eq_true rfl⟩) (fun v_1 hv_1 => ?_)
  obtain rfl := hv_1
  refine W.eq (g2 := F0 m 8 ls [.int (rowAt lf (nI ln) i)]) rfl ?_
  exact kRetIr hx hb hr hlk dX6_weekOf_8 rfl

set_option maxHeartbeats 4000000 in
set_option maxRecDepth 100000 in
theorem c_X6_layRow_b (l : Launch) (D : va_G) (cI cJ cZ cO : ClassId) (k0 : Nat) (k1 : Nat) (k2 : Nat) (k3 : Nat) (k4 : Nat) (k5 : Nat) (mi : Nat → Int32) (ln : Nat) (lf : Nat → Int32) (dn : Int32) (df : Nat → Int32) (r0 : Nat) (r1 : Nat) (rn : Nat) (rf : Nat → Int32) (h0 : Nat) (la : Nat) (ea : Nat) (pc : Int32) (mo : Int32) (n : Nat) (al : Nat → Option Nat) (cap : Nat) (LP : List Nat) (pf : Nat → va_E) (ad : Nat → Nat) (ne : Nat → Int32) (ei : Nat → Int32) (gv : Nat → Int32) (sk : Nat → Int32) (pg : Nat → Int32) (x : Int32) (hn : n ≤ 14) (hH : shH cO n ea cap al LP pf) (hE : shE n al LP pf ad ne ei gv sk pg) (hx1 : x < 0 ∨ 52 ≤ x) : kC l D (kTY cI cJ cZ cO) yX6_layRow wsX6_layRow 5 108 0 0 [.ref k0, .ref r0, .ref h0, .int x] ([(k0, .inr (7, [.ref k1, .ref k2, .ref k3])), (k1, .inl (cI, 52, .inl mi)), (k2, .inr (3, [.ref k4, .int (nI ln)])), (k4, .inl (cI, 12, .inl lf)), (k3, .inr (3, [.ref k5, .int dn])), (k5, .inl (cI, 12, .inl df)), (r0, .inr (3, [.ref r1, .int (nI rn)])), (r1, .inl (cI, 12, .inl rf)), (h0, .inr (4, [.ref la, .int pc])), (la, .inr (0, [.int mo, .ref ea, .int (nI n)]))] ++ va_pl LP pf) (fun rv_ rw_ => rv_ = some (.int (-1)) ∧ rw_ = ([(k0, .inr (7, [.ref k1, .ref k2, .ref k3])), (k1, .inl (cI, 52, .inl mi)), (k2, .inr (3, [.ref k4, .int (nI ln)])), (k4, .inl (cI, 12, .inl lf)), (k3, .inr (3, [.ref k5, .int dn])), (k5, .inl (cI, 12, .inl df)), (r0, .inr (3, [.ref r1, .int (nI rn)])), (r1, .inl (cI, 12, .inl rf)), (h0, .inr (4, [.ref la, .int pc])), (la, .inr (0, [.int mo, .ref ea, .int (nI n)]))] ++ va_pl LP pf)) := by
  refine kEnter (cc := cX6_layRow) (maxL := 8) (ret := (some .int)) (by decide) rfl (Nat.le_of_ble_eq_true rfl) ?_
  intro p e s m args below meth c hx hb hr hml hts hown hlk hnm hK hP hD hS hA ls hl
  have hl : lv_has ls 8 [(0, .ref k0), (1, .ref r0), (2, .ref h0), (3, .int x)] := hl
  have hw_f9 := hts (.fieldLink RX6 9 "WhatToRead$Weeks" "minutes" "[I") (by decide +kernel)
  have hi_X6 : ∀ w ∈ wsX60, w ∈ wsX6_layRow := by decide +kernel
  refine lv_iload_n hx hb dX6_layRow_0 rfl (lv_at hl 3 rfl) ?_
  refine lv_if_lt (tgt := 13) hx hb dX6_layRow_1 (by decide) (fun c_1 => ?_) (fun c_1 => ?_)
  · skip
    refine lv_iconst (v := (-1)) hx hb dX6_layRow_13 (by decide) ?_
    exact kRetI hx hb hr hlk dX6_layRow_14 hP hD hS (Nat.le_of_ble_eq_true rfl) (Nat.le_of_ble_eq_true rfl) ⟨rfl, rfl⟩
  · skip
    refine lv_iload_n hx hb dX6_layRow_4 rfl (lv_at hl 3 rfl) ?_
    refine lv_aload_n hx hb dX6_layRow_5 rfl (lv_at hl 0 rfl) ?_
    refine va_get (D := D) (ci := 7) (v := .ref k1) (C := RX6) (T := TX6) (N := 3) hx hb hts hi_X6 hown hK.1 hP 0 rfl rfl 0 (by decide) hw_f9 (fun _ h9 => h9) rfl dX6_layRow_6 ?_
    refine va_alen (v := 52) hx hb hK.1 hP 1 0 rfl rfl rfl dX6_layRow_9 ?_
    refine lv_icmp_lt (tgt := 15) hx hb dX6_layRow_10 (by decide) (fun c_10 => ?_) (fun c_10 => ?_)
    · skip
      exact absurd hx1 (fun q => q.elim (fun q => c_1 q) (fun q => absurd c_10 (Int32.not_lt.mpr q)))
    · skip
      refine lv_iconst (v := (-1)) hx hb dX6_layRow_13 (by decide) ?_
      exact kRetI hx hb hr hlk dX6_layRow_14 hP hD hS (Nat.le_of_ble_eq_true rfl) (Nat.le_of_ble_eq_true rfl) ⟨rfl, rfl⟩

set_option maxHeartbeats 4000000 in
set_option maxRecDepth 100000 in
theorem c_X6_layRow_a (l : Launch) (D : va_G) (cI cJ cZ cO : ClassId) (k0 : Nat) (k1 : Nat) (k2 : Nat) (k3 : Nat) (k4 : Nat) (k5 : Nat) (mi : Nat → Int32) (ln : Nat) (lf : Nat → Int32) (dn : Int32) (df : Nat → Int32) (r0 : Nat) (r1 : Nat) (rn : Nat) (rf : Nat → Int32) (h0 : Nat) (la : Nat) (ea : Nat) (pc : Int32) (mo : Int32) (n : Nat) (al : Nat → Option Nat) (cap : Nat) (LP : List Nat) (pf : Nat → va_E) (ad : Nat → Nat) (ne : Nat → Int32) (ei : Nat → Int32) (gv : Nat → Int32) (sk : Nat → Int32) (pg : Nat → Int32) (F : Nat) (hn : n ≤ 14) (hH : shH cO n ea cap al LP pf) (hE : shE n al LP pf ad ne ei gv sk pg) (hF : F < 52) (hrn : rn ≤ 12) : kC l D (kTY cI cJ cZ cO) yX6_layRow wsX6_layRow 5 108 0 0 [.ref k0, .ref r0, .ref h0, .int (nI F)] ([(k0, .inr (7, [.ref k1, .ref k2, .ref k3])), (k1, .inl (cI, 52, .inl mi)), (k2, .inr (3, [.ref k4, .int (nI ln)])), (k4, .inl (cI, 12, .inl lf)), (k3, .inr (3, [.ref k5, .int dn])), (k5, .inl (cI, 12, .inl df)), (r0, .inr (3, [.ref r1, .int (nI rn)])), (r1, .inl (cI, 12, .inl rf)), (h0, .inr (4, [.ref la, .int pc])), (la, .inr (0, [.int mo, .ref ea, .int (nI n)]))] ++ va_pl LP pf) (fun rv_ rw_ => ∃ dn2 : Int32, ∃ df2 : Nat → Int32, rv_ = some (.int (layR (layS mi (fun z => minF n pg pc (rf z)) F df rn))) ∧ rw_ = ([(k0, .inr (7, [.ref k1, .ref k2, .ref k3])), (k1, .inl (cI, 52, .inl mi)), (k2, .inr (3, [.ref k4, .int (nI (layN (layS mi (fun z => minF n pg pc (rf z)) F df rn) rn ln))])), (k4, .inl (cI, 12, .inl (layA (layS mi (fun z => minF n pg pc (rf z)) F df rn) rn lf))), (k3, .inr (3, [.ref k5, .int dn2])), (k5, .inl (cI, 12, .inl df2)), (r0, .inr (3, [.ref r1, .int (nI rn)])), (r1, .inl (cI, 12, .inl rf)), (h0, .inr (4, [.ref la, .int pc])), (la, .inr (0, [.int mo, .ref ea, .int (nI n)]))] ++ va_pl LP pf)) := by
  refine kEnter (cc := cX6_layRow) (maxL := 8) (ret := (some .int)) (by decide) rfl (Nat.le_of_ble_eq_true rfl) ?_
  intro p e s m args below meth c hx hb hr hml hts hown hlk hnm hK hP hD hS hA ls hl
  have hl : lv_has ls 8 [(0, .ref k0), (1, .ref r0), (2, .ref h0), (3, .int (nI F))] := hl
  have hw_f9 := hts (.fieldLink RX6 9 "WhatToRead$Weeks" "minutes" "[I") (by decide +kernel)
  have hi_X6 : ∀ w ∈ wsX60, w ∈ wsX6_layRow := by decide +kernel
  have hw_f22 := hts (.fieldLink RX6 22 "WhatToRead$Weeks" "draft" "LWhatToRead$Row;") (by decide +kernel)
  have hw_f18 := hts (.fieldLink RX6 18 "WhatToRead$Weeks" "laidWeeks" "LWhatToRead$Row;") (by decide +kernel)
  refine lv_iload_n hx hb dX6_layRow_0 rfl (lv_at hl 3 rfl) ?_
  refine lv_if_lt (tgt := 13) hx hb dX6_layRow_1 (by decide) (fun c_1 => ?_) (fun c_1 => ?_)
  · exact absurd c_1 (nI_pos (by omega))
  · skip
    refine lv_iload_n hx hb dX6_layRow_4 rfl (lv_at hl 3 rfl) ?_
    refine lv_aload_n hx hb dX6_layRow_5 rfl (lv_at hl 0 rfl) ?_
    refine va_get (D := D) (ci := 7) (v := .ref k1) (C := RX6) (T := TX6) (N := 3) hx hb hts hi_X6 hown hK.1 hP 0 rfl rfl 0 (by decide) hw_f9 (fun _ h9 => h9) rfl dX6_layRow_6 ?_
    refine va_alen (v := 52) hx hb hK.1 hP 1 0 rfl rfl rfl dX6_layRow_9 ?_
    refine lv_icmp_lt (tgt := 15) hx hb dX6_layRow_10 (by decide) (fun c_10 => ?_) (fun c_10 => ?_)
    · skip
      refine lv_iload_n hx hb dX6_layRow_15 rfl (lv_at hl 3 rfl) ?_
      refine lv_istore (lv' := [(4, .int (nI F)), (0, .ref k0), (1, .ref r0), (2, .ref h0), (3, .int (nI F))]) hx hb dX6_layRow_16 hl (by decide) rfl (fun ls hl => ?_)
      refine lv_aload_n hx hb dX6_layRow_18 rfl (lv_at hl 1 rfl) ?_
      refine va_get (D := D) (ci := 7) (v := .ref k1) (C := RX6) (T := TX6) (N := 3) hx hb hts hi_X6 hown hK.1 hP 0 rfl rfl 0 (by decide) hw_f9 (fun _ h9 => h9) rfl dX6_layRow_19 ?_
      refine lv_iload_n hx hb dX6_layRow_22 rfl (lv_at hl 4 rfl) ?_
      refine va_iald hx hb hK.1 hP 1 0 rfl rfl (vp_in_nI (by omega) (by omega)) dX6_layRow_23 ?_
      refine lv_topi (fun nv_1 ev_1 => ?_)
      obtain rfl : nv_1 = mi F := by rw [ev_1, nI_clamp (by omega)]
      refine lv_istore (lv' := [(5, .int (mi F)), (4, .int (nI F)), (0, .ref k0), (1, .ref r0), (2, .ref h0), (3, .int (nI F))]) hx hb dX6_layRow_24 hl (by decide) rfl (fun ls hl => ?_)
      refine lv_aload_n hx hb dX6_layRow_26 rfl (lv_at hl 2 rfl) ?_
      refine va_get (D := D) (ci := 7) (v := .ref k3) (C := RX6) (T := TX6) (N := 3) hx hb hts hi_X6 hown hK.1 hP 0 rfl rfl 2 (by decide) hw_f22 (fun _ h9 => h9) rfl dX6_layRow_27 ?_
      refine kGoQ (cx := [(k3, .inr (3, [.ref k5, .int dn])), (k5, .inl (cI, 12, .inl df))]) (wr := [(k0, .inr (7, [.ref k1, .ref k2, .ref k3])), (k1, .inl (cI, 52, .inl mi)), (k2, .inr (3, [.ref k4, .int (nI ln)])), (k4, .inl (cI, 12, .inl lf)), (r0, .inr (3, [.ref r1, .int (nI rn)])), (r1, .inl (cI, 12, .inl rf)), (h0, .inr (4, [.ref la, .int pc])), (la, .inr (0, [.int mo, .ref ea, .int (nI n)]))]) (va_runV (As := []) (rest := []) ⟨hx, hb, hml, hown, hts⟩ (c_X2_clear l D cI cJ cZ cO k3 k5 dn df  _) (cwV 0 hts gX6_layRow_X2_clear rfl rfl rfl (by decide +kernel) ⟨Nat.le_of_ble_eq_true rfl, Nat.le_of_ble_eq_true rfl⟩) (kPreV (ci := 3) (q0 := 0) hK (kPl_sub hP [4, 5] rfl) ((kDl_sub hD [4, 5] (by decide) rfl).weaken (fun _ _ _ _ => trivial)) rfl rfl rfl) rfl rfl hl.1 rfl (lv_room (Nat.le_of_ble_eq_true rfl)) dX6_layRow_30 ⟨Nat.le_of_ble_eq_true rfl, Nat.le_of_ble_eq_true rfl⟩) hP hD hS hA [4, 5] [0, 1, 2, 3, 6, 7, 8, 9] rfl rfl (by decide) (by decide) (fun v_2 w_2 H locs hv_2 hP hD hS => ?_)
      obtain ⟨rfl, rfl⟩ := hv_2
      have hP : va_P D vwCl ([(k0, .inr (7, [.ref k1, .ref k2, .ref k3])), (k1, .inl (cI, 52, .inl mi)), (k2, .inr (3, [.ref k4, .int (nI ln)])), (k4, .inl (cI, 12, .inl lf)), (k3, .inr (3, [.ref k5, .int 0])), (k5, .inl (cI, 12, .inl df)), (r0, .inr (3, [.ref r1, .int (nI rn)])), (r1, .inl (cI, 12, .inl rf)), (h0, .inr (4, [.ref la, .int pc])), (la, .inr (0, [.int mo, .ref ea, .int (nI n)]))] ++ va_pl LP pf) H := hP.part [0, 1, 2, 3, 8, 9, 4, 5, 6, 7] rfl
      have hD : va_D _ ([(k0, .inr (7, [.ref k1, .ref k2, .ref k3])), (k1, .inl (cI, 52, .inl mi)), (k2, .inr (3, [.ref k4, .int (nI ln)])), (k4, .inl (cI, 12, .inl lf)), (k3, .inr (3, [.ref k5, .int 0])), (k5, .inl (cI, 12, .inl df)), (r0, .inr (3, [.ref r1, .int (nI rn)])), (r1, .inl (cI, 12, .inl rf)), (h0, .inr (4, [.ref la, .int pc])), (la, .inr (0, [.int mo, .ref ea, .int (nI n)]))] ++ va_pl LP pf) := hD.part [0, 1, 2, 3, 8, 9, 4, 5, 6, 7] (by decide) rfl
      refine W.eq (g2 := F0 m 33 ls []) rfl ?_
      refine lv_iconst (v := 0) hx hb dX6_layRow_33 (by decide) ?_
      refine lv_istore (lv' := [(6, .int 0), (5, .int (mi F)), (4, .int (nI F)), (0, .ref k0), (1, .ref r0), (2, .ref h0), (3, .int (nI F))]) hx hb dX6_layRow_34 hl (by decide) rfl (fun ls hl => ?_)
      have hloop_36 : ∀ (fu : Nat) (i : Nat) (w : Nat) (le : Int32) (d : Nat → Int32), rn - i < fu → i ≤ rn → w < 52 → layS mi (fun z => minF n pg pc (rf z)) F df i = some (w, le, d) → ∀ (H : Heap) (locs : List Loc), va_P D vwCl ([(k0, .inr (7, [.ref k1, .ref k2, .ref k3])), (k1, .inl (cI, 52, .inl mi)), (k2, .inr (3, [.ref k4, .int (nI ln)])), (k4, .inl (cI, 12, .inl lf)), (k3, .inr (3, [.ref k5, .int (nI i)])), (k5, .inl (cI, 12, .inl d)), (r0, .inr (3, [.ref r1, .int (nI rn)])), (r1, .inl (cI, 12, .inl rf)), (h0, .inr (4, [.ref la, .int pc])), (la, .inr (0, [.int mo, .ref ea, .int (nI n)]))] ++ va_pl LP pf) H → va_D (va_A ([(k0, .inr (7, [.ref k1, .ref k2, .ref k3])), (k1, .inl (cI, 52, .inl mi)), (k2, .inr (3, [.ref k4, .int (nI ln)])), (k4, .inl (cI, 12, .inl lf)), (k3, .inr (3, [.ref k5, .int dn])), (k5, .inl (cI, 12, .inl df)), (r0, .inr (3, [.ref r1, .int (nI rn)])), (r1, .inl (cI, 12, .inl rf)), (h0, .inr (4, [.ref la, .int pc])), (la, .inr (0, [.int mo, .ref ea, .int (nI n)]))] ++ va_pl LP pf) s.heap.size) ([(k0, .inr (7, [.ref k1, .ref k2, .ref k3])), (k1, .inl (cI, 52, .inl mi)), (k2, .inr (3, [.ref k4, .int (nI ln)])), (k4, .inl (cI, 12, .inl lf)), (k3, .inr (3, [.ref k5, .int (nI i)])), (k5, .inl (cI, 12, .inl d)), (r0, .inr (3, [.ref r1, .int (nI rn)])), (r1, .inl (cI, 12, .inl rf)), (h0, .inr (4, [.ref la, .int pc])), (la, .inr (0, [.int mo, .ref ea, .int (nI n)]))] ++ va_pl LP pf) → va_S (va_A ([(k0, .inr (7, [.ref k1, .ref k2, .ref k3])), (k1, .inl (cI, 52, .inl mi)), (k2, .inr (3, [.ref k4, .int (nI ln)])), (k4, .inl (cI, 12, .inl lf)), (k3, .inr (3, [.ref k5, .int dn])), (k5, .inl (cI, 12, .inl df)), (r0, .inr (3, [.ref r1, .int (nI rn)])), (r1, .inl (cI, 12, .inl rf)), (h0, .inr (4, [.ref la, .int pc])), (la, .inr (0, [.int mo, .ref ea, .int (nI n)]))] ++ va_pl LP pf) s.heap.size) s.heap H locs → ∀ ls : Array Slot, lv_has ls 8 [(0, .ref k0), (1, .ref r0), (2, .ref h0), (3, .int (nI F)), (4, .int (nI w)), (5, .int le), (6, .int (nI i))] → W p l e ({ frames := 5, cells := 0, slots := 0, locals := 108 }) s m args below meth c H locs 0 0 (MQ below (kQ D ([(k0, .inr (7, [.ref k1, .ref k2, .ref k3])), (k1, .inl (cI, 52, .inl mi)), (k2, .inr (3, [.ref k4, .int (nI ln)])), (k4, .inl (cI, 12, .inl lf)), (k3, .inr (3, [.ref k5, .int dn])), (k5, .inl (cI, 12, .inl df)), (r0, .inr (3, [.ref r1, .int (nI rn)])), (r1, .inl (cI, 12, .inl rf)), (h0, .inr (4, [.ref la, .int pc])), (la, .inr (0, [.int mo, .ref ea, .int (nI n)]))] ++ va_pl LP pf) s.heap.size (fun rv_ rw_ => ∃ dn2 : Int32, ∃ df2 : Nat → Int32, rv_ = some (.int (layR (layS mi (fun z => minF n pg pc (rf z)) F df rn))) ∧ rw_ = ([(k0, .inr (7, [.ref k1, .ref k2, .ref k3])), (k1, .inl (cI, 52, .inl mi)), (k2, .inr (3, [.ref k4, .int (nI (layN (layS mi (fun z => minF n pg pc (rf z)) F df rn) rn ln))])), (k4, .inl (cI, 12, .inl (layA (layS mi (fun z => minF n pg pc (rf z)) F df rn) rn lf))), (k3, .inr (3, [.ref k5, .int dn2])), (k5, .inl (cI, 12, .inl df2)), (r0, .inr (3, [.ref r1, .int (nI rn)])), (r1, .inl (cI, 12, .inl rf)), (h0, .inr (4, [.ref la, .int pc])), (la, .inr (0, [.int mo, .ref ea, .int (nI n)]))] ++ va_pl LP pf))) args s 0 0 (va_A ([(k0, .inr (7, [.ref k1, .ref k2, .ref k3])), (k1, .inl (cI, 52, .inl mi)), (k2, .inr (3, [.ref k4, .int (nI ln)])), (k4, .inl (cI, 12, .inl lf)), (k3, .inr (3, [.ref k5, .int dn])), (k5, .inl (cI, 12, .inl df)), (r0, .inr (3, [.ref r1, .int (nI rn)])), (r1, .inl (cI, 12, .inl rf)), (h0, .inr (4, [.ref la, .int pc])), (la, .inr (0, [.int mo, .ref ea, .int (nI n)]))] ++ va_pl LP pf) s.heap.size)) (F0 m 36 ls []) := by
        intro fu
        induction fu with
        | zero => intro i w le d hmu; exact absurd hmu (Nat.not_lt_zero _)
        | succ fu ih_36 =>
          intro i w le d hmu_36 hi hw ey H locs hP hD hS ls hl
          refine lv_iload hx hb dX6_layRow_36 (lv_at hl 6 rfl) ?_
          refine lv_aload_n hx hb dX6_layRow_38 rfl (lv_at hl 1 rfl) ?_
          refine kGoR (va_runV (As := []) (rest := [.int (nI i)]) ⟨hx, hb, hml, hown, hts⟩ (c_X2_size l D cI cJ cZ cO r0 r1 (nI rn) rf ) (cwV 0 hts gX6_layRow_X2_size rfl rfl rfl (by decide +kernel) ⟨Nat.le_of_ble_eq_true rfl, Nat.le_of_ble_eq_true rfl⟩) (kPreVR (ci := 3) (q0 := 0) hK (kPl_sub hP [6, 7] rfl) rfl rfl rfl) rfl rfl hl.1 rfl (lv_room (Nat.le_of_ble_eq_true rfl)) dX6_layRow_39 ⟨Nat.le_of_ble_eq_true rfl, Nat.le_of_ble_eq_true rfl⟩) (fun v_3 hv_3 => ?_)
          obtain rfl := hv_3
          refine W.eq (g2 := F0 m 42 ls [.int (nI rn), .int (nI i)]) rfl ?_
          refine lv_icmp_ge (tgt := 129) hx hb dX6_layRow_42 (by decide) (fun c_42 => ?_) (fun c_42 => ?_)
          · skip
            have nc_42 : rn ≤ i := (nI_leI (a := rn) (b := i) (by omega) (by omega)).mp c_42
            have e12 : i = rn := by omega
            refine lv_aload_n hx hb dX6_layRow_129 rfl (lv_at hl 0 rfl) ?_
            refine va_get (D := D) (ci := 7) (v := .ref k2) (C := RX6) (T := TX6) (N := 3) hx hb hts hi_X6 hown hK.1 hP 0 rfl rfl 1 (by decide) hw_f18 (fun _ h9 => h9) rfl dX6_layRow_130 ?_
            refine lv_aload_n hx hb dX6_layRow_133 rfl (lv_at hl 0 rfl) ?_
            refine va_get (D := D) (ci := 7) (v := .ref k3) (C := RX6) (T := TX6) (N := 3) hx hb hts hi_X6 hown hK.1 hP 0 rfl rfl 2 (by decide) hw_f22 (fun _ h9 => h9) rfl dX6_layRow_134 ?_
            refine kGoQ (cx := [(k2, .inr (3, [.ref k4, .int (nI ln)])), (k4, .inl (cI, 12, .inl lf)), (k3, .inr (3, [.ref k5, .int (nI i)])), (k5, .inl (cI, 12, .inl d))]) (wr := [(k0, .inr (7, [.ref k1, .ref k2, .ref k3])), (k1, .inl (cI, 52, .inl mi)), (r0, .inr (3, [.ref r1, .int (nI rn)])), (r1, .inl (cI, 12, .inl rf)), (h0, .inr (4, [.ref la, .int pc])), (la, .inr (0, [.int mo, .ref ea, .int (nI n)]))]) (va_runV (As := [.ref k3]) (rest := []) ⟨hx, hb, hml, hown, hts⟩ (c_X2_become l D cI cJ cZ cO k2 k4 (nI ln) lf k3 k5 i d (by first | assumption | omega | decide) _) (cwV 1 hts gX6_layRow_X2_become rfl rfl rfl (by decide +kernel) ⟨Nat.le_of_ble_eq_true rfl, Nat.le_of_ble_eq_true rfl⟩) (kPreV (ci := 3) (q0 := 0) hK (kPl_sub hP [2, 3, 4, 5] rfl) ((kDl_sub hD [2, 3, 4, 5] (by decide) rfl).weaken (fun _ _ _ _ => trivial)) rfl rfl rfl) rfl rfl hl.1 rfl (lv_room (Nat.le_of_ble_eq_true rfl)) dX6_layRow_137 ⟨Nat.le_of_ble_eq_true rfl, Nat.le_of_ble_eq_true rfl⟩) hP hD hS hA [2, 3, 4, 5] [0, 1, 6, 7, 8, 9] rfl rfl (by decide) (by decide) (fun v_4 w_4 H locs hv_4 hP hD hS => ?_)
            obtain ⟨rfl, rfl⟩ := hv_4
            have hP : va_P D vwCl ([(k0, .inr (7, [.ref k1, .ref k2, .ref k3])), (k1, .inl (cI, 52, .inl mi)), (k2, .inr (3, [.ref k4, .int (nI i)])), (k4, .inl (cI, 12, .inl (becF lf d i))), (k3, .inr (3, [.ref k5, .int (nI i)])), (k5, .inl (cI, 12, .inl d)), (r0, .inr (3, [.ref r1, .int (nI rn)])), (r1, .inl (cI, 12, .inl rf)), (h0, .inr (4, [.ref la, .int pc])), (la, .inr (0, [.int mo, .ref ea, .int (nI n)]))] ++ va_pl LP pf) H := hP.part [0, 1, 6, 7, 8, 9, 2, 3, 4, 5] rfl
            have hD : va_D _ ([(k0, .inr (7, [.ref k1, .ref k2, .ref k3])), (k1, .inl (cI, 52, .inl mi)), (k2, .inr (3, [.ref k4, .int (nI i)])), (k4, .inl (cI, 12, .inl (becF lf d i))), (k3, .inr (3, [.ref k5, .int (nI i)])), (k5, .inl (cI, 12, .inl d)), (r0, .inr (3, [.ref r1, .int (nI rn)])), (r1, .inl (cI, 12, .inl rf)), (h0, .inr (4, [.ref la, .int pc])), (la, .inr (0, [.int mo, .ref ea, .int (nI n)]))] ++ va_pl LP pf) := hD.part [0, 1, 6, 7, 8, 9, 2, 3, 4, 5] (by decide) rfl
            refine W.eq (g2 := F0 m 140 ls []) rfl ?_
            refine lv_iload hx hb dX6_layRow_140 (lv_at hl 4 rfl) ?_
            have ew_0 : (nI i : Int32) = nI (layN (layS mi (fun z => minF n pg pc (rf z)) F df rn) rn ln) := by first | (rw [← e12, ey]; rfl) | (have hb := layS_bad (nd := fun z => minF n pg pc (rf z)) ey hR (by first | exact Or.inl c_61 | exact Or.inr nc_73) (by first | exact Or.inl c_94 | exact Or.inr c_101) (show i < rn by omega); rw [hb]; rfl)
            have ew_1 : (becF lf d i : Nat → Int32) = layA (layS mi (fun z => minF n pg pc (rf z)) F df rn) rn lf := by first | (rw [← e12, ey]; rfl) | (have hb := layS_bad (nd := fun z => minF n pg pc (rf z)) ey hR (by first | exact Or.inl c_61 | exact Or.inr nc_73) (by first | exact Or.inl c_94 | exact Or.inr c_101) (show i < rn by omega); rw [hb]; rfl)
            exact kRetI hx hb hr hlk dX6_layRow_142 hP hD hS (Nat.le_of_ble_eq_true rfl) (Nat.le_of_ble_eq_true rfl) ⟨(nI i), d, (kpi (by first | (rw [← e12, ey]; rfl) | (have hb := layS_bad (nd := fun z => minF n pg pc (rf z)) ey hR (by first | exact Or.inl c_61 | exact Or.inr nc_73) (by first | exact Or.inl c_94 | exact Or.inr c_101) (show i < rn by omega); rw [hb]; rfl))), (kw2 (fun (z_0 : Int32) (z_1 : Nat → Int32) => (([(k0, .inr (7, [.ref k1, .ref k2, .ref k3])), (k1, .inl (cI, 52, .inl mi)), (k2, .inr (3, [.ref k4, .int z_0])), (k4, .inl (cI, 12, .inl z_1)), (k3, .inr (3, [.ref k5, .int (nI i)])), (k5, .inl (cI, 12, .inl d)), (r0, .inr (3, [.ref r1, .int (nI rn)])), (r1, .inl (cI, 12, .inl rf)), (h0, .inr (4, [.ref la, .int pc])), (la, .inr (0, [.int mo, .ref ea, .int (nI n)]))] ++ va_pl LP pf) : va_W)) ew_0 ew_1)⟩
          · skip
            have nc_42 : ¬ rn ≤ i := (not_congr (nI_leI (a := rn) (b := i) (by omega) (by omega))).mp c_42
            refine lv_aload_n hx hb dX6_layRow_45 rfl (lv_at hl 2 rfl) ?_
            refine lv_aload_n hx hb dX6_layRow_46 rfl (lv_at hl 1 rfl) ?_
            refine lv_iload hx hb dX6_layRow_47 (lv_at hl 6 rfl) ?_
            refine kGoR (va_runV (As := [.int (nI i)]) (rest := [.ref h0]) ⟨hx, hb, hml, hown, hts⟩ (c_X2_at l D cI cJ cZ cO r0 r1 (nI rn) rf (nI i) ) (cwV 1 hts gX6_layRow_X2_at rfl rfl rfl (by decide +kernel) ⟨Nat.le_of_ble_eq_true rfl, Nat.le_of_ble_eq_true rfl⟩) (kPreVR (ci := 3) (q0 := 0) hK (kPl_sub hP [6, 7] rfl) rfl rfl rfl) rfl rfl hl.1 rfl (lv_room (Nat.le_of_ble_eq_true rfl)) dX6_layRow_49 ⟨Nat.le_of_ble_eq_true rfl, Nat.le_of_ble_eq_true rfl⟩) (fun v_5 hv_5 => ?_)
            obtain rfl := hv_5
            refine W.eq (g2 := F0 m 52 ls [.int (rowAt rf (nI rn) (nI i)), .ref h0]) rfl ?_
            refine lv_topi (fun nv_6 ev_6 => ?_)
            obtain rfl : nv_6 = rf i := ev_6.trans (rowAt_nI hrn (by omega))
            rcases kstep (rf i) (n := n) hn with ⟨kk, hkk, ekk⟩ | hout
            · skip
              rw [ekk]
              refine kGoR (va_runV (As := [.int (nI kk)]) (rest := []) ⟨hx, hb, hml, hown, hts⟩ (c_X3_minutesOf_a l D cI cJ cZ cO h0 la ea pc mo n al cap LP pf ad ne ei gv sk pg kk (by first | assumption | omega | decide) (by first | assumption | omega | decide) (by first | assumption | omega | decide) (by first | assumption | omega | decide)) (cwV 1 hts gX6_layRow_X3_minutesOf rfl rfl rfl (by decide +kernel) ⟨Nat.le_of_ble_eq_true rfl, Nat.le_of_ble_eq_true rfl⟩) (kPreVR (ci := 4) (q0 := 0) hK (hP.part [8, 9] rfl) rfl rfl rfl) rfl rfl hl.1 rfl (lv_room (Nat.le_of_ble_eq_true rfl)) dX6_layRow_52 ⟨Nat.le_of_ble_eq_true rfl, Nat.le_of_ble_eq_true rfl⟩) (fun v_7 hv_7 => ?_)
              obtain rfl := hv_7
              refine W.eq (g2 := F0 m 55 ls [.int (timeF (pg (kk / 2)) pc (decide (nI kk &&& 1 = 1)))]) rfl ?_
              refine lv_topi (fun nv_8 ev_8 => ?_)
              obtain rfl : nv_8 = minF n pg pc (rf i) := ev_8.trans (by first | (rw [ekk, minF_in hn hkk]; done) | (rw [minF_out hout]; done))
              refine lv_istore (lv' := [(7, .int (minF n pg pc (rf i))), (0, .ref k0), (1, .ref r0), (2, .ref h0), (3, .int (nI F)), (4, .int (nI w)), (5, .int le), (6, .int (nI i))]) hx hb dX6_layRow_55 hl (by decide) rfl (fun ls hl => ?_)
              have hloop_57 : ∀ (fu : Nat) (w2 : Nat) (le2 : Int32), 52 - w2 < fu → w2 < 52 → layW mi (minF n pg pc (rf i)) (52 - w2) w2 le2 = layW mi (minF n pg pc (rf i)) (52 - w) w le → ∀ (H : Heap) (locs : List Loc), va_P D vwCl ([(k0, .inr (7, [.ref k1, .ref k2, .ref k3])), (k1, .inl (cI, 52, .inl mi)), (k2, .inr (3, [.ref k4, .int (nI ln)])), (k4, .inl (cI, 12, .inl lf)), (k3, .inr (3, [.ref k5, .int (nI i)])), (k5, .inl (cI, 12, .inl d)), (r0, .inr (3, [.ref r1, .int (nI rn)])), (r1, .inl (cI, 12, .inl rf)), (h0, .inr (4, [.ref la, .int pc])), (la, .inr (0, [.int mo, .ref ea, .int (nI n)]))] ++ va_pl LP pf) H → va_D (va_A ([(k0, .inr (7, [.ref k1, .ref k2, .ref k3])), (k1, .inl (cI, 52, .inl mi)), (k2, .inr (3, [.ref k4, .int (nI ln)])), (k4, .inl (cI, 12, .inl lf)), (k3, .inr (3, [.ref k5, .int dn])), (k5, .inl (cI, 12, .inl df)), (r0, .inr (3, [.ref r1, .int (nI rn)])), (r1, .inl (cI, 12, .inl rf)), (h0, .inr (4, [.ref la, .int pc])), (la, .inr (0, [.int mo, .ref ea, .int (nI n)]))] ++ va_pl LP pf) s.heap.size) ([(k0, .inr (7, [.ref k1, .ref k2, .ref k3])), (k1, .inl (cI, 52, .inl mi)), (k2, .inr (3, [.ref k4, .int (nI ln)])), (k4, .inl (cI, 12, .inl lf)), (k3, .inr (3, [.ref k5, .int (nI i)])), (k5, .inl (cI, 12, .inl d)), (r0, .inr (3, [.ref r1, .int (nI rn)])), (r1, .inl (cI, 12, .inl rf)), (h0, .inr (4, [.ref la, .int pc])), (la, .inr (0, [.int mo, .ref ea, .int (nI n)]))] ++ va_pl LP pf) → va_S (va_A ([(k0, .inr (7, [.ref k1, .ref k2, .ref k3])), (k1, .inl (cI, 52, .inl mi)), (k2, .inr (3, [.ref k4, .int (nI ln)])), (k4, .inl (cI, 12, .inl lf)), (k3, .inr (3, [.ref k5, .int dn])), (k5, .inl (cI, 12, .inl df)), (r0, .inr (3, [.ref r1, .int (nI rn)])), (r1, .inl (cI, 12, .inl rf)), (h0, .inr (4, [.ref la, .int pc])), (la, .inr (0, [.int mo, .ref ea, .int (nI n)]))] ++ va_pl LP pf) s.heap.size) s.heap H locs → ∀ ls : Array Slot, lv_has ls 8 [(0, .ref k0), (1, .ref r0), (2, .ref h0), (3, .int (nI F)), (4, .int (nI w2)), (5, .int le2), (6, .int (nI i)), (7, .int (minF n pg pc (rf i)))] → W p l e ({ frames := 5, cells := 0, slots := 0, locals := 108 }) s m args below meth c H locs 0 0 (MQ below (kQ D ([(k0, .inr (7, [.ref k1, .ref k2, .ref k3])), (k1, .inl (cI, 52, .inl mi)), (k2, .inr (3, [.ref k4, .int (nI ln)])), (k4, .inl (cI, 12, .inl lf)), (k3, .inr (3, [.ref k5, .int dn])), (k5, .inl (cI, 12, .inl df)), (r0, .inr (3, [.ref r1, .int (nI rn)])), (r1, .inl (cI, 12, .inl rf)), (h0, .inr (4, [.ref la, .int pc])), (la, .inr (0, [.int mo, .ref ea, .int (nI n)]))] ++ va_pl LP pf) s.heap.size (fun rv_ rw_ => ∃ dn2 : Int32, ∃ df2 : Nat → Int32, rv_ = some (.int (layR (layS mi (fun z => minF n pg pc (rf z)) F df rn))) ∧ rw_ = ([(k0, .inr (7, [.ref k1, .ref k2, .ref k3])), (k1, .inl (cI, 52, .inl mi)), (k2, .inr (3, [.ref k4, .int (nI (layN (layS mi (fun z => minF n pg pc (rf z)) F df rn) rn ln))])), (k4, .inl (cI, 12, .inl (layA (layS mi (fun z => minF n pg pc (rf z)) F df rn) rn lf))), (k3, .inr (3, [.ref k5, .int dn2])), (k5, .inl (cI, 12, .inl df2)), (r0, .inr (3, [.ref r1, .int (nI rn)])), (r1, .inl (cI, 12, .inl rf)), (h0, .inr (4, [.ref la, .int pc])), (la, .inr (0, [.int mo, .ref ea, .int (nI n)]))] ++ va_pl LP pf))) args s 0 0 (va_A ([(k0, .inr (7, [.ref k1, .ref k2, .ref k3])), (k1, .inl (cI, 52, .inl mi)), (k2, .inr (3, [.ref k4, .int (nI ln)])), (k4, .inl (cI, 12, .inl lf)), (k3, .inr (3, [.ref k5, .int dn])), (k5, .inl (cI, 12, .inl df)), (r0, .inr (3, [.ref r1, .int (nI rn)])), (r1, .inl (cI, 12, .inl rf)), (h0, .inr (4, [.ref la, .int pc])), (la, .inr (0, [.int mo, .ref ea, .int (nI n)]))] ++ va_pl LP pf) s.heap.size)) (F0 m 57 ls []) := by
                intro fu
                induction fu with
                | zero => intro w2 le2 hmu; exact absurd hmu (Nat.not_lt_zero _)
                | succ fu ih_57 =>
                  intro w2 le2 hmu_57 hw2 hR H locs hP hD hS ls hl
                  refine lv_iload hx hb dX6_layRow_57 (lv_at hl 5 rfl) ?_
                  refine lv_iload hx hb dX6_layRow_59 (lv_at hl 7 rfl) ?_
                  refine lv_icmp_ge (tgt := 91) hx hb dX6_layRow_61 (by decide) (fun c_61 => ?_) (fun c_61 => ?_)
                  · skip
                    refine lv_iload hx hb dX6_layRow_91 (lv_at hl 7 rfl) ?_
                    refine lv_iconst (v := (-1)) hx hb dX6_layRow_93 (by decide) ?_
                    refine lv_icmp_eq (tgt := 104) hx hb dX6_layRow_94 (by decide) (fun c_94 => ?_) (fun c_94 => ?_)
                    · skip
                      refine lv_bipush (v := (-2)) hx hb dX6_layRow_104 (by decide) ?_
                      have ew_0 : (nI ln : Int32) = nI (layN (layS mi (fun z => minF n pg pc (rf z)) F df rn) rn ln) := by first | (rw [← e12, ey]; rfl) | (have hb := layS_bad (nd := fun z => minF n pg pc (rf z)) ey hR (by first | exact Or.inl c_61 | exact Or.inr nc_73) (by first | exact Or.inl c_94 | exact Or.inr c_101) (show i < rn by omega); rw [hb]; rfl)
                      have ew_1 : (lf : Nat → Int32) = layA (layS mi (fun z => minF n pg pc (rf z)) F df rn) rn lf := by first | (rw [← e12, ey]; rfl) | (have hb := layS_bad (nd := fun z => minF n pg pc (rf z)) ey hR (by first | exact Or.inl c_61 | exact Or.inr nc_73) (by first | exact Or.inl c_94 | exact Or.inr c_101) (show i < rn by omega); rw [hb]; rfl)
                      exact kRetI hx hb hr hlk dX6_layRow_106 hP hD hS (Nat.le_of_ble_eq_true rfl) (Nat.le_of_ble_eq_true rfl) ⟨(nI i), d, (kpi (by first | (rw [← e12, ey]; rfl) | (have hb := layS_bad (nd := fun z => minF n pg pc (rf z)) ey hR (by first | exact Or.inl c_61 | exact Or.inr nc_73) (by first | exact Or.inl c_94 | exact Or.inr c_101) (show i < rn by omega); rw [hb]; rfl))), (kw2 (fun (z_0 : Int32) (z_1 : Nat → Int32) => (([(k0, .inr (7, [.ref k1, .ref k2, .ref k3])), (k1, .inl (cI, 52, .inl mi)), (k2, .inr (3, [.ref k4, .int z_0])), (k4, .inl (cI, 12, .inl z_1)), (k3, .inr (3, [.ref k5, .int (nI i)])), (k5, .inl (cI, 12, .inl d)), (r0, .inr (3, [.ref r1, .int (nI rn)])), (r1, .inl (cI, 12, .inl rf)), (h0, .inr (4, [.ref la, .int pc])), (la, .inr (0, [.int mo, .ref ea, .int (nI n)]))] ++ va_pl LP pf) : va_W)) ew_0 ew_1)⟩
                    · skip
                      refine lv_iload hx hb dX6_layRow_97 (lv_at hl 5 rfl) ?_
                      refine lv_iload hx hb dX6_layRow_99 (lv_at hl 7 rfl) ?_
                      refine lv_icmp_ge (tgt := 107) hx hb dX6_layRow_101 (by decide) (fun c_101 => ?_) (fun c_101 => ?_)
                      · skip
                        refine lv_iload hx hb dX6_layRow_107 (lv_at hl 5 rfl) ?_
                        refine lv_iload hx hb dX6_layRow_109 (lv_at hl 7 rfl) ?_
                        refine lv_isub hx hb dX6_layRow_111 ?_
                        refine lv_istore (lv' := [(5, .int (le2 - (minF n pg pc (rf i)))), (0, .ref k0), (1, .ref r0), (2, .ref h0), (3, .int (nI F)), (4, .int (nI w2)), (6, .int (nI i)), (7, .int (minF n pg pc (rf i)))]) hx hb dX6_layRow_112 hl (by decide) rfl (fun ls hl => ?_)
                        refine lv_aload_n hx hb dX6_layRow_114 rfl (lv_at hl 1 rfl) ?_
                        refine va_get (D := D) (ci := 7) (v := .ref k3) (C := RX6) (T := TX6) (N := 3) hx hb hts hi_X6 hown hK.1 hP 0 rfl rfl 2 (by decide) hw_f22 (fun _ h9 => h9) rfl dX6_layRow_115 ?_
                        refine lv_iload hx hb dX6_layRow_118 (lv_at hl 5 rfl) ?_
                        refine kGoQ (cx := [(k3, .inr (3, [.ref k5, .int (nI i)])), (k5, .inl (cI, 12, .inl d))]) (wr := [(k0, .inr (7, [.ref k1, .ref k2, .ref k3])), (k1, .inl (cI, 52, .inl mi)), (k2, .inr (3, [.ref k4, .int (nI ln)])), (k4, .inl (cI, 12, .inl lf)), (r0, .inr (3, [.ref r1, .int (nI rn)])), (r1, .inl (cI, 12, .inl rf)), (h0, .inr (4, [.ref la, .int pc])), (la, .inr (0, [.int mo, .ref ea, .int (nI n)]))]) (va_runV (As := [.int (nI w2)]) (rest := []) ⟨hx, hb, hml, hown, hts⟩ (c_X2_add_b l D cI cJ cZ cO k3 k5 i d (nI w2) (by first | assumption | omega | decide) _) (cwV 1 hts gX6_layRow_X2_add rfl rfl rfl (by decide +kernel) ⟨Nat.le_of_ble_eq_true rfl, Nat.le_of_ble_eq_true rfl⟩) (kPreV (ci := 3) (q0 := 0) hK (kPl_sub hP [4, 5] rfl) ((kDl_sub hD [4, 5] (by decide) rfl).weaken (fun _ _ _ _ => trivial)) rfl rfl rfl) rfl rfl hl.1 rfl (lv_room (Nat.le_of_ble_eq_true rfl)) dX6_layRow_120 ⟨Nat.le_of_ble_eq_true rfl, Nat.le_of_ble_eq_true rfl⟩) hP hD hS hA [4, 5] [0, 1, 2, 3, 6, 7, 8, 9] rfl rfl (by decide) (by decide) (fun v_9 w_9 H locs hv_9 hP hD hS => ?_)
                        obtain ⟨rfl, rfl⟩ := hv_9
                        have hP : va_P D vwCl ([(k0, .inr (7, [.ref k1, .ref k2, .ref k3])), (k1, .inl (cI, 52, .inl mi)), (k2, .inr (3, [.ref k4, .int (nI ln)])), (k4, .inl (cI, 12, .inl lf)), (k3, .inr (3, [.ref k5, .int (nI (i + 1))])), (k5, .inl (cI, 12, .inl (upd d i (nI w2)))), (r0, .inr (3, [.ref r1, .int (nI rn)])), (r1, .inl (cI, 12, .inl rf)), (h0, .inr (4, [.ref la, .int pc])), (la, .inr (0, [.int mo, .ref ea, .int (nI n)]))] ++ va_pl LP pf) H := hP.part [0, 1, 2, 3, 8, 9, 4, 5, 6, 7] rfl
                        have hD : va_D _ ([(k0, .inr (7, [.ref k1, .ref k2, .ref k3])), (k1, .inl (cI, 52, .inl mi)), (k2, .inr (3, [.ref k4, .int (nI ln)])), (k4, .inl (cI, 12, .inl lf)), (k3, .inr (3, [.ref k5, .int (nI (i + 1))])), (k5, .inl (cI, 12, .inl (upd d i (nI w2)))), (r0, .inr (3, [.ref r1, .int (nI rn)])), (r1, .inl (cI, 12, .inl rf)), (h0, .inr (4, [.ref la, .int pc])), (la, .inr (0, [.int mo, .ref ea, .int (nI n)]))] ++ va_pl LP pf) := hD.part [0, 1, 2, 3, 8, 9, 4, 5, 6, 7] (by decide) rfl
                        refine W.eq (g2 := F0 m 123 ls []) rfl ?_
                        refine lv_iinc (v := nI (i + 1)) (lv' := [(6, .int (nI (i + 1))), (5, .int (le2 - (minF n pg pc (rf i)))), (0, .ref k0), (1, .ref r0), (2, .ref h0), (3, .int (nI F)), (4, .int (nI w2)), (7, .int (minF n pg pc (rf i)))]) hx hb dX6_layRow_123 hl (k := 6) rfl (nI_1 _) (by decide) rfl (fun ls hl => ?_)
                        refine lv_goto (tgt := 36) hx hb dX6_layRow_126 (by decide) ?_
                        exact ih_36  (i + 1) w2 (le2 - (minF n pg pc (rf i))) (upd d i (nI w2)) (by omega) (by first | omega | assumption) (by first | omega | assumption) (by exact layS_step (nd := fun z => minF n pg pc (rf z)) ey hR (by first | exact Or.inl c_61 | exact Or.inr nc_73) c_94 c_101) _ _ hP hD hS _ (lv_sub hl [2, 3, 4, 5, 6, 1, 0] rfl)
                      · skip
                        refine lv_bipush (v := (-2)) hx hb dX6_layRow_104 (by decide) ?_
                        have ew_0 : (nI ln : Int32) = nI (layN (layS mi (fun z => minF n pg pc (rf z)) F df rn) rn ln) := by first | (rw [← e12, ey]; rfl) | (have hb := layS_bad (nd := fun z => minF n pg pc (rf z)) ey hR (by first | exact Or.inl c_61 | exact Or.inr nc_73) (by first | exact Or.inl c_94 | exact Or.inr c_101) (show i < rn by omega); rw [hb]; rfl)
                        have ew_1 : (lf : Nat → Int32) = layA (layS mi (fun z => minF n pg pc (rf z)) F df rn) rn lf := by first | (rw [← e12, ey]; rfl) | (have hb := layS_bad (nd := fun z => minF n pg pc (rf z)) ey hR (by first | exact Or.inl c_61 | exact Or.inr nc_73) (by first | exact Or.inl c_94 | exact Or.inr c_101) (show i < rn by omega); rw [hb]; rfl)
                        exact kRetI hx hb hr hlk dX6_layRow_106 hP hD hS (Nat.le_of_ble_eq_true rfl) (Nat.le_of_ble_eq_true rfl) ⟨(nI i), d, (kpi (by first | (rw [← e12, ey]; rfl) | (have hb := layS_bad (nd := fun z => minF n pg pc (rf z)) ey hR (by first | exact Or.inl c_61 | exact Or.inr nc_73) (by first | exact Or.inl c_94 | exact Or.inr c_101) (show i < rn by omega); rw [hb]; rfl))), (kw2 (fun (z_0 : Int32) (z_1 : Nat → Int32) => (([(k0, .inr (7, [.ref k1, .ref k2, .ref k3])), (k1, .inl (cI, 52, .inl mi)), (k2, .inr (3, [.ref k4, .int z_0])), (k4, .inl (cI, 12, .inl z_1)), (k3, .inr (3, [.ref k5, .int (nI i)])), (k5, .inl (cI, 12, .inl d)), (r0, .inr (3, [.ref r1, .int (nI rn)])), (r1, .inl (cI, 12, .inl rf)), (h0, .inr (4, [.ref la, .int pc])), (la, .inr (0, [.int mo, .ref ea, .int (nI n)]))] ++ va_pl LP pf) : va_W)) ew_0 ew_1)⟩
                  · skip
                    refine lv_iload hx hb dX6_layRow_64 (lv_at hl 4 rfl) ?_
                    refine lv_iconst (v := 1) hx hb dX6_layRow_66 (by decide) ?_
                    refine lv_iadd hx hb dX6_layRow_67 ?_
                    refine lv_topi (fun nv_10 ev_10 => ?_)
                    obtain rfl : nv_10 = nI (w2 + 1) := ev_10.trans (nI_1 w2)
                    refine lv_aload_n hx hb dX6_layRow_68 rfl (lv_at hl 0 rfl) ?_
                    refine va_get (D := D) (ci := 7) (v := .ref k1) (C := RX6) (T := TX6) (N := 3) hx hb hts hi_X6 hown hK.1 hP 0 rfl rfl 0 (by decide) hw_f9 (fun _ h9 => h9) rfl dX6_layRow_69 ?_
                    refine va_alen (v := 52) hx hb hK.1 hP 1 0 rfl rfl rfl dX6_layRow_72 ?_
                    refine lv_icmp_ge (tgt := 91) hx hb dX6_layRow_73 (by decide) (fun c_73 => ?_) (fun c_73 => ?_)
                    · skip
                      have nc_73 : 52 ≤ (w2 + 1) := (nI_leI (a := 52) (b := w2 + 1) (by omega) (by omega)).mp c_73
                      refine lv_iload hx hb dX6_layRow_91 (lv_at hl 7 rfl) ?_
                      refine lv_iconst (v := (-1)) hx hb dX6_layRow_93 (by decide) ?_
                      refine lv_icmp_eq (tgt := 104) hx hb dX6_layRow_94 (by decide) (fun c_94 => ?_) (fun c_94 => ?_)
                      · skip
                        refine lv_bipush (v := (-2)) hx hb dX6_layRow_104 (by decide) ?_
                        have ew_0 : (nI ln : Int32) = nI (layN (layS mi (fun z => minF n pg pc (rf z)) F df rn) rn ln) := by first | (rw [← e12, ey]; rfl) | (have hb := layS_bad (nd := fun z => minF n pg pc (rf z)) ey hR (by first | exact Or.inl c_61 | exact Or.inr nc_73) (by first | exact Or.inl c_94 | exact Or.inr c_101) (show i < rn by omega); rw [hb]; rfl)
                        have ew_1 : (lf : Nat → Int32) = layA (layS mi (fun z => minF n pg pc (rf z)) F df rn) rn lf := by first | (rw [← e12, ey]; rfl) | (have hb := layS_bad (nd := fun z => minF n pg pc (rf z)) ey hR (by first | exact Or.inl c_61 | exact Or.inr nc_73) (by first | exact Or.inl c_94 | exact Or.inr c_101) (show i < rn by omega); rw [hb]; rfl)
                        exact kRetI hx hb hr hlk dX6_layRow_106 hP hD hS (Nat.le_of_ble_eq_true rfl) (Nat.le_of_ble_eq_true rfl) ⟨(nI i), d, (kpi (by first | (rw [← e12, ey]; rfl) | (have hb := layS_bad (nd := fun z => minF n pg pc (rf z)) ey hR (by first | exact Or.inl c_61 | exact Or.inr nc_73) (by first | exact Or.inl c_94 | exact Or.inr c_101) (show i < rn by omega); rw [hb]; rfl))), (kw2 (fun (z_0 : Int32) (z_1 : Nat → Int32) => (([(k0, .inr (7, [.ref k1, .ref k2, .ref k3])), (k1, .inl (cI, 52, .inl mi)), (k2, .inr (3, [.ref k4, .int z_0])), (k4, .inl (cI, 12, .inl z_1)), (k3, .inr (3, [.ref k5, .int (nI i)])), (k5, .inl (cI, 12, .inl d)), (r0, .inr (3, [.ref r1, .int (nI rn)])), (r1, .inl (cI, 12, .inl rf)), (h0, .inr (4, [.ref la, .int pc])), (la, .inr (0, [.int mo, .ref ea, .int (nI n)]))] ++ va_pl LP pf) : va_W)) ew_0 ew_1)⟩
                      · skip
                        refine lv_iload hx hb dX6_layRow_97 (lv_at hl 5 rfl) ?_
                        refine lv_iload hx hb dX6_layRow_99 (lv_at hl 7 rfl) ?_
                        refine lv_icmp_ge (tgt := 107) hx hb dX6_layRow_101 (by decide) (fun c_101 => ?_) (fun c_101 => ?_)
                        · skip
                          refine lv_iload hx hb dX6_layRow_107 (lv_at hl 5 rfl) ?_
                          refine lv_iload hx hb dX6_layRow_109 (lv_at hl 7 rfl) ?_
                          refine lv_isub hx hb dX6_layRow_111 ?_
                          refine lv_istore (lv' := [(5, .int (le2 - (minF n pg pc (rf i)))), (0, .ref k0), (1, .ref r0), (2, .ref h0), (3, .int (nI F)), (4, .int (nI w2)), (6, .int (nI i)), (7, .int (minF n pg pc (rf i)))]) hx hb dX6_layRow_112 hl (by decide) rfl (fun ls hl => ?_)
                          refine lv_aload_n hx hb dX6_layRow_114 rfl (lv_at hl 1 rfl) ?_
                          refine va_get (D := D) (ci := 7) (v := .ref k3) (C := RX6) (T := TX6) (N := 3) hx hb hts hi_X6 hown hK.1 hP 0 rfl rfl 2 (by decide) hw_f22 (fun _ h9 => h9) rfl dX6_layRow_115 ?_
                          refine lv_iload hx hb dX6_layRow_118 (lv_at hl 5 rfl) ?_
                          refine kGoQ (cx := [(k3, .inr (3, [.ref k5, .int (nI i)])), (k5, .inl (cI, 12, .inl d))]) (wr := [(k0, .inr (7, [.ref k1, .ref k2, .ref k3])), (k1, .inl (cI, 52, .inl mi)), (k2, .inr (3, [.ref k4, .int (nI ln)])), (k4, .inl (cI, 12, .inl lf)), (r0, .inr (3, [.ref r1, .int (nI rn)])), (r1, .inl (cI, 12, .inl rf)), (h0, .inr (4, [.ref la, .int pc])), (la, .inr (0, [.int mo, .ref ea, .int (nI n)]))]) (va_runV (As := [.int (nI w2)]) (rest := []) ⟨hx, hb, hml, hown, hts⟩ (c_X2_add_b l D cI cJ cZ cO k3 k5 i d (nI w2) (by first | assumption | omega | decide) _) (cwV 1 hts gX6_layRow_X2_add rfl rfl rfl (by decide +kernel) ⟨Nat.le_of_ble_eq_true rfl, Nat.le_of_ble_eq_true rfl⟩) (kPreV (ci := 3) (q0 := 0) hK (kPl_sub hP [4, 5] rfl) ((kDl_sub hD [4, 5] (by decide) rfl).weaken (fun _ _ _ _ => trivial)) rfl rfl rfl) rfl rfl hl.1 rfl (lv_room (Nat.le_of_ble_eq_true rfl)) dX6_layRow_120 ⟨Nat.le_of_ble_eq_true rfl, Nat.le_of_ble_eq_true rfl⟩) hP hD hS hA [4, 5] [0, 1, 2, 3, 6, 7, 8, 9] rfl rfl (by decide) (by decide) (fun v_11 w_11 H locs hv_11 hP hD hS => ?_)
                          obtain ⟨rfl, rfl⟩ := hv_11
                          have hP : va_P D vwCl ([(k0, .inr (7, [.ref k1, .ref k2, .ref k3])), (k1, .inl (cI, 52, .inl mi)), (k2, .inr (3, [.ref k4, .int (nI ln)])), (k4, .inl (cI, 12, .inl lf)), (k3, .inr (3, [.ref k5, .int (nI (i + 1))])), (k5, .inl (cI, 12, .inl (upd d i (nI w2)))), (r0, .inr (3, [.ref r1, .int (nI rn)])), (r1, .inl (cI, 12, .inl rf)), (h0, .inr (4, [.ref la, .int pc])), (la, .inr (0, [.int mo, .ref ea, .int (nI n)]))] ++ va_pl LP pf) H := hP.part [0, 1, 2, 3, 8, 9, 4, 5, 6, 7] rfl
                          have hD : va_D _ ([(k0, .inr (7, [.ref k1, .ref k2, .ref k3])), (k1, .inl (cI, 52, .inl mi)), (k2, .inr (3, [.ref k4, .int (nI ln)])), (k4, .inl (cI, 12, .inl lf)), (k3, .inr (3, [.ref k5, .int (nI (i + 1))])), (k5, .inl (cI, 12, .inl (upd d i (nI w2)))), (r0, .inr (3, [.ref r1, .int (nI rn)])), (r1, .inl (cI, 12, .inl rf)), (h0, .inr (4, [.ref la, .int pc])), (la, .inr (0, [.int mo, .ref ea, .int (nI n)]))] ++ va_pl LP pf) := hD.part [0, 1, 2, 3, 8, 9, 4, 5, 6, 7] (by decide) rfl
                          refine W.eq (g2 := F0 m 123 ls []) rfl ?_
                          refine lv_iinc (v := nI (i + 1)) (lv' := [(6, .int (nI (i + 1))), (5, .int (le2 - (minF n pg pc (rf i)))), (0, .ref k0), (1, .ref r0), (2, .ref h0), (3, .int (nI F)), (4, .int (nI w2)), (7, .int (minF n pg pc (rf i)))]) hx hb dX6_layRow_123 hl (k := 6) rfl (nI_1 _) (by decide) rfl (fun ls hl => ?_)
                          refine lv_goto (tgt := 36) hx hb dX6_layRow_126 (by decide) ?_
                          exact ih_36  (i + 1) w2 (le2 - (minF n pg pc (rf i))) (upd d i (nI w2)) (by omega) (by first | omega | assumption) (by first | omega | assumption) (by exact layS_step (nd := fun z => minF n pg pc (rf z)) ey hR (by first | exact Or.inl c_61 | exact Or.inr nc_73) c_94 c_101) _ _ hP hD hS _ (lv_sub hl [2, 3, 4, 5, 6, 1, 0] rfl)
                        · skip
                          refine lv_bipush (v := (-2)) hx hb dX6_layRow_104 (by decide) ?_
                          have ew_0 : (nI ln : Int32) = nI (layN (layS mi (fun z => minF n pg pc (rf z)) F df rn) rn ln) := by first | (rw [← e12, ey]; rfl) | (have hb := layS_bad (nd := fun z => minF n pg pc (rf z)) ey hR (by first | exact Or.inl c_61 | exact Or.inr nc_73) (by first | exact Or.inl c_94 | exact Or.inr c_101) (show i < rn by omega); rw [hb]; rfl)
                          have ew_1 : (lf : Nat → Int32) = layA (layS mi (fun z => minF n pg pc (rf z)) F df rn) rn lf := by first | (rw [← e12, ey]; rfl) | (have hb := layS_bad (nd := fun z => minF n pg pc (rf z)) ey hR (by first | exact Or.inl c_61 | exact Or.inr nc_73) (by first | exact Or.inl c_94 | exact Or.inr c_101) (show i < rn by omega); rw [hb]; rfl)
                          exact kRetI hx hb hr hlk dX6_layRow_106 hP hD hS (Nat.le_of_ble_eq_true rfl) (Nat.le_of_ble_eq_true rfl) ⟨(nI i), d, (kpi (by first | (rw [← e12, ey]; rfl) | (have hb := layS_bad (nd := fun z => minF n pg pc (rf z)) ey hR (by first | exact Or.inl c_61 | exact Or.inr nc_73) (by first | exact Or.inl c_94 | exact Or.inr c_101) (show i < rn by omega); rw [hb]; rfl))), (kw2 (fun (z_0 : Int32) (z_1 : Nat → Int32) => (([(k0, .inr (7, [.ref k1, .ref k2, .ref k3])), (k1, .inl (cI, 52, .inl mi)), (k2, .inr (3, [.ref k4, .int z_0])), (k4, .inl (cI, 12, .inl z_1)), (k3, .inr (3, [.ref k5, .int (nI i)])), (k5, .inl (cI, 12, .inl d)), (r0, .inr (3, [.ref r1, .int (nI rn)])), (r1, .inl (cI, 12, .inl rf)), (h0, .inr (4, [.ref la, .int pc])), (la, .inr (0, [.int mo, .ref ea, .int (nI n)]))] ++ va_pl LP pf) : va_W)) ew_0 ew_1)⟩
                    · skip
                      have nc_73 : ¬ 52 ≤ (w2 + 1) := (not_congr (nI_leI (a := 52) (b := w2 + 1) (by omega) (by omega))).mp c_73
                      refine lv_iinc (v := nI (w2 + 1)) (lv' := [(4, .int (nI (w2 + 1))), (0, .ref k0), (1, .ref r0), (2, .ref h0), (3, .int (nI F)), (5, .int le2), (6, .int (nI i)), (7, .int (minF n pg pc (rf i)))]) hx hb dX6_layRow_76 hl (k := 4) rfl (nI_1 _) (by decide) rfl (fun ls hl => ?_)
                      refine lv_aload_n hx hb dX6_layRow_79 rfl (lv_at hl 1 rfl) ?_
                      refine va_get (D := D) (ci := 7) (v := .ref k1) (C := RX6) (T := TX6) (N := 3) hx hb hts hi_X6 hown hK.1 hP 0 rfl rfl 0 (by decide) hw_f9 (fun _ h9 => h9) rfl dX6_layRow_80 ?_
                      refine lv_iload hx hb dX6_layRow_83 (lv_at hl 0 rfl) ?_
                      refine va_iald hx hb hK.1 hP 1 0 rfl rfl (vp_in_nI (by omega) (by omega)) dX6_layRow_85 ?_
                      refine lv_topi (fun nv_12 ev_12 => ?_)
                      obtain rfl : nv_12 = mi (w2 + 1) := by rw [ev_12, nI_clamp (by omega)]
                      refine lv_istore (lv' := [(5, .int (mi (w2 + 1))), (4, .int (nI (w2 + 1))), (0, .ref k0), (1, .ref r0), (2, .ref h0), (3, .int (nI F)), (6, .int (nI i)), (7, .int (minF n pg pc (rf i)))]) hx hb dX6_layRow_86 hl (by decide) rfl (fun ls hl => ?_)
                      refine lv_goto (tgt := 57) hx hb dX6_layRow_88 (by decide) ?_
                      exact ih_57  (w2 + 1) (mi (w2 + 1)) (by omega) (by first | omega | assumption) (by exact layW_go hR c_61 nc_73) _ _ hP hD hS _ (lv_sub hl [2, 3, 4, 5, 1, 0, 6, 7] rfl)
              exact hloop_57 ((52 - w) + 1) w le (Nat.lt_succ_self _) (by first | omega | assumption) (by rfl) _ _ hP hD hS _ (lv_sub hl [1, 2, 3, 4, 5, 6, 7, 0] rfl)
            · skip
              refine kGoR (va_runV (As := [.int (rf i)]) (rest := []) ⟨hx, hb, hml, hown, hts⟩ (c_X3_minutesOf_b l D cI cJ cZ cO h0 la ea pc mo n al cap LP pf ad ne ei gv sk pg (rf i) (by first | assumption | omega | decide) (by first | assumption | omega | decide) (by first | assumption | omega | decide) (by first | assumption | omega | decide)) (cwV 1 hts gX6_layRow_X3_minutesOf rfl rfl rfl (by decide +kernel) ⟨Nat.le_of_ble_eq_true rfl, Nat.le_of_ble_eq_true rfl⟩) (kPreVR (ci := 4) (q0 := 0) hK (hP.part [8, 9] rfl) rfl rfl rfl) rfl rfl hl.1 rfl (lv_room (Nat.le_of_ble_eq_true rfl)) dX6_layRow_52 ⟨Nat.le_of_ble_eq_true rfl, Nat.le_of_ble_eq_true rfl⟩) (fun v_13 hv_13 => ?_)
              obtain rfl := hv_13
              refine W.eq (g2 := F0 m 55 ls [.int (-1)]) rfl ?_
              refine lv_topi (fun nv_14 ev_14 => ?_)
              obtain rfl : nv_14 = minF n pg pc (rf i) := ev_14.trans (by first | (rw [ekk, minF_in hn hkk]; done) | (rw [minF_out hout]; done))
              refine lv_istore (lv' := [(7, .int (minF n pg pc (rf i))), (0, .ref k0), (1, .ref r0), (2, .ref h0), (3, .int (nI F)), (4, .int (nI w)), (5, .int le), (6, .int (nI i))]) hx hb dX6_layRow_55 hl (by decide) rfl (fun ls hl => ?_)
              have hloop_57 : ∀ (fu : Nat) (w2 : Nat) (le2 : Int32), 52 - w2 < fu → w2 < 52 → layW mi (minF n pg pc (rf i)) (52 - w2) w2 le2 = layW mi (minF n pg pc (rf i)) (52 - w) w le → ∀ (H : Heap) (locs : List Loc), va_P D vwCl ([(k0, .inr (7, [.ref k1, .ref k2, .ref k3])), (k1, .inl (cI, 52, .inl mi)), (k2, .inr (3, [.ref k4, .int (nI ln)])), (k4, .inl (cI, 12, .inl lf)), (k3, .inr (3, [.ref k5, .int (nI i)])), (k5, .inl (cI, 12, .inl d)), (r0, .inr (3, [.ref r1, .int (nI rn)])), (r1, .inl (cI, 12, .inl rf)), (h0, .inr (4, [.ref la, .int pc])), (la, .inr (0, [.int mo, .ref ea, .int (nI n)]))] ++ va_pl LP pf) H → va_D (va_A ([(k0, .inr (7, [.ref k1, .ref k2, .ref k3])), (k1, .inl (cI, 52, .inl mi)), (k2, .inr (3, [.ref k4, .int (nI ln)])), (k4, .inl (cI, 12, .inl lf)), (k3, .inr (3, [.ref k5, .int dn])), (k5, .inl (cI, 12, .inl df)), (r0, .inr (3, [.ref r1, .int (nI rn)])), (r1, .inl (cI, 12, .inl rf)), (h0, .inr (4, [.ref la, .int pc])), (la, .inr (0, [.int mo, .ref ea, .int (nI n)]))] ++ va_pl LP pf) s.heap.size) ([(k0, .inr (7, [.ref k1, .ref k2, .ref k3])), (k1, .inl (cI, 52, .inl mi)), (k2, .inr (3, [.ref k4, .int (nI ln)])), (k4, .inl (cI, 12, .inl lf)), (k3, .inr (3, [.ref k5, .int (nI i)])), (k5, .inl (cI, 12, .inl d)), (r0, .inr (3, [.ref r1, .int (nI rn)])), (r1, .inl (cI, 12, .inl rf)), (h0, .inr (4, [.ref la, .int pc])), (la, .inr (0, [.int mo, .ref ea, .int (nI n)]))] ++ va_pl LP pf) → va_S (va_A ([(k0, .inr (7, [.ref k1, .ref k2, .ref k3])), (k1, .inl (cI, 52, .inl mi)), (k2, .inr (3, [.ref k4, .int (nI ln)])), (k4, .inl (cI, 12, .inl lf)), (k3, .inr (3, [.ref k5, .int dn])), (k5, .inl (cI, 12, .inl df)), (r0, .inr (3, [.ref r1, .int (nI rn)])), (r1, .inl (cI, 12, .inl rf)), (h0, .inr (4, [.ref la, .int pc])), (la, .inr (0, [.int mo, .ref ea, .int (nI n)]))] ++ va_pl LP pf) s.heap.size) s.heap H locs → ∀ ls : Array Slot, lv_has ls 8 [(0, .ref k0), (1, .ref r0), (2, .ref h0), (3, .int (nI F)), (4, .int (nI w2)), (5, .int le2), (6, .int (nI i)), (7, .int (minF n pg pc (rf i)))] → W p l e ({ frames := 5, cells := 0, slots := 0, locals := 108 }) s m args below meth c H locs 0 0 (MQ below (kQ D ([(k0, .inr (7, [.ref k1, .ref k2, .ref k3])), (k1, .inl (cI, 52, .inl mi)), (k2, .inr (3, [.ref k4, .int (nI ln)])), (k4, .inl (cI, 12, .inl lf)), (k3, .inr (3, [.ref k5, .int dn])), (k5, .inl (cI, 12, .inl df)), (r0, .inr (3, [.ref r1, .int (nI rn)])), (r1, .inl (cI, 12, .inl rf)), (h0, .inr (4, [.ref la, .int pc])), (la, .inr (0, [.int mo, .ref ea, .int (nI n)]))] ++ va_pl LP pf) s.heap.size (fun rv_ rw_ => ∃ dn2 : Int32, ∃ df2 : Nat → Int32, rv_ = some (.int (layR (layS mi (fun z => minF n pg pc (rf z)) F df rn))) ∧ rw_ = ([(k0, .inr (7, [.ref k1, .ref k2, .ref k3])), (k1, .inl (cI, 52, .inl mi)), (k2, .inr (3, [.ref k4, .int (nI (layN (layS mi (fun z => minF n pg pc (rf z)) F df rn) rn ln))])), (k4, .inl (cI, 12, .inl (layA (layS mi (fun z => minF n pg pc (rf z)) F df rn) rn lf))), (k3, .inr (3, [.ref k5, .int dn2])), (k5, .inl (cI, 12, .inl df2)), (r0, .inr (3, [.ref r1, .int (nI rn)])), (r1, .inl (cI, 12, .inl rf)), (h0, .inr (4, [.ref la, .int pc])), (la, .inr (0, [.int mo, .ref ea, .int (nI n)]))] ++ va_pl LP pf))) args s 0 0 (va_A ([(k0, .inr (7, [.ref k1, .ref k2, .ref k3])), (k1, .inl (cI, 52, .inl mi)), (k2, .inr (3, [.ref k4, .int (nI ln)])), (k4, .inl (cI, 12, .inl lf)), (k3, .inr (3, [.ref k5, .int dn])), (k5, .inl (cI, 12, .inl df)), (r0, .inr (3, [.ref r1, .int (nI rn)])), (r1, .inl (cI, 12, .inl rf)), (h0, .inr (4, [.ref la, .int pc])), (la, .inr (0, [.int mo, .ref ea, .int (nI n)]))] ++ va_pl LP pf) s.heap.size)) (F0 m 57 ls []) := by
                intro fu
                induction fu with
                | zero => intro w2 le2 hmu; exact absurd hmu (Nat.not_lt_zero _)
                | succ fu ih_57 =>
                  intro w2 le2 hmu_57 hw2 hR H locs hP hD hS ls hl
                  refine lv_iload hx hb dX6_layRow_57 (lv_at hl 5 rfl) ?_
                  refine lv_iload hx hb dX6_layRow_59 (lv_at hl 7 rfl) ?_
                  refine lv_icmp_ge (tgt := 91) hx hb dX6_layRow_61 (by decide) (fun c_61 => ?_) (fun c_61 => ?_)
                  · skip
                    refine lv_iload hx hb dX6_layRow_91 (lv_at hl 7 rfl) ?_
                    refine lv_iconst (v := (-1)) hx hb dX6_layRow_93 (by decide) ?_
                    refine lv_icmp_eq (tgt := 104) hx hb dX6_layRow_94 (by decide) (fun c_94 => ?_) (fun c_94 => ?_)
                    · skip
                      refine lv_bipush (v := (-2)) hx hb dX6_layRow_104 (by decide) ?_
                      have ew_0 : (nI ln : Int32) = nI (layN (layS mi (fun z => minF n pg pc (rf z)) F df rn) rn ln) := by first | (rw [← e12, ey]; rfl) | (have hb := layS_bad (nd := fun z => minF n pg pc (rf z)) ey hR (by first | exact Or.inl c_61 | exact Or.inr nc_73) (by first | exact Or.inl c_94 | exact Or.inr c_101) (show i < rn by omega); rw [hb]; rfl)
                      have ew_1 : (lf : Nat → Int32) = layA (layS mi (fun z => minF n pg pc (rf z)) F df rn) rn lf := by first | (rw [← e12, ey]; rfl) | (have hb := layS_bad (nd := fun z => minF n pg pc (rf z)) ey hR (by first | exact Or.inl c_61 | exact Or.inr nc_73) (by first | exact Or.inl c_94 | exact Or.inr c_101) (show i < rn by omega); rw [hb]; rfl)
                      exact kRetI hx hb hr hlk dX6_layRow_106 hP hD hS (Nat.le_of_ble_eq_true rfl) (Nat.le_of_ble_eq_true rfl) ⟨(nI i), d, (kpi (by first | (rw [← e12, ey]; rfl) | (have hb := layS_bad (nd := fun z => minF n pg pc (rf z)) ey hR (by first | exact Or.inl c_61 | exact Or.inr nc_73) (by first | exact Or.inl c_94 | exact Or.inr c_101) (show i < rn by omega); rw [hb]; rfl))), (kw2 (fun (z_0 : Int32) (z_1 : Nat → Int32) => (([(k0, .inr (7, [.ref k1, .ref k2, .ref k3])), (k1, .inl (cI, 52, .inl mi)), (k2, .inr (3, [.ref k4, .int z_0])), (k4, .inl (cI, 12, .inl z_1)), (k3, .inr (3, [.ref k5, .int (nI i)])), (k5, .inl (cI, 12, .inl d)), (r0, .inr (3, [.ref r1, .int (nI rn)])), (r1, .inl (cI, 12, .inl rf)), (h0, .inr (4, [.ref la, .int pc])), (la, .inr (0, [.int mo, .ref ea, .int (nI n)]))] ++ va_pl LP pf) : va_W)) ew_0 ew_1)⟩
                    · skip
                      refine lv_iload hx hb dX6_layRow_97 (lv_at hl 5 rfl) ?_
                      refine lv_iload hx hb dX6_layRow_99 (lv_at hl 7 rfl) ?_
                      refine lv_icmp_ge (tgt := 107) hx hb dX6_layRow_101 (by decide) (fun c_101 => ?_) (fun c_101 => ?_)
                      · skip
                        refine lv_iload hx hb dX6_layRow_107 (lv_at hl 5 rfl) ?_
                        refine lv_iload hx hb dX6_layRow_109 (lv_at hl 7 rfl) ?_
                        refine lv_isub hx hb dX6_layRow_111 ?_
                        refine lv_istore (lv' := [(5, .int (le2 - (minF n pg pc (rf i)))), (0, .ref k0), (1, .ref r0), (2, .ref h0), (3, .int (nI F)), (4, .int (nI w2)), (6, .int (nI i)), (7, .int (minF n pg pc (rf i)))]) hx hb dX6_layRow_112 hl (by decide) rfl (fun ls hl => ?_)
                        refine lv_aload_n hx hb dX6_layRow_114 rfl (lv_at hl 1 rfl) ?_
                        refine va_get (D := D) (ci := 7) (v := .ref k3) (C := RX6) (T := TX6) (N := 3) hx hb hts hi_X6 hown hK.1 hP 0 rfl rfl 2 (by decide) hw_f22 (fun _ h9 => h9) rfl dX6_layRow_115 ?_
                        refine lv_iload hx hb dX6_layRow_118 (lv_at hl 5 rfl) ?_
                        refine kGoQ (cx := [(k3, .inr (3, [.ref k5, .int (nI i)])), (k5, .inl (cI, 12, .inl d))]) (wr := [(k0, .inr (7, [.ref k1, .ref k2, .ref k3])), (k1, .inl (cI, 52, .inl mi)), (k2, .inr (3, [.ref k4, .int (nI ln)])), (k4, .inl (cI, 12, .inl lf)), (r0, .inr (3, [.ref r1, .int (nI rn)])), (r1, .inl (cI, 12, .inl rf)), (h0, .inr (4, [.ref la, .int pc])), (la, .inr (0, [.int mo, .ref ea, .int (nI n)]))]) (va_runV (As := [.int (nI w2)]) (rest := []) ⟨hx, hb, hml, hown, hts⟩ (c_X2_add_b l D cI cJ cZ cO k3 k5 i d (nI w2) (by first | assumption | omega | decide) _) (cwV 1 hts gX6_layRow_X2_add rfl rfl rfl (by decide +kernel) ⟨Nat.le_of_ble_eq_true rfl, Nat.le_of_ble_eq_true rfl⟩) (kPreV (ci := 3) (q0 := 0) hK (kPl_sub hP [4, 5] rfl) ((kDl_sub hD [4, 5] (by decide) rfl).weaken (fun _ _ _ _ => trivial)) rfl rfl rfl) rfl rfl hl.1 rfl (lv_room (Nat.le_of_ble_eq_true rfl)) dX6_layRow_120 ⟨Nat.le_of_ble_eq_true rfl, Nat.le_of_ble_eq_true rfl⟩) hP hD hS hA [4, 5] [0, 1, 2, 3, 6, 7, 8, 9] rfl rfl (by decide) (by decide) (fun v_15 w_15 H locs hv_15 hP hD hS => ?_)
                        obtain ⟨rfl, rfl⟩ := hv_15
                        have hP : va_P D vwCl ([(k0, .inr (7, [.ref k1, .ref k2, .ref k3])), (k1, .inl (cI, 52, .inl mi)), (k2, .inr (3, [.ref k4, .int (nI ln)])), (k4, .inl (cI, 12, .inl lf)), (k3, .inr (3, [.ref k5, .int (nI (i + 1))])), (k5, .inl (cI, 12, .inl (upd d i (nI w2)))), (r0, .inr (3, [.ref r1, .int (nI rn)])), (r1, .inl (cI, 12, .inl rf)), (h0, .inr (4, [.ref la, .int pc])), (la, .inr (0, [.int mo, .ref ea, .int (nI n)]))] ++ va_pl LP pf) H := hP.part [0, 1, 2, 3, 8, 9, 4, 5, 6, 7] rfl
                        have hD : va_D _ ([(k0, .inr (7, [.ref k1, .ref k2, .ref k3])), (k1, .inl (cI, 52, .inl mi)), (k2, .inr (3, [.ref k4, .int (nI ln)])), (k4, .inl (cI, 12, .inl lf)), (k3, .inr (3, [.ref k5, .int (nI (i + 1))])), (k5, .inl (cI, 12, .inl (upd d i (nI w2)))), (r0, .inr (3, [.ref r1, .int (nI rn)])), (r1, .inl (cI, 12, .inl rf)), (h0, .inr (4, [.ref la, .int pc])), (la, .inr (0, [.int mo, .ref ea, .int (nI n)]))] ++ va_pl LP pf) := hD.part [0, 1, 2, 3, 8, 9, 4, 5, 6, 7] (by decide) rfl
                        refine W.eq (g2 := F0 m 123 ls []) rfl ?_
                        refine lv_iinc (v := nI (i + 1)) (lv' := [(6, .int (nI (i + 1))), (5, .int (le2 - (minF n pg pc (rf i)))), (0, .ref k0), (1, .ref r0), (2, .ref h0), (3, .int (nI F)), (4, .int (nI w2)), (7, .int (minF n pg pc (rf i)))]) hx hb dX6_layRow_123 hl (k := 6) rfl (nI_1 _) (by decide) rfl (fun ls hl => ?_)
                        refine lv_goto (tgt := 36) hx hb dX6_layRow_126 (by decide) ?_
                        exact ih_36  (i + 1) w2 (le2 - (minF n pg pc (rf i))) (upd d i (nI w2)) (by omega) (by first | omega | assumption) (by first | omega | assumption) (by exact layS_step (nd := fun z => minF n pg pc (rf z)) ey hR (by first | exact Or.inl c_61 | exact Or.inr nc_73) c_94 c_101) _ _ hP hD hS _ (lv_sub hl [2, 3, 4, 5, 6, 1, 0] rfl)
                      · skip
                        refine lv_bipush (v := (-2)) hx hb dX6_layRow_104 (by decide) ?_
                        have ew_0 : (nI ln : Int32) = nI (layN (layS mi (fun z => minF n pg pc (rf z)) F df rn) rn ln) := by first | (rw [← e12, ey]; rfl) | (have hb := layS_bad (nd := fun z => minF n pg pc (rf z)) ey hR (by first | exact Or.inl c_61 | exact Or.inr nc_73) (by first | exact Or.inl c_94 | exact Or.inr c_101) (show i < rn by omega); rw [hb]; rfl)
                        have ew_1 : (lf : Nat → Int32) = layA (layS mi (fun z => minF n pg pc (rf z)) F df rn) rn lf := by first | (rw [← e12, ey]; rfl) | (have hb := layS_bad (nd := fun z => minF n pg pc (rf z)) ey hR (by first | exact Or.inl c_61 | exact Or.inr nc_73) (by first | exact Or.inl c_94 | exact Or.inr c_101) (show i < rn by omega); rw [hb]; rfl)
                        exact kRetI hx hb hr hlk dX6_layRow_106 hP hD hS (Nat.le_of_ble_eq_true rfl) (Nat.le_of_ble_eq_true rfl) ⟨(nI i), d, (kpi (by first | (rw [← e12, ey]; rfl) | (have hb := layS_bad (nd := fun z => minF n pg pc (rf z)) ey hR (by first | exact Or.inl c_61 | exact Or.inr nc_73) (by first | exact Or.inl c_94 | exact Or.inr c_101) (show i < rn by omega); rw [hb]; rfl))), (kw2 (fun (z_0 : Int32) (z_1 : Nat → Int32) => (([(k0, .inr (7, [.ref k1, .ref k2, .ref k3])), (k1, .inl (cI, 52, .inl mi)), (k2, .inr (3, [.ref k4, .int z_0])), (k4, .inl (cI, 12, .inl z_1)), (k3, .inr (3, [.ref k5, .int (nI i)])), (k5, .inl (cI, 12, .inl d)), (r0, .inr (3, [.ref r1, .int (nI rn)])), (r1, .inl (cI, 12, .inl rf)), (h0, .inr (4, [.ref la, .int pc])), (la, .inr (0, [.int mo, .ref ea, .int (nI n)]))] ++ va_pl LP pf) : va_W)) ew_0 ew_1)⟩
                  · skip
                    refine lv_iload hx hb dX6_layRow_64 (lv_at hl 4 rfl) ?_
                    refine lv_iconst (v := 1) hx hb dX6_layRow_66 (by decide) ?_
                    refine lv_iadd hx hb dX6_layRow_67 ?_
                    refine lv_topi (fun nv_16 ev_16 => ?_)
                    obtain rfl : nv_16 = nI (w2 + 1) := ev_16.trans (nI_1 w2)
                    refine lv_aload_n hx hb dX6_layRow_68 rfl (lv_at hl 0 rfl) ?_
                    refine va_get (D := D) (ci := 7) (v := .ref k1) (C := RX6) (T := TX6) (N := 3) hx hb hts hi_X6 hown hK.1 hP 0 rfl rfl 0 (by decide) hw_f9 (fun _ h9 => h9) rfl dX6_layRow_69 ?_
                    refine va_alen (v := 52) hx hb hK.1 hP 1 0 rfl rfl rfl dX6_layRow_72 ?_
                    refine lv_icmp_ge (tgt := 91) hx hb dX6_layRow_73 (by decide) (fun c_73 => ?_) (fun c_73 => ?_)
                    · skip
                      have nc_73 : 52 ≤ (w2 + 1) := (nI_leI (a := 52) (b := w2 + 1) (by omega) (by omega)).mp c_73
                      refine lv_iload hx hb dX6_layRow_91 (lv_at hl 7 rfl) ?_
                      refine lv_iconst (v := (-1)) hx hb dX6_layRow_93 (by decide) ?_
                      refine lv_icmp_eq (tgt := 104) hx hb dX6_layRow_94 (by decide) (fun c_94 => ?_) (fun c_94 => ?_)
                      · skip
                        refine lv_bipush (v := (-2)) hx hb dX6_layRow_104 (by decide) ?_
                        have ew_0 : (nI ln : Int32) = nI (layN (layS mi (fun z => minF n pg pc (rf z)) F df rn) rn ln) := by first | (rw [← e12, ey]; rfl) | (have hb := layS_bad (nd := fun z => minF n pg pc (rf z)) ey hR (by first | exact Or.inl c_61 | exact Or.inr nc_73) (by first | exact Or.inl c_94 | exact Or.inr c_101) (show i < rn by omega); rw [hb]; rfl)
                        have ew_1 : (lf : Nat → Int32) = layA (layS mi (fun z => minF n pg pc (rf z)) F df rn) rn lf := by first | (rw [← e12, ey]; rfl) | (have hb := layS_bad (nd := fun z => minF n pg pc (rf z)) ey hR (by first | exact Or.inl c_61 | exact Or.inr nc_73) (by first | exact Or.inl c_94 | exact Or.inr c_101) (show i < rn by omega); rw [hb]; rfl)
                        exact kRetI hx hb hr hlk dX6_layRow_106 hP hD hS (Nat.le_of_ble_eq_true rfl) (Nat.le_of_ble_eq_true rfl) ⟨(nI i), d, (kpi (by first | (rw [← e12, ey]; rfl) | (have hb := layS_bad (nd := fun z => minF n pg pc (rf z)) ey hR (by first | exact Or.inl c_61 | exact Or.inr nc_73) (by first | exact Or.inl c_94 | exact Or.inr c_101) (show i < rn by omega); rw [hb]; rfl))), (kw2 (fun (z_0 : Int32) (z_1 : Nat → Int32) => (([(k0, .inr (7, [.ref k1, .ref k2, .ref k3])), (k1, .inl (cI, 52, .inl mi)), (k2, .inr (3, [.ref k4, .int z_0])), (k4, .inl (cI, 12, .inl z_1)), (k3, .inr (3, [.ref k5, .int (nI i)])), (k5, .inl (cI, 12, .inl d)), (r0, .inr (3, [.ref r1, .int (nI rn)])), (r1, .inl (cI, 12, .inl rf)), (h0, .inr (4, [.ref la, .int pc])), (la, .inr (0, [.int mo, .ref ea, .int (nI n)]))] ++ va_pl LP pf) : va_W)) ew_0 ew_1)⟩
                      · skip
                        refine lv_iload hx hb dX6_layRow_97 (lv_at hl 5 rfl) ?_
                        refine lv_iload hx hb dX6_layRow_99 (lv_at hl 7 rfl) ?_
                        refine lv_icmp_ge (tgt := 107) hx hb dX6_layRow_101 (by decide) (fun c_101 => ?_) (fun c_101 => ?_)
                        · skip
                          refine lv_iload hx hb dX6_layRow_107 (lv_at hl 5 rfl) ?_
                          refine lv_iload hx hb dX6_layRow_109 (lv_at hl 7 rfl) ?_
                          refine lv_isub hx hb dX6_layRow_111 ?_
                          refine lv_istore (lv' := [(5, .int (le2 - (minF n pg pc (rf i)))), (0, .ref k0), (1, .ref r0), (2, .ref h0), (3, .int (nI F)), (4, .int (nI w2)), (6, .int (nI i)), (7, .int (minF n pg pc (rf i)))]) hx hb dX6_layRow_112 hl (by decide) rfl (fun ls hl => ?_)
                          refine lv_aload_n hx hb dX6_layRow_114 rfl (lv_at hl 1 rfl) ?_
                          refine va_get (D := D) (ci := 7) (v := .ref k3) (C := RX6) (T := TX6) (N := 3) hx hb hts hi_X6 hown hK.1 hP 0 rfl rfl 2 (by decide) hw_f22 (fun _ h9 => h9) rfl dX6_layRow_115 ?_
                          refine lv_iload hx hb dX6_layRow_118 (lv_at hl 5 rfl) ?_
                          refine kGoQ (cx := [(k3, .inr (3, [.ref k5, .int (nI i)])), (k5, .inl (cI, 12, .inl d))]) (wr := [(k0, .inr (7, [.ref k1, .ref k2, .ref k3])), (k1, .inl (cI, 52, .inl mi)), (k2, .inr (3, [.ref k4, .int (nI ln)])), (k4, .inl (cI, 12, .inl lf)), (r0, .inr (3, [.ref r1, .int (nI rn)])), (r1, .inl (cI, 12, .inl rf)), (h0, .inr (4, [.ref la, .int pc])), (la, .inr (0, [.int mo, .ref ea, .int (nI n)]))]) (va_runV (As := [.int (nI w2)]) (rest := []) ⟨hx, hb, hml, hown, hts⟩ (c_X2_add_b l D cI cJ cZ cO k3 k5 i d (nI w2) (by first | assumption | omega | decide) _) (cwV 1 hts gX6_layRow_X2_add rfl rfl rfl (by decide +kernel) ⟨Nat.le_of_ble_eq_true rfl, Nat.le_of_ble_eq_true rfl⟩) (kPreV (ci := 3) (q0 := 0) hK (kPl_sub hP [4, 5] rfl) ((kDl_sub hD [4, 5] (by decide) rfl).weaken (fun _ _ _ _ => trivial)) rfl rfl rfl) rfl rfl hl.1 rfl (lv_room (Nat.le_of_ble_eq_true rfl)) dX6_layRow_120 ⟨Nat.le_of_ble_eq_true rfl, Nat.le_of_ble_eq_true rfl⟩) hP hD hS hA [4, 5] [0, 1, 2, 3, 6, 7, 8, 9] rfl rfl (by decide) (by decide) (fun v_17 w_17 H locs hv_17 hP hD hS => ?_)
                          obtain ⟨rfl, rfl⟩ := hv_17
                          have hP : va_P D vwCl ([(k0, .inr (7, [.ref k1, .ref k2, .ref k3])), (k1, .inl (cI, 52, .inl mi)), (k2, .inr (3, [.ref k4, .int (nI ln)])), (k4, .inl (cI, 12, .inl lf)), (k3, .inr (3, [.ref k5, .int (nI (i + 1))])), (k5, .inl (cI, 12, .inl (upd d i (nI w2)))), (r0, .inr (3, [.ref r1, .int (nI rn)])), (r1, .inl (cI, 12, .inl rf)), (h0, .inr (4, [.ref la, .int pc])), (la, .inr (0, [.int mo, .ref ea, .int (nI n)]))] ++ va_pl LP pf) H := hP.part [0, 1, 2, 3, 8, 9, 4, 5, 6, 7] rfl
                          have hD : va_D _ ([(k0, .inr (7, [.ref k1, .ref k2, .ref k3])), (k1, .inl (cI, 52, .inl mi)), (k2, .inr (3, [.ref k4, .int (nI ln)])), (k4, .inl (cI, 12, .inl lf)), (k3, .inr (3, [.ref k5, .int (nI (i + 1))])), (k5, .inl (cI, 12, .inl (upd d i (nI w2)))), (r0, .inr (3, [.ref r1, .int (nI rn)])), (r1, .inl (cI, 12, .inl rf)), (h0, .inr (4, [.ref la, .int pc])), (la, .inr (0, [.int mo, .ref ea, .int (nI n)]))] ++ va_pl LP pf) := hD.part [0, 1, 2, 3, 8, 9, 4, 5, 6, 7] (by decide) rfl
                          refine W.eq (g2 := F0 m 123 ls []) rfl ?_
                          refine lv_iinc (v := nI (i + 1)) (lv' := [(6, .int (nI (i + 1))), (5, .int (le2 - (minF n pg pc (rf i)))), (0, .ref k0), (1, .ref r0), (2, .ref h0), (3, .int (nI F)), (4, .int (nI w2)), (7, .int (minF n pg pc (rf i)))]) hx hb dX6_layRow_123 hl (k := 6) rfl (nI_1 _) (by decide) rfl (fun ls hl => ?_)
                          refine lv_goto (tgt := 36) hx hb dX6_layRow_126 (by decide) ?_
                          exact ih_36  (i + 1) w2 (le2 - (minF n pg pc (rf i))) (upd d i (nI w2)) (by omega) (by first | omega | assumption) (by first | omega | assumption) (by exact layS_step (nd := fun z => minF n pg pc (rf z)) ey hR (by first | exact Or.inl c_61 | exact Or.inr nc_73) c_94 c_101) _ _ hP hD hS _ (lv_sub hl [2, 3, 4, 5, 6, 1, 0] rfl)
                        · skip
                          refine lv_bipush (v := (-2)) hx hb dX6_layRow_104 (by decide) ?_
                          have ew_0 : (nI ln : Int32) = nI (layN (layS mi (fun z => minF n pg pc (rf z)) F df rn) rn ln) := by first | (rw [← e12, ey]; rfl) | (have hb := layS_bad (nd := fun z => minF n pg pc (rf z)) ey hR (by first | exact Or.inl c_61 | exact Or.inr nc_73) (by first | exact Or.inl c_94 | exact Or.inr c_101) (show i < rn by omega); rw [hb]; rfl)
                          have ew_1 : (lf : Nat → Int32) = layA (layS mi (fun z => minF n pg pc (rf z)) F df rn) rn lf := by first | (rw [← e12, ey]; rfl) | (have hb := layS_bad (nd := fun z => minF n pg pc (rf z)) ey hR (by first | exact Or.inl c_61 | exact Or.inr nc_73) (by first | exact Or.inl c_94 | exact Or.inr c_101) (show i < rn by omega); rw [hb]; rfl)
                          exact kRetI hx hb hr hlk dX6_layRow_106 hP hD hS (Nat.le_of_ble_eq_true rfl) (Nat.le_of_ble_eq_true rfl) ⟨(nI i), d, (kpi (by first | (rw [← e12, ey]; rfl) | (have hb := layS_bad (nd := fun z => minF n pg pc (rf z)) ey hR (by first | exact Or.inl c_61 | exact Or.inr nc_73) (by first | exact Or.inl c_94 | exact Or.inr c_101) (show i < rn by omega); rw [hb]; rfl))), (kw2 (fun (z_0 : Int32) (z_1 : Nat → Int32) => (([(k0, .inr (7, [.ref k1, .ref k2, .ref k3])), (k1, .inl (cI, 52, .inl mi)), (k2, .inr (3, [.ref k4, .int z_0])), (k4, .inl (cI, 12, .inl z_1)), (k3, .inr (3, [.ref k5, .int (nI i)])), (k5, .inl (cI, 12, .inl d)), (r0, .inr (3, [.ref r1, .int (nI rn)])), (r1, .inl (cI, 12, .inl rf)), (h0, .inr (4, [.ref la, .int pc])), (la, .inr (0, [.int mo, .ref ea, .int (nI n)]))] ++ va_pl LP pf) : va_W)) ew_0 ew_1)⟩
                    · skip
                      have nc_73 : ¬ 52 ≤ (w2 + 1) := (not_congr (nI_leI (a := 52) (b := w2 + 1) (by omega) (by omega))).mp c_73
                      refine lv_iinc (v := nI (w2 + 1)) (lv' := [(4, .int (nI (w2 + 1))), (0, .ref k0), (1, .ref r0), (2, .ref h0), (3, .int (nI F)), (5, .int le2), (6, .int (nI i)), (7, .int (minF n pg pc (rf i)))]) hx hb dX6_layRow_76 hl (k := 4) rfl (nI_1 _) (by decide) rfl (fun ls hl => ?_)
                      refine lv_aload_n hx hb dX6_layRow_79 rfl (lv_at hl 1 rfl) ?_
                      refine va_get (D := D) (ci := 7) (v := .ref k1) (C := RX6) (T := TX6) (N := 3) hx hb hts hi_X6 hown hK.1 hP 0 rfl rfl 0 (by decide) hw_f9 (fun _ h9 => h9) rfl dX6_layRow_80 ?_
                      refine lv_iload hx hb dX6_layRow_83 (lv_at hl 0 rfl) ?_
                      refine va_iald hx hb hK.1 hP 1 0 rfl rfl (vp_in_nI (by omega) (by omega)) dX6_layRow_85 ?_
                      refine lv_topi (fun nv_18 ev_18 => ?_)
                      obtain rfl : nv_18 = mi (w2 + 1) := by rw [ev_18, nI_clamp (by omega)]
                      refine lv_istore (lv' := [(5, .int (mi (w2 + 1))), (4, .int (nI (w2 + 1))), (0, .ref k0), (1, .ref r0), (2, .ref h0), (3, .int (nI F)), (6, .int (nI i)), (7, .int (minF n pg pc (rf i)))]) hx hb dX6_layRow_86 hl (by decide) rfl (fun ls hl => ?_)
                      refine lv_goto (tgt := 57) hx hb dX6_layRow_88 (by decide) ?_
                      exact ih_57  (w2 + 1) (mi (w2 + 1)) (by omega) (by first | omega | assumption) (by exact layW_go hR c_61 nc_73) _ _ hP hD hS _ (lv_sub hl [2, 3, 4, 5, 1, 0, 6, 7] rfl)
              exact hloop_57 ((52 - w) + 1) w le (Nat.lt_succ_self _) (by first | omega | assumption) (by rfl) _ _ hP hD hS _ (lv_sub hl [1, 2, 3, 4, 5, 6, 7, 0] rfl)
      exact hloop_36 ((rn - 0) + 1) 0 F (mi F) df (Nat.lt_succ_self _) (by first | omega | assumption) (by first | omega | assumption) (by rfl) _ _ hP hD hS _ (lv_sub hl [3, 4, 5, 6, 2, 1, 0] rfl)
    · exact absurd ((nI_ltI (a := F) (b := 52) (by omega) (by omega)).mpr hF) c_10
