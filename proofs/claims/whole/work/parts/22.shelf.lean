/-! ===== the shelf ===== -/
def shE (n : Nat) (al : Nat → Option Nat) (LP : List Nat) (pf : Nat → va_E) (ad : Nat → Nat) (ne ei gv sk pg : Nat → Int32) : Prop := ∀ i : Nat, i < n → al i = some (ad i) ∧ ad i ∈ LP ∧ pf (ad i) = pcE (ne i) (ei i) (gv i) (sk i) (pg i)
def shH (cO : ClassId) (n he cap : Nat) (al : Nat → Option Nat) (LP : List Nat) (pf : Nat → va_E) : Prop := 0 < n → he ∈ LP ∧ pf he = .inl (cO, cap, .inr (.inr (.inr (.inr al)))) ∧ n ≤ cap ∧ cap ≤ 15
def neededF (ne : Nat → Int32) : Nat → Int32
  | 0 => 0
  | i + 1 => neededF ne i ||| ne i
def readF (ne ei gv : Nat → Int32) (k : Int32) : Nat → Int32
  | 0 => k
  | i + 1 => if openB (ne i) (ei i) (readF ne ei gv k i) then readF ne ei gv k i ||| gv i else readF ne ei gv k i
/-- the list and its row out of a world with a pool -/
theorem kList {D : va_G} {X : va_W} {LP : List Nat} {pf : Nat → va_E} {H : Heap} {hl he cap : Nat} {o : va_E} {cO : ClassId} {al : Nat → Option Nat} (hP : va_P D vwCl (X ++ va_pl LP pf) H) (i : Nat) (hi : X[i]? = some (hl, o)) (h1 : he ∈ LP) (h2 : pf he = .inl (cO, cap, .inr (.inr (.inr (.inr al))))) : va_P D vwCl [(hl, o), (he, .inl (cO, cap, .inr (.inr (.inr (.inr al)))))] H := by
  have a := kPl_sub hP (cx := [(hl, o)]) [i] (by simp [hi])
  have b := kPl_one hP h1
  rw [h2] at b
  exact va_P.app a b
theorem kPiece {D : va_G} {X : va_W} {LP : List Nat} {pf : Nat → va_E} {H : Heap} {q : Nat} {a b c d e : Int32} (hP : va_P D vwCl (X ++ va_pl LP pf) H) (h1 : q ∈ LP) (h2 : pf q = pcE a b c d e) : va_P D vwCl [(q, .inr (2, [.int a, .int b, .int c, .int d, .int e]))] H := by
  have x := kPl_one hP h1
  rw [h2] at x
  exact x

set_option maxHeartbeats 4000000 in
set_option maxRecDepth 100000 in
theorem c_Jx4a65c_size_8abf5 (l : Launch) (D : va_G) (cI cJ cZ cO : ClassId) (la : Nat) (ea : Nat) (mo : Int32) (n : Nat) : kR l D (kTY cI cJ cZ cO) yJx4a65c_size_8abf5 wsJx4a65c_size_8abf5 0 0 [.ref la] [(la, .inr (0, [.int mo, .ref ea, .int (nI n)]))] (fun rv_ => rv_ = some (.int (nI n))) := by
  refine kEnterR (cc := cJx4a65c_size_8abf5) (maxL := 1) (ret := (some .int)) (by decide) rfl (Nat.le_of_ble_eq_true rfl) ?_
  intro p e s m args below meth c hx hb hr hml hts hown hlk hK hP ls hl
  have hl : lv_has ls 1 [(0, .ref la)] := hl
  have hw_f48 := hts (.fieldLink RJx4a65c 48 "java/util/ArrayList" "size" "I") (by decide +kernel)
  have hi_Jx4a65c : ∀ w ∈ wsJx4a65c0, w ∈ wsJx4a65c_size_8abf5 := by decide +kernel
  refine lv_aload_n hx hb dJx4a65c_size_8abf5_0 rfl (lv_at hl 0 rfl) ?_
  refine va_get (D := D) (ci := 0) (v := .int (nI n)) (C := RJx4a65c) (T := TJx4a65c) (N := 3) hx hb hts hi_Jx4a65c hown hK.1 hP 0 rfl rfl 2 (by decide) hw_f48 (fun _ h9 => h9) rfl dJx4a65c_size_8abf5_1 ?_
  exact kRetIr hx hb hr hlk dJx4a65c_size_8abf5_4 rfl

set_option maxHeartbeats 4000000 in
set_option maxRecDepth 100000 in
theorem c_Jx4a65c_isEmpty_aae02 (l : Launch) (D : va_G) (cI cJ cZ cO : ClassId) (la : Nat) (ea : Nat) (mo : Int32) (n : Nat) (hn : n < 4096) : kR l D (kTY cI cJ cZ cO) yJx4a65c_isEmpty_aae02 wsJx4a65c_isEmpty_aae02 0 0 [.ref la] [(la, .inr (0, [.int mo, .ref ea, .int (nI n)]))] (fun rv_ => rv_ = some (.int (k01 (decide (n = 0))))) := by
  refine kEnterR (cc := cJx4a65c_isEmpty_aae02) (maxL := 1) (ret := (some .boolean)) (by decide) rfl (Nat.le_of_ble_eq_true rfl) ?_
  intro p e s m args below meth c hx hb hr hml hts hown hlk hK hP ls hl
  have hl : lv_has ls 1 [(0, .ref la)] := hl
  have hw_f48 := hts (.fieldLink RJx4a65c 48 "java/util/ArrayList" "size" "I") (by decide +kernel)
  have hi_Jx4a65c : ∀ w ∈ wsJx4a65c0, w ∈ wsJx4a65c_isEmpty_aae02 := by decide +kernel
  refine lv_aload_n hx hb dJx4a65c_isEmpty_aae02_0 rfl (lv_at hl 0 rfl) ?_
  refine va_get (D := D) (ci := 0) (v := .int (nI n)) (C := RJx4a65c) (T := TJx4a65c) (N := 3) hx hb hts hi_Jx4a65c hown hK.1 hP 0 rfl rfl 2 (by decide) hw_f48 (fun _ h9 => h9) rfl dJx4a65c_isEmpty_aae02_1 ?_
  refine lv_if_ne (tgt := 11) hx hb dJx4a65c_isEmpty_aae02_4 (by decide) (fun c_4 => ?_) (fun c_4 => ?_)
  · skip
    have nc_4 : ¬ n = 0 := (not_congr (nI_eq (a := n) (b := 0) (by omega) (by omega))).mp c_4
    refine lv_iconst (v := 0) hx hb dJx4a65c_isEmpty_aae02_11 (by decide) ?_
    exact kRetZr (decide (n = 0)) (by first | rfl | (rw [ex, e12]; done) | (rw [em, e12]; done) | (rw [ey, e12]; done) | (rw [e12]; done) | (simp [k01, c_4, nc_4]; done) | (simp_all [k01]; done)) hx hb hr hlk dJx4a65c_isEmpty_aae02_12 rfl
  · skip
    have nc_4 : n = 0 := (nI_eq (a := n) (b := 0) (by omega) (by omega)).mp c_4
    refine lv_iconst (v := 1) hx hb dJx4a65c_isEmpty_aae02_7 (by decide) ?_
    refine lv_goto (tgt := 12) hx hb dJx4a65c_isEmpty_aae02_8 (by decide) ?_
    exact kRetZr (decide (n = 0)) (by first | rfl | (rw [ex, e12]; done) | (rw [em, e12]; done) | (rw [ey, e12]; done) | (rw [e12]; done) | (simp [k01, c_4, nc_4]; done) | (simp_all [k01]; done)) hx hb hr hlk dJx4a65c_isEmpty_aae02_12 rfl

set_option maxHeartbeats 4000000 in
set_option maxRecDepth 100000 in
theorem c_J3_checkIndex_8e157 (l : Launch) (D : va_G) (cI cJ cZ cO : ClassId) (j : Nat) (n : Nat) (hj : j < n) (hn : n < 4096) : kR l D (kTY cI cJ cZ cO) yJ3_checkIndex_8e157 wsJ3_checkIndex_8e157 0 0 [.int (nI j), .int (nI n), .null] [] (fun rv_ => rv_ = some (.int (nI j))) := by
  refine kEnterR (cc := cJ3_checkIndex_8e157) (maxL := 3) (ret := (some .int)) (by decide) rfl (Nat.le_of_ble_eq_true rfl) ?_
  intro p e s m args below meth c hx hb hr hml hts hown hlk hK hP ls hl
  have hl : lv_has ls 3 [(0, .int (nI j)), (1, .int (nI n)), (2, .null)] := hl
  refine lv_iload_n hx hb dJ3_checkIndex_8e157_0 rfl (lv_at hl 0 rfl) ?_
  refine lv_if_lt (tgt := 9) hx hb dJ3_checkIndex_8e157_1 (by decide) (fun c_1 => ?_) (fun c_1 => ?_)
  · exact absurd c_1 (nI_pos (by omega))
  · skip
    refine lv_iload_n hx hb dJ3_checkIndex_8e157_4 rfl (lv_at hl 0 rfl) ?_
    refine lv_iload_n hx hb dJ3_checkIndex_8e157_5 rfl (lv_at hl 1 rfl) ?_
    refine lv_icmp_lt (tgt := 16) hx hb dJ3_checkIndex_8e157_6 (by decide) (fun c_6 => ?_) (fun c_6 => ?_)
    · skip
      refine lv_iload_n hx hb dJ3_checkIndex_8e157_16 rfl (lv_at hl 0 rfl) ?_
      exact kRetIr hx hb hr hlk dJ3_checkIndex_8e157_17 rfl
    · exact absurd (nI_lt hj (by omega)) c_6

set_option maxHeartbeats 4000000 in
set_option maxRecDepth 100000 in
theorem c_J15_checkIndex_7cf53 (l : Launch) (D : va_G) (cI cJ cZ cO : ClassId) (j : Nat) (n : Nat) (hj : j < n) (hn : n < 4096) : kR l D (kTY cI cJ cZ cO) yJ15_checkIndex_7cf53 wsJ15_checkIndex_7cf53 1 22 [.int (nI j), .int (nI n)] [] (fun rv_ => rv_ = some (.int (nI j))) := by
  refine kEnterR (cc := cJ15_checkIndex_7cf53) (maxL := 2) (ret := (some .int)) (by decide) rfl (Nat.le_of_ble_eq_true rfl) ?_
  intro p e s m args below meth c hx hb hr hml hts hown hlk hK hP ls hl
  have hl : lv_has ls 2 [(0, .int (nI j)), (1, .int (nI n))] := hl
  refine lv_iload_n hx hb dJ15_checkIndex_7cf53_0 rfl (lv_at hl 0 rfl) ?_
  refine lv_iload_n hx hb dJ15_checkIndex_7cf53_1 rfl (lv_at hl 1 rfl) ?_
  refine lv_null hx hb dJ15_checkIndex_7cf53_2 ?_
  refine kGoR (va_runS (As := [.int (nI j), .int (nI n), .null]) (rest := []) ⟨hx, hb, hml, hown, hts⟩ (c_J3_checkIndex_8e157 l D cI cJ cZ cO j n (by first | assumption | omega | decide) (by first | assumption | omega | decide)) (va_cwS 3 hts gJ15_checkIndex_7cf53_J3_checkIndex_8e157 rfl rfl rfl (by decide +kernel) ⟨Nat.le_of_ble_eq_true rfl, Nat.le_of_ble_eq_true rfl⟩) (kPreSR hK (kPc_sub hP [] rfl)) rfl rfl hl.1 rfl (lv_room (Nat.le_of_ble_eq_true rfl)) dJ15_checkIndex_7cf53_3 ⟨Nat.le_of_ble_eq_true rfl, Nat.le_of_ble_eq_true rfl⟩) (fun v_1 hv_1 => ?_)
  obtain rfl := hv_1
  refine W.eq (g2 := F0 m 6 ls [.int (nI j)]) rfl ?_
  exact kRetIr hx hb hr hlk dJ15_checkIndex_7cf53_6 rfl

set_option maxHeartbeats 4000000 in
set_option maxRecDepth 100000 in
theorem c_Jx4a65c_elementData_915e3 (l : Launch) (D : va_G) (cI cJ cZ cO : ClassId) (la : Nat) (ea : Nat) (mo : Int32) (n : Nat) (cap : Nat) (al : Nat → Option Nat) (j : Nat) (hj : j < cap) (hc : cap < 4096) : kR l D (kTY cI cJ cZ cO) yJx4a65c_elementData_915e3 wsJx4a65c_elementData_915e3 0 0 [.ref la, .int (nI j)] [(la, .inr (0, [.int mo, .ref ea, .int (nI n)])), (ea, .inl (cO, cap, .inr (.inr (.inr (.inr al)))))] (fun rv_ => rv_ = some (va_rf (al j))) := by
  refine kEnterR (cc := cJx4a65c_elementData_915e3) (maxL := 2) (ret := (some (.object "java/lang/Object"))) (by decide) rfl (Nat.le_of_ble_eq_true rfl) ?_
  intro p e s m args below meth c hx hb hr hml hts hown hlk hK hP ls hl
  have hl : lv_has ls 2 [(0, .ref la), (1, .int (nI j))] := hl
  have hw_f9 := hts (.fieldLink RJx4a65c 9 "java/util/ArrayList" "elementData" "[Ljava/lang/Object;") (by decide +kernel)
  have hi_Jx4a65c : ∀ w ∈ wsJx4a65c0, w ∈ wsJx4a65c_elementData_915e3 := by decide +kernel
  refine lv_aload_n hx hb dJx4a65c_elementData_915e3_0 rfl (lv_at hl 0 rfl) ?_
  refine va_get (D := D) (ci := 0) (v := .ref ea) (C := RJx4a65c) (T := TJx4a65c) (N := 3) hx hb hts hi_Jx4a65c hown hK.1 hP 0 rfl rfl 1 (by decide) hw_f9 (fun _ h9 => h9) rfl dJx4a65c_elementData_915e3_1 ?_
  refine lv_iload_n hx hb dJx4a65c_elementData_915e3_4 rfl (lv_at hl 1 rfl) ?_
  refine va_aldq hx hb hK.1 hP 1 3 rfl rfl (vp_in_nI (by omega) (by omega)) dJx4a65c_elementData_915e3_5 ?_
  rw [nI_clamp (by omega)]
  exact kRetAr hx hb hr hlk dJx4a65c_elementData_915e3_6 (va_rf_or _) rfl

set_option maxHeartbeats 4000000 in
set_option maxRecDepth 100000 in
theorem c_Jx4a65c_get_915e3 (l : Launch) (D : va_G) (cI cJ cZ cO : ClassId) (la : Nat) (ea : Nat) (mo : Int32) (n : Nat) (cap : Nat) (al : Nat → Option Nat) (j : Nat) (hj : j < n) (hn : n ≤ cap) (hc : cap < 4096) : kR l D (kTY cI cJ cZ cO) yJx4a65c_get_915e3 wsJx4a65c_get_915e3 2 43 [.ref la, .int (nI j)] [(la, .inr (0, [.int mo, .ref ea, .int (nI n)])), (ea, .inl (cO, cap, .inr (.inr (.inr (.inr al)))))] (fun rv_ => rv_ = some (va_rf (al j))) := by
  refine kEnterR (cc := cJx4a65c_get_915e3) (maxL := 2) (ret := (some (.object "java/lang/Object"))) (by decide) rfl (Nat.le_of_ble_eq_true rfl) ?_
  intro p e s m args below meth c hx hb hr hml hts hown hlk hK hP ls hl
  have hl : lv_has ls 2 [(0, .ref la), (1, .int (nI j))] := hl
  have hw_f48 := hts (.fieldLink RJx4a65c 48 "java/util/ArrayList" "size" "I") (by decide +kernel)
  have hi_Jx4a65c : ∀ w ∈ wsJx4a65c0, w ∈ wsJx4a65c_get_915e3 := by decide +kernel
  refine lv_iload_n hx hb dJx4a65c_get_915e3_0 rfl (lv_at hl 1 rfl) ?_
  refine lv_aload_n hx hb dJx4a65c_get_915e3_1 rfl (lv_at hl 0 rfl) ?_
  refine va_get (D := D) (ci := 0) (v := .int (nI n)) (C := RJx4a65c) (T := TJx4a65c) (N := 3) hx hb hts hi_Jx4a65c hown hK.1 hP 0 rfl rfl 2 (by decide) hw_f48 (fun _ h9 => h9) rfl dJx4a65c_get_915e3_2 ?_
  refine kGoR (va_runS (As := [.int (nI j), .int (nI n)]) (rest := []) ⟨hx, hb, hml, hown, hts⟩ (c_J15_checkIndex_7cf53 l D cI cJ cZ cO j n (by first | assumption | omega | decide) (by first | assumption | omega | decide)) (va_cwS 2 hts gJx4a65c_get_915e3_J15_checkIndex_7cf53 rfl rfl rfl (by decide +kernel) ⟨Nat.le_of_ble_eq_true rfl, Nat.le_of_ble_eq_true rfl⟩) (kPreSR hK (kPc_sub hP [] rfl)) rfl rfl hl.1 rfl (lv_room (Nat.le_of_ble_eq_true rfl)) dJx4a65c_get_915e3_5 ⟨Nat.le_of_ble_eq_true rfl, Nat.le_of_ble_eq_true rfl⟩) (fun v_1 hv_1 => ?_)
  obtain rfl := hv_1
  refine W.eq (g2 := F0 m 8 ls [.int (nI j)]) rfl ?_
  refine lv_pop hx hb dJx4a65c_get_915e3_8 rfl ?_
  refine lv_aload_n hx hb dJx4a65c_get_915e3_9 rfl (lv_at hl 0 rfl) ?_
  refine lv_iload_n hx hb dJx4a65c_get_915e3_10 rfl (lv_at hl 1 rfl) ?_
  refine kGoR (va_runV (As := [.int (nI j)]) (rest := []) ⟨hx, hb, hml, hown, hts⟩ (c_Jx4a65c_elementData_915e3 l D cI cJ cZ cO la ea mo n cap al j (by first | assumption | omega | decide) (by first | assumption | omega | decide)) (cwV 1 hts gJx4a65c_get_915e3_Jx4a65c_elementData_915e3 rfl rfl rfl (by decide +kernel) ⟨Nat.le_of_ble_eq_true rfl, Nat.le_of_ble_eq_true rfl⟩) (kPreVR (ci := 0) (q0 := 0) hK (kPc_sub hP [0, 1] rfl) rfl rfl rfl) rfl rfl hl.1 rfl (lv_room (Nat.le_of_ble_eq_true rfl)) dJx4a65c_get_915e3_11 ⟨Nat.le_of_ble_eq_true rfl, Nat.le_of_ble_eq_true rfl⟩) (fun v_2 hv_2 => ?_)
  obtain rfl := hv_2
  refine W.eq (g2 := F0 m 14 ls [va_rf (al j)]) rfl ?_
  exact kRetAr hx hb hr hlk dJx4a65c_get_915e3_14 (va_rf_or _) rfl

set_option maxHeartbeats 4000000 in
set_option maxRecDepth 100000 in
theorem c_X3_size (l : Launch) (D : va_G) (cI cJ cZ cO : ClassId) (h0 : Nat) (la : Nat) (ea : Nat) (pc : Int32) (mo : Int32) (n : Nat) (al : Nat → Option Nat) (cap : Nat) (LP : List Nat) (pf : Nat → va_E) (ad : Nat → Nat) (ne : Nat → Int32) (ei : Nat → Int32) (gv : Nat → Int32) (sk : Nat → Int32) (pg : Nat → Int32) (hn : n ≤ 14) (hH : shH cO n ea cap al LP pf) (hE : shE n al LP pf ad ne ei gv sk pg) : kR l D (kTY cI cJ cZ cO) yX3_size wsX3_size 1 20 [.ref h0] ([(h0, .inr (4, [.ref la, .int pc])), (la, .inr (0, [.int mo, .ref ea, .int (nI n)]))] ++ va_pl LP pf) (fun rv_ => rv_ = some (.int (nI n))) := by
  refine kEnterR (cc := cX3_size) (maxL := 1) (ret := (some .int)) (by decide) rfl (Nat.le_of_ble_eq_true rfl) ?_
  intro p e s m args below meth c hx hb hr hml hts hown hlk hK hP ls hl
  have hl : lv_has ls 1 [(0, .ref h0)] := hl
  have hw_f12 := hts (.fieldLink RX3 12 "WhatToRead$Shelf" "pieces" "Ljava/util/List;") (by decide +kernel)
  have hi_X3 : ∀ w ∈ wsX30, w ∈ wsX3_size := by decide +kernel
  refine lv_aload_n hx hb dX3_size_0 rfl (lv_at hl 0 rfl) ?_
  refine va_get (D := D) (ci := 4) (v := .ref la) (C := RX3) (T := TX3) (N := 2) hx hb hts hi_X3 hown hK.1 hP 0 rfl rfl 0 (by decide) hw_f12 (fun _ h9 => h9) rfl dX3_size_1 ?_
  refine kGo5R (va_runF (As := []) (rest := []) (kAt hK (ci := 0) rfl) ⟨hx, hb, hml, hown, hts⟩ (c_Jx4a65c_size_8abf5 l D cI cJ cZ cO la ea mo n ) (va_cwF 0 hts gX3_size_Jx4a65c_size_8abf5_f22Jx4a65c rfl rfl rfl hK.2.2.2.1 (by decide +kernel) ⟨Nat.le_of_ble_eq_true rfl, Nat.le_of_ble_eq_true rfl⟩) (kPreVR (ci := 0) (q0 := 0) hK (kPl_sub hP [1] rfl) rfl rfl rfl) rfl rfl hl.1 rfl (lv_room (Nat.le_of_ble_eq_true rfl)) dX3_size_4 ⟨Nat.le_of_ble_eq_true rfl, Nat.le_of_ble_eq_true rfl⟩) (fun v_1 hv_1 => ?_)
  obtain rfl := hv_1
  refine W.eq (g2 := F0 m 9 ls [.int (nI n)]) rfl ?_
  exact kRetIr hx hb hr hlk dX3_size_9 rfl

set_option maxHeartbeats 4000000 in
set_option maxRecDepth 100000 in
theorem c_X3_currentPace (l : Launch) (D : va_G) (cI cJ cZ cO : ClassId) (h0 : Nat) (la : Nat) (ea : Nat) (pc : Int32) (mo : Int32) (n : Nat) (al : Nat → Option Nat) (cap : Nat) (LP : List Nat) (pf : Nat → va_E) (ad : Nat → Nat) (ne : Nat → Int32) (ei : Nat → Int32) (gv : Nat → Int32) (sk : Nat → Int32) (pg : Nat → Int32) (hn : n ≤ 14) (hH : shH cO n ea cap al LP pf) (hE : shE n al LP pf ad ne ei gv sk pg) : kR l D (kTY cI cJ cZ cO) yX3_currentPace wsX3_currentPace 0 0 [.ref h0] ([(h0, .inr (4, [.ref la, .int pc])), (la, .inr (0, [.int mo, .ref ea, .int (nI n)]))] ++ va_pl LP pf) (fun rv_ => rv_ = some (.int pc)) := by
  refine kEnterR (cc := cX3_currentPace) (maxL := 1) (ret := (some .int)) (by decide) rfl (Nat.le_of_ble_eq_true rfl) ?_
  intro p e s m args below meth c hx hb hr hml hts hown hlk hK hP ls hl
  have hl : lv_has ls 1 [(0, .ref h0)] := hl
  have hw_f18 := hts (.fieldLink RX3 18 "WhatToRead$Shelf" "pace" "I") (by decide +kernel)
  have hi_X3 : ∀ w ∈ wsX30, w ∈ wsX3_currentPace := by decide +kernel
  refine lv_aload_n hx hb dX3_currentPace_0 rfl (lv_at hl 0 rfl) ?_
  refine va_get (D := D) (ci := 4) (v := .int pc) (C := RX3) (T := TX3) (N := 2) hx hb hts hi_X3 hown hK.1 hP 0 rfl rfl 1 (by decide) hw_f18 (fun _ h9 => h9) rfl dX3_currentPace_1 ?_
  exact kRetIr hx hb hr hlk dX3_currentPace_4 rfl

set_option maxHeartbeats 4000000 in
set_option maxRecDepth 100000 in
theorem c_X3_pieceOf_a (l : Launch) (D : va_G) (cI cJ cZ cO : ClassId) (h0 : Nat) (la : Nat) (ea : Nat) (pc : Int32) (mo : Int32) (n : Nat) (al : Nat → Option Nat) (cap : Nat) (LP : List Nat) (pf : Nat → va_E) (ad : Nat → Nat) (ne : Nat → Int32) (ei : Nat → Int32) (gv : Nat → Int32) (sk : Nat → Int32) (pg : Nat → Int32) (k : Nat) (hn : n ≤ 14) (hH : shH cO n ea cap al LP pf) (hE : shE n al LP pf ad ne ei gv sk pg) (hk : k < 2 * n) : kR l D (kTY cI cJ cZ cO) yX3_pieceOf wsX3_pieceOf 3 64 [.ref h0, .int (nI k)] ([(h0, .inr (4, [.ref la, .int pc])), (la, .inr (0, [.int mo, .ref ea, .int (nI n)]))] ++ va_pl LP pf) (fun rv_ => rv_ = some (.ref (ad (k / 2)))) := by
  refine kEnterR (cc := cX3_pieceOf) (maxL := 3) (ret := (some (.object "WhatToRead$Piece"))) (by decide) rfl (Nat.le_of_ble_eq_true rfl) ?_
  intro p e s m args below meth c hx hb hr hml hts hown hlk hK hP ls hl
  have hl : lv_has ls 3 [(0, .ref h0), (1, .int (nI k))] := hl
  have hw_f12 := hts (.fieldLink RX3 12 "WhatToRead$Shelf" "pieces" "Ljava/util/List;") (by decide +kernel)
  have hi_X3 : ∀ w ∈ wsX30, w ∈ wsX3_pieceOf := by decide +kernel
  have hw_c43 := hts (.classLink RX3 43 RX1) (by decide +kernel)
  refine lv_iload_n hx hb dX3_pieceOf_0 rfl (lv_at hl 1 rfl) ?_
  refine lv_iconst (v := 1) hx hb dX3_pieceOf_1 (by decide) ?_
  refine lv_ishr hx hb dX3_pieceOf_2 ?_
  refine lv_topi (fun nv_1 ev_1 => ?_)
  obtain rfl : nv_1 = nI (k / 2) := ev_1.trans (pk_shrN (by omega) _ 1 (by decide))
  refine lv_istore_n (lv' := [(2, .int (nI (k / 2))), (0, .ref h0), (1, .int (nI k))]) hx hb dX3_pieceOf_3 rfl hl (by decide) rfl (fun ls hl => ?_)
  refine lv_iload_n hx hb dX3_pieceOf_4 rfl (lv_at hl 0 rfl) ?_
  refine lv_if_lt (tgt := 37) hx hb dX3_pieceOf_5 (by decide) (fun c_5 => ?_) (fun c_5 => ?_)
  · exact absurd c_5 (nI_pos (by omega))
  · skip
    refine lv_iload_n hx hb dX3_pieceOf_8 rfl (lv_at hl 0 rfl) ?_
    refine lv_aload_n hx hb dX3_pieceOf_9 rfl (lv_at hl 1 rfl) ?_
    refine va_get (D := D) (ci := 4) (v := .ref la) (C := RX3) (T := TX3) (N := 2) hx hb hts hi_X3 hown hK.1 hP 0 rfl rfl 0 (by decide) hw_f12 (fun _ h9 => h9) rfl dX3_pieceOf_10 ?_
    refine kGo5R (va_runF (As := []) (rest := [.int (nI (k / 2))]) (kAt hK (ci := 0) rfl) ⟨hx, hb, hml, hown, hts⟩ (c_Jx4a65c_size_8abf5 l D cI cJ cZ cO la ea mo n ) (va_cwF 0 hts gX3_pieceOf_Jx4a65c_size_8abf5_f22Jx4a65c rfl rfl rfl hK.2.2.2.1 (by decide +kernel) ⟨Nat.le_of_ble_eq_true rfl, Nat.le_of_ble_eq_true rfl⟩) (kPreVR (ci := 0) (q0 := 0) hK (kPl_sub hP [1] rfl) rfl rfl rfl) rfl rfl hl.1 rfl (lv_room (Nat.le_of_ble_eq_true rfl)) dX3_pieceOf_13 ⟨Nat.le_of_ble_eq_true rfl, Nat.le_of_ble_eq_true rfl⟩) (fun v_2 hv_2 => ?_)
    obtain rfl := hv_2
    refine W.eq (g2 := F0 m 18 ls [.int (nI n), .int (nI (k / 2))]) rfl ?_
    refine lv_icmp_ge (tgt := 37) hx hb dX3_pieceOf_18 (by decide) (fun c_18 => ?_) (fun c_18 => ?_)
    · exact absurd c_18 ((not_congr (nI_leI (a := n) (b := k / 2) (by omega) (by omega))).mpr (by omega))
    · skip
      refine lv_aload_n hx hb dX3_pieceOf_21 rfl (lv_at hl 1 rfl) ?_
      refine va_get (D := D) (ci := 4) (v := .ref la) (C := RX3) (T := TX3) (N := 2) hx hb hts hi_X3 hown hK.1 hP 0 rfl rfl 0 (by decide) hw_f12 (fun _ h9 => h9) rfl dX3_pieceOf_22 ?_
      refine lv_iload_n hx hb dX3_pieceOf_25 rfl (lv_at hl 0 rfl) ?_
      obtain ⟨hH1, hH2, hH3, hH4⟩ := hH (by omega)
      obtain ⟨hE1, hE2, hE3⟩ := hE (k / 2) (by omega)
      refine kGo5R (va_runF (As := [.int (nI (k / 2))]) (rest := []) (kAt hK (ci := 0) rfl) ⟨hx, hb, hml, hown, hts⟩ (c_Jx4a65c_get_915e3 l D cI cJ cZ cO la ea mo n cap al (k / 2) (by omega) hH3 (by omega)) (va_cwF 1 hts gX3_pieceOf_Jx4a65c_get_915e3_f40Jx4a65c rfl rfl rfl hK.2.2.2.2.1 (by decide +kernel) ⟨Nat.le_of_ble_eq_true rfl, Nat.le_of_ble_eq_true rfl⟩) (kPreVR (ci := 0) (q0 := 0) hK (kList hP 1 rfl hH1 hH2) rfl rfl rfl) rfl rfl hl.1 rfl (lv_room (Nat.le_of_ble_eq_true rfl)) dX3_pieceOf_26 ⟨Nat.le_of_ble_eq_true rfl, Nat.le_of_ble_eq_true rfl⟩) (fun v_g hv_g => ?_)
      obtain rfl := hv_g
      rw [hE1]
      refine W.eq (g2 := F0 m 31 ls [.ref (ad (k / 2))]) rfl ?_
      have hpc := kPiece hP hE2 hE3
      refine va_castS hx hb hown hw_c43 (kAt hK (ci := 2) rfl) (va_recv hK.1 hpc (ci := 2) (q0 := 0) rfl rfl) dX3_pieceOf_31 ?_
      refine lv_goto (tgt := 38) hx hb dX3_pieceOf_34 (by decide) ?_
      exact kRetAr hx hb hr hlk dX3_pieceOf_38 (Or.inr ⟨_, rfl⟩) rfl

set_option maxHeartbeats 4000000 in
set_option maxRecDepth 100000 in
theorem c_X3_pieceOf_b (l : Launch) (D : va_G) (cI cJ cZ cO : ClassId) (h0 : Nat) (la : Nat) (ea : Nat) (pc : Int32) (mo : Int32) (n : Nat) (al : Nat → Option Nat) (cap : Nat) (LP : List Nat) (pf : Nat → va_E) (ad : Nat → Nat) (ne : Nat → Int32) (ei : Nat → Int32) (gv : Nat → Int32) (sk : Nat → Int32) (pg : Nat → Int32) (x : Int32) (hn : n ≤ 14) (hH : shH cO n ea cap al LP pf) (hE : shE n al LP pf ad ne ei gv sk pg) (hs : x >>> (1 &&& 31) < 0 ∨ nI n ≤ x >>> (1 &&& 31)) : kR l D (kTY cI cJ cZ cO) yX3_pieceOf wsX3_pieceOf 3 64 [.ref h0, .int x] ([(h0, .inr (4, [.ref la, .int pc])), (la, .inr (0, [.int mo, .ref ea, .int (nI n)]))] ++ va_pl LP pf) (fun rv_ => rv_ = some (.null)) := by
  refine kEnterR (cc := cX3_pieceOf) (maxL := 3) (ret := (some (.object "WhatToRead$Piece"))) (by decide) rfl (Nat.le_of_ble_eq_true rfl) ?_
  intro p e s m args below meth c hx hb hr hml hts hown hlk hK hP ls hl
  have hl : lv_has ls 3 [(0, .ref h0), (1, .int x)] := hl
  have hw_f12 := hts (.fieldLink RX3 12 "WhatToRead$Shelf" "pieces" "Ljava/util/List;") (by decide +kernel)
  have hi_X3 : ∀ w ∈ wsX30, w ∈ wsX3_pieceOf := by decide +kernel
  refine lv_iload_n hx hb dX3_pieceOf_0 rfl (lv_at hl 1 rfl) ?_
  refine lv_iconst (v := 1) hx hb dX3_pieceOf_1 (by decide) ?_
  refine lv_ishr hx hb dX3_pieceOf_2 ?_
  refine lv_istore_n (lv' := [(2, .int (x >>> (1 &&& 31))), (0, .ref h0), (1, .int x)]) hx hb dX3_pieceOf_3 rfl hl (by decide) rfl (fun ls hl => ?_)
  refine lv_iload_n hx hb dX3_pieceOf_4 rfl (lv_at hl 0 rfl) ?_
  refine lv_if_lt (tgt := 37) hx hb dX3_pieceOf_5 (by decide) (fun c_5 => ?_) (fun c_5 => ?_)
  · skip
    refine lv_null hx hb dX3_pieceOf_37 ?_
    exact kRetAr hx hb hr hlk dX3_pieceOf_38 (Or.inl rfl) rfl
  · skip
    refine lv_iload_n hx hb dX3_pieceOf_8 rfl (lv_at hl 0 rfl) ?_
    refine lv_aload_n hx hb dX3_pieceOf_9 rfl (lv_at hl 1 rfl) ?_
    refine va_get (D := D) (ci := 4) (v := .ref la) (C := RX3) (T := TX3) (N := 2) hx hb hts hi_X3 hown hK.1 hP 0 rfl rfl 0 (by decide) hw_f12 (fun _ h9 => h9) rfl dX3_pieceOf_10 ?_
    refine kGo5R (va_runF (As := []) (rest := [.int (x >>> (1 &&& 31))]) (kAt hK (ci := 0) rfl) ⟨hx, hb, hml, hown, hts⟩ (c_Jx4a65c_size_8abf5 l D cI cJ cZ cO la ea mo n ) (va_cwF 0 hts gX3_pieceOf_Jx4a65c_size_8abf5_f22Jx4a65c rfl rfl rfl hK.2.2.2.1 (by decide +kernel) ⟨Nat.le_of_ble_eq_true rfl, Nat.le_of_ble_eq_true rfl⟩) (kPreVR (ci := 0) (q0 := 0) hK (kPl_sub hP [1] rfl) rfl rfl rfl) rfl rfl hl.1 rfl (lv_room (Nat.le_of_ble_eq_true rfl)) dX3_pieceOf_13 ⟨Nat.le_of_ble_eq_true rfl, Nat.le_of_ble_eq_true rfl⟩) (fun v_1 hv_1 => ?_)
    obtain rfl := hv_1
    refine W.eq (g2 := F0 m 18 ls [.int (nI n), .int (x >>> (1 &&& 31))]) rfl ?_
    refine lv_icmp_ge (tgt := 37) hx hb dX3_pieceOf_18 (by decide) (fun c_18 => ?_) (fun c_18 => ?_)
    · skip
      refine lv_null hx hb dX3_pieceOf_37 ?_
      exact kRetAr hx hb hr hlk dX3_pieceOf_38 (Or.inl rfl) rfl
    · skip
      exact absurd hs (by simp [c_5, c_18])

set_option maxHeartbeats 4000000 in
set_option maxRecDepth 100000 in
theorem c_X3_minutesOf_a (l : Launch) (D : va_G) (cI cJ cZ cO : ClassId) (h0 : Nat) (la : Nat) (ea : Nat) (pc : Int32) (mo : Int32) (n : Nat) (al : Nat → Option Nat) (cap : Nat) (LP : List Nat) (pf : Nat → va_E) (ad : Nat → Nat) (ne : Nat → Int32) (ei : Nat → Int32) (gv : Nat → Int32) (sk : Nat → Int32) (pg : Nat → Int32) (k : Nat) (hn : n ≤ 14) (hH : shH cO n ea cap al LP pf) (hE : shE n al LP pf ad ne ei gv sk pg) (hk : k < 2 * n) : kR l D (kTY cI cJ cZ cO) yX3_minutesOf wsX3_minutesOf 4 86 [.ref h0, .int (nI k)] ([(h0, .inr (4, [.ref la, .int pc])), (la, .inr (0, [.int mo, .ref ea, .int (nI n)]))] ++ va_pl LP pf) (fun rv_ => rv_ = some (.int (timeF (pg (k / 2)) pc (decide (nI k &&& 1 = 1))))) := by
  refine kEnterR (cc := cX3_minutesOf) (maxL := 3) (ret := (some .int)) (by decide) rfl (Nat.le_of_ble_eq_true rfl) ?_
  intro p e s m args below meth c hx hb hr hml hts hown hlk hK hP ls hl
  have hl : lv_has ls 3 [(0, .ref h0), (1, .int (nI k))] := hl
  have hw_f18 := hts (.fieldLink RX3 18 "WhatToRead$Shelf" "pace" "I") (by decide +kernel)
  have hi_X3 : ∀ w ∈ wsX30, w ∈ wsX3_minutesOf := by decide +kernel
  have hw_iX7 := hts (.initialized RX7) (by decide +kernel)
  have hw_s_X7_isSkimmed := hts (.static yX7_isSkimmed) (by decide +kernel)
  refine lv_aload_n hx hb dX3_minutesOf_0 rfl (lv_at hl 0 rfl) ?_
  refine lv_iload_n hx hb dX3_minutesOf_1 rfl (lv_at hl 1 rfl) ?_
  refine kGoR (va_runV (As := [.int (nI k)]) (rest := []) ⟨hx, hb, hml, hown, hts⟩ (c_X3_pieceOf_a l D cI cJ cZ cO h0 la ea pc mo n al cap LP pf ad ne ei gv sk pg k (by first | assumption | omega | decide) (by first | assumption | omega | decide) (by first | assumption | omega | decide) (by first | assumption | omega | decide)) (cwV 1 hts gX3_minutesOf_X3_pieceOf rfl rfl rfl (by decide +kernel) ⟨Nat.le_of_ble_eq_true rfl, Nat.le_of_ble_eq_true rfl⟩) (kPreVR (ci := 4) (q0 := 0) hK (hP.part [0, 1] rfl) rfl rfl rfl) rfl rfl hl.1 rfl (lv_room (Nat.le_of_ble_eq_true rfl)) dX3_minutesOf_2 ⟨Nat.le_of_ble_eq_true rfl, Nat.le_of_ble_eq_true rfl⟩) (fun v_1 hv_1 => ?_)
  obtain rfl := hv_1
  refine W.eq (g2 := F0 m 5 ls [.ref (ad (k / 2))]) rfl ?_
  refine lv_astore_n (lv' := [(2, .ref (ad (k / 2))), (0, .ref h0), (1, .int (nI k))]) hx hb dX3_minutesOf_5 rfl hl (by decide) rfl (fun ls hl => ?_)
  refine lv_aload_n hx hb dX3_minutesOf_6 rfl (lv_at hl 0 rfl) ?_
  refine lv_ifnonnull (tgt := 14) hx hb dX3_minutesOf_7 (by decide) ?_
  refine lv_aload_n hx hb dX3_minutesOf_14 rfl (lv_at hl 0 rfl) ?_
  refine lv_aload_n hx hb dX3_minutesOf_15 rfl (lv_at hl 1 rfl) ?_
  refine va_get (D := D) (ci := 4) (v := .int pc) (C := RX3) (T := TX3) (N := 2) hx hb hts hi_X3 hown hK.1 hP 0 rfl rfl 1 (by decide) hw_f18 (fun _ h9 => h9) rfl dX3_minutesOf_16 ?_
  refine lv_iload_n hx hb dX3_minutesOf_19 rfl (lv_at hl 2 rfl) ?_
  refine kGoR (va_runSN (As := [.int (nI k)]) (rest := [.int pc, .ref (ad (k / 2))]) ⟨hx, hb, hml, hown, hts⟩ (c_X7_isSkimmed l D cI cJ cZ cO (nI k) ) ⟨va_cnB 1 hts gX3_minutesOf_X7_isSkimmed_n49 rfl rfl rfl hK.2.1 hw_iX7 (by decide +kernel) ⟨Nat.le_of_ble_eq_true rfl, Nat.le_of_ble_eq_true rfl⟩, hw_s_X7_isSkimmed, trivial⟩ (kPreSR hK (kPc_sub hP [] rfl)) rfl rfl hl.1 rfl (lv_room (Nat.le_of_ble_eq_true rfl)) dX3_minutesOf_20 ⟨Nat.le_of_ble_eq_true rfl, Nat.le_of_ble_eq_true rfl⟩) (fun v_2 hv_2 => ?_)
  obtain rfl := hv_2
  refine W.eq (g2 := F0 m 23 ls [.int (k01 (decide ((nI k) &&& 1 = 1))), .int pc, .ref (ad (k / 2))]) rfl ?_
  refine kGoR (va_runV (As := [.int pc, .int (k01 (decide ((nI k) &&& 1 = 1)))]) (rest := []) ⟨hx, hb, hml, hown, hts⟩ (c_X1_minutesAt l D cI cJ cZ cO (ad (k / 2)) (ne (k / 2)) (ei (k / 2)) (gv (k / 2)) (sk (k / 2)) (pg (k / 2)) pc (decide ((nI k) &&& 1 = 1))) (cwV 2 hts gX3_minutesOf_X1_minutesAt rfl rfl rfl (by decide +kernel) ⟨Nat.le_of_ble_eq_true rfl, Nat.le_of_ble_eq_true rfl⟩) (kPreVR (ci := 2) (q0 := 0) hK (kPiece hP (hE (k / 2) (by omega)).2.1 (hE (k / 2) (by omega)).2.2) rfl rfl rfl) rfl rfl hl.1 rfl (lv_room (Nat.le_of_ble_eq_true rfl)) dX3_minutesOf_23 ⟨Nat.le_of_ble_eq_true rfl, Nat.le_of_ble_eq_true rfl⟩) (fun v_p hv_p => ?_)
  obtain rfl := hv_p
  refine W.eq (g2 := F0 m 26 ls [.int (timeF (pg (k / 2)) pc (decide ((nI k) &&& 1 = 1)))]) rfl ?_
  exact kRetIr hx hb hr hlk dX3_minutesOf_26 (kpi (by first | rfl | (rw [ex, e12]; done) | (rw [em, e12]; done) | (rw [ey, e12]; done) | (rw [e12]; done) | (simp []; done) | (simp_all []; done)))

set_option maxHeartbeats 4000000 in
set_option maxRecDepth 100000 in
theorem c_X3_minutesOf_b (l : Launch) (D : va_G) (cI cJ cZ cO : ClassId) (h0 : Nat) (la : Nat) (ea : Nat) (pc : Int32) (mo : Int32) (n : Nat) (al : Nat → Option Nat) (cap : Nat) (LP : List Nat) (pf : Nat → va_E) (ad : Nat → Nat) (ne : Nat → Int32) (ei : Nat → Int32) (gv : Nat → Int32) (sk : Nat → Int32) (pg : Nat → Int32) (x : Int32) (hn : n ≤ 14) (hH : shH cO n ea cap al LP pf) (hE : shE n al LP pf ad ne ei gv sk pg) (hs : x >>> (1 &&& 31) < 0 ∨ nI n ≤ x >>> (1 &&& 31)) : kR l D (kTY cI cJ cZ cO) yX3_minutesOf wsX3_minutesOf 4 86 [.ref h0, .int x] ([(h0, .inr (4, [.ref la, .int pc])), (la, .inr (0, [.int mo, .ref ea, .int (nI n)]))] ++ va_pl LP pf) (fun rv_ => rv_ = some (.int (-1))) := by
  refine kEnterR (cc := cX3_minutesOf) (maxL := 3) (ret := (some .int)) (by decide) rfl (Nat.le_of_ble_eq_true rfl) ?_
  intro p e s m args below meth c hx hb hr hml hts hown hlk hK hP ls hl
  have hl : lv_has ls 3 [(0, .ref h0), (1, .int x)] := hl
  refine lv_aload_n hx hb dX3_minutesOf_0 rfl (lv_at hl 0 rfl) ?_
  refine lv_iload_n hx hb dX3_minutesOf_1 rfl (lv_at hl 1 rfl) ?_
  refine kGoR (va_runV (As := [.int x]) (rest := []) ⟨hx, hb, hml, hown, hts⟩ (c_X3_pieceOf_b l D cI cJ cZ cO h0 la ea pc mo n al cap LP pf ad ne ei gv sk pg x (by first | assumption | omega | decide) (by first | assumption | omega | decide) (by first | assumption | omega | decide) (by first | assumption | omega | decide)) (cwV 1 hts gX3_minutesOf_X3_pieceOf rfl rfl rfl (by decide +kernel) ⟨Nat.le_of_ble_eq_true rfl, Nat.le_of_ble_eq_true rfl⟩) (kPreVR (ci := 4) (q0 := 0) hK (hP.part [0, 1] rfl) rfl rfl rfl) rfl rfl hl.1 rfl (lv_room (Nat.le_of_ble_eq_true rfl)) dX3_minutesOf_2 ⟨Nat.le_of_ble_eq_true rfl, Nat.le_of_ble_eq_true rfl⟩) (fun v_1 hv_1 => ?_)
  obtain rfl := hv_1
  refine W.eq (g2 := F0 m 5 ls [.null]) rfl ?_
  refine kAstoreN_n (lv' := [(2, .null), (0, .ref h0), (1, .int x)]) hx hb dX3_minutesOf_5 rfl hl (by decide) rfl (fun ls hl => ?_)
  refine kAloadN_n hx hb dX3_minutesOf_6 rfl (lv_at hl 0 rfl) ?_
  refine kIfnonnullN hx hb dX3_minutesOf_7 ?_
  refine lv_iconst (v := (-1)) hx hb dX3_minutesOf_10 (by decide) ?_
  refine lv_goto (tgt := 26) hx hb dX3_minutesOf_11 (by decide) ?_
  exact kRetIr hx hb hr hlk dX3_minutesOf_26 rfl

set_option maxHeartbeats 4000000 in
set_option maxRecDepth 100000 in
theorem c_X3_readAllOpenTo (l : Launch) (D : va_G) (cI cJ cZ cO : ClassId) (h0 : Nat) (la : Nat) (ea : Nat) (pc : Int32) (mo : Int32) (n : Nat) (al : Nat → Option Nat) (cap : Nat) (LP : List Nat) (pf : Nat → va_E) (ad : Nat → Nat) (ne : Nat → Int32) (ei : Nat → Int32) (gv : Nat → Int32) (sk : Nat → Int32) (pg : Nat → Int32) (k : Int32) (hn : n ≤ 14) (hH : shH cO n ea cap al LP pf) (hE : shE n al LP pf ad ne ei gv sk pg) : kR l D (kTY cI cJ cZ cO) yX3_readAllOpenTo wsX3_readAllOpenTo 3 64 [.ref h0, .int k] ([(h0, .inr (4, [.ref la, .int pc])), (la, .inr (0, [.int mo, .ref ea, .int (nI n)]))] ++ va_pl LP pf) (fun rv_ => rv_ = some (.int (readF ne ei gv k n))) := by
  refine kEnterR (cc := cX3_readAllOpenTo) (maxL := 5) (ret := (some .int)) (by decide) rfl (Nat.le_of_ble_eq_true rfl) ?_
  intro p e s m args below meth c hx hb hr hml hts hown hlk hK hP ls hl
  have hl : lv_has ls 5 [(0, .ref h0), (1, .int k)] := hl
  have hw_f12 := hts (.fieldLink RX3 12 "WhatToRead$Shelf" "pieces" "Ljava/util/List;") (by decide +kernel)
  have hi_X3 : ∀ w ∈ wsX30, w ∈ wsX3_readAllOpenTo := by decide +kernel
  have hw_c43 := hts (.classLink RX3 43 RX1) (by decide +kernel)
  refine lv_iload_n hx hb dX3_readAllOpenTo_0 rfl (lv_at hl 1 rfl) ?_
  refine lv_istore_n (lv' := [(2, .int k), (0, .ref h0), (1, .int k)]) hx hb dX3_readAllOpenTo_1 rfl hl (by decide) rfl (fun ls hl => ?_)
  refine lv_iconst (v := 0) hx hb dX3_readAllOpenTo_2 (by decide) ?_
  refine lv_istore_n (lv' := [(3, .int 0), (2, .int k), (0, .ref h0), (1, .int k)]) hx hb dX3_readAllOpenTo_3 rfl hl (by decide) rfl (fun ls hl => ?_)
  have hloop_4 : ∀ (fu : Nat) (i : Nat) (x : Int32), n - i < fu → i ≤ n → x = readF ne ei gv k i → ∀ ls : Array Slot, lv_has ls 5 [(0, .ref h0), (1, .int k), (2, .int x), (3, .int (nI i))] → W p l e ({ frames := 3, cells := 0, slots := 0, locals := 64 }) s m args below meth c s.heap [] 0 0 (MQ below (kQr (fun rv_ => rv_ = some (.int (readF ne ei gv k n)))) args s 0 0 (fun _ => False)) (F0 m 4 ls []) := by
    intro fu
    induction fu with
    | zero => intro i x hmu; exact absurd hmu (Nat.not_lt_zero _)
    | succ fu ih_4 =>
      intro i x hmu_4 hi ex ls hl
      refine lv_iload_n hx hb dX3_readAllOpenTo_4 rfl (lv_at hl 3 rfl) ?_
      refine lv_aload_n hx hb dX3_readAllOpenTo_5 rfl (lv_at hl 0 rfl) ?_
      refine va_get (D := D) (ci := 4) (v := .ref la) (C := RX3) (T := TX3) (N := 2) hx hb hts hi_X3 hown hK.1 hP 0 rfl rfl 0 (by decide) hw_f12 (fun _ h9 => h9) rfl dX3_readAllOpenTo_6 ?_
      refine kGo5R (va_runF (As := []) (rest := [.int (nI i)]) (kAt hK (ci := 0) rfl) ⟨hx, hb, hml, hown, hts⟩ (c_Jx4a65c_size_8abf5 l D cI cJ cZ cO la ea mo n ) (va_cwF 0 hts gX3_readAllOpenTo_Jx4a65c_size_8abf5_f22Jx4a65c rfl rfl rfl hK.2.2.2.1 (by decide +kernel) ⟨Nat.le_of_ble_eq_true rfl, Nat.le_of_ble_eq_true rfl⟩) (kPreVR (ci := 0) (q0 := 0) hK (kPl_sub hP [1] rfl) rfl rfl rfl) rfl rfl hl.1 rfl (lv_room (Nat.le_of_ble_eq_true rfl)) dX3_readAllOpenTo_9 ⟨Nat.le_of_ble_eq_true rfl, Nat.le_of_ble_eq_true rfl⟩) (fun v_1 hv_1 => ?_)
      obtain rfl := hv_1
      refine W.eq (g2 := F0 m 14 ls [.int (nI n), .int (nI i)]) rfl ?_
      refine lv_icmp_ge (tgt := 56) hx hb dX3_readAllOpenTo_14 (by decide) (fun c_14 => ?_) (fun c_14 => ?_)
      · skip
        have nc_14 : n ≤ i := (nI_leI (a := n) (b := i) (by omega) (by omega)).mp c_14
        have e12 : n = i := by omega
        subst e12
        refine lv_iload_n hx hb dX3_readAllOpenTo_56 rfl (lv_at hl 2 rfl) ?_
        exact kRetIr hx hb hr hlk dX3_readAllOpenTo_57 (kpi (by exact ex))
      · skip
        have nc_14 : ¬ n ≤ i := (not_congr (nI_leI (a := n) (b := i) (by omega) (by omega))).mp c_14
        refine lv_aload_n hx hb dX3_readAllOpenTo_17 rfl (lv_at hl 0 rfl) ?_
        refine va_get (D := D) (ci := 4) (v := .ref la) (C := RX3) (T := TX3) (N := 2) hx hb hts hi_X3 hown hK.1 hP 0 rfl rfl 0 (by decide) hw_f12 (fun _ h9 => h9) rfl dX3_readAllOpenTo_18 ?_
        refine lv_iload_n hx hb dX3_readAllOpenTo_21 rfl (lv_at hl 3 rfl) ?_
        obtain ⟨hH1, hH2, hH3, hH4⟩ := hH (by omega)
        obtain ⟨hE1, hE2, hE3⟩ := hE i (by omega)
        refine kGo5R (va_runF (As := [.int (nI i)]) (rest := []) (kAt hK (ci := 0) rfl) ⟨hx, hb, hml, hown, hts⟩ (c_Jx4a65c_get_915e3 l D cI cJ cZ cO la ea mo n cap al i (by omega) hH3 (by omega)) (va_cwF 1 hts gX3_readAllOpenTo_Jx4a65c_get_915e3_f40Jx4a65c rfl rfl rfl hK.2.2.2.2.1 (by decide +kernel) ⟨Nat.le_of_ble_eq_true rfl, Nat.le_of_ble_eq_true rfl⟩) (kPreVR (ci := 0) (q0 := 0) hK (kList hP 1 rfl hH1 hH2) rfl rfl rfl) rfl rfl hl.1 rfl (lv_room (Nat.le_of_ble_eq_true rfl)) dX3_readAllOpenTo_22 ⟨Nat.le_of_ble_eq_true rfl, Nat.le_of_ble_eq_true rfl⟩) (fun v_g hv_g => ?_)
        obtain rfl := hv_g
        rw [hE1]
        refine W.eq (g2 := F0 m 27 ls [.ref (ad i)]) rfl ?_
        have hpc := kPiece hP hE2 hE3
        refine va_castS hx hb hown hw_c43 (kAt hK (ci := 2) rfl) (va_recv hK.1 hpc (ci := 2) (q0 := 0) rfl rfl) dX3_readAllOpenTo_27 ?_
        refine lv_astore (lv' := [(4, .ref (ad i)), (0, .ref h0), (1, .int k), (2, .int x), (3, .int (nI i))]) hx hb dX3_readAllOpenTo_30 hl (by decide) rfl (fun ls hl => ?_)
        refine lv_aload hx hb dX3_readAllOpenTo_32 (lv_at hl 0 rfl) ?_
        refine lv_iload_n hx hb dX3_readAllOpenTo_34 rfl (lv_at hl 3 rfl) ?_
        refine kGoR (va_runV (As := [.int x]) (rest := []) ⟨hx, hb, hml, hown, hts⟩ (c_X1_isOpenTo l D cI cJ cZ cO (ad i) (ne i) (ei i) (gv i) (sk i) (pg i) x) (cwV 1 hts gX3_readAllOpenTo_X1_isOpenTo rfl rfl rfl (by decide +kernel) ⟨Nat.le_of_ble_eq_true rfl, Nat.le_of_ble_eq_true rfl⟩) (kPreVR (ci := 2) (q0 := 0) hK (kPiece hP (hE i (by omega)).2.1 (hE i (by omega)).2.2) rfl rfl rfl) rfl rfl hl.1 rfl (lv_room (Nat.le_of_ble_eq_true rfl)) dX3_readAllOpenTo_35 ⟨Nat.le_of_ble_eq_true rfl, Nat.le_of_ble_eq_true rfl⟩) (fun v_p hv_p => ?_)
        obtain rfl := hv_p
        refine W.eq (g2 := F0 m 38 ls [.int (k01 (openB (ne i) (ei i) x))]) rfl ?_
        refine lv_if_eq (tgt := 50) hx hb dX3_readAllOpenTo_38 (by decide) (fun c_38 => ?_) (fun c_38 => ?_)
        · skip
          have c_38 := k01_z c_38
          refine lv_iinc (v := nI (i + 1)) (lv' := [(3, .int (nI (i + 1))), (4, .ref (ad i)), (0, .ref h0), (1, .int k), (2, .int x)]) hx hb dX3_readAllOpenTo_50 hl (k := 4) rfl (nI_1 _) (by decide) rfl (fun ls hl => ?_)
          refine lv_goto (tgt := 4) hx hb dX3_readAllOpenTo_53 (by decide) ?_
          exact ih_4  (i + 1) x (by omega) (by first | omega | assumption) (by rw [ex]; rw [ex] at c_38; simp [readF, c_38]) _ (lv_sub hl [2, 3, 4, 0] rfl)
        · skip
          have c_38 := k01_n c_38
          refine lv_iload_n hx hb dX3_readAllOpenTo_41 rfl (lv_at hl 3 rfl) ?_
          refine lv_aload hx hb dX3_readAllOpenTo_42 (lv_at hl 0 rfl) ?_
          refine lv_iconst (v := 0) hx hb dX3_readAllOpenTo_44 (by decide) ?_
          refine kGoR (va_runV (As := [.int 0]) (rest := [.int x]) ⟨hx, hb, hml, hown, hts⟩ (c_X1_brings l D cI cJ cZ cO (ad i) (ne i) (ei i) (gv i) (sk i) (pg i) false) (cwV 1 hts gX3_readAllOpenTo_X1_brings rfl rfl rfl (by decide +kernel) ⟨Nat.le_of_ble_eq_true rfl, Nat.le_of_ble_eq_true rfl⟩) (kPreVR (ci := 2) (q0 := 0) hK (kPiece hP (hE i (by omega)).2.1 (hE i (by omega)).2.2) rfl rfl rfl) rfl rfl hl.1 rfl (lv_room (Nat.le_of_ble_eq_true rfl)) dX3_readAllOpenTo_45 ⟨Nat.le_of_ble_eq_true rfl, Nat.le_of_ble_eq_true rfl⟩) (fun v_p hv_p => ?_)
          obtain rfl := hv_p
          refine W.eq (g2 := F0 m 48 ls [.int (if false then (sk i) else (gv i)), .int x]) rfl ?_
          refine lv_ior hx hb dX3_readAllOpenTo_48 ?_
          refine lv_istore_n (lv' := [(2, .int (x ||| (if false then (sk i) else (gv i)))), (4, .ref (ad i)), (0, .ref h0), (1, .int k), (3, .int (nI i))]) hx hb dX3_readAllOpenTo_49 rfl hl (by decide) rfl (fun ls hl => ?_)
          refine lv_iinc (v := nI (i + 1)) (lv' := [(3, .int (nI (i + 1))), (2, .int (x ||| (if false then (sk i) else (gv i)))), (4, .ref (ad i)), (0, .ref h0), (1, .int k)]) hx hb dX3_readAllOpenTo_50 hl (k := 4) rfl (nI_1 _) (by decide) rfl (fun ls hl => ?_)
          refine lv_goto (tgt := 4) hx hb dX3_readAllOpenTo_53 (by decide) ?_
          exact ih_4  (i + 1) (x ||| (if false then (sk i) else (gv i))) (by omega) (by first | omega | assumption) (by rw [ex]; rw [ex] at c_38; simp [readF, c_38]) _ (lv_sub hl [3, 4, 1, 0] rfl)
  exact hloop_4 ((n - 0) + 1) 0 k (Nat.lt_succ_self _) (by first | omega | assumption) (by rfl) _ (lv_sub hl [2, 3, 1, 0] rfl)

set_option maxHeartbeats 4000000 in
set_option maxRecDepth 100000 in
theorem c_X3_allNeeded (l : Launch) (D : va_G) (cI cJ cZ cO : ClassId) (h0 : Nat) (la : Nat) (ea : Nat) (pc : Int32) (mo : Int32) (n : Nat) (al : Nat → Option Nat) (cap : Nat) (LP : List Nat) (pf : Nat → va_E) (ad : Nat → Nat) (ne : Nat → Int32) (ei : Nat → Int32) (gv : Nat → Int32) (sk : Nat → Int32) (pg : Nat → Int32) (hn : n ≤ 14) (hH : shH cO n ea cap al LP pf) (hE : shE n al LP pf ad ne ei gv sk pg) : kR l D (kTY cI cJ cZ cO) yX3_allNeeded wsX3_allNeeded 3 64 [.ref h0] ([(h0, .inr (4, [.ref la, .int pc])), (la, .inr (0, [.int mo, .ref ea, .int (nI n)]))] ++ va_pl LP pf) (fun rv_ => rv_ = some (.int (neededF ne n))) := by
  refine kEnterR (cc := cX3_allNeeded) (maxL := 3) (ret := (some .int)) (by decide) rfl (Nat.le_of_ble_eq_true rfl) ?_
  intro p e s m args below meth c hx hb hr hml hts hown hlk hK hP ls hl
  have hl : lv_has ls 3 [(0, .ref h0)] := hl
  have hw_f12 := hts (.fieldLink RX3 12 "WhatToRead$Shelf" "pieces" "Ljava/util/List;") (by decide +kernel)
  have hi_X3 : ∀ w ∈ wsX30, w ∈ wsX3_allNeeded := by decide +kernel
  have hw_c43 := hts (.classLink RX3 43 RX1) (by decide +kernel)
  refine lv_iconst (v := 0) hx hb dX3_allNeeded_0 (by decide) ?_
  refine lv_istore_n (lv' := [(1, .int 0), (0, .ref h0)]) hx hb dX3_allNeeded_1 rfl hl (by decide) rfl (fun ls hl => ?_)
  refine lv_iconst (v := 0) hx hb dX3_allNeeded_2 (by decide) ?_
  refine lv_istore_n (lv' := [(2, .int 0), (1, .int 0), (0, .ref h0)]) hx hb dX3_allNeeded_3 rfl hl (by decide) rfl (fun ls hl => ?_)
  have hloop_4 : ∀ (fu : Nat) (i : Nat) (x : Int32), n - i < fu → i ≤ n → x = neededF ne i → ∀ ls : Array Slot, lv_has ls 3 [(0, .ref h0), (1, .int x), (2, .int (nI i))] → W p l e ({ frames := 3, cells := 0, slots := 0, locals := 64 }) s m args below meth c s.heap [] 0 0 (MQ below (kQr (fun rv_ => rv_ = some (.int (neededF ne n)))) args s 0 0 (fun _ => False)) (F0 m 4 ls []) := by
    intro fu
    induction fu with
    | zero => intro i x hmu; exact absurd hmu (Nat.not_lt_zero _)
    | succ fu ih_4 =>
      intro i x hmu_4 hi ex ls hl
      refine lv_iload_n hx hb dX3_allNeeded_4 rfl (lv_at hl 2 rfl) ?_
      refine lv_aload_n hx hb dX3_allNeeded_5 rfl (lv_at hl 0 rfl) ?_
      refine va_get (D := D) (ci := 4) (v := .ref la) (C := RX3) (T := TX3) (N := 2) hx hb hts hi_X3 hown hK.1 hP 0 rfl rfl 0 (by decide) hw_f12 (fun _ h9 => h9) rfl dX3_allNeeded_6 ?_
      refine kGo5R (va_runF (As := []) (rest := [.int (nI i)]) (kAt hK (ci := 0) rfl) ⟨hx, hb, hml, hown, hts⟩ (c_Jx4a65c_size_8abf5 l D cI cJ cZ cO la ea mo n ) (va_cwF 0 hts gX3_allNeeded_Jx4a65c_size_8abf5_f22Jx4a65c rfl rfl rfl hK.2.2.2.1 (by decide +kernel) ⟨Nat.le_of_ble_eq_true rfl, Nat.le_of_ble_eq_true rfl⟩) (kPreVR (ci := 0) (q0 := 0) hK (kPl_sub hP [1] rfl) rfl rfl rfl) rfl rfl hl.1 rfl (lv_room (Nat.le_of_ble_eq_true rfl)) dX3_allNeeded_9 ⟨Nat.le_of_ble_eq_true rfl, Nat.le_of_ble_eq_true rfl⟩) (fun v_1 hv_1 => ?_)
      obtain rfl := hv_1
      refine W.eq (g2 := F0 m 14 ls [.int (nI n), .int (nI i)]) rfl ?_
      refine lv_icmp_ge (tgt := 42) hx hb dX3_allNeeded_14 (by decide) (fun c_14 => ?_) (fun c_14 => ?_)
      · skip
        have nc_14 : n ≤ i := (nI_leI (a := n) (b := i) (by omega) (by omega)).mp c_14
        have e12 : n = i := by omega
        subst e12
        refine lv_iload_n hx hb dX3_allNeeded_42 rfl (lv_at hl 1 rfl) ?_
        exact kRetIr hx hb hr hlk dX3_allNeeded_43 (kpi (by exact ex))
      · skip
        have nc_14 : ¬ n ≤ i := (not_congr (nI_leI (a := n) (b := i) (by omega) (by omega))).mp c_14
        refine lv_iload_n hx hb dX3_allNeeded_17 rfl (lv_at hl 1 rfl) ?_
        refine lv_aload_n hx hb dX3_allNeeded_18 rfl (lv_at hl 0 rfl) ?_
        refine va_get (D := D) (ci := 4) (v := .ref la) (C := RX3) (T := TX3) (N := 2) hx hb hts hi_X3 hown hK.1 hP 0 rfl rfl 0 (by decide) hw_f12 (fun _ h9 => h9) rfl dX3_allNeeded_19 ?_
        refine lv_iload_n hx hb dX3_allNeeded_22 rfl (lv_at hl 2 rfl) ?_
        obtain ⟨hH1, hH2, hH3, hH4⟩ := hH (by omega)
        obtain ⟨hE1, hE2, hE3⟩ := hE i (by omega)
        refine kGo5R (va_runF (As := [.int (nI i)]) (rest := [.int x]) (kAt hK (ci := 0) rfl) ⟨hx, hb, hml, hown, hts⟩ (c_Jx4a65c_get_915e3 l D cI cJ cZ cO la ea mo n cap al i (by omega) hH3 (by omega)) (va_cwF 1 hts gX3_allNeeded_Jx4a65c_get_915e3_f40Jx4a65c rfl rfl rfl hK.2.2.2.2.1 (by decide +kernel) ⟨Nat.le_of_ble_eq_true rfl, Nat.le_of_ble_eq_true rfl⟩) (kPreVR (ci := 0) (q0 := 0) hK (kList hP 1 rfl hH1 hH2) rfl rfl rfl) rfl rfl hl.1 rfl (lv_room (Nat.le_of_ble_eq_true rfl)) dX3_allNeeded_23 ⟨Nat.le_of_ble_eq_true rfl, Nat.le_of_ble_eq_true rfl⟩) (fun v_g hv_g => ?_)
        obtain rfl := hv_g
        rw [hE1]
        refine W.eq (g2 := F0 m 28 ls [.ref (ad i), .int x]) rfl ?_
        have hpc := kPiece hP hE2 hE3
        refine va_castS hx hb hown hw_c43 (kAt hK (ci := 2) rfl) (va_recv hK.1 hpc (ci := 2) (q0 := 0) rfl rfl) dX3_allNeeded_28 ?_
        refine kGoR (va_runV (As := []) (rest := [.int x]) ⟨hx, hb, hml, hown, hts⟩ (c_X1_needed l D cI cJ cZ cO (ad i) (ne i) (ei i) (gv i) (sk i) (pg i) ) (cwV 0 hts gX3_allNeeded_X1_needed rfl rfl rfl (by decide +kernel) ⟨Nat.le_of_ble_eq_true rfl, Nat.le_of_ble_eq_true rfl⟩) (kPreVR (ci := 2) (q0 := 0) hK (kPiece hP (hE i (by omega)).2.1 (hE i (by omega)).2.2) rfl rfl rfl) rfl rfl hl.1 rfl (lv_room (Nat.le_of_ble_eq_true rfl)) dX3_allNeeded_31 ⟨Nat.le_of_ble_eq_true rfl, Nat.le_of_ble_eq_true rfl⟩) (fun v_p hv_p => ?_)
        obtain rfl := hv_p
        refine W.eq (g2 := F0 m 34 ls [.int (ne i), .int x]) rfl ?_
        refine lv_ior hx hb dX3_allNeeded_34 ?_
        refine lv_istore_n (lv' := [(1, .int (x ||| (ne i))), (0, .ref h0), (2, .int (nI i))]) hx hb dX3_allNeeded_35 rfl hl (by decide) rfl (fun ls hl => ?_)
        refine lv_iinc (v := nI (i + 1)) (lv' := [(2, .int (nI (i + 1))), (1, .int (x ||| (ne i))), (0, .ref h0)]) hx hb dX3_allNeeded_36 hl (k := 2) rfl (nI_1 _) (by decide) rfl (fun ls hl => ?_)
        refine lv_goto (tgt := 4) hx hb dX3_allNeeded_39 (by decide) ?_
        exact ih_4  (i + 1) (x ||| (ne i)) (by omega) (by first | omega | assumption) (by rw [ex]; rfl) _ (lv_sub hl [2, 1, 0] rfl)
  exact hloop_4 ((n - 0) + 1) 0 0 (Nat.lt_succ_self _) (by first | omega | assumption) (by rfl) _ (lv_sub hl [2, 1, 0] rfl)

set_option maxHeartbeats 4000000 in
set_option maxRecDepth 100000 in
theorem c_X3_allGiven (l : Launch) (D : va_G) (cI cJ cZ cO : ClassId) (h0 : Nat) (la : Nat) (ea : Nat) (pc : Int32) (mo : Int32) (n : Nat) (al : Nat → Option Nat) (cap : Nat) (LP : List Nat) (pf : Nat → va_E) (ad : Nat → Nat) (ne : Nat → Int32) (ei : Nat → Int32) (gv : Nat → Int32) (sk : Nat → Int32) (pg : Nat → Int32) (hn : n ≤ 14) (hH : shH cO n ea cap al LP pf) (hE : shE n al LP pf ad ne ei gv sk pg) : kR l D (kTY cI cJ cZ cO) yX3_allGiven wsX3_allGiven 3 64 [.ref h0] ([(h0, .inr (4, [.ref la, .int pc])), (la, .inr (0, [.int mo, .ref ea, .int (nI n)]))] ++ va_pl LP pf) (fun rv_ => rv_ = some (.int (neededF gv n))) := by
  refine kEnterR (cc := cX3_allGiven) (maxL := 3) (ret := (some .int)) (by decide) rfl (Nat.le_of_ble_eq_true rfl) ?_
  intro p e s m args below meth c hx hb hr hml hts hown hlk hK hP ls hl
  have hl : lv_has ls 3 [(0, .ref h0)] := hl
  have hw_f12 := hts (.fieldLink RX3 12 "WhatToRead$Shelf" "pieces" "Ljava/util/List;") (by decide +kernel)
  have hi_X3 : ∀ w ∈ wsX30, w ∈ wsX3_allGiven := by decide +kernel
  have hw_c43 := hts (.classLink RX3 43 RX1) (by decide +kernel)
  refine lv_iconst (v := 0) hx hb dX3_allGiven_0 (by decide) ?_
  refine lv_istore_n (lv' := [(1, .int 0), (0, .ref h0)]) hx hb dX3_allGiven_1 rfl hl (by decide) rfl (fun ls hl => ?_)
  refine lv_iconst (v := 0) hx hb dX3_allGiven_2 (by decide) ?_
  refine lv_istore_n (lv' := [(2, .int 0), (1, .int 0), (0, .ref h0)]) hx hb dX3_allGiven_3 rfl hl (by decide) rfl (fun ls hl => ?_)
  have hloop_4 : ∀ (fu : Nat) (i : Nat) (x : Int32), n - i < fu → i ≤ n → x = neededF gv i → ∀ ls : Array Slot, lv_has ls 3 [(0, .ref h0), (1, .int x), (2, .int (nI i))] → W p l e ({ frames := 3, cells := 0, slots := 0, locals := 64 }) s m args below meth c s.heap [] 0 0 (MQ below (kQr (fun rv_ => rv_ = some (.int (neededF gv n)))) args s 0 0 (fun _ => False)) (F0 m 4 ls []) := by
    intro fu
    induction fu with
    | zero => intro i x hmu; exact absurd hmu (Nat.not_lt_zero _)
    | succ fu ih_4 =>
      intro i x hmu_4 hi ex ls hl
      refine lv_iload_n hx hb dX3_allGiven_4 rfl (lv_at hl 2 rfl) ?_
      refine lv_aload_n hx hb dX3_allGiven_5 rfl (lv_at hl 0 rfl) ?_
      refine va_get (D := D) (ci := 4) (v := .ref la) (C := RX3) (T := TX3) (N := 2) hx hb hts hi_X3 hown hK.1 hP 0 rfl rfl 0 (by decide) hw_f12 (fun _ h9 => h9) rfl dX3_allGiven_6 ?_
      refine kGo5R (va_runF (As := []) (rest := [.int (nI i)]) (kAt hK (ci := 0) rfl) ⟨hx, hb, hml, hown, hts⟩ (c_Jx4a65c_size_8abf5 l D cI cJ cZ cO la ea mo n ) (va_cwF 0 hts gX3_allGiven_Jx4a65c_size_8abf5_f22Jx4a65c rfl rfl rfl hK.2.2.2.1 (by decide +kernel) ⟨Nat.le_of_ble_eq_true rfl, Nat.le_of_ble_eq_true rfl⟩) (kPreVR (ci := 0) (q0 := 0) hK (kPl_sub hP [1] rfl) rfl rfl rfl) rfl rfl hl.1 rfl (lv_room (Nat.le_of_ble_eq_true rfl)) dX3_allGiven_9 ⟨Nat.le_of_ble_eq_true rfl, Nat.le_of_ble_eq_true rfl⟩) (fun v_1 hv_1 => ?_)
      obtain rfl := hv_1
      refine W.eq (g2 := F0 m 14 ls [.int (nI n), .int (nI i)]) rfl ?_
      refine lv_icmp_ge (tgt := 43) hx hb dX3_allGiven_14 (by decide) (fun c_14 => ?_) (fun c_14 => ?_)
      · skip
        have nc_14 : n ≤ i := (nI_leI (a := n) (b := i) (by omega) (by omega)).mp c_14
        have e12 : n = i := by omega
        subst e12
        refine lv_iload_n hx hb dX3_allGiven_43 rfl (lv_at hl 1 rfl) ?_
        exact kRetIr hx hb hr hlk dX3_allGiven_44 (kpi (by exact ex))
      · skip
        have nc_14 : ¬ n ≤ i := (not_congr (nI_leI (a := n) (b := i) (by omega) (by omega))).mp c_14
        refine lv_iload_n hx hb dX3_allGiven_17 rfl (lv_at hl 1 rfl) ?_
        refine lv_aload_n hx hb dX3_allGiven_18 rfl (lv_at hl 0 rfl) ?_
        refine va_get (D := D) (ci := 4) (v := .ref la) (C := RX3) (T := TX3) (N := 2) hx hb hts hi_X3 hown hK.1 hP 0 rfl rfl 0 (by decide) hw_f12 (fun _ h9 => h9) rfl dX3_allGiven_19 ?_
        refine lv_iload_n hx hb dX3_allGiven_22 rfl (lv_at hl 2 rfl) ?_
        obtain ⟨hH1, hH2, hH3, hH4⟩ := hH (by omega)
        obtain ⟨hE1, hE2, hE3⟩ := hE i (by omega)
        refine kGo5R (va_runF (As := [.int (nI i)]) (rest := [.int x]) (kAt hK (ci := 0) rfl) ⟨hx, hb, hml, hown, hts⟩ (c_Jx4a65c_get_915e3 l D cI cJ cZ cO la ea mo n cap al i (by omega) hH3 (by omega)) (va_cwF 1 hts gX3_allGiven_Jx4a65c_get_915e3_f40Jx4a65c rfl rfl rfl hK.2.2.2.2.1 (by decide +kernel) ⟨Nat.le_of_ble_eq_true rfl, Nat.le_of_ble_eq_true rfl⟩) (kPreVR (ci := 0) (q0 := 0) hK (kList hP 1 rfl hH1 hH2) rfl rfl rfl) rfl rfl hl.1 rfl (lv_room (Nat.le_of_ble_eq_true rfl)) dX3_allGiven_23 ⟨Nat.le_of_ble_eq_true rfl, Nat.le_of_ble_eq_true rfl⟩) (fun v_g hv_g => ?_)
        obtain rfl := hv_g
        rw [hE1]
        refine W.eq (g2 := F0 m 28 ls [.ref (ad i), .int x]) rfl ?_
        have hpc := kPiece hP hE2 hE3
        refine va_castS hx hb hown hw_c43 (kAt hK (ci := 2) rfl) (va_recv hK.1 hpc (ci := 2) (q0 := 0) rfl rfl) dX3_allGiven_28 ?_
        refine lv_iconst (v := 0) hx hb dX3_allGiven_31 (by decide) ?_
        refine kGoR (va_runV (As := [.int 0]) (rest := [.int x]) ⟨hx, hb, hml, hown, hts⟩ (c_X1_brings l D cI cJ cZ cO (ad i) (ne i) (ei i) (gv i) (sk i) (pg i) false) (cwV 1 hts gX3_allGiven_X1_brings rfl rfl rfl (by decide +kernel) ⟨Nat.le_of_ble_eq_true rfl, Nat.le_of_ble_eq_true rfl⟩) (kPreVR (ci := 2) (q0 := 0) hK (kPiece hP (hE i (by omega)).2.1 (hE i (by omega)).2.2) rfl rfl rfl) rfl rfl hl.1 rfl (lv_room (Nat.le_of_ble_eq_true rfl)) dX3_allGiven_32 ⟨Nat.le_of_ble_eq_true rfl, Nat.le_of_ble_eq_true rfl⟩) (fun v_p hv_p => ?_)
        obtain rfl := hv_p
        refine W.eq (g2 := F0 m 35 ls [.int (if false then (sk i) else (gv i)), .int x]) rfl ?_
        refine lv_ior hx hb dX3_allGiven_35 ?_
        refine lv_istore_n (lv' := [(1, .int (x ||| (if false then (sk i) else (gv i)))), (0, .ref h0), (2, .int (nI i))]) hx hb dX3_allGiven_36 rfl hl (by decide) rfl (fun ls hl => ?_)
        refine lv_iinc (v := nI (i + 1)) (lv' := [(2, .int (nI (i + 1))), (1, .int (x ||| (if false then (sk i) else (gv i)))), (0, .ref h0)]) hx hb dX3_allGiven_37 hl (k := 2) rfl (nI_1 _) (by decide) rfl (fun ls hl => ?_)
        refine lv_goto (tgt := 4) hx hb dX3_allGiven_40 (by decide) ?_
        exact ih_4  (i + 1) (x ||| (if false then (sk i) else (gv i))) (by omega) (by first | omega | assumption) (by rw [ex]; rfl) _ (lv_sub hl [2, 1, 0] rfl)
  exact hloop_4 ((n - 0) + 1) 0 0 (Nat.lt_succ_self _) (by first | omega | assumption) (by rfl) _ (lv_sub hl [2, 1, 0] rfl)

set_option maxHeartbeats 4000000 in
set_option maxRecDepth 100000 in
theorem c_X3_changePace (l : Launch) (D : va_G) (cI cJ cZ cO : ClassId) (h0 : Nat) (la : Nat) (ea : Nat) (pc : Int32) (mo : Int32) (n : Nat) (al : Nat → Option Nat) (cap : Nat) (LP : List Nat) (pf : Nat → va_E) (ad : Nat → Nat) (ne : Nat → Int32) (ei : Nat → Int32) (gv : Nat → Int32) (sk : Nat → Int32) (pg : Nat → Int32) (v : Int32) (hn : n ≤ 14) (hH : shH cO n ea cap al LP pf) (hE : shE n al LP pf ad ne ei gv sk pg) : kC l D (kTY cI cJ cZ cO) yX3_changePace wsX3_changePace 0 0 0 0 [.ref h0, .int v] ([(h0, .inr (4, [.ref la, .int pc])), (la, .inr (0, [.int mo, .ref ea, .int (nI n)]))] ++ va_pl LP pf) (fun rv_ rw_ => rv_ = some (.int pc) ∧ rw_ = ([(h0, .inr (4, [.ref la, .int v])), (la, .inr (0, [.int mo, .ref ea, .int (nI n)]))] ++ va_pl LP pf)) := by
  refine kEnter (cc := cX3_changePace) (maxL := 3) (ret := (some .int)) (by decide) rfl (Nat.le_of_ble_eq_true rfl) ?_
  intro p e s m args below meth c hx hb hr hml hts hown hlk hnm hK hP hD hS hA ls hl
  have hl : lv_has ls 3 [(0, .ref h0), (1, .int v)] := hl
  have hw_f18 := hts (.fieldLink RX3 18 "WhatToRead$Shelf" "pace" "I") (by decide +kernel)
  have hi_X3 : ∀ w ∈ wsX30, w ∈ wsX3_changePace := by decide +kernel
  refine lv_aload_n hx hb dX3_changePace_0 rfl (lv_at hl 0 rfl) ?_
  refine va_get (D := D) (ci := 4) (v := .int pc) (C := RX3) (T := TX3) (N := 2) hx hb hts hi_X3 hown hK.1 hP 0 rfl rfl 1 (by decide) hw_f18 (fun _ h9 => h9) rfl dX3_changePace_1 ?_
  refine lv_istore_n (lv' := [(2, .int pc), (0, .ref h0), (1, .int v)]) hx hb dX3_changePace_4 rfl hl (by decide) rfl (fun ls hl => ?_)
  refine lv_aload_n hx hb dX3_changePace_5 rfl (lv_at hl 1 rfl) ?_
  refine lv_iload_n hx hb dX3_changePace_6 rfl (lv_at hl 2 rfl) ?_
  refine va_put (D := D) (ci := 4) (v := .int v) (ty := .int) (C := RX3) (T := TX3) (N := 2) hx hb hts hi_X3 tyX3 tyX3_ok nmX3 hown hK.1 hP hD hS 0 rfl rfl 1 (by decide) hw_f18 (fun _ h9 => h9) rfl (by decide +kernel) rfl rfl (Nat.le_of_ble_eq_true rfl) dX3_changePace_7 (fun H locs hP hD hS => ?_)
  have hP : va_P D vwCl ([(h0, .inr (4, [.ref la, .int v])), (la, .inr (0, [.int mo, .ref ea, .int (nI n)]))] ++ va_pl LP pf) H := hP
  have hD : va_D _ ([(h0, .inr (4, [.ref la, .int v])), (la, .inr (0, [.int mo, .ref ea, .int (nI n)]))] ++ va_pl LP pf) := hD
  refine lv_iload_n hx hb dX3_changePace_10 rfl (lv_at hl 0 rfl) ?_
  exact kRetI hx hb hr hlk dX3_changePace_11 hP hD hS (Nat.le_of_ble_eq_true rfl) (Nat.le_of_ble_eq_true rfl) ⟨rfl, rfl⟩
