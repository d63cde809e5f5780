/-! ===== the law's cases ===== -/
theorem lw_rot {D : va_G} {q : Nat × va_E} {x y : va_W} {H : Heap} (h : va_P D vwCl (([q] ++ x) ++ y) H) : va_P D vwCl (x ++ (y ++ [q])) H := by
  have h1 : va_P D vwCl ([q] ++ (x ++ y)) H := by rw [← List.append_assoc]; exact h
  have h2 := kPS h1
  rw [← List.append_assoc]
  exact h2
theorem lw_rotD {A : Nat → Prop} {q : Nat × va_E} {x y : va_W} (h : va_D A (([q] ++ x) ++ y)) : va_D A (x ++ (y ++ [q])) := by
  have h1 : va_D A ([q] ++ (x ++ y)) := by rw [← List.append_assoc]; exact h
  have h2 := kDS h1
  rw [← List.append_assoc]
  exact h2
set_option maxHeartbeats 4000000 in
theorem lw_c0 {p : Program} {l : Launch} {e : Env} {s : State} {m : MethodId} {below : List Frame} {meth : Method} {c : Code} {b L : Nat} {xs : Nat → Int32} {D : va_G} {cI cJ cZ cO : ClassId} {e0 mi sa : Nat} {H : Heap} {cells slots : Nat} {Q : State → Prop} {ls : Array Slot} {o z q i : Nat} {wX wM : va_W} {of : Nat → Int64}
    (C0 : lwC p s m meth c b L xs D cI cJ cZ cO e0 mi sa) (hroom : cells + 2 ≤ 601024 ∧ slots + 20 ≤ 7293034) (hi : i + 6 ≤ L) (hl : lv_has ls 7 [(0, .ref b), (1, .ref o), (2, .ref z), (3, .ref q), (4, .int (nI i))]) (hJ : lJ cI cJ cZ cO e0 o z wX wM)
    (hP : va_P D vwCl (wX ++ (wM ++ [(q, .inl (cJ, 1, .inr (.inl of)))])) H) (hD : va_D (lwA s) (wX ++ (wM ++ [(q, .inl (cJ, 1, .inr (.inl of)))]))) (hS : va_S (lwA s) s.heap H []) (K : lwK p l e s m below meth c b Q D cI cJ cZ cO e0 o z q i cells slots) :
    W p l e room_1 s m #[Value.ref b] below meth c H [] cells slots Q (F0 m 160 ls []) := by
  have hC := C0
  obtain ⟨hx, hb, hml, hown, hts, -, -, hK, hX, -, -, hL, -⟩ := hC
  obtain ⟨frx, lox, mcx, msx, frm, lom, a, pX, pM, hr, cx, cm, hj⟩ := j_topic l D cI cJ cZ cO e0 mi o z wX wM hJ (xs (i + 1)) (xs (i + 2))
  obtain ⟨fX, hrX⟩ := lJ_rX hJ
  obtain ⟨fM, hrM⟩ := lJ_rM hJ
  refine lv_aload_n hx hb dL_law_160 rfl (lv_at hl 1 rfl) ?_
  refine lw_arg (k := 1) C0 hS hl dL_law_161 dL_law_162 dL_law_164 rfl dL_law_165 dL_law_166 (by omega) ?_
  refine lw_arg (k := 2) C0 hS hl dL_law_167 dL_law_168 dL_law_170 rfl dL_law_171 dL_law_172 (by omega) ?_
  refine lw_go (va_runV (As := [.int (xs (i + 1)), .int (xs (i + 2))]) (rest := []) ⟨hx, hb, hml, hown, hts⟩ (cx _) (cwV 2 hts gL_law_X7_topic rfl rfl rfl (by decide +kernel) ⟨(by show frx + 1 ≤ 2048; omega), (by show 8 + (4 + 11) + lox ≤ 84000; omega)⟩) (kPreVX (ci := 8) (q0 := 0) hK hX hS (kFre hD hS (fun _ h => h)) (kPA hP) ((kDA hD).weaken (fun _ _ _ _ => trivial)) rfl hrX rfl) rfl rfl hl.1 rfl (lv_room (Nat.le_of_ble_eq_true rfl)) dL_law_173 ⟨(by show cells + mcx ≤ 601024; omega), (by show slots + msx ≤ 7293034; omega)⟩) hP hD hS (fun v_173 w_173 H hv_173 hP hD hS => ?_)
  obtain ⟨rfl, hpx⟩ := hv_173
  refine W.eq (g2 := F0 m 176 ls [.int a]) rfl ?_
  have hP : va_P D vwCl (wM ++ ([(q, .inl (cJ, 1, .inr (.inl of)))] ++ w_173)) H := by rw [← List.append_assoc]; exact hP
  have hD : va_D (lwA s) (wM ++ ([(q, .inl (cJ, 1, .inr (.inl of)))] ++ w_173)) := by rw [← List.append_assoc]; exact hD
  refine lv_aload_n hx hb dL_law_176 rfl (lv_at hl 2 rfl) ?_
  refine lw_arg (k := 1) C0 hS hl dL_law_177 dL_law_178 dL_law_180 rfl dL_law_181 dL_law_182 (by omega) ?_
  refine lw_arg (k := 2) C0 hS hl dL_law_183 dL_law_184 dL_law_186 rfl dL_law_187 dL_law_188 (by omega) ?_
  refine lw_go (va_runV (As := [.int (xs (i + 1)), .int (xs (i + 2))]) (rest := [.int a]) ⟨hx, hb, hml, hown, hts⟩ (cm _) (cwV 2 hts gL_law_X8_topic rfl rfl rfl (by decide +kernel) ⟨(by show frm + 1 ≤ 2048; omega), (by show 8 + (3 + 11) + lom ≤ 84000; omega)⟩) (kPreVX (ci := 9) (q0 := 0) hK hX hS (kFre hD hS (fun _ h => h)) (kPA hP) ((kDA hD).weaken (fun _ _ _ _ => trivial)) rfl hrM rfl) rfl rfl hl.1 rfl (lv_room (Nat.le_of_ble_eq_true rfl)) dL_law_189 ⟨(by show (cells + mcx) + 0 ≤ 601024; omega), (by show (slots + msx) + 0 ≤ 7293034; omega)⟩) hP hD hS (fun v_189 w_189 H hv_189 hP hD hS => ?_)
  obtain ⟨rfl, hpm⟩ := hv_189
  refine W.eq (g2 := F0 m 192 ls [.int a, .int a]) rfl ?_
  refine lv_icmp_eq (tgt := 857) hx hb dL_law_192 (by decide) (fun c1 => ?_) (fun c1 => absurd rfl c1)
  have hJ1 := hj _ _ hpx hpm
  have hP := lw_rot hP
  have hD := lw_rotD hD
  exact W.widen (by omega) (by omega) (K _ _ _ _ _ hl hJ1 hP hD hS)

set_option maxHeartbeats 4000000 in
theorem lw_c1 {p : Program} {l : Launch} {e : Env} {s : State} {m : MethodId} {below : List Frame} {meth : Method} {c : Code} {b L : Nat} {xs : Nat → Int32} {D : va_G} {cI cJ cZ cO : ClassId} {e0 mi sa : Nat} {H : Heap} {cells slots : Nat} {Q : State → Prop} {ls : Array Slot} {o z q i : Nat} {wX wM : va_W} {of : Nat → Int64}
    (C0 : lwC p s m meth c b L xs D cI cJ cZ cO e0 mi sa) (hroom : cells + 2 ≤ 601024 ∧ slots + 20 ≤ 7293034) (hi : i + 6 ≤ L) (hl : lv_has ls 7 [(0, .ref b), (1, .ref o), (2, .ref z), (3, .ref q), (4, .int (nI i))]) (hJ : lJ cI cJ cZ cO e0 o z wX wM)
    (hP : va_P D vwCl (wX ++ (wM ++ [(q, .inl (cJ, 1, .inr (.inl of)))])) H) (hD : va_D (lwA s) (wX ++ (wM ++ [(q, .inl (cJ, 1, .inr (.inl of)))]))) (hS : va_S (lwA s) s.heap H []) (K : lwK p l e s m below meth c b Q D cI cJ cZ cO e0 o z q i cells slots) :
    W p l e room_1 s m #[Value.ref b] below meth c H [] cells slots Q (F0 m 197 ls []) := by
  have hC := C0
  obtain ⟨hx, hb, hml, hown, hts, -, -, hK, hX, -, -, hL, -⟩ := hC
  obtain ⟨frx, lox, mcx, msx, frm, lom, a, pX, pM, hr, cx, cm, hj⟩ := j_piece l D cI cJ cZ cO e0 mi o z wX wM hJ (xs (i + 1)) (xs (i + 2)) (xs (i + 3)) (xs (i + 4)) (xs (i + 5))
  obtain ⟨fX, hrX⟩ := lJ_rX hJ
  obtain ⟨fM, hrM⟩ := lJ_rM hJ
  refine lv_aload_n hx hb dL_law_197 rfl (lv_at hl 1 rfl) ?_
  refine lw_arg (k := 1) C0 hS hl dL_law_198 dL_law_199 dL_law_201 rfl dL_law_202 dL_law_203 (by omega) ?_
  refine lw_arg (k := 2) C0 hS hl dL_law_204 dL_law_205 dL_law_207 rfl dL_law_208 dL_law_209 (by omega) ?_
  refine lw_arg (k := 3) C0 hS hl dL_law_210 dL_law_211 dL_law_213 rfl dL_law_214 dL_law_215 (by omega) ?_
  refine lw_arg (k := 4) C0 hS hl dL_law_216 dL_law_217 dL_law_219 rfl dL_law_220 dL_law_221 (by omega) ?_
  refine lw_arg (k := 5) C0 hS hl dL_law_222 dL_law_223 dL_law_225 rfl dL_law_226 dL_law_227 (by omega) ?_
  refine lw_go (va_runV (As := [.int (xs (i + 1)), .int (xs (i + 2)), .int (xs (i + 3)), .int (xs (i + 4)), .int (xs (i + 5))]) (rest := []) ⟨hx, hb, hml, hown, hts⟩ (cx _) (cwV 5 hts gL_law_X7_piece rfl rfl rfl (by decide +kernel) ⟨(by show frx + 1 ≤ 2048; omega), (by show 8 + (7 + 11) + lox ≤ 84000; omega)⟩) (kPreVX (ci := 8) (q0 := 0) hK hX hS (kFre hD hS (fun _ h => h)) (kPA hP) ((kDA hD).weaken (fun _ _ _ _ => trivial)) rfl hrX rfl) rfl rfl hl.1 rfl (lv_room (Nat.le_of_ble_eq_true rfl)) dL_law_228 ⟨(by show cells + mcx ≤ 601024; omega), (by show slots + msx ≤ 7293034; omega)⟩) hP hD hS (fun v_228 w_228 H hv_228 hP hD hS => ?_)
  obtain ⟨rfl, hpx⟩ := hv_228
  refine W.eq (g2 := F0 m 231 ls [.int a]) rfl ?_
  have hP : va_P D vwCl (wM ++ ([(q, .inl (cJ, 1, .inr (.inl of)))] ++ w_228)) H := by rw [← List.append_assoc]; exact hP
  have hD : va_D (lwA s) (wM ++ ([(q, .inl (cJ, 1, .inr (.inl of)))] ++ w_228)) := by rw [← List.append_assoc]; exact hD
  refine lv_aload_n hx hb dL_law_231 rfl (lv_at hl 2 rfl) ?_
  refine lw_arg (k := 1) C0 hS hl dL_law_232 dL_law_233 dL_law_235 rfl dL_law_236 dL_law_237 (by omega) ?_
  refine lw_arg (k := 2) C0 hS hl dL_law_238 dL_law_239 dL_law_241 rfl dL_law_242 dL_law_243 (by omega) ?_
  refine lw_arg (k := 3) C0 hS hl dL_law_244 dL_law_245 dL_law_247 rfl dL_law_248 dL_law_249 (by omega) ?_
  refine lw_arg (k := 4) C0 hS hl dL_law_250 dL_law_251 dL_law_253 rfl dL_law_254 dL_law_255 (by omega) ?_
  refine lw_arg (k := 5) C0 hS hl dL_law_256 dL_law_257 dL_law_259 rfl dL_law_260 dL_law_261 (by omega) ?_
  refine lw_go (va_runV (As := [.int (xs (i + 1)), .int (xs (i + 2)), .int (xs (i + 3)), .int (xs (i + 4)), .int (xs (i + 5))]) (rest := [.int a]) ⟨hx, hb, hml, hown, hts⟩ (cm _) (cwV 5 hts gL_law_X8_piece rfl rfl rfl (by decide +kernel) ⟨(by show frm + 1 ≤ 2048; omega), (by show 8 + (6 + 11) + lom ≤ 84000; omega)⟩) (kPreVX (ci := 9) (q0 := 0) hK hX hS (kFre hD hS (fun _ h => h)) (kPA hP) ((kDA hD).weaken (fun _ _ _ _ => trivial)) rfl hrM rfl) rfl rfl hl.1 rfl (lv_room (Nat.le_of_ble_eq_true rfl)) dL_law_262 ⟨(by show (cells + mcx) + 0 ≤ 601024; omega), (by show (slots + msx) + 0 ≤ 7293034; omega)⟩) hP hD hS (fun v_262 w_262 H hv_262 hP hD hS => ?_)
  obtain ⟨rfl, hpm⟩ := hv_262
  refine W.eq (g2 := F0 m 265 ls [.int a, .int a]) rfl ?_
  refine lv_icmp_eq (tgt := 857) hx hb dL_law_265 (by decide) (fun c1 => ?_) (fun c1 => absurd rfl c1)
  have hJ1 := hj _ _ hpx hpm
  have hP := lw_rot hP
  have hD := lw_rotD hD
  exact W.widen (by omega) (by omega) (K _ _ _ _ _ hl hJ1 hP hD hS)

set_option maxHeartbeats 4000000 in
theorem lw_c2 {p : Program} {l : Launch} {e : Env} {s : State} {m : MethodId} {below : List Frame} {meth : Method} {c : Code} {b L : Nat} {xs : Nat → Int32} {D : va_G} {cI cJ cZ cO : ClassId} {e0 mi sa : Nat} {H : Heap} {cells slots : Nat} {Q : State → Prop} {ls : Array Slot} {o z q i : Nat} {wX wM : va_W} {of : Nat → Int64}
    (C0 : lwC p s m meth c b L xs D cI cJ cZ cO e0 mi sa) (hroom : cells + 2 ≤ 601024 ∧ slots + 20 ≤ 7293034) (hi : i + 6 ≤ L) (hl : lv_has ls 7 [(0, .ref b), (1, .ref o), (2, .ref z), (3, .ref q), (4, .int (nI i))]) (hJ : lJ cI cJ cZ cO e0 o z wX wM)
    (hP : va_P D vwCl (wX ++ (wM ++ [(q, .inl (cJ, 1, .inr (.inl of)))])) H) (hD : va_D (lwA s) (wX ++ (wM ++ [(q, .inl (cJ, 1, .inr (.inl of)))]))) (hS : va_S (lwA s) s.heap H []) (K : lwK p l e s m below meth c b Q D cI cJ cZ cO e0 o z q i cells slots) :
    W p l e room_1 s m #[Value.ref b] below meth c H [] cells slots Q (F0 m 270 ls []) := by
  have hC := C0
  obtain ⟨hx, hb, hml, hown, hts, -, -, hK, hX, -, -, hL, -⟩ := hC
  obtain ⟨frx, lox, mcx, msx, frm, lom, a, pX, pM, hr, cx, cm, hj⟩ := j_drop l D cI cJ cZ cO e0 mi o z wX wM hJ 
  obtain ⟨fX, hrX⟩ := lJ_rX hJ
  obtain ⟨fM, hrM⟩ := lJ_rM hJ
  refine lv_aload_n hx hb dL_law_270 rfl (lv_at hl 1 rfl) ?_
  refine lw_go (va_runV (As := []) (rest := []) ⟨hx, hb, hml, hown, hts⟩ (cx _) (cwV 0 hts gL_law_X7_drop rfl rfl rfl (by decide +kernel) ⟨(by show frx + 1 ≤ 2048; omega), (by show 8 + (1 + 11) + lox ≤ 84000; omega)⟩) (kPreVX (ci := 8) (q0 := 0) hK hX hS (kFre hD hS (fun _ h => h)) (kPA hP) ((kDA hD).weaken (fun _ _ _ _ => trivial)) rfl hrX rfl) rfl rfl hl.1 rfl (lv_room (Nat.le_of_ble_eq_true rfl)) dL_law_271 ⟨(by show cells + mcx ≤ 601024; omega), (by show slots + msx ≤ 7293034; omega)⟩) hP hD hS (fun v_271 w_271 H hv_271 hP hD hS => ?_)
  obtain ⟨rfl, hpx⟩ := hv_271
  refine W.eq (g2 := F0 m 274 ls [.int a]) rfl ?_
  have hP : va_P D vwCl (wM ++ ([(q, .inl (cJ, 1, .inr (.inl of)))] ++ w_271)) H := by rw [← List.append_assoc]; exact hP
  have hD : va_D (lwA s) (wM ++ ([(q, .inl (cJ, 1, .inr (.inl of)))] ++ w_271)) := by rw [← List.append_assoc]; exact hD
  refine lv_aload_n hx hb dL_law_274 rfl (lv_at hl 2 rfl) ?_
  refine lw_go (va_runV (As := []) (rest := [.int a]) ⟨hx, hb, hml, hown, hts⟩ (cm _) (cwV 0 hts gL_law_X8_drop rfl rfl rfl (by decide +kernel) ⟨(by show frm + 1 ≤ 2048; omega), (by show 8 + (1 + 11) + lom ≤ 84000; omega)⟩) (kPreVX (ci := 9) (q0 := 0) hK hX hS (kFre hD hS (fun _ h => h)) (kPA hP) ((kDA hD).weaken (fun _ _ _ _ => trivial)) rfl hrM rfl) rfl rfl hl.1 rfl (lv_room (Nat.le_of_ble_eq_true rfl)) dL_law_275 ⟨(by show (cells + mcx) + 0 ≤ 601024; omega), (by show (slots + msx) + 0 ≤ 7293034; omega)⟩) hP hD hS (fun v_275 w_275 H hv_275 hP hD hS => ?_)
  obtain ⟨rfl, hpm⟩ := hv_275
  refine W.eq (g2 := F0 m 278 ls [.int a, .int a]) rfl ?_
  refine lv_icmp_eq (tgt := 857) hx hb dL_law_278 (by decide) (fun c1 => ?_) (fun c1 => absurd rfl c1)
  have hJ1 := hj _ _ hpx hpm
  have hP := lw_rot hP
  have hD := lw_rotD hD
  exact W.widen (by omega) (by omega) (K _ _ _ _ _ hl hJ1 hP hD hS)

set_option maxHeartbeats 4000000 in
theorem lw_c3 {p : Program} {l : Launch} {e : Env} {s : State} {m : MethodId} {below : List Frame} {meth : Method} {c : Code} {b L : Nat} {xs : Nat → Int32} {D : va_G} {cI cJ cZ cO : ClassId} {e0 mi sa : Nat} {H : Heap} {cells slots : Nat} {Q : State → Prop} {ls : Array Slot} {o z q i : Nat} {wX wM : va_W} {of : Nat → Int64}
    (C0 : lwC p s m meth c b L xs D cI cJ cZ cO e0 mi sa) (hroom : cells + 2 ≤ 601024 ∧ slots + 20 ≤ 7293034) (hi : i + 6 ≤ L) (hl : lv_has ls 7 [(0, .ref b), (1, .ref o), (2, .ref z), (3, .ref q), (4, .int (nI i))]) (hJ : lJ cI cJ cZ cO e0 o z wX wM)
    (hP : va_P D vwCl (wX ++ (wM ++ [(q, .inl (cJ, 1, .inr (.inl of)))])) H) (hD : va_D (lwA s) (wX ++ (wM ++ [(q, .inl (cJ, 1, .inr (.inl of)))]))) (hS : va_S (lwA s) s.heap H []) (K : lwK p l e s m below meth c b Q D cI cJ cZ cO e0 o z q i cells slots) :
    W p l e room_1 s m #[Value.ref b] below meth c H [] cells slots Q (F0 m 283 ls []) := by
  have hC := C0
  obtain ⟨hx, hb, hml, hown, hts, -, -, hK, hX, -, -, hL, -⟩ := hC
  obtain ⟨frx, lox, mcx, msx, frm, lom, a, pX, pM, hr, cx, cm, hj⟩ := j_pace l D cI cJ cZ cO e0 mi o z wX wM hJ (xs (i + 1))
  obtain ⟨fX, hrX⟩ := lJ_rX hJ
  obtain ⟨fM, hrM⟩ := lJ_rM hJ
  refine lv_aload_n hx hb dL_law_283 rfl (lv_at hl 1 rfl) ?_
  refine lw_arg (k := 1) C0 hS hl dL_law_284 dL_law_285 dL_law_287 rfl dL_law_288 dL_law_289 (by omega) ?_
  refine lw_go (va_runV (As := [.int (xs (i + 1))]) (rest := []) ⟨hx, hb, hml, hown, hts⟩ (cx _) (cwV 1 hts gL_law_X7_pace rfl rfl rfl (by decide +kernel) ⟨(by show frx + 1 ≤ 2048; omega), (by show 8 + (2 + 11) + lox ≤ 84000; omega)⟩) (kPreVX (ci := 8) (q0 := 0) hK hX hS (kFre hD hS (fun _ h => h)) (kPA hP) ((kDA hD).weaken (fun _ _ _ _ => trivial)) rfl hrX rfl) rfl rfl hl.1 rfl (lv_room (Nat.le_of_ble_eq_true rfl)) dL_law_290 ⟨(by show cells + mcx ≤ 601024; omega), (by show slots + msx ≤ 7293034; omega)⟩) hP hD hS (fun v_290 w_290 H hv_290 hP hD hS => ?_)
  obtain ⟨rfl, hpx⟩ := hv_290
  refine W.eq (g2 := F0 m 293 ls [.int a]) rfl ?_
  have hP : va_P D vwCl (wM ++ ([(q, .inl (cJ, 1, .inr (.inl of)))] ++ w_290)) H := by rw [← List.append_assoc]; exact hP
  have hD : va_D (lwA s) (wM ++ ([(q, .inl (cJ, 1, .inr (.inl of)))] ++ w_290)) := by rw [← List.append_assoc]; exact hD
  refine lv_aload_n hx hb dL_law_293 rfl (lv_at hl 2 rfl) ?_
  refine lw_arg (k := 1) C0 hS hl dL_law_294 dL_law_295 dL_law_297 rfl dL_law_298 dL_law_299 (by omega) ?_
  refine lw_go (va_runV (As := [.int (xs (i + 1))]) (rest := [.int a]) ⟨hx, hb, hml, hown, hts⟩ (cm _) (cwV 1 hts gL_law_X8_pace rfl rfl rfl (by decide +kernel) ⟨(by show frm + 1 ≤ 2048; omega), (by show 8 + (3 + 11) + lom ≤ 84000; omega)⟩) (kPreVX (ci := 9) (q0 := 0) hK hX hS (kFre hD hS (fun _ h => h)) (kPA hP) ((kDA hD).weaken (fun _ _ _ _ => trivial)) rfl hrM rfl) rfl rfl hl.1 rfl (lv_room (Nat.le_of_ble_eq_true rfl)) dL_law_300 ⟨(by show (cells + mcx) + 0 ≤ 601024; omega), (by show (slots + msx) + 0 ≤ 7293034; omega)⟩) hP hD hS (fun v_300 w_300 H hv_300 hP hD hS => ?_)
  obtain ⟨rfl, hpm⟩ := hv_300
  refine W.eq (g2 := F0 m 303 ls [.int a, .int a]) rfl ?_
  refine lv_icmp_eq (tgt := 857) hx hb dL_law_303 (by decide) (fun c1 => ?_) (fun c1 => absurd rfl c1)
  have hJ1 := hj _ _ hpx hpm
  have hP := lw_rot hP
  have hD := lw_rotD hD
  exact W.widen (by omega) (by omega) (K _ _ _ _ _ hl hJ1 hP hD hS)

set_option maxHeartbeats 4000000 in
theorem lw_c4 {p : Program} {l : Launch} {e : Env} {s : State} {m : MethodId} {below : List Frame} {meth : Method} {c : Code} {b L : Nat} {xs : Nat → Int32} {D : va_G} {cI cJ cZ cO : ClassId} {e0 mi sa : Nat} {H : Heap} {cells slots : Nat} {Q : State → Prop} {ls : Array Slot} {o z q i : Nat} {wX wM : va_W} {of : Nat → Int64}
    (C0 : lwC p s m meth c b L xs D cI cJ cZ cO e0 mi sa) (hroom : cells + 2 ≤ 601024 ∧ slots + 20 ≤ 7293034) (hi : i + 6 ≤ L) (hl : lv_has ls 7 [(0, .ref b), (1, .ref o), (2, .ref z), (3, .ref q), (4, .int (nI i))]) (hJ : lJ cI cJ cZ cO e0 o z wX wM)
    (hP : va_P D vwCl (wX ++ (wM ++ [(q, .inl (cJ, 1, .inr (.inl of)))])) H) (hD : va_D (lwA s) (wX ++ (wM ++ [(q, .inl (cJ, 1, .inr (.inl of)))]))) (hS : va_S (lwA s) s.heap H []) (K : lwK p l e s m below meth c b Q D cI cJ cZ cO e0 o z q i cells slots) :
    W p l e room_1 s m #[Value.ref b] below meth c H [] cells slots Q (F0 m 308 ls []) := by
  have hC := C0
  obtain ⟨hx, hb, hml, hown, hts, -, -, hK, hX, -, -, hL, -⟩ := hC
  obtain ⟨frx, lox, mcx, msx, frm, lom, a, pX, pM, hr, cx, cm, hj⟩ := j_know l D cI cJ cZ cO e0 mi o z wX wM hJ (xs (i + 1))
  obtain ⟨fX, hrX⟩ := lJ_rX hJ
  obtain ⟨fM, hrM⟩ := lJ_rM hJ
  refine lv_aload_n hx hb dL_law_308 rfl (lv_at hl 1 rfl) ?_
  refine lw_arg (k := 1) C0 hS hl dL_law_309 dL_law_310 dL_law_312 rfl dL_law_313 dL_law_314 (by omega) ?_
  refine lw_go (va_runV (As := [.int (xs (i + 1))]) (rest := []) ⟨hx, hb, hml, hown, hts⟩ (cx _) (cwV 1 hts gL_law_X7_know rfl rfl rfl (by decide +kernel) ⟨(by show frx + 1 ≤ 2048; omega), (by show 8 + (2 + 11) + lox ≤ 84000; omega)⟩) (kPreVX (ci := 8) (q0 := 0) hK hX hS (kFre hD hS (fun _ h => h)) (kPA hP) ((kDA hD).weaken (fun _ _ _ _ => trivial)) rfl hrX rfl) rfl rfl hl.1 rfl (lv_room (Nat.le_of_ble_eq_true rfl)) dL_law_315 ⟨(by show cells + mcx ≤ 601024; omega), (by show slots + msx ≤ 7293034; omega)⟩) hP hD hS (fun v_315 w_315 H hv_315 hP hD hS => ?_)
  obtain ⟨rfl, hpx⟩ := hv_315
  refine W.eq (g2 := F0 m 318 ls [.int a]) rfl ?_
  have hP : va_P D vwCl (wM ++ ([(q, .inl (cJ, 1, .inr (.inl of)))] ++ w_315)) H := by rw [← List.append_assoc]; exact hP
  have hD : va_D (lwA s) (wM ++ ([(q, .inl (cJ, 1, .inr (.inl of)))] ++ w_315)) := by rw [← List.append_assoc]; exact hD
  refine lv_aload_n hx hb dL_law_318 rfl (lv_at hl 2 rfl) ?_
  refine lw_arg (k := 1) C0 hS hl dL_law_319 dL_law_320 dL_law_322 rfl dL_law_323 dL_law_324 (by omega) ?_
  refine lw_go (va_runV (As := [.int (xs (i + 1))]) (rest := [.int a]) ⟨hx, hb, hml, hown, hts⟩ (cm _) (cwV 1 hts gL_law_X8_know rfl rfl rfl (by decide +kernel) ⟨(by show frm + 1 ≤ 2048; omega), (by show 8 + (2 + 11) + lom ≤ 84000; omega)⟩) (kPreVX (ci := 9) (q0 := 0) hK hX hS (kFre hD hS (fun _ h => h)) (kPA hP) ((kDA hD).weaken (fun _ _ _ _ => trivial)) rfl hrM rfl) rfl rfl hl.1 rfl (lv_room (Nat.le_of_ble_eq_true rfl)) dL_law_325 ⟨(by show (cells + mcx) + 0 ≤ 601024; omega), (by show (slots + msx) + 0 ≤ 7293034; omega)⟩) hP hD hS (fun v_325 w_325 H hv_325 hP hD hS => ?_)
  obtain ⟨rfl, hpm⟩ := hv_325
  refine W.eq (g2 := F0 m 328 ls [.int a, .int a]) rfl ?_
  refine lv_icmp_eq (tgt := 857) hx hb dL_law_328 (by decide) (fun c1 => ?_) (fun c1 => absurd rfl c1)
  have hJ1 := hj _ _ hpx hpm
  have hP := lw_rot hP
  have hD := lw_rotD hD
  exact W.widen (by omega) (by omega) (K _ _ _ _ _ hl hJ1 hP hD hS)

set_option maxHeartbeats 4000000 in
theorem lw_c5 {p : Program} {l : Launch} {e : Env} {s : State} {m : MethodId} {below : List Frame} {meth : Method} {c : Code} {b L : Nat} {xs : Nat → Int32} {D : va_G} {cI cJ cZ cO : ClassId} {e0 mi sa : Nat} {H : Heap} {cells slots : Nat} {Q : State → Prop} {ls : Array Slot} {o z q i : Nat} {wX wM : va_W} {of : Nat → Int64}
    (C0 : lwC p s m meth c b L xs D cI cJ cZ cO e0 mi sa) (hroom : cells + 2 ≤ 601024 ∧ slots + 20 ≤ 7293034) (hi : i + 6 ≤ L) (hl : lv_has ls 7 [(0, .ref b), (1, .ref o), (2, .ref z), (3, .ref q), (4, .int (nI i))]) (hJ : lJ cI cJ cZ cO e0 o z wX wM)
    (hP : va_P D vwCl (wX ++ (wM ++ [(q, .inl (cJ, 1, .inr (.inl of)))])) H) (hD : va_D (lwA s) (wX ++ (wM ++ [(q, .inl (cJ, 1, .inr (.inl of)))]))) (hS : va_S (lwA s) s.heap H []) (K : lwK p l e s m below meth c b Q D cI cJ cZ cO e0 o z q i cells slots) :
    W p l e room_1 s m #[Value.ref b] below meth c H [] cells slots Q (F0 m 333 ls []) := by
  have hC := C0
  obtain ⟨hx, hb, hml, hown, hts, -, -, hK, hX, -, -, hL, -⟩ := hC
  obtain ⟨frx, lox, mcx, msx, frm, lom, a, pX, pM, hr, cx, cm, hj⟩ := j_count l D cI cJ cZ cO e0 mi o z wX wM hJ (xs (i + 1))
  obtain ⟨fX, hrX⟩ := lJ_rX hJ
  obtain ⟨fM, hrM⟩ := lJ_rM hJ
  refine lv_aload_n hx hb dL_law_333 rfl (lv_at hl 1 rfl) ?_
  refine lw_arg (k := 1) C0 hS hl dL_law_334 dL_law_335 dL_law_337 rfl dL_law_338 dL_law_339 (by omega) ?_
  refine lw_go (va_runV (As := [.int (xs (i + 1))]) (rest := []) ⟨hx, hb, hml, hown, hts⟩ (cx _) (cwV 1 hts gL_law_X7_count rfl rfl rfl (by decide +kernel) ⟨(by show frx + 1 ≤ 2048; omega), (by show 8 + (2 + 11) + lox ≤ 84000; omega)⟩) (kPreVX (ci := 8) (q0 := 0) hK hX hS (kFre hD hS (fun _ h => h)) (kPA hP) ((kDA hD).weaken (fun _ _ _ _ => trivial)) rfl hrX rfl) rfl rfl hl.1 rfl (lv_room (Nat.le_of_ble_eq_true rfl)) dL_law_340 ⟨(by show cells + mcx ≤ 601024; omega), (by show slots + msx ≤ 7293034; omega)⟩) hP hD hS (fun v_340 w_340 H hv_340 hP hD hS => ?_)
  obtain ⟨rfl, hpx⟩ := hv_340
  refine W.eq (g2 := F0 m 343 ls [.int a]) rfl ?_
  have hP : va_P D vwCl (wM ++ ([(q, .inl (cJ, 1, .inr (.inl of)))] ++ w_340)) H := by rw [← List.append_assoc]; exact hP
  have hD : va_D (lwA s) (wM ++ ([(q, .inl (cJ, 1, .inr (.inl of)))] ++ w_340)) := by rw [← List.append_assoc]; exact hD
  refine lv_aload_n hx hb dL_law_343 rfl (lv_at hl 2 rfl) ?_
  refine lw_arg (k := 1) C0 hS hl dL_law_344 dL_law_345 dL_law_347 rfl dL_law_348 dL_law_349 (by omega) ?_
  refine lw_go (va_runV (As := [.int (xs (i + 1))]) (rest := [.int a]) ⟨hx, hb, hml, hown, hts⟩ (cm _) (cwV 1 hts gL_law_X8_count rfl rfl rfl (by decide +kernel) ⟨(by show frm + 1 ≤ 2048; omega), (by show 8 + (2 + 11) + lom ≤ 84000; omega)⟩) (kPreVX (ci := 9) (q0 := 0) hK hX hS (kFre hD hS (fun _ h => h)) (kPA hP) ((kDA hD).weaken (fun _ _ _ _ => trivial)) rfl hrM rfl) rfl rfl hl.1 rfl (lv_room (Nat.le_of_ble_eq_true rfl)) dL_law_350 ⟨(by show (cells + mcx) + 0 ≤ 601024; omega), (by show (slots + msx) + 0 ≤ 7293034; omega)⟩) hP hD hS (fun v_350 w_350 H hv_350 hP hD hS => ?_)
  obtain ⟨rfl, hpm⟩ := hv_350
  refine W.eq (g2 := F0 m 353 ls [.int a, .int a]) rfl ?_
  refine lv_icmp_eq (tgt := 857) hx hb dL_law_353 (by decide) (fun c1 => ?_) (fun c1 => absurd rfl c1)
  have hJ1 := hj _ _ hpx hpm
  have hP := lw_rot hP
  have hD := lw_rotD hD
  exact W.widen (by omega) (by omega) (K _ _ _ _ _ hl hJ1 hP hD hS)

set_option maxHeartbeats 4000000 in
theorem lw_c6 {p : Program} {l : Launch} {e : Env} {s : State} {m : MethodId} {below : List Frame} {meth : Method} {c : Code} {b L : Nat} {xs : Nat → Int32} {D : va_G} {cI cJ cZ cO : ClassId} {e0 mi sa : Nat} {H : Heap} {cells slots : Nat} {Q : State → Prop} {ls : Array Slot} {o z q i : Nat} {wX wM : va_W} {of : Nat → Int64}
    (C0 : lwC p s m meth c b L xs D cI cJ cZ cO e0 mi sa) (hroom : cells + 2 ≤ 601024 ∧ slots + 20 ≤ 7293034) (hi : i + 6 ≤ L) (hl : lv_has ls 7 [(0, .ref b), (1, .ref o), (2, .ref z), (3, .ref q), (4, .int (nI i))]) (hJ : lJ cI cJ cZ cO e0 o z wX wM)
    (hP : va_P D vwCl (wX ++ (wM ++ [(q, .inl (cJ, 1, .inr (.inl of)))])) H) (hD : va_D (lwA s) (wX ++ (wM ++ [(q, .inl (cJ, 1, .inr (.inl of)))]))) (hS : va_S (lwA s) s.heap H []) (K : lwK p l e s m below meth c b Q D cI cJ cZ cO e0 o z q i cells slots) :
    W p l e room_1 s m #[Value.ref b] below meth c H [] cells slots Q (F0 m 358 ls []) := by
  have hC := C0
  obtain ⟨hx, hb, hml, hown, hts, -, -, hK, hX, -, -, hL, -⟩ := hC
  obtain ⟨frx, lox, mcx, msx, frm, lom, a, pX, pM, hr, cx, cm, hj⟩ := j_with l D cI cJ cZ cO e0 mi o z wX wM hJ (xs (i + 1))
  obtain ⟨fX, hrX⟩ := lJ_rX hJ
  obtain ⟨fM, hrM⟩ := lJ_rM hJ
  refine lv_aload_n hx hb dL_law_358 rfl (lv_at hl 1 rfl) ?_
  refine lw_arg (k := 1) C0 hS hl dL_law_359 dL_law_360 dL_law_362 rfl dL_law_363 dL_law_364 (by omega) ?_
  refine lw_go (va_runV (As := [.int (xs (i + 1))]) (rest := []) ⟨hx, hb, hml, hown, hts⟩ (cx _) (cwV 1 hts gL_law_X7_with rfl rfl rfl (by decide +kernel) ⟨(by show frx + 1 ≤ 2048; omega), (by show 8 + (2 + 11) + lox ≤ 84000; omega)⟩) (kPreVX (ci := 8) (q0 := 0) hK hX hS (kFre hD hS (fun _ h => h)) (kPA hP) ((kDA hD).weaken (fun _ _ _ _ => trivial)) rfl hrX rfl) rfl rfl hl.1 rfl (lv_room (Nat.le_of_ble_eq_true rfl)) dL_law_365 ⟨(by show cells + mcx ≤ 601024; omega), (by show slots + msx ≤ 7293034; omega)⟩) hP hD hS (fun v_365 w_365 H hv_365 hP hD hS => ?_)
  obtain ⟨rfl, hpx⟩ := hv_365
  refine W.eq (g2 := F0 m 368 ls [.int a]) rfl ?_
  have hP : va_P D vwCl (wM ++ ([(q, .inl (cJ, 1, .inr (.inl of)))] ++ w_365)) H := by rw [← List.append_assoc]; exact hP
  have hD : va_D (lwA s) (wM ++ ([(q, .inl (cJ, 1, .inr (.inl of)))] ++ w_365)) := by rw [← List.append_assoc]; exact hD
  refine lv_aload_n hx hb dL_law_368 rfl (lv_at hl 2 rfl) ?_
  refine lw_arg (k := 1) C0 hS hl dL_law_369 dL_law_370 dL_law_372 rfl dL_law_373 dL_law_374 (by omega) ?_
  refine lw_go (va_runV (As := [.int (xs (i + 1))]) (rest := [.int a]) ⟨hx, hb, hml, hown, hts⟩ (cm _) (cwV 1 hts gL_law_X8_with rfl rfl rfl (by decide +kernel) ⟨(by show frm + 1 ≤ 2048; omega), (by show 8 + (2 + 11) + lom ≤ 84000; omega)⟩) (kPreVX (ci := 9) (q0 := 0) hK hX hS (kFre hD hS (fun _ h => h)) (kPA hP) ((kDA hD).weaken (fun _ _ _ _ => trivial)) rfl hrM rfl) rfl rfl hl.1 rfl (lv_room (Nat.le_of_ble_eq_true rfl)) dL_law_375 ⟨(by show (cells + mcx) + 0 ≤ 601024; omega), (by show (slots + msx) + 0 ≤ 7293034; omega)⟩) hP hD hS (fun v_375 w_375 H hv_375 hP hD hS => ?_)
  obtain ⟨rfl, hpm⟩ := hv_375
  refine W.eq (g2 := F0 m 378 ls [.int a, .int a]) rfl ?_
  refine lv_icmp_eq (tgt := 857) hx hb dL_law_378 (by decide) (fun c1 => ?_) (fun c1 => absurd rfl c1)
  have hJ1 := hj _ _ hpx hpm
  have hP := lw_rot hP
  have hD := lw_rotD hD
  exact W.widen (by omega) (by omega) (K _ _ _ _ _ hl hJ1 hP hD hS)

set_option maxHeartbeats 4000000 in
theorem lw_c7 {p : Program} {l : Launch} {e : Env} {s : State} {m : MethodId} {below : List Frame} {meth : Method} {c : Code} {b L : Nat} {xs : Nat → Int32} {D : va_G} {cI cJ cZ cO : ClassId} {e0 mi sa : Nat} {H : Heap} {cells slots : Nat} {Q : State → Prop} {ls : Array Slot} {o z q i : Nat} {wX wM : va_W} {of : Nat → Int64}
    (C0 : lwC p s m meth c b L xs D cI cJ cZ cO e0 mi sa) (hroom : cells + 2 ≤ 601024 ∧ slots + 20 ≤ 7293034) (hi : i + 6 ≤ L) (hl : lv_has ls 7 [(0, .ref b), (1, .ref o), (2, .ref z), (3, .ref q), (4, .int (nI i))]) (hJ : lJ cI cJ cZ cO e0 o z wX wM)
    (hP : va_P D vwCl (wX ++ (wM ++ [(q, .inl (cJ, 1, .inr (.inl of)))])) H) (hD : va_D (lwA s) (wX ++ (wM ++ [(q, .inl (cJ, 1, .inr (.inl of)))]))) (hS : va_S (lwA s) s.heap H []) (K : lwK p l e s m below meth c b Q D cI cJ cZ cO e0 o z q i cells slots) :
    W p l e room_1 s m #[Value.ref b] below meth c H [] cells slots Q (F0 m 383 ls []) := by
  have hC := C0
  obtain ⟨hx, hb, hml, hown, hts, -, -, hK, hX, -, -, hL, -⟩ := hC
  obtain ⟨frx, lox, mcx, msx, frm, lom, a, pX, pM, hr, cx, cm, hj⟩ := j_minutes l D cI cJ cZ cO e0 mi o z wX wM hJ (xs (i + 1))
  obtain ⟨fX, hrX⟩ := lJ_rX hJ
  obtain ⟨fM, hrM⟩ := lJ_rM hJ
  refine lv_aload_n hx hb dL_law_383 rfl (lv_at hl 1 rfl) ?_
  refine lw_arg (k := 1) C0 hS hl dL_law_384 dL_law_385 dL_law_387 rfl dL_law_388 dL_law_389 (by omega) ?_
  refine lw_go (va_runV (As := [.int (xs (i + 1))]) (rest := []) ⟨hx, hb, hml, hown, hts⟩ (cx _) (cwV 1 hts gL_law_X7_minutes rfl rfl rfl (by decide +kernel) ⟨(by show frx + 1 ≤ 2048; omega), (by show 8 + (2 + 11) + lox ≤ 84000; omega)⟩) (kPreVX (ci := 8) (q0 := 0) hK hX hS (kFre hD hS (fun _ h => h)) (kPA hP) ((kDA hD).weaken (fun _ _ _ _ => trivial)) rfl hrX rfl) rfl rfl hl.1 rfl (lv_room (Nat.le_of_ble_eq_true rfl)) dL_law_390 ⟨(by show cells + mcx ≤ 601024; omega), (by show slots + msx ≤ 7293034; omega)⟩) hP hD hS (fun v_390 w_390 H hv_390 hP hD hS => ?_)
  obtain ⟨rfl, hpx⟩ := hv_390
  refine W.eq (g2 := F0 m 393 ls [.int a]) rfl ?_
  have hP : va_P D vwCl (wM ++ ([(q, .inl (cJ, 1, .inr (.inl of)))] ++ w_390)) H := by rw [← List.append_assoc]; exact hP
  have hD : va_D (lwA s) (wM ++ ([(q, .inl (cJ, 1, .inr (.inl of)))] ++ w_390)) := by rw [← List.append_assoc]; exact hD
  refine lv_aload_n hx hb dL_law_393 rfl (lv_at hl 2 rfl) ?_
  refine lw_arg (k := 1) C0 hS hl dL_law_394 dL_law_395 dL_law_397 rfl dL_law_398 dL_law_399 (by omega) ?_
  refine lw_go (va_runV (As := [.int (xs (i + 1))]) (rest := [.int a]) ⟨hx, hb, hml, hown, hts⟩ (cm _) (cwV 1 hts gL_law_X8_minutes rfl rfl rfl (by decide +kernel) ⟨(by show frm + 1 ≤ 2048; omega), (by show 8 + (2 + 11) + lom ≤ 84000; omega)⟩) (kPreVX (ci := 9) (q0 := 0) hK hX hS (kFre hD hS (fun _ h => h)) (kPA hP) ((kDA hD).weaken (fun _ _ _ _ => trivial)) rfl hrM rfl) rfl rfl hl.1 rfl (lv_room (Nat.le_of_ble_eq_true rfl)) dL_law_400 ⟨(by show (cells + mcx) + 0 ≤ 601024; omega), (by show (slots + msx) + 0 ≤ 7293034; omega)⟩) hP hD hS (fun v_400 w_400 H hv_400 hP hD hS => ?_)
  obtain ⟨rfl, hpm⟩ := hv_400
  refine W.eq (g2 := F0 m 403 ls [.int a, .int a]) rfl ?_
  refine lv_icmp_eq (tgt := 857) hx hb dL_law_403 (by decide) (fun c1 => ?_) (fun c1 => absurd rfl c1)
  have hJ1 := hj _ _ hpx hpm
  have hP := lw_rot hP
  have hD := lw_rotD hD
  exact W.widen (by omega) (by omega) (K _ _ _ _ _ hl hJ1 hP hD hS)

set_option maxHeartbeats 4000000 in
theorem lw_c8 {p : Program} {l : Launch} {e : Env} {s : State} {m : MethodId} {below : List Frame} {meth : Method} {c : Code} {b L : Nat} {xs : Nat → Int32} {D : va_G} {cI cJ cZ cO : ClassId} {e0 mi sa : Nat} {H : Heap} {cells slots : Nat} {Q : State → Prop} {ls : Array Slot} {o z q i : Nat} {wX wM : va_W} {of : Nat → Int64}
    (C0 : lwC p s m meth c b L xs D cI cJ cZ cO e0 mi sa) (hroom : cells + 2 ≤ 601024 ∧ slots + 20 ≤ 7293034) (hi : i + 6 ≤ L) (hl : lv_has ls 7 [(0, .ref b), (1, .ref o), (2, .ref z), (3, .ref q), (4, .int (nI i))]) (hJ : lJ cI cJ cZ cO e0 o z wX wM)
    (hP : va_P D vwCl (wX ++ (wM ++ [(q, .inl (cJ, 1, .inr (.inl of)))])) H) (hD : va_D (lwA s) (wX ++ (wM ++ [(q, .inl (cJ, 1, .inr (.inl of)))]))) (hS : va_S (lwA s) s.heap H []) (K : lwK p l e s m below meth c b Q D cI cJ cZ cO e0 o z q i cells slots) :
    W p l e room_1 s m #[Value.ref b] below meth c H [] cells slots Q (F0 m 408 ls []) := by
  have hC := C0
  obtain ⟨hx, hb, hml, hown, hts, -, -, hK, hX, -, -, hL, -⟩ := hC
  obtain ⟨frx, lox, mcx, msx, frm, lom, a, pX, pM, hr, cx, cm, hj⟩ := j_can l D cI cJ cZ cO e0 mi o z wX wM hJ (xs (i + 1))
  obtain ⟨fX, hrX⟩ := lJ_rX hJ
  obtain ⟨fM, hrM⟩ := lJ_rM hJ
  refine lv_aload_n hx hb dL_law_408 rfl (lv_at hl 1 rfl) ?_
  refine lw_arg (k := 1) C0 hS hl dL_law_409 dL_law_410 dL_law_412 rfl dL_law_413 dL_law_414 (by omega) ?_
  refine lw_go (va_runV (As := [.int (xs (i + 1))]) (rest := []) ⟨hx, hb, hml, hown, hts⟩ (cx _) (cwV 1 hts gL_law_X7_can rfl rfl rfl (by decide +kernel) ⟨(by show frx + 1 ≤ 2048; omega), (by show 8 + (3 + 11) + lox ≤ 84000; omega)⟩) (kPreVX (ci := 8) (q0 := 0) hK hX hS (kFre hD hS (fun _ h => h)) (kPA hP) ((kDA hD).weaken (fun _ _ _ _ => trivial)) rfl hrX rfl) rfl rfl hl.1 rfl (lv_room (Nat.le_of_ble_eq_true rfl)) dL_law_415 ⟨(by show cells + mcx ≤ 601024; omega), (by show slots + msx ≤ 7293034; omega)⟩) hP hD hS (fun v_415 w_415 H hv_415 hP hD hS => ?_)
  obtain ⟨rfl, hpx⟩ := hv_415
  refine W.eq (g2 := F0 m 418 ls [.int a]) rfl ?_
  have hP : va_P D vwCl (wM ++ ([(q, .inl (cJ, 1, .inr (.inl of)))] ++ w_415)) H := by rw [← List.append_assoc]; exact hP
  have hD : va_D (lwA s) (wM ++ ([(q, .inl (cJ, 1, .inr (.inl of)))] ++ w_415)) := by rw [← List.append_assoc]; exact hD
  refine lv_aload_n hx hb dL_law_418 rfl (lv_at hl 2 rfl) ?_
  refine lw_arg (k := 1) C0 hS hl dL_law_419 dL_law_420 dL_law_422 rfl dL_law_423 dL_law_424 (by omega) ?_
  refine lw_go (va_runV (As := [.int (xs (i + 1))]) (rest := [.int a]) ⟨hx, hb, hml, hown, hts⟩ (cm _) (cwV 1 hts gL_law_X8_can rfl rfl rfl (by decide +kernel) ⟨(by show frm + 1 ≤ 2048; omega), (by show 8 + (2 + 11) + lom ≤ 84000; omega)⟩) (kPreVX (ci := 9) (q0 := 0) hK hX hS (kFre hD hS (fun _ h => h)) (kPA hP) ((kDA hD).weaken (fun _ _ _ _ => trivial)) rfl hrM rfl) rfl rfl hl.1 rfl (lv_room (Nat.le_of_ble_eq_true rfl)) dL_law_425 ⟨(by show (cells + mcx) + 0 ≤ 601024; omega), (by show (slots + msx) + 0 ≤ 7293034; omega)⟩) hP hD hS (fun v_425 w_425 H hv_425 hP hD hS => ?_)
  obtain ⟨rfl, hpm⟩ := hv_425
  refine W.eq (g2 := F0 m 428 ls [.int a, .int a]) rfl ?_
  refine lv_icmp_eq (tgt := 857) hx hb dL_law_428 (by decide) (fun c1 => ?_) (fun c1 => absurd rfl c1)
  have hJ1 := hj _ _ hpx hpm
  have hP := lw_rot hP
  have hD := lw_rotD hD
  exact W.widen (by omega) (by omega) (K _ _ _ _ _ hl hJ1 hP hD hS)

set_option maxHeartbeats 4000000 in
theorem lw_c9 {p : Program} {l : Launch} {e : Env} {s : State} {m : MethodId} {below : List Frame} {meth : Method} {c : Code} {b L : Nat} {xs : Nat → Int32} {D : va_G} {cI cJ cZ cO : ClassId} {e0 mi sa : Nat} {H : Heap} {cells slots : Nat} {Q : State → Prop} {ls : Array Slot} {o z q i : Nat} {wX wM : va_W} {of : Nat → Int64}
    (C0 : lwC p s m meth c b L xs D cI cJ cZ cO e0 mi sa) (hroom : cells + 2 ≤ 601024 ∧ slots + 20 ≤ 7293034) (hi : i + 6 ≤ L) (hl : lv_has ls 7 [(0, .ref b), (1, .ref o), (2, .ref z), (3, .ref q), (4, .int (nI i))]) (hJ : lJ cI cJ cZ cO e0 o z wX wM)
    (hP : va_P D vwCl (wX ++ (wM ++ [(q, .inl (cJ, 1, .inr (.inl of)))])) H) (hD : va_D (lwA s) (wX ++ (wM ++ [(q, .inl (cJ, 1, .inr (.inl of)))]))) (hS : va_S (lwA s) s.heap H []) (K : lwK p l e s m below meth c b Q D cI cJ cZ cO e0 o z q i cells slots) :
    W p l e room_1 s m #[Value.ref b] below meth c H [] cells slots Q (F0 m 433 ls []) := by
  have hC := C0
  obtain ⟨hx, hb, hml, hown, hts, -, -, hK, hX, -, -, hL, -⟩ := hC
  obtain ⟨frx, lox, mcx, msx, frm, lom, a, pX, pM, hr, cx, cm, hj⟩ := j_done l D cI cJ cZ cO e0 mi o z wX wM hJ (xs (i + 1))
  obtain ⟨fX, hrX⟩ := lJ_rX hJ
  obtain ⟨fM, hrM⟩ := lJ_rM hJ
  refine lv_aload_n hx hb dL_law_433 rfl (lv_at hl 1 rfl) ?_
  refine lw_arg (k := 1) C0 hS hl dL_law_434 dL_law_435 dL_law_437 rfl dL_law_438 dL_law_439 (by omega) ?_
  refine lw_go (va_runV (As := [.int (xs (i + 1))]) (rest := []) ⟨hx, hb, hml, hown, hts⟩ (cx _) (cwV 1 hts gL_law_X7_done rfl rfl rfl (by decide +kernel) ⟨(by show frx + 1 ≤ 2048; omega), (by show 8 + (3 + 11) + lox ≤ 84000; omega)⟩) (kPreVX (ci := 8) (q0 := 0) hK hX hS (kFre hD hS (fun _ h => h)) (kPA hP) ((kDA hD).weaken (fun _ _ _ _ => trivial)) rfl hrX rfl) rfl rfl hl.1 rfl (lv_room (Nat.le_of_ble_eq_true rfl)) dL_law_440 ⟨(by show cells + mcx ≤ 601024; omega), (by show slots + msx ≤ 7293034; omega)⟩) hP hD hS (fun v_440 w_440 H hv_440 hP hD hS => ?_)
  obtain ⟨rfl, hpx⟩ := hv_440
  refine W.eq (g2 := F0 m 443 ls [.int a]) rfl ?_
  have hP : va_P D vwCl (wM ++ ([(q, .inl (cJ, 1, .inr (.inl of)))] ++ w_440)) H := by rw [← List.append_assoc]; exact hP
  have hD : va_D (lwA s) (wM ++ ([(q, .inl (cJ, 1, .inr (.inl of)))] ++ w_440)) := by rw [← List.append_assoc]; exact hD
  refine lv_aload_n hx hb dL_law_443 rfl (lv_at hl 2 rfl) ?_
  refine lw_arg (k := 1) C0 hS hl dL_law_444 dL_law_445 dL_law_447 rfl dL_law_448 dL_law_449 (by omega) ?_
  refine lw_go (va_runV (As := [.int (xs (i + 1))]) (rest := [.int a]) ⟨hx, hb, hml, hown, hts⟩ (cm _) (cwV 1 hts gL_law_X8_done rfl rfl rfl (by decide +kernel) ⟨(by show frm + 1 ≤ 2048; omega), (by show 8 + (2 + 11) + lom ≤ 84000; omega)⟩) (kPreVX (ci := 9) (q0 := 0) hK hX hS (kFre hD hS (fun _ h => h)) (kPA hP) ((kDA hD).weaken (fun _ _ _ _ => trivial)) rfl hrM rfl) rfl rfl hl.1 rfl (lv_room (Nat.le_of_ble_eq_true rfl)) dL_law_450 ⟨(by show (cells + mcx) + 0 ≤ 601024; omega), (by show (slots + msx) + 0 ≤ 7293034; omega)⟩) hP hD hS (fun v_450 w_450 H hv_450 hP hD hS => ?_)
  obtain ⟨rfl, hpm⟩ := hv_450
  refine W.eq (g2 := F0 m 453 ls [.int a, .int a]) rfl ?_
  refine lv_icmp_eq (tgt := 857) hx hb dL_law_453 (by decide) (fun c1 => ?_) (fun c1 => absurd rfl c1)
  have hJ1 := hj _ _ hpx hpm
  have hP := lw_rot hP
  have hD := lw_rotD hD
  exact W.widen (by omega) (by omega) (K _ _ _ _ _ hl hJ1 hP hD hS)

set_option maxHeartbeats 4000000 in
theorem lw_c10 {p : Program} {l : Launch} {e : Env} {s : State} {m : MethodId} {below : List Frame} {meth : Method} {c : Code} {b L : Nat} {xs : Nat → Int32} {D : va_G} {cI cJ cZ cO : ClassId} {e0 mi sa : Nat} {H : Heap} {cells slots : Nat} {Q : State → Prop} {ls : Array Slot} {o z q i : Nat} {wX wM : va_W} {of : Nat → Int64}
    (C0 : lwC p s m meth c b L xs D cI cJ cZ cO e0 mi sa) (hroom : cells + 2 ≤ 601024 ∧ slots + 20 ≤ 7293034) (hi : i + 6 ≤ L) (hl : lv_has ls 7 [(0, .ref b), (1, .ref o), (2, .ref z), (3, .ref q), (4, .int (nI i))]) (hJ : lJ cI cJ cZ cO e0 o z wX wM)
    (hP : va_P D vwCl (wX ++ (wM ++ [(q, .inl (cJ, 1, .inr (.inl of)))])) H) (hD : va_D (lwA s) (wX ++ (wM ++ [(q, .inl (cJ, 1, .inr (.inl of)))]))) (hS : va_S (lwA s) s.heap H []) (K : lwK p l e s m below meth c b Q D cI cJ cZ cO e0 o z q i cells slots) :
    W p l e room_1 s m #[Value.ref b] below meth c H [] cells slots Q (F0 m 458 ls []) := by
  have hC := C0
  obtain ⟨hx, hb, hml, hown, hts, -, -, hK, hX, -, -, hL, -⟩ := hC
  obtain ⟨frx, lox, mcx, msx, frm, lom, a, pX, pM, hr, cx, cm, hj⟩ := j_way l D cI cJ cZ cO e0 mi o z wX wM hJ (xs (i + 1))
  obtain ⟨fX, hrX⟩ := lJ_rX hJ
  obtain ⟨fM, hrM⟩ := lJ_rM hJ
  refine lv_aload_n hx hb dL_law_458 rfl (lv_at hl 1 rfl) ?_
  refine lw_arg (k := 1) C0 hS hl dL_law_459 dL_law_460 dL_law_462 rfl dL_law_463 dL_law_464 (by omega) ?_
  refine lw_go (va_runV (As := [.int (xs (i + 1))]) (rest := []) ⟨hx, hb, hml, hown, hts⟩ (cx _) (cwV 1 hts gL_law_X7_way rfl rfl rfl (by decide +kernel) ⟨(by show frx + 1 ≤ 2048; omega), (by show 8 + (3 + 11) + lox ≤ 84000; omega)⟩) (kPreVX (ci := 8) (q0 := 0) hK hX hS (kFre hD hS (fun _ h => h)) (kPA hP) ((kDA hD).weaken (fun _ _ _ _ => trivial)) rfl hrX rfl) rfl rfl hl.1 rfl (lv_room (Nat.le_of_ble_eq_true rfl)) dL_law_465 ⟨(by show cells + mcx ≤ 601024; omega), (by show slots + msx ≤ 7293034; omega)⟩) hP hD hS (fun v_465 w_465 H hv_465 hP hD hS => ?_)
  obtain ⟨rfl, hpx⟩ := hv_465
  refine W.eq (g2 := F0 m 468 ls [.int a]) rfl ?_
  have hP : va_P D vwCl (wM ++ ([(q, .inl (cJ, 1, .inr (.inl of)))] ++ w_465)) H := by rw [← List.append_assoc]; exact hP
  have hD : va_D (lwA s) (wM ++ ([(q, .inl (cJ, 1, .inr (.inl of)))] ++ w_465)) := by rw [← List.append_assoc]; exact hD
  refine lv_aload_n hx hb dL_law_468 rfl (lv_at hl 2 rfl) ?_
  refine lw_arg (k := 1) C0 hS hl dL_law_469 dL_law_470 dL_law_472 rfl dL_law_473 dL_law_474 (by omega) ?_
  refine lw_go (va_runV (As := [.int (xs (i + 1))]) (rest := [.int a]) ⟨hx, hb, hml, hown, hts⟩ (cm _) (cwV 1 hts gL_law_X8_way rfl rfl rfl (by decide +kernel) ⟨(by show frm + 1 ≤ 2048; omega), (by show 8 + (6 + 11) + lom ≤ 84000; omega)⟩) (kPreVX (ci := 9) (q0 := 0) hK hX hS (kFre hD hS (fun _ h => h)) (kPA hP) ((kDA hD).weaken (fun _ _ _ _ => trivial)) rfl hrM rfl) rfl rfl hl.1 rfl (lv_room (Nat.le_of_ble_eq_true rfl)) dL_law_475 ⟨(by show (cells + mcx) + 0 ≤ 601024; omega), (by show (slots + msx) + 0 ≤ 7293034; omega)⟩) hP hD hS (fun v_475 w_475 H hv_475 hP hD hS => ?_)
  obtain ⟨rfl, hpm⟩ := hv_475
  refine W.eq (g2 := F0 m 478 ls [.int a, .int a]) rfl ?_
  refine lv_icmp_eq (tgt := 857) hx hb dL_law_478 (by decide) (fun c1 => ?_) (fun c1 => absurd rfl c1)
  have hJ1 := hj _ _ hpx hpm
  have hP := lw_rot hP
  have hD := lw_rotD hD
  exact W.widen (by omega) (by omega) (K _ _ _ _ _ hl hJ1 hP hD hS)

set_option maxHeartbeats 4000000 in
theorem lw_c11 {p : Program} {l : Launch} {e : Env} {s : State} {m : MethodId} {below : List Frame} {meth : Method} {c : Code} {b L : Nat} {xs : Nat → Int32} {D : va_G} {cI cJ cZ cO : ClassId} {e0 mi sa : Nat} {H : Heap} {cells slots : Nat} {Q : State → Prop} {ls : Array Slot} {o z q i : Nat} {wX wM : va_W} {of : Nat → Int64}
    (C0 : lwC p s m meth c b L xs D cI cJ cZ cO e0 mi sa) (hroom : cells + 2 ≤ 601024 ∧ slots + 20 ≤ 7293034) (hi : i + 6 ≤ L) (hl : lv_has ls 7 [(0, .ref b), (1, .ref o), (2, .ref z), (3, .ref q), (4, .int (nI i))]) (hJ : lJ cI cJ cZ cO e0 o z wX wM)
    (hP : va_P D vwCl (wX ++ (wM ++ [(q, .inl (cJ, 1, .inr (.inl of)))])) H) (hD : va_D (lwA s) (wX ++ (wM ++ [(q, .inl (cJ, 1, .inr (.inl of)))]))) (hS : va_S (lwA s) s.heap H []) (K : lwK p l e s m below meth c b Q D cI cJ cZ cO e0 o z q i cells slots) :
    W p l e room_1 s m #[Value.ref b] below meth c H [] cells slots Q (F0 m 483 ls []) := by
  have hC := C0
  obtain ⟨hx, hb, hml, hown, hts, -, -, hK, hX, -, -, hL, -⟩ := hC
  obtain ⟨frx, lox, mcx, msx, frm, lom, a, pX, pM, hr, cx, cm, hj⟩ := j_step l D cI cJ cZ cO e0 mi o z wX wM hJ (xs (i + 1))
  obtain ⟨fX, hrX⟩ := lJ_rX hJ
  obtain ⟨fM, hrM⟩ := lJ_rM hJ
  refine lv_aload_n hx hb dL_law_483 rfl (lv_at hl 1 rfl) ?_
  refine lw_arg (k := 1) C0 hS hl dL_law_484 dL_law_485 dL_law_487 rfl dL_law_488 dL_law_489 (by omega) ?_
  refine lw_go (va_runV (As := [.int (xs (i + 1))]) (rest := []) ⟨hx, hb, hml, hown, hts⟩ (cx _) (cwV 1 hts gL_law_X7_step rfl rfl rfl (by decide +kernel) ⟨(by show frx + 1 ≤ 2048; omega), (by show 8 + (2 + 11) + lox ≤ 84000; omega)⟩) (kPreVX (ci := 8) (q0 := 0) hK hX hS (kFre hD hS (fun _ h => h)) (kPA hP) ((kDA hD).weaken (fun _ _ _ _ => trivial)) rfl hrX rfl) rfl rfl hl.1 rfl (lv_room (Nat.le_of_ble_eq_true rfl)) dL_law_490 ⟨(by show cells + mcx ≤ 601024; omega), (by show slots + msx ≤ 7293034; omega)⟩) hP hD hS (fun v_490 w_490 H hv_490 hP hD hS => ?_)
  obtain ⟨rfl, hpx⟩ := hv_490
  refine W.eq (g2 := F0 m 493 ls [.int a]) rfl ?_
  have hP : va_P D vwCl (wM ++ ([(q, .inl (cJ, 1, .inr (.inl of)))] ++ w_490)) H := by rw [← List.append_assoc]; exact hP
  have hD : va_D (lwA s) (wM ++ ([(q, .inl (cJ, 1, .inr (.inl of)))] ++ w_490)) := by rw [← List.append_assoc]; exact hD
  refine lv_aload_n hx hb dL_law_493 rfl (lv_at hl 2 rfl) ?_
  refine lw_arg (k := 1) C0 hS hl dL_law_494 dL_law_495 dL_law_497 rfl dL_law_498 dL_law_499 (by omega) ?_
  refine lw_go (va_runV (As := [.int (xs (i + 1))]) (rest := [.int a]) ⟨hx, hb, hml, hown, hts⟩ (cm _) (cwV 1 hts gL_law_X8_step rfl rfl rfl (by decide +kernel) ⟨(by show frm + 1 ≤ 2048; omega), (by show 8 + (2 + 11) + lom ≤ 84000; omega)⟩) (kPreVX (ci := 9) (q0 := 0) hK hX hS (kFre hD hS (fun _ h => h)) (kPA hP) ((kDA hD).weaken (fun _ _ _ _ => trivial)) rfl hrM rfl) rfl rfl hl.1 rfl (lv_room (Nat.le_of_ble_eq_true rfl)) dL_law_500 ⟨(by show (cells + mcx) + 0 ≤ 601024; omega), (by show (slots + msx) + 0 ≤ 7293034; omega)⟩) hP hD hS (fun v_500 w_500 H hv_500 hP hD hS => ?_)
  obtain ⟨rfl, hpm⟩ := hv_500
  refine W.eq (g2 := F0 m 503 ls [.int a, .int a]) rfl ?_
  refine lv_icmp_eq (tgt := 857) hx hb dL_law_503 (by decide) (fun c1 => ?_) (fun c1 => absurd rfl c1)
  have hJ1 := hj _ _ hpx hpm
  have hP := lw_rot hP
  have hD := lw_rotD hD
  exact W.widen (by omega) (by omega) (K _ _ _ _ _ hl hJ1 hP hD hS)

set_option maxHeartbeats 4000000 in
theorem lw_c12 {p : Program} {l : Launch} {e : Env} {s : State} {m : MethodId} {below : List Frame} {meth : Method} {c : Code} {b L : Nat} {xs : Nat → Int32} {D : va_G} {cI cJ cZ cO : ClassId} {e0 mi sa : Nat} {H : Heap} {cells slots : Nat} {Q : State → Prop} {ls : Array Slot} {o z q i : Nat} {wX wM : va_W} {of : Nat → Int64}
    (C0 : lwC p s m meth c b L xs D cI cJ cZ cO e0 mi sa) (hroom : cells + 2 ≤ 601024 ∧ slots + 20 ≤ 7293034) (hi : i + 6 ≤ L) (hl : lv_has ls 7 [(0, .ref b), (1, .ref o), (2, .ref z), (3, .ref q), (4, .int (nI i))]) (hJ : lJ cI cJ cZ cO e0 o z wX wM)
    (hP : va_P D vwCl (wX ++ (wM ++ [(q, .inl (cJ, 1, .inr (.inl of)))])) H) (hD : va_D (lwA s) (wX ++ (wM ++ [(q, .inl (cJ, 1, .inr (.inl of)))]))) (hS : va_S (lwA s) s.heap H []) (K : lwK p l e s m below meth c b Q D cI cJ cZ cO e0 o z q i cells slots) :
    W p l e room_1 s m #[Value.ref b] below meth c H [] cells slots Q (F0 m 508 ls []) := by
  have hC := C0
  obtain ⟨hx, hb, hml, hown, hts, -, -, hK, hX, -, -, hL, -⟩ := hC
  obtain ⟨frx, lox, mcx, msx, frm, lom, a, pX, pM, hr, cx, cm, hj⟩ := j_most l D cI cJ cZ cO e0 mi o z wX wM hJ (xs (i + 1))
  obtain ⟨fX, hrX⟩ := lJ_rX hJ
  obtain ⟨fM, hrM⟩ := lJ_rM hJ
  refine lv_aload_n hx hb dL_law_508 rfl (lv_at hl 1 rfl) ?_
  refine lw_arg (k := 1) C0 hS hl dL_law_509 dL_law_510 dL_law_512 rfl dL_law_513 dL_law_514 (by omega) ?_
  refine lw_go (va_runV (As := [.int (xs (i + 1))]) (rest := []) ⟨hx, hb, hml, hown, hts⟩ (cx _) (cwV 1 hts gL_law_X7_most rfl rfl rfl (by decide +kernel) ⟨(by show frx + 1 ≤ 2048; omega), (by show 8 + (3 + 11) + lox ≤ 84000; omega)⟩) (kPreVX (ci := 8) (q0 := 0) hK hX hS (kFre hD hS (fun _ h => h)) (kPA hP) ((kDA hD).weaken (fun _ _ _ _ => trivial)) rfl hrX rfl) rfl rfl hl.1 rfl (lv_room (Nat.le_of_ble_eq_true rfl)) dL_law_515 ⟨(by show cells + mcx ≤ 601024; omega), (by show slots + msx ≤ 7293034; omega)⟩) hP hD hS (fun v_515 w_515 H hv_515 hP hD hS => ?_)
  obtain ⟨rfl, hpx⟩ := hv_515
  refine W.eq (g2 := F0 m 518 ls [.int a]) rfl ?_
  have hP : va_P D vwCl (wM ++ ([(q, .inl (cJ, 1, .inr (.inl of)))] ++ w_515)) H := by rw [← List.append_assoc]; exact hP
  have hD : va_D (lwA s) (wM ++ ([(q, .inl (cJ, 1, .inr (.inl of)))] ++ w_515)) := by rw [← List.append_assoc]; exact hD
  refine lv_aload_n hx hb dL_law_518 rfl (lv_at hl 2 rfl) ?_
  refine lw_arg (k := 1) C0 hS hl dL_law_519 dL_law_520 dL_law_522 rfl dL_law_523 dL_law_524 (by omega) ?_
  refine lw_go (va_runV (As := [.int (xs (i + 1))]) (rest := [.int a]) ⟨hx, hb, hml, hown, hts⟩ (cm _) (cwV 1 hts gL_law_X8_most rfl rfl rfl (by decide +kernel) ⟨(by show frm + 1 ≤ 2048; omega), (by show 8 + (9 + 11) + lom ≤ 84000; omega)⟩) (kPreVX (ci := 9) (q0 := 0) hK hX hS (kFre hD hS (fun _ h => h)) (kPA hP) ((kDA hD).weaken (fun _ _ _ _ => trivial)) rfl hrM rfl) rfl rfl hl.1 rfl (lv_room (Nat.le_of_ble_eq_true rfl)) dL_law_525 ⟨(by show (cells + mcx) + 0 ≤ 601024; omega), (by show (slots + msx) + 0 ≤ 7293034; omega)⟩) hP hD hS (fun v_525 w_525 H hv_525 hP hD hS => ?_)
  obtain ⟨rfl, hpm⟩ := hv_525
  refine W.eq (g2 := F0 m 528 ls [.int a, .int a]) rfl ?_
  refine lv_icmp_eq (tgt := 857) hx hb dL_law_528 (by decide) (fun c1 => ?_) (fun c1 => absurd rfl c1)
  have hJ1 := hj _ _ hpx hpm
  have hP := lw_rot hP
  have hD := lw_rotD hD
  exact W.widen (by omega) (by omega) (K _ _ _ _ _ hl hJ1 hP hD hS)
