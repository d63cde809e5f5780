/-! ===== the law's walk: what every case needs ===== -/
abbrev lwA (s : State) : Nat → Prop := fun q => s.heap.size ≤ q
def lwC (p : Program) (s : State) (m : MethodId) (meth : Method) (c : Code) (b L : Nat) (xs : Nat → Int32) (D : va_G) (cI cJ cZ cO : ClassId) (e0 mi sa : Nat) : Prop :=
  p.tables.exec = Jvm.exec ∧ c.code = cL_law ∧ c.maxLocals = 7 ∧ s.vm.findClass RL = some m.cls ∧ (∀ w ∈ wsL_law0, w.before #[Value.ref b] s = true) ∧ va_X b L xs s s.heap ∧ b < s.heap.size ∧ kK D (kTY cI cJ cZ cO) s ∧ kX e0 mi (lwA s) s s.heap ∧ kY2 sa (lwA s) s s.heap ∧ meth.locks = false ∧ L ≤ 3072 ∧ ∀ w ∈ wsL_law2, w.before #[Value.ref b] s = true
section LWF
variable {p : Program} {l : Launch} {e : Env} {s : State} {m : MethodId} {below : List Frame} {meth : Method} {c : Code} {b L : Nat} {xs : Nat → Int32} {D : va_G} {cI cJ cZ cO : ClassId} {e0 mi sa : Nat} {H : Heap} {cells slots : Nat} {Q : State → Prop} {ls : Array Slot} {rest st0 : List Value} {o z q i pc : Nat}
/-- behind a case: the worlds side by side again, two cells and twenty slots dearer at most -/
def lwK (p : Program) (l : Launch) (e : Env) (s : State) (m : MethodId) (below : List Frame) (meth : Method) (c : Code) (b : Nat) (Q : State → Prop) (D : va_G) (cI cJ cZ cO : ClassId) (e0 o z q i cells slots : Nat) : Prop :=
  ∀ (H1 : Heap) (wX wM : va_W) (of : Nat → Int64) (ls : Array Slot), lv_has ls 7 [(0, .ref b), (1, .ref o), (2, .ref z), (3, .ref q), (4, .int (nI i))] → lJ cI cJ cZ cO e0 o z wX wM → va_P D vwCl (wX ++ (wM ++ [(q, .inl (cJ, 1, .inr (.inl of)))])) H1 → va_D (lwA s) (wX ++ (wM ++ [(q, .inl (cJ, 1, .inr (.inl of)))])) → va_S (lwA s) s.heap H1 [] →
    W p l e room_1 s m #[Value.ref b] below meth c H1 [] (cells + 2) (slots + 20) Q (F0 m 857 ls [])
theorem lw_arg {k : Nat} {kI : Int} (C0 : lwC p s m meth c b L xs D cI cJ cZ cO e0 mi sa) (hS : va_S (lwA s) s.heap H []) (hl : lv_has ls 7 [(0, .ref b), (1, .ref o), (2, .ref z), (3, .ref q), (4, .int (nI i))])
    (d0 : decode cL_law pc = .ok (.aload_n 0, 1)) (d1 : decode cL_law (pc + 1) = .ok (.iload 4, 2)) (d2 : decode cL_law (pc + 3) = .ok (.iconst kI, 1)) (hk : Int32.ofInt kI = nI k) (d3 : decode cL_law (pc + 4) = .ok (.iadd, 1)) (d4 : decode cL_law (pc + 5) = .ok (.iaload, 1)) (hi : i + k < L)
    (kk : W p l e room_1 s m #[Value.ref b] below meth c H [] cells slots Q (F0 m (pc + 6) ls (.int (xs (i + k)) :: rest))) : W p l e room_1 s m #[Value.ref b] below meth c H [] cells slots Q (F0 m pc ls rest) := by
  obtain ⟨hx, hb, -, -, -, hX, hbl, -, -, -, -, hL, -⟩ := C0
  refine lv_aload_n hx hb d0 rfl (lv_at hl 0 rfl) ?_
  refine lv_iload hx hb d1 (lv_at hl 4 rfl) ?_
  refine lv_iconst hx hb d2 hk ?_
  refine lv_iadd hx hb d3 ?_
  rw [nI_add]
  refine va_sld hx hb hX hbl (fun h => absurd hbl (Nat.not_lt.mpr h)) hS (vp_in_nI hi (by omega)) d4 ?_
  rw [nI_clamp (by omega)]
  exact kk
/-- behind a call over the first of two worlds -/
theorem lw_go {post : Option Value → va_W → Prop} {wc wr : va_W} {mc ms : Nat} {a : Array Value} (hr : va_Run p l e room_1 s m #[Value.ref b] below meth c H [] cells slots mc ms (F0 m pc ls st0) rest (kQ D wc H.size post a) (va_A wc H.size))
    (hP : va_P D vwCl (wc ++ wr) H) (hD : va_D (lwA s) (wc ++ wr)) (hS : va_S (lwA s) s.heap H [])
    (kk : ∀ (v : Option Value) (w1 : va_W) (H1 : Heap), post v w1 → va_P D vwCl (wr ++ w1) H1 → va_D (lwA s) (wr ++ w1) → va_S (lwA s) s.heap H1 [] → W p l e room_1 s m #[Value.ref b] below meth c H1 [] (cells + mc) (slots + ms) Q (F0 m (pc + 3) ls (v.toList ++ rest))) : W p l e room_1 s m #[Value.ref b] below meth c H [] cells slots Q (F0 m pc ls st0) := by
  intro T hT X
  obtain ⟨v, st₀, t, T', L', h0, X', hL, e1, e2, ⟨⟨v2, w1, hv, hp, hP1, hD1⟩, hz, hk⟩, st⟩ := hr T hT X
  cases hv
  rw [h0] at hz hk
  have hF : ∀ q, va_A wc H.size q → lwA s q := kFre hD hS (fun _ h => h)
  have hk1 : ∀ q : Nat, q < H.size → ¬ va_A wc H.size q → T'.heap[q]? = H[q]? := fun q h1 h2 => by rw [e1]; exact hk q h1 h2
  obtain ⟨j1, j2⟩ := kJoin hP hD hF hk1 (by rw [e1]; exact hP1) hD1
  have hS2 := kS_call hS (by rw [e1]; exact hz) hk1 hF hL
  obtain ⟨t2, a1, b1⟩ := kk v w1 T'.heap hp j1 j2 ⟨hS2.1, hS2.2.1, fun _ h => nomatch h⟩ T' rfl (Stand.forget (locs := []) X' (fun z hz => hF _ (hL z hz)))
  exact ⟨t2, st t2 a1, b1⟩
end LWF
/-- the receivers -/
theorem lJ_rX {cI cJ cZ cO : ClassId} {e0 o z : Nat} {wX wM : va_W} (h : lJ cI cJ cZ cO e0 o z wX wM) : ∃ fs, wX[0]? = some (o, .inr (8, fs)) := by
  obtain ⟨T, wN, iN, P, nN, eN, gN, sN, pN, pa, K, rn, rN, mN, ln, dN, aN, -, hX, -⟩ := h
  obtain ⟨t0, h0, w0, r0, k0, s0, t1, t2, la, w1, w2, r1, k1, k2, k3, k4, k5, s1, s2, mo, N0, dn, ea, cap, al, LP, pf, ad, f, g, rf, lf, df, sf, sg, ns, am, rfl, -⟩ := hX
  exact ⟨_, rfl⟩
theorem lJ_rM {cI cJ cZ cO : ClassId} {e0 o z : Nat} {wX wM : va_W} (h : lJ cI cJ cZ cO e0 o z wX wM) : ∃ fs, wM[0]? = some (z, .inr (9, fs)) := by
  obtain ⟨T, wN, iN, P, nN, eN, gN, sN, pN, pa, K, rn, rN, mN, ln, dN, aN, -, -, hM⟩ := h
  obtain ⟨a0, a1, a2, a3, a4, a5, a6, a7, a8, a9, a10, a11, a12, a13, a14, a15, th, wt, ro, lb, pl, co, st, go, rr, rfl, -⟩ := hM
  exact ⟨_, rfl⟩
