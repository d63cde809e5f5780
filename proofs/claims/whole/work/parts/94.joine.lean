/-! ===== class and reference side by side: state ===== -/
def kCy (l : Launch) (D : va_G) (TY : List (ClassId × FieldType)) (sa : Nat) (y : MethodName) (ws : List Cond) (fr lo mc ms : Nat) (av : List Value) (w : va_W) (post : Option Value → va_W → Prop) : Prop :=
  ∀ sz : Nat, Met l y ws ({ frames := fr, cells := mc, slots := ms, locals := lo }) (va_Pc av (kPy2 D TY sa w sz)) (kQ D w sz post) mc ms (va_A w sz)
section KYF
variable {l : Launch} {D : va_G} {TY : List (ClassId × FieldType)} {sa : Nat} {y : MethodName} {ws : List Cond} {fr lo mc ms : Nat} {av : List Value}
theorem kYapp {wc wr w : va_W} {post post' : Option Value → va_W → Prop} (h : kCy l D TY sa y ws fr lo mc ms av wc post)
    (hPw : ∀ H, va_P D vwCl w H → va_P D vwCl (wc ++ wr) H) (hDw : ∀ A, va_D A w → va_D A (wc ++ wr)) (hAw : ∀ sz q, va_A wc sz q → va_A w sz q)
    (hp : ∀ v u, post v u → ∃ u', post' v u' ∧ (∀ H, va_P D vwCl (wr ++ u) H → va_P D vwCl u' H) ∧ (∀ A, va_D A (wr ++ u) → va_D A u')) : kCy l D TY sa y ws fr lo mc ms av w post' := fun sz => by
  refine MetFree.mono (h sz) (fun a s hv => ?_) (fun _ _ _ _ _ h => h) (fun a s o t hv hq => ?_)
  · obtain ⟨h1, ⟨h2, h3, h4, h5⟩, h6⟩ := hv
    exact ⟨h1, ⟨h2, kPA (hPw _ h3), h4, kDA (hDw _ h5)⟩, h6.use va_S.rf (hAw sz) (State.WarmedH.refl s) rfl⟩
  · obtain ⟨h1, ⟨h2, h3, h4, h5⟩, h6⟩ := hv
    obtain ⟨⟨⟨v, w1, e1, e2, e3, e4⟩, hz, hk⟩, L, hfe, hL⟩ := hq
    subst h2
    obtain ⟨j1, j2⟩ := kJoin (hPw _ h3) (hDw _ (h5.self (sz := s.heap.size))) (hAw s.heap.size) hk e3 e4
    obtain ⟨u', p1, p2, p3⟩ := hp v w1 e2
    exact ⟨⟨⟨v, u', e1, p1, p2 _ j1, p3 _ j2⟩, hz, fun q h9 hn => hk q h9 fun z => hn (hAw _ q z)⟩, L, hfe, fun z hz => hAw _ _ (hL z hz)⟩
/-- a pool in the midst, one cell behind it -/
theorem kYfr {X pl wc : va_W} {x : Nat × va_E} {post post' : Option Value → va_W → Prop} (h : kCy l D TY sa y ws fr lo mc ms av wc post) (isC isR : List Nat) (hC : isC.map (fun i => (X ++ [x])[i]?) = wc.map some) (hR : isR.map (fun i => (X ++ [x])[i]?) = (isR.filterMap (fun i => (X ++ [x])[i]?)).map some) (hn : va_nd (isC ++ isR) = true)
    (hp : ∀ v u, post v u → ∃ (X' : va_W) (x' : Nat × va_E) (is : List Nat), va_nd is = true ∧ is.map (fun i => ((isR.filterMap (fun i => (X ++ [x])[i]?)) ++ u)[i]?) = (X' ++ [x']).map some ∧ post' v ((X' ++ pl) ++ [x'])) : kCy l D TY sa y ws fr lo mc ms av ((X ++ pl) ++ [x]) post' := by
  have hCR : (isC ++ isR).map (fun i => (X ++ [x])[i]?) = (wc ++ (isR.filterMap (fun i => (X ++ [x])[i]?))).map some := by rw [List.map_append, List.map_append, hC, hR]
  refine kYapp (wr := (isR.filterMap (fun i => (X ++ [x])[i]?)) ++ pl) h (fun H hP => by rw [← List.append_assoc]; exact (va_P.swap hP).part _ hCR) (fun A hD => by rw [← List.append_assoc]; exact (va_D.swap hD).part _ hn hCR) (fun sz q hq => ?_) (fun v u hv => ?_)
  · rcases kAsub isC hC sz q hq with ⟨k, e, h⟩ | h
    · refine Or.inl ?_
      have hm : (q, e) ∈ X ++ [x] := List.mem_of_getElem? h
      have hm2 : (q, e) ∈ (X ++ pl) ++ [x] := by
        rcases List.mem_append.mp hm with h1 | h1
        · exact List.mem_append_left _ (List.mem_append_left _ h1)
        · exact List.mem_append_right _ h1
      obtain ⟨i, hi⟩ := List.getElem?_of_mem hm2
      exact ⟨i, e, hi⟩
    · exact Or.inr h
  · obtain ⟨X', x', is, h1, h2, h3⟩ := hp v u hv
    refine ⟨(X' ++ pl) ++ [x'], h3, fun H hP => va_P.swap (va_P.part (va_P.swap hP) is h2), fun A hD => va_D.swap (va_D.part (va_D.swap hD) is h1 h2)⟩
end KYF
set_option maxHeartbeats 4000000 in
theorem j_state (l : Launch) (hfg : l.stackTraces = false) (D : va_G) (cI cJ cZ cO : ClassId) (sa e0 mi o z : Nat) (wX wM : va_W) (hJ : lJ cI cJ cZ cO e0 o z wX wM) (q : Nat) (of : Nat → Int64) (v : Int32) :
    ∃ (k b th : Int32) (of2 : Nat → Int64) (pM : va_W → Prop),
      kCy l D (kTY cI cJ cZ cO) sa yL_state wsL_state2 7 104 1 6 [.ref o, .int v, .ref q] (wX ++ [(q, .inl (cJ, 1, .inr (.inl of)))]) (fun r u => r = some (.int k) ∧ u = wX ++ [(q, .inl (cJ, 1, .inr (.inl of2)))]) ∧
      kCx l D (kTY cI cJ cZ cO) e0 mi yX8_state wsX8_state 2 45 0 0 [.ref z, .int v] wM (fun r u => r = some (.int b) ∧ pM u) ∧
      (∀ u, pM u → kCx l D (kTY cI cJ cZ cO) e0 mi yX8_thrown wsX8_thrown 0 0 0 0 [.ref z] u (fun r u' => r = some (.int th) ∧ u' = u)) ∧
      (∀ u, pM u → lJ cI cJ cZ cO e0 o z wX u) ∧ th = k ∧ (k = 0 → of2 0 = b.toInt64) ∧ (k = 0 ∨ k = 1) := by
  obtain ⟨T, wN, iN, P, nN, eN, gN, sN, pN, pa, K, rn, rN, mN, ln, dN, aN, hS, hX, hM⟩ := hJ
  have hS0 := hS
  have hX0 := hX
  obtain ⟨hT, hP, hpa, hK, hrn, hln, hw, hI, hB, hm, ha, hr28⟩ := hS
  obtain ⟨t0, h0, w0, r0, k0, s0, t1, t2, la, w1, w2, r1, k1, k2, k3, k4, k5, s1, s2, mo, N0, dn, ea, cap, al, LP, pf, ad, f, g, rf, lf, df, sf, sg, ns, am, rfl, hSh, hE, hrf, hlf, hst⟩ := hX
  obtain ⟨a0, a1, a2, a3, a4, a5, a6, a7, a8, a9, a10, a11, a12, a13, a14, a15, th, wt, ro, lb, pl, co, st, go, rr, rfl, hro, hlb, hrr⟩ := hM
  have cx : kCy l D (kTY cI cJ cZ cO) sa yL_state wsL_state2 7 104 1 6 [.ref o, .int v, .ref q] [(o, .inr (8, [.ref t0, .ref h0, .ref w0, .ref r0, .ref k0, .ref s0, .int (nI K)])), (s0, .inr (1, [.ref s1, .ref s2, .int (nI ns), .int (nI am)])), (s1, .inl (cI, 4096, .inl sf)), (s2, .inl (cI, 64, .inl sg)), (q, .inl (cJ, 1, .inr (.inl of)))] _ :=
    c_L_state2 l hfg D cI cJ cZ cO sa o t0 h0 w0 r0 k0 s0 (nI K) s1 s2 ns (nI am) sf sg q of v _ rfl
  by_cases hv0 : v < 0
  · have e1 : setAt sf (nI ns) v = -1 := by
      unfold setAt
      exact if_neg (fun h => h.1 hv0)
    have cm := c_X8_state_b l D cI cJ cZ cO z a0 a1 a2 a3 a4 a5 a6 a7 a8 a9 a10 a11 a12 a13 a14 a15 T P (nI pa) (nI K) rn ln th wt (nF iN) (nF aN) v hT hv0
    refine ⟨1, 0, 1, of, (fun u => u = [(z, .inr (9, [.ref a0, .ref a1, .int (nI T), .ref a2, .ref a3, .ref a4, .ref a5, .ref a6, .int (nI P), .int (nI pa), .int (nI K), .ref a7, .int (nI rn), .ref a8, .ref a9, .int (nI ln), .ref a10, .int 1, .ref a11, .ref a12, .int wt, .ref a13, .ref a14, .ref a15])), (a0, .inl (cI, 12, .inl (nF wN))), (a1, .inl (cI, 12, .inl (nF iN))), (a2, .inl (cI, 14, .inl (nF nN))), (a3, .inl (cI, 14, .inl (nF eN))), (a4, .inl (cI, 14, .inl (nF gN))), (a5, .inl (cI, 14, .inl (nF sN))), (a6, .inl (cI, 14, .inl (nF pN))), (a7, .inl (cI, 12, .inl ro)), (a8, .inl (cI, 52, .inl (nF mN))), (a9, .inl (cI, 12, .inl lb)), (a10, .inl (cI, 12, .inl (nF aN))), (a11, .inl (cI, 4096, .inl co)), (a12, .inl (cI, 4096, .inl st)), (a13, .inl (cZ, 4096, .inl go)), (a14, .inl (cI, 12, .inl pl)), (a15, .inl (cI, 64, .inl (nF rr)))]), kYfr cx [0, 17, 18, 19, 20] [1, 2, 3, 4, 5, 6, 7, 8, 9, 10, 11, 12, 13, 14, 15, 16] rfl rfl rfl (fun r u hv => ?_), kCfr (kCtoX (cm)) [0, 2, 11] [1, 3, 4, 5, 6, 7, 8, 9, 10, 12, 13, 14, 15, 16] rfl rfl rfl (fun r u hv => ?_), ?_, ?_, rfl, ?_, ?_⟩
    · rcases hv with ⟨h1, rfl, rfl⟩ | ⟨h1, rfl, rfl⟩
      · exact ⟨[(o, .inr (8, [.ref t0, .ref h0, .ref w0, .ref r0, .ref k0, .ref s0, .int (nI K)])), (t0, .inr (5, [.ref t1, .ref t2, .int (nI T)])), (t1, .inl (cI, 12, .inl (nF wN))), (t2, .inl (cI, 12, .inl (nF (clN iN T)))), (h0, .inr (4, [.ref la, .int (nI pa)])), (la, .inr (0, [.int mo, .ref ea, .int (nI P)])), (w0, .inr (6, [.ref w1, .ref w2, .int N0])), (w1, .inl (cI, 4096, .inl f)), (w2, .inl (cJ, 4096, .inr (.inl g))), (r0, .inr (3, [.ref r1, .int (nI rn)])), (r1, .inl (cI, 12, .inl rf)), (k0, .inr (7, [.ref k1, .ref k2, .ref k3])), (k1, .inl (cI, 52, .inl (nF mN))), (k2, .inr (3, [.ref k4, .int (nI ln)])), (k4, .inl (cI, 12, .inl lf)), (k3, .inr (3, [.ref k5, .int dn])), (k5, .inl (cI, 12, .inl df)), (s0, .inr (1, [.ref s1, .ref s2, .int (nI ns), .int (nI am)])), (s1, .inl (cI, 4096, .inl sf)), (s2, .inl (cI, 64, .inl sg))], (q, .inl (cJ, 1, .inr (.inl of))), [16, 0, 1, 2, 3, 4, 5, 6, 7, 8, 9, 10, 11, 12, 13, 14, 15, 17, 18, 19, 20], rfl, rfl, rfl, rfl⟩
      · exact absurd e1 h1
    · obtain ⟨rfl, rfl⟩ := hv
      exact ⟨[(z, .inr (9, [.ref a0, .ref a1, .int (nI T), .ref a2, .ref a3, .ref a4, .ref a5, .ref a6, .int (nI P), .int (nI pa), .int (nI K), .ref a7, .int (nI rn), .ref a8, .ref a9, .int (nI ln), .ref a10, .int 1, .ref a11, .ref a12, .int wt, .ref a13, .ref a14, .ref a15])), (a0, .inl (cI, 12, .inl (nF wN))), (a1, .inl (cI, 12, .inl (nF iN))), (a2, .inl (cI, 14, .inl (nF nN))), (a3, .inl (cI, 14, .inl (nF eN))), (a4, .inl (cI, 14, .inl (nF gN))), (a5, .inl (cI, 14, .inl (nF sN))), (a6, .inl (cI, 14, .inl (nF pN))), (a7, .inl (cI, 12, .inl ro)), (a8, .inl (cI, 52, .inl (nF mN))), (a9, .inl (cI, 12, .inl lb)), (a10, .inl (cI, 12, .inl (nF aN))), (a11, .inl (cI, 4096, .inl co)), (a12, .inl (cI, 4096, .inl st)), (a13, .inl (cZ, 4096, .inl go)), (a14, .inl (cI, 12, .inl pl)), (a15, .inl (cI, 64, .inl (nF rr)))], [14, 0, 15, 1, 2, 3, 4, 5, 6, 7, 8, 16, 9, 10, 11, 12, 13], rfl, rfl, rfl, rfl⟩
    · intro u hu
      subst hu
      exact kCofR (c_X8_thrown l D cI cJ cZ cO z a0 a1 a2 a3 a4 a5 a6 a7 a8 a9 a10 a11 a12 a13 a14 a15 T P (nI pa) (nI K) rn ln 1 wt) (fun H hP => kPc_sub hP [0] rfl) (fun v hv => ⟨hv, rfl⟩)
    · intro u hu
      subst hu
      exact ⟨T, wN, iN, P, nN, eN, gN, sN, pN, pa, K, rn, rN, mN, ln, dN, aN, hS0, hX0, a0, a1, a2, a3, a4, a5, a6, a7, a8, a9, a10, a11, a12, a13, a14, a15, 1, wt, ro, lb, pl, co, st, go, rr, rfl, hro, hlb, hrr⟩
    · intro h9; exact absurd h9 (by decide)
    · exact Or.inr rfl
  · obtain ⟨j, hj, rfl⟩ := nI_of hv0
    have cm := c_X8_state_a l D cI cJ cZ cO z a0 a1 a2 a3 a4 a5 a6 a7 a8 a9 a10 a11 a12 a13 a14 a15 T P (nI pa) (nI K) rn ln th wt (nF iN) (nF aN) j hT hj
    rcases state_eq hT hst.1 hj with ⟨v5, hv5, e1, e2⟩ | ⟨e1, e2⟩
    · have hv31 : v5 < 2 ^ 31 := kp31 hT hv5
      rw [e2] at cm
      refine ⟨0, (nI v5), 0, (vp_updL of 0 (nI v5).toInt64), (fun u => u = [(z, .inr (9, [.ref a0, .ref a1, .int (nI T), .ref a2, .ref a3, .ref a4, .ref a5, .ref a6, .int (nI P), .int (nI pa), .int (nI K), .ref a7, .int (nI rn), .ref a8, .ref a9, .int (nI ln), .ref a10, .int 0, .ref a11, .ref a12, .int wt, .ref a13, .ref a14, .ref a15])), (a0, .inl (cI, 12, .inl (nF wN))), (a1, .inl (cI, 12, .inl (nF iN))), (a2, .inl (cI, 14, .inl (nF nN))), (a3, .inl (cI, 14, .inl (nF eN))), (a4, .inl (cI, 14, .inl (nF gN))), (a5, .inl (cI, 14, .inl (nF sN))), (a6, .inl (cI, 14, .inl (nF pN))), (a7, .inl (cI, 12, .inl ro)), (a8, .inl (cI, 52, .inl (nF mN))), (a9, .inl (cI, 12, .inl lb)), (a10, .inl (cI, 12, .inl (nF aN))), (a11, .inl (cI, 4096, .inl co)), (a12, .inl (cI, 4096, .inl st)), (a13, .inl (cZ, 4096, .inl go)), (a14, .inl (cI, 12, .inl pl)), (a15, .inl (cI, 64, .inl (nF rr)))]), kYfr cx [0, 17, 18, 19, 20] [1, 2, 3, 4, 5, 6, 7, 8, 9, 10, 11, 12, 13, 14, 15, 16] rfl rfl rfl (fun r u hv => ?_), kCfr (kCtoX (cm)) [0, 2, 11] [1, 3, 4, 5, 6, 7, 8, 9, 10, 12, 13, 14, 15, 16] rfl rfl rfl (fun r u hv => ?_), ?_, ?_, rfl, ?_, ?_⟩
      · rcases hv with ⟨h1, rfl, rfl⟩ | ⟨h1, rfl, rfl⟩
        · rw [e1] at h1
          exact absurd (show nI v5 < 0 from (by rw [h1]; decide)) (nI_pos (by omega))
        · exact ⟨[(o, .inr (8, [.ref t0, .ref h0, .ref w0, .ref r0, .ref k0, .ref s0, .int (nI K)])), (t0, .inr (5, [.ref t1, .ref t2, .int (nI T)])), (t1, .inl (cI, 12, .inl (nF wN))), (t2, .inl (cI, 12, .inl (nF (clN iN T)))), (h0, .inr (4, [.ref la, .int (nI pa)])), (la, .inr (0, [.int mo, .ref ea, .int (nI P)])), (w0, .inr (6, [.ref w1, .ref w2, .int N0])), (w1, .inl (cI, 4096, .inl f)), (w2, .inl (cJ, 4096, .inr (.inl g))), (r0, .inr (3, [.ref r1, .int (nI rn)])), (r1, .inl (cI, 12, .inl rf)), (k0, .inr (7, [.ref k1, .ref k2, .ref k3])), (k1, .inl (cI, 52, .inl (nF mN))), (k2, .inr (3, [.ref k4, .int (nI ln)])), (k4, .inl (cI, 12, .inl lf)), (k3, .inr (3, [.ref k5, .int dn])), (k5, .inl (cI, 12, .inl df)), (s0, .inr (1, [.ref s1, .ref s2, .int (nI ns), .int (nI am)])), (s1, .inl (cI, 4096, .inl sf)), (s2, .inl (cI, 64, .inl sg))], (q, .inl (cJ, 1, .inr (.inl (vp_updL of 0 (setAt sf (nI ns) (nI j)).toInt64)))), [16, 0, 1, 2, 3, 4, 5, 6, 7, 8, 9, 10, 11, 12, 13, 14, 15, 17, 18, 19, 20], rfl, rfl, rfl, (by rw [e1])⟩
      · obtain ⟨rfl, rfl⟩ := hv
        exact ⟨[(z, .inr (9, [.ref a0, .ref a1, .int (nI T), .ref a2, .ref a3, .ref a4, .ref a5, .ref a6, .int (nI P), .int (nI pa), .int (nI K), .ref a7, .int (nI rn), .ref a8, .ref a9, .int (nI ln), .ref a10, .int 0, .ref a11, .ref a12, .int wt, .ref a13, .ref a14, .ref a15])), (a0, .inl (cI, 12, .inl (nF wN))), (a1, .inl (cI, 12, .inl (nF iN))), (a2, .inl (cI, 14, .inl (nF nN))), (a3, .inl (cI, 14, .inl (nF eN))), (a4, .inl (cI, 14, .inl (nF gN))), (a5, .inl (cI, 14, .inl (nF sN))), (a6, .inl (cI, 14, .inl (nF pN))), (a7, .inl (cI, 12, .inl ro)), (a8, .inl (cI, 52, .inl (nF mN))), (a9, .inl (cI, 12, .inl lb)), (a10, .inl (cI, 12, .inl (nF aN))), (a11, .inl (cI, 4096, .inl co)), (a12, .inl (cI, 4096, .inl st)), (a13, .inl (cZ, 4096, .inl go)), (a14, .inl (cI, 12, .inl pl)), (a15, .inl (cI, 64, .inl (nF rr)))], [14, 0, 15, 1, 2, 3, 4, 5, 6, 7, 8, 16, 9, 10, 11, 12, 13], rfl, rfl, rfl, rfl⟩
      · intro u hu
        subst hu
        exact kCofR (c_X8_thrown l D cI cJ cZ cO z a0 a1 a2 a3 a4 a5 a6 a7 a8 a9 a10 a11 a12 a13 a14 a15 T P (nI pa) (nI K) rn ln 0 wt) (fun H hP => kPc_sub hP [0] rfl) (fun v hv => ⟨hv, rfl⟩)
      · intro u hu
        subst hu
        exact ⟨T, wN, iN, P, nN, eN, gN, sN, pN, pa, K, rn, rN, mN, ln, dN, aN, hS0, hX0, a0, a1, a2, a3, a4, a5, a6, a7, a8, a9, a10, a11, a12, a13, a14, a15, 0, wt, ro, lb, pl, co, st, go, rr, rfl, hro, hlb, hrr⟩
      · intro _; rfl
      · exact Or.inl rfl
    · rw [e2] at cm
      refine ⟨1, 0, 1, of, (fun u => u = [(z, .inr (9, [.ref a0, .ref a1, .int (nI T), .ref a2, .ref a3, .ref a4, .ref a5, .ref a6, .int (nI P), .int (nI pa), .int (nI K), .ref a7, .int (nI rn), .ref a8, .ref a9, .int (nI ln), .ref a10, .int 1, .ref a11, .ref a12, .int wt, .ref a13, .ref a14, .ref a15])), (a0, .inl (cI, 12, .inl (nF wN))), (a1, .inl (cI, 12, .inl (nF iN))), (a2, .inl (cI, 14, .inl (nF nN))), (a3, .inl (cI, 14, .inl (nF eN))), (a4, .inl (cI, 14, .inl (nF gN))), (a5, .inl (cI, 14, .inl (nF sN))), (a6, .inl (cI, 14, .inl (nF pN))), (a7, .inl (cI, 12, .inl ro)), (a8, .inl (cI, 52, .inl (nF mN))), (a9, .inl (cI, 12, .inl lb)), (a10, .inl (cI, 12, .inl (nF aN))), (a11, .inl (cI, 4096, .inl co)), (a12, .inl (cI, 4096, .inl st)), (a13, .inl (cZ, 4096, .inl go)), (a14, .inl (cI, 12, .inl pl)), (a15, .inl (cI, 64, .inl (nF rr)))]), kYfr cx [0, 17, 18, 19, 20] [1, 2, 3, 4, 5, 6, 7, 8, 9, 10, 11, 12, 13, 14, 15, 16] rfl rfl rfl (fun r u hv => ?_), kCfr (kCtoX (cm)) [0, 2, 11] [1, 3, 4, 5, 6, 7, 8, 9, 10, 12, 13, 14, 15, 16] rfl rfl rfl (fun r u hv => ?_), ?_, ?_, rfl, ?_, ?_⟩
      · rcases hv with ⟨h1, rfl, rfl⟩ | ⟨h1, rfl, rfl⟩
        · exact ⟨[(o, .inr (8, [.ref t0, .ref h0, .ref w0, .ref r0, .ref k0, .ref s0, .int (nI K)])), (t0, .inr (5, [.ref t1, .ref t2, .int (nI T)])), (t1, .inl (cI, 12, .inl (nF wN))), (t2, .inl (cI, 12, .inl (nF (clN iN T)))), (h0, .inr (4, [.ref la, .int (nI pa)])), (la, .inr (0, [.int mo, .ref ea, .int (nI P)])), (w0, .inr (6, [.ref w1, .ref w2, .int N0])), (w1, .inl (cI, 4096, .inl f)), (w2, .inl (cJ, 4096, .inr (.inl g))), (r0, .inr (3, [.ref r1, .int (nI rn)])), (r1, .inl (cI, 12, .inl rf)), (k0, .inr (7, [.ref k1, .ref k2, .ref k3])), (k1, .inl (cI, 52, .inl (nF mN))), (k2, .inr (3, [.ref k4, .int (nI ln)])), (k4, .inl (cI, 12, .inl lf)), (k3, .inr (3, [.ref k5, .int dn])), (k5, .inl (cI, 12, .inl df)), (s0, .inr (1, [.ref s1, .ref s2, .int (nI ns), .int (nI am)])), (s1, .inl (cI, 4096, .inl sf)), (s2, .inl (cI, 64, .inl sg))], (q, .inl (cJ, 1, .inr (.inl of))), [16, 0, 1, 2, 3, 4, 5, 6, 7, 8, 9, 10, 11, 12, 13, 14, 15, 17, 18, 19, 20], rfl, rfl, rfl, rfl⟩
        · exact absurd e1 h1
      · obtain ⟨rfl, rfl⟩ := hv
        exact ⟨[(z, .inr (9, [.ref a0, .ref a1, .int (nI T), .ref a2, .ref a3, .ref a4, .ref a5, .ref a6, .int (nI P), .int (nI pa), .int (nI K), .ref a7, .int (nI rn), .ref a8, .ref a9, .int (nI ln), .ref a10, .int 1, .ref a11, .ref a12, .int wt, .ref a13, .ref a14, .ref a15])), (a0, .inl (cI, 12, .inl (nF wN))), (a1, .inl (cI, 12, .inl (nF iN))), (a2, .inl (cI, 14, .inl (nF nN))), (a3, .inl (cI, 14, .inl (nF eN))), (a4, .inl (cI, 14, .inl (nF gN))), (a5, .inl (cI, 14, .inl (nF sN))), (a6, .inl (cI, 14, .inl (nF pN))), (a7, .inl (cI, 12, .inl ro)), (a8, .inl (cI, 52, .inl (nF mN))), (a9, .inl (cI, 12, .inl lb)), (a10, .inl (cI, 12, .inl (nF aN))), (a11, .inl (cI, 4096, .inl co)), (a12, .inl (cI, 4096, .inl st)), (a13, .inl (cZ, 4096, .inl go)), (a14, .inl (cI, 12, .inl pl)), (a15, .inl (cI, 64, .inl (nF rr)))], [14, 0, 15, 1, 2, 3, 4, 5, 6, 7, 8, 16, 9, 10, 11, 12, 13], rfl, rfl, rfl, rfl⟩
      · intro u hu
        subst hu
        exact kCofR (c_X8_thrown l D cI cJ cZ cO z a0 a1 a2 a3 a4 a5 a6 a7 a8 a9 a10 a11 a12 a13 a14 a15 T P (nI pa) (nI K) rn ln 1 wt) (fun H hP => kPc_sub hP [0] rfl) (fun v hv => ⟨hv, rfl⟩)
      · intro u hu
        subst hu
        exact ⟨T, wN, iN, P, nN, eN, gN, sN, pN, pa, K, rn, rN, mN, ln, dN, aN, hS0, hX0, a0, a1, a2, a3, a4, a5, a6, a7, a8, a9, a10, a11, a12, a13, a14, a15, 1, wt, ro, lb, pl, co, st, go, rr, rfl, hro, hlb, hrr⟩
      · intro h9; exact absurd h9 (by decide)
      · exact Or.inr rfl
