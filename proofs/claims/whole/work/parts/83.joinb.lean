/-! ===== class and reference side by side: topics and asking ===== -/
theorem gv_new {iN gN : Nat → Nat} {T x : Nat} (hg : ∀ i, gN i < 2 ^ T) : gvN (updN iN T x) gN (T + 1) = gvN iN gN T := by
  funext i
  show closN (updN iN T x) (gN i) (T + 1) = closN iN (gN i) T
  rw [closN_more (hg i) 1]
  exact closN_congr T (fun t ht => updN_n (by omega))
theorem shB_up {nN eN gN sN pN : Nat → Nat} {T : Nat} (h : shB nN eN gN sN pN T) : shB nN eN gN sN pN (T + 1) := fun i => by
  have h2 : 2 ^ T < 2 ^ (T + 1) := Nat.pow_lt_pow_right (by decide) (by omega)
  obtain ⟨a, b, c, d, e⟩ := h i
  exact ⟨Nat.lt_trans a h2, Nat.lt_trans b h2, Nat.lt_trans c h2, Nat.lt_trans d h2, e⟩
theorem aB_up {aN : Nat → Nat} {T : Nat} (h : aB aN T) : aB aN (T + 1) := fun t => ⟨(h t).1, fun q => (h t).2 (by omega)⟩
theorem upd_w9 {wN : Nat → Nat} {T u : Nat} (h : ∀ i, wN i ≤ 9) (hu : u ≤ 9) : ∀ i, updN wN T u i ≤ 9 := fun i => by
  unfold updN
  split
  · exact hu
  · exact h i
theorem st_le {iN aN : Nat → Nat} {T ns am : Nat} {sf : Nat → Int32} (h : stOK iN aN T sf ns am) : ns ≤ 2 ^ T := by
  rw [h.1.1]
  exact cntP_le _ _
theorem st_new {iN aN : Nat → Nat} {T ns am j : Nat} {sf : Nat → Int32} (hT : T < 12) (hI : imB iN) (ha : aB aN T) (hj : j < 2 ^ T) (h : stOK iN aN T sf ns am) {A : (Nat → Int32) × Nat}
    (hA : A = addF sf ns (1 <<< (nI T &&& 31)) (implF (upd (nF (clN iN T)) T ((1 <<< (nI T &&& 31)) ||| closF (nF (clN iN T)) (nI j) 12)) (nI T)) ns) : stOK (updN iN T (closN iN j T)) aN (T + 1) A.1 A.2 am := by
  obtain ⟨h1, h2, h3, h4⟩ := h
  have hE := topic_E hT hI ha hj h1 hA
  refine ⟨hE, ?_, Nat.lt_trans h3 (Nat.pow_lt_pow_right (by decide) (by omega)), h4⟩
  obtain ⟨v, hv, hp, -, -⟩ := enum_at h1 h2
  have hc : closN iN j T < 2 ^ T := closN_lt hj T (imB_lt hI)
  have hp2 : pS (updN iN T (closN iN j T)) aN (T + 1) v = true := by
    rw [pS_lo hT (imB_new hI hc) ha hv, pS_cg (jN := iN) (fun t ht => updN_n (by omega))]
    exact hp
  rw [hE.1]
  exact Nat.lt_of_le_of_lt (Nat.zero_le _) (cntP_lt (Nat.lt_trans hv (Nat.pow_lt_pow_right (by decide) (by omega))) hp2)
theorem clos_0 (f : Nat → Nat) : ∀ n, closN f 0 n = 0
  | 0 => rfl
  | n + 1 => by
    unfold closN
    rw [clos_0 f n]
    simp
theorem pS_0 {iN : Nat → Nat} {T : Nat} (hT : T ≤ 12) : pS iN (fun _ => 0) T 0 = true := by
  refine (pS_iff (T := T) (aB_0 T) hT (by omega) (by rw [clos_0]; omega)).mpr ⟨clos_0 iN T, fun t _ => Or.inl rfl⟩
theorem st_ask {iN : Nat → Nat} {T : Nat} (hT : T ≤ 12) (hI : imB iN) (sf : Nat → Int32) : stOK iN (fun _ => 0) T (askF (nF (clN iN T)) sf T).1 (askF (nF (clN iN T)) sf T).2 0 := by
  have hE := ask_E hT hI sf T (Nat.le_refl T)
  have hp : 0 < 2 ^ T := Nat.pos_of_ne_zero (by simp)
  refine ⟨hE, ?_, hp, fun t => by simp⟩
  rw [hE.1]
  exact Nat.lt_of_le_of_lt (Nat.zero_le _) (cntP_lt hp (pS_0 hT))
theorem zro_a {aN : Nat → Nat} {T : Nat} (hT : T ≤ 12) (ha : aB aN T) : zro (nF aN) 12 = nF (fun _ => 0) := by
  funext j
  unfold zro
  split
  · rfl
  · show nI (aN j) = nI 0
    rw [(ha j).2 (by omega)]
theorem bad_0 {T : Nat} {v : Int32} (hT : T ≤ 12) (h : withinB v 0 (nI T - 1) = true) : ∃ j, j < T ∧ v = nI j := by
  have h9 := kwin h (Nat.le_refl T) (by omega)
  have h0 : ¬ v < 0 := fun q => h9 (Or.inl q)
  obtain ⟨j, hj, rfl⟩ := nI_of h0
  refine ⟨j, Nat.lt_of_not_le fun q => h9 (Or.inr ?_), rfl⟩
  rw [nI_clamp hj]
  exact q
set_option maxHeartbeats 4000000 in
theorem j_topic (l : Launch) (D : va_G) (cI cJ cZ cO : ClassId) (e0 mi o z : Nat) (wX wM : va_W) (hJ : lJ cI cJ cZ cO e0 o z wX wM) (v x : Int32) :
    kJo l D cI cJ cZ cO e0 mi o z wX wM yX7_topic wsX7_topic [.ref o, .int v, .int x] yX8_topic wsX8_topic [.ref z, .int v, .int x] := by
  obtain ⟨T, wN, iN, P, nN, eN, gN, sN, pN, pa, K, rn, rN, mN, ln, dN, aN, hS, hX, hM⟩ := hJ
  have hS0 := hS
  have hX0 := hX
  obtain ⟨hT, hP, hpa, hK, hrn, hln, hw, hI, hB, hm, ha, hr28⟩ := hS
  obtain ⟨t0, h0, w0, r0, k0, s0, t1, t2, la, w1, w2, r1, k1, k2, k3, k4, k5, s1, s2, mo, N0, dn, ea, cap, al, LP, pf, ad, f, g, rf, lf, df, sf, sg, ns, am, rfl, hSh, hE, hrf, hlf, hst⟩ := hX
  obtain ⟨a0, a1, a2, a3, a4, a5, a6, a7, a8, a9, a10, a11, a12, a13, a14, a15, th, wt, ro, lb, pl, co, st, go, rr, rfl, hro, hlb, hrr⟩ := hM
  have cm := c_X8_topic l D cI cJ cZ cO z a0 a1 a2 a3 a4 a5 a6 a7 a8 a9 a10 a11 a12 a13 a14 a15 T P (nI pa) (nI K) rn ln th wt (nF wN) (nF iN) v x hT
  rcases Nat.lt_or_ge T 12 with hT1 | hT1
  · have hns : ns ≤ 2048 := Nat.le_trans (st_le hst) (Nat.pow_le_pow_right (n := 2) (j := 11) (by decide) (by omega))
    have cx := c_X7_topic_a l D cI cJ cZ cO o t0 h0 w0 r0 k0 s0 (nI K) t1 t2 T (nF wN) (nF (clN iN T)) s1 s2 ns (nI am) sf sg v x hT1 hns
    rw [have_are hT] at cx
    by_cases hb : (withinB v 0 9 && areB T x) = true
    · obtain ⟨hb1, hb2⟩ := Bool.and_eq_true_iff.mp hb
      obtain ⟨u, -, hu, rfl⟩ := (wi_iff (b := v) (a := 0) (c := 9) (by omega) (by omega)).mp hb1
      obtain ⟨j, hj, rfl⟩ := (areB_iff hT).mp hb2
      have hc : closN iN j T < 2 ^ T := closN_lt hj T (imB_lt hI)
      have htop : topB T (nI u) (nI j) = true := by
        unfold topB
        rw [hb, decide_eq_true (show ¬ T = 12 by omega)]
        rfl
      simp only [hb, if_true] at cx
      simp only [htop, if_true, closF_N (kp31 hT hj) T (by omega), nF_upd] at cm
      obtain ⟨A, hA⟩ : ∃ A, A = addF sf ns (1 <<< (nI T &&& 31)) (implF (upd (nF (clN iN T)) T ((1 <<< (nI T &&& 31)) ||| closF (nF (clN iN T)) (nI j) 12)) (nI T)) ns := ⟨_, rfl⟩
      rw [← hA, cl_new hT1 hj, nF_upd] at cx
      have hst1 := st_new hT1 hI ha hj hst hA
      have hE1 : shE P al LP pf ad (nF nN) (nF eN) (nF (gvN (updN iN T (closN iN j T)) gN (T + 1))) (nF (gvN (updN iN T (closN iN j T)) sN (T + 1))) (nF pN) := by
        rw [gv_new (fun i => (hB i).2.2.1), gv_new (fun i => (hB i).2.2.2.1)]
        exact hE
      have hS1 : lJS (T + 1) (updN wN T u) (updN iN T (closN iN j T)) P nN eN gN sN pN pa K rn rN mN ln aN := ⟨hT1, hP, hpa, Nat.lt_trans hK (Nat.pow_lt_pow_right (by decide) (by omega)), hrn, hln, upd_w9 hw hu, imB_new hI hc, shB_up hB, hm, aB_up ha, hr28⟩
      exact kJmk (nI T) hS1
        (kCfrQ (kCtoX cx) [0, 1, 2, 3, 17, 18, 19] [4, 5, 6, 7, 8, 9, 10, 11, 12, 13, 14, 15, 16] rfl rfl rfl (fun v u hv => by
      obtain ⟨rfl, rfl⟩ := hv
      refine ⟨_, [13, 14, 15, 16, 0, 1, 2, 3, 4, 5, 6, 7, 8, 9, 10, 11, 12, 17, 18, 19], rfl, ?_, rfl, t0, h0, w0, r0, k0, s0, t1, t2, la, w1, w2, r1, k1, k2, k3, k4, k5, s1, s2, mo, N0, dn, ea, cap, al, LP, pf, ad, f, g, rf, lf, df, A.1, sg, A.2, am, rfl, hSh, hE1, hrf, hlf, hst1⟩
      rfl))
        (kCfr (kCtoX (cm)) [0, 1, 2] [3, 4, 5, 6, 7, 8, 9, 10, 11, 12, 13, 14, 15, 16] rfl rfl rfl (fun v u hv => by
      obtain ⟨rfl, rfl⟩ := hv
      refine ⟨_, [14, 15, 16, 0, 1, 2, 3, 4, 5, 6, 7, 8, 9, 10, 11, 12, 13], rfl, ?_, rfl, a0, a1, a2, a3, a4, a5, a6, a7, a8, a9, a10, a11, a12, a13, a14, a15, 0, wt, ro, lb, pl, co, st, go, rr, rfl, hro, hlb, hrr⟩
      rfl))
    · rw [Bool.not_eq_true] at hb
      have htop : topB T v x = false := by
        unfold topB
        rw [hb]
        rfl
      simp only [hb, if_false, Bool.false_eq_true] at cx
      simp only [htop, if_false, Bool.false_eq_true] at cm
      exact kJmk (-1) hS0
        (kCfrQ (kCtoX cx) [0, 1, 2, 3, 17, 18, 19] [4, 5, 6, 7, 8, 9, 10, 11, 12, 13, 14, 15, 16] rfl rfl rfl (fun v u hv => by
      obtain ⟨rfl, rfl⟩ := hv
      refine ⟨_, [13, 14, 15, 16, 0, 1, 2, 3, 4, 5, 6, 7, 8, 9, 10, 11, 12, 17, 18, 19], rfl, ?_, rfl, t0, h0, w0, r0, k0, s0, t1, t2, la, w1, w2, r1, k1, k2, k3, k4, k5, s1, s2, mo, N0, dn, ea, cap, al, LP, pf, ad, f, g, rf, lf, df, sf, sg, ns, am, rfl, hSh, hE, hrf, hlf, hst⟩
      rfl))
        (kCfr (kCtoX (cm)) [0, 1, 2] [3, 4, 5, 6, 7, 8, 9, 10, 11, 12, 13, 14, 15, 16] rfl rfl rfl (fun v u hv => by
      obtain ⟨rfl, rfl⟩ := hv
      refine ⟨_, [14, 15, 16, 0, 1, 2, 3, 4, 5, 6, 7, 8, 9, 10, 11, 12, 13], rfl, ?_, rfl, a0, a1, a2, a3, a4, a5, a6, a7, a8, a9, a10, a11, a12, a13, a14, a15, 0, wt, ro, lb, pl, co, st, go, rr, rfl, hro, hlb, hrr⟩
      rfl))
  · have hT2 : T = 12 := by omega
    have cx := c_X7_topic_b l D cI cJ cZ cO o t0 h0 w0 r0 k0 s0 (nI K) t1 t2 T (nF wN) (nF (clN iN T)) s1 s2 ns (nI am) sf sg v x hT2 (cnt_T hT hst.1)
    have htop : topB T v x = false := by
      unfold topB
      rw [decide_eq_false (show ¬ ¬ T = 12 by omega), Bool.and_false]
    simp only [htop, if_false, Bool.false_eq_true] at cm
    exact kJmk (-1) hS0
      (kCfrQ (kCtoX cx) [0, 1, 2, 3, 17, 18, 19] [4, 5, 6, 7, 8, 9, 10, 11, 12, 13, 14, 15, 16] rfl rfl rfl (fun v u hv => by
      obtain ⟨rfl, rfl⟩ := hv
      refine ⟨_, [13, 14, 15, 16, 0, 1, 2, 3, 4, 5, 6, 7, 8, 9, 10, 11, 12, 17, 18, 19], rfl, ?_, rfl, t0, h0, w0, r0, k0, s0, t1, t2, la, w1, w2, r1, k1, k2, k3, k4, k5, s1, s2, mo, N0, dn, ea, cap, al, LP, pf, ad, f, g, rf, lf, df, sf, sg, ns, am, rfl, hSh, hE, hrf, hlf, hst⟩
      rfl))
      (kCfr (kCtoX (cm)) [0, 1, 2] [3, 4, 5, 6, 7, 8, 9, 10, 11, 12, 13, 14, 15, 16] rfl rfl rfl (fun v u hv => by
      obtain ⟨rfl, rfl⟩ := hv
      refine ⟨_, [14, 15, 16, 0, 1, 2, 3, 4, 5, 6, 7, 8, 9, 10, 11, 12, 13], rfl, ?_, rfl, a0, a1, a2, a3, a4, a5, a6, a7, a8, a9, a10, a11, a12, a13, a14, a15, 0, wt, ro, lb, pl, co, st, go, rr, rfl, hro, hlb, hrr⟩
      rfl))

set_option maxHeartbeats 4000000 in
theorem j_answer (l : Launch) (D : va_G) (cI cJ cZ cO : ClassId) (e0 mi o z : Nat) (wX wM : va_W) (hJ : lJ cI cJ cZ cO e0 o z wX wM) (v : Int32) (is : Bool) :
    kJo l D cI cJ cZ cO e0 mi o z wX wM yX7_answer wsX7_answer [.ref o, .int v, .int (k01 is)] yX8_answer wsX8_answer [.ref z, .int v, .int (k01 is)] := by
  obtain ⟨T, wN, iN, P, nN, eN, gN, sN, pN, pa, K, rn, rN, mN, ln, dN, aN, hS, hX, hM⟩ := hJ
  have hS0 := hS
  have hX0 := hX
  obtain ⟨hT, hP, hpa, hK, hrn, hln, hw, hI, hB, hm, ha, hr28⟩ := hS
  obtain ⟨t0, h0, w0, r0, k0, s0, t1, t2, la, w1, w2, r1, k1, k2, k3, k4, k5, s1, s2, mo, N0, dn, ea, cap, al, LP, pf, ad, f, g, rf, lf, df, sf, sg, ns, am, rfl, hSh, hE, hrf, hlf, hst⟩ := hX
  obtain ⟨a0, a1, a2, a3, a4, a5, a6, a7, a8, a9, a10, a11, a12, a13, a14, a15, th, wt, ro, lb, pl, co, st, go, rr, rfl, hro, hlb, hrr⟩ := hM
  have cx := c_X7_answer l D cI cJ cZ cO o t0 h0 w0 r0 k0 s0 (nI K) t1 t2 T (nF wN) (nF (clN iN T)) s1 s2 ns (nI am) sf sg v is (cnt_T hT hst.1)
  have cm := c_X8_answer l D cI cJ cZ cO z a0 a1 a2 a3 a4 a5 a6 a7 a8 a9 a10 a11 a12 a13 a14 a15 T P (nI pa) (nI K) rn ln th wt (nF iN) (nF aN) v is hT
  by_cases hb : withinB v 0 (nI T - 1) = true
  · obtain ⟨j, hj, rfl⟩ := bad_0 hT hb
    obtain ⟨h1, h2⟩ := ans_eq hT hI ha hst hj is
    simp only [hb, if_true] at cx
    rw [← h1] at cm
    by_cases hq : accB sf ns (nI am) (nI j) is = true
    · obtain ⟨g0, g1, g2, g3, g4, g5⟩ := h2 hq
      simp only [hq, if_true, nI_clamp (show j < 2 ^ 31 by omega), g2] at cx
      simp only [hq, if_true, nI_clamp (show j < 2 ^ 31 by omega), g3, ← g1] at cm
      have hS1 : lJS T wN iN P nN eN gN sN pN pa K rn rN mN ln (updN aN j (if is then 1 else 2)) := ⟨hT, hP, hpa, hK, hrn, hln, hw, hI, hB, hm, g4, hr28⟩
      exact kJmk (nI (keepF sf (nI j) is ns).2) hS1
        (kCfrQ (kCtoX cx) [0, 1, 2, 3, 17, 18, 19] [4, 5, 6, 7, 8, 9, 10, 11, 12, 13, 14, 15, 16] rfl rfl rfl (fun v u hv => by
      obtain ⟨rfl, rfl⟩ := hv
      refine ⟨_, [13, 14, 15, 16, 0, 1, 2, 3, 4, 5, 6, 7, 8, 9, 10, 11, 12, 17, 18, 19], rfl, ?_, rfl, t0, h0, w0, r0, k0, s0, t1, t2, la, w1, w2, r1, k1, k2, k3, k4, k5, s1, s2, mo, N0, dn, ea, cap, al, LP, pf, ad, f, g, rf, lf, df, (keepF sf (nI j) is ns).1, sg, (keepF sf (nI j) is ns).2, am ||| 2 ^ j, rfl, hSh, hE, hrf, hlf, g5⟩
      rfl))
        (kCfr (kCtoX (cm)) [0, 2, 11] [1, 3, 4, 5, 6, 7, 8, 9, 10, 12, 13, 14, 15, 16] rfl rfl rfl (fun v u hv => by
      obtain ⟨rfl, rfl⟩ := hv
      refine ⟨_, [14, 0, 15, 1, 2, 3, 4, 5, 6, 7, 8, 16, 9, 10, 11, 12, 13], rfl, ?_, rfl, a0, a1, a2, a3, a4, a5, a6, a7, a8, a9, a10, a11, a12, a13, a14, a15, 0, wt, ro, lb, pl, co, st, go, rr, rfl, hro, hlb, hrr⟩
      rfl))
    · rw [Bool.not_eq_true] at hq
      simp only [hq, if_false, Bool.false_eq_true] at cx cm
      exact kJmk (-1) hS0
        (kCfrQ (kCtoX cx) [0, 1, 2, 3, 17, 18, 19] [4, 5, 6, 7, 8, 9, 10, 11, 12, 13, 14, 15, 16] rfl rfl rfl (fun v u hv => by
      obtain ⟨rfl, rfl⟩ := hv
      refine ⟨_, [13, 14, 15, 16, 0, 1, 2, 3, 4, 5, 6, 7, 8, 9, 10, 11, 12, 17, 18, 19], rfl, ?_, rfl, t0, h0, w0, r0, k0, s0, t1, t2, la, w1, w2, r1, k1, k2, k3, k4, k5, s1, s2, mo, N0, dn, ea, cap, al, LP, pf, ad, f, g, rf, lf, df, sf, sg, ns, am, rfl, hSh, hE, hrf, hlf, hst⟩
      rfl))
        (kCfr (kCtoX (cm)) [0, 2, 11] [1, 3, 4, 5, 6, 7, 8, 9, 10, 12, 13, 14, 15, 16] rfl rfl rfl (fun v u hv => by
      obtain ⟨rfl, rfl⟩ := hv
      refine ⟨_, [14, 0, 15, 1, 2, 3, 4, 5, 6, 7, 8, 16, 9, 10, 11, 12, 13], rfl, ?_, rfl, a0, a1, a2, a3, a4, a5, a6, a7, a8, a9, a10, a11, a12, a13, a14, a15, 0, wt, ro, lb, pl, co, st, go, rr, rfl, hro, hlb, hrr⟩
      rfl))
  · rw [Bool.not_eq_true] at hb
    have hq : answB (nF iN) (nF aN) T v is = false := by
      unfold answB
      rw [hb]
      rfl
    simp only [hb, if_false, Bool.false_eq_true] at cx
    simp only [hq, if_false, Bool.false_eq_true] at cm
    exact kJmk (-1) hS0
      (kCfrQ (kCtoX cx) [0, 1, 2, 3, 17, 18, 19] [4, 5, 6, 7, 8, 9, 10, 11, 12, 13, 14, 15, 16] rfl rfl rfl (fun v u hv => by
      obtain ⟨rfl, rfl⟩ := hv
      refine ⟨_, [13, 14, 15, 16, 0, 1, 2, 3, 4, 5, 6, 7, 8, 9, 10, 11, 12, 17, 18, 19], rfl, ?_, rfl, t0, h0, w0, r0, k0, s0, t1, t2, la, w1, w2, r1, k1, k2, k3, k4, k5, s1, s2, mo, N0, dn, ea, cap, al, LP, pf, ad, f, g, rf, lf, df, sf, sg, ns, am, rfl, hSh, hE, hrf, hlf, hst⟩
      rfl))
      (kCfr (kCtoX (cm)) [0, 2, 11] [1, 3, 4, 5, 6, 7, 8, 9, 10, 12, 13, 14, 15, 16] rfl rfl rfl (fun v u hv => by
      obtain ⟨rfl, rfl⟩ := hv
      refine ⟨_, [14, 0, 15, 1, 2, 3, 4, 5, 6, 7, 8, 16, 9, 10, 11, 12, 13], rfl, ?_, rfl, a0, a1, a2, a3, a4, a5, a6, a7, a8, a9, a10, a11, a12, a13, a14, a15, 0, wt, ro, lb, pl, co, st, go, rr, rfl, hro, hlb, hrr⟩
      rfl))

set_option maxHeartbeats 4000000 in
theorem j_ask (l : Launch) (D : va_G) (cI cJ cZ cO : ClassId) (e0 mi o z : Nat) (wX wM : va_W) (hJ : lJ cI cJ cZ cO e0 o z wX wM) :
    kJo l D cI cJ cZ cO e0 mi o z wX wM yX7_ask wsX7_ask [.ref o] yX8_ask wsX8_ask [.ref z] := by
  obtain ⟨T, wN, iN, P, nN, eN, gN, sN, pN, pa, K, rn, rN, mN, ln, dN, aN, hS, hX, hM⟩ := hJ
  have hS0 := hS
  have hX0 := hX
  obtain ⟨hT, hP, hpa, hK, hrn, hln, hw, hI, hB, hm, ha, hr28⟩ := hS
  obtain ⟨t0, h0, w0, r0, k0, s0, t1, t2, la, w1, w2, r1, k1, k2, k3, k4, k5, s1, s2, mo, N0, dn, ea, cap, al, LP, pf, ad, f, g, rf, lf, df, sf, sg, ns, am, rfl, hSh, hE, hrf, hlf, hst⟩ := hX
  obtain ⟨a0, a1, a2, a3, a4, a5, a6, a7, a8, a9, a10, a11, a12, a13, a14, a15, th, wt, ro, lb, pl, co, st, go, rr, rfl, hro, hlb, hrr⟩ := hM
  have cx := c_X7_ask l D cI cJ cZ cO o t0 h0 w0 r0 k0 s0 (nI K) t1 t2 T (nF wN) (nF (clN iN T)) s1 s2 ns (nI am) sf sg hT
  have cm := c_X8_ask l D cI cJ cZ cO z a0 a1 a2 a3 a4 a5 a6 a7 a8 a9 a10 a11 a12 a13 a14 a15 T P (nI pa) (nI K) rn ln th wt (nF iN) (nF aN) hT
  have hst1 := st_ask hT hI sf
  have e1 : manyF (nF iN) (fun _ => 0) T (2 ^ T) = (askF (nF (clN iN T)) sf T).2 := (manyF_C iN (fun _ => 0) T (2 ^ T)).trans hst1.1.1.symm
  rw [e1, zro_a hT ha] at cm
  have hS1 : lJS T wN iN P nN eN gN sN pN pa K rn rN mN ln (fun _ => 0) := ⟨hT, hP, hpa, hK, hrn, hln, hw, hI, hB, hm, aB_0 T, hr28⟩
  exact kJmk (nI (askF (nF (clN iN T)) sf T).2) hS1
    (kCfrQ (kCtoX cx) [0, 1, 2, 3, 17, 18, 19] [4, 5, 6, 7, 8, 9, 10, 11, 12, 13, 14, 15, 16] rfl rfl rfl (fun v u hv => by
      obtain ⟨rfl, rfl⟩ := hv
      refine ⟨_, [13, 14, 15, 16, 0, 1, 2, 3, 4, 5, 6, 7, 8, 9, 10, 11, 12, 17, 18, 19], rfl, ?_, rfl, t0, h0, w0, r0, k0, s0, t1, t2, la, w1, w2, r1, k1, k2, k3, k4, k5, s1, s2, mo, N0, dn, ea, cap, al, LP, pf, ad, f, g, rf, lf, df, (askF (nF (clN iN T)) sf T).1, sg, (askF (nF (clN iN T)) sf T).2, 0, rfl, hSh, hE, hrf, hlf, hst1⟩
      rfl))
    (kCfr (kCtoX (cm)) [0, 2, 11] [1, 3, 4, 5, 6, 7, 8, 9, 10, 12, 13, 14, 15, 16] rfl rfl rfl (fun v u hv => by
      obtain ⟨rfl, rfl⟩ := hv
      refine ⟨_, [14, 0, 15, 1, 2, 3, 4, 5, 6, 7, 8, 16, 9, 10, 11, 12, 13], rfl, ?_, rfl, a0, a1, a2, a3, a4, a5, a6, a7, a8, a9, a10, a11, a12, a13, a14, a15, 0, wt, ro, lb, pl, co, st, go, rr, rfl, hro, hlb, hrr⟩
      rfl))

set_option maxHeartbeats 4000000 in
theorem j_states (l : Launch) (D : va_G) (cI cJ cZ cO : ClassId) (e0 mi o z : Nat) (wX wM : va_W) (hJ : lJ cI cJ cZ cO e0 o z wX wM) :
    kJo l D cI cJ cZ cO e0 mi o z wX wM yX7_states wsX7_states [.ref o] yX8_states wsX8_states [.ref z] := by
  obtain ⟨T, wN, iN, P, nN, eN, gN, sN, pN, pa, K, rn, rN, mN, ln, dN, aN, hS, hX, hM⟩ := hJ
  have hS0 := hS
  have hX0 := hX
  obtain ⟨hT, hP, hpa, hK, hrn, hln, hw, hI, hB, hm, ha, hr28⟩ := hS
  obtain ⟨t0, h0, w0, r0, k0, s0, t1, t2, la, w1, w2, r1, k1, k2, k3, k4, k5, s1, s2, mo, N0, dn, ea, cap, al, LP, pf, ad, f, g, rf, lf, df, sf, sg, ns, am, rfl, hSh, hE, hrf, hlf, hst⟩ := hX
  obtain ⟨a0, a1, a2, a3, a4, a5, a6, a7, a8, a9, a10, a11, a12, a13, a14, a15, th, wt, ro, lb, pl, co, st, go, rr, rfl, hro, hlb, hrr⟩ := hM
  have cx := c_X7_states l D cI cJ cZ cO o t0 h0 w0 r0 k0 s0 (nI K) s1 s2 ns (nI am) sf sg 
  have cm := c_X8_states l D cI cJ cZ cO z a0 a1 a2 a3 a4 a5 a6 a7 a8 a9 a10 a11 a12 a13 a14 a15 T P (nI pa) (nI K) rn ln th wt (nF iN) (nF aN) hT
  rw [manyF_C, ← hst.1.1] at cm
  exact kJmk (nI ns) hS0
    (kCofR (cx) (sub_app [0, 17, 18, 19] rfl) (fun v hv => by
      obtain rfl := hv
      exact ⟨rfl, hX0⟩))
    (kCfr (kCtoX (cm)) [0, 2, 11] [1, 3, 4, 5, 6, 7, 8, 9, 10, 12, 13, 14, 15, 16] rfl rfl rfl (fun v u hv => by
      obtain ⟨rfl, rfl⟩ := hv
      refine ⟨_, [14, 0, 15, 1, 2, 3, 4, 5, 6, 7, 8, 16, 9, 10, 11, 12, 13], rfl, ?_, rfl, a0, a1, a2, a3, a4, a5, a6, a7, a8, a9, a10, a11, a12, a13, a14, a15, 0, wt, ro, lb, pl, co, st, go, rr, rfl, hro, hlb, hrr⟩
      rfl))

set_option maxHeartbeats 4000000 in
theorem j_question (l : Launch) (D : va_G) (cI cJ cZ cO : ClassId) (e0 mi o z : Nat) (wX wM : va_W) (hJ : lJ cI cJ cZ cO e0 o z wX wM) :
    kJo l D cI cJ cZ cO e0 mi o z wX wM yX7_question wsX7_question [.ref o] yX8_question wsX8_question [.ref z] := by
  obtain ⟨T, wN, iN, P, nN, eN, gN, sN, pN, pa, K, rn, rN, mN, ln, dN, aN, hS, hX, hM⟩ := hJ
  have hS0 := hS
  have hX0 := hX
  obtain ⟨hT, hP, hpa, hK, hrn, hln, hw, hI, hB, hm, ha, hr28⟩ := hS
  obtain ⟨t0, h0, w0, r0, k0, s0, t1, t2, la, w1, w2, r1, k1, k2, k3, k4, k5, s1, s2, mo, N0, dn, ea, cap, al, LP, pf, ad, f, g, rf, lf, df, sf, sg, ns, am, rfl, hSh, hE, hrf, hlf, hst⟩ := hX
  obtain ⟨a0, a1, a2, a3, a4, a5, a6, a7, a8, a9, a10, a11, a12, a13, a14, a15, th, wt, ro, lb, pl, co, st, go, rr, rfl, hro, hlb, hrr⟩ := hM
  have cx := c_X7_question l D cI cJ cZ cO o t0 h0 w0 r0 k0 s0 (nI K) s1 s2 ns (nI am) sf sg (cnt_T hT hst.1)
  have cm := c_X8_question l D cI cJ cZ cO z a0 a1 a2 a3 a4 a5 a6 a7 a8 a9 a10 a11 a12 a13 a14 a15 T P (nI pa) (nI K) rn ln th wt (nF iN) (nF aN) hT
  rw [quest_eq hT hI ha hst.1 hst.2.1] at cx
  exact kJmk ((qF (nF iN) (nF aN) T T).1) hS0
    (kCofR (cx) (sub_app [0, 17, 18, 19] rfl) (fun v hv => by
      obtain rfl := hv
      exact ⟨rfl, hX0⟩))
    (kCfr (kCtoX (cm)) [0, 2, 11] [1, 3, 4, 5, 6, 7, 8, 9, 10, 12, 13, 14, 15, 16] rfl rfl rfl (fun v u hv => by
      obtain ⟨rfl, rfl⟩ := hv
      refine ⟨_, [14, 0, 15, 1, 2, 3, 4, 5, 6, 7, 8, 16, 9, 10, 11, 12, 13], rfl, ?_, rfl, a0, a1, a2, a3, a4, a5, a6, a7, a8, a9, a10, a11, a12, a13, a14, a15, 0, wt, ro, lb, pl, co, st, go, rr, rfl, hro, hlb, hrr⟩
      rfl))

set_option maxHeartbeats 4000000 in
theorem j_settle (l : Launch) (D : va_G) (cI cJ cZ cO : ClassId) (e0 mi o z : Nat) (wX wM : va_W) (hJ : lJ cI cJ cZ cO e0 o z wX wM) :
    kJo l D cI cJ cZ cO e0 mi o z wX wM yX7_settle wsX7_settle [.ref o] yX8_settle wsX8_settle [.ref z] := by
  obtain ⟨T, wN, iN, P, nN, eN, gN, sN, pN, pa, K, rn, rN, mN, ln, dN, aN, hS, hX, hM⟩ := hJ
  have hS0 := hS
  have hX0 := hX
  obtain ⟨hT, hP, hpa, hK, hrn, hln, hw, hI, hB, hm, ha, hr28⟩ := hS
  obtain ⟨t0, h0, w0, r0, k0, s0, t1, t2, la, w1, w2, r1, k1, k2, k3, k4, k5, s1, s2, mo, N0, dn, ea, cap, al, LP, pf, ad, f, g, rf, lf, df, sf, sg, ns, am, rfl, hSh, hE, hrf, hlf, hst⟩ := hX
  obtain ⟨a0, a1, a2, a3, a4, a5, a6, a7, a8, a9, a10, a11, a12, a13, a14, a15, th, wt, ro, lb, pl, co, st, go, rr, rfl, hro, hlb, hrr⟩ := hM
  have cx := c_X7_settle l D cI cJ cZ cO o t0 h0 w0 r0 k0 s0 (nI K) s1 s2 ns (nI am) sf sg (cnt_T hT hst.1)
  have cm := c_X8_settle l D cI cJ cZ cO z a0 a1 a2 a3 a4 a5 a6 a7 a8 a9 a10 a11 a12 a13 a14 a15 T P (nI pa) (nI K) rn ln th wt (nF iN) (nF aN) hT
  obtain ⟨c1, hc1, e1, e2⟩ := settle_eq hT hst.1 hst.2.1
  rw [e1] at cx
  rw [e2] at cm
  have hS1 : lJS T wN iN P nN eN gN sN pN pa c1 rn rN mN ln aN := ⟨hT, hP, hpa, hc1, hrn, hln, hw, hI, hB, hm, ha, hr28⟩
  exact kJmk (nI c1) hS1
    (kCfrQ (kCtoX cx) [0, 17, 18, 19] [1, 2, 3, 4, 5, 6, 7, 8, 9, 10, 11, 12, 13, 14, 15, 16] rfl rfl rfl (fun v u hv => by
      obtain ⟨rfl, rfl⟩ := hv
      refine ⟨_, [16, 0, 1, 2, 3, 4, 5, 6, 7, 8, 9, 10, 11, 12, 13, 14, 15, 17, 18, 19], rfl, ?_, rfl, t0, h0, w0, r0, k0, s0, t1, t2, la, w1, w2, r1, k1, k2, k3, k4, k5, s1, s2, mo, N0, dn, ea, cap, al, LP, pf, ad, f, g, rf, lf, df, sf, sg, ns, am, rfl, hSh, hE, hrf, hlf, hst⟩
      rfl))
    (kCfr (kCtoX (cm)) [0, 2, 11] [1, 3, 4, 5, 6, 7, 8, 9, 10, 12, 13, 14, 15, 16] rfl rfl rfl (fun v u hv => by
      obtain ⟨rfl, rfl⟩ := hv
      refine ⟨_, [14, 0, 15, 1, 2, 3, 4, 5, 6, 7, 8, 16, 9, 10, 11, 12, 13], rfl, ?_, rfl, a0, a1, a2, a3, a4, a5, a6, a7, a8, a9, a10, a11, a12, a13, a14, a15, 0, wt, ro, lb, pl, co, st, go, rr, rfl, hro, hlb, hrr⟩
      rfl))

set_option maxHeartbeats 4000000 in
theorem j_worst (l : Launch) (D : va_G) (cI cJ cZ cO : ClassId) (e0 mi o z : Nat) (wX wM : va_W) (hJ : lJ cI cJ cZ cO e0 o z wX wM) :
    kJo l D cI cJ cZ cO e0 mi o z wX wM yX7_worst wsX7_worst [.ref o] yX8_worst wsX8_worst [.ref z] := by
  obtain ⟨T, wN, iN, P, nN, eN, gN, sN, pN, pa, K, rn, rN, mN, ln, dN, aN, hS, hX, hM⟩ := hJ
  have hS0 := hS
  have hX0 := hX
  obtain ⟨hT, hP, hpa, hK, hrn, hln, hw, hI, hB, hm, ha, hr28⟩ := hS
  obtain ⟨t0, h0, w0, r0, k0, s0, t1, t2, la, w1, w2, r1, k1, k2, k3, k4, k5, s1, s2, mo, N0, dn, ea, cap, al, LP, pf, ad, f, g, rf, lf, df, sf, sg, ns, am, rfl, hSh, hE, hrf, hlf, hst⟩ := hX
  obtain ⟨a0, a1, a2, a3, a4, a5, a6, a7, a8, a9, a10, a11, a12, a13, a14, a15, th, wt, ro, lb, pl, co, st, go, rr, rfl, hro, hlb, hrr⟩ := hM
  obtain ⟨fq, hfq⟩ : ∃ fq : Nat, fq = 12 := ⟨_, rfl⟩
  obtain ⟨q, hq⟩ : ∃ q, q = quoF fq (becF sg sf ns) 0 ns := ⟨_, rfl⟩
  obtain ⟨q2, hq2⟩ : ∃ q2, q2 = WN fq (mCt (2 ^ manyF (nF iN) (nF aN) T (2 ^ T) - 1) (wgN (nF iN) (nF aN) T rr (2 ^ T)).1) := ⟨_, rfl⟩
  have cx := c_X7_worst l D cI cJ cZ cO o t0 h0 w0 r0 k0 s0 (nI K) s1 s2 ns (nI am) sf sg fq q (cnt_T hT hst.1) hfq hq
  have cm := c_X8_worst l D cI cJ cZ cO z a0 a1 a2 a3 a4 a5 a6 a7 a8 a9 a10 a11 a12 a13 a14 a15 T P (nI pa) (nI K) rn ln th wt (nF iN) (nF aN) rr fq q2 hT hrr hfq hq2
  have hmn : manyF (nF iN) (nF aN) T (2 ^ T) = ns := (manyF_C iN aN T (2 ^ T)).trans hst.1.1.symm
  have hpw : 2 ^ T ≤ 4096 := Nat.pow_le_pow_right (n := 2) (j := 12) (by decide) hT
  by_cases h64 : ns ≤ 64
  · have hv : q.1 = nI q2 := by rw [hq, hq2]; exact worst_eq hT hst.1 h64 hfq
    rw [hmn] at cm
    simp only [h64, if_true, hv] at cx cm
    have hrr1 := wg_lt (im := nF iN) (an := nF aN) (T := T) hrr (2 ^ T) hpw
    exact kJmk (nI q2) hS0
      (kCfrQ (kCtoX cx) [0, 17, 18, 19] [1, 2, 3, 4, 5, 6, 7, 8, 9, 10, 11, 12, 13, 14, 15, 16] rfl rfl rfl (fun v u hv => by
      obtain ⟨rfl, rfl⟩ := hv
      refine ⟨_, [16, 0, 1, 2, 3, 4, 5, 6, 7, 8, 9, 10, 11, 12, 13, 14, 15, 17, 18, 19], rfl, ?_, rfl, t0, h0, w0, r0, k0, s0, t1, t2, la, w1, w2, r1, k1, k2, k3, k4, k5, s1, s2, mo, N0, dn, ea, cap, al, LP, pf, ad, f, g, rf, lf, df, sf, q.2, ns, am, rfl, hSh, hE, hrf, hlf, hst⟩
      rfl))
      (kCfr (kCtoX (cm)) [0, 2, 11, 16] [1, 3, 4, 5, 6, 7, 8, 9, 10, 12, 13, 14, 15] rfl rfl rfl (fun v u hv => by
      obtain ⟨rfl, rfl⟩ := hv
      refine ⟨_, [13, 0, 14, 1, 2, 3, 4, 5, 6, 7, 8, 15, 9, 10, 11, 12, 16], rfl, ?_, rfl, a0, a1, a2, a3, a4, a5, a6, a7, a8, a9, a10, a11, a12, a13, a14, a15, 0, wt, ro, lb, pl, co, st, go, (wgN (nF iN) (nF aN) T rr (2 ^ T)).1, rfl, hro, hlb, hrr1⟩
      rfl))
  · rw [hmn] at cm
    simp only [h64, if_false] at cx cm
    exact kJmk (-1) hS0
      (kCfrQ (kCtoX cx) [0, 17, 18, 19] [1, 2, 3, 4, 5, 6, 7, 8, 9, 10, 11, 12, 13, 14, 15, 16] rfl rfl rfl (fun v u hv => by
      obtain ⟨rfl, rfl⟩ := hv
      refine ⟨_, [16, 0, 1, 2, 3, 4, 5, 6, 7, 8, 9, 10, 11, 12, 13, 14, 15, 17, 18, 19], rfl, ?_, rfl, t0, h0, w0, r0, k0, s0, t1, t2, la, w1, w2, r1, k1, k2, k3, k4, k5, s1, s2, mo, N0, dn, ea, cap, al, LP, pf, ad, f, g, rf, lf, df, sf, sg, ns, am, rfl, hSh, hE, hrf, hlf, hst⟩
      rfl))
      (kCfr (kCtoX (cm)) [0, 2, 11, 16] [1, 3, 4, 5, 6, 7, 8, 9, 10, 12, 13, 14, 15] rfl rfl rfl (fun v u hv => by
      obtain ⟨rfl, rfl⟩ := hv
      refine ⟨_, [13, 0, 14, 1, 2, 3, 4, 5, 6, 7, 8, 15, 9, 10, 11, 12, 16], rfl, ?_, rfl, a0, a1, a2, a3, a4, a5, a6, a7, a8, a9, a10, a11, a12, a13, a14, a15, 0, wt, ro, lb, pl, co, st, go, rr, rfl, hro, hlb, hrr⟩
      rfl))
