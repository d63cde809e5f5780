/-! ===== class and reference side by side: readers and small writers ===== -/
set_option maxHeartbeats 4000000 in
theorem j_pace (l : Launch) (D : va_G) (cI cJ cZ cO : ClassId) (e0 mi o z : Nat) (wX wM : va_W) (hJ : lJ cI cJ cZ cO e0 o z wX wM) (v : Int32) :
    kJo l D cI cJ cZ cO e0 mi o z wX wM yX7_pace wsX7_pace [.ref o, .int v] yX8_pace wsX8_pace [.ref z, .int v] := by
  obtain ⟨T, wN, iN, P, nN, eN, gN, sN, pN, pa, K, rn, rN, mN, ln, dN, aN, hS, hX, hM⟩ := hJ
  have hS0 := hS
  have hX0 := hX
  obtain ⟨hT, hP, hpa, hK, hrn, hln, hw, hI, hB, hm, ha, hr28⟩ := hS
  obtain ⟨t0, h0, w0, r0, k0, s0, t1, t2, la, w1, w2, r1, k1, k2, k3, k4, k5, s1, s2, mo, N0, dn, ea, cap, al, LP, pf, ad, f, g, rf, lf, df, sf, sg, ns, am, rfl, hSh, hE, hrf, hlf, hst⟩ := hX
  obtain ⟨a0, a1, a2, a3, a4, a5, a6, a7, a8, a9, a10, a11, a12, a13, a14, a15, th, wt, ro, lb, pl, co, st, go, rr, rfl, hro, hlb, hrr⟩ := hM
  have cx := c_X7_pace l D cI cJ cZ cO o t0 h0 w0 r0 k0 s0 (nI K) la ea (nI pa) mo P al cap LP pf ad (nF nN) (nF eN) (nF (gvN iN gN T)) (nF (gvN iN sN T)) (nF pN) v hP hSh.H hE 
  have cm := c_X8_pace l D cI cJ cZ cO z a0 a1 a2 a3 a4 a5 a6 a7 a8 a9 a10 a11 a12 a13 a14 a15 T P (nI pa) (nI K) rn ln th wt v
  by_cases hb : withinB v 1 10 = true
  · obtain ⟨pb, hp1, hp2, rfl⟩ := (wi_iff (b := v) (a := 1) (c := 10) (by omega) (by omega)).mp hb
    simp only [hb, if_true] at cx cm
    have hS1 : lJS T wN iN P nN eN gN sN pN pb K rn rN mN ln aN := ⟨hT, hP, hp2, hK, hrn, hln, hw, hI, hB, hm, ha, hr28⟩
    exact kJmk (nI pa) hS1
      (kCfrP (kCtoX cx) [0, 4, 5] [1, 2, 3, 6, 7, 8, 9, 10, 11, 12, 13, 14, 15, 16, 17, 18, 19] rfl rfl rfl (fun v u hv => by
      obtain ⟨rfl, rfl⟩ := hv
      refine ⟨_, _, _, [17, 0, 1, 2, 18, 19, 3, 4, 5, 6, 7, 8, 9, 10, 11, 12, 13, 14, 15, 16], rfl, rfl, ?_, rfl, t0, h0, w0, r0, k0, s0, t1, t2, la, w1, w2, r1, k1, k2, k3, k4, k5, s1, s2, mo, N0, dn, ea, cap, al, LP, pf, ad, f, g, rf, lf, df, sf, sg, ns, am, rfl, hSh, hE, hrf, hlf, hst⟩
      rfl))
      (kCfr (kCtoX (cm)) [0] [1, 2, 3, 4, 5, 6, 7, 8, 9, 10, 11, 12, 13, 14, 15, 16] rfl rfl rfl (fun v u hv => by
      obtain ⟨rfl, rfl⟩ := hv
      refine ⟨_, [16, 0, 1, 2, 3, 4, 5, 6, 7, 8, 9, 10, 11, 12, 13, 14, 15], rfl, ?_, rfl, a0, a1, a2, a3, a4, a5, a6, a7, a8, a9, a10, a11, a12, a13, a14, a15, 0, wt, ro, lb, pl, co, st, go, rr, rfl, hro, hlb, hrr⟩
      rfl))
  · rw [Bool.not_eq_true] at hb
    simp only [hb, if_false, Bool.false_eq_true] at cx cm
    exact kJmk (-1) hS0
      (kCfrP (kCtoX cx) [0, 4, 5] [1, 2, 3, 6, 7, 8, 9, 10, 11, 12, 13, 14, 15, 16, 17, 18, 19] rfl rfl rfl (fun v u hv => by
      obtain ⟨rfl, rfl⟩ := hv
      refine ⟨_, _, _, [17, 0, 1, 2, 18, 19, 3, 4, 5, 6, 7, 8, 9, 10, 11, 12, 13, 14, 15, 16], rfl, rfl, ?_, rfl, t0, h0, w0, r0, k0, s0, t1, t2, la, w1, w2, r1, k1, k2, k3, k4, k5, s1, s2, mo, N0, dn, ea, cap, al, LP, pf, ad, f, g, rf, lf, df, sf, sg, ns, am, rfl, hSh, hE, hrf, hlf, hst⟩
      rfl))
      (kCfr (kCtoX (cm)) [0] [1, 2, 3, 4, 5, 6, 7, 8, 9, 10, 11, 12, 13, 14, 15, 16] rfl rfl rfl (fun v u hv => by
      obtain ⟨rfl, rfl⟩ := hv
      refine ⟨_, [16, 0, 1, 2, 3, 4, 5, 6, 7, 8, 9, 10, 11, 12, 13, 14, 15], rfl, ?_, rfl, a0, a1, a2, a3, a4, a5, a6, a7, a8, a9, a10, a11, a12, a13, a14, a15, 0, wt, ro, lb, pl, co, st, go, rr, rfl, hro, hlb, hrr⟩
      rfl))

set_option maxHeartbeats 4000000 in
theorem j_know (l : Launch) (D : va_G) (cI cJ cZ cO : ClassId) (e0 mi o z : Nat) (wX wM : va_W) (hJ : lJ cI cJ cZ cO e0 o z wX wM) (v : Int32) :
    kJo l D cI cJ cZ cO e0 mi o z wX wM yX7_know wsX7_know [.ref o, .int v] yX8_know wsX8_know [.ref z, .int v] := by
  obtain ⟨T, wN, iN, P, nN, eN, gN, sN, pN, pa, K, rn, rN, mN, ln, dN, aN, hS, hX, hM⟩ := hJ
  have hS0 := hS
  have hX0 := hX
  obtain ⟨hT, hP, hpa, hK, hrn, hln, hw, hI, hB, hm, ha, hr28⟩ := hS
  obtain ⟨t0, h0, w0, r0, k0, s0, t1, t2, la, w1, w2, r1, k1, k2, k3, k4, k5, s1, s2, mo, N0, dn, ea, cap, al, LP, pf, ad, f, g, rf, lf, df, sf, sg, ns, am, rfl, hSh, hE, hrf, hlf, hst⟩ := hX
  obtain ⟨a0, a1, a2, a3, a4, a5, a6, a7, a8, a9, a10, a11, a12, a13, a14, a15, th, wt, ro, lb, pl, co, st, go, rr, rfl, hro, hlb, hrr⟩ := hM
  have cx := c_X7_know l D cI cJ cZ cO o t0 h0 w0 r0 k0 s0 (nI K) t1 t2 T (nF wN) (nF (clN iN T)) v
  have cm := c_X8_know l D cI cJ cZ cO z a0 a1 a2 a3 a4 a5 a6 a7 a8 a9 a10 a11 a12 a13 a14 a15 T P (nI pa) (nI K) rn ln th wt (nF iN) v hT
  rw [have_are hT] at cx
  by_cases hb : areB T v = true
  · obtain ⟨j, hj, rfl⟩ := (areB_iff hT).mp hb
    have hc : closN iN j T < 2 ^ T := closN_lt hj T (imB_lt hI)
    simp only [hb, if_true, closF_cl hT hj, closF_N (kp31 hT hj) T (by omega)] at cx cm
    have hS1 : lJS T wN iN P nN eN gN sN pN pa (closN iN j T) rn rN mN ln aN := ⟨hT, hP, hpa, hc, hrn, hln, hw, hI, hB, hm, ha, hr28⟩
    exact kJmk (nI (closN iN j T)) hS1
      (kCfrQ (kCtoX cx) [0, 1, 2, 3] [4, 5, 6, 7, 8, 9, 10, 11, 12, 13, 14, 15, 16, 17, 18, 19] rfl rfl rfl (fun v u hv => by
      obtain ⟨rfl, rfl⟩ := hv
      refine ⟨_, [16, 17, 18, 19, 0, 1, 2, 3, 4, 5, 6, 7, 8, 9, 10, 11, 12, 13, 14, 15], rfl, ?_, rfl, t0, h0, w0, r0, k0, s0, t1, t2, la, w1, w2, r1, k1, k2, k3, k4, k5, s1, s2, mo, N0, dn, ea, cap, al, LP, pf, ad, f, g, rf, lf, df, sf, sg, ns, am, rfl, hSh, hE, hrf, hlf, hst⟩
      rfl))
      (kCfr (kCtoX (cm)) [0, 2] [1, 3, 4, 5, 6, 7, 8, 9, 10, 11, 12, 13, 14, 15, 16] rfl rfl rfl (fun v u hv => by
      obtain ⟨rfl, rfl⟩ := hv
      refine ⟨_, [15, 0, 16, 1, 2, 3, 4, 5, 6, 7, 8, 9, 10, 11, 12, 13, 14], rfl, ?_, rfl, a0, a1, a2, a3, a4, a5, a6, a7, a8, a9, a10, a11, a12, a13, a14, a15, 0, wt, ro, lb, pl, co, st, go, rr, rfl, hro, hlb, hrr⟩
      rfl))
  · rw [Bool.not_eq_true] at hb
    simp only [hb, if_false, Bool.false_eq_true] at cx cm
    exact kJmk (-1) hS0
      (kCfrQ (kCtoX cx) [0, 1, 2, 3] [4, 5, 6, 7, 8, 9, 10, 11, 12, 13, 14, 15, 16, 17, 18, 19] rfl rfl rfl (fun v u hv => by
      obtain ⟨rfl, rfl⟩ := hv
      refine ⟨_, [16, 17, 18, 19, 0, 1, 2, 3, 4, 5, 6, 7, 8, 9, 10, 11, 12, 13, 14, 15], rfl, ?_, rfl, t0, h0, w0, r0, k0, s0, t1, t2, la, w1, w2, r1, k1, k2, k3, k4, k5, s1, s2, mo, N0, dn, ea, cap, al, LP, pf, ad, f, g, rf, lf, df, sf, sg, ns, am, rfl, hSh, hE, hrf, hlf, hst⟩
      rfl))
      (kCfr (kCtoX (cm)) [0, 2] [1, 3, 4, 5, 6, 7, 8, 9, 10, 11, 12, 13, 14, 15, 16] rfl rfl rfl (fun v u hv => by
      obtain ⟨rfl, rfl⟩ := hv
      refine ⟨_, [15, 0, 16, 1, 2, 3, 4, 5, 6, 7, 8, 9, 10, 11, 12, 13, 14], rfl, ?_, rfl, a0, a1, a2, a3, a4, a5, a6, a7, a8, a9, a10, a11, a12, a13, a14, a15, 0, wt, ro, lb, pl, co, st, go, rr, rfl, hro, hlb, hrr⟩
      rfl))

set_option maxHeartbeats 4000000 in
theorem j_with (l : Launch) (D : va_G) (cI cJ cZ cO : ClassId) (e0 mi o z : Nat) (wX wM : va_W) (hJ : lJ cI cJ cZ cO e0 o z wX wM) (v : Int32) :
    kJo l D cI cJ cZ cO e0 mi o z wX wM yX7_with wsX7_with [.ref o, .int v] yX8_with wsX8_with [.ref z, .int v] := by
  obtain ⟨T, wN, iN, P, nN, eN, gN, sN, pN, pa, K, rn, rN, mN, ln, dN, aN, hS, hX, hM⟩ := hJ
  have hS0 := hS
  have hX0 := hX
  obtain ⟨hT, hP, hpa, hK, hrn, hln, hw, hI, hB, hm, ha, hr28⟩ := hS
  obtain ⟨t0, h0, w0, r0, k0, s0, t1, t2, la, w1, w2, r1, k1, k2, k3, k4, k5, s1, s2, mo, N0, dn, ea, cap, al, LP, pf, ad, f, g, rf, lf, df, sf, sg, ns, am, rfl, hSh, hE, hrf, hlf, hst⟩ := hX
  obtain ⟨a0, a1, a2, a3, a4, a5, a6, a7, a8, a9, a10, a11, a12, a13, a14, a15, th, wt, ro, lb, pl, co, st, go, rr, rfl, hro, hlb, hrr⟩ := hM
  have cx := c_X7_with l D cI cJ cZ cO o t0 h0 w0 r0 k0 s0 (nI K) t1 t2 T (nF wN) (nF (clN iN T)) v
  have cm := c_X8_with l D cI cJ cZ cO z a0 a1 a2 a3 a4 a5 a6 a7 a8 a9 a10 a11 a12 a13 a14 a15 T P (nI pa) (nI K) rn ln th wt (nF iN) v hT
  rw [have_are hT] at cx
  by_cases hb : areB T v = true
  · obtain ⟨j, hj, rfl⟩ := (areB_iff hT).mp hb
    simp only [hb, if_true, closF_cl hT hj] at cx cm
    exact kJmk (closF (nF iN) (nI j) T) hS0
      (kCofR (cx) (sub_app [0, 1, 2, 3] rfl) (fun v hv => by
      obtain rfl := hv
      exact ⟨rfl, hX0⟩))
      (kCfr (kCtoX (cm)) [0, 2] [1, 3, 4, 5, 6, 7, 8, 9, 10, 11, 12, 13, 14, 15, 16] rfl rfl rfl (fun v u hv => by
      obtain ⟨rfl, rfl⟩ := hv
      refine ⟨_, [15, 0, 16, 1, 2, 3, 4, 5, 6, 7, 8, 9, 10, 11, 12, 13, 14], rfl, ?_, rfl, a0, a1, a2, a3, a4, a5, a6, a7, a8, a9, a10, a11, a12, a13, a14, a15, 0, wt, ro, lb, pl, co, st, go, rr, rfl, hro, hlb, hrr⟩
      rfl))
  · rw [Bool.not_eq_true] at hb
    simp only [hb, if_false, Bool.false_eq_true] at cx cm
    exact kJmk (-1) hS0
      (kCofR (cx) (sub_app [0, 1, 2, 3] rfl) (fun v hv => by
      obtain rfl := hv
      exact ⟨rfl, hX0⟩))
      (kCfr (kCtoX (cm)) [0, 2] [1, 3, 4, 5, 6, 7, 8, 9, 10, 11, 12, 13, 14, 15, 16] rfl rfl rfl (fun v u hv => by
      obtain ⟨rfl, rfl⟩ := hv
      refine ⟨_, [15, 0, 16, 1, 2, 3, 4, 5, 6, 7, 8, 9, 10, 11, 12, 13, 14], rfl, ?_, rfl, a0, a1, a2, a3, a4, a5, a6, a7, a8, a9, a10, a11, a12, a13, a14, a15, 0, wt, ro, lb, pl, co, st, go, rr, rfl, hro, hlb, hrr⟩
      rfl))

set_option maxHeartbeats 4000000 in
theorem j_count (l : Launch) (D : va_G) (cI cJ cZ cO : ClassId) (e0 mi o z : Nat) (wX wM : va_W) (hJ : lJ cI cJ cZ cO e0 o z wX wM) (v : Int32) :
    kJo l D cI cJ cZ cO e0 mi o z wX wM yX7_count wsX7_count [.ref o, .int v] yX8_count wsX8_count [.ref z, .int v] := by
  obtain ⟨T, wN, iN, P, nN, eN, gN, sN, pN, pa, K, rn, rN, mN, ln, dN, aN, hS, hX, hM⟩ := hJ
  have hS0 := hS
  have hX0 := hX
  obtain ⟨hT, hP, hpa, hK, hrn, hln, hw, hI, hB, hm, ha, hr28⟩ := hS
  obtain ⟨t0, h0, w0, r0, k0, s0, t1, t2, la, w1, w2, r1, k1, k2, k3, k4, k5, s1, s2, mo, N0, dn, ea, cap, al, LP, pf, ad, f, g, rf, lf, df, sf, sg, ns, am, rfl, hSh, hE, hrf, hlf, hst⟩ := hX
  obtain ⟨a0, a1, a2, a3, a4, a5, a6, a7, a8, a9, a10, a11, a12, a13, a14, a15, th, wt, ro, lb, pl, co, st, go, rr, rfl, hro, hlb, hrr⟩ := hM
  have cx := c_X7_count l D cI cJ cZ cO o t0 h0 w0 r0 k0 s0 (nI K) t1 t2 T (nF wN) (nF (clN iN T)) la ea (nI pa) mo P al cap LP pf ad (nF nN) (nF eN) (nF (gvN iN gN T)) (nF (gvN iN sN T)) (nF pN) r1 rn rf v hP hSh.H hE 
  have cm := c_X8_count l D cI cJ cZ cO z a0 a1 a2 a3 a4 a5 a6 a7 a8 a9 a10 a11 a12 a13 a14 a15 T P (nI pa) (nI K) rn ln th wt (nF wN) v hT
  rw [worth_cl hT hK] at cx
  exact kJmk (cntF6 v (nI T) (nI P) (nI K) (nI pa) (worthF (nF wN) (nI K) T) (nI rn)) hS0
    (kCofR (cx) (sub_appP [0, 1, 2, 3, 9, 10, 4, 5] rfl) (fun v hv => by
      obtain rfl := hv
      exact ⟨rfl, hX0⟩))
    (kCfr (kCtoX (cm)) [0, 1] [2, 3, 4, 5, 6, 7, 8, 9, 10, 11, 12, 13, 14, 15, 16] rfl rfl rfl (fun v u hv => by
      obtain ⟨rfl, rfl⟩ := hv
      refine ⟨_, [15, 16, 0, 1, 2, 3, 4, 5, 6, 7, 8, 9, 10, 11, 12, 13, 14], rfl, ?_, rfl, a0, a1, a2, a3, a4, a5, a6, a7, a8, a9, a10, a11, a12, a13, a14, a15, 0, wt, ro, lb, pl, co, st, go, rr, rfl, hro, hlb, hrr⟩
      rfl))

set_option maxHeartbeats 4000000 in
theorem j_minutes (l : Launch) (D : va_G) (cI cJ cZ cO : ClassId) (e0 mi o z : Nat) (wX wM : va_W) (hJ : lJ cI cJ cZ cO e0 o z wX wM) (v : Int32) :
    kJo l D cI cJ cZ cO e0 mi o z wX wM yX7_minutes wsX7_minutes [.ref o, .int v] yX8_minutes wsX8_minutes [.ref z, .int v] := by
  obtain ⟨T, wN, iN, P, nN, eN, gN, sN, pN, pa, K, rn, rN, mN, ln, dN, aN, hS, hX, hM⟩ := hJ
  have hS0 := hS
  have hX0 := hX
  obtain ⟨hT, hP, hpa, hK, hrn, hln, hw, hI, hB, hm, ha, hr28⟩ := hS
  obtain ⟨t0, h0, w0, r0, k0, s0, t1, t2, la, w1, w2, r1, k1, k2, k3, k4, k5, s1, s2, mo, N0, dn, ea, cap, al, LP, pf, ad, f, g, rf, lf, df, sf, sg, ns, am, rfl, hSh, hE, hrf, hlf, hst⟩ := hX
  obtain ⟨a0, a1, a2, a3, a4, a5, a6, a7, a8, a9, a10, a11, a12, a13, a14, a15, th, wt, ro, lb, pl, co, st, go, rr, rfl, hro, hlb, hrr⟩ := hM
  rcases kstep v hP with ⟨k, hk, rfl⟩ | hs
  · have cx := c_X7_minutes_a l D cI cJ cZ cO o t0 h0 w0 r0 k0 s0 (nI K) la ea (nI pa) mo P al cap LP pf ad (nF nN) (nF eN) (nF (gvN iN gN T)) (nF (gvN iN sN T)) (nF pN) k hP hSh.H hE hk
    have cm := c_X8_minutes l D cI cJ cZ cO z a0 a1 a2 a3 a4 a5 a6 a7 a8 a9 a10 a11 a12 a13 a14 a15 T P (nI pa) (nI K) rn ln th wt (nF pN) (nI k) hP
    rw [time_N hB hpa (by omega)] at cx
    simp only [stp_k hP (show k < 2 ^ 31 by omega), hk, decide_true, if_true, nI_clamp (show k < 2 ^ 31 by omega), mtime_N hB hpa] at cm
    exact kJmk (nI (tmN pN pa k)) hS0
      (kCofR (cx) (sub_appP [0, 4, 5] rfl) (fun v hv => by
      obtain rfl := hv
      exact ⟨rfl, hX0⟩))
      (kCfr (kCtoX (cm)) [0, 7] [1, 2, 3, 4, 5, 6, 8, 9, 10, 11, 12, 13, 14, 15, 16] rfl rfl rfl (fun v u hv => by
      obtain ⟨rfl, rfl⟩ := hv
      refine ⟨_, [15, 0, 1, 2, 3, 4, 5, 16, 6, 7, 8, 9, 10, 11, 12, 13, 14], rfl, ?_, rfl, a0, a1, a2, a3, a4, a5, a6, a7, a8, a9, a10, a11, a12, a13, a14, a15, 0, wt, ro, lb, pl, co, st, go, rr, rfl, hro, hlb, hrr⟩
      rfl))
  · have cx := c_X7_minutes_b l D cI cJ cZ cO o t0 h0 w0 r0 k0 s0 (nI K) la ea (nI pa) mo P al cap LP pf ad (nF nN) (nF eN) (nF (gvN iN gN T)) (nF (gvN iN sN T)) (nF pN) v hP hSh.H hE hs
    have cm := c_X8_minutes l D cI cJ cZ cO z a0 a1 a2 a3 a4 a5 a6 a7 a8 a9 a10 a11 a12 a13 a14 a15 T P (nI pa) (nI K) rn ln th wt (nF pN) v hP
    simp only [stp_out hP hs, if_false, Bool.false_eq_true] at cm
    exact kJmk (-1) hS0
      (kCofR (cx) (sub_appP [0, 4, 5] rfl) (fun v hv => by
      obtain rfl := hv
      exact ⟨rfl, hX0⟩))
      (kCfr (kCtoX (cm)) [0, 7] [1, 2, 3, 4, 5, 6, 8, 9, 10, 11, 12, 13, 14, 15, 16] rfl rfl rfl (fun v u hv => by
      obtain ⟨rfl, rfl⟩ := hv
      refine ⟨_, [15, 0, 1, 2, 3, 4, 5, 16, 6, 7, 8, 9, 10, 11, 12, 13, 14], rfl, ?_, rfl, a0, a1, a2, a3, a4, a5, a6, a7, a8, a9, a10, a11, a12, a13, a14, a15, 0, wt, ro, lb, pl, co, st, go, rr, rfl, hro, hlb, hrr⟩
      rfl))

set_option maxHeartbeats 4000000 in
theorem j_can (l : Launch) (D : va_G) (cI cJ cZ cO : ClassId) (e0 mi o z : Nat) (wX wM : va_W) (hJ : lJ cI cJ cZ cO e0 o z wX wM) (v : Int32) :
    kJo l D cI cJ cZ cO e0 mi o z wX wM yX7_can wsX7_can [.ref o, .int v] yX8_can wsX8_can [.ref z, .int v] := by
  obtain ⟨T, wN, iN, P, nN, eN, gN, sN, pN, pa, K, rn, rN, mN, ln, dN, aN, hS, hX, hM⟩ := hJ
  have hS0 := hS
  have hX0 := hX
  obtain ⟨hT, hP, hpa, hK, hrn, hln, hw, hI, hB, hm, ha, hr28⟩ := hS
  obtain ⟨t0, h0, w0, r0, k0, s0, t1, t2, la, w1, w2, r1, k1, k2, k3, k4, k5, s1, s2, mo, N0, dn, ea, cap, al, LP, pf, ad, f, g, rf, lf, df, sf, sg, ns, am, rfl, hSh, hE, hrf, hlf, hst⟩ := hX
  obtain ⟨a0, a1, a2, a3, a4, a5, a6, a7, a8, a9, a10, a11, a12, a13, a14, a15, th, wt, ro, lb, pl, co, st, go, rr, rfl, hro, hlb, hrr⟩ := hM
  rcases kstep v hP with ⟨k, hk, rfl⟩ | hs
  · have cx := c_X7_can_a l D cI cJ cZ cO o t0 h0 w0 r0 k0 s0 (nI K) la ea (nI pa) mo P al cap LP pf ad (nF nN) (nF eN) (nF (gvN iN gN T)) (nF (gvN iN sN T)) (nF pN) k hP hSh.H hE hk
    have cm := c_X8_can l D cI cJ cZ cO z a0 a1 a2 a3 a4 a5 a6 a7 a8 a9 a10 a11 a12 a13 a14 a15 T P (nI pa) (nI K) rn ln th wt (nF nN) (nF eN) (nI k) hP
    rw [openB_N hT hB hK] at cx
    simp only [stp_k hP (show k < 2 ^ 31 by omega), hk, decide_true, if_true, nI_clamp (show k < 2 ^ 31 by omega), canB_N hT hB hK] at cm
    exact kJmk (k01 (opN (nN (k / 2)) (eN (k / 2)) K)) hS0
      (kCofR (cx) (sub_appP [0, 4, 5] rfl) (fun v hv => by
      obtain rfl := hv
      exact ⟨rfl, hX0⟩))
      (kCfr (kCtoX (cm)) [0, 3, 4] [1, 2, 5, 6, 7, 8, 9, 10, 11, 12, 13, 14, 15, 16] rfl rfl rfl (fun v u hv => by
      obtain ⟨rfl, rfl⟩ := hv
      refine ⟨_, [14, 0, 1, 15, 16, 2, 3, 4, 5, 6, 7, 8, 9, 10, 11, 12, 13], rfl, ?_, rfl, a0, a1, a2, a3, a4, a5, a6, a7, a8, a9, a10, a11, a12, a13, a14, a15, 0, wt, ro, lb, pl, co, st, go, rr, rfl, hro, hlb, hrr⟩
      rfl))
  · have cx := c_X7_can_b l D cI cJ cZ cO o t0 h0 w0 r0 k0 s0 (nI K) la ea (nI pa) mo P al cap LP pf ad (nF nN) (nF eN) (nF (gvN iN gN T)) (nF (gvN iN sN T)) (nF pN) v hP hSh.H hE hs
    have cm := c_X8_can l D cI cJ cZ cO z a0 a1 a2 a3 a4 a5 a6 a7 a8 a9 a10 a11 a12 a13 a14 a15 T P (nI pa) (nI K) rn ln th wt (nF nN) (nF eN) v hP
    simp only [stp_out hP hs, if_false, Bool.false_eq_true] at cm
    exact kJmk (-1) hS0
      (kCofR (cx) (sub_appP [0, 4, 5] rfl) (fun v hv => by
      obtain rfl := hv
      exact ⟨rfl, hX0⟩))
      (kCfr (kCtoX (cm)) [0, 3, 4] [1, 2, 5, 6, 7, 8, 9, 10, 11, 12, 13, 14, 15, 16] rfl rfl rfl (fun v u hv => by
      obtain ⟨rfl, rfl⟩ := hv
      refine ⟨_, [14, 0, 1, 15, 16, 2, 3, 4, 5, 6, 7, 8, 9, 10, 11, 12, 13], rfl, ?_, rfl, a0, a1, a2, a3, a4, a5, a6, a7, a8, a9, a10, a11, a12, a13, a14, a15, 0, wt, ro, lb, pl, co, st, go, rr, rfl, hro, hlb, hrr⟩
      rfl))

set_option maxHeartbeats 4000000 in
theorem j_done (l : Launch) (D : va_G) (cI cJ cZ cO : ClassId) (e0 mi o z : Nat) (wX wM : va_W) (hJ : lJ cI cJ cZ cO e0 o z wX wM) (v : Int32) :
    kJo l D cI cJ cZ cO e0 mi o z wX wM yX7_done wsX7_done [.ref o, .int v] yX8_done wsX8_done [.ref z, .int v] := by
  obtain ⟨T, wN, iN, P, nN, eN, gN, sN, pN, pa, K, rn, rN, mN, ln, dN, aN, hS, hX, hM⟩ := hJ
  have hS0 := hS
  have hX0 := hX
  obtain ⟨hT, hP, hpa, hK, hrn, hln, hw, hI, hB, hm, ha, hr28⟩ := hS
  obtain ⟨t0, h0, w0, r0, k0, s0, t1, t2, la, w1, w2, r1, k1, k2, k3, k4, k5, s1, s2, mo, N0, dn, ea, cap, al, LP, pf, ad, f, g, rf, lf, df, sf, sg, ns, am, rfl, hSh, hE, hrf, hlf, hst⟩ := hX
  obtain ⟨a0, a1, a2, a3, a4, a5, a6, a7, a8, a9, a10, a11, a12, a13, a14, a15, th, wt, ro, lb, pl, co, st, go, rr, rfl, hro, hlb, hrr⟩ := hM
  rcases kstep v hP with ⟨k, hk, rfl⟩ | hs
  · have cx := c_X7_done_a l D cI cJ cZ cO o t0 h0 w0 r0 k0 s0 (nI K) la ea (nI pa) mo P al cap LP pf ad (nF nN) (nF eN) (nF (gvN iN gN T)) (nF (gvN iN sN T)) (nF pN) k hP hSh.H hE hk
    have cm := c_X8_done l D cI cJ cZ cO z a0 a1 a2 a3 a4 a5 a6 a7 a8 a9 a10 a11 a12 a13 a14 a15 T P (nI pa) (nI K) rn ln th wt (nF nN) (nF eN) (nF iN) (nF gN) (nF sN) (nI k) hT hP
    rw [openB_N hT hB hK, bring_N (show k < 2 ^ 31 by omega), hx_or] at cx
    simp only [stp_k hP (show k < 2 ^ 31 by omega), hk, decide_true, Bool.true_and, nI_clamp (show k < 2 ^ 31 by omega), canB_N hT hB hK, bhF_N hT hB] at cm
    by_cases ho : opN (nN (k / 2)) (eN (k / 2)) K = true
    · simp only [ho, if_true] at cx cm
      have hS1 : lJS T wN iN P nN eN gN sN pN pa (K ||| brN iN gN sN T k) rn rN mN ln aN := ⟨hT, hP, hpa, Nat.or_lt_two_pow hK (brN_lt hB hI k), hrn, hln, hw, hI, hB, hm, ha, hr28⟩
      exact kJmk (nI (K ||| brN iN gN sN T k)) hS1
        (kCfrP (kCtoX cx) [0, 4, 5] [1, 2, 3, 6, 7, 8, 9, 10, 11, 12, 13, 14, 15, 16, 17, 18, 19] rfl rfl rfl (fun v u hv => by
      obtain ⟨rfl, rfl⟩ := hv
      refine ⟨_, _, _, [17, 0, 1, 2, 18, 19, 3, 4, 5, 6, 7, 8, 9, 10, 11, 12, 13, 14, 15, 16], rfl, rfl, ?_, rfl, t0, h0, w0, r0, k0, s0, t1, t2, la, w1, w2, r1, k1, k2, k3, k4, k5, s1, s2, mo, N0, dn, ea, cap, al, LP, pf, ad, f, g, rf, lf, df, sf, sg, ns, am, rfl, hSh, hE, hrf, hlf, hst⟩
      rfl))
        (kCfr (kCtoX (cm)) [0, 3, 4, 2, 5, 6] [1, 7, 8, 9, 10, 11, 12, 13, 14, 15, 16] rfl rfl rfl (fun v u hv => by
      obtain ⟨rfl, rfl⟩ := hv
      refine ⟨_, [11, 0, 14, 12, 13, 15, 16, 1, 2, 3, 4, 5, 6, 7, 8, 9, 10], rfl, ?_, rfl, a0, a1, a2, a3, a4, a5, a6, a7, a8, a9, a10, a11, a12, a13, a14, a15, 0, wt, ro, lb, pl, co, st, go, rr, rfl, hro, hlb, hrr⟩
      rfl))
    · rw [Bool.not_eq_true] at ho
      simp only [ho, if_false, Bool.false_eq_true] at cx cm
      exact kJmk (-1) hS0
        (kCfrP (kCtoX cx) [0, 4, 5] [1, 2, 3, 6, 7, 8, 9, 10, 11, 12, 13, 14, 15, 16, 17, 18, 19] rfl rfl rfl (fun v u hv => by
      obtain ⟨rfl, rfl⟩ := hv
      refine ⟨_, _, _, [17, 0, 1, 2, 18, 19, 3, 4, 5, 6, 7, 8, 9, 10, 11, 12, 13, 14, 15, 16], rfl, rfl, ?_, rfl, t0, h0, w0, r0, k0, s0, t1, t2, la, w1, w2, r1, k1, k2, k3, k4, k5, s1, s2, mo, N0, dn, ea, cap, al, LP, pf, ad, f, g, rf, lf, df, sf, sg, ns, am, rfl, hSh, hE, hrf, hlf, hst⟩
      rfl))
        (kCfr (kCtoX (cm)) [0, 3, 4, 2, 5, 6] [1, 7, 8, 9, 10, 11, 12, 13, 14, 15, 16] rfl rfl rfl (fun v u hv => by
      obtain ⟨rfl, rfl⟩ := hv
      refine ⟨_, [11, 0, 14, 12, 13, 15, 16, 1, 2, 3, 4, 5, 6, 7, 8, 9, 10], rfl, ?_, rfl, a0, a1, a2, a3, a4, a5, a6, a7, a8, a9, a10, a11, a12, a13, a14, a15, 0, wt, ro, lb, pl, co, st, go, rr, rfl, hro, hlb, hrr⟩
      rfl))
  · have cx := c_X7_done_b l D cI cJ cZ cO o t0 h0 w0 r0 k0 s0 (nI K) la ea (nI pa) mo P al cap LP pf ad (nF nN) (nF eN) (nF (gvN iN gN T)) (nF (gvN iN sN T)) (nF pN) v hP hSh.H hE hs
    have cm := c_X8_done l D cI cJ cZ cO z a0 a1 a2 a3 a4 a5 a6 a7 a8 a9 a10 a11 a12 a13 a14 a15 T P (nI pa) (nI K) rn ln th wt (nF nN) (nF eN) (nF iN) (nF gN) (nF sN) v hT hP
    simp only [stp_out hP hs, if_false, Bool.false_eq_true, Bool.false_and] at cm
    exact kJmk (-1) hS0
      (kCfrP (kCtoX cx) [0, 4, 5] [1, 2, 3, 6, 7, 8, 9, 10, 11, 12, 13, 14, 15, 16, 17, 18, 19] rfl rfl rfl (fun v u hv => by
      obtain ⟨rfl, rfl⟩ := hv
      refine ⟨_, _, _, [17, 0, 1, 2, 18, 19, 3, 4, 5, 6, 7, 8, 9, 10, 11, 12, 13, 14, 15, 16], rfl, rfl, ?_, rfl, t0, h0, w0, r0, k0, s0, t1, t2, la, w1, w2, r1, k1, k2, k3, k4, k5, s1, s2, mo, N0, dn, ea, cap, al, LP, pf, ad, f, g, rf, lf, df, sf, sg, ns, am, rfl, hSh, hE, hrf, hlf, hst⟩
      rfl))
      (kCfr (kCtoX (cm)) [0, 3, 4, 2, 5, 6] [1, 7, 8, 9, 10, 11, 12, 13, 14, 15, 16] rfl rfl rfl (fun v u hv => by
      obtain ⟨rfl, rfl⟩ := hv
      refine ⟨_, [11, 0, 14, 12, 13, 15, 16, 1, 2, 3, 4, 5, 6, 7, 8, 9, 10], rfl, ?_, rfl, a0, a1, a2, a3, a4, a5, a6, a7, a8, a9, a10, a11, a12, a13, a14, a15, 0, wt, ro, lb, pl, co, st, go, rr, rfl, hro, hlb, hrr⟩
      rfl))

set_option maxHeartbeats 4000000 in
theorem j_step (l : Launch) (D : va_G) (cI cJ cZ cO : ClassId) (e0 mi o z : Nat) (wX wM : va_W) (hJ : lJ cI cJ cZ cO e0 o z wX wM) (v : Int32) :
    kJo l D cI cJ cZ cO e0 mi o z wX wM yX7_step wsX7_step [.ref o, .int v] yX8_step wsX8_step [.ref z, .int v] := by
  obtain ⟨T, wN, iN, P, nN, eN, gN, sN, pN, pa, K, rn, rN, mN, ln, dN, aN, hS, hX, hM⟩ := hJ
  have hS0 := hS
  have hX0 := hX
  obtain ⟨hT, hP, hpa, hK, hrn, hln, hw, hI, hB, hm, ha, hr28⟩ := hS
  obtain ⟨t0, h0, w0, r0, k0, s0, t1, t2, la, w1, w2, r1, k1, k2, k3, k4, k5, s1, s2, mo, N0, dn, ea, cap, al, LP, pf, ad, f, g, rf, lf, df, sf, sg, ns, am, rfl, hSh, hE, hrf, hlf, hst⟩ := hX
  obtain ⟨a0, a1, a2, a3, a4, a5, a6, a7, a8, a9, a10, a11, a12, a13, a14, a15, th, wt, ro, lb, pl, co, st, go, rr, rfl, hro, hlb, hrr⟩ := hM
  have cx := c_X7_step l D cI cJ cZ cO o t0 h0 w0 r0 k0 s0 (nI K) r1 rn rf v
  have cm := c_X8_step l D cI cJ cZ cO z a0 a1 a2 a3 a4 a5 a6 a7 a8 a9 a10 a11 a12 a13 a14 a15 T P (nI pa) (nI K) rn ln th wt ro v hrn
  rw [rm_eq hrn (fun i h => (hrf i h).trans (hro i h).symm)] at cx
  exact kJmk (rowM ro rn v) hS0
    (kCofR (cx) (sub_app [0, 9, 10] rfl) (fun v hv => by
      obtain rfl := hv
      exact ⟨rfl, hX0⟩))
    (kCfr (kCtoX (cm)) [0, 8] [1, 2, 3, 4, 5, 6, 7, 9, 10, 11, 12, 13, 14, 15, 16] rfl rfl rfl (fun v u hv => by
      obtain ⟨rfl, rfl⟩ := hv
      refine ⟨_, [15, 0, 1, 2, 3, 4, 5, 6, 16, 7, 8, 9, 10, 11, 12, 13, 14], rfl, ?_, rfl, a0, a1, a2, a3, a4, a5, a6, a7, a8, a9, a10, a11, a12, a13, a14, a15, 0, wt, ro, lb, pl, co, st, go, rr, rfl, hro, hlb, hrr⟩
      rfl))

set_option maxHeartbeats 4000000 in
theorem j_laid (l : Launch) (D : va_G) (cI cJ cZ cO : ClassId) (e0 mi o z : Nat) (wX wM : va_W) (hJ : lJ cI cJ cZ cO e0 o z wX wM) (v : Int32) :
    kJo l D cI cJ cZ cO e0 mi o z wX wM yX7_laid wsX7_laid [.ref o, .int v] yX8_laid wsX8_laid [.ref z, .int v] := by
  obtain ⟨T, wN, iN, P, nN, eN, gN, sN, pN, pa, K, rn, rN, mN, ln, dN, aN, hS, hX, hM⟩ := hJ
  have hS0 := hS
  have hX0 := hX
  obtain ⟨hT, hP, hpa, hK, hrn, hln, hw, hI, hB, hm, ha, hr28⟩ := hS
  obtain ⟨t0, h0, w0, r0, k0, s0, t1, t2, la, w1, w2, r1, k1, k2, k3, k4, k5, s1, s2, mo, N0, dn, ea, cap, al, LP, pf, ad, f, g, rf, lf, df, sf, sg, ns, am, rfl, hSh, hE, hrf, hlf, hst⟩ := hX
  obtain ⟨a0, a1, a2, a3, a4, a5, a6, a7, a8, a9, a10, a11, a12, a13, a14, a15, th, wt, ro, lb, pl, co, st, go, rr, rfl, hro, hlb, hrr⟩ := hM
  have cx := c_X7_laid l D cI cJ cZ cO o t0 h0 w0 r0 k0 s0 (nI K) k1 k2 k3 k4 ln lf v
  have cm := c_X8_laid l D cI cJ cZ cO z a0 a1 a2 a3 a4 a5 a6 a7 a8 a9 a10 a11 a12 a13 a14 a15 T P (nI pa) (nI K) rn ln th wt lb v hln
  rw [rm_eq hln (fun i h => (hlf i h).trans (hlb i h).symm)] at cx
  exact kJmk (rowM lb ln v) hS0
    (kCofR (cx) (sub_app [0, 11, 13, 14] rfl) (fun v hv => by
      obtain rfl := hv
      exact ⟨rfl, hX0⟩))
    (kCfr (kCtoX (cm)) [0, 10] [1, 2, 3, 4, 5, 6, 7, 8, 9, 11, 12, 13, 14, 15, 16] rfl rfl rfl (fun v u hv => by
      obtain ⟨rfl, rfl⟩ := hv
      refine ⟨_, [15, 0, 1, 2, 3, 4, 5, 6, 7, 8, 16, 9, 10, 11, 12, 13, 14], rfl, ?_, rfl, a0, a1, a2, a3, a4, a5, a6, a7, a8, a9, a10, a11, a12, a13, a14, a15, 0, wt, ro, lb, pl, co, st, go, rr, rfl, hro, hlb, hrr⟩
      rfl))

set_option maxHeartbeats 4000000 in
theorem j_reach (l : Launch) (D : va_G) (cI cJ cZ cO : ClassId) (e0 mi o z : Nat) (wX wM : va_W) (hJ : lJ cI cJ cZ cO e0 o z wX wM) :
    kJo l D cI cJ cZ cO e0 mi o z wX wM yX7_reach wsX7_reach [.ref o] yX8_reach wsX8_reach [.ref z] := by
  obtain ⟨T, wN, iN, P, nN, eN, gN, sN, pN, pa, K, rn, rN, mN, ln, dN, aN, hS, hX, hM⟩ := hJ
  have hS0 := hS
  have hX0 := hX
  obtain ⟨hT, hP, hpa, hK, hrn, hln, hw, hI, hB, hm, ha, hr28⟩ := hS
  obtain ⟨t0, h0, w0, r0, k0, s0, t1, t2, la, w1, w2, r1, k1, k2, k3, k4, k5, s1, s2, mo, N0, dn, ea, cap, al, LP, pf, ad, f, g, rf, lf, df, sf, sg, ns, am, rfl, hSh, hE, hrf, hlf, hst⟩ := hX
  obtain ⟨a0, a1, a2, a3, a4, a5, a6, a7, a8, a9, a10, a11, a12, a13, a14, a15, th, wt, ro, lb, pl, co, st, go, rr, rfl, hro, hlb, hrr⟩ := hM
  have cx := c_X7_reach l D cI cJ cZ cO o t0 h0 w0 r0 k0 s0 (nI K) la ea (nI pa) mo P al cap LP pf ad (nF nN) (nF eN) (nF (gvN iN gN T)) (nF (gvN iN sN T)) (nF pN) hP hSh.H hE 
  have cm := c_X8_reach l D cI cJ cZ cO z a0 a1 a2 a3 a4 a5 a6 a7 a8 a9 a10 a11 a12 a13 a14 a15 T P (nI pa) rn ln th wt K (nF iN) (nF nN) (nF eN) (nF gN) (nF sN) hT hP hK (hRp_N hT hB hI)
  rw [reach_eq hT hB hI hK] at cx
  exact kJmk (rchI (nF nN) (nF eN) (nF iN) (nF gN) (nF sN) T P (nI K) (2 ^ T)) hS0
    (kCofR (cx) (sub_appP [0, 4, 5] rfl) (fun v hv => by
      obtain rfl := hv
      exact ⟨rfl, hX0⟩))
    (kCfr (kCtoX (cm)) [0, 2, 3, 4, 5, 6] [1, 7, 8, 9, 10, 11, 12, 13, 14, 15, 16] rfl rfl rfl (fun v u hv => by
      obtain ⟨rfl, rfl⟩ := hv
      refine ⟨_, [11, 0, 12, 13, 14, 15, 16, 1, 2, 3, 4, 5, 6, 7, 8, 9, 10], rfl, ?_, rfl, a0, a1, a2, a3, a4, a5, a6, a7, a8, a9, a10, a11, a12, a13, a14, a15, 0, wt, ro, lb, pl, co, st, go, rr, rfl, hro, hlb, hrr⟩
      rfl))

set_option maxHeartbeats 4000000 in
theorem j_gaps (l : Launch) (D : va_G) (cI cJ cZ cO : ClassId) (e0 mi o z : Nat) (wX wM : va_W) (hJ : lJ cI cJ cZ cO e0 o z wX wM) :
    kJo l D cI cJ cZ cO e0 mi o z wX wM yX7_gaps wsX7_gaps [.ref o] yX8_gaps wsX8_gaps [.ref z] := by
  obtain ⟨T, wN, iN, P, nN, eN, gN, sN, pN, pa, K, rn, rN, mN, ln, dN, aN, hS, hX, hM⟩ := hJ
  have hS0 := hS
  have hX0 := hX
  obtain ⟨hT, hP, hpa, hK, hrn, hln, hw, hI, hB, hm, ha, hr28⟩ := hS
  obtain ⟨t0, h0, w0, r0, k0, s0, t1, t2, la, w1, w2, r1, k1, k2, k3, k4, k5, s1, s2, mo, N0, dn, ea, cap, al, LP, pf, ad, f, g, rf, lf, df, sf, sg, ns, am, rfl, hSh, hE, hrf, hlf, hst⟩ := hX
  obtain ⟨a0, a1, a2, a3, a4, a5, a6, a7, a8, a9, a10, a11, a12, a13, a14, a15, th, wt, ro, lb, pl, co, st, go, rr, rfl, hro, hlb, hrr⟩ := hM
  have cx := c_X7_gaps l D cI cJ cZ cO o t0 h0 w0 r0 k0 s0 (nI K) la ea (nI pa) mo P al cap LP pf ad (nF nN) (nF eN) (nF (gvN iN gN T)) (nF (gvN iN sN T)) (nF pN) hP hSh.H hE 
  have cm := c_X8_gaps l D cI cJ cZ cO z a0 a1 a2 a3 a4 a5 a6 a7 a8 a9 a10 a11 a12 a13 a14 a15 T P (nI pa) (nI K) rn ln th wt (nF iN) (nF nN) (nF gN) hT hP
  rw [gaps_eq hT hB] at cx
  exact kJmk (wantF (nF nN) P &&& (gvnF (nF iN) (nF gN) T (nI K) P ^^^ (-1))) hS0
    (kCofR (cx) (sub_appP [0, 4, 5] rfl) (fun v hv => by
      obtain rfl := hv
      exact ⟨rfl, hX0⟩))
    (kCfr (kCtoX (cm)) [0, 2, 3, 5] [1, 4, 6, 7, 8, 9, 10, 11, 12, 13, 14, 15, 16] rfl rfl rfl (fun v u hv => by
      obtain ⟨rfl, rfl⟩ := hv
      refine ⟨_, [13, 0, 14, 15, 1, 16, 2, 3, 4, 5, 6, 7, 8, 9, 10, 11, 12], rfl, ?_, rfl, a0, a1, a2, a3, a4, a5, a6, a7, a8, a9, a10, a11, a12, a13, a14, a15, 0, wt, ro, lb, pl, co, st, go, rr, rfl, hro, hlb, hrr⟩
      rfl))

set_option maxHeartbeats 4000000 in
theorem j_week (l : Launch) (D : va_G) (cI cJ cZ cO : ClassId) (e0 mi o z : Nat) (wX wM : va_W) (hJ : lJ cI cJ cZ cO e0 o z wX wM) (v x : Int32) :
    kJo l D cI cJ cZ cO e0 mi o z wX wM yX7_week wsX7_week [.ref o, .int v, .int x] yX8_week wsX8_week [.ref z, .int v, .int x] := by
  obtain ⟨T, wN, iN, P, nN, eN, gN, sN, pN, pa, K, rn, rN, mN, ln, dN, aN, hS, hX, hM⟩ := hJ
  have hS0 := hS
  have hX0 := hX
  obtain ⟨hT, hP, hpa, hK, hrn, hln, hw, hI, hB, hm, ha, hr28⟩ := hS
  obtain ⟨t0, h0, w0, r0, k0, s0, t1, t2, la, w1, w2, r1, k1, k2, k3, k4, k5, s1, s2, mo, N0, dn, ea, cap, al, LP, pf, ad, f, g, rf, lf, df, sf, sg, ns, am, rfl, hSh, hE, hrf, hlf, hst⟩ := hX
  obtain ⟨a0, a1, a2, a3, a4, a5, a6, a7, a8, a9, a10, a11, a12, a13, a14, a15, th, wt, ro, lb, pl, co, st, go, rr, rfl, hro, hlb, hrr⟩ := hM
  have cx := c_X7_week l D cI cJ cZ cO o t0 h0 w0 r0 k0 s0 (nI K) k1 k2 k3 (nF mN) v x
  have cm := c_X8_week l D cI cJ cZ cO z a0 a1 a2 a3 a4 a5 a6 a7 a8 a9 a10 a11 a12 a13 a14 a15 T P (nI pa) (nI K) rn ln th wt (nF mN) v x
  by_cases hb : (withinB v 0 51 && withinB x 0 3000) = true
  · obtain ⟨hb1, hb2⟩ := Bool.and_eq_true_iff.mp hb
    obtain ⟨j, -, hj, rfl⟩ := (wi_iff (b := v) (a := 0) (c := 51) (by omega) (by omega)).mp hb1
    obtain ⟨u, -, hu, rfl⟩ := (wi_iff (b := x) (a := 0) (c := 3000) (by omega) (by omega)).mp hb2
    have hin : ¬ nI j < 0 ∧ ¬ (52 : Int32) ≤ nI j := ⟨nI_pos (by omega), (not_congr (nI_leI (a := 52) (by omega) (by omega))).mpr (by omega)⟩
    simp only [hb, if_true, if_pos hin, nI_clamp (show j < 2 ^ 31 by omega), nF_upd] at cx cm
    have hS1 : lJS T wN iN P nN eN gN sN pN pa K rn rN (updN mN j u) ln aN := ⟨hT, hP, hpa, hK, hrn, hln, hw, hI, hB, fun w => by
      unfold updN
      split
      · exact hu
      · exact hm w, ha, hr28⟩
    exact kJmk (k01 true) hS1
      (kCfrQ (kCtoX cx) [0, 11, 12] [1, 2, 3, 4, 5, 6, 7, 8, 9, 10, 13, 14, 15, 16, 17, 18, 19] rfl rfl rfl (fun v u hv => by
      obtain ⟨rfl, rfl⟩ := hv
      refine ⟨_, [17, 0, 1, 2, 3, 4, 5, 6, 7, 8, 9, 18, 19, 10, 11, 12, 13, 14, 15, 16], rfl, ?_, rfl, t0, h0, w0, r0, k0, s0, t1, t2, la, w1, w2, r1, k1, k2, k3, k4, k5, s1, s2, mo, N0, dn, ea, cap, al, LP, pf, ad, f, g, rf, lf, df, sf, sg, ns, am, rfl, hSh, hE, hrf, hlf, hst⟩
      rfl))
      (kCfr (kCtoX (cm)) [0, 9] [1, 2, 3, 4, 5, 6, 7, 8, 10, 11, 12, 13, 14, 15, 16] rfl rfl rfl (fun v u hv => by
      obtain ⟨rfl, rfl⟩ := hv
      refine ⟨_, [15, 0, 1, 2, 3, 4, 5, 6, 7, 16, 8, 9, 10, 11, 12, 13, 14], rfl, ?_, rfl, a0, a1, a2, a3, a4, a5, a6, a7, a8, a9, a10, a11, a12, a13, a14, a15, 0, wt, ro, lb, pl, co, st, go, rr, rfl, hro, hlb, hrr⟩
      rfl))
  · rw [Bool.not_eq_true] at hb
    simp only [hb, if_false, Bool.false_eq_true] at cx cm
    exact kJmk (k01 false) hS0
      (kCfrQ (kCtoX cx) [0, 11, 12] [1, 2, 3, 4, 5, 6, 7, 8, 9, 10, 13, 14, 15, 16, 17, 18, 19] rfl rfl rfl (fun v u hv => by
      obtain ⟨rfl, rfl⟩ := hv
      refine ⟨_, [17, 0, 1, 2, 3, 4, 5, 6, 7, 8, 9, 18, 19, 10, 11, 12, 13, 14, 15, 16], rfl, ?_, rfl, t0, h0, w0, r0, k0, s0, t1, t2, la, w1, w2, r1, k1, k2, k3, k4, k5, s1, s2, mo, N0, dn, ea, cap, al, LP, pf, ad, f, g, rf, lf, df, sf, sg, ns, am, rfl, hSh, hE, hrf, hlf, hst⟩
      rfl))
      (kCfr (kCtoX (cm)) [0, 9] [1, 2, 3, 4, 5, 6, 7, 8, 10, 11, 12, 13, 14, 15, 16] rfl rfl rfl (fun v u hv => by
      obtain ⟨rfl, rfl⟩ := hv
      refine ⟨_, [15, 0, 1, 2, 3, 4, 5, 6, 7, 16, 8, 9, 10, 11, 12, 13, 14], rfl, ?_, rfl, a0, a1, a2, a3, a4, a5, a6, a7, a8, a9, a10, a11, a12, a13, a14, a15, 0, wt, ro, lb, pl, co, st, go, rr, rfl, hro, hlb, hrr⟩
      rfl))
