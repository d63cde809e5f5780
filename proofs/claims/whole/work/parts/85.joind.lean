/-! ===== class and reference side by side: way, most, shortens ===== -/
theorem bad_14 {P : Nat} {v : Int32} (hP : P ≤ 14) (h : withinB v 0 (nI P - 1) = true) : ∃ j, j < P ∧ v = nI j := by
  have h9 := kwin h (Nat.le_refl P) (by omega)
  have h0 : ¬ v < 0 := fun q => h9 (Or.inl q)
  obtain ⟨j, hj, rfl⟩ := nI_of h0
  refine ⟨j, Nat.lt_of_not_le fun q => h9 (Or.inr ?_), rfl⟩
  rw [nI_clamp hj]
  exact q
theorem far_ne {c : Nat} (h : c ≤ 48000) : ¬ nI c = (268435456 : Int32) := fun q => by
  rw [kFAR] at q
  have h2 := congrArg Int32.toNatClampNeg q
  rw [nI_clamp (by omega), nI_clamp (by omega)] at h2
  omega
theorem row_at {f : Nat → Int32} {j : Nat} (h : ∃ k, k < 28 ∧ f j = nI k) : f j = nI (f j).toNatClampNeg ∧ (f j).toNatClampNeg < 28 := by
  obtain ⟨k, hk, e⟩ := h
  rw [e, nI_clamp (by omega)]
  exact ⟨rfl, hk⟩
set_option maxHeartbeats 4000000 in
theorem j_way (l : Launch) (D : va_G) (cI cJ cZ cO : ClassId) (e0 mi o z : Nat) (wX wM : va_W) (hJ : lJ cI cJ cZ cO e0 o z wX wM) (v : Int32) :
    kJo l D cI cJ cZ cO e0 mi o z wX wM yX7_way wsX7_way [.ref o, .int v] yX8_way wsX8_way [.ref z, .int v] := by
  obtain ⟨T, wN, iN, P, nN, eN, gN, sN, pN, pa, K, rn, rN, mN, ln, dN, aN, hS, hX, hM⟩ := hJ
  have hS0 := hS
  have hX0 := hX
  obtain ⟨hT, hP, hpa, hK, hrn, hln, hw, hI, hB, hm, ha, hr28⟩ := hS
  obtain ⟨t0, h0, w0, r0, k0, s0, t1, t2, la, w1, w2, r1, k1, k2, k3, k4, k5, s1, s2, mo, N0, dn, ea, cap, al, LP, pf, ad, f, g, rf, lf, df, sf, sg, ns, am, rfl, hSh, hE, hrf, hlf, hst⟩ := hX
  obtain ⟨a0, a1, a2, a3, a4, a5, a6, a7, a8, a9, a10, a11, a12, a13, a14, a15, th, wt, ro, lb, pl, co, st, go, rr, rfl, hro, hlb, hrr⟩ := hM
  have hN : 2 ^ T ≤ 4096 := Nat.pow_le_pow_right (n := 2) (j := 12) (by decide) hT
  by_cases hb : areB T v = true
  · obtain ⟨w5, hw5, rfl⟩ := (areB_iff hT).mp hb
    have hb2 : haveB (nI T) (nI w5) = true := by rw [have_are hT]; exact hb
    obtain ⟨qc, hqc⟩ : ∃ qc, qc = expF (2 ^ T) P (nF nN) (nF eN) (nF (gvN iN gN T)) (nF (gvN iN sN T)) (nF pN) (nI pa) (-1) K (upd (fillF f (2 ^ T)) K 0, vp_updL g K 0) (2 ^ T - K) := ⟨_, rfl⟩
    obtain ⟨qm, hqm⟩ : ∃ qm, qm = fwF (nF nN) (nF eN) (nF iN) (nF gN) (nF sN) (nF pN) co st T P (nI pa) (-1) (nI w5) (2 ^ T) := ⟨_, rfl⟩
    have htr := trP_N (wt := -1) hT hP hpa hB hI (w := w5) (q := qm) (fun x hx => fw_B hT hP hpa hB hI hw5 co st hqm hx)
    have cm := c_X8_way l D cI cJ cZ cO z a0 a1 a2 a3 a4 a5 a6 a7 a8 a9 a10 a11 a12 a13 a14 a15 T P (nI pa) rn ln th wt K (nF iN) (nF nN) (nF eN) (nF gN) (nF sN) (nF pN) ro co st (nI w5) (fun v => (qm.2 v).toNatClampNeg) hT hP hK (hBp_N hT hB hI (-1)) (by rw [← hqm]; exact htr)
    rw [← hqm] at cm
    simp only [hb, if_true] at cm
    rcases way_eq hT hP hpa hB hI hw5 hK hqc hqm with ⟨h1, h2⟩ | ⟨e5, cs, he5, h1, h2, h3, h4, h5, h6, h7, h8⟩
    · have cx := c_X7_way_b l D cI cJ cZ cO o t0 h0 w0 r0 k0 s0 K t1 t2 T (nF wN) (nF (clN iN T)) w1 w2 N0 f g r1 rn rf la ea (nI pa) mo P al cap LP pf ad (nF nN) (nF eN) (nF (gvN iN gN T)) (nF (gvN iN sN T)) (nF pN) (nI w5) hP hSh.H hE hT hK hN hb2 (by rw [← hqc]; exact h1)
      rw [← hqc] at cx
      simp only [if_pos h2] at cm
      exact kJmk (-1) hS0
        (kCfrP (kCtoX cx) [0, 1, 2, 3, 6, 7, 8, 9, 10, 4, 5] [11, 12, 13, 14, 15, 16, 17, 18, 19] rfl rfl rfl (fun v u hv => by
      obtain ⟨rfl, rfl⟩ := hv
      refine ⟨_, _, _, [9, 10, 11, 12, 18, 19, 13, 14, 15, 16, 17, 0, 1, 2, 3, 4, 5, 6, 7, 8], rfl, rfl, ?_, rfl, t0, h0, w0, r0, k0, s0, t1, t2, la, w1, w2, r1, k1, k2, k3, k4, k5, s1, s2, mo, (nI (2 ^ T)), dn, ea, cap, al, LP, pf, ad, qc.1, qc.2, rf, lf, df, sf, sg, ns, am, rfl, hSh, hE, hrf, hlf, hst⟩
      rfl))
        (kCfr (kCtoX (cm)) [0, 2, 3, 4, 5, 6, 7, 8, 12, 13] [1, 9, 10, 11, 14, 15, 16] rfl rfl rfl (fun v u hv => by
      obtain ⟨rfl, rfl⟩ := hv
      refine ⟨_, [7, 0, 8, 9, 10, 11, 12, 13, 14, 1, 2, 3, 15, 16, 4, 5, 6], rfl, ?_, rfl, a0, a1, a2, a3, a4, a5, a6, a7, a8, a9, a10, a11, a12, a13, a14, a15, 0, (-1), ro, lb, pl, qm.1, qm.2, go, rr, rfl, hro, hlb, hrr⟩
      rfl))
    · have cx := c_X7_way_a l D cI cJ cZ cO o t0 h0 w0 r0 k0 s0 K t1 t2 T (nF wN) (nF (clN iN T)) w1 w2 N0 f g r1 rn rf la ea (nI pa) mo P al cap LP pf ad (nF nN) (nF eN) (nF (gvN iN gN T)) (nF (gvN iN sN T)) (nF pN) (nI w5) e5 cs hP hSh.H hE hT hK hN hb2 (by rw [← hqc]; exact h1) he5 (by rw [← hqc]; exact h2) h3 h4
      rw [← hqc, show nI cs / 16 = nI (cs / 16) from pk_div (d := 16) h3 (by decide) (by decide)] at cx
      have hne : ¬ qm.1 K = 268435456 := by rw [h5]; exact far_ne h6
      simp only [if_neg hne, h7] at cm
      rw [h5] at cm
      obtain ⟨rw5, hrw⟩ : ∃ rw5, rw5 = copyF rf (qc.2 e5) (cs % 16) (cs % 16) := ⟨_, rfl⟩
      have hrow : ∀ j, j < cs % 16 → rw5 j = nI (rw5 j).toNatClampNeg ∧ (rw5 j).toNatClampNeg < 28 := fun j hj => row_at (by rw [hrw]; exact (h8 rf ro j hj).2)
      rw [← hrw] at cx
      have hS1 : lJS T wN iN P nN eN gN sN pN pa K (cs % 16) (fun j => (rw5 j).toNatClampNeg) mN ln aN := ⟨hT, hP, hpa, hK, h4, hln, hw, hI, hB, hm, ha, fun i hi => (hrow i hi).2⟩
      exact kJmk (nI (cs / 16)) hS1
        (kCfrP (kCtoX cx) [0, 1, 2, 3, 6, 7, 8, 9, 10, 4, 5] [11, 12, 13, 14, 15, 16, 17, 18, 19] rfl rfl rfl (fun v u hv => by
      obtain ⟨rfl, rfl⟩ := hv
      refine ⟨_, _, _, [9, 10, 11, 12, 18, 19, 13, 14, 15, 16, 17, 0, 1, 2, 3, 4, 5, 6, 7, 8], rfl, rfl, ?_, rfl, t0, h0, w0, r0, k0, s0, t1, t2, la, w1, w2, r1, k1, k2, k3, k4, k5, s1, s2, mo, (nI (2 ^ T)), dn, ea, cap, al, LP, pf, ad, qc.1, qc.2, rw5, lf, df, sf, sg, ns, am, rfl, hSh, hE, (fun i hi => (hrow i hi).1), hlf, hst⟩
      rfl))
        (kCfr (kCtoX (cm)) [0, 2, 3, 4, 5, 6, 7, 8, 12, 13] [1, 9, 10, 11, 14, 15, 16] rfl rfl rfl (fun v u hv => by
      obtain ⟨rfl, rfl⟩ := hv
      refine ⟨_, [7, 0, 8, 9, 10, 11, 12, 13, 14, 1, 2, 3, 15, 16, 4, 5, 6], rfl, ?_, rfl, a0, a1, a2, a3, a4, a5, a6, a7, a8, a9, a10, a11, a12, a13, a14, a15, 0, (-1), (trR (nF nN) (nF eN) (nF iN) (nF gN) (nF sN) (nF pN) T P (nI pa) (-1) qm K ro (cs % 16)), lb, pl, qm.1, qm.2, go, rr, rfl, (fun i hi => ((h8 rf ro i hi).1.symm.trans (by rw [← hrw]; exact (hrow i hi).1))), hlb, hrr⟩
      rfl))
  · rw [Bool.not_eq_true] at hb
    have cx := c_X7_way_c l D cI cJ cZ cO o t0 h0 w0 r0 k0 s0 K t1 t2 T (nF wN) (nF (clN iN T)) w1 w2 N0 f g r1 rn rf la ea (nI pa) mo P al cap LP pf ad (nF nN) (nF eN) (nF (gvN iN gN T)) (nF (gvN iN sN T)) (nF pN) v hP hSh.H hE (by rw [have_are hT]; exact hb)
    have cm := c_X8_way_b l D cI cJ cZ cO z a0 a1 a2 a3 a4 a5 a6 a7 a8 a9 a10 a11 a12 a13 a14 a15 T P (nI pa) rn ln th wt K (nF iN) (nF nN) (nF eN) (nF gN) (nF sN) (nF pN) ro co st v hb
    exact kJmk (-1) hS0
      (kCfrP (kCtoX cx) [0, 1, 2, 3, 6, 7, 8, 9, 10, 4, 5] [11, 12, 13, 14, 15, 16, 17, 18, 19] rfl rfl rfl (fun v u hv => by
      obtain ⟨rfl, rfl⟩ := hv
      refine ⟨_, _, _, [9, 10, 11, 12, 18, 19, 13, 14, 15, 16, 17, 0, 1, 2, 3, 4, 5, 6, 7, 8], rfl, rfl, ?_, rfl, t0, h0, w0, r0, k0, s0, t1, t2, la, w1, w2, r1, k1, k2, k3, k4, k5, s1, s2, mo, N0, dn, ea, cap, al, LP, pf, ad, f, g, rf, lf, df, sf, sg, ns, am, rfl, hSh, hE, hrf, hlf, hst⟩
      rfl))
      (kCfr (kCtoX (cm)) [0, 2, 3, 4, 5, 6, 7, 8, 12, 13] [1, 9, 10, 11, 14, 15, 16] rfl rfl rfl (fun v u hv => by
      obtain ⟨rfl, rfl⟩ := hv
      refine ⟨_, [7, 0, 8, 9, 10, 11, 12, 13, 14, 1, 2, 3, 15, 16, 4, 5, 6], rfl, ?_, rfl, a0, a1, a2, a3, a4, a5, a6, a7, a8, a9, a10, a11, a12, a13, a14, a15, 0, wt, ro, lb, pl, co, st, go, rr, rfl, hro, hlb, hrr⟩
      rfl))

set_option maxHeartbeats 4000000 in
theorem j_most (l : Launch) (D : va_G) (cI cJ cZ cO : ClassId) (e0 mi o z : Nat) (wX wM : va_W) (hJ : lJ cI cJ cZ cO e0 o z wX wM) (v : Int32) :
    kJo l D cI cJ cZ cO e0 mi o z wX wM yX7_most wsX7_most [.ref o, .int v] yX8_most wsX8_most [.ref z, .int v] := by
  obtain ⟨T, wN, iN, P, nN, eN, gN, sN, pN, pa, K, rn, rN, mN, ln, dN, aN, hS, hX, hM⟩ := hJ
  have hS0 := hS
  have hX0 := hX
  obtain ⟨hT, hP, hpa, hK, hrn, hln, hw, hI, hB, hm, ha, hr28⟩ := hS
  obtain ⟨t0, h0, w0, r0, k0, s0, t1, t2, la, w1, w2, r1, k1, k2, k3, k4, k5, s1, s2, mo, N0, dn, ea, cap, al, LP, pf, ad, f, g, rf, lf, df, sf, sg, ns, am, rfl, hSh, hE, hrf, hlf, hst⟩ := hX
  obtain ⟨a0, a1, a2, a3, a4, a5, a6, a7, a8, a9, a10, a11, a12, a13, a14, a15, th, wt, ro, lb, pl, co, st, go, rr, rfl, hro, hlb, hrr⟩ := hM
  have hN : 2 ^ T ≤ 4096 := Nat.pow_le_pow_right (n := 2) (j := 12) (by decide) hT
  by_cases hb : withinB v 0 10000 = true
  · obtain ⟨mv, -, hmv, rfl⟩ := (wi_iff (b := v) (a := 0) (c := 10000) (by omega) (by omega)).mp hb
    obtain ⟨qc, hqc⟩ : ∃ qc, qc = expF (2 ^ T) P (nF nN) (nF eN) (nF (gvN iN gN T)) (nF (gvN iN sN T)) (nF pN) (nI pa) (-1) K (upd (fillF f (2 ^ T)) K 0, vp_updL g K 0) (2 ^ T - K) := ⟨_, rfl⟩
    obtain ⟨qm, hqm⟩ : ∃ qm, qm = mfwF (nF nN) (nF eN) (nF iN) (nF gN) (nF sN) (nF pN) T P (nI pa) K (m0F K co (2 ^ T), zro st (2 ^ T)) (2 ^ T - K) := ⟨_, rfl⟩
    obtain ⟨b5, hb5⟩ : ∃ b5, b5 = bstF (nF wN) T qm K (nI mv) (2 ^ T) := ⟨_, rfl⟩
    obtain ⟨G5, hG5⟩ : ∃ G5, G5 = gdF (nF nN) (nF eN) (nF iN) (nF gN) (nF sN) (nF pN) (nF wN) T P (nI pa) qm b5 go (2 ^ T) := ⟨_, rfl⟩
    obtain ⟨p5, hp5⟩ : ∃ p5, p5 = gdT (nF nN) (nF eN) (nF iN) (nF gN) (nF sN) (nF pN) T (nI pa) qm G5 := ⟨_, rfl⟩
    obtain ⟨e5, cs, he5, h1, h2, h3, h4, h5, h6, h7, h8, h9⟩ := most_eq hT hP hpa hB hI hK hw hmv hqc hqm hb5 hG5 hp5
    have cm := c_X8_most l D cI cJ cZ cO z a0 a1 a2 a3 a4 a5 a6 a7 a8 a9 a10 a11 a12 a13 a14 a15 T P (nI pa) rn ln th wt K (nF iN) (nF nN) (nF eN) (nF gN) (nF sN) (nF pN) (nF wN) ro co st go (nI mv) (cs % 16) hT hP hK (hBu_N hT hP hB hI) (by rw [← hqm, ← hb5]; exact ⟨h7, h4⟩) (by rw [← hqm, ← hb5, ← hG5, ← hp5]; exact h8)
    rw [← hqm, ← hb5, ← hG5, ← hp5] at cm
    simp only [hb, if_true] at cm
    have cx := c_X7_most_a l D cI cJ cZ cO o t0 h0 w0 r0 k0 s0 K t1 t2 T (nF wN) (nF (clN iN T)) w1 w2 N0 f g r1 rn rf la ea (nI pa) mo P al cap LP pf ad (nF nN) (nF eN) (nF (gvN iN gN T)) (nF (gvN iN sN T)) (nF pN) (nI mv) e5 cs hP hSh.H hE hT hK hN hb (by rw [← hqc]; exact h1) he5 (by rw [← hqc]; exact h2) h3 h4
    rw [← hqc, h6] at cx
    obtain ⟨rw5, hrw⟩ : ∃ rw5, rw5 = copyF rf (qc.2 e5) (cs % 16) (cs % 16) := ⟨_, rfl⟩
    have hrow : ∀ j, j < cs % 16 → rw5 j = nI (rw5 j).toNatClampNeg ∧ (rw5 j).toNatClampNeg < 28 := fun j hj => row_at (by rw [hrw]; exact (h9 rf ro j hj).2)
    rw [← hrw] at cx
    have hS1 : lJS T wN iN P nN eN gN sN pN pa K (cs % 16) (fun j => (rw5 j).toNatClampNeg) mN ln aN := ⟨hT, hP, hpa, hK, h4, hln, hw, hI, hB, hm, ha, fun i hi => (hrow i hi).2⟩
    exact kJmk (worthF (nF wN) (nI b5) T) hS1
      (kCfrP (kCtoX cx) [0, 1, 2, 3, 6, 7, 8, 9, 10, 4, 5] [11, 12, 13, 14, 15, 16, 17, 18, 19] rfl rfl rfl (fun v u hv => by
      obtain ⟨rfl, rfl⟩ := hv
      refine ⟨_, _, _, [9, 10, 11, 12, 18, 19, 13, 14, 15, 16, 17, 0, 1, 2, 3, 4, 5, 6, 7, 8], rfl, rfl, ?_, rfl, t0, h0, w0, r0, k0, s0, t1, t2, la, w1, w2, r1, k1, k2, k3, k4, k5, s1, s2, mo, (nI (2 ^ T)), dn, ea, cap, al, LP, pf, ad, qc.1, qc.2, rw5, lf, df, sf, sg, ns, am, rfl, hSh, hE, (fun i hi => (hrow i hi).1), hlf, hst⟩
      rfl))
      (kCfr (kCtoX (cm)) [0, 2, 3, 4, 5, 6, 7, 1, 8, 12, 13, 14] [9, 10, 11, 15, 16] rfl rfl rfl (fun v u hv => by
      obtain ⟨rfl, rfl⟩ := hv
      refine ⟨_, [5, 12, 6, 7, 8, 9, 10, 11, 13, 0, 1, 2, 14, 15, 16, 3, 4], rfl, ?_, rfl, a0, a1, a2, a3, a4, a5, a6, a7, a8, a9, a10, a11, a12, a13, a14, a15, 0, (-1), (tpR (nF iN) (nF gN) (nF sN) T P p5 K ro (cs % 16)), lb, pl, qm.1, qm.2, G5, rr, rfl, (fun i hi => ((h9 rf ro i hi).1.symm.trans (by rw [← hrw]; exact (hrow i hi).1))), hlb, hrr⟩
      rfl))
  · rw [Bool.not_eq_true] at hb
    have cx := c_X7_most_b l D cI cJ cZ cO o t0 h0 w0 r0 k0 s0 K t1 t2 T (nF wN) (nF (clN iN T)) w1 w2 N0 f g r1 rn rf la ea (nI pa) mo P al cap LP pf ad (nF nN) (nF eN) (nF (gvN iN gN T)) (nF (gvN iN sN T)) (nF pN) v hP hSh.H hE hb
    have cm := c_X8_most_b l D cI cJ cZ cO z a0 a1 a2 a3 a4 a5 a6 a7 a8 a9 a10 a11 a12 a13 a14 a15 T P (nI pa) rn ln th wt K (nF iN) (nF nN) (nF eN) (nF gN) (nF sN) (nF pN) (nF wN) ro co st go v hb
    exact kJmk (-1) hS0
      (kCfrP (kCtoX cx) [0, 1, 2, 3, 6, 7, 8, 9, 10, 4, 5] [11, 12, 13, 14, 15, 16, 17, 18, 19] rfl rfl rfl (fun v u hv => by
      obtain ⟨rfl, rfl⟩ := hv
      refine ⟨_, _, _, [9, 10, 11, 12, 18, 19, 13, 14, 15, 16, 17, 0, 1, 2, 3, 4, 5, 6, 7, 8], rfl, rfl, ?_, rfl, t0, h0, w0, r0, k0, s0, t1, t2, la, w1, w2, r1, k1, k2, k3, k4, k5, s1, s2, mo, N0, dn, ea, cap, al, LP, pf, ad, f, g, rf, lf, df, sf, sg, ns, am, rfl, hSh, hE, hrf, hlf, hst⟩
      rfl))
      (kCfr (kCtoX (cm)) [0, 2, 3, 4, 5, 6, 7, 1, 8, 12, 13, 14] [9, 10, 11, 15, 16] rfl rfl rfl (fun v u hv => by
      obtain ⟨rfl, rfl⟩ := hv
      refine ⟨_, [5, 12, 6, 7, 8, 9, 10, 11, 13, 0, 1, 2, 14, 15, 16, 3, 4], rfl, ?_, rfl, a0, a1, a2, a3, a4, a5, a6, a7, a8, a9, a10, a11, a12, a13, a14, a15, 0, wt, ro, lb, pl, co, st, go, rr, rfl, hro, hlb, hrr⟩
      rfl))

set_option maxHeartbeats 4000000 in
theorem j_shortens (l : Launch) (D : va_G) (cI cJ cZ cO : ClassId) (e0 mi o z : Nat) (wX wM : va_W) (hJ : lJ cI cJ cZ cO e0 o z wX wM) (v x : Int32) :
    kJo l D cI cJ cZ cO e0 mi o z wX wM yX7_shortens wsX7_shortens [.ref o, .int v, .int x] yX8_shortens wsX8_shortens [.ref z, .int v, .int x] := by
  obtain ⟨T, wN, iN, P, nN, eN, gN, sN, pN, pa, K, rn, rN, mN, ln, dN, aN, hS, hX, hM⟩ := hJ
  have hS0 := hS
  have hX0 := hX
  obtain ⟨hT, hP, hpa, hK, hrn, hln, hw, hI, hB, hm, ha, hr28⟩ := hS
  obtain ⟨t0, h0, w0, r0, k0, s0, t1, t2, la, w1, w2, r1, k1, k2, k3, k4, k5, s1, s2, mo, N0, dn, ea, cap, al, LP, pf, ad, f, g, rf, lf, df, sf, sg, ns, am, rfl, hSh, hE, hrf, hlf, hst⟩ := hX
  obtain ⟨a0, a1, a2, a3, a4, a5, a6, a7, a8, a9, a10, a11, a12, a13, a14, a15, th, wt, ro, lb, pl, co, st, go, rr, rfl, hro, hlb, hrr⟩ := hM
  have hN : 2 ^ T ≤ 4096 := Nat.pow_le_pow_right (n := 2) (j := 12) (by decide) hT
  have cm := c_X8_shortens l D cI cJ cZ cO z a0 a1 a2 a3 a4 a5 a6 a7 a8 a9 a10 a11 a12 a13 a14 a15 T P (nI pa) rn ln th wt K (nF iN) (nF nN) (nF eN) (nF gN) (nF sN) (nF pN) co st v x hT hP hK (hBp_N hT hB hI (-1)) (hBp_N hT hB hI v)
  by_cases hi : withinB v 0 (nI P - 1) = true
  · obtain ⟨j5, hj5, rfl⟩ := bad_14 hP hi
    by_cases hb : areB T x = true
    · obtain ⟨w5, hw5, rfl⟩ := (areB_iff hT).mp hb
      have hb2 : haveB (nI T) (nI w5) = true := by rw [have_are hT]; exact hb
      obtain ⟨qc, hqc⟩ : ∃ qc, qc = expF (2 ^ T) P (nF nN) (nF eN) (nF (gvN iN gN T)) (nF (gvN iN sN T)) (nF pN) (nI pa) (-1) K (upd (fillF f (2 ^ T)) K 0, vp_updL g K 0) (2 ^ T - K) := ⟨_, rfl⟩
      obtain ⟨qm, hqm⟩ : ∃ qm, qm = fwF (nF nN) (nF eN) (nF iN) (nF gN) (nF sN) (nF pN) co st T P (nI pa) (-1) (nI w5) (2 ^ T) := ⟨_, rfl⟩
      obtain ⟨qc2, hqc2⟩ : ∃ qc2, qc2 = expF (2 ^ T) P (nF nN) (nF eN) (nF (gvN iN gN T)) (nF (gvN iN sN T)) (nF pN) (nI pa) (nI j5) K (upd (fillF qc.1 (2 ^ T)) K 0, vp_updL qc.2 K 0) (2 ^ T - K) := ⟨_, rfl⟩
      obtain ⟨qm2, hqm2⟩ : ∃ qm2, qm2 = fwF (nF nN) (nF eN) (nF iN) (nF gN) (nF sN) (nF pN) qm.1 qm.2 T P (nI pa) (nI j5) (nI w5) (2 ^ T) := ⟨_, rfl⟩
      rw [← hqm, ← hqm2] at cm
      simp only [hi, hb, Bool.and_self, if_true] at cm
      rcases way_cost hT hP hpa hB hI hw5 hK hqc hqm with ⟨h1, h2⟩ | ⟨e5, c5, he5, h1, h2, h3, h4⟩
      · have cx := c_X7_shortens_c l D cI cJ cZ cO o t0 h0 w0 r0 k0 s0 K t1 t2 T (nF wN) (nF (clN iN T)) w1 w2 N0 f g la ea (nI pa) mo P al cap LP pf ad (nF nN) (nF eN) (nF (gvN iN gN T)) (nF (gvN iN sN T)) (nF pN) (nI j5) (nI w5) hP hSh.H hE hT hK hN hi hb2 (by rw [← hqc]; exact h1)
        rw [← hqc] at cx
        simp only [if_pos h2] at cm
        exact kJmk (-1) hS0
          (kCfrP (kCtoX cx) [0, 1, 2, 3, 6, 7, 8, 4, 5] [9, 10, 11, 12, 13, 14, 15, 16, 17, 18, 19] rfl rfl rfl (fun v u hv => by
      obtain ⟨rfl, rfl⟩ := hv
      refine ⟨_, _, _, [11, 12, 13, 14, 18, 19, 15, 16, 17, 0, 1, 2, 3, 4, 5, 6, 7, 8, 9, 10], rfl, rfl, ?_, rfl, t0, h0, w0, r0, k0, s0, t1, t2, la, w1, w2, r1, k1, k2, k3, k4, k5, s1, s2, mo, (nI (2 ^ T)), dn, ea, cap, al, LP, pf, ad, qc.1, qc.2, rf, lf, df, sf, sg, ns, am, rfl, hSh, hE, hrf, hlf, hst⟩
      rfl))
          (kCfr (kCtoX (cm)) [0, 2, 3, 4, 5, 6, 7, 12, 13] [1, 8, 9, 10, 11, 14, 15, 16] rfl rfl rfl (fun v u hv => by
      obtain ⟨rfl, rfl⟩ := hv
      refine ⟨_, [8, 0, 9, 10, 11, 12, 13, 14, 1, 2, 3, 4, 15, 16, 5, 6, 7], rfl, ?_, rfl, a0, a1, a2, a3, a4, a5, a6, a7, a8, a9, a10, a11, a12, a13, a14, a15, 0, (-1), ro, lb, pl, qm.1, qm.2, go, rr, rfl, hro, hlb, hrr⟩
      rfl))
      · have hne : ¬ qm.1 K = 268435456 := by rw [h3]; exact far_ne h4
        simp only [if_neg hne] at cm
        rcases way_cost hT hP hpa hB hI hw5 hK hqc2 hqm2 with ⟨g1, g2⟩ | ⟨e6, c6, he6, g1, g2, g3, g4⟩
        · have cx := c_X7_shortens_b l D cI cJ cZ cO o t0 h0 w0 r0 k0 s0 K t1 t2 T (nF wN) (nF (clN iN T)) w1 w2 N0 f g la ea (nI pa) mo P al cap LP pf ad (nF nN) (nF eN) (nF (gvN iN gN T)) (nF (gvN iN sN T)) (nF pN) (nI j5) (nI w5) e5 hP hSh.H hE hT hK hN hi hb2 (by rw [← hqc]; exact h1) he5 (by rw [← hqc, ← hqc2]; exact g1)
          rw [← hqc, ← hqc2] at cx
          simp only [if_pos g2] at cm
          exact kJmk (-2) hS0
            (kCfrP (kCtoX cx) [0, 1, 2, 3, 6, 7, 8, 4, 5] [9, 10, 11, 12, 13, 14, 15, 16, 17, 18, 19] rfl rfl rfl (fun v u hv => by
      obtain ⟨rfl, rfl⟩ := hv
      refine ⟨_, _, _, [11, 12, 13, 14, 18, 19, 15, 16, 17, 0, 1, 2, 3, 4, 5, 6, 7, 8, 9, 10], rfl, rfl, ?_, rfl, t0, h0, w0, r0, k0, s0, t1, t2, la, w1, w2, r1, k1, k2, k3, k4, k5, s1, s2, mo, (nI (2 ^ T)), dn, ea, cap, al, LP, pf, ad, qc2.1, qc2.2, rf, lf, df, sf, sg, ns, am, rfl, hSh, hE, hrf, hlf, hst⟩
      rfl))
            (kCfr (kCtoX (cm)) [0, 2, 3, 4, 5, 6, 7, 12, 13] [1, 8, 9, 10, 11, 14, 15, 16] rfl rfl rfl (fun v u hv => by
      obtain ⟨rfl, rfl⟩ := hv
      refine ⟨_, [8, 0, 9, 10, 11, 12, 13, 14, 1, 2, 3, 4, 15, 16, 5, 6, 7], rfl, ?_, rfl, a0, a1, a2, a3, a4, a5, a6, a7, a8, a9, a10, a11, a12, a13, a14, a15, 0, (nI j5), ro, lb, pl, qm2.1, qm2.2, go, rr, rfl, hro, hlb, hrr⟩
      rfl))
        · have hne2 : ¬ qm2.1 K = 268435456 := by rw [g3]; exact far_ne g4
          have cx := c_X7_shortens_a l D cI cJ cZ cO o t0 h0 w0 r0 k0 s0 K t1 t2 T (nF wN) (nF (clN iN T)) w1 w2 N0 f g la ea (nI pa) mo P al cap LP pf ad (nF nN) (nF eN) (nF (gvN iN gN T)) (nF (gvN iN sN T)) (nF pN) (nI j5) (nI w5) e5 e6 hP hSh.H hE hT hK hN hi hb2 (by rw [← hqc]; exact h1) he5 (by rw [← hqc, ← hqc2]; exact g1) he6
          rw [← hqc, ← hqc2, g2, h2] at cx
          simp only [if_neg hne2] at cm
          rw [g3, h3] at cm
          exact kJmk (nI c6 - nI c5) hS0
            (kCfrP (kCtoX cx) [0, 1, 2, 3, 6, 7, 8, 4, 5] [9, 10, 11, 12, 13, 14, 15, 16, 17, 18, 19] rfl rfl rfl (fun v u hv => by
      obtain ⟨rfl, rfl⟩ := hv
      refine ⟨_, _, _, [11, 12, 13, 14, 18, 19, 15, 16, 17, 0, 1, 2, 3, 4, 5, 6, 7, 8, 9, 10], rfl, rfl, ?_, rfl, t0, h0, w0, r0, k0, s0, t1, t2, la, w1, w2, r1, k1, k2, k3, k4, k5, s1, s2, mo, (nI (2 ^ T)), dn, ea, cap, al, LP, pf, ad, qc2.1, qc2.2, rf, lf, df, sf, sg, ns, am, rfl, hSh, hE, hrf, hlf, hst⟩
      rfl))
            (kCfr (kCtoX (cm)) [0, 2, 3, 4, 5, 6, 7, 12, 13] [1, 8, 9, 10, 11, 14, 15, 16] rfl rfl rfl (fun v u hv => by
      obtain ⟨rfl, rfl⟩ := hv
      refine ⟨_, [8, 0, 9, 10, 11, 12, 13, 14, 1, 2, 3, 4, 15, 16, 5, 6, 7], rfl, ?_, rfl, a0, a1, a2, a3, a4, a5, a6, a7, a8, a9, a10, a11, a12, a13, a14, a15, 0, (nI j5), ro, lb, pl, qm2.1, qm2.2, go, rr, rfl, hro, hlb, hrr⟩
      rfl))
    · rw [Bool.not_eq_true] at hb
      have cx := c_X7_shortens_d l D cI cJ cZ cO o t0 h0 w0 r0 k0 s0 K t1 t2 T (nF wN) (nF (clN iN T)) w1 w2 N0 f g la ea (nI pa) mo P al cap LP pf ad (nF nN) (nF eN) (nF (gvN iN gN T)) (nF (gvN iN sN T)) (nF pN) (nI j5) x hP hSh.H hE hi (by rw [have_are hT]; exact hb)
      simp only [hi, hb, Bool.and_false, if_false, Bool.false_eq_true] at cm
      exact kJmk (-1) hS0
        (kCfrP (kCtoX cx) [0, 1, 2, 3, 6, 7, 8, 4, 5] [9, 10, 11, 12, 13, 14, 15, 16, 17, 18, 19] rfl rfl rfl (fun v u hv => by
      obtain ⟨rfl, rfl⟩ := hv
      refine ⟨_, _, _, [11, 12, 13, 14, 18, 19, 15, 16, 17, 0, 1, 2, 3, 4, 5, 6, 7, 8, 9, 10], rfl, rfl, ?_, rfl, t0, h0, w0, r0, k0, s0, t1, t2, la, w1, w2, r1, k1, k2, k3, k4, k5, s1, s2, mo, N0, dn, ea, cap, al, LP, pf, ad, f, g, rf, lf, df, sf, sg, ns, am, rfl, hSh, hE, hrf, hlf, hst⟩
      rfl))
        (kCfr (kCtoX (cm)) [0, 2, 3, 4, 5, 6, 7, 12, 13] [1, 8, 9, 10, 11, 14, 15, 16] rfl rfl rfl (fun v u hv => by
      obtain ⟨rfl, rfl⟩ := hv
      refine ⟨_, [8, 0, 9, 10, 11, 12, 13, 14, 1, 2, 3, 4, 15, 16, 5, 6, 7], rfl, ?_, rfl, a0, a1, a2, a3, a4, a5, a6, a7, a8, a9, a10, a11, a12, a13, a14, a15, 0, wt, ro, lb, pl, co, st, go, rr, rfl, hro, hlb, hrr⟩
      rfl))
  · rw [Bool.not_eq_true] at hi
    have cx := c_X7_shortens_e l D cI cJ cZ cO o t0 h0 w0 r0 k0 s0 K t1 t2 T (nF wN) (nF (clN iN T)) w1 w2 N0 f g la ea (nI pa) mo P al cap LP pf ad (nF nN) (nF eN) (nF (gvN iN gN T)) (nF (gvN iN sN T)) (nF pN) v x hP hSh.H hE hi
    simp only [hi, Bool.false_and, if_false, Bool.false_eq_true] at cm
    exact kJmk (-1) hS0
      (kCfrP (kCtoX cx) [0, 1, 2, 3, 6, 7, 8, 4, 5] [9, 10, 11, 12, 13, 14, 15, 16, 17, 18, 19] rfl rfl rfl (fun v u hv => by
      obtain ⟨rfl, rfl⟩ := hv
      refine ⟨_, _, _, [11, 12, 13, 14, 18, 19, 15, 16, 17, 0, 1, 2, 3, 4, 5, 6, 7, 8, 9, 10], rfl, rfl, ?_, rfl, t0, h0, w0, r0, k0, s0, t1, t2, la, w1, w2, r1, k1, k2, k3, k4, k5, s1, s2, mo, N0, dn, ea, cap, al, LP, pf, ad, f, g, rf, lf, df, sf, sg, ns, am, rfl, hSh, hE, hrf, hlf, hst⟩
      rfl))
      (kCfr (kCtoX (cm)) [0, 2, 3, 4, 5, 6, 7, 12, 13] [1, 8, 9, 10, 11, 14, 15, 16] rfl rfl rfl (fun v u hv => by
      obtain ⟨rfl, rfl⟩ := hv
      refine ⟨_, [8, 0, 9, 10, 11, 12, 13, 14, 1, 2, 3, 4, 15, 16, 5, 6, 7], rfl, ?_, rfl, a0, a1, a2, a3, a4, a5, a6, a7, a8, a9, a10, a11, a12, a13, a14, a15, 0, wt, ro, lb, pl, co, st, go, rr, rfl, hro, hlb, hrr⟩
      rfl))
