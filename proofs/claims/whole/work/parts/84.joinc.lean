/-! ===== class and reference side by side: lay, drop, piece ===== -/
theorem out_52 {x : Int32} (h : ¬ withinB x 0 51 = true) : x < 0 ∨ 52 ≤ x := by
  by_cases h0 : x < 0
  · exact Or.inl h0
  · obtain ⟨j, hj, rfl⟩ := nI_of h0
    refine Or.inr (Classical.byContradiction fun q => h ((wi_iff (b := nI j) (a := 0) (c := 51) (by omega) (by omega)).mpr ⟨j, by omega, ?_, rfl⟩))
    have := (not_congr (nI_leI (a := 52) (b := j) (by omega) hj)).mp q
    omega
theorem sh_row {cO : ClassId} {e0 P ea cap : Nat} {al : Nat → Option Nat} {LP : List Nat} {pf : Nat → va_E} {i : Nat} {ad : Nat → Nat} {ne ei gv sk pg : Nat → Int32} (h2 : pf ea = arE cO cap al) (hE : shE P al LP pf ad ne ei gv sk pg) (hi : i < P) : ad i ≠ ea := fun q => by
  have h := (hE i hi).2.2
  rw [q, h2] at h
  exact arE_ne h
theorem pc_row {cO : ClassId} {ea cap y : Nat} {al : Nat → Option Nat} {LP : List Nat} {pf : Nat → va_E} {i : Nat} (h2 : pf ea = arE cO cap al) (hp : pcs al LP pf) (hy : al i = some y) : y ≠ ea := fun q => by
  obtain ⟨-, a, b, c, d, e, h⟩ := hp i y hy
  rw [q, h2] at h
  exact arE_ne h
theorem sh_drop {cO : ClassId} {e0 k ea cap : Nat} {al : Nat → Option Nat} {LP : List Nat} {pf : Nat → va_E} {ad : Nat → Nat} {ne ei gv sk pg : Nat → Int32} (hk : k < 14) (hS : lSh cO e0 (k + 1) ea cap al LP pf) (hE : shE (k + 1) al LP pf ad ne ei gv sk pg) :
    ea ∈ LP ∧ pf ea = arE cO cap al ∧ k < cap ∧ cap < 4096 ∧ al k = some (ad k) ∧ lSh cO e0 k ea cap (va_up al k none) LP (va_up pf ea (arE cO cap (va_up al k none))) ∧ shE k (va_up al k none) LP (va_up pf ea (arE cO cap (va_up al k none))) ad ne ei gv sk pg := by
  rcases hS with ⟨h1, -⟩ | ⟨h1, h2, h3, h4, h5⟩
  · omega
  · refine ⟨h1, h2, by omega, by omega, (hE k (by omega)).1, Or.inr ⟨h1, va_up_self _ _ _, h3, by omega, fun i y hy => ?_⟩, fun i hi => ?_⟩
    · by_cases hik : i = k
      · rw [hik, va_up_self] at hy
        cases hy
      · rw [va_up_ne _ _ hik] at hy
        refine ⟨(h5 i y hy).1, ?_⟩
        rw [va_up_ne _ _ (pc_row h2 h5 hy)]
        exact (h5 i y hy).2
    · obtain ⟨g1, g2, g3⟩ := hE i (by omega)
      exact ⟨by rw [va_up_ne _ _ (by omega)]; exact g1, g2, by rw [va_up_ne _ _ (sh_row (e0 := e0) h2 hE (by omega))]; exact g3⟩
theorem sh_add {iN nN eN gN sN pN : Nat → Nat} {T P : Nat} {al : Nat → Option Nat} {LP : List Nat} {pf : Nat → va_E} {ad : Nat → Nat} {al2 : Nat → Option Nat} {LP2 : List Nat} {pf2 : Nat → va_E} {q a b c d e : Nat}
    (hE : shE P al LP pf ad (nF nN) (nF eN) (nF (gvN iN gN T)) (nF (gvN iN sN T)) (nF pN)) (h1 : ∀ i, i < P → al2 i = al i) (h2 : al2 P = some q) (h3 : ∀ x, x ∈ LP → x ∈ LP2) (h4 : q ∈ LP2) (h5 : ∀ i, i < P → pf2 (ad i) = pf (ad i)) (h6 : pf2 q = pcE (nI a) (nI b) (nI (closN iN c T)) (nI (closN iN d T)) (nI e)) :
    shE (P + 1) al2 LP2 pf2 (updN ad P q) (nF (updN nN P a)) (nF (updN eN P b)) (nF (gvN iN (updN gN P c) T)) (nF (gvN iN (updN sN P d) T)) (nF (updN pN P e)) := fun i hi => by
  by_cases hip : i = P
  · subst hip
    rw [updN_s]
    refine ⟨h2, h4, h6.trans ?_⟩
    simp only [nF, gvN, updN_s]
  · obtain ⟨g1, g2, g3⟩ := hE i (by omega)
    rw [updN_n hip]
    refine ⟨(h1 i (by omega)).trans g1, h3 _ g2, (h5 i (by omega)).trans (g3.trans ?_)⟩
    simp only [nF, gvN, updN_n hip]
theorem shB_add {nN eN gN sN pN : Nat → Nat} {T P a b c d e : Nat} (h : shB nN eN gN sN pN T) (ha : a < 2 ^ T) (hb : b < 2 ^ T) (hc : c < 2 ^ T) (hd : d < 2 ^ T) (he : e ≤ 400) : shB (updN nN P a) (updN eN P b) (updN gN P c) (updN sN P d) (updN pN P e) T := fun i => by
  by_cases hip : i = P
  · subst hip
    simp only [updN_s]
    exact ⟨ha, hb, hc, hd, he⟩
  · simp only [updN_n hip]
    exact h i
theorem sub_bits {T c : Nat} {d1 : Int32} (hT : T ≤ 12) (hc : c < 2 ^ T) (h : d1 &&& (nI c ^^^ (-1)) = 0) : ∃ d, d < 2 ^ T ∧ d1 = nI d := by
  obtain ⟨n, hn, rfl⟩ := wb_of32 d1
  rw [hx_andn] at h
  have hle := andn_le n c
  have h0 : andn n c = 0 := by
    have h2 := congrArg Int32.toBitVec h
    have h3 := congrArg BitVec.toNat h2
    rw [show (nI (andn n c)).toBitVec.toNat = andn n c from by
      show (BitVec.ofNat 32 (andn n c)).toNat = _
      rw [BitVec.toNat_ofNat, Nat.mod_eq_of_lt (by omega)]] at h3
    exact h3
  have h4 := andn_0.mp h0
  have h5 : n &&& c ≤ c := Nat.and_le_right
  exact ⟨n, by omega, rfl⟩
theorem pc_ok {T : Nat} (hT : T ≤ 12) {a b1 c1 d1 e1 : Int32} (h : pcB T a b1 c1 d1 e1 = true) :
    ∃ a' b' c' d' e' : Nat, a' < 2 ^ T ∧ b' < 2 ^ T ∧ c' < 2 ^ T ∧ d' < 2 ^ T ∧ e' ≤ 400 ∧ a = nI a' ∧ b1 = nI b' ∧ c1 = nI c' ∧ d1 = nI d' ∧ e1 = nI e' ∧ ∀ P, pieB T P a b1 c1 d1 e1 = decide (¬ P = 14) := by
  obtain ⟨h1, h2, h3, h4, h5, h6⟩ := pcB_t h
  rw [have_are hT] at h1 h2 h3
  obtain ⟨a', ha, ea⟩ := (areB_iff hT).mp h1
  obtain ⟨b', hb, eb⟩ := (areB_iff hT).mp h2
  obtain ⟨c', hc, ec⟩ := (areB_iff hT).mp h3
  obtain ⟨d', hd, ed⟩ := sub_bits hT hc (ec ▸ h5)
  obtain ⟨e', -, he, ee⟩ := (wi_iff (b := e1) (a := 1) (c := 400) (by omega) (by omega)).mp h6
  have h7 : areB T d1 = true := (areB_iff hT).mpr ⟨d', hd, ed⟩
  refine ⟨a', b', c', d', e', ha, hb, hc, hd, he, ea, eb, ec, ed, ee, fun P => ?_⟩
  unfold pieB xnot
  rw [h1, h2, h3, h7, h6, decide_eq_true h4, decide_eq_true h5]
  rfl
theorem pc_no {T : Nat} (hT : T ≤ 12) {a b1 c1 d1 e1 : Int32} (h : pcB T a b1 c1 d1 e1 = false) (P : Nat) : pieB T P a b1 c1 d1 e1 = false := by
  rw [← Bool.not_eq_true]
  intro q
  unfold pieB xnot at q
  simp only [Bool.and_eq_true, decide_eq_true_iff] at q
  obtain ⟨⟨⟨⟨⟨⟨⟨q1, q2⟩, q3⟩, q4⟩, q5⟩, q6⟩, q7⟩, q8⟩ := q
  unfold pcB at h
  rw [have_are hT, have_are hT, have_are hT, q1, q2, q3, q7, decide_eq_true q5, decide_eq_true q6] at h
  exact absurd h (by decide)
theorem up_in {α : Type} {f : Nat → α} {LP : List Nat} {q x : Nat} {v : α} (hq : q ∉ LP) (hx : x ∈ LP) : va_up f q v x = f x := va_up_ne _ _ (fun z => hq (by rw [← z]; exact hx))
theorem mem_l {α : Type} {a : α} {l m : List α} (h : a ∈ l) : a ∈ l ++ m := List.mem_append_left _ h
theorem mem_e {α : Type} {a : α} {l : List α} : a ∈ l ++ [a] := List.mem_append_right _ List.mem_cons_self
set_option maxHeartbeats 4000000 in
theorem j_lay (l : Launch) (D : va_G) (cI cJ cZ cO : ClassId) (e0 mi o z : Nat) (wX wM : va_W) (hJ : lJ cI cJ cZ cO e0 o z wX wM) (v : Int32) :
    kJo l D cI cJ cZ cO e0 mi o z wX wM yX7_lay wsX7_lay [.ref o, .int v] yX8_lay wsX8_lay [.ref z, .int v] := by
  obtain ⟨T, wN, iN, P, nN, eN, gN, sN, pN, pa, K, rn, rN, mN, ln, dN, aN, hS, hX, hM⟩ := hJ
  have hS0 := hS
  have hX0 := hX
  obtain ⟨hT, hP, hpa, hK, hrn, hln, hw, hI, hB, hm, ha, hr28⟩ := hS
  obtain ⟨t0, h0, w0, r0, k0, s0, t1, t2, la, w1, w2, r1, k1, k2, k3, k4, k5, s1, s2, mo, N0, dn, ea, cap, al, LP, pf, ad, f, g, rf, lf, df, sf, sg, ns, am, rfl, hSh, hE, hrf, hlf, hst⟩ := hX
  obtain ⟨a0, a1, a2, a3, a4, a5, a6, a7, a8, a9, a10, a11, a12, a13, a14, a15, th, wt, ro, lb, pl, co, st, go, rr, rfl, hro, hlb, hrr⟩ := hM
  have cm := c_X8_lay l D cI cJ cZ cO z a0 a1 a2 a3 a4 a5 a6 a7 a8 a9 a10 a11 a12 a13 a14 a15 T P (nI pa) (nI K) rn ln th wt ro (nF mN) (nF pN) lb pl v hP hrn
  by_cases hb : withinB v 0 51 = true
  · obtain ⟨F, -, hF, rfl⟩ := (wi_iff (b := v) (a := 0) (c := 51) (by omega) (by omega)).mp hb
    have cx := c_X7_lay_a l D cI cJ cZ cO o t0 h0 w0 r0 k0 s0 (nI K) k1 k2 k3 k4 k5 (nF mN) ln lf dn df r1 rn rf la ea (nI pa) mo P al cap LP pf ad (nF nN) (nF eN) (nF (gvN iN gN T)) (nF (gvN iN sN T)) (nF pN) F hP hSh.H hE (by omega) hrn
    simp only [hb, if_true, nI_clamp (show F < 2 ^ 31 by omega)] at cm
    obtain ⟨q1, hq1⟩ : ∃ q1, q1 = layS (nF mN) (fun z => minF P (nF pN) (nI pa) (rf z)) F df rn := ⟨_, rfl⟩
    obtain ⟨q2, hq2⟩ : ∃ q2, q2 = mS (nF mN) (fun i => stpB P (ro i)) (fun i => mtimeF (nF pN) (nI pa) (ro i).toNatClampNeg) F pl rn := ⟨_, rfl⟩
    obtain ⟨e1, e2, e3, e4⟩ := lay_eq hP hB hpa hm (F := F) (by omega) (fun i h => ⟨(hrf i h).trans (hro i h).symm, rN i, hr28 i h, hrf i h⟩) (fun i h => (hlf i h).trans (hlb i h).symm) hq1 hq2
    rw [← hq1] at cx
    rw [← hq2, ← e1, ← e2] at cm
    have hS1 : lJS T wN iN P nN eN gN sN pN pa K rn rN mN (layN q1 rn ln) aN := ⟨hT, hP, hpa, hK, hrn, by omega, hw, hI, hB, hm, ha, hr28⟩
    exact kJmk (layR q1) hS1
      (kCfrP (kCtoX cx) [0, 11, 12, 13, 14, 15, 16, 9, 10, 4, 5] [1, 2, 3, 6, 7, 8, 17, 18, 19] rfl rfl rfl (fun v u hv => by
      obtain ⟨dn2, df2, rfl, rfl⟩ := hv
      refine ⟨_, _, _, [9, 0, 1, 2, 18, 19, 3, 4, 5, 16, 17, 10, 11, 12, 13, 14, 15, 6, 7, 8], rfl, rfl, ?_, rfl, t0, h0, w0, r0, k0, s0, t1, t2, la, w1, w2, r1, k1, k2, k3, k4, k5, s1, s2, mo, N0, dn2, ea, cap, al, LP, pf, ad, f, g, rf, (layA q1 rn lf), df2, sf, sg, ns, am, rfl, hSh, hE, hrf, (fun _ _ => rfl), hst⟩
      rfl))
      (kCfr (kCtoX (cm)) [0, 8, 9, 7, 10, 15] [1, 2, 3, 4, 5, 6, 11, 12, 13, 14, 16] rfl rfl rfl (fun v u hv => by
      obtain ⟨pl2, rfl, rfl⟩ := hv
      refine ⟨_, [11, 0, 1, 2, 3, 4, 5, 14, 12, 13, 15, 6, 7, 8, 9, 16, 10], rfl, ?_, rfl, a0, a1, a2, a3, a4, a5, a6, a7, a8, a9, a10, a11, a12, a13, a14, a15, 0, wt, ro, (layA q2 rn lb), pl2, co, st, go, rr, rfl, hro, (fun i h => (e4 i h).symm), hrr⟩
      rfl))
  · have cx := c_X7_lay_b l D cI cJ cZ cO o t0 h0 w0 r0 k0 s0 (nI K) k1 k2 k3 k4 k5 (nF mN) ln lf dn df r1 rn rf la ea (nI pa) mo P al cap LP pf ad (nF nN) (nF eN) (nF (gvN iN gN T)) (nF (gvN iN sN T)) (nF pN) v hP hSh.H hE (out_52 hb)
    rw [Bool.not_eq_true] at hb
    simp only [hb, if_false, Bool.false_eq_true] at cm
    exact kJmk (-1) hS0
      (kCfrP (kCtoX cx) [0, 11, 12, 13, 14, 15, 16, 9, 10, 4, 5] [1, 2, 3, 6, 7, 8, 17, 18, 19] rfl rfl rfl (fun v u hv => by
      obtain ⟨rfl, rfl⟩ := hv
      refine ⟨_, _, _, [9, 0, 1, 2, 18, 19, 3, 4, 5, 16, 17, 10, 11, 12, 13, 14, 15, 6, 7, 8], rfl, rfl, ?_, rfl, t0, h0, w0, r0, k0, s0, t1, t2, la, w1, w2, r1, k1, k2, k3, k4, k5, s1, s2, mo, N0, dn, ea, cap, al, LP, pf, ad, f, g, rf, lf, df, sf, sg, ns, am, rfl, hSh, hE, hrf, hlf, hst⟩
      rfl))
      (kCfr (kCtoX (cm)) [0, 8, 9, 7, 10, 15] [1, 2, 3, 4, 5, 6, 11, 12, 13, 14, 16] rfl rfl rfl (fun v u hv => by
      obtain ⟨pl2, rfl, rfl⟩ := hv
      refine ⟨_, [11, 0, 1, 2, 3, 4, 5, 14, 12, 13, 15, 6, 7, 8, 9, 16, 10], rfl, ?_, rfl, a0, a1, a2, a3, a4, a5, a6, a7, a8, a9, a10, a11, a12, a13, a14, a15, 0, wt, ro, lb, pl2, co, st, go, rr, rfl, hro, hlb, hrr⟩
      rfl))

set_option maxHeartbeats 4000000 in
theorem j_drop (l : Launch) (D : va_G) (cI cJ cZ cO : ClassId) (e0 mi o z : Nat) (wX wM : va_W) (hJ : lJ cI cJ cZ cO e0 o z wX wM) :
    kJo l D cI cJ cZ cO e0 mi o z wX wM yX7_drop wsX7_drop [.ref o] yX8_drop wsX8_drop [.ref z] := by
  obtain ⟨T, wN, iN, P, nN, eN, gN, sN, pN, pa, K, rn, rN, mN, ln, dN, aN, hS, hX, hM⟩ := hJ
  have hS0 := hS
  have hX0 := hX
  obtain ⟨hT, hP, hpa, hK, hrn, hln, hw, hI, hB, hm, ha, hr28⟩ := hS
  obtain ⟨t0, h0, w0, r0, k0, s0, t1, t2, la, w1, w2, r1, k1, k2, k3, k4, k5, s1, s2, mo, N0, dn, ea, cap, al, LP, pf, ad, f, g, rf, lf, df, sf, sg, ns, am, rfl, hSh, hE, hrf, hlf, hst⟩ := hX
  obtain ⟨a0, a1, a2, a3, a4, a5, a6, a7, a8, a9, a10, a11, a12, a13, a14, a15, th, wt, ro, lb, pl, co, st, go, rr, rfl, hro, hlb, hrr⟩ := hM
  have cm := c_X8_drop l D cI cJ cZ cO z a0 a1 a2 a3 a4 a5 a6 a7 a8 a9 a10 a11 a12 a13 a14 a15 T P (nI pa) (nI K) rn ln th wt hP
  rcases Nat.eq_zero_or_pos P with rfl | hp
  · have cx := c_X7_drop_a l D cI cJ cZ cO o t0 h0 w0 r0 k0 s0 (nI K) (nI pa) la mo ea LP pf
    rw [if_pos rfl] at cm
    exact kJmk (-1) hS0
      (kCfrP (kCtoX cx) [0, 4, 5] [1, 2, 3, 6, 7, 8, 9, 10, 11, 12, 13, 14, 15, 16, 17, 18, 19] rfl rfl rfl (fun v u hv => by
      obtain ⟨rfl, rfl⟩ := hv
      refine ⟨_, _, _, [17, 0, 1, 2, 18, 19, 3, 4, 5, 6, 7, 8, 9, 10, 11, 12, 13, 14, 15, 16], rfl, rfl, ?_, rfl, t0, h0, w0, r0, k0, s0, t1, t2, la, w1, w2, r1, k1, k2, k3, k4, k5, s1, s2, mo, N0, dn, ea, cap, al, LP, pf, ad, f, g, rf, lf, df, sf, sg, ns, am, rfl, hSh, hE, hrf, hlf, hst⟩
      rfl))
      (kCfr (kCtoX (cm)) [0] [1, 2, 3, 4, 5, 6, 7, 8, 9, 10, 11, 12, 13, 14, 15, 16] rfl rfl rfl (fun v u hv => by
      obtain ⟨rfl, rfl⟩ := hv
      refine ⟨_, [16, 0, 1, 2, 3, 4, 5, 6, 7, 8, 9, 10, 11, 12, 13, 14, 15], rfl, ?_, rfl, a0, a1, a2, a3, a4, a5, a6, a7, a8, a9, a10, a11, a12, a13, a14, a15, 0, wt, ro, lb, pl, co, st, go, rr, rfl, hro, hlb, hrr⟩
      rfl))
  · obtain ⟨k, rfl⟩ : ∃ k, P = k + 1 := ⟨P - 1, by omega⟩
    obtain ⟨g1, g2, g3, g4, g5, g6, g7⟩ := sh_drop (by omega) hSh hE
    have cx := c_X7_drop_b l D cI cJ cZ cO o t0 h0 w0 r0 k0 s0 (nI K) (nI pa) la mo ea al LP pf cap k (ad k) g1 g2 g3 g4 g5
    rw [if_neg (by omega)] at cm
    have hS1 : lJS T wN iN k nN eN gN sN pN pa K rn rN mN ln aN := ⟨hT, by omega, hpa, hK, hrn, hln, hw, hI, hB, hm, ha, hr28⟩
    exact kJmk (nI k) hS1
      (kCfrP (kCtoX cx) [0, 4, 5] [1, 2, 3, 6, 7, 8, 9, 10, 11, 12, 13, 14, 15, 16, 17, 18, 19] rfl rfl rfl (fun v u hv => by
      obtain ⟨rfl, rfl⟩ := hv
      refine ⟨_, _, _, [17, 0, 1, 2, 18, 19, 3, 4, 5, 6, 7, 8, 9, 10, 11, 12, 13, 14, 15, 16], rfl, rfl, ?_, rfl, t0, h0, w0, r0, k0, s0, t1, t2, la, w1, w2, r1, k1, k2, k3, k4, k5, s1, s2, (mo + 1), N0, dn, ea, cap, (va_up al k none), LP, (va_up pf ea (arE cO cap (va_up al k none))), ad, f, g, rf, lf, df, sf, sg, ns, am, rfl, g6, g7, hrf, hlf, hst⟩
      rfl))
      (kCfr (kCtoX (cm)) [0] [1, 2, 3, 4, 5, 6, 7, 8, 9, 10, 11, 12, 13, 14, 15, 16] rfl rfl rfl (fun v u hv => by
      obtain ⟨rfl, rfl⟩ := hv
      refine ⟨_, [16, 0, 1, 2, 3, 4, 5, 6, 7, 8, 9, 10, 11, 12, 13, 14, 15], rfl, ?_, rfl, a0, a1, a2, a3, a4, a5, a6, a7, a8, a9, a10, a11, a12, a13, a14, a15, 0, wt, ro, lb, pl, co, st, go, rr, rfl, hro, hlb, hrr⟩
      rfl))

set_option maxHeartbeats 4000000 in
theorem j_piece (l : Launch) (D : va_G) (cI cJ cZ cO : ClassId) (e0 mi o z : Nat) (wX wM : va_W) (hJ : lJ cI cJ cZ cO e0 o z wX wM) (v1 v2 v3 v4 v5 : Int32) :
    kJo l D cI cJ cZ cO e0 mi o z wX wM yX7_piece wsX7_piece [.ref o, .int v1, .int v2, .int v3, .int v4, .int v5] yX8_piece wsX8_piece [.ref z, .int v1, .int v2, .int v3, .int v4, .int v5] := by
  obtain ⟨T, wN, iN, P, nN, eN, gN, sN, pN, pa, K, rn, rN, mN, ln, dN, aN, hS, hX, hM⟩ := hJ
  have hS0 := hS
  have hX0 := hX
  obtain ⟨hT, hP, hpa, hK, hrn, hln, hw, hI, hB, hm, ha, hr28⟩ := hS
  obtain ⟨t0, h0, w0, r0, k0, s0, t1, t2, la, w1, w2, r1, k1, k2, k3, k4, k5, s1, s2, mo, N0, dn, ea, cap, al, LP, pf, ad, f, g, rf, lf, df, sf, sg, ns, am, rfl, hSh, hE, hrf, hlf, hst⟩ := hX
  obtain ⟨a0, a1, a2, a3, a4, a5, a6, a7, a8, a9, a10, a11, a12, a13, a14, a15, th, wt, ro, lb, pl, co, st, go, rr, rfl, hro, hlb, hrr⟩ := hM
  have cm := c_X8_piece l D cI cJ cZ cO z a0 a1 a2 a3 a4 a5 a6 a7 a8 a9 a10 a11 a12 a13 a14 a15 T P (nI pa) (nI K) rn ln th wt (nF nN) (nF eN) (nF gN) (nF sN) (nF pN) v1 v2 v3 v4 v5 hP
  by_cases hok : pcB T v1 v2 v3 v4 v5 = true
  · obtain ⟨a', b', c', d', e', ha', hb', hc', hd', he', rfl, rfl, rfl, rfl, rfl, hpie⟩ := pc_ok hT hok
    have ec : closF (nF (clN iN T)) (nI c') 12 = nI (closN iN c' T) := by rw [closF_cl hT hc', closF_N (kp31 hT hc') T (by omega)]
    have ed : closF (nF (clN iN T)) (nI d') 12 = nI (closN iN d' T) := by rw [closF_cl hT hd', closF_N (kp31 hT hd') T (by omega)]
    rw [hpie P] at cm
    by_cases h14 : P = 14
    · subst h14
      have cx := c_X7_piece_d l D cI cJ cZ cO o t0 h0 w0 r0 k0 s0 (nI K) t1 t2 T (nF wN) (nF (clN iN T)) (nI pa) la mo ea LP pf (nI a') (nI b') (nI c') (nI d') (nI e') hok
      rw [ec, ed] at cx
      simp only [not_true_eq_false, decide_false, if_false, Bool.false_eq_true] at cm
      exact kJmk (-1) hS0 (kCfrP (kCtoX cx) [0, 1, 2, 3, 4, 5] [6, 7, 8, 9, 10, 11, 12, 13, 14, 15, 16, 17, 18, 19] rfl rfl rfl (fun v u hv => by
      obtain ⟨q, rfl, rfl, hq⟩ := hv
      have sh1 : lSh cO e0 14 ea cap al (LP ++ [q]) (va_up pf q (pcE (nI a') (nI b') (nI (closN iN c' T)) (nI (closN iN d' T)) (nI e'))) := by
        rcases hSh with ⟨h1, -⟩ | ⟨h1, h2, h3, h4, h5⟩
        · omega
        · refine Or.inr ⟨mem_l h1, ?_, h3, h4, fun i y hy => ⟨mem_l (h5 i y hy).1, ?_⟩⟩
          · rw [up_in hq (h1)]; exact h2
          · rw [up_in hq ((h5 i y hy).1)]; exact (h5 i y hy).2
      have sh2 : shE 14 al (LP ++ [q]) (va_up pf q (pcE (nI a') (nI b') (nI (closN iN c' T)) (nI (closN iN d' T)) (nI e'))) ad (nF nN) (nF eN) (nF (gvN iN gN T)) (nF (gvN iN sN T)) (nF pN) := fun i hi => by
        obtain ⟨g1, g2, g3⟩ := hE i hi
        exact ⟨g1, mem_l g2, by rw [up_in hq (g2)]; exact g3⟩
      refine ⟨_, _, _, [14, 15, 16, 17, 18, 19, 0, 1, 2, 3, 4, 5, 6, 7, 8, 9, 10, 11, 12, 13], rfl, rfl, ?_, rfl, t0, h0, w0, r0, k0, s0, t1, t2, la, w1, w2, r1, k1, k2, k3, k4, k5, s1, s2, mo, N0, dn, ea, cap, al, (LP ++ [q]), (va_up pf q (pcE (nI a') (nI b') (nI (closN iN c' T)) (nI (closN iN d' T)) (nI e'))), ad, f, g, rf, lf, df, sf, sg, ns, am, rfl, sh1, sh2, hrf, hlf, hst⟩
      rfl))
        (kCfr (kCtoX (cm)) [0, 3, 4, 5, 6, 7] [1, 2, 8, 9, 10, 11, 12, 13, 14, 15, 16] rfl rfl rfl (fun v u hv => by
      obtain ⟨rfl, rfl⟩ := hv
      refine ⟨_, [11, 0, 1, 12, 13, 14, 15, 16, 2, 3, 4, 5, 6, 7, 8, 9, 10], rfl, ?_, rfl, a0, a1, a2, a3, a4, a5, a6, a7, a8, a9, a10, a11, a12, a13, a14, a15, 0, wt, ro, lb, pl, co, st, go, rr, rfl, hro, hlb, hrr⟩
      rfl))
    · simp only [h14, not_false_eq_true, decide_true, if_true, nF_upd] at cm
      have hS1 : lJS T wN iN (P + 1) (updN nN P a') (updN eN P b') (updN gN P c') (updN sN P d') (updN pN P e') pa K rn rN mN ln aN := ⟨hT, by omega, hpa, hK, hrn, hln, hw, hI, shB_add hB ha' hb' hc' hd' he', hm, ha, hr28⟩
      rcases hSh with ⟨rfl, rfl⟩ | ⟨h1, h2, h3, h4, h5⟩
      · have cx := c_X7_piece_a l D cI cJ cZ cO ea mi o t0 h0 w0 r0 k0 s0 (nI K) t1 t2 T (nF wN) (nF (clN iN T)) (nI pa) la mo LP pf (nI a') (nI b') (nI c') (nI d') (nI e') hok
        rw [ec, ed] at cx
        exact kJmk (nI 0) hS1 (kCfrP (cx) [0, 1, 2, 3, 4, 5] [6, 7, 8, 9, 10, 11, 12, 13, 14, 15, 16, 17, 18, 19] rfl rfl rfl (fun v u hv => by
      obtain ⟨q, r, rfl, rfl, hq, hr⟩ := hv
      have hqr : q ≠ r := fun z => hr (z ▸ mem_e)
      have e6 : va_up (va_up pf q (pcE (nI a') (nI b') (nI (closN iN c' T)) (nI (closN iN d' T)) (nI e'))) r (arE cO 10 (va_up (fun _ => none) 0 (some q))) q = (pcE (nI a') (nI b') (nI (closN iN c' T)) (nI (closN iN d' T)) (nI e')) := by rw [va_up_ne _ _ hqr, va_up_self]
      have sh1 : lSh cO ea (0 + 1) r 10 (va_up (fun _ => none) 0 (some q)) ((LP ++ [q]) ++ [r]) (va_up (va_up pf q (pcE (nI a') (nI b') (nI (closN iN c' T)) (nI (closN iN d' T)) (nI e'))) r (arE cO 10 (va_up (fun _ => none) 0 (some q)))) := by
        refine Or.inr ⟨mem_e, va_up_self _ _ _, Or.inl rfl, by omega, fun i y hy => ?_⟩
        by_cases hi : i = 0
        · rw [hi, va_up_self] at hy
          cases hy
          exact ⟨mem_l mem_e, _, _, _, _, _, e6⟩
        · rw [va_up_ne _ _ hi] at hy
          cases hy
      have sh2 := sh_add (al2 := va_up (fun _ => none) 0 (some q)) (LP2 := (LP ++ [q]) ++ [r]) (pf2 := va_up (va_up pf q (pcE (nI a') (nI b') (nI (closN iN c' T)) (nI (closN iN d' T)) (nI e'))) r (arE cO 10 (va_up (fun _ => none) 0 (some q)))) hE (fun i hi => absurd hi (by omega)) (va_up_self _ _ _) (fun x hx => mem_l (mem_l hx)) (mem_l mem_e) (fun i hi => absurd hi (by omega)) e6
      refine ⟨_, _, _, [14, 15, 16, 17, 18, 19, 0, 1, 2, 3, 4, 5, 6, 7, 8, 9, 10, 11, 12, 13], rfl, rfl, ?_, rfl, t0, h0, w0, r0, k0, s0, t1, t2, la, w1, w2, r1, k1, k2, k3, k4, k5, s1, s2, (mo + 1), N0, dn, r, 10, (va_up (fun _ => none) 0 (some q)), ((LP ++ [q]) ++ [r]), (va_up (va_up pf q (pcE (nI a') (nI b') (nI (closN iN c' T)) (nI (closN iN d' T)) (nI e'))) r (arE cO 10 (va_up (fun _ => none) 0 (some q)))), (updN ad 0 q), f, g, rf, lf, df, sf, sg, ns, am, rfl, sh1, sh2, hrf, hlf, hst⟩
      rfl))
          (kCfr (kCtoX (cm)) [0, 3, 4, 5, 6, 7] [1, 2, 8, 9, 10, 11, 12, 13, 14, 15, 16] rfl rfl rfl (fun v u hv => by
      obtain ⟨rfl, rfl⟩ := hv
      refine ⟨_, [11, 0, 1, 12, 13, 14, 15, 16, 2, 3, 4, 5, 6, 7, 8, 9, 10], rfl, ?_, rfl, a0, a1, a2, a3, a4, a5, a6, a7, a8, a9, a10, a11, a12, a13, a14, a15, 0, wt, ro, lb, pl, co, st, go, rr, rfl, hro, hlb, hrr⟩
      rfl))
      · by_cases hcp : P < cap
        · have cx := c_X7_piece_c l D cI cJ cZ cO e0 mi o t0 h0 w0 r0 k0 s0 (nI K) t1 t2 T (nF wN) (nF (clN iN T)) (nI pa) la mo ea al LP pf cap P (nI a') (nI b') (nI c') (nI d') (nI e') h1 h2 hcp (by omega) (by omega) hok
          rw [ec, ed] at cx
          exact kJmk (nI P) hS1 (kCfrP (cx) [0, 1, 2, 3, 4, 5] [6, 7, 8, 9, 10, 11, 12, 13, 14, 15, 16, 17, 18, 19] rfl rfl rfl (fun v u hv => by
      obtain ⟨q, rfl, rfl, hq⟩ := hv
      have hqe : q ≠ ea := fun z => hq (z ▸ h1)
      have hold : ∀ x, x ∈ LP → x ≠ ea → va_up (va_up pf q (pcE (nI a') (nI b') (nI (closN iN c' T)) (nI (closN iN d' T)) (nI e'))) ea (arE cO cap (va_up al P (some q))) x = pf x := fun x hx hxe => by rw [va_up_ne _ _ hxe, up_in hq (hx)]
      have e6 : va_up (va_up pf q (pcE (nI a') (nI b') (nI (closN iN c' T)) (nI (closN iN d' T)) (nI e'))) ea (arE cO cap (va_up al P (some q))) q = (pcE (nI a') (nI b') (nI (closN iN c' T)) (nI (closN iN d' T)) (nI e')) := by rw [va_up_ne _ _ hqe, va_up_self]
      have sh1 : lSh cO e0 (P + 1) ea cap (va_up al P (some q)) (LP ++ [q]) (va_up (va_up pf q (pcE (nI a') (nI b') (nI (closN iN c' T)) (nI (closN iN d' T)) (nI e'))) ea (arE cO cap (va_up al P (some q)))) := by
        refine Or.inr ⟨mem_l h1, va_up_self _ _ _, h3, by omega, fun i y hy => ?_⟩
        by_cases hi : i = P
        · rw [hi, va_up_self] at hy
          cases hy
          exact ⟨mem_e, _, _, _, _, _, e6⟩
        · rw [va_up_ne _ _ hi] at hy
          refine ⟨mem_l (h5 i y hy).1, ?_⟩
          rw [hold y (h5 i y hy).1 (pc_row h2 h5 hy)]
          exact (h5 i y hy).2
      have sh2 := sh_add (al2 := va_up al P (some q)) (LP2 := LP ++ [q]) (pf2 := va_up (va_up pf q (pcE (nI a') (nI b') (nI (closN iN c' T)) (nI (closN iN d' T)) (nI e'))) ea (arE cO cap (va_up al P (some q)))) hE (fun i hi => va_up_ne _ _ (by omega)) (va_up_self _ _ _) (fun x hx => mem_l hx) mem_e (fun i hi => hold _ (hE i hi).2.1 (sh_row (e0 := e0) h2 hE hi)) e6
      refine ⟨_, _, _, [14, 15, 16, 17, 18, 19, 0, 1, 2, 3, 4, 5, 6, 7, 8, 9, 10, 11, 12, 13], rfl, rfl, ?_, rfl, t0, h0, w0, r0, k0, s0, t1, t2, la, w1, w2, r1, k1, k2, k3, k4, k5, s1, s2, (mo + 1), N0, dn, ea, cap, (va_up al P (some q)), (LP ++ [q]), (va_up (va_up pf q (pcE (nI a') (nI b') (nI (closN iN c' T)) (nI (closN iN d' T)) (nI e'))) ea (arE cO cap (va_up al P (some q)))), (updN ad P q), f, g, rf, lf, df, sf, sg, ns, am, rfl, sh1, sh2, hrf, hlf, hst⟩
      rfl))
            (kCfr (kCtoX (cm)) [0, 3, 4, 5, 6, 7] [1, 2, 8, 9, 10, 11, 12, 13, 14, 15, 16] rfl rfl rfl (fun v u hv => by
      obtain ⟨rfl, rfl⟩ := hv
      refine ⟨_, [11, 0, 1, 12, 13, 14, 15, 16, 2, 3, 4, 5, 6, 7, 8, 9, 10], rfl, ?_, rfl, a0, a1, a2, a3, a4, a5, a6, a7, a8, a9, a10, a11, a12, a13, a14, a15, 0, wt, ro, lb, pl, co, st, go, rr, rfl, hro, hlb, hrr⟩
      rfl))
        · obtain rfl : cap = 10 := by omega
          obtain rfl : P = 10 := by omega
          have cx := c_X7_piece_b l D cI cJ cZ cO e0 mi o t0 h0 w0 r0 k0 s0 (nI K) t1 t2 T (nF wN) (nF (clN iN T)) (nI pa) la mo ea al LP pf (nI a') (nI b') (nI c') (nI d') (nI e') h1 h2 h5 hok
          rw [ec, ed] at cx
          exact kJmk (nI 10) hS1 (kCfrP (cx) [0, 1, 2, 3, 4, 5] [6, 7, 8, 9, 10, 11, 12, 13, 14, 15, 16, 17, 18, 19] rfl rfl rfl (fun v u hv => by
      obtain ⟨q, r, rfl, rfl, hq, hr⟩ := hv
      have hqr : q ≠ r := fun z => hr (z ▸ mem_e)
      have hold : ∀ x, x ∈ LP → va_up (va_up pf q (pcE (nI a') (nI b') (nI (closN iN c' T)) (nI (closN iN d' T)) (nI e'))) r (arE cO 15 (va_up (fun i => if i < 10 then al i else none) 10 (some q))) x = pf x := fun x hx => by rw [up_in hr (mem_l hx), up_in hq (hx)]
      have e6 : va_up (va_up pf q (pcE (nI a') (nI b') (nI (closN iN c' T)) (nI (closN iN d' T)) (nI e'))) r (arE cO 15 (va_up (fun i => if i < 10 then al i else none) 10 (some q))) q = (pcE (nI a') (nI b') (nI (closN iN c' T)) (nI (closN iN d' T)) (nI e')) := by rw [va_up_ne _ _ hqr, va_up_self]
      have sh1 : lSh cO e0 (10 + 1) r 15 (va_up (fun i => if i < 10 then al i else none) 10 (some q)) ((LP ++ [q]) ++ [r]) (va_up (va_up pf q (pcE (nI a') (nI b') (nI (closN iN c' T)) (nI (closN iN d' T)) (nI e'))) r (arE cO 15 (va_up (fun i => if i < 10 then al i else none) 10 (some q)))) := by
        refine Or.inr ⟨mem_e, va_up_self _ _ _, Or.inr rfl, by omega, fun i y hy => ?_⟩
        by_cases hi : i = 10
        · rw [hi, va_up_self] at hy
          cases hy
          exact ⟨mem_l mem_e, _, _, _, _, _, e6⟩
        · rw [va_up_ne _ _ hi] at hy
          by_cases hi2 : i < 10
          · rw [if_pos hi2] at hy
            refine ⟨mem_l (mem_l (h5 i y hy).1), ?_⟩
            rw [hold y (h5 i y hy).1]
            exact (h5 i y hy).2
          · rw [if_neg hi2] at hy
            cases hy
      have sh2 := sh_add (al2 := va_up (fun i => if i < 10 then al i else none) 10 (some q)) (LP2 := (LP ++ [q]) ++ [r]) (pf2 := va_up (va_up pf q (pcE (nI a') (nI b') (nI (closN iN c' T)) (nI (closN iN d' T)) (nI e'))) r (arE cO 15 (va_up (fun i => if i < 10 then al i else none) 10 (some q)))) hE (fun i hi => by rw [va_up_ne _ _ (by omega), if_pos hi]) (va_up_self _ _ _) (fun x hx => mem_l (mem_l hx)) (mem_l mem_e) (fun i hi => hold _ (hE i hi).2.1) e6
      refine ⟨_, _, _, [14, 15, 16, 17, 18, 19, 0, 1, 2, 3, 4, 5, 6, 7, 8, 9, 10, 11, 12, 13], rfl, rfl, ?_, rfl, t0, h0, w0, r0, k0, s0, t1, t2, la, w1, w2, r1, k1, k2, k3, k4, k5, s1, s2, (mo + 1), N0, dn, r, 15, (va_up (fun i => if i < 10 then al i else none) 10 (some q)), ((LP ++ [q]) ++ [r]), (va_up (va_up pf q (pcE (nI a') (nI b') (nI (closN iN c' T)) (nI (closN iN d' T)) (nI e'))) r (arE cO 15 (va_up (fun i => if i < 10 then al i else none) 10 (some q)))), (updN ad 10 q), f, g, rf, lf, df, sf, sg, ns, am, rfl, sh1, sh2, hrf, hlf, hst⟩
      rfl))
            (kCfr (kCtoX (cm)) [0, 3, 4, 5, 6, 7] [1, 2, 8, 9, 10, 11, 12, 13, 14, 15, 16] rfl rfl rfl (fun v u hv => by
      obtain ⟨rfl, rfl⟩ := hv
      refine ⟨_, [11, 0, 1, 12, 13, 14, 15, 16, 2, 3, 4, 5, 6, 7, 8, 9, 10], rfl, ?_, rfl, a0, a1, a2, a3, a4, a5, a6, a7, a8, a9, a10, a11, a12, a13, a14, a15, 0, wt, ro, lb, pl, co, st, go, rr, rfl, hro, hlb, hrr⟩
      rfl))
  · rw [Bool.not_eq_true] at hok
    have cx := c_X7_piece_e l D cI cJ cZ cO o t0 h0 w0 r0 k0 s0 (nI K) t1 t2 T (nF wN) (nF (clN iN T)) v1 v2 v3 v4 v5 hok
    rw [pc_no hT hok] at cm
    simp only [if_false, Bool.false_eq_true] at cm
    exact kJmk (-1) hS0 (kCofR (cx) (sub_app [0, 1, 2, 3] rfl) (fun v hv => by
      obtain rfl := hv
      exact ⟨rfl, hX0⟩))
      (kCfr (kCtoX (cm)) [0, 3, 4, 5, 6, 7] [1, 2, 8, 9, 10, 11, 12, 13, 14, 15, 16] rfl rfl rfl (fun v u hv => by
      obtain ⟨rfl, rfl⟩ := hv
      refine ⟨_, [11, 0, 1, 12, 13, 14, 15, 16, 2, 3, 4, 5, 6, 7, 8, 9, 10], rfl, ?_, rfl, a0, a1, a2, a3, a4, a5, a6, a7, a8, a9, a10, a11, a12, a13, a14, a15, 0, wt, ro, lb, pl, co, st, go, rr, rfl, hro, hlb, hrr⟩
      rfl))
