/-! ===== the two worlds of the law, side by side ===== -/
/-- the list's row: none made yet, or in the pool -/
def lSh (cO : ClassId) (e0 P ea cap : Nat) (al : Nat → Option Nat) (LP : List Nat) (pf : Nat → va_E) : Prop :=
  (P = 0 ∧ ea = e0) ∨ (ea ∈ LP ∧ pf ea = arE cO cap al ∧ (cap = 10 ∨ cap = 15) ∧ P ≤ cap ∧ pcs al LP pf)
theorem lSh.H {cO : ClassId} {e0 P ea cap : Nat} {al : Nat → Option Nat} {LP : List Nat} {pf : Nat → va_E} (h : lSh cO e0 P ea cap al LP pf) : shH cO P ea cap al LP pf := fun hp => by
  rcases h with ⟨h1, -⟩ | ⟨h1, h2, h3, h4, -⟩
  · omega
  · exact ⟨h1, h2, h4, by omega⟩
/-- the class's world -/
abbrev lJX (cI cJ cO : ClassId) (e0 o : Nat) (T : Nat) (wN iN : Nat → Nat) (P : Nat) (nN eN gN sN pN : Nat → Nat) (pa K rn : Nat) (rN mN : Nat → Nat) (ln : Nat) (dN : Nat → Int32) (aN : Nat → Nat) (w : va_W) : Prop :=
  ∃ (t0 h0 w0 r0 k0 s0 t1 t2 la w1 w2 r1 k1 k2 k3 k4 k5 s1 s2 : Nat) (mo N0 dn : Int32) (ea cap : Nat) (al : Nat → Option Nat) (LP : List Nat) (pf : Nat → va_E) (ad : Nat → Nat) (f : Nat → Int32) (g : Nat → Int64) (rf lf df sf sg : Nat → Int32) (ns am : Nat),
    w = [(o, .inr (8, [.ref t0, .ref h0, .ref w0, .ref r0, .ref k0, .ref s0, .int (nI K)])), (t0, .inr (5, [.ref t1, .ref t2, .int (nI T)])), (t1, .inl (cI, 12, .inl (nF wN))), (t2, .inl (cI, 12, .inl (nF (clN iN T)))), (h0, .inr (4, [.ref la, .int (nI pa)])), (la, .inr (0, [.int mo, .ref ea, .int (nI P)])), (w0, .inr (6, [.ref w1, .ref w2, .int N0])), (w1, .inl (cI, 4096, .inl f)), (w2, .inl (cJ, 4096, .inr (.inl g))), (r0, .inr (3, [.ref r1, .int (nI rn)])), (r1, .inl (cI, 12, .inl rf)), (k0, .inr (7, [.ref k1, .ref k2, .ref k3])), (k1, .inl (cI, 52, .inl (nF mN))), (k2, .inr (3, [.ref k4, .int (nI ln)])), (k4, .inl (cI, 12, .inl lf)), (k3, .inr (3, [.ref k5, .int dn])), (k5, .inl (cI, 12, .inl df)), (s0, .inr (1, [.ref s1, .ref s2, .int (nI ns), .int (nI am)])), (s1, .inl (cI, 4096, .inl sf)), (s2, .inl (cI, 64, .inl sg))] ++ va_pl LP pf ∧
    lSh cO e0 P ea cap al LP pf ∧ shE P al LP pf ad (nF nN) (nF eN) (nF (gvN iN gN T)) (nF (gvN iN sN T)) (nF pN) ∧ (∀ i, i < rn → rf i = nI (rN i)) ∧ (∀ i, i < ln → lf i = dN i) ∧ stOK iN aN T sf ns am
/-- the reference's world -/
abbrev lJM (cI cZ : ClassId) (z : Nat) (T : Nat) (wN iN : Nat → Nat) (P : Nat) (nN eN gN sN pN : Nat → Nat) (pa K rn : Nat) (rN mN : Nat → Nat) (ln : Nat) (dN : Nat → Int32) (aN : Nat → Nat) (w : va_W) : Prop :=
  ∃ (a0 a1 a2 a3 a4 a5 a6 a7 a8 a9 a10 a11 a12 a13 a14 a15 : Nat) (th wt : Int32) (ro lb pl co st go : Nat → Int32) (rr : Nat → Nat),
    w = [(z, .inr (9, [.ref a0, .ref a1, .int (nI T), .ref a2, .ref a3, .ref a4, .ref a5, .ref a6, .int (nI P), .int (nI pa), .int (nI K), .ref a7, .int (nI rn), .ref a8, .ref a9, .int (nI ln), .ref a10, .int th, .ref a11, .ref a12, .int wt, .ref a13, .ref a14, .ref a15])), (a0, .inl (cI, 12, .inl (nF wN))), (a1, .inl (cI, 12, .inl (nF iN))), (a2, .inl (cI, 14, .inl (nF nN))), (a3, .inl (cI, 14, .inl (nF eN))), (a4, .inl (cI, 14, .inl (nF gN))), (a5, .inl (cI, 14, .inl (nF sN))), (a6, .inl (cI, 14, .inl (nF pN))), (a7, .inl (cI, 12, .inl ro)), (a8, .inl (cI, 52, .inl (nF mN))), (a9, .inl (cI, 12, .inl lb)), (a10, .inl (cI, 12, .inl (nF aN))), (a11, .inl (cI, 4096, .inl co)), (a12, .inl (cI, 4096, .inl st)), (a13, .inl (cZ, 4096, .inl go)), (a14, .inl (cI, 12, .inl pl)), (a15, .inl (cI, 64, .inl (nF rr)))] ∧
    (∀ i, i < rn → ro i = nI (rN i)) ∧ (∀ i, i < ln → lb i = dN i) ∧ ∀ k, rr k < 4096
/-- what they share -/
abbrev lJS (T : Nat) (wN iN : Nat → Nat) (P : Nat) (nN eN gN sN pN : Nat → Nat) (pa K rn : Nat) (rN mN : Nat → Nat) (ln : Nat) (aN : Nat → Nat) : Prop :=
  T ≤ 12 ∧ P ≤ 14 ∧ pa ≤ 10 ∧ K < 2 ^ T ∧ rn ≤ 12 ∧ ln ≤ 12 ∧ (∀ i, wN i ≤ 9) ∧ imB iN ∧ shB nN eN gN sN pN T ∧ (∀ w, mN w ≤ 3000) ∧ aB aN T ∧ ∀ i, i < rn → rN i < 28
abbrev lJ (cI cJ cZ cO : ClassId) (e0 o z : Nat) (wX wM : va_W) : Prop :=
  ∃ (T : Nat) (wN iN : Nat → Nat) (P : Nat) (nN eN gN sN pN : Nat → Nat) (pa K rn : Nat) (rN mN : Nat → Nat) (ln : Nat) (dN : Nat → Int32) (aN : Nat → Nat),
    lJS T wN iN P nN eN gN sN pN pa K rn rN mN ln aN ∧ lJX cI cJ cO e0 o T wN iN P nN eN gN sN pN pa K rn rN mN ln dN aN wX ∧ lJM cI cZ z T wN iN P nN eN gN sN pN pa K rn rN mN ln dN aN wM
/-- two methods answer alike and leave the worlds side by side -/
def kJo (l : Launch) (D : va_G) (cI cJ cZ cO : ClassId) (e0 mi o z : Nat) (wX wM : va_W) (yx : MethodName) (wsx : List Cond) (avx : List Value) (ym : MethodName) (wsm : List Cond) (avm : List Value) : Prop :=
  ∃ (frx lox mcx msx frm lom : Nat) (a : Int32) (pX pM : va_W → Prop), (frx ≤ 100 ∧ lox ≤ 1000 ∧ mcx ≤ 2 ∧ msx ≤ 20 ∧ frm ≤ 100 ∧ lom ≤ 1000) ∧ kCx l D (kTY cI cJ cZ cO) e0 mi yx wsx frx lox mcx msx avx wX (fun v u => v = some (.int a) ∧ pX u) ∧ kCx l D (kTY cI cJ cZ cO) e0 mi ym wsm frm lom 0 0 avm wM (fun v u => v = some (.int a) ∧ pM u) ∧ ∀ x y, pX x → pM y → lJ cI cJ cZ cO e0 o z x y
section KJM
variable {l : Launch} {D : va_G} {cI cJ cZ cO : ClassId} {e0 mi o z : Nat} {wX wM : va_W} {yx : MethodName} {wsx : List Cond} {frx lox mcx msx : Nat} {avx : List Value} {ym : MethodName} {wsm : List Cond} {frm lom : Nat} {avm : List Value}
variable {T : Nat} {wN iN : Nat → Nat} {P : Nat} {nN eN gN sN pN : Nat → Nat} {pa K rn : Nat} {rN mN : Nat → Nat} {ln : Nat} {dN : Nat → Int32} {aN : Nat → Nat}
theorem kJmk (a : Int32) (hS : lJS T wN iN P nN eN gN sN pN pa K rn rN mN ln aN)
    (hx : kCx l D (kTY cI cJ cZ cO) e0 mi yx wsx frx lox mcx msx avx wX (fun v u => v = some (.int a) ∧ lJX cI cJ cO e0 o T wN iN P nN eN gN sN pN pa K rn rN mN ln dN aN u))
    (hm : kCx l D (kTY cI cJ cZ cO) e0 mi ym wsm frm lom 0 0 avm wM (fun v u => v = some (.int a) ∧ lJM cI cZ z T wN iN P nN eN gN sN pN pa K rn rN mN ln dN aN u))
    (hr : frx ≤ 100 ∧ lox ≤ 1000 ∧ mcx ≤ 2 ∧ msx ≤ 20 ∧ frm ≤ 100 ∧ lom ≤ 1000 := by decide) :
    kJo l D cI cJ cZ cO e0 mi o z wX wM yx wsx avx ym wsm avm :=
  ⟨frx, lox, mcx, msx, frm, lom, a, _, _, hr, hx, hm, fun _ _ h1 h2 => ⟨T, wN, iN, P, nN, eN, gN, sN, pN, pa, K, rn, rN, mN, ln, dN, aN, hS, h1, h2⟩⟩
end KJM
theorem sub_app {D : va_G} {X pl cx : va_W} (is : List Nat) (hs : is.map (fun i => X[i]?) = cx.map some) : ∀ H, va_P D vwCl (X ++ pl) H → va_P D vwCl cx H := fun _ hP => kPl_sub hP is hs
theorem sub_appP {D : va_G} {X pl cx : va_W} (is : List Nat) (hs : is.map (fun i => X[i]?) = cx.map some) : ∀ H, va_P D vwCl (X ++ pl) H → va_P D vwCl (cx ++ pl) H := fun _ hP => hP.part is hs
theorem rm_eq {f f' : Nat → Int32} {n : Nat} (hn : n ≤ 12) (h : ∀ i, i < n → f i = f' i) (i : Int32) : rowAt f (nI n) i = rowM f' n i := by
  unfold rowAt rowM
  by_cases h0 : i < 0
  · rw [if_neg (fun q => q.1 h0), if_neg]
    intro hb
    exact kwin hb (Nat.le_refl n) (by omega) (Or.inl h0)
  · obtain ⟨j, hj, rfl⟩ := nI_of h0
    by_cases hjn : j < n
    · have e1 : nI n - 1 = nI (n - 1) := pk_sub (a := n) (b := 1) (by omega)
      have e2 : withinB (nI j) 0 (nI n - 1) = true := by
        rw [e1]
        exact (wi_iff (b := nI j) (a := 0) (c := n - 1) (by omega) (by omega)).mpr ⟨j, by omega, by omega, rfl⟩
      rw [if_pos ⟨h0, (not_congr (nI_leI (by omega) (by omega))).mpr (by omega), (not_congr (nI_leI (a := 12) (by omega) (by omega))).mpr (by omega)⟩, if_pos e2, nI_clamp hj, h j hjn]
    · rw [if_neg (fun q => q.2.1 ((nI_leI (by omega) (by omega)).mpr (by omega))), if_neg]
      intro hb
      refine kwin hb (Nat.le_refl n) (by omega) (Or.inr ?_)
      rw [nI_clamp hj]
      omega
