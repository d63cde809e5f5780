/-! ===== the pure part: most: the rows are one ===== -/
theorem tpR_at (im gi sk : Nat → Int32) (T P : Nat) (p : Nat → Nat → Bool) (K : Nat) (ro : Nat → Int32) : ∀ n j, tpR im gi sk T P p K ro n j = if j < n then nI (tpK p P (tpV im gi sk T P p K j)) else ro j
  | 0, j => by simp [tpR]
  | n + 1, j => by
    have ih := tpR_at im gi sk T P p K ro n j
    unfold tpR
    by_cases h : j = n
    · subst h
      rw [upd_s, if_pos (by omega)]
    · rw [upd_n h, ih]
      by_cases h2 : j < n
      · rw [if_pos h2, if_pos (by omega)]
      · rw [if_neg h2, if_neg (by omega)]
section PMOSTC
variable {nN eN iN gN sN pN wN : Nat → Nat} {T P pa K : Nat}
theorem most_eq (hT : T ≤ 12) (hP : P ≤ 14) (hpa : pa ≤ 10) (hB : shB nN eN gN sN pN T) (hI : imB iN) (hK : K < 2 ^ T) (hw : ∀ i, wN i ≤ 9) {m : Nat} (hm : m ≤ 10000) {f : Nat → Int32} {g : Nat → Int64} {qc : (Nat → Int32) × (Nat → Int64)}
    (hqc : qc = expF (2 ^ T) P (nF nN) (nF eN) (nF (gvN iN gN T)) (nF (gvN iN sN T)) (nF pN) (nI pa) (-1) K (upd (fillF f (2 ^ T)) K 0, vp_updL g K 0) (2 ^ T - K))
    {co st go : Nat → Int32} {q : (Nat → Int32) × (Nat → Int32)} (hq : q = mfwF (nF nN) (nF eN) (nF iN) (nF gN) (nF sN) (nF pN) T P (nI pa) K (m0F K co (2 ^ T), zro st (2 ^ T)) (2 ^ T - K))
    {b : Nat} (hb : b = bstF (nF wN) T q K (nI m) (2 ^ T)) {GG : Nat → Int32} (hGG : GG = gdF (nF nN) (nF eN) (nF iN) (nF gN) (nF sN) (nF pN) (nF wN) T P (nI pa) q b go (2 ^ T))
    {p : Nat → Nat → Bool} (hp : p = gdT (nF nN) (nF eN) (nF iN) (nF gN) (nF sN) (nF pN) T (nI pa) q GG) :
    ∃ e cs, e < 2 ^ T ∧ (richF qc.1 qc.2 (nF wN) (nI m) (2 ^ T)).1 = nI e ∧ qc.1 e = nI cs ∧ cs < 2 ^ 31 ∧ cs % 16 ≤ 12 ∧ b < 2 ^ T ∧ worthF (nF wN) (nI e) 12 = worthF (nF wN) (nI b) T ∧ q.2 b = nI (cs % 16) ∧ hTp (nF iN) (nF gN) (nF sN) T P p K (cs % 16) ∧
      ∀ rf ro j, j < cs % 16 → copyF rf (qc.2 e) (cs % 16) (cs % 16) j = tpR (nF iN) (nF gN) (nF sN) T P p K ro (cs % 16) j ∧ ∃ k, k < 28 ∧ copyF rf (qc.2 e) (cs % 16) (cs % 16) j = nI k := by
  have hG := stG_OK (wt := (-1)) hT hP hpa hB hI
  have hpw := kpow hT
  have hFc := exp_fwe (wt := (-1)) hT hP hpa hB hI hK f g hqc
  have hF := mf_fme hT hP hpa hB hI hK co st hq
  have hbm := bst_M hT hP hpa hB hI hK hw hF hm
  rw [← hb] at hbm
  have hW : ∀ u, u < 2 ^ T → worthF (nF wN) (nI u) 12 = nI (worthN wN u T) ∧ worthN wN u T < 2 ^ 31 := fun u hu => ⟨by rw [worth_cl hT hu, worthF_N (kp31 hT hu) T (by omega)], by have := worth_b hT hw u; omega⟩
  obtain ⟨e, ds, c1, c2, c3, c4⟩ := rich_B hG hK hFc hW m (by omega)
  obtain ⟨db, hdb⟩ := hbm.1
  have hbN := (run_facts hG db K b hK hdb).1
  have hgood := fun x (hx : x < 2 ^ T) hr => gdF_N hT hP hpa hB hI hK hw hF go hbm.1 (2 ^ T) (Nat.le_refl _) x hx (by omega) hr
  rw [← hGG] at hgood
  have hps : ∀ v, (∃ ds, runG (stG nN eN iN gN sN T P (-1)) ds K = some v) → ∀ k, k < 2 * P → (p v k = true ↔ ∃ u, stG nN eN iN gN sN T P (-1) k v = some u ∧ cNq q v + tmN pN pa k = cNq q u ∧ sNq q v + 1 = sNq q u ∧ ∃ es, tgtM (stG nN eN iN gN sN T P (-1)) (tmN pN pa) (fun u => worthN wN u T) K q b es u) := by
    rintro v ⟨dv, hdv⟩ k hk
    have hv := (run_facts hG dv K v hK hdv).1
    rw [hp, gdT_N hT hP hpa hB hI hK hF GG hk ⟨dv, hdv⟩]
    constructor
    · rintro ⟨u, z1, z2, z3, z4⟩
      exact ⟨u, z1, z3, z4, (hgood u (hG.2.2.2.2 k v u hv z1).2.2.1 ⟨dv ++ [k], run_snoc_of hdv z1⟩).mp z2⟩
    · rintro ⟨u, z1, z3, z4, z5⟩
      exact ⟨u, z1, (hgood u (hG.2.2.2.2 k v u hv z1).2.2.1 ⟨dv ++ [k], run_snoc_of hdv z1⟩).mpr z5, z3, z4⟩
  have hkF : ∀ v, v < 2 ^ T → (∃ k, k < 2 * P ∧ p v k = true) → p v (tpK p P v) = true ∧ tpK p P v < 2 * P ∧ (∀ j, j < tpK p P v → p v j = false) ∧ ∀ u, stG nN eN iN gN sN T P (-1) (tpK p P v) v = some u → (bhF (nF iN) (nF gN) (nF sN) T (tpK p P v) (nI v)).toNatClampNeg = u := by
    rintro v hv ⟨k0, h1, h2⟩
    obtain ⟨a1, a2, a3, a4⟩ := fst_spec (p v) (2 * P) 0 ⟨k0, Nat.zero_le _, by omega, h2⟩
    have ee : tpK p P v = fstF (p v) (2 * P) 0 := rfl
    rw [← ee] at a1 a3 a4
    refine ⟨a1, by omega, fun j hj => a4 j (Nat.zero_le _) hj, fun u hu => ?_⟩
    have hlt : u < 2 ^ T := by rw [stG_at hu]; exact Nat.or_lt_two_pow hv (brN_lt hB hI _)
    rw [bh_st hT hB hu, nI_clamp (by omega)]
  obtain ⟨k1, k2⟩ := cK0 hG hK hF
  obtain ⟨b1, b2, b3, b4, ⟨dm, e1, e2, e3⟩, _⟩ := fme_at hG hK hF hdb
  have htg : tgtM (stG nN eN iN gN sN T P (-1)) (tmN pN pa) (fun u => worthN wN u T) K q b dm K := (tgt_of hG hK hF hbm rfl dm [] K rfl e1 (by show 0 + tmS _ dm = _; omega) (by simp only [List.length_nil]; omega)).2.2
  obtain ⟨t1, t2, t3⟩ := mtrace hG hK hps hkF (sNq q b) K dm ⟨[], rfl⟩ htg e3
  obtain ⟨x, m1, m2⟩ := mrow_best hG hK hF hbm t1 (fun es he => t3 es he 0)
  obtain ⟨o1, o2, o3⟩ := mBst_one c4 m1
  have s := run_small hG hK c4.1
  obtain ⟨_, d2⟩ := cst_div hG hK c4.1
  obtain ⟨_, d3⟩ := cst_div hG hK m1.1
  have hlen : ds.length = sNq q b := by rw [← d2, o2, d3, t2]
  -- the sets along the row
  have hV : ∀ n, n ≤ sNq q b → (∃ ds, runG (stG nN eN iN gN sN T P (-1)) ds K = some (tpV (nF iN) (nF gN) (nF sN) T P p K n)) ∧ ∃ es, tgtM (stG nN eN iN gN sN T P (-1)) (tmN pN pa) (fun u => worthN wN u T) K q b es (tpV (nF iN) (nF gN) (nF sN) T P p K n) ∧ es.length = sNq q b - n := by
    intro n
    induction n with
    | zero => exact fun _ => ⟨⟨[], rfl⟩, dm, htg, by omega⟩
    | succ n ih =>
      intro hn
      obtain ⟨⟨dv, hdv⟩, es, h1, h2⟩ := ih (by omega)
      have hv := (run_facts hG dv K _ hK hdv).1
      cases es with
      | nil => simp only [List.length_nil] at h2; omega
      | cons k0 es =>
        have l0 := (tgt_run _ _ h1).1
        obtain ⟨u0, z1, z2, z3, z4⟩ := h1
        have hk0 := (hG.2.2.2.2 k0 _ u0 hv z1).1
        obtain ⟨p1, p2, p3, p4⟩ := hkF _ hv ⟨k0, hk0, (hps _ ⟨dv, hdv⟩ k0 hk0).mpr ⟨u0, z1, z2, z3, es, z4⟩⟩
        obtain ⟨u, y1, y2, y3, es', y4⟩ := (hps _ ⟨dv, hdv⟩ _ p2).mp p1
        have hnx : tpV (nF iN) (nF gN) (nF sN) T P p K (n + 1) = u := p4 u y1
        rw [hnx]
        have l1 := (tgt_run _ _ y4).1
        refine ⟨⟨dv ++ [_], run_snoc_of hdv y1⟩, es', y4, ?_⟩
        simp only [List.length_cons] at h2 l0
        omega
  refine ⟨e, cst (tmN pN pa) ds, c1, c2, c3.1, by omega, by omega, hbN, ?_, ?_, ?_, fun rf ro j hj => ?_⟩
  · rw [(hW e c1).1, worthF_N (kp31 hT hbN) T (by omega)]
    exact congrArg nI (o1.trans m2)
  · rw [d2, hlen]; exact b2
  · rw [d2, hlen]
    intro n hn
    obtain ⟨⟨dv, hdv⟩, es, h1, h2⟩ := hV n (by omega)
    have hv := (run_facts hG dv K _ hK hdv).1
    refine ⟨hv, ?_, fun k hk _ => ⟨_, Nat.or_lt_two_pow hv (brN_lt hB hI k), bhF_N hT hB⟩⟩
    cases es with
    | nil => simp only [List.length_nil] at h2; omega
    | cons k0 es =>
      obtain ⟨u0, z1, z2, z3, z4⟩ := h1
      have hk0 := (hG.2.2.2.2 k0 _ u0 hv z1).1
      exact ⟨k0, hk0, (hps _ ⟨dv, hdv⟩ k0 hk0).mpr ⟨u0, z1, z2, z3, es, z4⟩⟩
  · rw [d2] at hj ⊢
    have hsm1 : ∀ k ∈ ds, k < 32 := fun k hk => by have := (run_facts hG ds K e hK c4.1).2.2.2 k hk; omega
    have hsm2 : ∀ k ∈ (trD (tpK p P) (fun v => (bhF (nF iN) (nF gN) (nF sN) T (tpK p P v) (nI v)).toNatClampNeg) (sNq q b) K), k < 32 := fun k hk => by have := (run_facts hG _ K x hK m1.1).2.2.2 k hk; omega
    have hc := copy_N (rf := rf) hsm1 (by omega) hj
    have h1 : ds.getD j 0 < 28 := by
      have hmm : ds.getD j 0 ∈ ds := by
        rw [List.getD_eq_getElem?_getD, List.getElem?_eq_getElem hj]
        exact List.getElem_mem hj
      have := (run_facts hG ds K e hK c4.1).2.2.2 _ hmm
      omega
    refine ⟨?_, ds.getD j 0, h1, by rw [c3.2]; exact hc⟩
    rw [c3.2, hc, tpR_at, if_pos hj, codA_eq hsm1 hsm2 (by rw [hlen]; exact t2.symm) o3 hj]
    congr 1
    exact trD_at (tpK p P) (fun v => (bhF (nF iN) (nF gN) (nF sN) T (tpK p P v) (nI v)).toNatClampNeg) (fun v n => tpV (nF iN) (nF gN) (nF sN) T P p v n) (fun v => rfl) (fun v n => rfl) (sNq q b) K j (by omega)
end PMOSTC
