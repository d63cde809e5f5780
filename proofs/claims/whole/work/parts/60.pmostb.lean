/-! ===== the pure part: most, the class's and the reference's ===== -/
section PMOSTB
variable {nN eN iN gN sN pN wN : Nat → Nat} {T P pa K : Nat}
theorem fwd_N (hT : T ≤ 12) (hpa : pa ≤ 10) (hB : shB nN eN gN sN pN T) (hI : imB iN) {s v : Nat} (hs : s < 2 * P) (hv : v < 2 ^ T) (q : (Nat → Int32) × (Nat → Int32)) :
    fwdG (nF nN) (nF eN) (nF iN) (nF gN) (nF sN) (nF pN) T (nI pa) v s q = fwdO q v (tmN pN pa s) (stG nN eN iN gN sN T P (-1) s v) := by
  have hp := kpow hT
  unfold fwdG
  rw [nbF_N hT hB hI hs hv, mtime_N hB hpa]
  cases h : stG nN eN iN gN sN T P (-1) s v with
  | none => rw [if_pos (show oI none = -1 from rfl)]; rfl
  | some u =>
    have hu : u < 2 ^ T := by rw [stG_at h]; exact Nat.or_lt_two_pow hv (brN_lt hB hI s)
    show (if oI (some u) = -1 then q else _) = fwdU q v u (tmN pN pa s)
    rw [show oI (some u) = nI u from rfl, if_neg (nI_m1 (by omega)), nI_clamp (by omega)]
    rfl
theorem mr_fmi (hT : T ≤ 12) (hP : P ≤ 14) (hpa : pa ≤ 10) (hB : shB nN eN gN sN pN T) (hI : imB iN) (hK : K < 2 ^ T) {v : Nat} (hv : v < 2 ^ T) {q : (Nat → Int32) × (Nat → Int32)} (hs : ¬ (268435456 : Int32) ≤ q.1 v) (h : FMI (stG nN eN iN gN sN T P (-1)) (tmN pN pa) (2 ^ T) K v 0 q) : ∀ s, s ≤ 2 * P →
    FMI (stG nN eN iN gN sN T P (-1)) (tmN pN pa) (2 ^ T) K v s (mrlx (nF nN) (nF eN) (nF iN) (nF gN) (nF sN) (nF pN) T (nI pa) v q s) ∧ (mrlx (nF nN) (nF eN) (nF iN) (nF gN) (nF sN) (nF pN) T (nI pa) v q s).1 v = q.1 v
  | 0, _ => ⟨h, rfl⟩
  | s + 1, hs' => by
    obtain ⟨ih1, ih2⟩ := mr_fmi hT hP hpa hB hI hK hv hs h s (by omega)
    have hne : ¬ (268435456 : Int32) ≤ (mrlx (nF nN) (nF eN) (nF iN) (nF gN) (nF sN) (nF pN) T (nI pa) v q s).1 v := by rw [ih2]; exact hs
    have e : mrlx (nF nN) (nF eN) (nF iN) (nF gN) (nF sN) (nF pN) T (nI pa) v q (s + 1) = fwdO (mrlx (nF nN) (nF eN) (nF iN) (nF gN) (nF sN) (nF pN) T (nI pa) v q s) v (tmN pN pa s) (stG nN eN iN gN sN T P (-1) s v) := by
      rw [← fwd_N hT hpa hB hI (show s < 2 * P by omega) hv]
      exact if_neg hne
    rw [e]
    cases hj : stG nN eN iN gN sN T P (-1) s v with
    | none => exact ⟨fmi_none hj ih1, ih2⟩
    | some u =>
      obtain ⟨a1, a2⟩ := fmi_step (stG_OK hT hP hpa hB hI) hK hv hne hj ih1
      exact ⟨a1, a2.trans ih2⟩
theorem mf_fmi (hT : T ≤ 12) (hP : P ≤ 14) (hpa : pa ≤ 10) (hB : shB nN eN gN sN pN T) (hI : imB iN) (hK : K < 2 ^ T) {q : (Nat → Int32) × (Nat → Int32)} (h : FMI (stG nN eN iN gN sN T P (-1)) (tmN pN pa) (2 ^ T) K K 0 q) : ∀ i, i ≤ 2 ^ T - K →
    FMI (stG nN eN iN gN sN T P (-1)) (tmN pN pa) (2 ^ T) K (K + i) 0 (mfwF (nF nN) (nF eN) (nF iN) (nF gN) (nF sN) (nF pN) T P (nI pa) K q i)
  | 0, _ => h
  | i + 1, hi => by
    have ih := mf_fmi hT hP hpa hB hI hK h i (by omega)
    have hKi : K + i < 2 ^ T := by omega
    show FMI _ _ _ _ (K + i + 1) 0 (mrlx (nF nN) (nF eN) (nF iN) (nF gN) (nF sN) (nF pN) T (nI pa) (K + i) (mfwF (nF nN) (nF eN) (nF iN) (nF gN) (nF sN) (nF pN) T P (nI pa) K q i) (2 * P))
    by_cases hf : (268435456 : Int32) ≤ (mfwF (nF nN) (nF eN) (nF iN) (nF gN) (nF sN) (nF pN) T P (nI pa) K q i).1 (K + i)
    · rw [mrlx_stop (s := 0) hf (Nat.zero_le _)]
      exact fmi_skip (stG_OK hT hP hpa hB hI) hK hKi hf ih
    · exact fmi_next (stG_OK hT hP hpa hB hI) hK (mr_fmi hT hP hpa hB hI hK hKi hf ih (2 * P) (Nat.le_refl _)).1
theorem mf_fme (hT : T ≤ 12) (hP : P ≤ 14) (hpa : pa ≤ 10) (hB : shB nN eN gN sN pN T) (hI : imB iN) (hK : K < 2 ^ T) (co st : Nat → Int32) {q : (Nat → Int32) × (Nat → Int32)}
    (hq : q = mfwF (nF nN) (nF eN) (nF iN) (nF gN) (nF sN) (nF pN) T P (nI pa) K (m0F K co (2 ^ T), zro st (2 ^ T)) (2 ^ T - K)) : FME (stG nN eN iN gN sN T P (-1)) (tmN pN pa) (2 ^ T) K q := by
  subst hq
  have h0 : FMI (stG nN eN iN gN sN T P (-1)) (tmN pN pa) (2 ^ T) K K 0 (m0F K co (2 ^ T), zro st (2 ^ T)) := by
    refine fmi_start (stG_OK hT hP hpa hB hI) hK (fun u hu => ?_) (fun u hu => ?_)
    · show m0F K co (2 ^ T) u = _
      unfold m0F
      rw [if_pos hu]
    · show zro st (2 ^ T) u = _
      unfold zro
      rw [if_pos hu]
  have h1 := mf_fmi hT hP hpa hB hI hK h0 (2 ^ T - K) (Nat.le_refl _)
  rw [show K + (2 ^ T - K) = 2 ^ T by omega] at h1
  exact fmi_end (stG_OK hT hP hpa hB hI) hK h1
/-! the best set -/
theorem worth_b (hT : T ≤ 12) (hw : ∀ i, wN i ≤ 9) (u : Nat) : worthN wN u T ≤ 108 := by
  have := worthN_le (w := wN) (b := u) (m := 9) T (fun t _ => hw t)
  omega
theorem sub_z {a b : Nat} (ha : a < 2 ^ 30) (hb : b < 2 ^ 30) : (nI a - nI b = 0 ↔ a = b) ∧ (nI a - nI b ≤ 0 ↔ a ≤ b) := by
  have h := pk_sub_toInt ha hb
  have e0 : (0 : Int32).toInt = 0 := by decide
  constructor
  · rw [← Int32.toInt_inj, h, e0]; omega
  · rw [Int32.le_iff_toInt_le, h, e0]; omega
theorem more_N {q : (Nat → Int32) × (Nat → Int32)} {a b : Nat} {W : Nat → Nat} (ha : worthF (nF wN) (nI a) T = nI (W a)) (hb : worthF (nF wN) (nI b) T = nI (W b)) (h1 : W a ≤ 108) (h2 : W b ≤ 108) (a1 : q.1 a = nI (cNq q a)) (a2 : q.2 a = nI (sNq q a)) (a3 : cNq q a ≤ 48000) (a4 : sNq q a ≤ 12) (b1 : q.1 b = nI (cNq q b)) (b2 : q.2 b = nI (sNq q b)) (b3 : cNq q b ≤ 48000) (b4 : sNq q b ≤ 12) :
    moreM (nF wN) T q a b ≤ 0 ↔ W a < W b ∨ (W a = W b ∧ lx2 (cNq q b) (sNq q b) (cNq q a) (sNq q a)) := by
  unfold moreM lx2
  rw [ha, hb, a1, a2, b1, b2]
  obtain ⟨w1, w2⟩ := sub_z (a := W a) (b := W b) (by omega) (by omega)
  obtain ⟨c1, c2⟩ := sub_z (a := cNq q b) (b := cNq q a) (by omega) (by omega)
  obtain ⟨s1, s2⟩ := sub_z (a := sNq q b) (b := sNq q a) (by omega) (by omega)
  by_cases h : W a = W b
  · rw [if_neg (fun z => z (w1.mpr h))]
    by_cases h' : cNq q b = cNq q a
    · rw [if_neg (fun z => z (c1.mpr h')), s2]
      omega
    · rw [if_pos (fun z => h' (c1.mp z)), c2]
      omega
  · rw [if_pos (fun z => h (w1.mp z)), w2]
    omega
theorem bst_N (hT : T ≤ 12) (hP : P ≤ 14) (hpa : pa ≤ 10) (hB : shB nN eN gN sN pN T) (hI : imB iN) (hK : K < 2 ^ T) (hw : ∀ i, wN i ≤ 9) {q : (Nat → Int32) × (Nat → Int32)} (hF : FME (stG nN eN iN gN sN T P (-1)) (tmN pN pa) (2 ^ T) K q) {m : Nat} (hm : m ≤ 10000) : ∀ i, i ≤ 2 ^ T →
    (∃ ds, runG (stG nN eN iN gN sN T P (-1)) ds K = some (bstF (nF wN) T q K (nI m) i)) ∧ cNq q (bstF (nF wN) T q K (nI m) i) ≤ m ∧ ∀ u, u < i → (∃ ds, runG (stG nN eN iN gN sN T P (-1)) ds K = some u) → cNq q u ≤ m → worthN wN u T < worthN wN (bstF (nF wN) T q K (nI m) i) T ∨ (worthN wN u T = worthN wN (bstF (nF wN) T q K (nI m) i) T ∧ lx2 (cNq q (bstF (nF wN) T q K (nI m) i)) (sNq q (bstF (nF wN) T q K (nI m) i)) (cNq q u) (sNq q u))
  | 0, _ => ⟨⟨[], rfl⟩, by show cNq q K ≤ m; rw [(cK0 (stG_OK hT hP hpa hB hI) hK hF).1]; exact Nat.zero_le _, fun u hu => absurd hu (Nat.not_lt_zero _)⟩
  | i + 1, hi => by
    obtain ⟨⟨db, ib⟩, ic, iu⟩ := bst_N hT hP hpa hB hI hK hw hF hm i (by omega)
    have hG := stG_OK (wt := (-1)) hT hP hpa hB hI
    have hlt : ∀ u, u < i + 1 → u < i ∨ u = i := fun u hu => by omega
    generalize hb : bstF (nF wN) T q K (nI m) i = b at ib ic iu
    have hbN := (run_facts hG db K b hK ib).1
    obtain ⟨b1, b2, b3, b4, _, _⟩ := fme_at hG hK hF ib
    have hstep : bstF (nF wN) T q K (nI m) (i + 1) = if q.1 i ≤ nI m then (if moreM (nF wN) T q i b ≤ 0 then b else i) else b := by rw [← hb]; rfl
    rw [hstep]
    by_cases hr : ∃ ds, runG (stG nN eN iN gN sN T P (-1)) ds K = some i
    · obtain ⟨di, hdi⟩ := hr
      obtain ⟨a1, a2, a3, a4, _, _⟩ := fme_at hG hK hF hdi
      have hmore := more_N (wN := wN) (T := T) (q := q) (a := i) (b := b) (W := fun u => worthN wN u T) (worthF_N (kp31 hT (by omega)) T (by omega)) (worthF_N (kp31 hT hbN) T (by omega)) (worth_b hT hw i) (worth_b hT hw b) a1 a2 a3 a4 b1 b2 b3 b4
      have hle : q.1 i ≤ nI m ↔ cNq q i ≤ m := by rw [a1, nI_leI (by omega) (by omega)]
      by_cases h1 : cNq q i ≤ m
      · rw [if_pos (hle.mpr h1)]
        by_cases h2 : moreM (nF wN) T q i b ≤ 0
        · rw [if_pos h2]
          refine ⟨⟨db, ib⟩, ic, fun u hu hru hcu => ?_⟩
          rcases hlt u hu with z | z
          · exact iu u z hru hcu
          · subst z; exact hmore.mp h2
        · rw [if_neg h2]
          refine ⟨⟨di, hdi⟩, h1, fun u hu hru hcu => ?_⟩
          have h3 : ¬ (worthN wN i T < worthN wN b T ∨ (worthN wN i T = worthN wN b T ∧ lx2 (cNq q b) (sNq q b) (cNq q i) (sNq q i))) := fun z => h2 (hmore.mpr z)
          rcases hlt u hu with z | z
          · have h4 := iu u z hru hcu
            unfold lx2 at h3 h4 ⊢
            omega
          · subst z
            exact Or.inr ⟨rfl, Or.inr ⟨rfl, Nat.le_refl _⟩⟩
      · rw [if_neg (fun z => h1 (hle.mp z))]
        refine ⟨⟨db, ib⟩, ic, fun u hu hru hcu => ?_⟩
        rcases hlt u hu with z | z
        · exact iu u z hru hcu
        · subst z; exact absurd hcu h1
    · have hfar : q.1 i = 268435456 := by
        rcases hF i (by omega) with ⟨z, _⟩ | ⟨ds, z, _⟩
        · exact z
        · exact absurd ⟨ds, z⟩ hr
      rw [if_neg (by rw [hfar, kFAR, nI_leI (by decide) (by omega)]; omega)]
      refine ⟨⟨db, ib⟩, ic, fun u hu hru hcu => ?_⟩
      rcases hlt u hu with z | z
      · exact iu u z hru hcu
      · subst z; exact absurd hru hr
theorem bst_M (hT : T ≤ 12) (hP : P ≤ 14) (hpa : pa ≤ 10) (hB : shB nN eN gN sN pN T) (hI : imB iN) (hK : K < 2 ^ T) (hw : ∀ i, wN i ≤ 9) {q : (Nat → Int32) × (Nat → Int32)} (hF : FME (stG nN eN iN gN sN T P (-1)) (tmN pN pa) (2 ^ T) K q) {m : Nat} (hm : m ≤ 10000) :
    bstM (stG nN eN iN gN sN T P (-1)) (tmN pN pa) (fun u => worthN wN u T) K m q (bstF (nF wN) T q K (nI m) (2 ^ T)) := by
  obtain ⟨h1, h2, h3⟩ := bst_N hT hP hpa hB hI hK hw hF hm (2 ^ T) (Nat.le_refl _)
  have hG := stG_OK (wt := (-1)) hT hP hpa hB hI
  refine ⟨h1, h2, fun u ds hr ht => ?_⟩
  have hu := (run_facts hG ds K u hK hr).1
  obtain ⟨_, _, _, _, _, a6⟩ := fme_at hG hK hF hr
  have a7 := a6 ds hr
  have h4 := h3 u hu ⟨ds, hr⟩ (by unfold lx2 at a7; omega)
  rcases h4 with z | ⟨z, z2⟩
  · exact Or.inl z
  · refine Or.inr ⟨z, ?_⟩
    unfold lx2 at a7 z2 ⊢
    omega
/-! the good sets -/
theorem gdB_N (hT : T ≤ 12) (hw : ∀ i, wN i ≤ 9) {q : (Nat → Int32) × (Nat → Int32)} {b v : Nat} (hv : v < 2 ^ T) (hb : b < 2 ^ T) (a1 : q.1 v = nI (cNq q v)) (a2 : q.2 v = nI (sNq q v)) (a3 : cNq q v ≤ 48000) (a4 : sNq q v ≤ 12) (b1 : q.1 b = nI (cNq q b)) (b2 : q.2 b = nI (sNq q b)) (b3 : cNq q b ≤ 48000) (b4 : sNq q b ≤ 12) :
    gdB (nF wN) T q b v = true ↔ cNq q v = cNq q b ∧ sNq q v = sNq q b ∧ worthN wN v T = worthN wN b T := by
  have w1 := worth_b hT hw v
  have w2 := worth_b hT hw b
  unfold gdB
  rw [worthF_N (kp31 hT hv) T (by omega), worthF_N (kp31 hT hb) T (by omega), a1, a2, b1, b2, Bool.and_eq_true, Bool.and_eq_true, decide_eq_true_iff, decide_eq_true_iff, decide_eq_true_iff, nI_eq (by omega) (by omega), nI_eq (by omega) (by omega), nI_eq (by omega) (by omega), and_assoc]
theorem gdT_N (hT : T ≤ 12) (hP : P ≤ 14) (hpa : pa ≤ 10) (hB : shB nN eN gN sN pN T) (hI : imB iN) (hK : K < 2 ^ T) {q : (Nat → Int32) × (Nat → Int32)} (hF : FME (stG nN eN iN gN sN T P (-1)) (tmN pN pa) (2 ^ T) K q) (go : Nat → Int32) {v k : Nat} (hk : k < 2 * P) (hr : ∃ ds, runG (stG nN eN iN gN sN T P (-1)) ds K = some v) :
    gdT (nF nN) (nF eN) (nF iN) (nF gN) (nF sN) (nF pN) T (nI pa) q go v k = true ↔ ∃ u, stG nN eN iN gN sN T P (-1) k v = some u ∧ ¬ go u = 0 ∧ cNq q v + tmN pN pa k = cNq q u ∧ sNq q v + 1 = sNq q u := by
  obtain ⟨ds, hds⟩ := hr
  have hG := stG_OK (wt := (-1)) hT hP hpa hB hI
  have hv := (run_facts hG ds K v hK hds).1
  have hp := kpow hT
  obtain ⟨a1, a2, a3, a4, _, _⟩ := fme_at hG hK hF hds
  unfold gdT
  rw [nbF_N hT hB hI hk hv]
  cases h : stG nN eN iN gN sN T P (-1) k v with
  | none =>
    rw [if_pos (show oI none = -1 from rfl)]
    exact ⟨fun z => (by cases z), fun ⟨u, z, _⟩ => (by cases z)⟩
  | some u =>
    obtain ⟨c1, c2, c3, c4⟩ := hG.2.2.2.2 k v u hv h
    obtain ⟨b1, b2, b3, b4, _, _⟩ := fme_at hG hK hF (run_snoc_of hds h)
    have t1 := tmN_le hB hpa k
    rw [show oI (some u) = nI u from rfl, if_neg (nI_m1 (by omega)), nI_clamp (by omega)]
    by_cases h2 : go u = 0
    · rw [if_pos h2]
      exact ⟨fun z => (by cases z), fun ⟨u', z, z2, _⟩ => by cases z; exact absurd h2 z2⟩
    · rw [if_neg h2]
      unfold tightB
      rw [mtime_N hB hpa, a1, a2, b1, b2, Bool.and_eq_true, decide_eq_true_iff, decide_eq_true_iff, nI_add, nI_1, nI_eq (by omega) (by omega), nI_eq (by omega) (by omega)]
      constructor
      · rintro ⟨z1, z2⟩; exact ⟨u, rfl, h2, z1, z2⟩
      · rintro ⟨u', z, _, z1, z2⟩; cases z; exact ⟨z1, z2⟩
theorem k01_0 (b : Bool) : ¬ k01 b = 0 ↔ b = true := by cases b <;> simp [k01]
theorem gdS_N (hT : T ≤ 12) (hP : P ≤ 14) (hpa : pa ≤ 10) (hB : shB nN eN gN sN pN T) (hI : imB iN) (hK : K < 2 ^ T) {q : (Nat → Int32) × (Nat → Int32)} (hF : FME (stG nN eN iN gN sN T P (-1)) (tmN pN pa) (2 ^ T) K q) (g0 : Nat → Int32) {v : Nat} (hr : ∃ ds, runG (stG nN eN iN gN sN T P (-1)) ds K = some v) : ∀ s, s ≤ 2 * P →
    (∀ x, x ≠ v → gdS (nF nN) (nF eN) (nF iN) (nF gN) (nF sN) (nF pN) T (nI pa) q v g0 s x = g0 x) ∧ (¬ gdS (nF nN) (nF eN) (nF iN) (nF gN) (nF sN) (nF pN) T (nI pa) q v g0 s v = 0 ↔ (¬ g0 v = 0 ∨ ∃ k, k < s ∧ ∃ u, stG nN eN iN gN sN T P (-1) k v = some u ∧ ¬ g0 u = 0 ∧ cNq q v + tmN pN pa k = cNq q u ∧ sNq q v + 1 = sNq q u))
  | 0, _ => ⟨fun _ _ => rfl, ⟨fun h => Or.inl h, fun h => by
      rcases h with h | ⟨k, h, _⟩
      · exact h
      · exact absurd h (Nat.not_lt_zero _)⟩⟩
  | s + 1, hs => by
    obtain ⟨ih1, ih2⟩ := gdS_N hT hP hpa hB hI hK hF g0 hr s (by omega)
    have hG := stG_OK (wt := (-1)) hT hP hpa hB hI
    obtain ⟨ds, hds⟩ := hr
    have hv := (run_facts hG ds K v hK hds).1
    obtain ⟨a1, a2, a3, a4, _, _⟩ := fme_at hG hK hF hds
    have hfar : ¬ (268435456 : Int32) ≤ q.1 v := by rw [a1, kFAR, nI_leI (by decide) (by omega)]; omega
    have hup : (∃ k, k < s ∧ ∃ u, stG nN eN iN gN sN T P (-1) k v = some u ∧ ¬ g0 u = 0 ∧ cNq q v + tmN pN pa k = cNq q u ∧ sNq q v + 1 = sNq q u) → ∃ k, k < s + 1 ∧ ∃ u, stG nN eN iN gN sN T P (-1) k v = some u ∧ ¬ g0 u = 0 ∧ cNq q v + tmN pN pa k = cNq q u ∧ sNq q v + 1 = sNq q u := fun ⟨k, z1, z2⟩ => ⟨k, by omega, z2⟩
    generalize hg : gdS (nF nN) (nF eN) (nF iN) (nF gN) (nF sN) (nF pN) T (nI pa) q v g0 s = g at ih1 ih2
    have hstep : gdS (nF nN) (nF eN) (nF iN) (nF gN) (nF sN) (nF pN) T (nI pa) q v g0 (s + 1) = if ¬ g v = 0 then g else upd g v (k01 (gdT (nF nN) (nF eN) (nF iN) (nF gN) (nF sN) (nF pN) T (nI pa) q g v s)) := by
      rw [← hg]
      exact if_neg hfar
    rw [hstep]
    by_cases h1 : ¬ g v = 0
    · rw [if_pos h1]
      refine ⟨ih1, ⟨fun _ => ?_, fun _ => h1⟩⟩
      rcases ih2.mp h1 with z | z
      · exact Or.inl z
      · exact Or.inr (hup z)
    · rw [if_neg h1]
      have hT' := gdT_N hT hP hpa hB hI hK hF g (show s < 2 * P by omega) ⟨ds, hds⟩
      refine ⟨fun x hx => (upd_n hx).trans (ih1 x hx), ?_⟩
      rw [upd_s, k01_0, hT']
      have hgu : ∀ u, stG nN eN iN gN sN T P (-1) s v = some u → g u = g0 u := fun u hu => by
        have := (hG.2.2.2.2 s v u hv hu).2.1
        exact ih1 u (by omega)
      constructor
      · rintro ⟨u, z1, z2, z3, z4⟩
        exact Or.inr ⟨s, by omega, u, z1, by rw [← hgu u z1]; exact z2, z3, z4⟩
      · rintro (z | ⟨k, z0, u, z1, z2, z3, z4⟩)
        · exact absurd (ih2.mpr (Or.inl z)) h1
        · rcases Nat.lt_or_ge k s with y | y
          · exact absurd (ih2.mpr (Or.inr ⟨k, y, u, z1, z2, z3, z4⟩)) h1
          · have e : k = s := by omega
            subst e
            exact ⟨u, z1, by rw [hgu u z1]; exact z2, z3, z4⟩
theorem gdF_N (hT : T ≤ 12) (hP : P ≤ 14) (hpa : pa ≤ 10) (hB : shB nN eN gN sN pN T) (hI : imB iN) (hK : K < 2 ^ T) (hw : ∀ i, wN i ≤ 9) {q : (Nat → Int32) × (Nat → Int32)} (hF : FME (stG nN eN iN gN sN T P (-1)) (tmN pN pa) (2 ^ T) K q) (go : Nat → Int32) {b : Nat} (hb : ∃ ds, runG (stG nN eN iN gN sN T P (-1)) ds K = some b) : ∀ k, k ≤ 2 ^ T → ∀ x, x < 2 ^ T → 2 ^ T ≤ x + k → (∃ ds, runG (stG nN eN iN gN sN T P (-1)) ds K = some x) →
    (¬ gdF (nF nN) (nF eN) (nF iN) (nF gN) (nF sN) (nF pN) (nF wN) T P (nI pa) q b go k x = 0 ↔ ∃ es, tgtM (stG nN eN iN gN sN T P (-1)) (tmN pN pa) (fun u => worthN wN u T) K q b es x)
  | 0, _, x, hx, h, _ => absurd h (by omega)
  | k + 1, hk, x, hx, h, hr => by
    have ih := gdF_N hT hP hpa hB hI hK hw hF go hb k (by omega)
    have hG := stG_OK (wt := (-1)) hT hP hpa hB hI
    obtain ⟨v, hv⟩ : ∃ v, v = 2 ^ T - 1 - k := ⟨_, rfl⟩
    generalize hg : gdF (nF nN) (nF eN) (nF iN) (nF gN) (nF sN) (nF pN) (nF wN) T P (nI pa) q b go k = g at ih
    have hstep : gdF (nF nN) (nF eN) (nF iN) (nF gN) (nF sN) (nF pN) (nF wN) T P (nI pa) q b go (k + 1) = gdS (nF nN) (nF eN) (nF iN) (nF gN) (nF sN) (nF pN) T (nI pa) q v (upd g v (k01 (gdB (nF wN) T q b v))) (2 * P) := by
      rw [← hg, hv]; rfl
    rw [hstep]
    by_cases hxv : x = v
    · subst hxv
      obtain ⟨_, h2⟩ := gdS_N hT hP hpa hB hI hK hF (upd g x (k01 (gdB (nF wN) T q b x))) hr (2 * P) (Nat.le_refl _)
      rw [h2, upd_s, k01_0]
      obtain ⟨ds, hds⟩ := hr
      obtain ⟨db, hdb⟩ := hb
      obtain ⟨a1, a2, a3, a4, _, _⟩ := fme_at hG hK hF hds
      obtain ⟨b1, b2, b3, b4, _, _⟩ := fme_at hG hK hF hdb
      rw [gdB_N hT hw hx (run_facts hG db K b hK hdb).1 a1 a2 a3 a4 b1 b2 b3 b4]
      constructor
      · rintro (z | ⟨k', z0, u, z1, z2, z3, z4⟩)
        · exact ⟨[], ⟨ds, hds⟩, z⟩
        · obtain ⟨c1, c2, c3, c4⟩ := hG.2.2.2.2 k' x u hx z1
          rw [upd_n (by omega)] at z2
          obtain ⟨es, z5⟩ := (ih u c3 (by omega) ⟨ds ++ [k'], run_snoc_of hds z1⟩).mp z2
          exact ⟨k' :: es, u, z1, z3, z4, z5⟩
      · rintro ⟨es, z⟩
        cases es with
        | nil => exact Or.inl z.2
        | cons k' es =>
          obtain ⟨u, z1, z3, z4, z5⟩ := z
          obtain ⟨c1, c2, c3, c4⟩ := hG.2.2.2.2 k' x u hx z1
          refine Or.inr ⟨k', c1, u, z1, ?_, z3, z4⟩
          rw [upd_n (by omega)]
          exact (ih u c3 (by omega) ⟨ds ++ [k'], run_snoc_of hds z1⟩).mpr ⟨es, z5⟩
    · have hxv2 : v < x := by omega
      by_cases hrv : ∃ ds, runG (stG nN eN iN gN sN T P (-1)) ds K = some v
      · obtain ⟨h1, _⟩ := gdS_N hT hP hpa hB hI hK hF (upd g v (k01 (gdB (nF wN) T q b v))) hrv (2 * P) (Nat.le_refl _)
        rw [h1 x hxv, upd_n hxv]
        exact ih x hx (by omega) hr
      · have hfar : q.1 v = 268435456 := by
          rcases hF v (by omega) with ⟨z, _⟩ | ⟨ds, z, _⟩
          · exact z
          · exact absurd ⟨ds, z⟩ hrv
        rw [gdS_stop (s := 0) (Or.inl (by rw [hfar]; exact Int32.le_refl _)) (Nat.zero_le _)]
        show ¬ upd g v _ x = 0 ↔ _
        rw [upd_n hxv]
        exact ih x hx (by omega) hr
end PMOSTB
