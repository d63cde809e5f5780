/-! ===== the pure part: the reference's row, and that both ways are one ===== -/
def oRow (G : Nat → Nat → Option Nat) (t : Nat → Nat) (w v : Nat) (ds : List Nat) : Prop := bRow G w v ds ∧ ∀ es, bRow G w v es → vle t ds es
def pW (G : Nat → Nat → Option Nat) (t : Nat → Nat) (q : (Nat → Int32) × (Nat → Int32)) (v k : Nat) : Bool := match G k v with
  | none => false
  | some u => if (268435456 : Int32) ≤ q.1 u then false else decide (nI (t k) + q.1 u = q.1 v) && decide (1 + q.2 u = q.2 v)
def trD (kF nx : Nat → Nat) : Nat → Nat → List Nat
  | 0, _ => []
  | n + 1, v => kF v :: trD kF nx n (nx v)
theorem fst_spec (p : Nat → Bool) : ∀ f k, (∃ k0, k ≤ k0 ∧ k0 < k + f ∧ p k0 = true) → p (fstF p f k) = true ∧ k ≤ fstF p f k ∧ fstF p f k < k + f ∧ ∀ j, k ≤ j → j < fstF p f k → p j = false
  | 0, k, ⟨k0, h1, h2, _⟩ => absurd h2 (by omega)
  | f + 1, k, ⟨k0, h1, h2, h3⟩ => by
    unfold fstF
    by_cases h : p k = true
    · rw [if_pos h]
      exact ⟨h, Nat.le_refl _, by omega, fun j a b => absurd b (by omega)⟩
    · rw [if_neg h]
      have hne : k0 ≠ k := fun e => h (e ▸ h3)
      obtain ⟨a1, a2, a3, a4⟩ := fst_spec p f (k + 1) ⟨k0, by omega, by omega, h3⟩
      refine ⟨a1, by omega, by omega, fun j b1 b2 => ?_⟩
      rcases Nat.lt_or_ge k j with c | c
      · exact a4 j c b2
      · have e : j = k := by omega
        subst e
        cases hq : p j with
        | true => exact absurd hq h
        | false => rfl
theorem codA_ge : ∀ (ds : List Nat) (a : Nat), a * 32 ^ ds.length ≤ codA ds a
  | [], a => by show a * 1 ≤ a; omega
  | d :: ds, a => by
    have ih := codA_ge ds (a * 32 + d)
    show a * 32 ^ (ds.length + 1) ≤ codA ds (a * 32 + d)
    have h1 : a * 32 ^ (ds.length + 1) = a * 32 * 32 ^ ds.length := by rw [Nat.pow_succ, Nat.mul_comm (32 ^ ds.length) 32, ← Nat.mul_assoc]
    have h2 : a * 32 * 32 ^ ds.length ≤ (a * 32 + d) * 32 ^ ds.length := Nat.mul_le_mul_right _ (by omega)
    omega
section PTRACE
variable {G : Nat → Nat → Option Nat} {M N : Nat} {t rk : Nat → Nat} {w : Nat} {q : (Nat → Int32) × (Nat → Int32)}
theorem orow_eq {v : Nat} {ds es : List Nat} (h1 : oRow G t w v ds) (h2 : oRow G t w v es) : tmS t ds = tmS t es ∧ ds.length = es.length := by
  have a := h1.2 es h2.1
  have b := h2.2 ds h1.1
  unfold vle at a b
  omega
theorem orow_of {v : Nat} {ds es : List Nat} (h1 : oRow G t w v ds) (h2 : bRow G w v es) (e1 : tmS t es = tmS t ds) (e2 : es.length = ds.length) : oRow G t w v es := by
  refine ⟨h2, fun fs hf => ?_⟩
  have a := h1.2 fs hf
  unfold vle at a ⊢
  omega
theorem bok_E (hG : gOK G M N t rk) {v : Nat} (hv : v < N) (h : bOK G t w q v) {ds : List Nat} (ho : oRow G t w v ds) : bE t q v ds := by
  rcases h with ⟨_, _, c3⟩ | ⟨es, c1, c2, c3⟩
  · exact absurd ho.1 (c3 ds)
  · obtain ⟨e1, e2⟩ := orow_eq ho ⟨c1, c3⟩
    unfold bE at c2 ⊢
    rw [e1, e2]; exact c2
theorem pw_A (hG : gOK G M N t rk) (hall : ∀ x, x < N → bOK G t w q x) {v k : Nat} {es : List Nat} (hv : v < N) (ho : oRow G t w v (k :: es)) : ∃ u, G k v = some u ∧ u < N ∧ k < M ∧ oRow G t w u es ∧ pW G t q v k = true := by
  obtain ⟨u, h1, h2⟩ := brow_cons ho.1
  obtain ⟨a1, a2, a3, a4⟩ := hG.2.2.2.2 k v u hv h1
  have hu := hall u a3
  obtain ⟨du, c1, c2, c3⟩ : ∃ du, bRow G w u du ∧ bE t q u du ∧ ∀ es, bRow G w u es → vle t du es := by
    rcases hu with ⟨_, _, c3⟩ | c
    · exact absurd h2 (c3 es)
    · exact c
  have b1 := c3 es h2
  have b2 := ho.2 (k :: du) (brow_mk h1 c1)
  have b3 : tmS t es = tmS t du ∧ es.length = du.length := by
    unfold vle at b1 b2
    have e1 : tmS t (k :: es) = t k + tmS t es := rfl
    have e2 : tmS t (k :: du) = t k + tmS t du := rfl
    have e3 : (k :: es).length = es.length + 1 := rfl
    have e4 : (k :: du).length = du.length + 1 := rfl
    omega
  refine ⟨u, h1, a3, a1, orow_of ⟨c1, c3⟩ h2 b3.1 b3.2, ?_⟩
  obtain ⟨s1, s2⟩ := brow_small hG a3 c1
  have hE := bok_E hG hv (hall v hv) ho
  unfold pW
  rw [h1]
  show (if (268435456 : Int32) ≤ q.1 u then false else decide (nI (t k) + q.1 u = q.1 v) && decide (1 + q.2 u = q.2 v)) = true
  rw [c2.1, c2.2, hE.1, hE.2, if_neg (by rw [kFAR, nI_leI (by decide) (by omega)]; omega), Bool.and_eq_true, decide_eq_true_iff, decide_eq_true_iff, nI_add, show (1 : Int32) = nI 1 from rfl, nI_add]
  constructor
  · show nI (t k + tmS t du) = nI (t k + tmS t es)
    rw [b3.1]
  · show nI (1 + du.length) = nI (es.length + 1)
    rw [b3.2, Nat.add_comm]
theorem pw_B (hG : gOK G M N t rk) (hall : ∀ x, x < N → bOK G t w q x) {v k : Nat} (hv : v < N) (h : pW G t q v k = true) : ∃ u es, G k v = some u ∧ u < N ∧ oRow G t w u es ∧ oRow G t w v (k :: es) := by
  unfold pW at h
  cases h1 : G k v with
  | none => rw [h1] at h; cases h
  | some u =>
    rw [h1] at h
    have h : (if (268435456 : Int32) ≤ q.1 u then false else decide (nI (t k) + q.1 u = q.1 v) && decide (1 + q.2 u = q.2 v)) = true := h
    obtain ⟨a1, a2, a3, a4⟩ := hG.2.2.2.2 k v u hv h1
    split at h
    · cases h
    · rename_i hF
      rw [Bool.and_eq_true, decide_eq_true_iff, decide_eq_true_iff] at h
      rcases hall u a3 with ⟨c1, _, _⟩ | ⟨du, c1, c2, c3⟩
      · exact absurd (by rw [c1, kFAR, nI_leI (by decide) (by decide)]; omega) hF
      · obtain ⟨s1, s2⟩ := brow_small hG a3 c1
        have s3 := hG.2.2.1 k
        refine ⟨u, du, rfl, a3, ⟨c1, c3⟩, ?_⟩
        rw [c2.1, c2.2, nI_add, show (1 : Int32) = nI 1 from rfl, nI_add] at h
        rcases hall v hv with ⟨d1, _, _⟩ | ⟨dv, d1, d2, d3⟩
        · rw [d1, kFAR, nI_eq (by omega) (by decide)] at h
          omega
        · obtain ⟨r1, r2⟩ := brow_small hG hv d1
          rw [d2.1, d2.2, nI_eq (by omega) (by omega), nI_eq (by omega) (by omega)] at h
          refine orow_of ⟨d1, d3⟩ (brow_mk h1 c1) h.1 ?_
          show du.length + 1 = dv.length
          omega
/-- the row that always takes the least step that is right -/
theorem trace_opt (hG : gOK G M N t rk) (hall : ∀ x, x < N → bOK G t w q x) {kF nx : Nat → Nat} (hkF : ∀ v, v < N → (∃ k, k < M ∧ pW G t q v k = true) → pW G t q v (kF v) = true ∧ kF v < M ∧ (∀ j, j < kF v → pW G t q v j = false) ∧ ∀ u, G (kF v) v = some u → nx v = u) : ∀ n v ds, v < N → oRow G t w v ds → ds.length = n →
    oRow G t w v (trD kF nx n v) ∧ (trD kF nx n v).length = n ∧ ∀ es, oRow G t w v es → ∀ a, codA (trD kF nx n v) a ≤ codA es a
  | 0, v, ds, hv, ho, hl => by
    have hd : ds = [] := List.eq_nil_of_length_eq_zero hl
    subst hd
    refine ⟨ho, rfl, fun es he a => ?_⟩
    have h2 := (orow_eq ho he).2
    have he : es = [] := List.eq_nil_of_length_eq_zero h2.symm
    subst he
    exact Nat.le_refl _
  | n + 1, v, ds, hv, ho, hl => by
    cases ds with
    | nil => cases hl
    | cons k0 ds' =>
      obtain ⟨u0, _, _, b1, _, b2⟩ := pw_A hG hall hv ho
      obtain ⟨p1, p2, p3, p4⟩ := hkF v hv ⟨k0, b1, b2⟩
      obtain ⟨u, es, c1, c2, c3, c4⟩ := pw_B hG hall hv p1
      have hle : es.length = n := by
        have := (orow_eq ho c4).2
        rw [hl] at this
        have e3 : (kF v :: es).length = es.length + 1 := rfl
        omega
      have hnx : nx v = u := p4 u c1
      obtain ⟨i1, i2, i3⟩ := trace_opt hG hall hkF n u es c2 c3 hle
      have e1 := orow_eq i1 c3
      have hd : trD kF nx (n + 1) v = kF v :: trD kF nx n u := by rw [← hnx]; rfl
      rw [hd]
      refine ⟨orow_of c4 (brow_mk c1 i1.1) ?_ ?_, ?_, fun fs hf a => ?_⟩
      · show t (kF v) + tmS t (trD kF nx n u) = t (kF v) + tmS t es
        rw [e1.1]
      · show (trD kF nx n u).length + 1 = es.length + 1
        rw [e1.2]
      · show (trD kF nx n u).length + 1 = n + 1
        rw [i2]
      · have hfl : fs.length = n + 1 := by rw [← hl]; exact ((orow_eq ho hf).2).symm
        cases fs with
        | nil => cases hfl
        | cons k2 fs' =>
          obtain ⟨u2, g1, g2, g3, g4, g5⟩ := pw_A hG hall hv hf
          have hk : kF v ≤ k2 := by
            rcases Nat.lt_or_ge k2 (kF v) with x | x
            · have := p3 k2 x
              rw [g5] at this; cases this
            · exact x
          show codA (trD kF nx n u) (a * 32 + kF v) ≤ codA fs' (a * 32 + k2)
          rcases Nat.lt_or_ge (kF v) k2 with x | x
          · have hsm : ∀ d ∈ trD kF nx n u, d < 32 := by
              obtain ⟨y, r1, _⟩ := i1.1
              intro d hd
              have := (run_facts hG _ u y c2 r1).2.2.2 d hd
              have := hG.2.1
              omega
            have y1 := codA_lt (trD kF nx n u) (a * 32 + kF v) hsm
            have y2 := codA_ge fs' (a * 32 + k2)
            have hfl' : fs'.length = n := by
              have e3 : (k2 :: fs').length = fs'.length + 1 := rfl
              omega
            rw [i2] at y1
            rw [hfl'] at y2
            have y3 : (a * 32 + kF v + 1) * 32 ^ n ≤ (a * 32 + k2) * 32 ^ n := Nat.mul_le_mul_right _ (by omega)
            omega
          · have e : k2 = kF v := by omega
            subst e
            rw [c1] at g1
            cases g1
            exact i3 fs' g4 _
/-- the least of the shortest rows is the best way -/
theorem orow_best (hG : gOK G M N t rk) {K : Nat} (hK : K < N) {ds : List Nat} (ho : oRow G t w K ds) (hc : ∀ es, oRow G t w K es → codA ds 0 ≤ codA es 0) : wBst G t K w ds := by
  refine ⟨ho.1, fun es x hr hx => ?_⟩
  have hb : bRow G w K es := ⟨x, hr, hx⟩
  obtain ⟨s1, s2⟩ := brow_small hG hK ho.1
  obtain ⟨r1, r2⟩ := brow_small hG hK hb
  have h1 := ho.2 es hb
  unfold rle cst
  unfold vle at h1
  rcases Classical.em (tmS t ds = tmS t es ∧ ds.length = es.length) with h2 | h2
  · have h3 := hc es (orow_of ho hb h2.1.symm h2.2.symm)
    right
    exact ⟨by omega, h3⟩
  · left
    omega
theorem best_row (hG : gOK G M N t rk) {K : Nat} (hK : K < N) {ds : List Nat} (h : wBst G t K w ds) : oRow G t w K ds := by
  refine ⟨h.1, fun es hr => ?_⟩
  obtain ⟨x, h1, h2⟩ := hr
  have h3 := h.2 es x h1 h2
  obtain ⟨s1, s2⟩ := brow_small hG hK h.1
  obtain ⟨r1, r2⟩ := brow_small hG hK (show bRow G w K es from ⟨x, h1, h2⟩)
  unfold rle cst at h3
  unfold vle
  omega
/-- two best ways are one -/
theorem best_one (hG : gOK G M N t rk) {K : Nat} (hK : K < N) {ds es : List Nat} (h1 : wBst G t K w ds) (h2 : wBst G t K w es) : tmS t ds = tmS t es ∧ ds.length = es.length ∧ codA ds 0 = codA es 0 := by
  obtain ⟨u, a1, a2⟩ := h1.1
  obtain ⟨x, b1, b2⟩ := h2.1
  have c1 := h1.2 es x b1 b2
  have c2 := h2.2 ds u a1 a2
  have e := orow_eq (best_row hG hK h1) (best_row hG hK h2)
  refine ⟨e.1, e.2, ?_⟩
  unfold rle at c1 c2
  omega
end PTRACE
theorem codA_eq {ds es : List Nat} (h1 : ∀ k ∈ ds, k < 32) (h2 : ∀ k ∈ es, k < 32) (hl : ds.length = es.length) (hc : codA ds 0 = codA es 0) {j : Nat} (hj : j < ds.length) : ds.getD j 0 = es.getD j 0 := by
  rw [← codA_at ds 0 j h1 hj, ← codA_at es 0 j h2 (by omega), hc, hl]
theorem trD_at (kF nx : Nat → Nat) (tv : Nat → Nat → Nat) (h0 : ∀ v, tv v 0 = v) (h1 : ∀ v n, tv v (n + 1) = nx (tv v n)) : ∀ n v j, j < n → (trD kF nx n v).getD j 0 = kF (tv v j)
  | 0, _, _, h => absurd h (Nat.not_lt_zero _)
  | n + 1, v, 0, _ => by show kF v = _; rw [h0]
  | n + 1, v, j + 1, h => by
    have ih := trD_at kF nx tv h0 h1 n (nx v) j (by omega)
    have hs : ∀ j, tv (nx v) j = tv v (j + 1) := by
      intro j
      induction j with
      | zero => rw [h0, h1, h0]
      | succ j ihj => rw [h1, ihj, h1 v (j + 1)]
    show (trD kF nx n (nx v)).getD j 0 = _
    rw [ih, hs]
