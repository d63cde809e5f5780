/-! ===== the pure part: what the class reads out of its search ===== -/
/-- the best way to a wish -/
def wBst (G : Nat → Nat → Option Nat) (t : Nat → Nat) (K w : Nat) (ds : List Nat) : Prop := (∃ u, runG G ds K = some u ∧ u &&& w = w) ∧ ∀ es x, runG G es K = some x → x &&& w = w → rle t ds es
/-- the row with the most worth in m minutes -/
def mBst (G : Nat → Nat → Option Nat) (t W : Nat → Nat) (K m : Nat) (ds : List Nat) (u : Nat) : Prop := runG G ds K = some u ∧ tmS t ds ≤ m ∧ ∀ es x, runG G es K = some x → tmS t es ≤ m → W x < W u ∨ (W x = W u ∧ rle t ds es)
section PEND
variable {G : Nat → Nat → Option Nat} {M N K : Nat} {t rk : Nat → Nat} {f : Nat → Int32} {g : Nat → Int64}
theorem eH_same (hG : gOK G M N t rk) (hK : K < N) {u : Nat} {ds es : List Nat} (h1 : runG G ds K = some u) (h2 : runG G es K = some u) (e1 : eH t f g u ds) (e2 : eH t f g u es) : rle t ds es := by
  obtain ⟨a1, a2, a3, a4, a5⟩ := run_small hG hK h1
  obtain ⟨b1, b2, b3, b4, b5⟩ := run_small hG hK h2
  have h5 : cst t ds = cst t es := (nI_eq (by omega) (by omega)).mp (e1.1.symm.trans e2.1)
  have h8 := congrArg Int64.toInt (e1.2.symm.trans e2.2)
  rw [pf_lI (by omega), pf_lI (by omega)] at h8
  refine Or.inr ⟨h5, ?_⟩
  omega
theorem bet_N (hG : gOK G M N t rk) (hK : K < N) {i e : Nat} {ds es : List Nat} (h1 : runG G ds K = some e) (h2 : runG G es K = some i) (e1 : eH t f g e ds) (e2 : eH t f g i es) (he : e < N) : betB f g i (nI e) = true ↔ ¬ rle t ds es := by
  obtain ⟨a1, a2, a3, a4, a5⟩ := run_small hG hK h1
  obtain ⟨b1, b2, b3, b4, b5⟩ := run_small hG hK h2
  have hN := hG.1
  unfold betB
  rw [if_neg (nI_m1 (by omega)), nI_clamp (by omega), e2.1, e2.2, befB_N e1.1 e1.2 (by omega) (by omega) (by omega) (by omega)]
  unfold rle
  omega
theorem end_N (hG : gOK G M N t rk) (hK : K < N) (hF : FWE G t N K f g) (w : Nat) (hw : w < 2 ^ 31) : ∀ i, i ≤ N →
    (endF f g (nI w) i = -1 ∧ ∀ u, u < i → u &&& w = w → f u = -1) ∨ (∃ e ds, e < i ∧ endF f g (nI w) i = nI e ∧ e &&& w = w ∧ runG G ds K = some e ∧ eH t f g e ds ∧ ∀ u, u < i → u &&& w = w → ∀ es, runG G es K = some u → eH t f g u es → rle t ds es)
  | 0, _ => Or.inl ⟨rfl, fun u hu => absurd hu (by omega)⟩
  | i + 1, hi => by
    have ih := end_N hG hK hF w hw i (by omega)
    have hN := hG.1
    have hlt : ∀ u, u < i + 1 → u < i ∨ u = i := fun u hu => by omega
    have hbw : nI i &&& nI w = nI w ↔ i &&& w = w := by
      rw [hx_and, nI_eq (Nat.lt_of_le_of_lt Nat.and_le_right hw) hw]
    unfold endF
    by_cases h1 : f i = -1
    · rw [if_pos h1]
      rcases ih with ⟨a1, a2⟩ | ⟨e, ds, a1, a2, a3, a4, a5, a6⟩
      · exact Or.inl ⟨a1, fun u hu hq => by rcases hlt u hu with h | h; exact a2 u h hq; subst h; exact h1⟩
      · refine Or.inr ⟨e, ds, by omega, a2, a3, a4, a5, fun u hu hq es hr he => ?_⟩
        rcases hlt u hu with h | h
        · exact a6 u h hq es hr he
        · subst h
          have b := (run_small hG hK hr).2.2.1
          exact absurd (he.1.symm.trans h1) (nI_m1 (by omega))
    · rw [if_neg h1]
      by_cases h2 : i &&& w = w
      · rw [if_pos (hbw.mpr h2)]
        obtain ⟨es, b1, b2, b3⟩ : ∃ es, runG G es K = some i ∧ eH t f g i es ∧ ∀ ds, runG G ds K = some i → rle t es ds := by
          rcases hF i (by omega) with ⟨q, _⟩ | ⟨es, q1, q2, q3⟩
          · exact absurd q h1
          · exact ⟨es, q1, q2, q3⟩
        rcases ih with ⟨a1, a2⟩ | ⟨e, ds, a1, a2, a3, a4, a5, a6⟩
        · rw [a1, if_pos (show betB f g i (-1) = true from if_pos rfl)]
          refine Or.inr ⟨i, es, by omega, rfl, h2, b1, b2, fun u hu hq es' hr he => ?_⟩
          rcases hlt u hu with h | h
          · have b := (run_small hG hK hr).2.2.1
            exact absurd (he.1.symm.trans (a2 u h hq)) (nI_m1 (by omega))
          · subst h; exact b3 es' hr
        · rw [a2]
          have hb := bet_N hG hK a4 b1 a5 b2 (show e < N by omega)
          by_cases h3 : betB f g i (nI e) = true
          · rw [if_pos h3]
            have h4 := hb.mp h3
            refine Or.inr ⟨i, es, by omega, rfl, h2, b1, b2, fun u hu hq es' hr he => ?_⟩
            rcases hlt u hu with h | h
            · rcases rle_tot t ds es with h5 | h5
              · exact absurd h5 h4
              · exact rle_tr h5 (a6 u h hq es' hr he)
            · subst h; exact b3 es' hr
          · rw [if_neg h3]
            have h4 : rle t ds es := by
              rcases Classical.em (rle t ds es) with q | q
              · exact q
              · exact absurd (hb.mpr q) h3
            refine Or.inr ⟨e, ds, by omega, rfl, a3, a4, a5, fun u hu hq es' hr he => ?_⟩
            rcases hlt u hu with h | h
            · exact a6 u h hq es' hr he
            · subst h; exact rle_tr h4 (b3 es' hr)
      · rw [if_neg (fun q => h2 (hbw.mp q))]
        rcases ih with ⟨a1, a2⟩ | ⟨e, ds, a1, a2, a3, a4, a5, a6⟩
        · exact Or.inl ⟨a1, fun u hu hq => by rcases hlt u hu with h | h; exact a2 u h hq; subst h; exact absurd hq h2⟩
        · refine Or.inr ⟨e, ds, by omega, a2, a3, a4, a5, fun u hu hq es hr he => ?_⟩
          rcases hlt u hu with h | h
          · exact a6 u h hq es hr he
          · subst h; exact absurd hq h2
/-- the set that the class's best way ends with -/
theorem end_B (hG : gOK G M N t rk) (hK : K < N) (hF : FWE G t N K f g) (w : Nat) (hw : w < 2 ^ 31) :
    (endF f g (nI w) N = -1 ∧ ∀ ds u, runG G ds K = some u → ¬ u &&& w = w) ∨ (∃ e ds, e < N ∧ endF f g (nI w) N = nI e ∧ runG G ds K = some e ∧ eH t f g e ds ∧ wBst G t K w ds) := by
  rcases end_N hG hK hF w hw N (Nat.le_refl _) with ⟨a1, a2⟩ | ⟨e, ds, a1, a2, a3, a4, a5, a6⟩
  · refine Or.inl ⟨a1, fun ds u hr hq => ?_⟩
    have hu := (run_facts hG ds K u hK hr).1
    rcases hF u hu with ⟨_, q⟩ | ⟨es, q1, q2, _⟩
    · exact q ds hr
    · have b := (run_small hG hK q1).2.2.1
      exact nI_m1 (by omega) (q2.1.symm.trans (a2 u hu hq))
  · refine Or.inr ⟨e, ds, a1, a2, a4, a5, ⟨e, a4, a3⟩, fun es x hr hq => ?_⟩
    have hx := (run_facts hG es K x hK hr).1
    rcases hF x hx with ⟨_, q⟩ | ⟨es', q1, q2, q3⟩
    · exact absurd hr (q es)
    · exact rle_tr (a6 x hx hq es' q1 q2) (q3 es hr)
theorem cst_div (hG : gOK G M N t rk) (hK : K < N) {ds : List Nat} {u : Nat} (h : runG G ds K = some u) : cst t ds / 16 = tmS t ds ∧ cst t ds % 16 = ds.length := by
  have h1 := (run_small hG hK h).1
  unfold cst
  omega
theorem rle_tm (hG : gOK G M N t rk) (hK : K < N) {ds es : List Nat} {u x : Nat} (h1 : runG G ds K = some u) (h2 : runG G es K = some x) (h : rle t ds es) : tmS t ds ≤ tmS t es := by
  have a := (run_small hG hK h1).1
  have b := (run_small hG hK h2).1
  unfold rle cst at h
  omega
theorem rich_N (hG : gOK G M N t rk) (hK : K < N) (hF : FWE G t N K f g) {wo : Nat → Int32} {W : Nat → Nat} (hW : ∀ u, u < N → worthF wo (nI u) 12 = nI (W u) ∧ W u < 2 ^ 31) (m : Nat) (hm : m < 2 ^ 31) : ∀ i, i ≤ N →
    (richF f g wo (nI m) i = (-1, 0) ∧ ∀ u, u < i → ∀ es, runG G es K = some u → eH t f g u es → ¬ tmS t es ≤ m) ∨ (∃ e ds, e < i ∧ richF f g wo (nI m) i = (nI e, nI (W e)) ∧ runG G ds K = some e ∧ eH t f g e ds ∧ tmS t ds ≤ m ∧ ∀ u, u < i → ∀ es, runG G es K = some u → eH t f g u es → tmS t es ≤ m → W u < W e ∨ (W u = W e ∧ rle t ds es))
  | 0, _ => Or.inl ⟨rfl, fun u hu => absurd hu (by omega)⟩
  | i + 1, hi => by
    have ih := rich_N hG hK hF hW m hm i (by omega)
    have hN := hG.1
    have hlt : ∀ u, u < i + 1 → u < i ∨ u = i := fun u hu => by omega
    obtain ⟨w1, w2⟩ := hW i (by omega)
    unfold richF
    by_cases h1 : f i = -1
    · rw [if_pos h1]
      have hno : ∀ es, runG G es K = some i → eH t f g i es → False := fun es hr he => by
        have b := (run_small hG hK hr).2.2.1
        exact nI_m1 (by omega) (he.1.symm.trans h1)
      rcases ih with ⟨a1, a2⟩ | ⟨e, ds, a1, a2, a4, a5, a7, a6⟩
      · refine Or.inl ⟨a1, fun u hu es hr he => ?_⟩
        rcases hlt u hu with h | h
        · exact a2 u h es hr he
        · subst h; exact (hno es hr he).elim
      · refine Or.inr ⟨e, ds, by omega, a2, a4, a5, a7, fun u hu es hr he => ?_⟩
        rcases hlt u hu with h | h
        · exact a6 u h es hr he
        · subst h; exact (hno es hr he).elim
    · rw [if_neg h1]
      obtain ⟨es, b1, b2, b3⟩ : ∃ es, runG G es K = some i ∧ eH t f g i es ∧ ∀ ds, runG G ds K = some i → rle t es ds := by
        rcases hF i (by omega) with ⟨q, _⟩ | ⟨es, q1, q2, q3⟩
        · exact absurd q h1
        · exact ⟨es, q1, q2, q3⟩
      have b4 := (run_small hG hK b1).2.2.1
      have b5 := (cst_div hG hK b1).1
      have hdv : f i / 16 = nI (tmS t es) := by
        rw [b2.1, show (16 : Int32) = nI 16 from rfl, pk_div (by omega) (by decide) (by decide), b5]
      have hle : f i / 16 ≤ nI m ↔ tmS t es ≤ m := by
        rw [hdv, nI_leI (by have := (run_small hG hK b1).2.1; omega) hm]
      by_cases h2 : tmS t es ≤ m
      · rw [if_neg (fun q => q (hle.mpr h2)), w1]
        rcases ih with ⟨a1, a2⟩ | ⟨e, ds, a1, a2, a4, a5, a7, a6⟩
        · rw [a1]
          have hres : (if ((-1, 0) : Int32 × Int32).2 < nI (W i) then (nI i, nI (W i)) else if nI (W i) = ((-1, 0) : Int32 × Int32).2 then (if betB f g i ((-1, 0) : Int32 × Int32).1 = true then (nI i, nI (W i)) else (-1, 0)) else (-1, 0)) = (nI i, nI (W i)) := by
            rcases Nat.eq_zero_or_pos (W i) with q | q
            · rw [q]
              rfl
            · rw [if_pos (show (0 : Int32) < nI (W i) from nI_lt q w2)]
          rw [hres]
          refine Or.inr ⟨i, es, by omega, rfl, b1, b2, h2, fun u hu es' hr he ht => ?_⟩
          rcases hlt u hu with h | h
          · exact absurd ht (a2 u h es' hr he)
          · subst h; exact Or.inr ⟨rfl, b3 es' hr⟩
        · rw [a2]
          have w4 := (hW e (by omega)).2
          show (_ ∨ _)
          by_cases h3 : W e < W i
          · rw [if_pos (show nI (W e) < nI (W i) from nI_lt h3 w2)]
            refine Or.inr ⟨i, es, by omega, rfl, b1, b2, h2, fun u hu es' hr he ht => ?_⟩
            rcases hlt u hu with h | h
            · rcases a6 u h es' hr he ht with q | ⟨q, _⟩
              · exact Or.inl (by omega)
              · exact Or.inl (by omega)
            · subst h; exact Or.inr ⟨rfl, b3 es' hr⟩
          · rw [if_neg (show ¬ nI (W e) < nI (W i) from fun q => h3 ((nI_ltI w4 w2).mp q))]
            by_cases h4 : W i = W e
            · rw [if_pos (show nI (W i) = nI (W e) by rw [h4])]
              have hb := bet_N hG hK a4 b1 a5 b2 (show e < N by omega)
              by_cases h5 : betB f g i (nI e) = true
              · rw [if_pos h5]
                have h6 := hb.mp h5
                refine Or.inr ⟨i, es, by omega, rfl, b1, b2, h2, fun u hu es' hr he ht => ?_⟩
                rcases hlt u hu with h | h
                · rcases a6 u h es' hr he ht with q | ⟨q, q2⟩
                  · exact Or.inl (by omega)
                  · refine Or.inr ⟨by omega, ?_⟩
                    rcases rle_tot t ds es with h7 | h7
                    · exact absurd h7 h6
                    · exact rle_tr h7 q2
                · subst h; exact Or.inr ⟨rfl, b3 es' hr⟩
              · rw [if_neg h5]
                have h6 : rle t ds es := by
                  rcases Classical.em (rle t ds es) with q | q
                  · exact q
                  · exact absurd (hb.mpr q) h5
                refine Or.inr ⟨e, ds, by omega, rfl, a4, a5, a7, fun u hu es' hr he ht => ?_⟩
                rcases hlt u hu with h | h
                · exact a6 u h es' hr he ht
                · subst h; exact Or.inr ⟨h4, rle_tr h6 (b3 es' hr)⟩
            · rw [if_neg (show ¬ nI (W i) = nI (W e) from fun q => h4 ((nI_eq w2 w4).mp q))]
              refine Or.inr ⟨e, ds, by omega, rfl, a4, a5, a7, fun u hu es' hr he ht => ?_⟩
              rcases hlt u hu with h | h
              · exact a6 u h es' hr he ht
              · subst h; exact Or.inl (by omega)
      · rw [if_pos (fun q => h2 (hle.mp q))]
        rcases ih with ⟨a1, a2⟩ | ⟨e, ds, a1, a2, a4, a5, a7, a6⟩
        · refine Or.inl ⟨a1, fun u hu es' hr he ht => ?_⟩
          rcases hlt u hu with h | h
          · exact a2 u h es' hr he ht
          · subst h; exact h2 (Nat.le_trans (rle_tm hG hK b1 hr (b3 es' hr)) ht)
        · refine Or.inr ⟨e, ds, by omega, a2, a4, a5, a7, fun u hu es' hr he ht => ?_⟩
          rcases hlt u hu with h | h
          · exact a6 u h es' hr he ht
          · subst h; exact absurd (Nat.le_trans (rle_tm hG hK b1 hr (b3 es' hr)) ht) h2
/-- the set with the most worth that the class finds -/
theorem rich_B (hG : gOK G M N t rk) (hK : K < N) (hF : FWE G t N K f g) {wo : Nat → Int32} {W : Nat → Nat} (hW : ∀ u, u < N → worthF wo (nI u) 12 = nI (W u) ∧ W u < 2 ^ 31) (m : Nat) (hm : m < 2 ^ 31) :
    ∃ e ds, e < N ∧ (richF f g wo (nI m) N).1 = nI e ∧ eH t f g e ds ∧ mBst G t W K m ds e := by
  rcases rich_N hG hK hF hW m hm N (Nat.le_refl _) with ⟨a1, a2⟩ | ⟨e, ds, a1, a2, a4, a5, a7, a6⟩
  · exfalso
    rcases hF K hK with ⟨_, q⟩ | ⟨es, q1, q2, q3⟩
    · exact q [] rfl
    · have h1 := rle_tm hG hK q1 (show runG G [] K = some K from rfl) (q3 [] rfl)
      exact a2 K hK es q1 q2 (Nat.le_trans h1 (Nat.zero_le _))
  · refine ⟨e, ds, a1, by rw [a2], a5, a4, a7, fun es x hr ht => ?_⟩
    have hx := (run_facts hG es K x hK hr).1
    rcases hF x hx with ⟨_, q⟩ | ⟨es', q1, q2, q3⟩
    · exact absurd hr (q es)
    · rcases a6 x hx es' q1 q2 (Nat.le_trans (rle_tm hG hK q1 hr (q3 es hr)) ht) with h | ⟨h, h2⟩
      · exact Or.inl h
      · exact Or.inr ⟨h, rle_tr h2 (q3 es hr)⟩
end PEND
/-! ===== the row out of its number ===== -/
theorem codA_div : ∀ (ds : List Nat) (a : Nat), (∀ k ∈ ds, k < 32) → codA ds a / 32 ^ ds.length = a
  | [], a, _ => by show a / 1 = a; exact Nat.div_one a
  | d :: ds, a, h => by
    have ih := codA_div ds (a * 32 + d) (fun k hk => h k (List.mem_cons_of_mem _ hk))
    have hd := h d List.mem_cons_self
    show codA ds (a * 32 + d) / 32 ^ (ds.length + 1) = a
    rw [Nat.pow_succ, ← Nat.div_div_eq_div_mul, ih]
    omega
theorem codA_at : ∀ (ds : List Nat) (a j : Nat), (∀ k ∈ ds, k < 32) → j < ds.length → codA ds a / 32 ^ (ds.length - 1 - j) % 32 = ds.getD j 0
  | [], _, _, _, hj => absurd hj (Nat.not_lt_zero _)
  | d :: ds, a, 0, h, _ => by
    have hd := h d List.mem_cons_self
    have := codA_div ds (a * 32 + d) (fun k hk => h k (List.mem_cons_of_mem _ hk))
    show codA ds (a * 32 + d) / 32 ^ (ds.length + 1 - 1 - 0) % 32 = d
    rw [show ds.length + 1 - 1 - 0 = ds.length by omega, this]
    omega
  | d :: ds, a, j + 1, h, hj => by
    have ih := codA_at ds (a * 32 + d) j (fun k hk => h k (List.mem_cons_of_mem _ hk)) (by simp only [List.length_cons] at hj; omega)
    show codA ds (a * 32 + d) / 32 ^ (ds.length + 1 - 1 - (j + 1)) % 32 = (d :: ds).getD (j + 1) 0
    rw [show ds.length + 1 - 1 - (j + 1) = ds.length - 1 - j by omega, ih]
    rfl
theorem dig_sm : ∀ d, d < 12 → (((5 * nI d).toInt64 &&& 63).toBitVec.smod 64).toNat = 5 * d := by decide +kernel
theorem dig_N {c d : Nat} (hc : c < 2 ^ 60) (hd : d < 12) : digF (lN c) d = nI (c / 32 ^ d % 32) := by
  unfold digF
  rw [pf_shr (dig_sm d hd) (by omega), lN_i, pk_and _ 5 (by decide)]
  have h1 : (nI (c / 2 ^ (5 * d))).toBitVec.toNat = c / 2 ^ (5 * d) % 2 ^ 32 := BitVec.toNat_ofNat _ _
  rw [h1, show (2 : Nat) ^ (5 * d) = 32 ^ d by rw [Nat.pow_mul]]
  congr 1
  exact Nat.mod_mod_of_dvd _ (by decide)
theorem copy_at (rf : Nat → Int32) (c : Int64) (q : Nat) : ∀ k j, copyF rf c q k j = if j < k then digF c (q - 1 - j) else rf j
  | 0, j => by simp [copyF]
  | k + 1, j => by
    have ih := copy_at rf c q k j
    unfold copyF upd
    by_cases h : j = k
    · subst h
      simp
    · rw [if_neg h, ih]
      by_cases h2 : j < k
      · rw [if_pos h2, if_pos (by omega)]
      · rw [if_neg h2, if_neg (by omega)]
/-- the class's row, step by step -/
theorem copy_N {rf : Nat → Int32} {ds : List Nat} (hk : ∀ k ∈ ds, k < 32) (hl : ds.length ≤ 12) {j : Nat} (hj : j < ds.length) : copyF rf (lN (codA ds 0)) ds.length ds.length j = nI (ds.getD j 0) := by
  have h1 := codA_lt ds 0 hk
  have h4 : 32 ^ ds.length ≤ 32 ^ 12 := Nat.pow_le_pow_right (by decide) (by omega)
  have h5 : (32 : Nat) ^ 12 = 2 ^ 60 := by decide
  rw [copy_at, if_pos hj, dig_N (by omega) (by omega), codA_at ds 0 j hk hj]
