/-! ===== the pure part: rows of steps over a graph G (step, set: the set behind it) ===== -/
def runG (G : Nat → Nat → Option Nat) : List Nat → Nat → Option Nat
  | [], v => some v
  | k :: ds, v => (G k v).bind (runG G ds)
def tmS (t : Nat → Nat) : List Nat → Nat
  | [] => 0
  | k :: ds => t k + tmS t ds
def codA : List Nat → Nat → Nat
  | [], a => a
  | k :: ds, a => codA ds (a * 32 + k)
def cst (t : Nat → Nat) (ds : List Nat) : Nat := 16 * tmS t ds + ds.length
/-- a graph whose sets grow -/
def gOK (G : Nat → Nat → Option Nat) (M N : Nat) (t : Nat → Nat) (rk : Nat → Nat) : Prop := N ≤ 4096 ∧ M ≤ 28 ∧ (∀ k, t k ≤ 4000) ∧ (∀ v, rk v ≤ 12) ∧ ∀ k v u, v < N → G k v = some u → k < M ∧ v < u ∧ u < N ∧ rk v < rk u
theorem run_snoc (G : Nat → Nat → Option Nat) (k : Nat) : ∀ (ds : List Nat) (v : Nat), runG G (ds ++ [k]) v = (runG G ds v).bind (G k)
  | [], v => by
    show (G k v).bind (runG G []) = G k v
    cases G k v <;> rfl
  | d :: ds, v => by
    show (G d v).bind (runG G (ds ++ [k])) = ((G d v).bind (runG G ds)).bind (G k)
    cases h : G d v with
    | none => rfl
    | some u => exact run_snoc G k ds u
theorem tmS_snoc (t : Nat → Nat) (k : Nat) : ∀ ds : List Nat, tmS t (ds ++ [k]) = tmS t ds + t k
  | [] => by simp [tmS]
  | d :: ds => by
    show t d + tmS t (ds ++ [k]) = t d + tmS t ds + t k
    rw [tmS_snoc t k ds]; omega
theorem codA_snoc (k : Nat) : ∀ (ds : List Nat) (a : Nat), codA (ds ++ [k]) a = codA ds a * 32 + k
  | [], a => rfl
  | d :: ds, a => codA_snoc k ds (a * 32 + d)
theorem cst_snoc (t : Nat → Nat) (k : Nat) (ds : List Nat) : cst t (ds ++ [k]) = cst t ds + 16 * t k + 1 := by
  unfold cst
  rw [tmS_snoc, List.length_append]
  simp only [List.length_cons, List.length_nil]
  omega
theorem run_facts {G : Nat → Nat → Option Nat} {M N : Nat} {t rk : Nat → Nat} (hG : gOK G M N t rk) : ∀ (ds : List Nat) (v u : Nat), v < N → runG G ds v = some u → u < N ∧ v ≤ u ∧ rk v + ds.length ≤ rk u ∧ ∀ k ∈ ds, k < M
  | [], v, u, hv, h => by
    cases h
    exact ⟨hv, Nat.le_refl _, Nat.le_refl _, fun k hk => by cases hk⟩
  | d :: ds, v, u, hv, h => by
    have h' : (G d v).bind (runG G ds) = some u := h
    cases hd : G d v with
    | none => rw [hd] at h'; cases h'
    | some x =>
      rw [hd] at h'
      obtain ⟨a1, a2, a3, a4⟩ := hG.2.2.2.2 d v x hv hd
      obtain ⟨b1, b2, b3, b4⟩ := run_facts hG ds x u a3 h'
      refine ⟨b1, by omega, by simp only [List.length_cons]; omega, fun k hk => ?_⟩
      rcases List.mem_cons.mp hk with rfl | hk
      · exact a1
      · exact b4 k hk
theorem tmS_le {t : Nat → Nat} (ht : ∀ k, t k ≤ 4000) : ∀ ds : List Nat, tmS t ds ≤ 4000 * ds.length
  | [] => Nat.le_refl _
  | d :: ds => by
    have := tmS_le ht ds
    have := ht d
    show t d + tmS t ds ≤ 4000 * (ds.length + 1)
    omega
theorem codA_lt : ∀ (ds : List Nat) (a : Nat), (∀ k ∈ ds, k < 32) → codA ds a < (a + 1) * 32 ^ ds.length
  | [], a, _ => by show a < (a + 1) * 1; omega
  | d :: ds, a, h => by
    have ih := codA_lt ds (a * 32 + d) (fun k hk => h k (List.mem_cons_of_mem _ hk))
    have hd := h d List.mem_cons_self
    show codA ds (a * 32 + d) < (a + 1) * 32 ^ (ds.length + 1)
    have h1 : (a * 32 + d + 1) * 32 ^ ds.length ≤ (a * 32 + 32) * 32 ^ ds.length := Nat.mul_le_mul_right _ (by omega)
    have h2 : (a + 1) * 32 ^ (ds.length + 1) = (a * 32 + 32) * 32 ^ ds.length := by
      rw [Nat.pow_succ, Nat.mul_comm (32 ^ ds.length) 32, ← Nat.mul_assoc, Nat.add_mul]
    omega
/-- what bounds a row's numbers -/
theorem run_small {G : Nat → Nat → Option Nat} {M N : Nat} {t rk : Nat → Nat} (hG : gOK G M N t rk) {ds : List Nat} {v u : Nat} (hv : v < N) (h : runG G ds v = some u) : ds.length ≤ 12 ∧ tmS t ds ≤ 48000 ∧ cst t ds ≤ 768012 ∧ codA ds 0 < 2 ^ 60 ∧ (ds.length < 12 → codA ds 0 < 2 ^ 55) := by
  obtain ⟨a1, a2, a3, a4⟩ := run_facts hG ds v u hv h
  have h1 := hG.2.2.2.1 u
  have h2 := tmS_le hG.2.2.1 ds
  have h3 := codA_lt ds 0 (fun k hk => by have := a4 k hk; have := hG.2.1; omega)
  have h4 : 32 ^ ds.length ≤ 32 ^ 12 := Nat.pow_le_pow_right (by decide) (by omega)
  have h5 : (32 : Nat) ^ 12 = 2 ^ 60 := by decide
  refine ⟨by omega, by omega, by unfold cst; omega, by omega, fun hl => ?_⟩
  have h6 : 32 ^ ds.length ≤ 32 ^ 11 := Nat.pow_le_pow_right (by decide) (by omega)
  have h7 : (32 : Nat) ^ 11 = 2 ^ 55 := by decide
  omega
/-- the order of rows: minutes, steps, the first one -/
def rle (t : Nat → Nat) (ds es : List Nat) : Prop := cst t ds < cst t es ∨ (cst t ds = cst t es ∧ codA ds 0 ≤ codA es 0)
theorem rle_rfl (t : Nat → Nat) (ds : List Nat) : rle t ds ds := Or.inr ⟨rfl, Nat.le_refl _⟩
theorem rle_tr {t : Nat → Nat} {a b c : List Nat} (h1 : rle t a b) (h2 : rle t b c) : rle t a c := by
  unfold rle at *
  omega
theorem rle_tot (t : Nat → Nat) (a b : List Nat) : rle t a b ∨ rle t b a := by
  unfold rle
  omega
theorem rle_snoc {t : Nat → Nat} {a b : List Nat} (k : Nat) (h : rle t a b) : rle t (a ++ [k]) (b ++ [k]) := by
  unfold rle at *
  rw [cst_snoc, cst_snoc, codA_snoc, codA_snoc]
  omega
theorem run_snoc_of {G : Nat → Nat → Option Nat} {ds : List Nat} {k v u x : Nat} (h : runG G ds v = some u) (hk : G k u = some x) : runG G (ds ++ [k]) v = some x := by
  rw [run_snoc, h]; exact hk
theorem run_last {G : Nat → Nat → Option Nat} {ds : List Nat} {v x : Nat} (h : runG G ds v = some x) : (ds = [] ∧ v = x) ∨ ∃ es k u, ds = es ++ [k] ∧ runG G es v = some u ∧ G k u = some x := by
  rcases List.eq_nil_or_concat ds with rfl | ⟨es, k, rfl⟩
  · exact Or.inl ⟨rfl, by cases h; rfl⟩
  · right
    rw [List.concat_eq_append, run_snoc] at h
    cases hu : runG G es v with
    | none => rw [hu] at h; cases h
    | some u => rw [hu] at h; exact ⟨es, k, u, List.concat_eq_append .., hu, h⟩
/-! ===== the class's search, forward ===== -/
/-- the rows that the search has seen when it stands at set v, step j -/
def adm (G : Nat → Nat → Option Nat) (K v j : Nat) (ds : List Nat) : Prop := ds = [] ∨ ∃ es k u, ds = es ++ [k] ∧ runG G es K = some u ∧ (u < v ∨ (u = v ∧ k < j))
/-- the cells of a set hold a row -/
def eH (t : Nat → Nat) (f : Nat → Int32) (g : Nat → Int64) (u : Nat) (ds : List Nat) : Prop := f u = nI (cst t ds) ∧ g u = lN (codA ds 0)
def FWI (G : Nat → Nat → Option Nat) (t : Nat → Nat) (N K v j : Nat) (f : Nat → Int32) (g : Nat → Int64) : Prop :=
  ∀ u, u < N → (f u = -1 ∧ ∀ ds, runG G ds K = some u → ¬ adm G K v j ds) ∨ (∃ ds, runG G ds K = some u ∧ eH t f g u ds ∧ ∀ es, runG G es K = some u → adm G K v j es → rle t ds es)
theorem nI_m1 {n : Nat} (h : n < 2 ^ 31) : ¬ nI n = -1 := by
  intro q
  have h1 : ¬ nI n < 0 := nI_pos h
  rw [q] at h1
  exact h1 (by decide)
theorem lN_cmp {a b : Nat} (ha : a < 2 ^ 63) (hb : b < 2 ^ 63) : (0 : Int32) ≤ lg_cmp (lN a) (lN b) ↔ b ≤ a := by
  rw [lg_cmp_ge, Int64.le_iff_toInt_le, pf_lI ha, pf_lI hb]
  omega
theorem befB_N {f : Nat → Int32} {g : Nat → Int64} {u c1 c2 x1 x2 : Nat} (h1 : f u = nI c2) (h2 : g u = lN x2) (hc1 : c1 < 2 ^ 31) (hc2 : c2 < 2 ^ 31) (hx1 : x1 < 2 ^ 63) (hx2 : x2 < 2 ^ 63) : befB f g (nI c1) (lN x1) u = true ↔ c1 < c2 ∨ (c1 = c2 ∧ x1 < x2) := by
  unfold befB
  rw [h1, h2]
  by_cases h : c1 = c2
  · subst h
    rw [if_pos rfl, decide_eq_true_iff, lN_cmp hx1 hx2]
    omega
  · rw [if_neg (fun q => h ((nI_eq hc1 hc2).mp q)), decide_eq_true_iff, nI_leI hc2 hc1]
    omega
theorem upd_s {f : Nat → Int32} {k : Nat} {x : Int32} : upd f k x k = x := if_pos rfl
theorem upd_n {f : Nat → Int32} {k j : Nat} {x : Int32} (h : j ≠ k) : upd f k x j = f j := if_neg h
theorem updL_s {f : Nat → Int64} {k : Nat} {x : Int64} : vp_updL f k x k = x := if_pos rfl
theorem updL_n {f : Nat → Int64} {k j : Nat} {x : Int64} (h : j ≠ k) : vp_updL f k x j = f j := if_neg h
/-- one offer of a step that leads on -/
theorem offer_N {G : Nat → Nat → Option Nat} {M N K : Nat} {t rk : Nat → Nat} (hG : gOK G M N t rk) (hK : K < N) {f : Nat → Int32} {g : Nat → Int64} {v j u : Nat} {es : List Nat} (hv : v < N) (he : runG G es K = some v) (hE : eH t f g v es) (hj : G j v = some u) :
    (f u = -1 → offerB N f g v (nI u) (nI (t j)) (nI j) = true) ∧ (∀ ds, runG G ds K = some u → eH t f g u ds → (offerB N f g v (nI u) (nI (t j)) (nI j) = true ↔ ¬ rle t ds (es ++ [j]))) ∧ costF f v (nI (t j)) = nI (cst t (es ++ [j])) ∧ stepF g v (nI j) = lN (codA (es ++ [j]) 0) := by
  obtain ⟨a1, a2, a3, a4⟩ := hG.2.2.2.2 j v u hv hj
  have hN := hG.1
  have hM := hG.2.1
  have ht := hG.2.2.1 j
  obtain ⟨b1, b2, b3, b4, b5⟩ := run_small hG hK he
  have hn : runG G (es ++ [j]) K = some u := run_snoc_of he hj
  obtain ⟨c1, c2, c3, c4, c5⟩ := run_small hG hK hn
  have hl : es.length < 12 := by rw [List.length_append] at c1; simp only [List.length_cons, List.length_nil] at c1; omega
  have hC : costF f v (nI (t j)) = nI (cst t (es ++ [j])) := by
    unfold costF
    rw [hE.1, cst_snoc, show (16 : Int32) = nI 16 from rfl, pk_mul, nI_add, nI_1]
  have hS : stepF g v (nI j) = lN (codA (es ++ [j]) 0) := by
    unfold stepF
    have b6 := b5 hl
    rw [hE.2, show (5 : Int32) = nI 5 from rfl, wb_shl (codA es 0) (k := 5) (by decide), nI_l (by omega), g_or (k := 5) rfl (by omega) (by omega), codA_snoc]
  have hB : offerB N f g v (nI u) (nI (t j)) (nI j) = if f u = -1 then true else befB f g (nI (cst t (es ++ [j]))) (lN (codA (es ++ [j]) 0)) u := by
    unfold offerB
    rw [if_neg (fun q => by rw [nI_leI (by omega) (by omega)] at q; omega), if_neg (fun q => by rw [nI_leI (by omega) (by omega)] at q; omega), nI_clamp (by omega), hC, hS]
  refine ⟨fun h1 => by rw [hB, if_pos h1], fun ds d1 d2 => ?_, hC, hS⟩
  obtain ⟨e1, e2, e3, e4, e5⟩ := run_small hG hK d1
  rw [hB, if_neg (by rw [d2.1]; exact nI_m1 (by omega)), befB_N d2.1 d2.2 (by omega) (by omega) (by omega) (by omega)]
  unfold rle
  omega
