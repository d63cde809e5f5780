/-! ===== the pure part: the reference's most, over a graph ===== -/
def cNq (q : (Nat → Int32) × (Nat → Int32)) (v : Nat) : Nat := (q.1 v).toNatClampNeg
def sNq (q : (Nat → Int32) × (Nat → Int32)) (v : Nat) : Nat := (q.2 v).toNatClampNeg
def lx2 (a b c d : Nat) : Prop := a < c ∨ (a = c ∧ b ≤ d)
def FMI (G : Nat → Nat → Option Nat) (t : Nat → Nat) (N K v j : Nat) (q : (Nat → Int32) × (Nat → Int32)) : Prop :=
  ∀ u, u < N → (q.1 u = 268435456 ∧ q.2 u = 0 ∧ ∀ ds, runG G ds K = some u → ¬ adm G K v j ds) ∨ (∃ ds, runG G ds K = some u ∧ bE t q u ds ∧ ∀ es, runG G es K = some u → adm G K v j es → vle t ds es)
def FME (G : Nat → Nat → Option Nat) (t : Nat → Nat) (N K : Nat) (q : (Nat → Int32) × (Nat → Int32)) : Prop :=
  ∀ u, u < N → (q.1 u = 268435456 ∧ q.2 u = 0 ∧ ∀ ds, ¬ runG G ds K = some u) ∨ (∃ ds, runG G ds K = some u ∧ bE t q u ds ∧ ∀ es, runG G es K = some u → vle t ds es)
def fwdU (q : (Nat → Int32) × (Nat → Int32)) (v u tt : Nat) : (Nat → Int32) × (Nat → Int32) :=
  if q.1 u < q.1 v + nI tt then q
  else if ¬ q.1 v + nI tt = q.1 u then (upd q.1 u (q.1 v + nI tt), upd q.2 u (q.2 v + 1))
  else if q.2 v + 1 < q.2 u then (upd q.1 u (q.1 v + nI tt), upd q.2 u (q.2 v + 1))
  else q
def fwdO (q : (Nat → Int32) × (Nat → Int32)) (v tt : Nat) (o : Option Nat) : (Nat → Int32) × (Nat → Int32) := match o with
  | none => q
  | some u => fwdU q v u tt
section PMOST
variable {G : Nat → Nat → Option Nat} {M N K : Nat} {t rk : Nat → Nat} {q : (Nat → Int32) × (Nat → Int32)}
theorem vle_snoc {a b : List Nat} (k : Nat) (h : vle t a b) : vle t (a ++ [k]) (b ++ [k]) := by
  unfold vle at *
  rw [tmS_snoc, tmS_snoc, List.length_append, List.length_append]
  omega
theorem vle_tot (a b : List Nat) : vle t a b ∨ vle t b a := by
  unfold vle
  omega
theorem fmi_none {v j : Nat} (hj : G j v = none) (h : FMI G t N K v j q) : FMI G t N K v (j + 1) q := by
  intro x hx
  rcases h x hx with ⟨h1, h0, h2⟩ | ⟨ds, h1, h2, h3⟩
  · refine Or.inl ⟨h1, h0, fun ds hr ha => ?_⟩
    rcases adm_split hr ha with h4 | ⟨es, _, _, h4⟩
    · exact h2 ds hr h4
    · rw [hj] at h4; cases h4
  · refine Or.inr ⟨ds, h1, h2, fun es hr ha => ?_⟩
    rcases adm_split hr ha with h4 | ⟨es', _, _, h4⟩
    · exact h3 es hr h4
    · rw [hj] at h4; cases h4
theorem fmi_skip (hG : gOK G M N t rk) (hK : K < N) {v j : Nat} (hv : v < N) (hf : (268435456 : Int32) ≤ q.1 v) (h : FMI G t N K v j q) : FMI G t N K (v + 1) 0 q := by
  have hn : ∀ ds, runG G ds K = some v → False := by
    intro ds hr
    rcases h v hv with ⟨_, _, h2⟩ | ⟨ds', h1, h2, _⟩
    · exact h2 ds hr (adm_all hG hK hr)
    · have := (run_small hG hK h1).2.1
      rw [h2.1, kFAR, nI_leI (by decide) (by omega)] at hf
      omega
  have hb : ∀ ds, adm G K (v + 1) 0 ds → adm G K v j ds := by
    rintro ds (ha | ⟨es, k, u, h1, h2, h3 | ⟨_, h4⟩⟩)
    · exact Or.inl ha
    · rcases Nat.lt_or_ge u v with hu | hu
      · exact Or.inr ⟨es, k, u, h1, h2, Or.inl hu⟩
      · have e : u = v := by omega
        subst e
        exact (hn es h2).elim
    · omega
  intro x hx
  rcases h x hx with ⟨h1, h0, h2⟩ | ⟨ds, h1, h2, h3⟩
  · exact Or.inl ⟨h1, h0, fun ds hr ha => h2 ds hr (hb ds ha)⟩
  · exact Or.inr ⟨ds, h1, h2, fun es hr ha => h3 es hr (hb es ha)⟩
theorem fmi_next (hG : gOK G M N t rk) (hK : K < N) {v : Nat} (h : FMI G t N K v M q) : FMI G t N K (v + 1) 0 q := by
  intro x hx
  have hb : ∀ ds, runG G ds K = some x → adm G K (v + 1) 0 ds → adm G K v M ds := by
    rintro ds hr (ha | ⟨es, k, u, h1, h2, h3 | ⟨_, h4⟩⟩)
    · exact Or.inl ha
    · rcases Nat.lt_or_ge u v with hu | hu
      · exact Or.inr ⟨es, k, u, h1, h2, Or.inl hu⟩
      · have e : u = v := by omega
        subst e
        subst h1
        rw [run_snoc, h2] at hr
        have hu := (run_facts hG es K u hK h2).1
        exact Or.inr ⟨es, k, u, rfl, h2, Or.inr ⟨rfl, (hG.2.2.2.2 k u x hu hr).1⟩⟩
    · omega
  rcases h x hx with ⟨h1, h0, h2⟩ | ⟨ds, h1, h2, h3⟩
  · exact Or.inl ⟨h1, h0, fun ds hr ha => h2 ds hr (hb ds hr ha)⟩
  · exact Or.inr ⟨ds, h1, h2, fun es hr ha => h3 es hr (hb es hr ha)⟩
theorem fmi_step (hG : gOK G M N t rk) (hK : K < N) {v j u : Nat} (hv : v < N) (hf : ¬ (268435456 : Int32) ≤ q.1 v) (hj : G j v = some u) (h : FMI G t N K v j q) :
    FMI G t N K v (j + 1) (fwdU q v u (t j)) ∧ (fwdU q v u (t j)).1 v = q.1 v := by
  obtain ⟨a1, a2, a3, a4⟩ := hG.2.2.2.2 j v u hv hj
  have hN := hG.1
  obtain ⟨es, he, hE, hmin⟩ : ∃ es, runG G es K = some v ∧ bE t q v es ∧ ∀ ds, runG G ds K = some v → vle t es ds := by
    rcases h v hv with ⟨h1, _⟩ | ⟨es, h1, h2, h3⟩
    · exact absurd (by rw [h1]; exact Int32.le_refl _) hf
    · exact ⟨es, h1, h2, fun ds hr => h3 ds hr (adm_all hG hK hr)⟩
  have hn : runG G (es ++ [j]) K = some u := run_snoc_of he hj
  obtain ⟨s1, s2, _⟩ := run_small hG hK hn
  have hc : q.1 v + nI (t j) = nI (tmS t (es ++ [j])) := by rw [hE.1, nI_add, tmS_snoc]
  have hs : q.2 v + 1 = nI (es ++ [j]).length := by rw [hE.2, nI_1, List.length_append]; rfl
  -- the old rows to u are done with; those through v
  have hold : ∀ x, x < N → x ≠ u → ∀ r : (Nat → Int32) × (Nat → Int32), r.1 x = q.1 x → r.2 x = q.2 x → ((r.1 x = 268435456 ∧ r.2 x = 0 ∧ ∀ ds, runG G ds K = some x → ¬ adm G K v (j + 1) ds) ∨ (∃ ds, runG G ds K = some x ∧ bE t r x ds ∧ ∀ es, runG G es K = some x → adm G K v (j + 1) es → vle t ds es)) := by
    intro x hx hxu r e1 e2
    rcases h x hx with ⟨h1, h0, h2⟩ | ⟨ds0, h1, h2, h3⟩
    · refine Or.inl ⟨e1.trans h1, e2.trans h0, fun ds hr ha => ?_⟩
      rcases adm_split hr ha with h4 | ⟨es', _, _, h4⟩
      · exact h2 ds hr h4
      · rw [hj] at h4; cases h4; exact hxu rfl
    · refine Or.inr ⟨ds0, h1, ⟨e1.trans h2.1, e2.trans h2.2⟩, fun ds hr ha => ?_⟩
      rcases adm_split hr ha with h4 | ⟨es', _, _, h4⟩
      · exact h3 ds hr h4
      · rw [hj] at h4; cases h4; exact absurd rfl hxu
  have htake : (∀ ds, runG G ds K = some u → adm G K v j ds → vle t (es ++ [j]) ds) →
      FMI G t N K v (j + 1) (upd q.1 u (q.1 v + nI (t j)), upd q.2 u (q.2 v + 1)) ∧ (upd q.1 u (q.1 v + nI (t j))) v = q.1 v := by
    intro hk
    refine ⟨fun x hx => ?_, upd_n (by omega)⟩
    by_cases hxu : x = u
    · subst hxu
      refine Or.inr ⟨es ++ [j], hn, ⟨?_, ?_⟩, fun ds hr ha => ?_⟩
      · show upd _ _ _ x = _
        rw [upd_s, hc]
      · show upd _ _ _ x = _
        rw [upd_s, hs]
      · rcases adm_split hr ha with h4 | ⟨es', h4, h5, _⟩
        · exact hk ds hr h4
        · subst h4
          exact vle_snoc j (hmin es' h5)
    · exact hold x hx hxu _ (upd_n hxu) (upd_n hxu)
  have hkeep : (∃ ds, runG G ds K = some u ∧ bE t q u ds ∧ (∀ es, runG G es K = some u → adm G K v j es → vle t ds es) ∧ vle t ds (es ++ [j])) → FMI G t N K v (j + 1) q ∧ q.1 v = q.1 v := by
    rintro ⟨ds, k1, k2, k3, k4⟩
    refine ⟨fun x hx => ?_, rfl⟩
    by_cases hxu : x = u
    · subst hxu
      refine Or.inr ⟨ds, k1, k2, fun ds' hr ha => ?_⟩
      rcases adm_split hr ha with h4 | ⟨es', h4, h5, _⟩
      · exact k3 ds' hr h4
      · subst h4
        exact vle_tr k4 (vle_snoc j (hmin es' h5))
    · exact hold x hx hxu q rfl rfl
  unfold fwdU
  rcases h u a3 with ⟨h1, h0, h2⟩ | ⟨ds, h1, h2, h3⟩
  · rw [h1, hc, if_neg (by rw [kFAR, nI_ltI (by decide) (by omega)]; omega), if_pos (by rw [kFAR, nI_eq (by omega) (by decide)]; omega), ← hc]
    exact htake fun ds hr ha => absurd ha (h2 ds hr)
  · obtain ⟨r1, r2, _⟩ := run_small hG hK h1
    rw [h2.1, hc]
    by_cases b1 : tmS t ds < tmS t (es ++ [j])
    · rw [if_pos (nI_lt b1 (by omega))]
      exact hkeep ⟨ds, h1, h2, h3, Or.inl b1⟩
    · rw [if_neg (fun z => b1 ((nI_ltI (by omega) (by omega)).mp z))]
      by_cases b2 : tmS t (es ++ [j]) = tmS t ds
      · rw [if_neg (fun z => z (by rw [b2])), h2.2, hs]
        by_cases b3 : (es ++ [j]).length < ds.length
        · rw [if_pos (nI_lt b3 (by omega)), ← hc, ← hs]
          exact htake fun fs hr ha => vle_tr (Or.inr ⟨b2, by omega⟩) (h3 fs hr ha)
        · rw [if_neg (fun z => b3 ((nI_ltI (by omega) (by omega)).mp z))]
          exact hkeep ⟨ds, h1, h2, h3, Or.inr ⟨b2.symm, by omega⟩⟩
      · rw [if_pos (fun z => b2 ((nI_eq (by omega) (by omega)).mp z)), ← hc]
        exact htake fun fs hr ha => vle_tr (Or.inl (by omega)) (h3 fs hr ha)
theorem fmi_start (hG : gOK G M N t rk) (hK : K < N) (hf : ∀ u, u < N → q.1 u = if u = K then 0 else 268435456) (hg : ∀ u, u < N → q.2 u = 0) : FMI G t N K K 0 q := by
  have hnil : ∀ ds, adm G K K 0 ds → ds = [] := by
    rintro ds (ha | ⟨es, k, u, h1, h2, h3 | ⟨_, h4⟩⟩)
    · exact ha
    · have := (run_facts hG es K u hK h2).2.1
      omega
    · omega
  intro x hx
  by_cases hxK : x = K
  · subst hxK
    refine Or.inr ⟨[], rfl, ⟨by rw [hf x hx, if_pos rfl]; rfl, by rw [hg x hx]; rfl⟩, fun es hr ha => ?_⟩
    rw [hnil es ha]
    exact Or.inr ⟨rfl, Nat.le_refl _⟩
  · refine Or.inl ⟨by rw [hf x hx, if_neg hxK], hg x hx, fun ds hr ha => ?_⟩
    rw [hnil ds ha] at hr
    cases hr
    exact hxK rfl
theorem fmi_end (hG : gOK G M N t rk) (hK : K < N) (h : FMI G t N K N 0 q) : FME G t N K q := by
  have hall : ∀ ds x, runG G ds K = some x → adm G K N 0 ds := by
    intro ds x hr
    rcases run_last hr with ⟨h, _⟩ | ⟨es, k, u, h1, h2, h3⟩
    · exact Or.inl h
    · exact Or.inr ⟨es, k, u, h1, h2, Or.inl (run_facts hG es K u hK h2).1⟩
  intro x hx
  rcases h x hx with ⟨h1, h0, h2⟩ | ⟨ds, h1, h2, h3⟩
  · exact Or.inl ⟨h1, h0, fun ds hr => h2 ds hr (hall ds x hr)⟩
  · exact Or.inr ⟨ds, h1, h2, fun es hr => h3 es hr (hall es x hr)⟩
/-- the numbers of a set that can be come to -/
theorem fme_at (hG : gOK G M N t rk) (hK : K < N) (h : FME G t N K q) {v : Nat} {fs : List Nat} (hr : runG G fs K = some v) :
    q.1 v = nI (cNq q v) ∧ q.2 v = nI (sNq q v) ∧ cNq q v ≤ 48000 ∧ sNq q v ≤ 12 ∧ (∃ ds, runG G ds K = some v ∧ tmS t ds = cNq q v ∧ ds.length = sNq q v) ∧ ∀ es, runG G es K = some v → lx2 (cNq q v) (sNq q v) (tmS t es) es.length := by
  have hv := (run_facts hG fs K v hK hr).1
  rcases h v hv with ⟨_, _, h2⟩ | ⟨ds, h1, h2, h3⟩
  · exact absurd hr (h2 fs)
  · obtain ⟨s1, s2, _⟩ := run_small hG hK h1
    have e1 : cNq q v = tmS t ds := by unfold cNq; rw [h2.1, nI_clamp (by omega)]
    have e2 : sNq q v = ds.length := by unfold sNq; rw [h2.2, nI_clamp (by omega)]
    refine ⟨by rw [e1]; exact h2.1, by rw [e2]; exact h2.2, by omega, by omega, ⟨ds, h1, e1.symm, e2.symm⟩, fun es he => ?_⟩
    have := h3 es he
    unfold vle at this
    unfold lx2
    rw [e1, e2]; exact this
/-! the sets with the most worth, the fewest minutes, the fewest steps -/
def goalM (G : Nat → Nat → Option Nat) (W : Nat → Nat) (K : Nat) (q : (Nat → Int32) × (Nat → Int32)) (b x : Nat) : Prop := (∃ ds, runG G ds K = some x) ∧ cNq q x = cNq q b ∧ sNq q x = sNq q b ∧ W x = W b
def tgtM (G : Nat → Nat → Option Nat) (t W : Nat → Nat) (K : Nat) (q : (Nat → Int32) × (Nat → Int32)) (b : Nat) : List Nat → Nat → Prop
  | [], v => goalM G W K q b v
  | k :: es, v => ∃ u, G k v = some u ∧ cNq q v + t k = cNq q u ∧ sNq q v + 1 = sNq q u ∧ tgtM G t W K q b es u
/-- b is a best set for m minutes -/
def bstM (G : Nat → Nat → Option Nat) (t W : Nat → Nat) (K m : Nat) (q : (Nat → Int32) × (Nat → Int32)) (b : Nat) : Prop :=
  (∃ ds, runG G ds K = some b) ∧ cNq q b ≤ m ∧ ∀ u ds, runG G ds K = some u → tmS t ds ≤ m → W u < W b ∨ (W u = W b ∧ lx2 (cNq q b) (sNq q b) (tmS t ds) ds.length)
variable {W : Nat → Nat} {m b : Nat}
theorem tgt_run : ∀ (es : List Nat) (v : Nat), tgtM G t W K q b es v → sNq q v + es.length = sNq q b ∧ cNq q v + tmS t es = cNq q b ∧ ∃ x, runG G es v = some x ∧ goalM G W K q b x
  | [], v, h => ⟨h.2.2.1, h.2.1, v, rfl, h⟩
  | k :: es, v, ⟨u, h1, h2, h3, h4⟩ => by
    obtain ⟨a1, a2, x, a3, a4⟩ := tgt_run es u h4
    refine ⟨?_, ?_, x, ?_, a4⟩
    · simp only [List.length_cons]; omega
    · show cNq q v + (t k + tmS t es) = _
      omega
    · show (G k v).bind (runG G es) = some x
      rw [h1]; exact a3
/-- along a row that is best, every set is come to in the best way, and every step is tight -/
theorem tgt_of (hG : gOK G M N t rk) (hK : K < N) (hF : FME G t N K q) (hb : bstM G t W K m q b) {x : Nat} (hW : W x = W b) : ∀ (es ps : List Nat) (v : Nat), runG G ps K = some v → runG G es v = some x → tmS t ps + tmS t es = cNq q b → ps.length + es.length = sNq q b →
    tmS t ps = cNq q v ∧ ps.length = sNq q v ∧ tgtM G t W K q b es v
  | [], ps, v, h1, h2, h3, h4 => by
    cases h2
    have h3 : tmS t ps = cNq q b := h3
    have h4 : ps.length = sNq q b := h4
    obtain ⟨_, _, _, _, ⟨dx, d1, d2, d3⟩, d4⟩ := fme_at hG hK hF h1
    have a1 := d4 ps h1
    have a2 := hb.2.2 x dx d1 (by unfold lx2 at a1; have := hb.2.1; omega)
    have a3 : cNq q x = cNq q b ∧ sNq q x = sNq q b := by
      unfold lx2 at a1
      rcases a2 with a2 | ⟨_, a2⟩
      · omega
      · unfold lx2 at a2; omega
    exact ⟨by omega, by omega, ⟨ps, h1⟩, a3.1, a3.2, hW⟩
  | k :: es, ps, v, h1, h2, h3, h4 => by
    have h2 : (G k v).bind (runG G es) = some x := h2
    cases hk : G k v with
    | none => rw [hk] at h2; cases h2
    | some u =>
      rw [hk] at h2
      have h1' : runG G (ps ++ [k]) K = some u := run_snoc_of h1 hk
      have h3' : tmS t ps + (t k + tmS t es) = cNq q b := h3
      have h4' : ps.length + (es.length + 1) = sNq q b := h4
      obtain ⟨i1, i2, i3⟩ := tgt_of hG hK hF hb hW es (ps ++ [k]) u h1' h2 (by rw [tmS_snoc]; omega) (by rw [List.length_append]; simp only [List.length_cons, List.length_nil]; omega)
      obtain ⟨_, _, _, _, ⟨dv, d1, d2, d3⟩, d4⟩ := fme_at hG hK hF h1
      obtain ⟨_, _, _, _, _, g4⟩ := fme_at hG hK hF h1'
      have a1 := d4 ps h1
      have a2 := g4 (dv ++ [k]) (run_snoc_of d1 hk)
      rw [tmS_snoc, List.length_append] at a2
      rw [tmS_snoc] at i1
      rw [List.length_append] at i2
      simp only [List.length_cons, List.length_nil] at a2 i2
      unfold lx2 at a1 a2
      exact ⟨by omega, by omega, u, hk, by omega, by omega, i3⟩
/-- the reference's row for most -/
theorem mtrace (hG : gOK G M N t rk) (hK : K < N) {kF nx : Nat → Nat} {p : Nat → Nat → Bool}
    (hp : ∀ v, (∃ ds, runG G ds K = some v) → ∀ k, k < M → (p v k = true ↔ ∃ u, G k v = some u ∧ cNq q v + t k = cNq q u ∧ sNq q v + 1 = sNq q u ∧ ∃ es, tgtM G t W K q b es u))
    (hkF : ∀ v, v < N → (∃ k, k < M ∧ p v k = true) → p v (kF v) = true ∧ kF v < M ∧ (∀ j, j < kF v → p v j = false) ∧ ∀ u, G (kF v) v = some u → nx v = u) : ∀ n v es0, (∃ ds, runG G ds K = some v) → tgtM G t W K q b es0 v → es0.length = n →
    tgtM G t W K q b (trD kF nx n v) v ∧ (trD kF nx n v).length = n ∧ ∀ es, tgtM G t W K q b es v → ∀ a, codA (trD kF nx n v) a ≤ codA es a
  | 0, v, es0, _, h, hl => by
    have hd : es0 = [] := List.eq_nil_of_length_eq_zero hl
    subst hd
    refine ⟨h, rfl, fun es he a => ?_⟩
    have h1 := (tgt_run _ _ h).1
    have h2 := (tgt_run _ _ he).1
    have hd : es = [] := List.eq_nil_of_length_eq_zero (by simp only [List.length_nil] at h1; omega)
    subst hd
    exact Nat.le_refl _
  | n + 1, v, es0, ⟨dv, hdv⟩, h, hl => by
    have hv := (run_facts hG dv K v hK hdv).1
    cases es0 with
    | nil => cases hl
    | cons k0 es0 =>
      obtain ⟨u0, b1, b2, b3, b4⟩ := h
      have hk0 := (hG.2.2.2.2 k0 v u0 hv b1).1
      obtain ⟨p1, p2, p3, p4⟩ := hkF v hv ⟨k0, hk0, (hp v ⟨dv, hdv⟩ k0 hk0).mpr ⟨u0, b1, b2, b3, es0, b4⟩⟩
      obtain ⟨u, c1, c2, c3, es, c4⟩ := (hp v ⟨dv, hdv⟩ (kF v) p2).mp p1
      have l1 := (tgt_run _ _ b4).1
      have l2 := (tgt_run _ _ c4).1
      have hle : es.length = n := by
        have e3 : (k0 :: es0).length = es0.length + 1 := rfl
        omega
      have hnx : nx v = u := p4 u c1
      have hru : ∃ ds, runG G ds K = some u := ⟨dv ++ [kF v], run_snoc_of hdv c1⟩
      obtain ⟨i1, i2, i3⟩ := mtrace hG hK hp hkF n u es hru c4 hle
      have hd : trD kF nx (n + 1) v = kF v :: trD kF nx n u := by rw [← hnx]; rfl
      rw [hd]
      refine ⟨⟨u, c1, c2, c3, i1⟩, by simp only [List.length_cons]; omega, fun fs hf a => ?_⟩
      cases fs with
      | nil =>
        have l3 := (tgt_run _ _ hf).1
        simp only [List.length_nil] at l3
        omega
      | cons k2 fs =>
        obtain ⟨u2, g1, g2, g3, g4⟩ := hf
        have hk2 := (hG.2.2.2.2 k2 v u2 hv g1).1
        have hpk : p v k2 = true := (hp v ⟨dv, hdv⟩ k2 hk2).mpr ⟨u2, g1, g2, g3, fs, g4⟩
        have hk : kF v ≤ k2 := by
          rcases Nat.lt_or_ge k2 (kF v) with z | z
          · have := p3 k2 z
            rw [hpk] at this; cases this
          · exact z
        show codA (trD kF nx n u) (a * 32 + kF v) ≤ codA fs (a * 32 + k2)
        rcases Nat.lt_or_ge (kF v) k2 with z | z
        · obtain ⟨ds, hds⟩ := hru
          have hun := (run_facts hG ds K u hK hds).1
          have hsm : ∀ d ∈ trD kF nx n u, d < 32 := by
            obtain ⟨_, _, y, r1, _⟩ := tgt_run _ _ i1
            intro d hd
            have := (run_facts hG _ u y hun r1).2.2.2 d hd
            have := hG.2.1
            omega
          have y1 := codA_lt (trD kF nx n u) (a * 32 + kF v) hsm
          have y2 := codA_ge fs (a * 32 + k2)
          have l4 := (tgt_run _ _ g4).1
          have hfl : fs.length = n := by omega
          rw [i2] at y1
          rw [hfl] at y2
          have y3 : (a * 32 + kF v + 1) * 32 ^ n ≤ (a * 32 + k2) * 32 ^ n := Nat.mul_le_mul_right _ (by omega)
          omega
        · have e : k2 = kF v := by omega
          subst e
          rw [c1] at g1
          cases g1
          exact i3 fs g4 _
theorem cK0 (hG : gOK G M N t rk) (hK : K < N) (hF : FME G t N K q) : cNq q K = 0 ∧ sNq q K = 0 := by
  obtain ⟨_, _, _, _, _, h⟩ := fme_at hG hK hF (show runG G [] K = some K from rfl)
  have := h [] rfl
  unfold lx2 at this
  simp only [List.length_nil] at this
  have e : tmS t [] = 0 := rfl
  omega
/-- it is the row of the document -/
theorem mrow_best (hG : gOK G M N t rk) (hK : K < N) (hF : FME G t N K q) (hb : bstM G t W K m q b) {tr : List Nat} (h1 : tgtM G t W K q b tr K) (h2 : ∀ es, tgtM G t W K q b es K → codA tr 0 ≤ codA es 0) : ∃ x, mBst G t W K m tr x ∧ W x = W b := by
  obtain ⟨c1, c2⟩ := cK0 hG hK hF
  obtain ⟨a1, a2, x, a3, a4⟩ := tgt_run _ _ h1
  refine ⟨x, ⟨a3, by have := hb.2.1; omega, fun es y hr ht => ?_⟩, a4.2.2.2⟩
  rw [a4.2.2.2]
  rcases hb.2.2 y es hr ht with z | ⟨z, z2⟩
  · exact Or.inl z
  · refine Or.inr ⟨z, ?_⟩
    have s1 := (run_small hG hK a3).1
    have s2 := (run_small hG hK hr).1
    unfold rle cst
    unfold lx2 at z2
    rcases Classical.em (tmS t es = cNq q b ∧ es.length = sNq q b) with e | e
    · have h3 := (tgt_of hG hK hF hb z es [] K rfl hr (by show 0 + tmS t es = _; omega) (by simp only [List.length_nil]; omega)).2.2
      have := h2 es h3
      right
      exact ⟨by omega, this⟩
    · left
      omega
theorem mBst_one {ds es : List Nat} {u x : Nat} (h1 : mBst G t W K m ds u) (h2 : mBst G t W K m es x) : W u = W x ∧ cst t ds = cst t es ∧ codA ds 0 = codA es 0 := by
  have a := h1.2.2 es x h2.1 h2.2.1
  have b := h2.2.2 ds u h1.1 h1.2.1
  unfold rle at a b
  omega
end PMOST
