/-! ===== the class's search, forward: its steps ===== -/
section PFWD
variable {G : Nat → Nat → Option Nat} {M N K : Nat} {t rk : Nat → Nat} {f : Nat → Int32} {g : Nat → Int64}
theorem adm_split {v j x : Nat} {ds : List Nat} (hr : runG G ds K = some x) (h : adm G K v (j + 1) ds) : adm G K v j ds ∨ ∃ es, ds = es ++ [j] ∧ runG G es K = some v ∧ G j v = some x := by
  rcases h with h | ⟨es, k, u, h1, h2, h3 | ⟨h3, h4⟩⟩
  · exact Or.inl (Or.inl h)
  · exact Or.inl (Or.inr ⟨es, k, u, h1, h2, Or.inl h3⟩)
  · rcases Nat.lt_or_ge k j with hk | hk
    · exact Or.inl (Or.inr ⟨es, k, u, h1, h2, Or.inr ⟨h3, hk⟩⟩)
    · have e : k = j := by omega
      subst e; subst h3; subst h1
      refine Or.inr ⟨es, rfl, h2, ?_⟩
      rw [run_snoc, h2] at hr
      exact hr
theorem adm_up {v j : Nat} {ds : List Nat} (h : adm G K v j ds) : adm G K v (j + 1) ds := by
  rcases h with h | ⟨es, k, u, h1, h2, h3 | ⟨h3, h4⟩⟩
  · exact Or.inl h
  · exact Or.inr ⟨es, k, u, h1, h2, Or.inl h3⟩
  · exact Or.inr ⟨es, k, u, h1, h2, Or.inr ⟨h3, by omega⟩⟩
/-- every row to v has been seen when the search stands at v -/
theorem adm_all (hG : gOK G M N t rk) (hK : K < N) {v j : Nat} {ds : List Nat} (hr : runG G ds K = some v) : adm G K v j ds := by
  rcases run_last hr with ⟨h, _⟩ | ⟨es, k, u, h1, h2, h3⟩
  · exact Or.inl h
  · have hu := (run_facts hG es K u hK h2).1
    exact Or.inr ⟨es, k, u, h1, h2, Or.inl (hG.2.2.2.2 k u v hu h3).2.1⟩
theorem fwi_none {v j : Nat} (hj : G j v = none) (h : FWI G t N K v j f g) : FWI G t N K v (j + 1) f g := by
  intro x hx
  rcases h x hx with ⟨h1, h2⟩ | ⟨ds, h1, h2, h3⟩
  · refine Or.inl ⟨h1, fun ds hr ha => ?_⟩
    rcases adm_split hr ha with h4 | ⟨es, _, _, h4⟩
    · exact h2 ds hr h4
    · rw [hj] at h4; cases h4
  · refine Or.inr ⟨ds, h1, h2, fun es hr ha => ?_⟩
    rcases adm_split hr ha with h4 | ⟨es', _, _, h4⟩
    · exact h3 es hr h4
    · rw [hj] at h4; cases h4
theorem fwi_skip (hG : gOK G M N t rk) (hK : K < N) {v : Nat} (hv : v < N) (hf : f v = -1) (h : FWI G t N K v 0 f g) : FWI G t N K (v + 1) 0 f g := by
  have hn : ∀ ds, runG G ds K = some v → False := by
    intro ds hr
    rcases h v hv with ⟨_, h2⟩ | ⟨ds', h1, h2, _⟩
    · exact h2 ds hr (adm_all hG hK hr)
    · have := (run_small hG hK h1).2.2.1
      exact nI_m1 (by omega) (h2.1.symm.trans hf)
  have hb : ∀ ds, adm G K (v + 1) 0 ds → adm G K v 0 ds := by
    rintro ds (ha | ⟨es, k, u, h1, h2, h3 | ⟨_, h4⟩⟩)
    · exact Or.inl ha
    · rcases Nat.lt_or_ge u v with hu | hu
      · exact Or.inr ⟨es, k, u, h1, h2, Or.inl hu⟩
      · have e : u = v := by omega
        subst e
        exact (hn es h2).elim
    · omega
  intro x hx
  rcases h x hx with ⟨h1, h2⟩ | ⟨ds, h1, h2, h3⟩
  · exact Or.inl ⟨h1, fun ds hr ha => h2 ds hr (hb ds ha)⟩
  · exact Or.inr ⟨ds, h1, h2, fun es hr ha => h3 es hr (hb es ha)⟩
theorem fwi_next (hG : gOK G M N t rk) (hK : K < N) {v : Nat} (h : FWI G t N K v M f g) : FWI G t N K (v + 1) 0 f g := by
  intro x hx
  have hb : ∀ ds, runG G ds K = some x → adm G K (v + 1) 0 ds → adm G K v M ds := by
    rintro ds hr (ha | ⟨es, k, u, h1, h2, h3 | ⟨_, h4⟩⟩)
    · exact Or.inl ha
    · rcases Nat.lt_or_ge u v with hu | hu
      · exact Or.inr ⟨es, k, u, h1, h2, Or.inl hu⟩
      · have e : u = v := by omega
        subst e
        subst h1
        rw [run_snoc, h2] at hr
        have hu := (run_facts hG es K u hK h2).1
        exact Or.inr ⟨es, k, u, rfl, h2, Or.inr ⟨rfl, (hG.2.2.2.2 k u x hu hr).1⟩⟩
    · omega
  rcases h x hx with ⟨h1, h2⟩ | ⟨ds, h1, h2, h3⟩
  · exact Or.inl ⟨h1, fun ds hr ha => h2 ds hr (hb ds hr ha)⟩
  · exact Or.inr ⟨ds, h1, h2, fun es hr ha => h3 es hr (hb es hr ha)⟩
theorem fwi_step (hG : gOK G M N t rk) (hK : K < N) {v j u : Nat} (hv : v < N) (hf : ¬ f v = -1) (hj : G j v = some u) (h : FWI G t N K v j f g) :
    FWI G t N K v (j + 1) (offerF N (f, g) v (nI u) (nI (t j)) (nI j)).1 (offerF N (f, g) v (nI u) (nI (t j)) (nI j)).2 ∧ (offerF N (f, g) v (nI u) (nI (t j)) (nI j)).1 v = f v := by
  obtain ⟨a1, a2, a3, a4⟩ := hG.2.2.2.2 j v u hv hj
  have hN := hG.1
  obtain ⟨es, he, hE, hmin⟩ : ∃ es, runG G es K = some v ∧ eH t f g v es ∧ ∀ ds, runG G ds K = some v → rle t es ds := by
    rcases h v hv with ⟨h1, _⟩ | ⟨es, h1, h2, h3⟩
    · exact absurd h1 hf
    · exact ⟨es, h1, h2, fun ds hr => h3 ds hr (adm_all hG hK hr)⟩
  obtain ⟨o1, o2, o3, o4⟩ := offer_N hG hK hv he hE hj
  have hn : runG G (es ++ [j]) K = some u := run_snoc_of he hj
  unfold offerF
  cases hB : offerB N f g v (nI u) (nI (t j)) (nI j) with
  | true =>
    simp only [if_true]
    rw [nI_clamp (by omega), o3, o4]
    refine ⟨fun x hx => ?_, upd_n (by omega)⟩
    by_cases hxu : x = u
    · subst hxu
      refine Or.inr ⟨es ++ [j], hn, ⟨upd_s, updL_s⟩, fun ds hr ha => ?_⟩
      rcases adm_split hr ha with h4 | ⟨es', h4, h5, _⟩
      · rcases h x hx with ⟨h1, h2⟩ | ⟨ds0, h1, h2, h3⟩
        · exact absurd h4 (h2 ds hr)
        · have h6 := (o2 ds0 h1 h2).mp hB
          rcases rle_tot t (es ++ [j]) ds0 with h7 | h7
          · exact rle_tr h7 (h3 ds hr h4)
          · exact absurd h7 h6
      · subst h4
        exact rle_snoc j (hmin es' h5)
    · rcases h x hx with ⟨h1, h2⟩ | ⟨ds0, h1, h2, h3⟩
      · refine Or.inl ⟨by rw [upd_n hxu]; exact h1, fun ds hr ha => ?_⟩
        rcases adm_split hr ha with h4 | ⟨es', _, _, h4⟩
        · exact h2 ds hr h4
        · rw [hj] at h4; cases h4; exact hxu rfl
      · refine Or.inr ⟨ds0, h1, ⟨by rw [upd_n hxu]; exact h2.1, by rw [updL_n hxu]; exact h2.2⟩, fun ds hr ha => ?_⟩
        rcases adm_split hr ha with h4 | ⟨es', _, _, h4⟩
        · exact h3 ds hr h4
        · rw [hj] at h4; cases h4; exact absurd rfl hxu
  | false =>
    simp only [Bool.false_eq_true, if_false]
    refine ⟨fun x hx => ?_, trivial⟩
    by_cases hxu : x = u
    · subst hxu
      rcases h x hx with ⟨h1, h2⟩ | ⟨ds0, h1, h2, h3⟩
      · rw [o1 h1] at hB; cases hB
      · have h6 : rle t ds0 (es ++ [j]) := by
          rcases Classical.em (rle t ds0 (es ++ [j])) with q | q
          · exact q
          · rw [(o2 ds0 h1 h2).mpr q] at hB; cases hB
        refine Or.inr ⟨ds0, h1, h2, fun ds hr ha => ?_⟩
        rcases adm_split hr ha with h4 | ⟨es', h4, h5, _⟩
        · exact h3 ds hr h4
        · subst h4
          exact rle_tr h6 (rle_snoc j (hmin es' h5))
    · rcases h x hx with ⟨h1, h2⟩ | ⟨ds0, h1, h2, h3⟩
      · refine Or.inl ⟨h1, fun ds hr ha => ?_⟩
        rcases adm_split hr ha with h4 | ⟨es', _, _, h4⟩
        · exact h2 ds hr h4
        · rw [hj] at h4; cases h4; exact hxu rfl
      · refine Or.inr ⟨ds0, h1, h2, fun ds hr ha => ?_⟩
        rcases adm_split hr ha with h4 | ⟨es', _, _, h4⟩
        · exact h3 ds hr h4
        · rw [hj] at h4; cases h4; exact absurd rfl hxu
theorem fwi_start (hG : gOK G M N t rk) (hK : K < N) (hf : ∀ u, u < N → f u = if u = K then 0 else -1) (hg : g K = 0) : FWI G t N K K 0 f g := by
  have hnil : ∀ ds, adm G K K 0 ds → ds = [] := by
    rintro ds (ha | ⟨es, k, u, h1, h2, h3 | ⟨_, h4⟩⟩)
    · exact ha
    · have := (run_facts hG es K u hK h2).2.1
      omega
    · omega
  intro x hx
  by_cases hxK : x = K
  · subst hxK
    refine Or.inr ⟨[], rfl, ⟨by rw [hf x hx, if_pos rfl]; rfl, hg⟩, fun es hr ha => ?_⟩
    rw [hnil es ha]
    exact rle_rfl t []
  · refine Or.inl ⟨by rw [hf x hx, if_neg hxK], fun ds hr ha => ?_⟩
    rw [hnil ds ha] at hr
    cases hr
    exact hxK rfl
/-- what the search leaves -/
def FWE (G : Nat → Nat → Option Nat) (t : Nat → Nat) (N K : Nat) (f : Nat → Int32) (g : Nat → Int64) : Prop :=
  ∀ u, u < N → (f u = -1 ∧ ∀ ds, ¬ runG G ds K = some u) ∨ (∃ ds, runG G ds K = some u ∧ eH t f g u ds ∧ ∀ es, runG G es K = some u → rle t ds es)
theorem fwi_end (hG : gOK G M N t rk) (hK : K < N) (h : FWI G t N K N 0 f g) : FWE G t N K f g := by
  have hall : ∀ ds x, runG G ds K = some x → adm G K N 0 ds := by
    intro ds x hr
    rcases run_last hr with ⟨h, _⟩ | ⟨es, k, u, h1, h2, h3⟩
    · exact Or.inl h
    · exact Or.inr ⟨es, k, u, h1, h2, Or.inl (run_facts hG es K u hK h2).1⟩
  intro x hx
  rcases h x hx with ⟨h1, h2⟩ | ⟨ds, h1, h2, h3⟩
  · exact Or.inl ⟨h1, fun ds hr => h2 ds hr (hall ds x hr)⟩
  · exact Or.inr ⟨ds, h1, h2, fun es hr => h3 es hr (hall es x hr)⟩
end PFWD
