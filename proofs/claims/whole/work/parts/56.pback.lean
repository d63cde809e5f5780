/-! ===== the pure part: the reference's search, from the wish back ===== -/
def bRow (G : Nat → Nat → Option Nat) (w v : Nat) (ds : List Nat) : Prop := ∃ u, runG G ds v = some u ∧ u &&& w = w
def vle (t : Nat → Nat) (ds es : List Nat) : Prop := tmS t ds < tmS t es ∨ (tmS t ds = tmS t es ∧ ds.length ≤ es.length)
def bE (t : Nat → Nat) (q : (Nat → Int32) × (Nat → Int32)) (v : Nat) (ds : List Nat) : Prop := q.1 v = nI (tmS t ds) ∧ q.2 v = nI ds.length
def bOK (G : Nat → Nat → Option Nat) (t : Nat → Nat) (w : Nat) (q : (Nat → Int32) × (Nat → Int32)) (v : Nat) : Prop :=
  (q.1 v = 268435456 ∧ q.2 v = 0 ∧ ∀ ds, ¬ bRow G w v ds) ∨ (∃ ds, bRow G w v ds ∧ bE t q v ds ∧ ∀ es, bRow G w v es → vle t ds es)
def bIn (G : Nat → Nat → Option Nat) (t : Nat → Nat) (w v j : Nat) (q : (Nat → Int32) × (Nat → Int32)) : Prop :=
  (q.1 v = 268435456 ∧ q.2 v = 0 ∧ ∀ k es, k < j → ¬ bRow G w v (k :: es)) ∨ (∃ ds, bRow G w v ds ∧ bE t q v ds ∧ ∀ k es, k < j → bRow G w v (k :: es) → vle t ds (k :: es))
def relU (q : (Nat → Int32) × (Nat → Int32)) (v u tt : Nat) : (Nat → Int32) × (Nat → Int32) :=
  if q.1 u = 268435456 then q
  else if q.1 v < nI tt + q.1 u then q
  else if ¬ nI tt + q.1 u = q.1 v then (upd q.1 v (nI tt + q.1 u), upd q.2 v (1 + q.2 u))
  else if 1 + q.2 u < q.2 v then (upd q.1 v (nI tt + q.1 u), upd q.2 v (1 + q.2 u))
  else q
def relO (q : (Nat → Int32) × (Nat → Int32)) (v tt : Nat) (o : Option Nat) : (Nat → Int32) × (Nat → Int32) := match o with
  | none => q
  | some u => relU q v u tt
theorem kFAR : (268435456 : Int32) = nI 268435456 := rfl
theorem vle_tr {t : Nat → Nat} {a b c : List Nat} (h1 : vle t a b) (h2 : vle t b c) : vle t a c := by
  unfold vle at *
  omega
theorem vle_cons {t : Nat → Nat} {a b : List Nat} (k : Nat) (h : vle t a b) : vle t (k :: a) (k :: b) := by
  unfold vle at *
  show t k + tmS t a < t k + tmS t b ∨ (t k + tmS t a = t k + tmS t b ∧ a.length + 1 ≤ b.length + 1)
  omega
section PBACK
variable {G : Nat → Nat → Option Nat} {M N : Nat} {t rk : Nat → Nat} {w : Nat}
theorem brow_cons {k v : Nat} {es : List Nat} (h : bRow G w v (k :: es)) : ∃ u, G k v = some u ∧ bRow G w u es := by
  obtain ⟨x, h1, h2⟩ := h
  have h1 : (G k v).bind (runG G es) = some x := h1
  cases hk : G k v with
  | none => rw [hk] at h1; cases h1
  | some u => rw [hk] at h1; exact ⟨u, rfl, x, h1, h2⟩
theorem brow_mk {k v u : Nat} {es : List Nat} (hk : G k v = some u) (h : bRow G w u es) : bRow G w v (k :: es) := by
  obtain ⟨x, h1, h2⟩ := h
  refine ⟨x, ?_, h2⟩
  show (G k v).bind (runG G es) = some x
  rw [hk]; exact h1
theorem brow_small (hG : gOK G M N t rk) {v : Nat} {ds : List Nat} (hv : v < N) (h : bRow G w v ds) : tmS t ds ≤ 48000 ∧ ds.length ≤ 12 := by
  obtain ⟨x, h1, _⟩ := h
  exact ⟨(run_small hG hv h1).2.1, (run_small hG hv h1).1⟩
theorem rel_step (hG : gOK G M N t rk) {v j : Nat} (hv : v < N) {q : (Nat → Int32) × (Nat → Int32)} (hq : ∀ x, v < x → x < N → bOK G t w q x) (h : bIn G t w v j q) :
    bIn G t w v (j + 1) (relO q v (t j) (G j v)) ∧ ∀ x, x ≠ v → (relO q v (t j) (G j v)).1 x = q.1 x ∧ (relO q v (t j) (G j v)).2 x = q.2 x := by
  have hlt : ∀ k, k < j + 1 → k < j ∨ k = j := fun k hk => by omega
  have hsame : (∀ es, ¬ bRow G w v (j :: es)) → bIn G t w v (j + 1) q := by
    intro hno
    rcases h with ⟨h1, h2, h3⟩ | ⟨ds, h1, h2, h3⟩
    · refine Or.inl ⟨h1, h2, fun k es hk => ?_⟩
      rcases hlt k hk with a | a
      · exact h3 k es a
      · subst a; exact hno es
    · refine Or.inr ⟨ds, h1, h2, fun k es hk hr => ?_⟩
      rcases hlt k hk with a | a
      · exact h3 k es a hr
      · subst a; exact absurd hr (hno es)
  cases hj : G j v with
  | none =>
    refine ⟨hsame fun es hr => ?_, fun x _ => ⟨rfl, rfl⟩⟩
    obtain ⟨u, h1, _⟩ := brow_cons hr
    rw [hj] at h1; cases h1
  | some u =>
    obtain ⟨a1, a2, a3, a4⟩ := hG.2.2.2.2 j v u hv hj
    show bIn G t w v (j + 1) (relU q v u (t j)) ∧ ∀ x, x ≠ v → (relU q v u (t j)).1 x = q.1 x ∧ (relU q v u (t j)).2 x = q.2 x
    have htail : ∀ es, bRow G w v (j :: es) → bRow G w u es := by
      intro es hr
      obtain ⟨u', h1, h2⟩ := brow_cons hr
      rw [hj] at h1; cases h1; exact h2
    rcases hq u a2 a3 with ⟨c1, c2, c3⟩ | ⟨du, c1, c2, c3⟩
    · have e : relU q v u (t j) = q := if_pos c1
      rw [e]
      exact ⟨hsame fun es hr => c3 es (htail es hr), fun x _ => ⟨rfl, rfl⟩⟩
    · have hcand : bRow G w v (j :: du) := brow_mk hj c1
      obtain ⟨s1, s2⟩ := brow_small hG hv hcand
      have s3 : t j + tmS t du ≤ 48000 := s1
      have s4 : du.length + 1 ≤ 12 := s2
      have hc : nI (t j) + q.1 u = nI (tmS t (j :: du)) := by rw [c2.1, nI_add]; rfl
      have hn : 1 + q.2 u = nI (j :: du).length := by rw [c2.2, show (1 : Int32) = nI 1 from rfl, nI_add, Nat.add_comm]; rfl
      have hF : ¬ q.1 u = 268435456 := by rw [c2.1, kFAR, nI_eq (by omega) (by decide)]; omega
      have hmin : ∀ es, bRow G w v (j :: es) → vle t (j :: du) (j :: es) := fun es hr => vle_cons j (c3 es (htail es hr))
      -- taking the candidate
      have htake : (∀ k es, k < j → bRow G w v (k :: es) → vle t (j :: du) (k :: es)) →
          bIn G t w v (j + 1) (upd q.1 v (nI (t j) + q.1 u), upd q.2 v (1 + q.2 u)) ∧ ∀ x, x ≠ v → (upd q.1 v (nI (t j) + q.1 u)) x = q.1 x ∧ (upd q.2 v (1 + q.2 u)) x = q.2 x := by
        intro hk0
        refine ⟨Or.inr ⟨j :: du, hcand, ⟨?_, ?_⟩, fun k es hk hr => ?_⟩, fun x hx => ⟨upd_n hx, upd_n hx⟩⟩
        · show upd q.1 v (nI (t j) + q.1 u) v = _
          rw [upd_s, hc]
        · show upd q.2 v (1 + q.2 u) v = _
          rw [upd_s, hn]
        · rcases hlt k hk with a | a
          · exact hk0 k es a hr
          · subst a; exact hmin es hr
      unfold relU
      rw [if_neg hF]
      rcases h with ⟨h1, h2, h3⟩ | ⟨ds, h1, h2, h3⟩
      · rw [h1, hc, if_neg (by rw [kFAR, nI_ltI (by decide) (by omega)]; omega), if_pos (by rw [kFAR, nI_eq (by omega) (by decide)]; omega)]
        rw [← hc]
        exact htake fun k es hk hr => absurd hr (h3 k es hk)
      · obtain ⟨r1, r2⟩ := brow_small hG hv h1
        rw [h2.1, hc]
        by_cases b1 : tmS t ds < tmS t (j :: du)
        · rw [if_pos (nI_lt b1 (by omega))]
          refine ⟨Or.inr ⟨ds, h1, h2, fun k es hk hr => ?_⟩, fun x _ => ⟨rfl, rfl⟩⟩
          rcases hlt k hk with a | a
          · exact h3 k es a hr
          · subst a; exact vle_tr (Or.inl b1) (hmin es hr)
        · rw [if_neg (fun q => b1 ((nI_ltI (by omega) (by omega)).mp q))]
          by_cases b2 : tmS t (j :: du) = tmS t ds
          · rw [if_neg (fun q => q (by rw [b2])), h2.2, hn]
            by_cases b3 : (j :: du).length < ds.length
            · rw [if_pos (nI_lt b3 (by omega)), ← hc, ← hn]
              exact htake fun k es hk hr => vle_tr (Or.inr ⟨b2, by omega⟩) (h3 k es hk hr)
            · rw [if_neg (fun q => b3 ((nI_ltI (by omega) (by omega)).mp q))]
              refine ⟨Or.inr ⟨ds, h1, h2, fun k es hk hr => ?_⟩, fun x _ => ⟨rfl, rfl⟩⟩
              rcases hlt k hk with a | a
              · exact h3 k es a hr
              · subst a; exact vle_tr (Or.inr ⟨b2.symm, by omega⟩) (hmin es hr)
          · rw [if_pos (fun q => b2 ((nI_eq (by omega) (by omega)).mp q)), ← hc]
            exact htake fun k es hk hr => vle_tr (Or.inl (by omega)) (h3 k es hk hr)
end PBACK
section PBACK2
variable {nN eN iN gN sN pN : Nat → Nat} {T P pa : Nat} {wt : Int32}
theorem rel_N (hT : T ≤ 12) (hpa : pa ≤ 10) (hB : shB nN eN gN sN pN T) (hI : imB iN) {s v : Nat} (hs : s < 2 * P) (hv : v < 2 ^ T) (q : (Nat → Int32) × (Nat → Int32)) :
    relF (nF nN) (nF eN) (nF iN) (nF gN) (nF sN) (nF pN) T (nI pa) wt v s q = relO q v (tmN pN pa s) (stG nN eN iN gN sN T P wt s v) := by
  have hp := kpow hT
  unfold relF
  rw [nbF_N hT hB hI hs hv, mtime_N hB hpa]
  cases h : stG nN eN iN gN sN T P wt s v with
  | none => rw [if_pos (show oI none = -1 from rfl)]; rfl
  | some u =>
    have hu : u < 2 ^ T := by
      unfold stG at h
      split at h
      · cases h; exact Nat.or_lt_two_pow hv (brN_lt hB hI s)
      · cases h
    show (if oI (some u) = -1 then q else _) = relU q v u (tmN pN pa s)
    rw [show oI (some u) = nI u from rfl, if_neg (nI_m1 (by omega)), nI_clamp (by omega)]
    rfl
theorem rlx_N (hT : T ≤ 12) (hP : P ≤ 14) (hpa : pa ≤ 10) (hB : shB nN eN gN sN pN T) (hI : imB iN) {w v : Nat} (hv : v < 2 ^ T) {q : (Nat → Int32) × (Nat → Int32)} (hq : ∀ x, v < x → x < 2 ^ T → bOK (stG nN eN iN gN sN T P wt) (tmN pN pa) w q x) (h0 : bIn (stG nN eN iN gN sN T P wt) (tmN pN pa) w v 0 q) : ∀ s, s ≤ 2 * P →
    bIn (stG nN eN iN gN sN T P wt) (tmN pN pa) w v s (rlxF (nF nN) (nF eN) (nF iN) (nF gN) (nF sN) (nF pN) T (nI pa) wt v q s) ∧ ∀ x, x ≠ v → (rlxF (nF nN) (nF eN) (nF iN) (nF gN) (nF sN) (nF pN) T (nI pa) wt v q s).1 x = q.1 x ∧ (rlxF (nF nN) (nF eN) (nF iN) (nF gN) (nF sN) (nF pN) T (nI pa) wt v q s).2 x = q.2 x
  | 0, _ => ⟨h0, fun x _ => ⟨rfl, rfl⟩⟩
  | s + 1, hs => by
    obtain ⟨ih1, ih2⟩ := rlx_N hT hP hpa hB hI hv hq h0 s (by omega)
    show bIn _ _ _ _ _ (relF _ _ _ _ _ _ _ _ _ v s (rlxF _ _ _ _ _ _ _ _ _ v q s)) ∧ ∀ x, x ≠ v → (relF _ _ _ _ _ _ _ _ _ v s (rlxF _ _ _ _ _ _ _ _ _ v q s)).1 x = q.1 x ∧ (relF _ _ _ _ _ _ _ _ _ v s (rlxF _ _ _ _ _ _ _ _ _ v q s)).2 x = q.2 x
    rw [rel_N hT hpa hB hI (show s < 2 * P by omega) hv]
    have hq' : ∀ x, v < x → x < 2 ^ T → bOK (stG nN eN iN gN sN T P wt) (tmN pN pa) w (rlxF (nF nN) (nF eN) (nF iN) (nF gN) (nF sN) (nF pN) T (nI pa) wt v q s) x := by
      intro x h1 h2
      obtain ⟨e1, e2⟩ := ih2 x (by omega)
      rcases hq x h1 h2 with ⟨c1, c2, c3⟩ | ⟨ds, c1, c2, c3⟩
      · exact Or.inl ⟨e1.trans c1, e2.trans c2, c3⟩
      · exact Or.inr ⟨ds, c1, ⟨e1.trans c2.1, e2.trans c2.2⟩, c3⟩
    obtain ⟨r1, r2⟩ := rel_step (stG_OK hT hP hpa hB hI) hv hq' ih1
    exact ⟨r1, fun x hx => ⟨(r2 x hx).1.trans (ih2 x hx).1, (r2 x hx).2.trans (ih2 x hx).2⟩⟩
theorem fw_N (hT : T ≤ 12) (hP : P ≤ 14) (hpa : pa ≤ 10) (hB : shB nN eN gN sN pN T) (hI : imB iN) {w : Nat} (hw : w < 2 ^ T) (co st : Nat → Int32) : ∀ k, k ≤ 2 ^ T → ∀ x, x < 2 ^ T → 2 ^ T ≤ x + k →
    bOK (stG nN eN iN gN sN T P wt) (tmN pN pa) w (fwF (nF nN) (nF eN) (nF iN) (nF gN) (nF sN) (nF pN) co st T P (nI pa) wt (nI w) k) x
  | 0, _, x, hx, h => absurd h (by omega)
  | k + 1, hk, x, hx, h => by
    have ih := fw_N hT hP hpa hB hI hw co st k (by omega)
    have hp := kpow hT
    have hv : 2 ^ T - 1 - k < 2 ^ T := by omega
    have hle := andn_le w (2 ^ T - 1 - k)
    have hc : (nI w &&& xnot (nI (2 ^ T - 1 - k)) = 0) ↔ (2 ^ T - 1 - k) &&& w = w := by
      unfold xnot
      rw [hx_andn, nI_z (by omega), andn_0, Nat.and_comm]
    unfold fwF
    by_cases h1 : (2 ^ T - 1 - k) &&& w = w
    · rw [if_pos (hc.mpr h1)]
      by_cases hxe : x = 2 ^ T - 1 - k
      · refine Or.inr ⟨[], ⟨x, rfl, by rw [hxe]; exact h1⟩, ⟨?_, ?_⟩, fun es hr => ?_⟩
        · show upd _ _ 0 x = _
          rw [hxe, upd_s]; rfl
        · show upd _ _ 0 x = _
          rw [hxe, upd_s]; rfl
        · unfold vle
          show 0 < tmS _ es ∨ (0 = tmS _ es ∧ 0 ≤ es.length)
          omega
      · rcases ih x hx (by omega) with ⟨c1, c2, c3⟩ | ⟨ds, c1, c2, c3⟩
        · exact Or.inl ⟨(upd_n hxe).trans c1, (upd_n hxe).trans c2, c3⟩
        · exact Or.inr ⟨ds, c1, ⟨(upd_n hxe).trans c2.1, (upd_n hxe).trans c2.2⟩, c3⟩
    · rw [if_neg (fun q => h1 (hc.mp q))]
      have hq : ∀ y, 2 ^ T - 1 - k < y → y < 2 ^ T → bOK (stG nN eN iN gN sN T P wt) (tmN pN pa) w (upd (fwF (nF nN) (nF eN) (nF iN) (nF gN) (nF sN) (nF pN) co st T P (nI pa) wt (nI w) k).1 (2 ^ T - 1 - k) 268435456, upd (fwF (nF nN) (nF eN) (nF iN) (nF gN) (nF sN) (nF pN) co st T P (nI pa) wt (nI w) k).2 (2 ^ T - 1 - k) 0) y := by
        intro y a1 a2
        have hye : y ≠ 2 ^ T - 1 - k := by omega
        rcases ih y a2 (by omega) with ⟨c1, c2, c3⟩ | ⟨ds, c1, c2, c3⟩
        · exact Or.inl ⟨(upd_n hye).trans c1, (upd_n hye).trans c2, c3⟩
        · exact Or.inr ⟨ds, c1, ⟨(upd_n hye).trans c2.1, (upd_n hye).trans c2.2⟩, c3⟩
      obtain ⟨r1, r2⟩ := rlx_N hT hP hpa hB hI (w := w) hv hq (Or.inl ⟨upd_s, upd_s, fun k es hk => absurd hk (by omega)⟩) (2 * P) (Nat.le_refl _)
      by_cases hxe : x = 2 ^ T - 1 - k
      · rw [hxe]
        have hcons : ∀ es, bRow (stG nN eN iN gN sN T P wt) w (2 ^ T - 1 - k) es → ∃ d ds, es = d :: ds ∧ d < 2 * P := by
          intro es hr
          cases es with
          | nil => obtain ⟨u, q1, q2⟩ := hr; cases q1; exact absurd q2 h1
          | cons d ds =>
            obtain ⟨u, q1, _⟩ := brow_cons hr
            exact ⟨d, ds, rfl, ((stG_OK hT hP hpa hB hI).2.2.2.2 d _ u hv q1).1⟩
        rcases r1 with ⟨c1, c2, c3⟩ | ⟨ds, c1, c2, c3⟩
        · refine Or.inl ⟨c1, c2, fun es hr => ?_⟩
          obtain ⟨d, ds, rfl, hd⟩ := hcons es hr
          exact c3 d ds hd hr
        · refine Or.inr ⟨ds, c1, c2, fun es hr => ?_⟩
          obtain ⟨d, ds', rfl, hd⟩ := hcons es hr
          exact c3 d ds' hd hr
      · obtain ⟨e1, e2⟩ := r2 x hxe
        rcases hq x (by omega) hx with ⟨c1, c2, c3⟩ | ⟨ds, c1, c2, c3⟩
        · exact Or.inl ⟨e1.trans c1, e2.trans c2, c3⟩
        · exact Or.inr ⟨ds, c1, ⟨e1.trans c2.1, e2.trans c2.2⟩, c3⟩
/-- the reference's search leaves the shortest way from each set -/
theorem fw_B (hT : T ≤ 12) (hP : P ≤ 14) (hpa : pa ≤ 10) (hB : shB nN eN gN sN pN T) (hI : imB iN) {w : Nat} (hw : w < 2 ^ T) (co st : Nat → Int32) {q : (Nat → Int32) × (Nat → Int32)} (hq : q = fwF (nF nN) (nF eN) (nF iN) (nF gN) (nF sN) (nF pN) co st T P (nI pa) wt (nI w) (2 ^ T)) {x : Nat} (hx : x < 2 ^ T) :
    bOK (stG nN eN iN gN sN T P wt) (tmN pN pa) w q x := by
  subst hq
  exact fw_N hT hP hpa hB hI hw co st (2 ^ T) (Nat.le_refl _) x hx (by omega)
end PBACK2
