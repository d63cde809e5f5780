/-! ===== the pure part: way and shortens, the class's and the reference's ===== -/
section PWAY
variable {nN eN iN gN sN pN : Nat → Nat} {T P pa : Nat} {wt : Int32}
theorem stG_at {k v u : Nat} (h : stG nN eN iN gN sN T P wt k v = some u) : u = v ||| brN iN gN sN T k := by
  unfold stG at h
  split at h
  · cases h; rfl
  · cases h
theorem wtB_N (hT : T ≤ 12) (hpa : pa ≤ 10) (hB : shB nN eN gN sN pN T) (hI : imB iN) {q : (Nat → Int32) × (Nat → Int32)} {k v : Nat} (hk : k < 2 * P) (hv : v < 2 ^ T) :
    wtB (nF nN) (nF eN) (nF iN) (nF gN) (nF sN) (nF pN) T (nI pa) wt q v k = pW (stG nN eN iN gN sN T P wt) (tmN pN pa) q v k := by
  have hp := kpow hT
  unfold wtB pW
  rw [nbF_N hT hB hI hk hv, mtime_N hB hpa]
  cases h : stG nN eN iN gN sN T P wt k v with
  | none => rw [if_pos (show oI none = -1 from rfl)]
  | some u =>
    have hu : u < 2 ^ T := by rw [stG_at h]; exact Nat.or_lt_two_pow hv (brN_lt hB hI k)
    rw [show oI (some u) = nI u from rfl, if_neg (nI_m1 (by omega)), nI_clamp (by omega)]
theorem bh_st (hT : T ≤ 12) (hB : shB nN eN gN sN pN T) {k v u : Nat} (h : stG nN eN iN gN sN T P wt k v = some u) : bhF (nF iN) (nF gN) (nF sN) T k (nI v) = nI u := by
  rw [bhF_N hT hB, stG_at h]
theorem hBp_N (hT : T ≤ 12) (hB : shB nN eN gN sN pN T) (hI : imB iN) (wt : Int32) : hBp (nF nN) (nF eN) (nF iN) (nF gN) (nF sN) T P wt := by
  intro k hk v hv
  have hp := kpow hT
  rw [nbF_N hT hB hI hk hv]
  cases h : stG nN eN iN gN sN T P wt k v with
  | none => exact Or.inl rfl
  | some u =>
    have hu : u < 2 ^ T := by rw [stG_at h]; exact Nat.or_lt_two_pow hv (brN_lt hB hI k)
    exact Or.inr (vp_in_nI (by omega) (by decide))
theorem hBu_N (hT : T ≤ 12) (hP : P ≤ 14) (hB : shB nN eN gN sN pN T) (hI : imB iN) : hBu (nF nN) (nF eN) (nF iN) (nF gN) (nF sN) T P := by
  intro k hk v hv
  rw [nbF_N hT hB hI hk hv]
  cases h : stG nN eN iN gN sN T P (-1) k v with
  | none => exact Or.inl rfl
  | some u =>
    obtain ⟨a1, a2, a3, a4⟩ := (stG_OK (pa := 0) hT hP (by decide) hB hI).2.2.2.2 k v u hv h
    exact Or.inr ⟨u, a2, a3, rfl⟩
theorem hRp_N (hT : T ≤ 12) (hB : shB nN eN gN sN pN T) (hI : imB iN) : hRp (nF iN) (nF gN) (nF sN) T P := by
  intro k hk v hv
  exact ⟨v ||| brN iN gN sN T k, Nat.left_le_or, Nat.or_lt_two_pow hv (brN_lt hB hI k), bhF_N hT hB⟩
/-- the reference's choice of a step -/
theorem kF_N (hT : T ≤ 12) (hpa : pa ≤ 10) (hB : shB nN eN gN sN pN T) (hI : imB iN) (q : (Nat → Int32) × (Nat → Int32)) {v : Nat} (hv : v < 2 ^ T) (h : ∃ k, k < 2 * P ∧ pW (stG nN eN iN gN sN T P wt) (tmN pN pa) q v k = true) :
    pW (stG nN eN iN gN sN T P wt) (tmN pN pa) q v (trK (nF nN) (nF eN) (nF iN) (nF gN) (nF sN) (nF pN) T P (nI pa) wt q v) = true ∧ trK (nF nN) (nF eN) (nF iN) (nF gN) (nF sN) (nF pN) T P (nI pa) wt q v < 2 * P ∧ (∀ j, j < trK (nF nN) (nF eN) (nF iN) (nF gN) (nF sN) (nF pN) T P (nI pa) wt q v → pW (stG nN eN iN gN sN T P wt) (tmN pN pa) q v j = false) ∧
      ∀ u, stG nN eN iN gN sN T P wt (trK (nF nN) (nF eN) (nF iN) (nF gN) (nF sN) (nF pN) T P (nI pa) wt q v) v = some u → (bhF (nF iN) (nF gN) (nF sN) T (trK (nF nN) (nF eN) (nF iN) (nF gN) (nF sN) (nF pN) T P (nI pa) wt q v) (nI v)).toNatClampNeg = u := by
  obtain ⟨k0, h1, h2⟩ := h
  obtain ⟨a1, a2, a3, a4⟩ := fst_spec (wtB (nF nN) (nF eN) (nF iN) (nF gN) (nF sN) (nF pN) T (nI pa) wt q v) (2 * P) 0 ⟨k0, Nat.zero_le _, by omega, by rw [wtB_N hT hpa hB hI h1 hv]; exact h2⟩
  have e : trK (nF nN) (nF eN) (nF iN) (nF gN) (nF sN) (nF pN) T P (nI pa) wt q v = fstF (wtB (nF nN) (nF eN) (nF iN) (nF gN) (nF sN) (nF pN) T (nI pa) wt q v) (2 * P) 0 := rfl
  rw [← e] at a1 a3 a4
  have hk : trK (nF nN) (nF eN) (nF iN) (nF gN) (nF sN) (nF pN) T P (nI pa) wt q v < 2 * P := by omega
  refine ⟨by rw [← wtB_N hT hpa hB hI hk hv]; exact a1, hk, fun j hj => ?_, fun u hu => ?_⟩
  · rw [← wtB_N hT hpa hB hI (by omega) hv]
    exact a4 j (Nat.zero_le _) hj
  · have hlt : u < 2 ^ T := by rw [stG_at hu]; exact Nat.or_lt_two_pow hv (brN_lt hB hI _)
    have hp := kpow hT
    rw [bh_st hT hB hu, nI_clamp (by omega)]
theorem trR_at (ne ei im gi sk pg : Nat → Int32) (T P : Nat) (pa wt : Int32) (q : (Nat → Int32) × (Nat → Int32)) (K : Nat) (ro : Nat → Int32) : ∀ n j, trR ne ei im gi sk pg T P pa wt q K ro n j = if j < n then nI (trK ne ei im gi sk pg T P pa wt q (trV ne ei im gi sk pg T P pa wt q K j)) else ro j
  | 0, j => by simp [trR]
  | n + 1, j => by
    have ih := trR_at ne ei im gi sk pg T P pa wt q K ro n j
    unfold trR
    by_cases h : j = n
    · subst h
      rw [upd_s, if_pos (by omega)]
    · rw [upd_n h, ih]
      by_cases h2 : j < n
      · rw [if_pos h2, if_pos (by omega)]
      · rw [if_neg h2, if_neg (by omega)]
/-- what way's walk of the reference needs -/
theorem trP_N (hT : T ≤ 12) (hP : P ≤ 14) (hpa : pa ≤ 10) (hB : shB nN eN gN sN pN T) (hI : imB iN) {w : Nat} {q : (Nat → Int32) × (Nat → Int32)} (hall : ∀ x, x < 2 ^ T → bOK (stG nN eN iN gN sN T P wt) (tmN pN pa) w q x) :
    trP (nF nN) (nF eN) (nF iN) (nF gN) (nF sN) (nF pN) T P (nI pa) wt q (fun v => (q.2 v).toNatClampNeg) := by
  have hG := stG_OK (wt := wt) hT hP hpa hB hI
  have hlen : ∀ v, v < 2 ^ T → ∀ ds, oRow (stG nN eN iN gN sN T P wt) (tmN pN pa) w v ds → (q.2 v).toNatClampNeg = ds.length := by
    intro v hv ds ho
    rw [(bok_E hG hv (hall v hv) ho).2]
    exact nI_clamp (by have := (brow_small hG hv ho.1).2; omega)
  intro v hv
  rcases hall v hv with ⟨c1, c2, _⟩ | ⟨ds, c1, c2, c3⟩
  · have e : (q.2 v).toNatClampNeg = 0 := by rw [c2]; rfl
    refine ⟨by show q.2 v = nI (q.2 v).toNatClampNeg; rw [e, c2]; rfl, by show (q.2 v).toNatClampNeg ≤ 12; omega, fun h => ?_⟩
    have h : 0 < (q.2 v).toNatClampNeg := h
    omega
  · have ho : oRow (stG nN eN iN gN sN T P wt) (tmN pN pa) w v ds := ⟨c1, c3⟩
    have e := hlen v hv ds ho
    have s2 := (brow_small hG hv c1).2
    refine ⟨by show q.2 v = nI (q.2 v).toNatClampNeg; rw [e]; exact c2.2, by show (q.2 v).toNatClampNeg ≤ 12; omega, fun h => ?_⟩
    have h : 0 < (q.2 v).toNatClampNeg := h
    cases ds with
    | nil => rw [e] at h; exact absurd h (Nat.lt_irrefl 0)
    | cons k es =>
      obtain ⟨u, d1, d2, d3, d4, d5⟩ := pw_A hG hall hv ho
      refine ⟨⟨k, d3, by rw [wtB_N hT hpa hB hI d3 hv]; exact d5⟩, fun k' hk' hw' => ?_⟩
      rw [wtB_N hT hpa hB hI hk' hv] at hw'
      obtain ⟨u', es', f1, f2, f3, f4⟩ := pw_B hG hall hv hw'
      refine ⟨u', f2, bh_st hT hB f1, ?_⟩
      show (q.2 u').toNatClampNeg + 1 = (q.2 v).toNatClampNeg
      rw [hlen u' f2 es' f3, hlen v hv _ f4]
      rfl
/-- minutes alone, as shortens asks them -/
theorem way_cost (hT : T ≤ 12) (hP : P ≤ 14) (hpa : pa ≤ 10) (hB : shB nN eN gN sN pN T) (hI : imB iN) {w K : Nat} (hw : w < 2 ^ T) (hK : K < 2 ^ T) {f : Nat → Int32} {g : Nat → Int64} {qc : (Nat → Int32) × (Nat → Int64)}
    (hqc : qc = expF (2 ^ T) P (nF nN) (nF eN) (nF (gvN iN gN T)) (nF (gvN iN sN T)) (nF pN) (nI pa) wt K (upd (fillF f (2 ^ T)) K 0, vp_updL g K 0) (2 ^ T - K))
    {co st : Nat → Int32} {q : (Nat → Int32) × (Nat → Int32)} (hq : q = fwF (nF nN) (nF eN) (nF iN) (nF gN) (nF sN) (nF pN) co st T P (nI pa) wt (nI w) (2 ^ T)) :
    (endF qc.1 qc.2 (nI w) (2 ^ T) = -1 ∧ q.1 K = 268435456) ∨ (∃ e c, e < 2 ^ T ∧ endF qc.1 qc.2 (nI w) (2 ^ T) = nI e ∧ qc.1 e / 16 = nI c ∧ q.1 K = nI c ∧ c ≤ 48000) := by
  have hG := stG_OK (wt := wt) hT hP hpa hB hI
  have hF := exp_fwe (wt := wt) hT hP hpa hB hI hK f g hqc
  have hall : ∀ x, x < 2 ^ T → bOK (stG nN eN iN gN sN T P wt) (tmN pN pa) w q x := fun x hx => fw_B hT hP hpa hB hI hw co st hq hx
  rcases end_B hG hK hF w (kp31 hT hw) with ⟨a1, a2⟩ | ⟨e, ds, a1, a2, a3, a4, a5⟩
  · refine Or.inl ⟨a1, ?_⟩
    rcases hall K hK with ⟨c1, _, _⟩ | ⟨es, ⟨x, d1, d2⟩, _, _⟩
    · exact c1
    · exact absurd d2 (a2 es x d1)
  · have s := run_small hG hK a3
    refine Or.inr ⟨e, tmS (tmN pN pa) ds, a1, a2, ?_, (bok_E hG hK (hall K hK) (best_row hG hK a5)).1, s.2.1⟩
    rw [a4.1, show (16 : Int32) = nI 16 from rfl, pk_div (by omega) (by decide) (by decide), (cst_div hG hK a3).1]
/-- the best way, the class's and the reference's -/
theorem way_eq (hT : T ≤ 12) (hP : P ≤ 14) (hpa : pa ≤ 10) (hB : shB nN eN gN sN pN T) (hI : imB iN) {w K : Nat} (hw : w < 2 ^ T) (hK : K < 2 ^ T) {f : Nat → Int32} {g : Nat → Int64} {qc : (Nat → Int32) × (Nat → Int64)}
    (hqc : qc = expF (2 ^ T) P (nF nN) (nF eN) (nF (gvN iN gN T)) (nF (gvN iN sN T)) (nF pN) (nI pa) wt K (upd (fillF f (2 ^ T)) K 0, vp_updL g K 0) (2 ^ T - K))
    {co st : Nat → Int32} {q : (Nat → Int32) × (Nat → Int32)} (hq : q = fwF (nF nN) (nF eN) (nF iN) (nF gN) (nF sN) (nF pN) co st T P (nI pa) wt (nI w) (2 ^ T)) :
    (endF qc.1 qc.2 (nI w) (2 ^ T) = -1 ∧ q.1 K = 268435456) ∨ (∃ e cs, e < 2 ^ T ∧ endF qc.1 qc.2 (nI w) (2 ^ T) = nI e ∧ qc.1 e = nI cs ∧ cs < 2 ^ 31 ∧ cs % 16 ≤ 12 ∧ q.1 K = nI (cs / 16) ∧ cs / 16 ≤ 48000 ∧ (q.2 K).toNatClampNeg = cs % 16 ∧
      ∀ rf ro j, j < cs % 16 → copyF rf (qc.2 e) (cs % 16) (cs % 16) j = trR (nF nN) (nF eN) (nF iN) (nF gN) (nF sN) (nF pN) T P (nI pa) wt q K ro (cs % 16) j ∧ ∃ k, k < 28 ∧ copyF rf (qc.2 e) (cs % 16) (cs % 16) j = nI k) := by
  have hG := stG_OK (wt := wt) hT hP hpa hB hI
  have hF := exp_fwe (wt := wt) hT hP hpa hB hI hK f g hqc
  have hall : ∀ x, x < 2 ^ T → bOK (stG nN eN iN gN sN T P wt) (tmN pN pa) w q x := fun x hx => fw_B hT hP hpa hB hI hw co st hq hx
  rcases end_B hG hK hF w (kp31 hT hw) with ⟨a1, a2⟩ | ⟨e, ds, a1, a2, a3, a4, a5⟩
  · refine Or.inl ⟨a1, ?_⟩
    rcases hall K hK with ⟨c1, _, _⟩ | ⟨es, ⟨x, d1, d2⟩, _, _⟩
    · exact c1
    · exact absurd d2 (a2 es x d1)
  · have s := run_small hG hK a3
    obtain ⟨d1, d2⟩ := cst_div hG hK a3
    have ho := best_row hG hK a5
    have hE := bok_E hG hK (hall K hK) ho
    obtain ⟨t1, t2, t3⟩ := trace_opt hG hall (fun v hv h => kF_N hT hpa hB hI q hv h) ds.length K ds hK ho rfl
    have hb := orow_best hG hK t1 (fun es he => t3 es he 0)
    obtain ⟨b1, b2, b3⟩ := best_one hG hK a5 hb
    have hsm1 : ∀ k ∈ ds, k < 32 := fun k hk => by have := (run_facts hG ds K e hK a3).2.2.2 k hk; omega
    have hsm2 : ∀ k ∈ (trD (fun v => trK (nF nN) (nF eN) (nF iN) (nF gN) (nF sN) (nF pN) T P (nI pa) wt q v) (fun v => (bhF (nF iN) (nF gN) (nF sN) T (trK (nF nN) (nF eN) (nF iN) (nF gN) (nF sN) (nF pN) T P (nI pa) wt q v) (nI v)).toNatClampNeg) ds.length K), k < 32 := by
      obtain ⟨y, r1, _⟩ := t1.1
      intro k hk
      have := (run_facts hG _ K y hK r1).2.2.2 k hk
      omega
    refine Or.inr ⟨e, cst (tmN pN pa) ds, a1, a2, a4.1, by omega, by omega, ?_, by omega, ?_, fun rf ro j hj => ?_⟩
    · rw [d1]; exact hE.1
    · rw [d2, hE.2, nI_clamp (by omega)]
    · rw [d2] at hj ⊢
      have hc := copy_N (rf := rf) hsm1 (by omega) hj
      have h1 : ds.getD j 0 < 28 := by
        have hm : ds.getD j 0 ∈ ds := by
          rw [List.getD_eq_getElem?_getD, List.getElem?_eq_getElem hj]
          exact List.getElem_mem hj
        have := (run_facts hG ds K e hK a3).2.2.2 _ hm
        omega
      refine ⟨?_, ds.getD j 0, h1, by rw [a4.2]; exact hc⟩
      rw [a4.2, hc, trR_at, if_pos hj, codA_eq hsm1 hsm2 b2 b3 hj]
      congr 1
      exact trD_at (fun v => trK (nF nN) (nF eN) (nF iN) (nF gN) (nF sN) (nF pN) T P (nI pa) wt q v) (fun v => (bhF (nF iN) (nF gN) (nF sN) T (trK (nF nN) (nF eN) (nF iN) (nF gN) (nF sN) (nF pN) T P (nI pa) wt q v) (nI v)).toNatClampNeg)
        (fun v n => trV (nF nN) (nF eN) (nF iN) (nF gN) (nF sN) (nF pN) T P (nI pa) wt q v n) (fun v => rfl) (fun v n => rfl) ds.length K j hj
end PWAY
