/-! ===== the pure part: answer, question, settle, state ===== -/
section PASK3
variable {iN aN : Nat → Nat} {T : Nat}
/-- the class's row of states, and its row of answers -/
def stOK (iN aN : Nat → Nat) (T : Nat) (sf : Nat → Int32) (ns am : Nat) : Prop := enumOK (pS iN aN T) (2 ^ T) sf ns ∧ 0 < ns ∧ am < 2 ^ T ∧ ∀ t, am.testBit t = true ↔ ¬ aN t = 0
def leftN (p : Nat → Bool) (N t : Nat) (is : Bool) : Nat := cntP (fun u => p u && (u.testBit t == is)) N
theorem left_N {p : Nat → Bool} {N ns t : Nat} {sf : Nat → Int32} (hN : N ≤ 4096) (h : enumOK p N sf ns) (ht : t < 32) (is : Bool) : (if is then cntN sf (nI t) 0 ns else ns - cntN sf (nI t) 0 ns) = leftN p N t is := by
  have h1 := enum_cnt hN h ht N (Nat.le_refl _)
  rw [← h.1] at h1
  have h2 := cntP_split p (fun u => u.testBit t) N
  rw [← h.1] at h2
  unfold leftN
  cases is with
  | true =>
    simp only [if_true]
    rw [h1]
    exact cntP_congr N (fun u _ => by simp)
  | false =>
    have e : cntP (fun u => p u && (u.testBit t == false)) N = cntP (fun u => p u && !u.testBit t) N := cntP_congr N (fun u _ => by simp)
    simp only [Bool.false_eq_true, if_false]
    rw [h1, e]
    omega
theorem mask_has {am : Nat} (hT : T ≤ 12) (ham : am < 2 ^ T) (hb : ∀ t, am.testBit t = true ↔ ¬ aN t = 0) {t : Nat} (ht : t < 32) : hasB (nI am) (nI t) = !decide (aN t = 0) := by
  rw [hx_has (kp31 hT ham) ht, Bool.eq_iff_iff, hb]
  simp
/-- answer -/
theorem ans_eq (hT : T ≤ 12) (hI : imB iN) (ha : aB aN T) {sf : Nat → Int32} {ns am : Nat} (h : stOK iN aN T sf ns am) {t : Nat} (ht : t < T) (is : Bool) :
    accB sf ns (nI am) (nI t) is = answB (nF iN) (nF aN) T (nI t) is ∧ (accB sf ns (nI am) (nI t) is = true → aN t = 0 ∧ (keepF sf (nI t) is ns).2 = ansM (nF iN) (nF aN) T t is ∧
      (nI am ||| (1 <<< (nI t &&& 31))) = nI (am ||| 2 ^ t) ∧ upd (nF aN) t (if is then 1 else 2) = nF (updN aN t (if is then 1 else 2)) ∧ aB (updN aN t (if is then 1 else 2)) T ∧ stOK iN (updN aN t (if is then 1 else 2)) T (keepF sf (nI t) is ns).1 (keepF sf (nI t) is ns).2 (am ||| 2 ^ t)) := by
  obtain ⟨h1, h2, h3, h4⟩ := h
  have hpw := kpow hT
  have hkE := keep_E hpw h1 (show t < 32 by omega) is
  have hleft := left_N hpw h1 (show t < 32 by omega) is
  have hupd : upd (nF aN) t (if is then 1 else 2) = nF (updN aN t (if is then 1 else 2)) := by
    rw [← nF_upd]
    cases is <;> rfl
  have hM : aN t = 0 → ansM (nF iN) (nF aN) T t is = leftN (pS iN aN T) (2 ^ T) t is := by
    intro h0
    unfold ansM leftN
    rw [hupd, manyF_C]
    exact cntP_congr _ (fun u hu => pS_ans hT hI ha ht h0 is hu)
  have hw : withinB (nI t) 0 (nI T - 1) = true := by
    rw [show nI T - 1 = nI (T - 1) from pk_sub (a := T) (b := 1) (by omega)]
    exact (wi_iff (a := 0) (by omega) (by omega)).mpr ⟨t, by omega, by omega, rfl⟩
  have hz : (nF aN t = 0) ↔ aN t = 0 := nI_z (by have := (ha t).1; omega)
  have hacc : accB sf ns (nI am) (nI t) is = (decide (aN t = 0) && decide (¬ leftN (pS iN aN T) (2 ^ T) t is = 0)) := by
    unfold accB
    rw [hleft, mask_has hT h3 h4 (by omega), Bool.not_not]
  have hansw : answB (nF iN) (nF aN) T (nI t) is = (decide (aN t = 0) && decide (¬ leftN (pS iN aN T) (2 ^ T) t is = 0)) := by
    unfold answB
    rw [hw, nI_clamp (by omega), Bool.true_and]
    by_cases h0 : aN t = 0
    · rw [decide_eq_true (hz.mpr h0), decide_eq_true h0, hM h0]
      simp
    · rw [decide_eq_false (fun z => h0 (hz.mp z)), decide_eq_false h0]
      rfl
  refine ⟨hacc.trans hansw.symm, fun hok => ?_⟩
  rw [hacc, Bool.and_eq_true, decide_eq_true_iff, decide_eq_true_iff] at hok
  obtain ⟨h0, hne⟩ := hok
  have hpc : ∀ v, v < 2 ^ T → pS iN (updN aN t (if is then 1 else 2)) T v = (pS iN aN T v && (v.testBit t == is)) := fun v hv => pS_ans hT hI ha ht h0 is hv
  have hk2 : (keepF sf (nI t) is ns).2 = leftN (pS iN aN T) (2 ^ T) t is := hkE.1
  refine ⟨h0, hk2.trans (hM h0).symm, by rw [kshl1 t (by omega), hx_or], hupd, ?_, ⟨⟨?_, fun v hv hp => ?_⟩, by rw [hk2]; omega, Nat.or_lt_two_pow h3 (Nat.pow_lt_pow_right (by decide) ht), fun s => ?_⟩⟩
  · intro s
    unfold updN
    by_cases hs : s = t
    · rw [if_pos hs]
      exact ⟨by split <;> omega, fun z => absurd z (by omega)⟩
    · rw [if_neg hs]; exact ha s
  · rw [hk2]
    exact (cntP_congr _ hpc).symm
  · rw [cntP_congr v (fun u hu => hpc u (by omega))]
    rw [hpc v hv] at hp
    exact hkE.2 v hv hp
  · rw [Nat.testBit_or, Bool.or_eq_true, h4, Nat.testBit_two_pow, decide_eq_true_iff]
    unfold updN
    by_cases hs : s = t
    · subst hs
      rw [if_pos rfl]
      exact ⟨fun _ => by split <;> omega, fun _ => Or.inr rfl⟩
    · rw [if_neg hs]
      exact ⟨fun z => z.resolve_right (fun y => hs y.symm), fun z => Or.inl z⟩
/-- the next question -/
theorem qN_C (t : Nat) (ht : t < 32) (hT : T ≤ 12) : ∀ v, v ≤ 2 ^ T → qN (nF iN) (nF aN) T t v = cntP (fun u => pS iN aN T u && u.testBit t) v
  | 0, _ => rfl
  | v + 1, hv => by
    have ih := qN_C t ht hT v (by omega)
    have hpw := kpow hT
    unfold qN cntP
    rw [ih, hx_has (by omega) ht, Bool.and_comm]
    rfl
theorem quest_eq (hT : T ≤ 12) (hI : imB iN) (ha : aB aN T) {sf : Nat → Int32} {ns : Nat} (h : enumOK (pS iN aN T) (2 ^ T) sf ns) (hns : 0 < ns) : (bestF sf 0 ns 12).1 = (qF (nF iN) (nF aN) T T).1 := by
  have hpw := kpow hT
  have hmore : ∀ t, t < 32 → moreN sf (nI t) 0 ns = max (cntP (fun u => pS iN aN T u && u.testBit t) (2 ^ T)) (ns - cntP (fun u => pS iN aN T u && u.testBit t) (2 ^ T)) := fun t ht => by
    have h1 := enum_cnt hpw h ht (2 ^ T) (Nat.le_refl _)
    rw [← h.1] at h1
    unfold moreN
    rw [h1]
  have hle : ∀ t, cntP (fun u => pS iN aN T u && u.testBit t) (2 ^ T) ≤ ns := fun t => by
    rw [h.1]
    exact cntP_sub (fun u hu => by simp only [Bool.and_eq_true] at hu; exact hu.1) _
  have hB : ∀ t, (bestF sf 0 ns t).2 ≤ ns := fun t => bestF_le sf 0 ns t
  have hall : manyF (nF iN) (nF aN) T (2 ^ T) = ns := by rw [manyF_C, ← h.1]
  have hans : ∀ t, t < T → ¬ aN t = 0 → cntP (fun u => pS iN aN T u && u.testBit t) (2 ^ T) = 0 ∨ cntP (fun u => pS iN aN T u && u.testBit t) (2 ^ T) = ns := fun t ht h0 => by
    have hbit : ∀ u, u < 2 ^ T → pS iN aN T u = true → u.testBit t = decide (aN t = 1) := fun u hu hp => by
      rw [pS_iff ha hT (pow31 (m := T) (by omega) hu) (clos31 hI (n := T) (m := T) (by omega) (Nat.le_refl _) hu)] at hp
      exact (hp.2 t ht).resolve_left h0
    by_cases h1 : aN t = 1
    · right
      rw [h.1]
      refine cntP_congr _ (fun u hu => ?_)
      cases hp : pS iN aN T u with
      | false => rfl
      | true => rw [hbit u hu hp, decide_eq_true h1]; rfl
    · left
      have e : cntP (fun u => pS iN aN T u && u.testBit t) (2 ^ T) = cntP (fun _ => false) (2 ^ T) := by
        refine cntP_congr _ (fun u hu => ?_)
        cases hp : pS iN aN T u with
        | false => rfl
        | true => rw [hbit u hu hp, decide_eq_false h1]; rfl
      have e2 : ∀ n, cntP (fun _ => false) n = 0 := fun n => by
        induction n with
        | zero => rfl
        | succ n ih => exact ih
      rw [e, e2]
  have hI1 : ∀ t, t ≤ T → (bestF sf 0 ns t).1 = (qF (nF iN) (nF aN) T t).1 ∧ ((qF (nF iN) (nF aN) T t).1 = -1 → (bestF sf 0 ns t).2 = ns) ∧ (¬ (qF (nF iN) (nF aN) T t).1 = -1 → (bestF sf 0 ns t).2 = (qF (nF iN) (nF aN) T t).2) := by
    intro t
    induction t with
    | zero => exact fun _ => ⟨rfl, fun _ => rfl, fun z => absurd rfl z⟩
    | succ t ih =>
      intro ht
      obtain ⟨i1, i2, i3⟩ := ih (by omega)
      have hb := hB t
      have hl := hle t
      have hz : (nF aN t = 0) ↔ aN t = 0 := nI_z (by have := (ha t).1; omega)
      unfold bestF qF
      rw [hmore t (by omega), qN_C t (by omega) hT (2 ^ T) (Nat.le_refl _), hall]
      by_cases hsk : ¬ nF aN t = 0 ∨ cntP (fun u => pS iN aN T u && u.testBit t) (2 ^ T) = 0 ∨ cntP (fun u => pS iN aN T u && u.testBit t) (2 ^ T) = ns
      · rw [if_pos hsk]
        have hc : cntP (fun u => pS iN aN T u && u.testBit t) (2 ^ T) = 0 ∨ cntP (fun u => pS iN aN T u && u.testBit t) (2 ^ T) = ns := by
          rcases hsk with z | z
          · exact hans t (by omega) (fun y => z (hz.mpr y))
          · exact z
        rw [if_neg (by omega)]
        exact ⟨i1, i2, i3⟩
      · rw [if_neg hsk]
        have hmq : moreQ ns (cntP (fun u => pS iN aN T u && u.testBit t) (2 ^ T)) = max (cntP (fun u => pS iN aN T u && u.testBit t) (2 ^ T)) (ns - cntP (fun u => pS iN aN T u && u.testBit t) (2 ^ T)) := by
          unfold moreQ
          split <;> omega
        rw [hmq]
        have hne : ¬ nI t = -1 := nI_m1 (by omega)
        have hn0 : ¬ cntP (fun u => pS iN aN T u && u.testBit t) (2 ^ T) = 0 := fun z => hsk (Or.inr (Or.inl z))
        have hn1 : ¬ cntP (fun u => pS iN aN T u && u.testBit t) (2 ^ T) = ns := fun z => hsk (Or.inr (Or.inr z))
        by_cases hf : (qF (nF iN) (nF aN) T t).1 = -1
        · have e2 := i2 hf
          rw [if_pos (by omega), if_neg (fun z => z.1 hf)]
          exact ⟨rfl, fun z => absurd z hne, fun _ => rfl⟩
        · have e3 := i3 hf
          by_cases hm : max (cntP (fun u => pS iN aN T u && u.testBit t) (2 ^ T)) (ns - cntP (fun u => pS iN aN T u && u.testBit t) (2 ^ T)) < (qF (nF iN) (nF aN) T t).2
          · rw [if_pos (by rw [e3]; exact hm), if_neg (fun z => z.2 hm)]
            exact ⟨rfl, fun z => absurd z hne, fun _ => rfl⟩
          · rw [if_neg (by rw [e3]; exact hm), if_pos ⟨hf, hm⟩]
            exact ⟨i1, i2, i3⟩
  have hI2 : ∀ d, T + d ≤ 12 → (bestF sf 0 ns (T + d)).1 = (bestF sf 0 ns T).1 := by
    intro d
    induction d with
    | zero => exact fun _ => rfl
    | succ d ih =>
      intro hd
      have hb := hB (T + d)
      have e : cntP (fun u => pS iN aN T u && u.testBit (T + d)) (2 ^ T) = 0 := by
        have e1 : cntP (fun u => pS iN aN T u && u.testBit (T + d)) (2 ^ T) = cntP (fun _ => false) (2 ^ T) := cntP_congr _ (fun u hu => by
          rw [Nat.testBit_lt_two_pow (Nat.lt_of_lt_of_le hu (Nat.pow_le_pow_right (by decide) (by omega)))]
          simp)
        have e2 : ∀ n, cntP (fun _ => false) n = 0 := fun n => by
          induction n with
          | zero => rfl
          | succ n ih => exact ih
        rw [e1, e2]
      have hm := hmore (T + d) (by omega)
      rw [e] at hm
      show (if moreN sf (nI (T + d)) 0 ns < (bestF sf 0 ns (T + d)).2 then (nI (T + d), moreN sf (nI (T + d)) 0 ns) else bestF sf 0 ns (T + d)).1 = _
      rw [hm, if_neg (by omega)]
      exact ih (by omega)
  have h12 := hI2 (12 - T) (by omega)
  rw [show T + (12 - T) = 12 by omega] at h12
  rw [h12]
  exact (hI1 T (Nat.le_refl _)).1
/-- settle -/
theorem set_C (hT : T ≤ 12) : ∀ v, v ≤ 2 ^ T → setF (nF iN) (nF aN) T v = nI (comN (pS iN aN T) (2 ^ T - 1) v)
  | 0, _ => by
    show (1 <<< (nI T &&& 31)) - 1 = nI (2 ^ T - 1)
    rw [kshl1 T hT]
    exact pk_sub (a := 2 ^ T) (b := 1) (Nat.pos_of_ne_zero (by simp))
  | v + 1, hv => by
    have ih := set_C hT v (by omega)
    unfold setF comN
    rw [ih]
    by_cases hp : stateB (nF iN) (nF aN) T (nI v) = true
    · rw [if_pos hp, if_pos (show pS iN aN T v = true from hp), hx_and]
    · rw [if_neg hp, if_neg (show ¬ pS iN aN T v = true from hp)]
theorem settle_eq (hT : T ≤ 12) {sf : Nat → Int32} {ns : Nat} (h : enumOK (pS iN aN T) (2 ^ T) sf ns) (hns : 0 < ns) : ∃ c, c < 2 ^ T ∧ comF sf ns = nI c ∧ setF (nF iN) (nF aN) T (2 ^ T) = nI c := by
  have h1 := com_C h (2 ^ T) (Nat.le_refl _)
  rw [← h.1, comN_eq hT (2 ^ T) (Nat.le_refl _) (by rw [← h.1]; exact hns)] at h1
  have h2 := comN_le (pS iN aN T) (2 ^ T - 1) (2 ^ T)
  have h3 : 0 < 2 ^ T := Nat.pos_of_ne_zero (by simp)
  exact ⟨_, by omega, h1, set_C hT (2 ^ T) (Nat.le_refl _)⟩
/-- state -/
theorem stO_none {im an : Nat → Int32} {j : Nat} : ∀ v, (∀ u, u < v → ¬ (stateB im an T (nI u) = true ∧ manyF im an T u = j)) → stO im an T j v = none
  | 0, _ => rfl
  | v + 1, h => stO_miss (stO_none v (fun u hu => h u (by omega))) (h v (by omega))
theorem state_eq (hT : T ≤ 12) {sf : Nat → Int32} {ns : Nat} (h : enumOK (pS iN aN T) (2 ^ T) sf ns) {j : Nat} (hj : j < 2 ^ 31) :
    (∃ v, v < 2 ^ T ∧ setAt sf (nI ns) (nI j) = nI v ∧ stO (nF iN) (nF aN) T j (2 ^ T) = some v) ∨ (setAt sf (nI ns) (nI j) = -1 ∧ stO (nF iN) (nF aN) T j (2 ^ T) = none) := by
  have hns := cnt_T hT h
  unfold setAt
  by_cases h1 : j < ns
  · obtain ⟨v, a1, a2, a3, a4⟩ := enum_at h h1
    left
    refine ⟨v, a1, ?_, ?_⟩
    · rw [if_pos ⟨nI_pos hj, by rw [nI_leI (by omega) hj]; omega, by rw [show (4096 : Int32) = nI 4096 from rfl, nI_leI (by omega) hj]; omega⟩, nI_clamp hj]
      exact a4
    · refine stO_hit (v := v) (stO_none v (fun u hu z => ?_)) a2 (by rw [manyF_C]; exact a3) a1
      rw [manyF_C] at z
      have := cntP_lt (p := pS iN aN T) hu z.1
      omega
  · right
    refine ⟨if_neg (fun z => z.2.1 (by rw [nI_leI (by omega) hj]; omega)), stO_none _ (fun u hu z => ?_)⟩
    rw [manyF_C] at z
    have := cntP_lt (p := pS iN aN T) hu z.1
    rw [← h.1] at this
    omega
end PASK3
