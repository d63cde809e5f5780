/-! ===== the pure part: the states ===== -/
def cntP (p : Nat → Bool) : Nat → Nat
  | 0 => 0
  | v + 1 => if p v then cntP p v + 1 else cntP p v
theorem cntP_le (p : Nat → Bool) : ∀ v, cntP p v ≤ v
  | 0 => Nat.le_refl _
  | v + 1 => by
    have := cntP_le p v
    unfold cntP
    split <;> omega
theorem cntP_mono (p : Nat → Bool) {a : Nat} : ∀ d, cntP p a ≤ cntP p (a + d)
  | 0 => Nat.le_refl _
  | d + 1 => by
    have := cntP_mono p (a := a) d
    show cntP p a ≤ if p (a + d) then cntP p (a + d) + 1 else cntP p (a + d)
    split <;> omega
theorem cntP_lt {p : Nat → Bool} {a b : Nat} (h : a < b) (hp : p a = true) : cntP p a < cntP p b := by
  have h1 : cntP p (a + 1) = cntP p a + 1 := if_pos hp
  have h2 := cntP_mono p (a := a + 1) (b - (a + 1))
  rw [show a + 1 + (b - (a + 1)) = b by omega] at h2
  omega
theorem cntP_congr {p q : Nat → Bool} : ∀ v, (∀ u, u < v → p u = q u) → cntP p v = cntP q v
  | 0, _ => rfl
  | v + 1, h => by
    have ih := cntP_congr v (fun u hu => h u (by omega))
    unfold cntP
    rw [ih, h v (by omega)]
theorem cntP_sub {p q : Nat → Bool} (h : ∀ u, q u = true → p u = true) : ∀ v, cntP q v ≤ cntP p v
  | 0 => Nat.le_refl _
  | v + 1 => by
    have ih := cntP_sub h v
    unfold cntP
    cases hq : q v with
    | true => rw [h v hq]; simp; omega
    | false => cases p v <;> simp <;> omega
theorem cntP_split (p q : Nat → Bool) : ∀ v, cntP (fun u => p u && q u) v + cntP (fun u => p u && !q u) v = cntP p v
  | 0 => rfl
  | v + 1 => by
    have ih := cntP_split p q v
    unfold cntP
    cases p v <;> cases q v <;> simp <;> omega
theorem cntP_onto {p : Nat → Bool} : ∀ (v j : Nat), j < cntP p v → ∃ u, u < v ∧ p u = true ∧ cntP p u = j
  | 0, j, h => absurd h (Nat.not_lt_zero _)
  | v + 1, j, h => by
    unfold cntP at h
    split at h
    · rename_i hp
      rcases Nat.lt_or_ge j (cntP p v) with z | z
      · obtain ⟨u, a1, a2, a3⟩ := cntP_onto v j z
        exact ⟨u, by omega, a2, a3⟩
      · exact ⟨v, by omega, hp, by omega⟩
    · obtain ⟨u, a1, a2, a3⟩ := cntP_onto v j h
      exact ⟨u, by omega, a2, a3⟩
theorem cntP_app (p : Nat → Bool) (a : Nat) : ∀ i, cntP p (a + i) = cntP p a + cntP (fun u => p (a + u)) i
  | 0 => rfl
  | i + 1 => by
    have ih := cntP_app p a i
    show (if p (a + i) then cntP p (a + i) + 1 else cntP p (a + i)) = cntP p a + (if p (a + i) then cntP (fun u => p (a + u)) i + 1 else cntP (fun u => p (a + u)) i)
    rw [ih]
    split <;> omega
/-- the class's row of states -/
def enumOK (p : Nat → Bool) (N : Nat) (sf : Nat → Int32) (ns : Nat) : Prop := ns = cntP p N ∧ ∀ v, v < N → p v = true → sf (cntP p v) = nI v
theorem enum_at {p : Nat → Bool} {N ns j : Nat} {sf : Nat → Int32} (h : enumOK p N sf ns) (hj : j < ns) : ∃ v, v < N ∧ p v = true ∧ cntP p v = j ∧ sf j = nI v := by
  rw [h.1] at hj
  obtain ⟨v, a1, a2, a3⟩ := cntP_onto N j hj
  exact ⟨v, a1, a2, a3, by rw [← a3]; exact h.2 v a1 a2⟩
theorem enum_cnt {p : Nat → Bool} {N ns : Nat} {sf : Nat → Int32} (hN : N ≤ 4096) (h : enumOK p N sf ns) {t : Nat} (ht : t < 32) : ∀ i, i ≤ N → cntN sf (nI t) 0 (cntP p i) = cntP (fun u => p u && u.testBit t) i
  | 0, _ => rfl
  | i + 1, hi => by
    have ih := enum_cnt hN h ht i (by omega)
    unfold cntP
    cases hp : p i with
    | false => simp [ih]
    | true =>
      have e : cntN sf (nI t) 0 (cntP p i + 1) = cntN sf (nI t) 0 (cntP p i) + (if hasB (sf (0 + cntP p i)) (nI t) then 1 else 0) := rfl
      simp only [if_true, Bool.true_and]
      rw [e, ih, Nat.zero_add, h.2 i (by omega) hp, hx_has (by omega) ht]
      split <;> rfl
/-- what the states have in common, the class's way and the reference's -/
def comN (p : Nat → Bool) (c : Nat) : Nat → Nat
  | 0 => c
  | v + 1 => if p v then comN p c v &&& v else comN p c v
theorem com_C {p : Nat → Bool} {N ns : Nat} {sf : Nat → Int32} (h : enumOK p N sf ns) : ∀ i, i ≤ N → comF sf (cntP p i) = nI (comN p 4095 i)
  | 0, _ => rfl
  | i + 1, hi => by
    have ih := com_C h i (by omega)
    unfold cntP comN
    cases hp : p i with
    | false => simp [ih]
    | true =>
      simp only [if_true]
      show comF sf (cntP p i) &&& sf (cntP p i) = _
      rw [ih, h.2 i (by omega) hp, hx_and]
theorem comN_le (p : Nat → Bool) (c : Nat) : ∀ v, comN p c v ≤ c
  | 0 => Nat.le_refl _
  | v + 1 => by
    have ih := comN_le p c v
    unfold comN
    split
    · exact Nat.le_trans Nat.and_le_left ih
    · exact ih
theorem comN_and (p : Nat → Bool) (c d : Nat) : ∀ v, comN p (c &&& d) v = comN p c v &&& d
  | 0 => rfl
  | v + 1 => by
    have ih := comN_and p c d v
    unfold comN
    split
    · rw [ih, Nat.and_assoc, Nat.and_comm d v, ← Nat.and_assoc]
    · exact ih
/-- with one state at least both begin alike -/
theorem comN_eq {p : Nat → Bool} {T : Nat} (hT : T ≤ 12) : ∀ v, v ≤ 2 ^ T → 0 < cntP p v → comN p 4095 v = comN p (2 ^ T - 1) v
  | 0, _, h => absurd h (Nat.lt_irrefl 0)
  | v + 1, hv, h => by
    have e : (2 ^ T - 1) = 4095 &&& (2 ^ T - 1) := by
      rw [Nat.and_two_pow_sub_one_eq_mod]
      rcases (show T = 0 ∨ T = 1 ∨ T = 2 ∨ T = 3 ∨ T = 4 ∨ T = 5 ∨ T = 6 ∨ T = 7 ∨ T = 8 ∨ T = 9 ∨ T = 10 ∨ T = 11 ∨ T = 12 by omega) with rfl | rfl | rfl | rfl | rfl | rfl | rfl | rfl | rfl | rfl | rfl | rfl | rfl <;> rfl
    unfold comN
    cases hp : p v with
    | false =>
      have h : 0 < cntP p v := by
        unfold cntP at h
        rw [hp] at h
        exact h
      exact comN_eq hT v (by omega) h
    | true =>
      simp only [if_true]
      rw [e, comN_and, Nat.and_assoc, Nat.and_comm (2 ^ T - 1) v, Nat.and_two_pow_sub_one_eq_mod, Nat.mod_eq_of_lt (by omega)]
/-- answers: the states that agree are kept -/
theorem keep_N {p : Nat → Bool} {N ns : Nat} {sf : Nat → Int32} (hN : N ≤ 4096) (h : enumOK p N sf ns) {t : Nat} (ht : t < 32) (is : Bool) : ∀ i, i ≤ N →
    (keepF sf (nI t) is (cntP p i)).2 = cntP (fun u => p u && (u.testBit t == is)) i ∧ (∀ j, cntP p i ≤ j → (keepF sf (nI t) is (cntP p i)).1 j = sf j) ∧ ∀ v, v < i → (p v && (v.testBit t == is)) = true → (keepF sf (nI t) is (cntP p i)).1 (cntP (fun u => p u && (u.testBit t == is)) v) = nI v
  | 0, _ => ⟨rfl, fun _ _ => rfl, fun v hv => absurd hv (Nat.not_lt_zero _)⟩
  | i + 1, hi => by
    obtain ⟨ih1, ih2, ih3⟩ := keep_N hN h ht is i (by omega)
    have hlt : ∀ u, u < i + 1 → u < i ∨ u = i := fun u hu => by omega
    have hle := cntP_sub (p := p) (q := fun u => p u && (u.testBit t == is)) (fun u hu => by simp only [Bool.and_eq_true] at hu; exact hu.1) i
    cases hp : p i with
    | false =>
      have e1 : cntP p (i + 1) = cntP p i := if_neg (by rw [hp]; decide)
      have e2 : cntP (fun u => p u && (u.testBit t == is)) (i + 1) = cntP (fun u => p u && (u.testBit t == is)) i := if_neg (by show ¬ (p i && (i.testBit t == is)) = true; rw [hp]; simp)
      rw [e1, e2]
      refine ⟨ih1, ih2, fun v hv hq => ?_⟩
      rcases hlt v hv with z | z
      · exact ih3 v z hq
      · subst z; rw [hp] at hq; cases hq
    | true =>
      have e1 : cntP p (i + 1) = cntP p i + 1 := if_pos hp
      have hsi : (keepF sf (nI t) is (cntP p i)).1 (cntP p i) = nI i := by rw [ih2 _ (Nat.le_refl _)]; exact h.2 i (by omega) hp
      rw [e1]
      unfold keepF
      rw [hsi, hx_has (by omega) ht]
      by_cases hb : i.testBit t = is
      · have e2 : cntP (fun u => p u && (u.testBit t == is)) (i + 1) = cntP (fun u => p u && (u.testBit t == is)) i + 1 := if_pos (by show (p i && (i.testBit t == is)) = true; rw [hp, hb]; simp)
        rw [if_pos hb, e2]
        refine ⟨by rw [← ih1], fun j hj => ?_, fun v hv hq => ?_⟩
        · show upd _ _ _ j = _
          rw [upd_n (by rw [ih1]; omega)]
          exact ih2 j (by omega)
        · show upd _ _ _ _ = _
          rcases hlt v hv with z | z
          · have := cntP_lt (p := fun u => p u && (u.testBit t == is)) z hq
            rw [upd_n (by rw [ih1]; omega)]
            exact ih3 v z hq
          · subst z
            rw [ih1, upd_s]
      · have e2 : cntP (fun u => p u && (u.testBit t == is)) (i + 1) = cntP (fun u => p u && (u.testBit t == is)) i := if_neg (by show ¬ (p i && (i.testBit t == is)) = true; rw [hp]; simp; exact hb)
        rw [if_neg hb, e2]
        refine ⟨ih1, fun j hj => ih2 j (by omega), fun v hv hq => ?_⟩
        rcases hlt v hv with z | z
        · exact ih3 v z hq
        · subst z
          simp at hq
          exact absurd hq.2 hb
theorem keep_E {p : Nat → Bool} {N ns : Nat} {sf : Nat → Int32} (hN : N ≤ 4096) (h : enumOK p N sf ns) {t : Nat} (ht : t < 32) (is : Bool) : enumOK (fun u => p u && (u.testBit t == is)) N (keepF sf (nI t) is ns).1 (keepF sf (nI t) is ns).2 := by
  obtain ⟨a1, _, a3⟩ := keep_N hN h ht is N (Nat.le_refl _)
  rw [← h.1] at a1 a3
  exact ⟨a1, a3⟩
/-- a new topic: the states behind the old ones -/
theorem add_N {p : Nat → Bool} {T ns im : Nat} {sf : Nat → Int32} (hT : T < 12) (h : enumOK p (2 ^ T) sf ns) (him : im < 2 ^ T) : ∀ i, i ≤ 2 ^ T →
    (addF sf ns (nI (2 ^ T)) (nI im) (cntP p i)).2 = ns + cntP (fun u => p u && decide (u &&& im = im)) i ∧ (∀ j, j < ns → (addF sf ns (nI (2 ^ T)) (nI im) (cntP p i)).1 j = sf j) ∧ ∀ v, v < i → (p v && decide (v &&& im = im)) = true → (addF sf ns (nI (2 ^ T)) (nI im) (cntP p i)).1 (ns + cntP (fun u => p u && decide (u &&& im = im)) v) = nI (2 ^ T + v)
  | 0, _ => ⟨rfl, fun _ _ => rfl, fun v hv => absurd hv (Nat.not_lt_zero _)⟩
  | i + 1, hi => by
    obtain ⟨ih1, ih2, ih3⟩ := add_N hT h him i (by omega)
    have hlt : ∀ u, u < i + 1 → u < i ∨ u = i := fun u hu => by omega
    have hpw := kpow (T := T) (by omega)
    cases hp : p i with
    | false =>
      have e1 : cntP p (i + 1) = cntP p i := if_neg (by rw [hp]; decide)
      have e2 : cntP (fun u => p u && decide (u &&& im = im)) (i + 1) = cntP (fun u => p u && decide (u &&& im = im)) i := if_neg (by show ¬ (p i && decide (i &&& im = im)) = true; rw [hp]; simp)
      rw [e1, e2]
      refine ⟨ih1, ih2, fun v hv hq => ?_⟩
      rcases hlt v hv with z | z
      · exact ih3 v z hq
      · subst z; rw [hp] at hq; cases hq
    | true =>
      have e1 : cntP p (i + 1) = cntP p i + 1 := if_pos hp
      have hlt2 := cntP_lt (b := 2 ^ T) (show i < 2 ^ T by omega) hp
      have hsi : (addF sf ns (nI (2 ^ T)) (nI im) (cntP p i)).1 (cntP p i) = nI i := by rw [ih2 _ (by rw [h.1]; exact hlt2)]; exact h.2 i (by omega) hp
      have hc : (nI i &&& nI im = nI im) ↔ i &&& im = im := by rw [hx_and, nI_eq (Nat.lt_of_le_of_lt Nat.and_le_right (by omega)) (by omega)]
      rw [e1]
      unfold addF
      rw [hsi]
      by_cases hb : i &&& im = im
      · have e2 : cntP (fun u => p u && decide (u &&& im = im)) (i + 1) = cntP (fun u => p u && decide (u &&& im = im)) i + 1 := if_pos (by show (p i && decide (i &&& im = im)) = true; rw [hp, decide_eq_true hb]; rfl)
        have hor : nI i ||| nI (2 ^ T) = nI (2 ^ T + i) := by
          have hz := Nat.two_pow_add_eq_or_of_lt (show i < 2 ^ T by omega) 1
          rw [Nat.mul_one] at hz
          rw [hx_or, Nat.or_comm, hz]
        rw [if_pos (hc.mpr hb), e2]
        refine ⟨by show _ + 1 = _; rw [ih1]; omega, fun j hj => ?_, fun v hv hq => ?_⟩
        · show upd _ _ _ j = _
          rw [upd_n (by rw [ih1]; omega)]
          exact ih2 j hj
        · show upd _ _ _ _ = _
          rcases hlt v hv with z | z
          · have := cntP_lt (p := fun u => p u && decide (u &&& im = im)) z hq
            rw [upd_n (by rw [ih1]; omega)]
            exact ih3 v z hq
          · subst z
            rw [ih1, upd_s, hor]
      · have e2 : cntP (fun u => p u && decide (u &&& im = im)) (i + 1) = cntP (fun u => p u && decide (u &&& im = im)) i := if_neg (by show ¬ (p i && decide (i &&& im = im)) = true; rw [decide_eq_false hb]; simp)
        rw [if_neg (fun z => hb (hc.mp z)), e2]
        refine ⟨ih1, ih2, fun v hv hq => ?_⟩
        rcases hlt v hv with z | z
        · exact ih3 v z hq
        · subst z
          simp at hq
          exact absurd hq.2 hb
theorem add_E {p p2 : Nat → Bool} {T ns im : Nat} {sf : Nat → Int32} (hT : T < 12) (h : enumOK p (2 ^ T) sf ns) (him : im < 2 ^ T) (h1 : ∀ v, v < 2 ^ T → p2 v = p v) (h2 : ∀ v, v < 2 ^ T → p2 (2 ^ T + v) = (p v && decide (v &&& im = im))) :
    enumOK p2 (2 ^ (T + 1)) (addF sf ns (nI (2 ^ T)) (nI im) ns).1 (addF sf ns (nI (2 ^ T)) (nI im) ns).2 := by
  obtain ⟨a1, a2, a3⟩ := add_N hT h him (2 ^ T) (Nat.le_refl _)
  rw [← h.1] at a1 a2 a3
  have ep : 2 ^ (T + 1) = 2 ^ T + 2 ^ T := by rw [Nat.pow_succ]; omega
  have e1 : ∀ v, v ≤ 2 ^ T → cntP p2 v = cntP p v := fun v hv => cntP_congr v (fun u hu => h1 u (by omega))
  have e2 : ∀ v, v ≤ 2 ^ T → cntP p2 (2 ^ T + v) = ns + cntP (fun u => p u && decide (u &&& im = im)) v := fun v hv => by
    rw [cntP_app, e1 _ (Nat.le_refl _), ← h.1]
    congr 1
    exact cntP_congr v (fun u hu => h2 u (by omega))
  refine ⟨by rw [a1, ep, e2 _ (Nat.le_refl _)], fun v hv hp => ?_⟩
  rcases Nat.lt_or_ge v (2 ^ T) with z | z
  · rw [h1 v z] at hp
    rw [e1 v (by omega), a2 _ (by rw [h.1]; exact cntP_lt z hp)]
    exact h.2 v z hp
  · obtain ⟨u, rfl⟩ : ∃ u, v = 2 ^ T + u := ⟨v - 2 ^ T, by omega⟩
    rw [h2 u (by omega)] at hp
    rw [e2 u (by omega)]
    exact a3 u (by omega) hp
