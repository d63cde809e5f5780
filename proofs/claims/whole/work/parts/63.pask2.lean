/-! ===== the pure part: asking, the class's and the reference's ===== -/
def pS (iN aN : Nat → Nat) (T v : Nat) : Bool := stateB (nF iN) (nF aN) T (nI v)
theorem manyF_C (iN aN : Nat → Nat) (T : Nat) : ∀ v, manyF (nF iN) (nF aN) T v = cntP (pS iN aN T) v
  | 0 => rfl
  | v + 1 => by
    have ih := manyF_C iN aN T v
    unfold manyF cntP
    rw [ih]; rfl
def aB (aN : Nat → Nat) (T : Nat) : Prop := ∀ t, aN t ≤ 2 ∧ (T ≤ t → aN t = 0)
section PASK2
variable {iN aN : Nat → Nat} {T : Nat}
theorem ansB_N (ha : aB aN T) {v : Nat} (hv : v < 2 ^ 31) : ∀ n, n ≤ 31 → (ansB (nF aN) (nI v) n = true ↔ ∀ t, t < n → aN t = 0 ∨ v.testBit t = decide (aN t = 1))
  | 0, _ => ⟨fun _ t h => absurd h (Nat.not_lt_zero _), fun _ => rfl⟩
  | n + 1, hn => by
    have ih := ansB_N ha hv n (by omega)
    have h2 := (ha n).1
    have e1 : (nF aN n = 0) ↔ aN n = 0 := nI_z (show aN n < 2 ^ 31 by omega)
    have e2 : (nF aN n = 1) ↔ aN n = 1 := by
      unfold nF
      rw [show (1 : Int32) = nI 1 from rfl, nI_eq (by omega) (by decide)]
    have e3 : ((nI v >>> (nI n &&& 31)) &&& 1 = k01 (decide (nF aN n = 1))) ↔ v.testBit n = decide (aN n = 1) := by
      rw [hx_bit hv (by omega)]
      by_cases h : aN n = 1
      · rw [decide_eq_true (e2.mpr h), decide_eq_true h]
        cases v.testBit n <;> decide
      · rw [decide_eq_false (fun z => h (e2.mp z)), decide_eq_false h]
        cases v.testBit n <;> decide
    unfold ansB
    rw [Bool.and_eq_true, Bool.or_eq_true, decide_eq_true_iff, decide_eq_true_iff, e1, e3, ih]
    constructor
    · rintro ⟨z1, z2⟩ t ht
      rcases Nat.lt_or_ge t n with y | y
      · exact z1 t y
      · have e : t = n := by omega
        subst e; exact z2
    · intro z
      exact ⟨fun t ht => z t (by omega), z n (by omega)⟩
theorem pS_iff (ha : aB aN T) {n v : Nat} (hn : n ≤ 12) (hv : v < 2 ^ 31) (hc : closN iN v n < 2 ^ 31) : pS iN aN n v = true ↔ closN iN v n = v ∧ ∀ t, t < n → aN t = 0 ∨ v.testBit t = decide (aN t = 1) := by
  unfold pS stateB
  rw [Bool.and_eq_true, decide_eq_true_iff, closF_N hv n (by omega), nI_eq hc hv, ansB_N ha hv n (by omega)]
theorem clos31 (hI : imB iN) {n m v : Nat} (hm : m ≤ 13) (hn : n ≤ m) (hv : v < 2 ^ m) : closN iN v n < 2 ^ 31 := by
  have h1 : closN iN v n < 2 ^ m := closN_lt hv n (fun t ht => imB_lt hI t (by omega))
  have h2 : 2 ^ m ≤ 2 ^ 13 := Nat.pow_le_pow_right (by decide) hm
  omega
theorem pow31 {m v : Nat} (hm : m ≤ 13) (hv : v < 2 ^ m) : v < 2 ^ 31 := by
  have h2 : 2 ^ m ≤ 2 ^ 13 := Nat.pow_le_pow_right (by decide) hm
  omega
theorem closN_hi {v : Nat} (hv : v < 2 ^ T) : ∀ n, n ≤ T → closN iN (2 ^ T + v) n = 2 ^ T ||| closN iN v n
  | 0, _ => by
    have h := Nat.two_pow_add_eq_or_of_lt hv 1
    rw [Nat.mul_one] at h
    exact h
  | n + 1, hn => by
    have ih := closN_hi hv n (by omega)
    have hb : (2 ^ T + v).testBit n = v.testBit n := Nat.testBit_two_pow_add_gt (by omega) v
    unfold closN
    rw [hb, ih]
    split
    · rw [Nat.or_assoc]
    · rfl
theorem or_sub {c v x : Nat} (h : v ||| c = c) : c ||| x = v ↔ c = v ∧ v &&& x = x := by
  constructor
  · intro hx
    have h1 : c = v := by
      apply Nat.eq_of_testBit_eq
      intro i
      have a := congrArg (fun z => z.testBit i) h
      have b := congrArg (fun z => z.testBit i) hx
      simp only [Nat.testBit_or] at a b
      revert a b
      cases c.testBit i <;> cases v.testBit i <;> cases x.testBit i <;> simp
    refine ⟨h1, ?_⟩
    subst h1
    apply Nat.eq_of_testBit_eq
    intro i
    have b := congrArg (fun z => z.testBit i) hx
    simp only [Nat.testBit_or] at b
    rw [Nat.testBit_and]
    revert b
    cases c.testBit i <;> cases x.testBit i <;> simp
  · rintro ⟨rfl, hx⟩
    apply Nat.eq_of_testBit_eq
    intro i
    have b := congrArg (fun z => z.testBit i) hx
    simp only [Nat.testBit_and] at b
    rw [Nat.testBit_or]
    revert b
    cases c.testBit i <;> cases x.testBit i <;> simp
/-- the states of one topic more -/
theorem pS_lo (hT : T < 12) (hI : imB iN) (ha : aB aN T) {v : Nat} (hv : v < 2 ^ T) : pS iN aN (T + 1) v = pS iN aN T v := by
  have h1 : closN iN v (T + 1) = closN iN v T := closN_more hv 1
  have hv31 := pow31 (m := T) (by omega) hv
  have hc := clos31 hI (n := T) (m := T) (by omega) (Nat.le_refl _) hv
  rw [Bool.eq_iff_iff, pS_iff ha (by omega) hv31 (by rw [h1]; exact hc), pS_iff ha (by omega) hv31 hc, h1]
  constructor
  · rintro ⟨a, b⟩; exact ⟨a, fun t ht => b t (by omega)⟩
  · rintro ⟨a, b⟩
    refine ⟨a, fun t ht => ?_⟩
    rcases Nat.lt_or_ge t T with z | z
    · exact b t z
    · exact Or.inl ((ha t).2 z)
theorem pS_hi (hT : T < 12) (hI : imB iN) (ha : aB aN T) {v : Nat} (hv : v < 2 ^ T) : pS iN aN (T + 1) (2 ^ T + v) = (pS iN aN T v && decide (v &&& iN T = iN T)) := by
  have ep : 2 ^ (T + 1) = 2 ^ T + 2 ^ T := by rw [Nat.pow_succ]; omega
  have hlt : 2 ^ T + v < 2 ^ (T + 1) := by omega
  have hv31 := pow31 (m := T) (by omega) hv
  have hc := clos31 hI (n := T) (m := T) (by omega) (Nat.le_refl _) hv
  have hcT : closN iN v T < 2 ^ T := closN_lt hv T (imB_lt hI)
  have hcx : closN iN v T ||| iN T < 2 ^ T := Nat.or_lt_two_pow hcT (hI T)
  have h1 : closN iN (2 ^ T + v) (T + 1) = 2 ^ T + (closN iN v T ||| iN T) := by
    have hb : (2 ^ T + v).testBit T = true := by
      rw [Nat.testBit_two_pow_add_eq, Nat.testBit_lt_two_pow hv]; rfl
    have hz := Nat.two_pow_add_eq_or_of_lt hcx 1
    rw [Nat.mul_one] at hz
    show (if (2 ^ T + v).testBit T then closN iN (2 ^ T + v) T ||| iN T else closN iN (2 ^ T + v) T) = _
    rw [if_pos hb, closN_hi hv T (Nat.le_refl _), hz, Nat.or_assoc]
  rw [Bool.eq_iff_iff, Bool.and_eq_true, decide_eq_true_iff, pS_iff ha (by omega) (pow31 (m := T + 1) (by omega) hlt) (clos31 hI (n := T + 1) (m := T + 1) (by omega) (Nat.le_refl _) hlt), pS_iff ha (by omega) hv31 hc, h1]
  have e1 : (2 ^ T + (closN iN v T ||| iN T) = 2 ^ T + v) ↔ closN iN v T = v ∧ v &&& iN T = iN T := by
    rw [← or_sub (closN_ge iN v T)]
    omega
  rw [e1]
  constructor
  · rintro ⟨⟨a, a2⟩, b⟩
    refine ⟨⟨a, fun t ht => ?_⟩, a2⟩
    rcases b t (by omega) with z | z
    · exact Or.inl z
    · refine Or.inr ?_
      rw [← z]
      exact (Nat.testBit_two_pow_add_gt ht v).symm
  · rintro ⟨⟨a, b⟩, a2⟩
    refine ⟨⟨a, a2⟩, fun t ht => ?_⟩
    rcases Nat.lt_or_ge t T with z | z
    · rcases b t z with y | y
      · exact Or.inl y
      · refine Or.inr ?_
        rw [← y]
        exact Nat.testBit_two_pow_add_gt z v
    · exact Or.inl ((ha t).2 z)
theorem pS_cg {jN : Nat → Nat} {n v : Nat} (h : ∀ t, t < n → iN t = jN t) : pS iN aN n v = pS jN aN n v := by
  unfold pS stateB
  rw [closF_congr (f := nF iN) (g := nF jN) n (fun t ht => by unfold nF; rw [h t ht])]
/-- an answer's states -/
theorem pS_ans (hT : T ≤ 12) (hI : imB iN) (ha : aB aN T) {t : Nat} (ht : t < T) (h0 : aN t = 0) (is : Bool) {v : Nat} (hv : v < 2 ^ T) : pS iN (updN aN t (if is then 1 else 2)) T v = (pS iN aN T v && (v.testBit t == is)) := by
  have ha' : aB (updN aN t (if is then 1 else 2)) T := by
    intro s
    unfold updN
    by_cases hs : s = t
    · rw [if_pos hs]
      exact ⟨by split <;> omega, fun z => absurd z (by omega)⟩
    · rw [if_neg hs]; exact ha s
  have hv31 := pow31 (m := T) (by omega) hv
  have hc := clos31 hI (n := T) (m := T) (by omega) (Nat.le_refl _) hv
  rw [Bool.eq_iff_iff, Bool.and_eq_true, pS_iff ha' hT hv31 hc, pS_iff ha hT hv31 hc]
  have et : (v.testBit t == is) = true ↔ v.testBit t = is := by simp
  rw [et]
  have hnew : (updN aN t (if is then 1 else 2)) t = (if is then 1 else 2) := updN_s _ _ _
  constructor
  · rintro ⟨a, b⟩
    refine ⟨⟨a, fun s hs => ?_⟩, ?_⟩
    · by_cases hst : s = t
      · subst hst; exact Or.inl h0
      · have := b s hs
        rw [updN_n hst] at this
        exact this
    · have := b t ht
      rw [hnew] at this
      cases is
      · rcases this with z | z
        · exact absurd z (by decide)
        · exact z
      · rcases this with z | z
        · exact absurd z (by decide)
        · exact z
  · rintro ⟨⟨a, b⟩, c⟩
    refine ⟨a, fun s hs => ?_⟩
    by_cases hst : s = t
    · subst hst
      rw [hnew]
      right
      rw [c]
      cases is <;> rfl
    · rw [updN_n hst]; exact b s hs
/-- the class's closures and what they imply -/
theorem impl_N (hT : T ≤ 12) (hI : imB iN) {t : Nat} (ht : t < T) : implF (nF (clN iN T)) (nI t) = nI (iN t) := by
  have h2 : 2 ^ t < 2 ^ T := Nat.pow_lt_pow_right (by decide) ht
  unfold implF
  rw [kshl1 t (by omega), closF_cl hT h2, closF_N (kp31 hT h2) T (by omega), hx_andn]
  congr 1
  apply Nat.eq_of_testBit_eq
  intro i
  rw [andn_t, Bool.eq_iff_iff, Bool.and_eq_true, closN_iff, Nat.testBit_two_pow]
  constructor
  · rintro ⟨z, z2⟩
    simp at z2
    rcases z with z | ⟨s, z3, z4, z5⟩
    · simp at z; exact absurd z z2
    · rw [Nat.testBit_two_pow] at z4
      simp at z4
      subst z4; exact z5
  · intro z
    have hne : ¬ t = i := by
      rintro rfl
      rw [Nat.testBit_lt_two_pow (hI t)] at z
      cases z
    refine ⟨Or.inr ⟨t, ht, ?_, z⟩, by simp [hne]⟩
    rw [Nat.testBit_two_pow]; simp
theorem cl_new (hT : T < 12) {b : Nat} (hb : b < 2 ^ T) : upd (nF (clN iN T)) T ((1 <<< (nI T &&& 31)) ||| closF (nF (clN iN T)) (nI b) 12) = nF (clN (updN iN T (closN iN b T)) (T + 1)) := by
  rw [kshl1 T (by omega), closF_cl (by omega) hb, closF_N (kp31 (by omega) hb) T (by omega), hx_or, nF_upd]
  congr 1
  funext t
  unfold updN clN
  by_cases h : t = T
  · subst h
    rw [if_pos rfl, if_pos (by omega)]
    simp
  · rw [if_neg h]
    by_cases h2 : t < T
    · rw [if_pos h2, if_pos (by omega)]
      simp [h]
    · rw [if_neg h2, if_neg (by omega)]
theorem imB_new (hI : imB iN) {x : Nat} (hx : x < 2 ^ T) : imB (updN iN T x) := by
  intro t
  unfold updN
  by_cases h : t = T
  · rw [if_pos h, h]; exact hx
  · rw [if_neg h]; exact hI t
/-- a new topic -/
theorem topic_E (hT : T < 12) (hI : imB iN) (ha : aB aN T) {sf : Nat → Int32} {ns b : Nat} (hb : b < 2 ^ T) (h : enumOK (pS iN aN T) (2 ^ T) sf ns) {A : (Nat → Int32) × Nat}
    (hA : A = addF sf ns (1 <<< (nI T &&& 31)) (implF (upd (nF (clN iN T)) T ((1 <<< (nI T &&& 31)) ||| closF (nF (clN iN T)) (nI b) 12)) (nI T)) ns) : enumOK (pS (updN iN T (closN iN b T)) aN (T + 1)) (2 ^ (T + 1)) A.1 A.2 := by
  have hx : closN iN b T < 2 ^ T := closN_lt hb T (imB_lt hI)
  have hI' := imB_new hI hx
  have hcg : ∀ v, pS (updN iN T (closN iN b T)) aN T v = pS iN aN T v := fun v => pS_cg (fun t ht => updN_n (by omega))
  rw [cl_new hT hb, kshl1 T (by omega), impl_N (by omega) hI' (show T < T + 1 by omega), updN_s] at hA
  subst hA
  refine add_E hT h hx (fun v hv => ?_) (fun v hv => ?_)
  · rw [pS_lo hT hI' ha hv, hcg]
  · rw [pS_hi hT hI' ha hv, hcg, updN_s]
theorem nF_0 : nF (fun _ => 0) = fun _ => (0 : Int32) := rfl
theorem aB_0 (T : Nat) : aB (fun _ => 0) T := fun t => ⟨Nat.zero_le _, fun _ => rfl⟩
/-- asking anew -/
theorem ask_E (hT : T ≤ 12) (hI : imB iN) (sf : Nat → Int32) : ∀ t, t ≤ T → enumOK (pS iN (fun _ => 0) t) (2 ^ t) (askF (nF (clN iN T)) sf t).1 (askF (nF (clN iN T)) sf t).2
  | 0, _ => by
    have h1 : pS iN (fun _ => 0) 0 0 = true := by rfl
    refine ⟨?_, fun v hv hp => ?_⟩
    · show 1 = cntP _ 1
      unfold cntP
      rw [h1]; rfl
    · have e : v = 0 := by omega
      subst e
      show upd sf 0 0 0 = nI 0
      rw [upd_s]; rfl
  | t + 1, ht => by
    have ih := ask_E hT hI sf t (by omega)
    show enumOK _ _ (addF (askF (nF (clN iN T)) sf t).1 (askF (nF (clN iN T)) sf t).2 (1 <<< (nI t &&& 31)) (implF (nF (clN iN T)) (nI t)) (askF (nF (clN iN T)) sf t).2).1 (addF (askF (nF (clN iN T)) sf t).1 (askF (nF (clN iN T)) sf t).2 (1 <<< (nI t &&& 31)) (implF (nF (clN iN T)) (nI t)) (askF (nF (clN iN T)) sf t).2).2
    rw [kshl1 t (by omega), impl_N hT hI (show t < T by omega)]
    exact add_E (by omega) ih (hI t) (fun v hv => pS_lo (by omega) hI (aB_0 t) hv) (fun v hv => pS_hi (by omega) hI (aB_0 t) hv)
/-- there is a state always, when asking begins -/
theorem cnt_T {p : Nat → Bool} {sf : Nat → Int32} {ns : Nat} (hT : T ≤ 12) (h : enumOK p (2 ^ T) sf ns) : ns ≤ 4096 := by
  rw [h.1]
  exact Nat.le_trans (cntP_le p _) (kpow hT)
end PASK2
