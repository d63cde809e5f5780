/-! ===== the pure part: the graph of the pieces ===== -/
def opN (n e v : Nat) : Bool := decide (v &&& n = n) && (decide (e = 0) || decide (¬ v &&& e = 0))
def brN (iN gN sN : Nat → Nat) (T k : Nat) : Nat := closN iN (if k % 2 = 0 then gN (k / 2) else sN (k / 2)) T
def stG (nN eN iN gN sN : Nat → Nat) (T P : Nat) (wt : Int32) (k v : Nat) : Option Nat :=
  if k < 2 * P ∧ ¬ nI (k / 2) = wt ∧ opN (nN (k / 2)) (eN (k / 2)) v = true ∧ ¬ v ||| brN iN gN sN T k = v then some (v ||| brN iN gN sN T k) else none
def tmN (pN : Nat → Nat) (pa k : Nat) : Nat := if k % 2 = 0 then pN (k / 2) * pa else (pN (k / 2) * pa + 2) / 3
def pcN (v : Nat) : Nat → Nat
  | 0 => 0
  | n + 1 => pcN v n + (if v.testBit n then 1 else 0)
theorem pcN_le (v : Nat) : ∀ n, pcN v n ≤ n
  | 0 => Nat.le_refl _
  | n + 1 => by
    have := pcN_le v n
    unfold pcN
    split <;> omega
theorem pcN_mono (v b : Nat) : ∀ n, pcN v n ≤ pcN (v ||| b) n
  | 0 => Nat.le_refl _
  | n + 1 => by
    have := pcN_mono v b n
    unfold pcN
    rw [Nat.testBit_or]
    cases v.testBit n <;> cases b.testBit n <;> simp <;> omega
theorem pcN_lt {v b : Nat} : ∀ n, (∃ i, i < n ∧ v.testBit i = false ∧ b.testBit i = true) → pcN v n < pcN (v ||| b) n
  | 0, ⟨i, h, _⟩ => absurd h (by omega)
  | n + 1, ⟨i, h1, h2, h3⟩ => by
    have hm := pcN_mono v b n
    unfold pcN
    rw [Nat.testBit_or]
    rcases Nat.lt_or_ge i n with hi | hi
    · have := pcN_lt n ⟨i, hi, h2, h3⟩
      cases v.testBit n <;> cases b.testBit n <;> simp <;> omega
    · have e : i = n := by omega
      subst e
      rw [h2, h3]
      simp
      omega
theorem or_new {v b m : Nat} (hb : b < 2 ^ m) (h : ¬ v ||| b = v) : ∃ i, i < m ∧ v.testBit i = false ∧ b.testBit i = true := by
  rcases Classical.em (∃ i, i < m ∧ v.testBit i = false ∧ b.testBit i = true) with q | q
  · exact q
  · exfalso
    apply h
    apply Nat.eq_of_testBit_eq
    intro i
    rw [Nat.testBit_or]
    cases hv : v.testBit i with
    | true => rfl
    | false =>
      cases hbi : b.testBit i with
      | false => rfl
      | true =>
        rcases Nat.lt_or_ge i m with hi | hi
        · exact absurd ⟨i, hi, hv, hbi⟩ q
        · rw [Nat.testBit_lt_two_pow (Nat.lt_of_lt_of_le hb (Nat.pow_le_pow_right (by decide) hi))] at hbi
          cases hbi
/-- what bounds the shelf and the topics -/
def shB (nN eN gN sN pN : Nat → Nat) (T : Nat) : Prop := ∀ i, nN i < 2 ^ T ∧ eN i < 2 ^ T ∧ gN i < 2 ^ T ∧ sN i < 2 ^ T ∧ pN i ≤ 400
def imB (iN : Nat → Nat) : Prop := ∀ t, iN t < 2 ^ t
theorem imB_lt {iN : Nat → Nat} (h : imB iN) {T : Nat} : ∀ t, t < T → iN t < 2 ^ T := fun t ht => Nat.lt_of_lt_of_le (h t) (Nat.pow_le_pow_right (by decide) (by omega))
section PCONC
variable {nN eN iN gN sN pN : Nat → Nat} {T P pa : Nat} {wt : Int32}
theorem brN_lt (hB : shB nN eN gN sN pN T) (hI : imB iN) (k : Nat) : brN iN gN sN T k < 2 ^ T := by
  unfold brN
  refine closN_lt ?_ T (imB_lt hI)
  split
  · exact (hB (k / 2)).2.2.1
  · exact (hB (k / 2)).2.2.2.1
theorem tmN_le (hB : shB nN eN gN sN pN T) (hpa : pa ≤ 10) (k : Nat) : tmN pN pa k ≤ 4000 := by
  have h1 := (hB (k / 2)).2.2.2.2
  have h2 : pN (k / 2) * pa ≤ 400 * 10 := Nat.mul_le_mul h1 hpa
  unfold tmN
  split <;> omega
theorem stG_OK (hT : T ≤ 12) (hP : P ≤ 14) (hpa : pa ≤ 10) (hB : shB nN eN gN sN pN T) (hI : imB iN) : gOK (stG nN eN iN gN sN T P wt) (2 * P) (2 ^ T) (tmN pN pa) (fun v => pcN v 12) := by
  refine ⟨kpow hT, by omega, tmN_le hB hpa, fun v => pcN_le v 12, fun k v u hv h => ?_⟩
  unfold stG at h
  split at h
  · rename_i hc
    obtain ⟨h1, h2, h3, h4⟩ := hc
    cases h
    have hb := brN_lt hB hI (T := T) k
    obtain ⟨i, i1, i2, i3⟩ := or_new hb h4
    refine ⟨h1, ?_, Nat.or_lt_two_pow hv hb, pcN_lt 12 ⟨i, by omega, i2, i3⟩⟩
    have := Nat.left_le_or (n := v) (m := brN iN gN sN T k)
    omega
  · cases h
theorem nI_z {a : Nat} (h : a < 2 ^ 31) : nI a = 0 ↔ a = 0 := by
  rw [show (0 : Int32) = nI 0 from rfl, nI_eq h (by decide)]
theorem canB_N (hT : T ≤ 12) (hB : shB nN eN gN sN pN T) {k v : Nat} (hv : v < 2 ^ T) : canB (nF nN) (nF eN) k (nI v) = opN (nN (k / 2)) (eN (k / 2)) v := by
  obtain ⟨h1, h2, _, _, _⟩ := hB (k / 2)
  unfold canB opN nF
  rw [hx_andn, hx_and]
  have a1 := andn_le (nN (k / 2)) v
  have a2 := Nat.and_le_left (n := eN (k / 2)) (m := v)
  have a3 := kp31 hT h1
  have a4 := kp31 hT h2
  rw [Bool.eq_iff_iff]
  simp only [Bool.and_eq_true, Bool.or_eq_true, decide_eq_true_iff]
  rw [nI_z (by omega), nI_z (by omega), nI_z (by omega), andn_0, Nat.and_comm (nN (k / 2)) v, Nat.and_comm (eN (k / 2)) v]
theorem bhF_N (hT : T ≤ 12) (hB : shB nN eN gN sN pN T) {k v : Nat} : bhF (nF iN) (nF gN) (nF sN) T k (nI v) = nI (v ||| brN iN gN sN T k) := by
  obtain ⟨_, _, h3, h4, _⟩ := hB (k / 2)
  unfold bhF brN
  by_cases h : k % 2 = 0
  · rw [if_pos h, if_pos h]
    unfold nF
    rw [show closF (fun i => nI (iN i)) (nI (gN (k / 2))) T = nI (closN iN (gN (k / 2)) T) from closF_N (kp31 hT h3) T (by omega), hx_or]
  · rw [if_neg h, if_neg h]
    unfold nF
    rw [show closF (fun i => nI (iN i)) (nI (sN (k / 2))) T = nI (closN iN (sN (k / 2)) T) from closF_N (kp31 hT h4) T (by omega), hx_or]
/-- an answer that is a set or NONE -/
def oI (o : Option Nat) : Int32 := match o with
  | none => -1
  | some u => nI u
theorem nbF_N (hT : T ≤ 12) (hB : shB nN eN gN sN pN T) (hI : imB iN) {k v : Nat} (hk : k < 2 * P) (hv : v < 2 ^ T) : nbF (nF nN) (nF eN) (nF iN) (nF gN) (nF sN) T wt k (nI v) = oI (stG nN eN iN gN sN T P wt k v) := by
  have hb := brN_lt hB hI (T := T) k
  have ho := Nat.or_lt_two_pow hv hb
  have e1 := nI_eq (kp31 hT ho) (kp31 hT hv)
  unfold nbF stG
  rw [canB_N hT hB hv, bhF_N hT hB]
  by_cases h1 : nI (k / 2) = wt
  · rw [if_pos h1, if_neg (fun q => q.2.1 h1)]; rfl
  · rw [if_neg h1]
    by_cases h2 : opN (nN (k / 2)) (eN (k / 2)) v = true
    · rw [if_pos h2]
      by_cases h3 : v ||| brN iN gN sN T k = v
      · rw [if_pos (e1.mpr h3), if_neg (fun q => q.2.2.2 h3)]; rfl
      · rw [if_neg (fun q => h3 (e1.mp q)), if_pos ⟨hk, h1, h2, h3⟩]; rfl
    · rw [if_neg h2, if_neg (fun q => h2 q.2.2.1)]; rfl
theorem odd_N {k : Nat} (hk : k < 2 ^ 31) : (nI k &&& 1 = 1) ↔ ¬ k % 2 = 0 := by
  rw [pk_andN (show k < 2 ^ 32 by omega) 1 (by decide), show (1 : Int32) = nI 1 from rfl, nI_eq (by omega) (by decide)]
  omega
theorem mtime_N {k : Nat} (hB : shB nN eN gN sN pN T) (hpa : pa ≤ 10) : mtimeF (nF pN) (nI pa) k = nI (tmN pN pa k) := by
  have h1 := (hB (k / 2)).2.2.2.2
  have h2 : pN (k / 2) * pa ≤ 400 * 10 := Nat.mul_le_mul h1 hpa
  unfold mtimeF tmN nF
  split
  · exact pk_mul _ _
  · rw [pk_mul, show (2 : Int32) = nI 2 from rfl, nI_add, show (3 : Int32) = nI 3 from rfl, pk_div (by omega) (by decide) (by decide)]
theorem time_N {k : Nat} (hB : shB nN eN gN sN pN T) (hpa : pa ≤ 10) (hk : k < 2 ^ 31) : timeF (nF pN (k / 2)) (nI pa) (decide (nI k &&& 1 = 1)) = nI (tmN pN pa k) := by
  rw [← mtime_N hB hpa]
  unfold timeF mtimeF
  by_cases h : k % 2 = 0
  · rw [if_neg (by simp only [decide_eq_true_iff]; exact fun q => (odd_N hk).mp q h), if_pos h]
  · rw [if_pos (by simp only [decide_eq_true_iff]; exact (odd_N hk).mpr h), if_neg h]
/-- what a piece gives, as the class keeps it -/
def gvN (iN gN : Nat → Nat) (T : Nat) : Nat → Nat := fun i => closN iN (gN i) T
theorem bring_N {k : Nat} (hk : k < 2 ^ 31) : (if decide (nI k &&& 1 = 1) = true then nF (gvN iN sN T) (k / 2) else nF (gvN iN gN T) (k / 2)) = nI (brN iN gN sN T k) := by
  unfold brN
  by_cases h : k % 2 = 0
  · rw [if_neg (by simp only [decide_eq_true_iff]; exact fun q => (odd_N hk).mp q h), if_pos h]; rfl
  · rw [if_pos (by simp only [decide_eq_true_iff]; exact (odd_N hk).mpr h), if_neg h]; rfl
theorem openB_N (hT : T ≤ 12) (hB : shB nN eN gN sN pN T) {i v : Nat} (hv : v < 2 ^ T) : openB (nF nN i) (nF eN i) (nI v) = opN (nN i) (eN i) v := by
  obtain ⟨h1, h2, _, _, _⟩ := hB i
  unfold openB opN nF
  rw [hx_and, hx_and]
  have a2 := Nat.and_le_right (n := v) (m := nN i)
  have a5 := Nat.and_le_right (n := v) (m := eN i)
  have a3 := kp31 hT h1
  have a4 := kp31 hT h2
  rw [Bool.eq_iff_iff]
  simp only [Bool.and_eq_true, Bool.or_eq_true, decide_eq_true_iff]
  rw [nI_z (by omega), nI_z (by omega), nI_eq (by omega) (by omega)]
theorem goF_N (hT : T ≤ 12) (hP : P ≤ 14) (hpa : pa ≤ 10) (hB : shB nN eN gN sN pN T) (hI : imB iN) {v : Nat} (hv : v < 2 ^ T) (s : (Nat → Int32) × (Nat → Int64)) {k : Nat} (hk : k < 2 * P) :
    goF (2 ^ T) (nF nN) (nF eN) (nF (gvN iN gN T)) (nF (gvN iN sN T)) (nF pN) (nI pa) wt v s (k + 1) = match stG nN eN iN gN sN T P wt k v with
      | none => goF (2 ^ T) (nF nN) (nF eN) (nF (gvN iN gN T)) (nF (gvN iN sN T)) (nF pN) (nI pa) wt v s k
      | some u => offerF (2 ^ T) (goF (2 ^ T) (nF nN) (nF eN) (nF (gvN iN gN T)) (nF (gvN iN sN T)) (nF pN) (nI pa) wt v s k) v (nI u) (nI (tmN pN pa k)) (nI k) := by
  have hb := brN_lt hB hI (T := T) k
  have ho := Nat.or_lt_two_pow hv hb
  have hp := kpow hT
  show (if nI (k / 2) = wt then _ else if openB (nF nN (k / 2)) (nF eN (k / 2)) (nI v) = true then offerF _ _ v (nI v ||| (if decide (nI k &&& 1 = 1) = true then nF (gvN iN sN T) (k / 2) else nF (gvN iN gN T) (k / 2))) (timeF (nF pN (k / 2)) (nI pa) (decide (nI k &&& 1 = 1))) (nI k) else _) = _
  rw [openB_N hT hB hv, bring_N (by omega), hx_or, time_N hB hpa (by omega)]
  unfold stG
  by_cases h1 : nI (k / 2) = wt
  · rw [if_pos h1, if_neg (fun q => q.2.1 h1)]
  · rw [if_neg h1]
    by_cases h2 : opN (nN (k / 2)) (eN (k / 2)) v = true
    · rw [if_pos h2]
      by_cases h3 : v ||| brN iN gN sN T k = v
      · rw [if_neg (fun q => q.2.2.2 h3), h3]
        show offerF _ _ _ _ _ _ = _
        unfold offerF offerB
        rw [if_pos (nI_le (Nat.le_refl v) (kp31 hT hv))]
        rfl
      · rw [if_pos ⟨hk, h1, h2, h3⟩]
    · rw [if_neg h2, if_neg (fun q => h2 q.2.2.1)]
theorem go_fwi (hT : T ≤ 12) (hP : P ≤ 14) (hpa : pa ≤ 10) (hB : shB nN eN gN sN pN T) (hI : imB iN) {K v : Nat} (hK : K < 2 ^ T) (hv : v < 2 ^ T) {s : (Nat → Int32) × (Nat → Int64)} (hs : ¬ s.1 v = -1) (h : FWI (stG nN eN iN gN sN T P wt) (tmN pN pa) (2 ^ T) K v 0 s.1 s.2) : ∀ k, k ≤ 2 * P →
    FWI (stG nN eN iN gN sN T P wt) (tmN pN pa) (2 ^ T) K v k (goF (2 ^ T) (nF nN) (nF eN) (nF (gvN iN gN T)) (nF (gvN iN sN T)) (nF pN) (nI pa) wt v s k).1 (goF (2 ^ T) (nF nN) (nF eN) (nF (gvN iN gN T)) (nF (gvN iN sN T)) (nF pN) (nI pa) wt v s k).2 ∧ (goF (2 ^ T) (nF nN) (nF eN) (nF (gvN iN gN T)) (nF (gvN iN sN T)) (nF pN) (nI pa) wt v s k).1 v = s.1 v
  | 0, _ => ⟨h, rfl⟩
  | k + 1, hk => by
    obtain ⟨ih1, ih2⟩ := go_fwi hT hP hpa hB hI hK hv hs h k (by omega)
    rw [goF_N hT hP hpa hB hI hv s (by omega)]
    cases hj : stG nN eN iN gN sN T P wt k v with
    | none => exact ⟨fwi_none hj ih1, ih2⟩
    | some u =>
      obtain ⟨a1, a2⟩ := fwi_step (stG_OK hT hP hpa hB hI) hK hv (by rw [ih2]; exact hs) hj ih1
      exact ⟨a1, a2.trans ih2⟩
theorem exp_fwi (hT : T ≤ 12) (hP : P ≤ 14) (hpa : pa ≤ 10) (hB : shB nN eN gN sN pN T) (hI : imB iN) {K : Nat} (hK : K < 2 ^ T) {s : (Nat → Int32) × (Nat → Int64)} (h : FWI (stG nN eN iN gN sN T P wt) (tmN pN pa) (2 ^ T) K K 0 s.1 s.2) : ∀ i, i ≤ 2 ^ T - K →
    FWI (stG nN eN iN gN sN T P wt) (tmN pN pa) (2 ^ T) K (K + i) 0 (expF (2 ^ T) P (nF nN) (nF eN) (nF (gvN iN gN T)) (nF (gvN iN sN T)) (nF pN) (nI pa) wt K s i).1 (expF (2 ^ T) P (nF nN) (nF eN) (nF (gvN iN gN T)) (nF (gvN iN sN T)) (nF pN) (nI pa) wt K s i).2
  | 0, _ => h
  | i + 1, hi => by
    have ih := exp_fwi hT hP hpa hB hI hK h i (by omega)
    have hKi : K + i < 2 ^ T := by omega
    unfold expF
    by_cases hf : (expF (2 ^ T) P (nF nN) (nF eN) (nF (gvN iN gN T)) (nF (gvN iN sN T)) (nF pN) (nI pa) wt K s i).1 (K + i) = -1
    · rw [if_pos hf]
      exact fwi_skip (stG_OK hT hP hpa hB hI) hK hKi hf ih
    · rw [if_neg hf]
      exact fwi_next (stG_OK hT hP hpa hB hI) hK (go_fwi hT hP hpa hB hI hK hKi hf ih (2 * P) (Nat.le_refl _)).1
/-- the class's search leaves the best row to each set -/
theorem exp_fwe (hT : T ≤ 12) (hP : P ≤ 14) (hpa : pa ≤ 10) (hB : shB nN eN gN sN pN T) (hI : imB iN) {K : Nat} (hK : K < 2 ^ T) (f : Nat → Int32) (g : Nat → Int64) {q : (Nat → Int32) × (Nat → Int64)}
    (hq : q = expF (2 ^ T) P (nF nN) (nF eN) (nF (gvN iN gN T)) (nF (gvN iN sN T)) (nF pN) (nI pa) wt K (upd (fillF f (2 ^ T)) K 0, vp_updL g K 0) (2 ^ T - K)) :
    FWE (stG nN eN iN gN sN T P wt) (tmN pN pa) (2 ^ T) K q.1 q.2 := by
  subst hq
  have h0 : FWI (stG nN eN iN gN sN T P wt) (tmN pN pa) (2 ^ T) K K 0 (upd (fillF f (2 ^ T)) K 0) (vp_updL g K 0) := by
    refine fwi_start (stG_OK hT hP hpa hB hI) hK (fun u hu => ?_) updL_s
    unfold upd fillF
    by_cases h : u = K
    · rw [if_pos h, if_pos h]
    · rw [if_neg h, if_neg h, if_pos hu]
  have h1 := exp_fwi hT hP hpa hB hI hK (s := (upd (fillF f (2 ^ T)) K 0, vp_updL g K 0)) h0 (2 ^ T - K) (Nat.le_refl _)
  rw [show K + (2 ^ T - K) = 2 ^ T by omega] at h1
  exact fwi_end (stG_OK hT hP hpa hB hI) hK h1
end PCONC
