/-! ===== the pure part: lay, reach, gaps, minutes, can, done ===== -/
section PREST
variable {nN eN iN gN sN pN mN : Nat → Nat} {T P pa K : Nat}
theorem stp_k {k : Nat} (hP : P ≤ 14) (hk : k < 2 ^ 31) : stpB P (nI k) = decide (k < 2 * P) := by
  unfold stpB
  rcases Nat.eq_zero_or_pos P with h | h
  · subst h
    rw [Bool.eq_iff_iff]
    have e : (2 * nI 0 - 1 : Int32) = -1 := by decide
    rw [e]
    simp only [decide_eq_true_iff]
    unfold withinB
    constructor
    · intro z
      rw [Bool.and_eq_true, decide_eq_true_iff, decide_eq_true_iff] at z
      exfalso
      apply z.2
      rw [Int32.lt_iff_toInt_lt, nI_toInt hk]
      have e1 : (-1 : Int32).toInt = -1 := by decide
      omega
    · intro z; omega
  · rw [show (2 : Int32) = nI 2 from rfl, pk_mul, show nI (2 * P) - 1 = nI (2 * P - 1) from pk_sub (a := 2 * P) (b := 1) (by omega), Bool.eq_iff_iff, show (0 : Int32) = nI 0 from rfl, wi_iff (by decide) (by omega)]
    simp only [decide_eq_true_iff]
    constructor
    · rintro ⟨j, _, h2, h3⟩
      rw [nI_eq hk (by omega)] at h3
      omega
    · intro z
      exact ⟨k, Nat.zero_le _, by omega, rfl⟩
theorem stp_out {x : Int32} (hP : P ≤ 14) (h : x >>> (1 &&& 31) < 0 ∨ nI P ≤ x >>> (1 &&& 31)) : stpB P x = false := by
  cases hs : stpB P x with
  | false => rfl
  | true =>
    obtain ⟨k, hk, rfl⟩ := kstpB hP hs
    rw [khalf (by omega)] at h
    rcases h with z | z
    · exact absurd z (nI_pos (by omega))
    · rw [nI_leI (by omega) (by omega)] at z
      omega
theorem out_k {k : Nat} (hP : P ≤ 14) (hk : k < 4096) (h : 2 * P ≤ k) : nI k >>> (1 &&& 31) < 0 ∨ nI P ≤ nI k >>> (1 &&& 31) := by
  right
  rw [khalf hk, nI_leI (by omega) (by omega)]
  omega
/-! lay -/
theorem lay_w (hm : ∀ w, mN w ≤ 3000) {c : Nat} (hc : c ≤ 4000) : ∀ (f w a b : Nat), f = 52 - w → w < 52 → a + b = mN w →
    (∃ w' a' b', w' < 52 ∧ a' + b' = mN w' ∧ c ≤ a' ∧ layW (nF mN) (nI c) f w (nI a) = (w', nI a') ∧ mW (nF mN) (nI c) f w (nI b) = (w', nI b')) ∨ (∃ l', ¬ nI c ≤ l' ∧ (layW (nF mN) (nI c) f w (nI a)).2 = l' ∧ (mW (nF mN) (nI c) f w (nI b)).1 = 52)
  | 0, w, a, b, hf, hw, hab => by omega
  | f + 1, w, a, b, hf, hw, hab => by
    have h3 := hm w
    have ea : (nI c ≤ nI a) ↔ c ≤ a := nI_leI (by omega) (by omega)
    have eb : (nI b + nI c ≤ nF mN w) ↔ c ≤ a := by
      unfold nF
      rw [nI_add, nI_leI (by omega) (by omega)]
      omega
    unfold layW mW
    by_cases h : c ≤ a
    · rw [if_neg (fun z => z.1 (ea.mpr h)), if_neg (fun z => z.2 (eb.mpr h))]
      exact Or.inl ⟨w, a, b, hw, hab, h, rfl, rfl⟩
    · rw [if_pos (show w < 52 ∧ ¬ nI b + nI c ≤ nF mN w from ⟨hw, fun z => h (eb.mp z)⟩)]
      by_cases h2 : w + 1 < 52
      · rw [if_pos ⟨fun z => h (ea.mp z), h2⟩]
        exact lay_w hm hc f (w + 1) (mN (w + 1)) 0 (by omega) h2 (by omega)
      · rw [if_neg (fun z => h2 z.2)]
        right
        refine ⟨nI a, fun z => h (ea.mp z), rfl, ?_⟩
        have e : f = 0 := by omega
        subst e
        show w + 1 = 52
        omega
theorem lay_N (hP : P ≤ 14) (hB : shB nN eN gN sN pN T) (hpa : pa ≤ 10) (hm : ∀ w, mN w ≤ 3000) {rf ro df pl : Nat → Int32} {rn F : Nat} (hF : F < 52) (hr : ∀ i, i < rn → rf i = ro i ∧ ∃ k, k < 28 ∧ rf i = nI k) : ∀ i, i ≤ rn →
    (layS (nF mN) (fun z => minF P (nF pN) (nI pa) (rf z)) F df i = none ∧ mS (nF mN) (fun i => stpB P (ro i)) (fun i => mtimeF (nF pN) (nI pa) (ro i).toNatClampNeg) F pl i = none) ∨
    (∃ w a b d d', w < 52 ∧ a + b = mN w ∧ layS (nF mN) (fun z => minF P (nF pN) (nI pa) (rf z)) F df i = some (w, nI a, d) ∧ mS (nF mN) (fun i => stpB P (ro i)) (fun i => mtimeF (nF pN) (nI pa) (ro i).toNatClampNeg) F pl i = some (w, nI b, d') ∧ ∀ j, j < i → d j = d' j ∧ ∃ x, x < 52 ∧ d j = nI x)
  | 0, _ => Or.inr ⟨F, mN F, 0, df, pl, hF, by omega, rfl, rfl, fun j hj => absurd hj (Nat.not_lt_zero _)⟩
  | i + 1, hi => by
    have ih := lay_N hP hB hpa hm (df := df) (pl := pl) hF hr i (by omega)
    obtain ⟨r1, k, hk, r2⟩ := hr i (by omega)
    have r3 : ro i = nI k := r1.symm.trans r2
    unfold layS mS
    rcases ih with ⟨h1, h2⟩ | ⟨w, a, b, d, d', hw, hab, h1, h2, h3⟩
    · rw [h1, h2]
      exact Or.inl ⟨rfl, rfl⟩
    · rw [h1, h2]
      show (layG (nF mN) (minF P (nF pN) (nI pa) (rf i)) i (w, nI a, d) = none ∧ mG (nF mN) (fun i => stpB P (ro i)) (fun i => mtimeF (nF pN) (nI pa) (ro i).toNatClampNeg) i (w, nI b, d') = none) ∨ (∃ w2 a2 b2 d2 d2', w2 < 52 ∧ a2 + b2 = mN w2 ∧ layG (nF mN) (minF P (nF pN) (nI pa) (rf i)) i (w, nI a, d) = some (w2, nI a2, d2) ∧ mG (nF mN) (fun i => stpB P (ro i)) (fun i => mtimeF (nF pN) (nI pa) (ro i).toNatClampNeg) i (w, nI b, d') = some (w2, nI b2, d2') ∧ ∀ j, j < i + 1 → d2 j = d2' j ∧ ∃ x, x < 52 ∧ d2 j = nI x)
      unfold layG mG
      simp only
      rw [r2, r3, stp_k hP (by omega), nI_clamp (by omega)]
      by_cases hkP : k < 2 * P
      · rw [minF_in hP hkP, time_N hB hpa (by omega), mtime_N hB hpa]
        have hc := tmN_le hB hpa k
        rcases lay_w hm hc (52 - w) w a b rfl hw hab with ⟨w', a', b', q1, q2, q3, q4, q5⟩ | ⟨l', q1, q2, q3⟩
        · have hm' := hm w'
          rw [q4, q5]
          right
          refine ⟨w', a' - tmN pN pa k, b' + tmN pN pa k, upd d i (nI w'), upd d' i (nI w'), q1, by omega, ?_, ?_, fun j hj => ?_⟩
          · rw [if_neg (fun z => by rcases z with z | z; exact nI_m1 (by omega) z; exact z (nI_le q3 (by omega)))]
            show some (w', nI a' - nI (tmN pN pa k), upd d i (nI w')) = _
            rw [pk_sub q3]
          · rw [if_neg (fun z => by rcases z with z | z; (rw [decide_eq_true hkP] at z; cases z); (have z : w' = 52 := z; omega))]
            show some (w', nI b' + nI (tmN pN pa k), upd d' i (nI w')) = _
            rw [nI_add]
          · by_cases e : j = i
            · subst e
              rw [upd_s, upd_s]
              exact ⟨rfl, w', q1, rfl⟩
            · rw [upd_n e, upd_n e]
              exact h3 j (by omega)
        · left
          rw [q2, q3]
          exact ⟨if_pos (Or.inr q1), if_pos (Or.inr rfl)⟩
      · left
        rw [minF_out (out_k hP (by omega) (by omega))]
        exact ⟨if_pos (Or.inl rfl), if_pos (Or.inl (decide_eq_false hkP))⟩
theorem bec_at (f g : Nat → Int32) : ∀ n j, becF f g n j = if j < n then g j else f j
  | 0, j => by simp [becF]
  | n + 1, j => by
    have ih := bec_at f g n j
    unfold becF upd
    by_cases h : j = n
    · subst h; simp
    · rw [if_neg h, ih]
      by_cases h2 : j < n
      · rw [if_pos h2, if_pos (by omega)]
      · rw [if_neg h2, if_neg (by omega)]
theorem lay_eq (hP : P ≤ 14) (hB : shB nN eN gN sN pN T) (hpa : pa ≤ 10) (hm : ∀ w, mN w ≤ 3000) {rf ro df pl lf la : Nat → Int32} {rn ln F : Nat} (hF : F < 52) (hr : ∀ i, i < rn → rf i = ro i ∧ ∃ k, k < 28 ∧ rf i = nI k) (hl : ∀ i, i < ln → lf i = la i)
    {o o' : Option (Nat × Int32 × (Nat → Int32))} (ho : o = layS (nF mN) (fun z => minF P (nF pN) (nI pa) (rf z)) F df rn) (ho' : o' = mS (nF mN) (fun i => stpB P (ro i)) (fun i => mtimeF (nF pN) (nI pa) (ro i).toNatClampNeg) F pl rn) :
    layR o = layR o' ∧ layN o rn ln = layN o' rn ln ∧ (layN o rn ln = rn ∨ layN o rn ln = ln) ∧ ∀ i, i < layN o rn ln → layA o rn lf i = layA o' rn la i := by
  rcases lay_N hP hB hpa hm (df := df) (pl := pl) hF hr rn (Nat.le_refl _) with ⟨h1, h2⟩ | ⟨w, a, b, d, d', hw, hab, h1, h2, h3⟩
  · rw [ho, ho', h1, h2]
    exact ⟨rfl, rfl, Or.inr rfl, hl⟩
  · rw [ho, ho', h1, h2]
    refine ⟨rfl, rfl, Or.inl rfl, fun i hi => ?_⟩
    have hi : i < rn := hi
    show becF lf d rn i = becF la d' rn i
    rw [bec_at, bec_at, if_pos hi, if_pos hi]
    exact (h3 i hi).1
/-! reach -/
def rdN (nN eN gv : Nat → Nat) (v : Nat) : Nat → Nat
  | 0 => v
  | p + 1 => if opN (nN p) (eN p) (rdN nN eN gv v p) then rdN nN eN gv v p ||| gv p else rdN nN eN gv v p
theorem rdN_ge (nN eN gv : Nat → Nat) (v : Nat) : ∀ p, v ||| rdN nN eN gv v p = rdN nN eN gv v p
  | 0 => Nat.or_self v
  | p + 1 => by
    have ih := rdN_ge nN eN gv v p
    unfold rdN
    split
    · rw [← Nat.or_assoc, ih]
    · exact ih
theorem gv_lt (hB : shB nN eN gN sN pN T) (hI : imB iN) (i : Nat) : gvN iN gN T i < 2 ^ T := closN_lt (hB i).2.2.1 T (imB_lt hI)
theorem rdN_lt (hB : shB nN eN gN sN pN T) (hI : imB iN) {v : Nat} (hv : v < 2 ^ T) : ∀ p, rdN nN eN (gvN iN gN T) v p < 2 ^ T
  | 0 => hv
  | p + 1 => by
    have ih := rdN_lt hB hI hv p
    unfold rdN
    split
    · exact Nat.or_lt_two_pow ih (gv_lt hB hI p)
    · exact ih
theorem read_N (hT : T ≤ 12) (hB : shB nN eN gN sN pN T) (hI : imB iN) {v : Nat} (hv : v < 2 ^ T) : ∀ p, readF (nF nN) (nF eN) (nF (gvN iN gN T)) (nI v) p = nI (rdN nN eN (gvN iN gN T) v p)
  | 0 => rfl
  | p + 1 => by
    have ih := read_N hT hB hI hv p
    have hl := rdN_lt hB hI hv p
    unfold readF rdN
    rw [ih, openB_N hT hB hl]
    split
    · exact hx_or _ _
    · rfl
theorem rch_N (hT : T ≤ 12) (hB : shB nN eN gN sN pN T) (hI : imB iN) {v : Nat} (hv : v < 2 ^ T) : ∀ p, rchF (nF nN) (nF eN) (nF iN) (nF gN) (nF sN) T (nI v) p = nI (rdN nN eN (gvN iN gN T) v p)
  | 0 => rfl
  | p + 1 => by
    have ih := rch_N hT hB hI hv p
    have hl := rdN_lt hB hI hv p
    unfold rchF rdN
    rw [ih, canB_N hT hB hl, bhF_N hT hB, show 2 * p / 2 = p by omega]
    have e : brN iN gN sN T (2 * p) = gvN iN gN T p := by
      unfold brN gvN
      rw [if_pos (by omega), show 2 * p / 2 = p by omega]
    rw [e]
    split <;> rfl
def rsN (nN eN gv : Nat → Nat) (P v : Nat) : Nat → Nat
  | 0 => v
  | j + 1 => rdN nN eN gv (rsN nN eN gv P v j) P
theorem rsN_lt (hB : shB nN eN gN sN pN T) (hI : imB iN) {v : Nat} (hv : v < 2 ^ T) : ∀ j, rsN nN eN (gvN iN gN T) P v j < 2 ^ T
  | 0 => hv
  | j + 1 => rdN_lt hB hI (rsN_lt hB hI hv j) P
theorem rchC_N (hT : T ≤ 12) (hB : shB nN eN gN sN pN T) (hI : imB iN) {v : Nat} (hv : v < 2 ^ T) : ∀ j, rchC (nF nN) (nF eN) (nF (gvN iN gN T)) P (nI v) j = nI (rsN nN eN (gvN iN gN T) P v j)
  | 0 => rfl
  | j + 1 => by
    unfold rchC rsN
    rw [rchC_N hT hB hI hv j, read_N hT hB hI (rsN_lt hB hI hv j)]
theorem rchI_N (hT : T ≤ 12) (hB : shB nN eN gN sN pN T) (hI : imB iN) {v : Nat} (hv : v < 2 ^ T) : ∀ j, rchI (nF nN) (nF eN) (nF iN) (nF gN) (nF sN) T P (nI v) j = nI (rsN nN eN (gvN iN gN T) P v j)
  | 0 => rfl
  | j + 1 => by
    unfold rchI rsN
    rw [rchI_N hT hB hI hv j, rch_N hT hB hI (rsN_lt hB hI hv j)]
theorem pcN_T {v : Nat} (hv : v < 2 ^ T) : ∀ d, pcN v (T + d) ≤ T
  | 0 => pcN_le v T
  | d + 1 => by
    have ih := pcN_T hv d
    show pcN v (T + d) + (if v.testBit (T + d) then 1 else 0) ≤ T
    rw [if_neg (by rw [Nat.testBit_lt_two_pow (Nat.lt_of_lt_of_le hv (Nat.pow_le_pow_right (by decide) (by omega)))]; decide)]
    exact ih
theorem rs_fix {nN eN gv : Nat → Nat} {P v j : Nat} (h : rsN nN eN gv P v (j + 1) = rsN nN eN gv P v j) : ∀ d, rsN nN eN gv P v (j + d) = rsN nN eN gv P v j
  | 0 => rfl
  | d + 1 => by
    show rdN nN eN gv (rsN nN eN gv P v (j + d)) P = _
    rw [rs_fix h d]
    exact h
theorem rs_stop (hT : T ≤ 12) (hB : shB nN eN gN sN pN T) (hI : imB iN) {v : Nat} (hv : v < 2 ^ T) : ∀ n, (∃ j, j < n ∧ rsN nN eN (gvN iN gN T) P v (j + 1) = rsN nN eN (gvN iN gN T) P v j) ∨ n ≤ pcN (rsN nN eN (gvN iN gN T) P v n) 12
  | 0 => Or.inr (Nat.zero_le _)
  | n + 1 => by
    rcases rs_stop hT hB hI hv n with ⟨j, h1, h2⟩ | h
    · exact Or.inl ⟨j, by omega, h2⟩
    · by_cases e : rsN nN eN (gvN iN gN T) P v (n + 1) = rsN nN eN (gvN iN gN T) P v n
      · exact Or.inl ⟨n, by omega, e⟩
      · right
        have hlt := rsN_lt (P := P) hB hI hv (n + 1)
        have hge : rsN nN eN (gvN iN gN T) P v n ||| rsN nN eN (gvN iN gN T) P v (n + 1) = rsN nN eN (gvN iN gN T) P v (n + 1) := rdN_ge _ _ _ _ P
        obtain ⟨i, a1, a2, a3⟩ := or_new hlt (show ¬ rsN nN eN (gvN iN gN T) P v n ||| rsN nN eN (gvN iN gN T) P v (n + 1) = rsN nN eN (gvN iN gN T) P v n by rw [hge]; exact e)
        have := pcN_lt 12 ⟨i, by omega, a2, a3⟩
        rw [hge] at this
        omega
theorem reach_eq (hT : T ≤ 12) (hB : shB nN eN gN sN pN T) (hI : imB iN) (hK : K < 2 ^ T) : rchC (nF nN) (nF eN) (nF (gvN iN gN T)) P (nI K) 12 = rchI (nF nN) (nF eN) (nF iN) (nF gN) (nF sN) T P (nI K) (2 ^ T) := by
  rw [rchC_N hT hB hI hK, rchI_N hT hB hI hK]
  have hTT : T < 2 ^ T := Nat.lt_two_pow_self
  rcases rs_stop (P := P) hT hB hI hK (T + 1) with ⟨j, h1, h2⟩ | h
  · have e1 := rs_fix h2 (12 - j)
    have e2 := rs_fix h2 (2 ^ T - j)
    rw [show j + (12 - j) = 12 by omega] at e1
    rw [show j + (2 ^ T - j) = 2 ^ T by omega] at e2
    rw [e1, e2]
  · exfalso
    have h3 := pcN_T (rsN_lt (P := P) hB hI hK (T + 1)) (12 - T)
    rw [show T + (12 - T) = 12 by omega] at h3
    omega
/-! gaps -/
theorem want_need (f : Nat → Int32) : ∀ p, wantF f p = neededF f p
  | 0 => rfl
  | p + 1 => by unfold wantF neededF; rw [want_need f p]
def ndN (f : Nat → Nat) : Nat → Nat
  | 0 => 0
  | p + 1 => ndN f p ||| f p
theorem need_N (f : Nat → Nat) : ∀ p, neededF (nF f) p = nI (ndN f p)
  | 0 => rfl
  | p + 1 => by unfold neededF ndN; rw [need_N f p]; exact hx_or _ _
theorem gvn_N (hT : T ≤ 12) (hB : shB nN eN gN sN pN T) : ∀ p, gvnF (nF iN) (nF gN) T (nI K) p = nI (K ||| ndN (gvN iN gN T) p)
  | 0 => by unfold gvnF ndN; rw [Nat.or_zero]
  | p + 1 => by
    unfold gvnF ndN
    rw [gvn_N hT hB p]
    unfold nF
    rw [show closF (fun i => nI (iN i)) (nI (gN p)) T = nI (closN iN (gN p) T) from closF_N (kp31 hT (hB p).2.2.1) T (by omega), hx_or, Nat.or_assoc]
    rfl
theorem gaps_eq (hT : T ≤ 12) (hB : shB nN eN gN sN pN T) : (neededF (nF nN) P &&& (neededF (nF (gvN iN gN T)) P ^^^ (-1))) &&& (nI K ^^^ (-1)) = wantF (nF nN) P &&& (gvnF (nF iN) (nF gN) T (nI K) P ^^^ (-1)) := by
  rw [want_need, need_N, need_N, gvn_N hT hB, hx_andn, hx_andn, hx_andn]
  congr 1
  apply Nat.eq_of_testBit_eq
  intro i
  rw [andn_t, andn_t, andn_t, Nat.testBit_or]
  cases (ndN nN P).testBit i <;> cases (ndN (gvN iN gN T) P).testBit i <;> cases K.testBit i <;> rfl
end PREST
