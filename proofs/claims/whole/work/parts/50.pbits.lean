/-! ===== the pure part: bits of small numbers ===== -/
def nF (f : Nat → Nat) : Nat → Int32 := fun i => nI (f i)
def updN (f : Nat → Nat) (k x : Nat) : Nat → Nat := fun j => if j = k then x else f j
theorem nF_upd (f : Nat → Nat) (k x : Nat) : upd (nF f) k (nI x) = nF (updN f k x) := by
  funext j
  by_cases h : j = k <;> simp [upd, updN, nF, h]
theorem updN_s (f : Nat → Nat) (k x : Nat) : updN f k x k = x := if_pos rfl
theorem updN_n {f : Nat → Nat} {k x j : Nat} (h : j ≠ k) : updN f k x j = f j := if_neg h
theorem hx_and (a b : Nat) : nI a &&& nI b = nI (a &&& b) := by
  apply Int32.toBitVec_inj.1
  show BitVec.ofNat 32 a &&& BitVec.ofNat 32 b = BitVec.ofNat 32 (a &&& b)
  apply BitVec.eq_of_getLsbD_eq
  intro i hi
  simp [hi]
theorem hx_or (a b : Nat) : nI a ||| nI b = nI (a ||| b) := by
  apply Int32.toBitVec_inj.1
  show BitVec.ofNat 32 a ||| BitVec.ofNat 32 b = BitVec.ofNat 32 (a ||| b)
  apply BitVec.eq_of_getLsbD_eq
  intro i hi
  simp [hi]
/-- a without b -/
def andn (a b : Nat) : Nat := a ^^^ (a &&& b)
theorem andn_t (a b i : Nat) : (andn a b).testBit i = (a.testBit i && !b.testBit i) := by
  unfold andn
  rw [Nat.testBit_xor, Nat.testBit_and]
  cases a.testBit i <;> cases b.testBit i <;> rfl
theorem hx_andn (a b : Nat) : nI a &&& (nI b ^^^ (-1)) = nI (andn a b) := by
  apply Int32.toBitVec_inj.1
  show BitVec.ofNat 32 a &&& (BitVec.ofNat 32 b ^^^ 4294967295#32) = BitVec.ofNat 32 (andn a b)
  apply BitVec.eq_of_getLsbD_eq
  intro i hi
  have h1 : (4294967295#32).getLsbD i = true := by
    have : ∀ i, i < 32 → (4294967295#32).getLsbD i = true := by decide +kernel
    exact this i hi
  rw [BitVec.getLsbD_and, BitVec.getLsbD_xor, h1, BitVec.getLsbD_ofNat, BitVec.getLsbD_ofNat, BitVec.getLsbD_ofNat, andn_t]
  simp [hi]
theorem andn_0 {a b : Nat} : andn a b = 0 ↔ a &&& b = a := by
  constructor
  · intro h
    apply Nat.eq_of_testBit_eq
    intro i
    have h1 : (andn a b).testBit i = false := by rw [h]; simp
    rw [andn_t] at h1
    rw [Nat.testBit_and]
    cases ha : a.testBit i <;> cases hb : b.testBit i <;> simp_all
  · intro h
    unfold andn
    rw [h, Nat.xor_self]
theorem andn_le (a b : Nat) : andn a b ≤ a := by
  have h : andn a b &&& a = andn a b := by
    apply Nat.eq_of_testBit_eq
    intro i
    rw [Nat.testBit_and, andn_t]
    cases a.testBit i <;> cases b.testBit i <;> rfl
  rw [← h]
  exact Nat.and_le_right
theorem hx_smod : ∀ n, n < 32 → ((nI n &&& 31).toBitVec.smod 32).toNat = n := by decide +kernel
theorem hx_bit {v t : Nat} (hv : v < 2 ^ 31) (ht : t < 32) : ((nI v >>> (nI t &&& 31)) &&& 1) = nI (if v.testBit t then 1 else 0) := by
  rw [pk_shrN hv (nI t &&& 31) t (hx_smod t ht)]
  have h1 : v / 2 ^ t < 2 ^ 32 := by
    have := Nat.div_le_self v (2 ^ t)
    omega
  rw [pk_andN h1 1 (by decide)]
  rw [Nat.testBit_eq_decide_div_mod_eq]
  have h2 := Nat.mod_two_eq_zero_or_one (v / 2 ^ t)
  rcases h2 with h2 | h2
  · simp [h2]
  · simp [h2]
theorem hx_bit1 {v t : Nat} (hv : v < 2 ^ 31) (ht : t < 32) : ((nI v >>> (nI t &&& 31)) &&& 1 = 1) ↔ v.testBit t = true := by
  rw [hx_bit hv ht]
  cases v.testBit t
  · exact ⟨fun h => absurd h (by decide), fun h => by cases h⟩
  · exact ⟨fun _ => rfl, fun _ => rfl⟩
theorem hx_has {v t : Nat} (hv : v < 2 ^ 31) (ht : t < 32) : hasB (nI v) (nI t) = v.testBit t := by
  unfold hasB
  rw [Bool.eq_iff_iff, decide_eq_true_iff]
  exact hx_bit1 hv ht
/-- a set b with what its members (below n) bring -/
def closN (f : Nat → Nat) (b : Nat) : Nat → Nat
  | 0 => b
  | n + 1 => if b.testBit n then closN f b n ||| f n else closN f b n
theorem closN_iff (f : Nat → Nat) (b i : Nat) : ∀ n, (closN f b n).testBit i = true ↔ b.testBit i = true ∨ ∃ t, t < n ∧ b.testBit t = true ∧ (f t).testBit i = true
  | 0 => by simp [closN]
  | n + 1 => by
    have ih := closN_iff f b i n
    unfold closN
    by_cases h : b.testBit n = true
    · rw [if_pos h, Nat.testBit_or, Bool.or_eq_true, ih]
      constructor
      · rintro ((h1 | ⟨t, h1, h2, h3⟩) | h1)
        · exact Or.inl h1
        · exact Or.inr ⟨t, by omega, h2, h3⟩
        · exact Or.inr ⟨n, by omega, h, h1⟩
      · rintro (h1 | ⟨t, h1, h2, h3⟩)
        · exact Or.inl (Or.inl h1)
        · rcases Nat.lt_or_ge t n with hh | hh
          · exact Or.inl (Or.inr ⟨t, hh, h2, h3⟩)
          · have e : t = n := by omega
            subst e
            exact Or.inr h3
    · rw [if_neg h, ih]
      constructor
      · rintro (h1 | ⟨t, h1, h2, h3⟩)
        · exact Or.inl h1
        · exact Or.inr ⟨t, by omega, h2, h3⟩
      · rintro (h1 | ⟨t, h1, h2, h3⟩)
        · exact Or.inl h1
        · rcases Nat.lt_or_ge t n with hh | hh
          · exact Or.inr ⟨t, hh, h2, h3⟩
          · have e : t = n := by omega
            subst e
            exact absurd h2 h
theorem closN_lt {f : Nat → Nat} {b m : Nat} (hb : b < 2 ^ m) : ∀ n, (∀ t, t < n → f t < 2 ^ m) → closN f b n < 2 ^ m
  | 0, _ => hb
  | n + 1, h => by
    have ih := closN_lt (f := f) hb n (fun t ht => h t (by omega))
    unfold closN
    split
    · exact Nat.or_lt_two_pow ih (h n (by omega))
    · exact ih
theorem closF_N {f : Nat → Nat} {b : Nat} (hb : b < 2 ^ 31) : ∀ n, n ≤ 31 → closF (nF f) (nI b) n = nI (closN f b n)
  | 0, _ => rfl
  | n + 1, hn => by
    have ih := closF_N (f := f) hb n (by omega)
    show (if ((nI b >>> (nI n &&& 31)) &&& 1) = 1 then closF (nF f) (nI b) n ||| nF f n else closF (nF f) (nI b) n) = nI (if b.testBit n then closN f b n ||| f n else closN f b n)
    by_cases h : b.testBit n = true
    · rw [if_pos h, if_pos ((hx_bit1 hb (by omega)).mpr h), ih]
      exact hx_or _ _
    · rw [if_neg h, if_neg (fun q => h ((hx_bit1 hb (by omega)).mp q)), ih]
theorem closF_congr {f g : Nat → Int32} {b : Int32} : ∀ n, (∀ t, t < n → f t = g t) → closF f b n = closF g b n
  | 0, _ => rfl
  | n + 1, h => by
    have ih := closF_congr (b := b) n (fun t ht => h t (by omega))
    show (if _ then closF f b n ||| f n else closF f b n) = (if _ then closF g b n ||| g n else closF g b n)
    rw [ih, h n (by omega)]
theorem closN_congr {f g : Nat → Nat} {b : Nat} : ∀ n, (∀ t, t < n → f t = g t) → closN f b n = closN g b n
  | 0, _ => rfl
  | n + 1, h => by
    have ih := closN_congr (b := b) n (fun t ht => h t (by omega))
    show (if _ then closN f b n ||| f n else closN f b n) = (if _ then closN g b n ||| g n else closN g b n)
    rw [ih, h n (by omega)]
/-- bits that a small set has not bring nothing -/
theorem closN_more {f : Nat → Nat} {b T : Nat} (hb : b < 2 ^ T) : ∀ d, closN f b (T + d) = closN f b T
  | 0 => rfl
  | d + 1 => by
    have ih := closN_more (f := f) hb d
    show (if b.testBit (T + d) then closN f b (T + d) ||| f (T + d) else closN f b (T + d)) = _
    rw [if_neg (by rw [Nat.testBit_lt_two_pow (Nat.lt_of_lt_of_le hb (Nat.pow_le_pow_right (by decide) (by omega)))]; decide), ih]
theorem closN_ge (f : Nat → Nat) (b n : Nat) : b ||| closN f b n = closN f b n := by
  apply Nat.eq_of_testBit_eq
  intro i
  rw [Nat.testBit_or, Bool.eq_iff_iff, Bool.or_eq_true, closN_iff]
  constructor
  · rintro (h | h)
    · exact Or.inl h
    · exact h
  · exact Or.inr
/-- the class's rows of closures -/
def clN (iN : Nat → Nat) (T : Nat) : Nat → Nat := fun t => if t < T then 2 ^ t ||| iN t else 0
theorem clos_cl {iN : Nat → Nat} {T b : Nat} (hT : T ≤ 12) (hb : b < 2 ^ T) : closN (clN iN T) b 12 = closN iN b T := by
  apply Nat.eq_of_testBit_eq
  intro i
  rw [Bool.eq_iff_iff, closN_iff, closN_iff]
  constructor
  · rintro (h | ⟨t, h1, h2, h3⟩)
    · exact Or.inl h
    · rcases Nat.lt_or_ge t T with hh | hh
      · unfold clN at h3
        rw [if_pos hh, Nat.testBit_or, Bool.or_eq_true, Nat.testBit_two_pow, decide_eq_true_iff] at h3
        rcases h3 with h3 | h3
        · subst h3; exact Or.inl h2
        · exact Or.inr ⟨t, hh, h2, h3⟩
      · rw [Nat.testBit_lt_two_pow (Nat.lt_of_lt_of_le hb (Nat.pow_le_pow_right (by decide) hh))] at h2
        cases h2
  · rintro (h | ⟨t, h1, h2, h3⟩)
    · exact Or.inl h
    · refine Or.inr ⟨t, by omega, h2, ?_⟩
      unfold clN
      rw [if_pos h1, Nat.testBit_or, h3, Bool.or_true]
theorem kp31 {T : Nat} (hT : T ≤ 12) {b : Nat} (hb : b < 2 ^ T) : b < 2 ^ 31 := by
  have := kpow hT
  omega
/-- the class's closure and the reference's -/
theorem closF_cl {iN : Nat → Nat} {T b : Nat} (hT : T ≤ 12) (hb : b < 2 ^ T) : closF (nF (clN iN T)) (nI b) 12 = closF (nF iN) (nI b) T := by
  rw [closF_N (kp31 hT hb) 12 (by decide), closF_N (kp31 hT hb) T (by omega), clos_cl hT hb]
def worthN (w : Nat → Nat) (b : Nat) : Nat → Nat
  | 0 => 0
  | n + 1 => if b.testBit n then worthN w b n + w n else worthN w b n
theorem worthF_N {w : Nat → Nat} {b : Nat} (hb : b < 2 ^ 31) : ∀ n, n ≤ 31 → worthF (nF w) (nI b) n = nI (worthN w b n)
  | 0, _ => rfl
  | n + 1, hn => by
    have ih := worthF_N (w := w) hb n (by omega)
    show (if ((nI b >>> (nI n &&& 31)) &&& 1) = 1 then worthF (nF w) (nI b) n + nF w n else worthF (nF w) (nI b) n) = nI (if b.testBit n then worthN w b n + w n else worthN w b n)
    by_cases h : b.testBit n = true
    · rw [if_pos h, if_pos ((hx_bit1 hb (by omega)).mpr h), ih]
      exact nI_add _ _
    · rw [if_neg h, if_neg (fun q => h ((hx_bit1 hb (by omega)).mp q)), ih]
theorem worthN_more {w : Nat → Nat} {b T : Nat} (hb : b < 2 ^ T) : ∀ d, worthN w b (T + d) = worthN w b T
  | 0 => rfl
  | d + 1 => by
    have ih := worthN_more (w := w) hb d
    show (if b.testBit (T + d) then worthN w b (T + d) + w (T + d) else worthN w b (T + d)) = _
    rw [if_neg (by rw [Nat.testBit_lt_two_pow (Nat.lt_of_lt_of_le hb (Nat.pow_le_pow_right (by decide) (by omega)))]; decide), ih]
theorem worth_cl {w : Nat → Nat} {T b : Nat} (hT : T ≤ 12) (hb : b < 2 ^ T) : worthF (nF w) (nI b) 12 = worthF (nF w) (nI b) T := by
  rw [worthF_N (kp31 hT hb) 12 (by decide), worthF_N (kp31 hT hb) T (by omega), ← worthN_more hb (12 - T), show T + (12 - T) = 12 by omega]
theorem worthN_le {w : Nat → Nat} {b m : Nat} : ∀ n, (∀ t, t < n → w t ≤ m) → worthN w b n ≤ n * m
  | 0, _ => Nat.zero_le _
  | n + 1, h => by
    have ih := worthN_le (w := w) (b := b) n (fun t ht => h t (by omega))
    have h1 := h n (by omega)
    unfold worthN
    rw [Nat.succ_mul]
    split <;> omega
/-- bits of topics that there are -/
theorem areB_iff {T : Nat} (hT : T ≤ 12) {b : Int32} : areB T b = true ↔ ∃ j, j < 2 ^ T ∧ b = nI j := by
  have hp := kpow hT
  have h1 : 0 < 2 ^ T := Nat.pos_of_ne_zero (by simp)
  unfold areB withinB
  rw [kshl1 T hT, Bool.and_eq_true, decide_eq_true_iff, decide_eq_true_iff, show nI (2 ^ T) - 1 = nI (2 ^ T - 1) from pk_sub (a := 2 ^ T) (b := 1) h1]
  constructor
  · rintro ⟨ha, hb⟩
    obtain ⟨j, hj, rfl⟩ := nI_of ha
    rw [nI_ltI (by omega) hj] at hb
    exact ⟨j, by omega, rfl⟩
  · rintro ⟨j, hj, rfl⟩
    exact ⟨nI_pos (by omega), fun q => by rw [nI_ltI (by omega) (by omega)] at q; omega⟩
theorem haveB_iff {T : Nat} (hT : T ≤ 12) {b : Int32} : haveB (nI T) b = true ↔ ∃ j, j < 2 ^ T ∧ b = nI j := by
  have hp := kpow hT
  unfold haveB
  rw [kshl1 T hT, Bool.and_eq_true, decide_eq_true_iff, decide_eq_true_iff]
  constructor
  · rintro ⟨ha, hb⟩
    obtain ⟨j, hj, rfl⟩ := nI_of ha
    rw [nI_leI (by omega) hj] at hb
    exact ⟨j, by omega, rfl⟩
  · rintro ⟨j, hj, rfl⟩
    exact ⟨nI_pos (by omega), fun q => by rw [nI_leI (by omega) (by omega)] at q; omega⟩
theorem have_are {T : Nat} (hT : T ≤ 12) (b : Int32) : haveB (nI T) b = areB T b := by
  rw [Bool.eq_iff_iff, haveB_iff hT, areB_iff hT]
theorem wi_iff {b : Int32} {a c : Nat} (ha : a < 2 ^ 31) (hc : c < 2 ^ 31) : withinB b (nI a) (nI c) = true ↔ ∃ j, a ≤ j ∧ j ≤ c ∧ b = nI j := by
  unfold withinB
  rw [Bool.and_eq_true, decide_eq_true_iff, decide_eq_true_iff]
  constructor
  · rintro ⟨h1, h2⟩
    have h0 : ¬ b < 0 := by
      intro q
      apply h1
      rw [Int32.lt_iff_toInt_lt] at q ⊢
      rw [nI_toInt ha]
      have e0 : (0 : Int32).toInt = 0 := by decide
      omega
    obtain ⟨j, hj, rfl⟩ := nI_of h0
    rw [nI_ltI hj ha] at h1
    rw [nI_ltI hc hj] at h2
    exact ⟨j, by omega, by omega, rfl⟩
  · rintro ⟨j, h1, h2, rfl⟩
    rw [nI_ltI (by omega) ha, nI_ltI hc (by omega)]
    omega
