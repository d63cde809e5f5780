/-! ===== the pure part: worst ===== -/
def rsM (M : (Nat → Bool) → Nat) (t : Nat) (b : Bool) : (Nat → Bool) → Nat := fun P => M (fun x => P x && (x.testBit t == b))
def bsM (M : (Nat → Bool) → Nat) : Nat → Option Nat × Nat
  | 0 => (none, M (fun _ => true))
  | t + 1 => if max (M (fun x => x.testBit t)) (M (fun _ => true) - M (fun x => x.testBit t)) < (bsM M t).2 then (some t, max (M (fun x => x.testBit t)) (M (fun _ => true) - M (fun x => x.testBit t))) else bsM M t
def bs12 (M : (Nat → Bool) → Nat) : Option Nat := (bsM M 12).1
def wSt (o : Option Nat) (g : Nat → Nat) : Nat := match o with
  | none => 0
  | some t => g t
def WN : Nat → ((Nat → Bool) → Nat) → Nat
  | 0, _ => 0
  | d + 1, M => wSt (bs12 M) (fun t => 1 + max (WN d (rsM M t false)) (WN d (rsM M t true)))
theorem WN_s (d : Nat) (M : (Nat → Bool) → Nat) : WN (d + 1) M = wSt (bs12 M) (fun t => 1 + max (WN d (rsM M t false)) (WN d (rsM M t true))) := rfl
theorem WN_none {d : Nat} {M : (Nat → Bool) → Nat} (h : bs12 M = none) : WN (d + 1) M = 0 := by rw [WN_s, h]; rfl
theorem WN_some {d t : Nat} {M : (Nat → Bool) → Nat} (h : bs12 M = some t) : WN (d + 1) M = 1 + max (WN d (rsM M t false)) (WN d (rsM M t true)) := by rw [WN_s, h]; rfl
theorem WN_le : ∀ (d : Nat) (M : (Nat → Bool) → Nat), WN d M ≤ d
  | 0, _ => Nat.le_refl _
  | d + 1, M => by
    cases h : bs12 M with
    | none => rw [WN_none h]; omega
    | some t =>
      have h1 := WN_le d (rsM M t false)
      have h2 := WN_le d (rsM M t true)
      rw [WN_some h]
      omega
/-- how many of a stretch of the row -/
def mA (f : Nat → Int32) (a : Nat) (P : Nat → Bool) : Nat → Nat
  | 0 => 0
  | k + 1 => mA f a P k + (if P (f (a + k)).toNatClampNeg then 1 else 0)
def allI (f : Nat → Int32) (a n : Nat) : Prop := ∀ i, a ≤ i → i < a + n → ∃ x, x < 4096 ∧ f i = nI x
theorem mA_congr {f g : Nat → Int32} {P Q : Nat → Bool} {a : Nat} : ∀ n, (∀ i, a ≤ i → i < a + n → P (f i).toNatClampNeg = Q (g i).toNatClampNeg) → mA f a P n = mA g a Q n
  | 0, _ => rfl
  | n + 1, h => by
    unfold mA
    rw [mA_congr n (fun i h1 h2 => h i h1 (by omega)), h (a + n) (by omega) (by omega)]
theorem mA_head (f : Nat → Int32) (P : Nat → Bool) (a : Nat) : ∀ k, mA f a P (k + 1) = (if P (f a).toNatClampNeg then 1 else 0) + mA f (a + 1) P k
  | 0 => by show 0 + _ = _ + 0; rw [Nat.zero_add, Nat.add_zero, Nat.add_zero]
  | k + 1 => by
    have ih := mA_head f P a k
    show mA f a P (k + 1) + (if P (f (a + (k + 1))).toNatClampNeg then 1 else 0) = _ + (mA f (a + 1) P k + (if P (f (a + 1 + k)).toNatClampNeg then 1 else 0))
    rw [ih, show a + (k + 1) = a + 1 + k by omega]
    omega
theorem mA_app (f : Nat → Int32) (P : Nat → Bool) (a m : Nat) : ∀ n, mA f a P (m + n) = mA f a P m + mA f (a + m) P n
  | 0 => rfl
  | n + 1 => by
    have ih := mA_app f P a m n
    show mA f a P (m + n) + (if P (f (a + (m + n))).toNatClampNeg then 1 else 0) = mA f a P m + (mA f (a + m) P n + (if P (f (a + m + n)).toNatClampNeg then 1 else 0))
    rw [ih, show a + (m + n) = a + m + n by omega]
    omega
theorem mA_all (f : Nat → Int32) (a : Nat) : ∀ n, mA f a (fun _ => true) n = n
  | 0 => rfl
  | n + 1 => by
    unfold mA
    rw [mA_all f a n]
    rfl
theorem cnt_mA {f : Nat → Int32} {a t : Nat} (ht : t < 32) : ∀ n, allI f a n → cntN f (nI t) a n = mA f a (fun x => x.testBit t) n
  | 0, _ => rfl
  | n + 1, h => by
    obtain ⟨x, hx, e⟩ := h (a + n) (by omega) (by omega)
    unfold cntN mA
    rw [cnt_mA ht n (fun i h1 h2 => h i h1 (by omega)), e, hx_has (by omega) ht, nI_clamp (by omega)]
def oQ (o : Option Nat) : Int32 := match o with
  | none => -1
  | some t => nI t
theorem best_M {f : Nat → Int32} {a n : Nat} (h : allI f a n) : ∀ t, t ≤ 12 → (bestF f a n t).1 = oQ (bsM (fun P => mA f a P n) t).1 ∧ (bestF f a n t).2 = (bsM (fun P => mA f a P n) t).2
  | 0, _ => ⟨rfl, (mA_all f a n).symm⟩
  | t + 1, ht => by
    obtain ⟨h1, h2⟩ := best_M h t (by omega)
    have e : moreN f (nI t) a n = max (mA f a (fun x => x.testBit t) n) (mA f a (fun _ => true) n - mA f a (fun x => x.testBit t) n) := by
      unfold moreN
      rw [cnt_mA (by omega) n h, mA_all]
    unfold bestF bsM
    rw [e, h2]
    split
    · exact ⟨rfl, rfl⟩
    · exact ⟨h1, h2⟩
theorem bsM_lt {M : (Nat → Bool) → Nat} : ∀ n t, (bsM M n).1 = some t → t < n
  | 0, t, h => by cases h
  | n + 1, t, h => by
    unfold bsM at h
    split at h
    · cases h; omega
    · have := bsM_lt n t h
      omega
/-- the class's parting of a stretch -/
theorem spl_N {f : Nat → Int32} {a t : Nat} (ht : t < 32) : ∀ k, allI f a k →
    ∃ m, m ≤ k ∧ (splF f (nI t) a k).2 = a + m ∧ (∀ j, j < a ∨ a + k ≤ j → (splF f (nI t) a k).1 j = f j) ∧ allI (splF f (nI t) a k).1 a k ∧
      (∀ P, mA (splF f (nI t) a k).1 a P m = mA f a (fun x => P x && (x.testBit t == false)) k) ∧ (∀ P, mA (splF f (nI t) a k).1 (a + m) P (k - m) = mA f a (fun x => P x && (x.testBit t == true)) k)
  | 0, h => ⟨0, Nat.le_refl _, rfl, fun _ _ => rfl, h, fun _ => rfl, fun _ => rfl⟩
  | k + 1, h => by
    obtain ⟨m, h1, h2, h3, h4, h5, h6⟩ := spl_N ht k (fun i a1 a2 => h i a1 (by omega))
    obtain ⟨x, hx, e⟩ := h (a + k) (by omega) (by omega)
    generalize hF : (splF f (nI t) a k).1 = F at h3 h4 h5 h6
    have he : F (a + k) = nI x := by rw [h3 (a + k) (Or.inr (Nat.le_refl _))]; exact e
    have hstep : splF f (nI t) a (k + 1) = if hasB (F (a + k)) (nI t) then splF f (nI t) a k else (upd (upd F (a + k) (F (a + m))) (a + m) (F (a + k)), a + m + 1) := by
      rw [← hF, ← h2]; rfl
    rw [hstep, he, hx_has (by omega) ht]
    cases hb : x.testBit t with
    | true =>
      rw [if_pos rfl, hF]
      refine ⟨m, by omega, h2, fun j hj => h3 j (by omega), fun i a1 a2 => ?_, fun P => ?_, fun P => ?_⟩
      · rcases Nat.lt_or_ge i (a + k) with z | z
        · exact h4 i a1 z
        · have ei : i = a + k := by omega
          subst ei
          exact ⟨x, hx, he⟩
      · rw [h5 P]
        show _ = mA f a (fun x => P x && (x.testBit t == false)) k + (if (P (f (a + k)).toNatClampNeg && ((f (a + k)).toNatClampNeg.testBit t == false)) then 1 else 0)
        rw [e, nI_clamp (by omega), hb]
        simp
      · rw [show k + 1 - m = (k - m) + 1 by omega]
        unfold mA
        rw [h6 P, show a + m + (k - m) = a + k by omega, he, e, nI_clamp (by omega), hb]
        simp
    | false =>
      rw [if_neg (by decide)]
      show ∃ m', m' ≤ k + 1 ∧ a + m + 1 = a + m' ∧ (∀ j, j < a ∨ a + (k + 1) ≤ j → upd (upd F (a + k) (F (a + m))) (a + m) (nI x) j = f j) ∧ allI (upd (upd F (a + k) (F (a + m))) (a + m) (nI x)) a (k + 1) ∧
        (∀ P, mA (upd (upd F (a + k) (F (a + m))) (a + m) (nI x)) a P m' = mA f a (fun x => P x && (x.testBit t == false)) (k + 1)) ∧ (∀ P, mA (upd (upd F (a + k) (F (a + m))) (a + m) (nI x)) (a + m') P (k + 1 - m') = mA f a (fun x => P x && (x.testBit t == true)) (k + 1))
      refine ⟨m + 1, by omega, by omega, fun j hj => ?_, fun i a1 a2 => ?_, fun P => ?_, fun P => ?_⟩
      · rw [upd_n (by omega), upd_n (by omega)]
        exact h3 j (by omega)
      · by_cases c1 : i = a + m
        · subst c1; rw [upd_s]; exact ⟨x, hx, rfl⟩
        · rw [upd_n c1]
          by_cases c2 : i = a + k
          · subst c2
            rw [upd_s]
            exact h4 (a + m) (by omega) (by omega)
          · rw [upd_n c2]
            exact h4 i a1 (by omega)
      · show mA _ a P m + (if P (upd (upd F (a + k) (F (a + m))) (a + m) (nI x) (a + m)).toNatClampNeg then 1 else 0) = mA f a _ k + (if (P (f (a + k)).toNatClampNeg && ((f (a + k)).toNatClampNeg.testBit t == false)) then 1 else 0)
        rw [upd_s, e, nI_clamp (by omega), hb, ← h5 P]
        congr 1
        · refine mA_congr m (fun i a1 a2 => ?_)
          rw [upd_n (by omega), upd_n (by omega)]
        · simp
      · have e6 : mA f a (fun x => P x && (x.testBit t == true)) (k + 1) = mA f a (fun x => P x && (x.testBit t == true)) k := by
          show mA f a _ k + (if (P (f (a + k)).toNatClampNeg && ((f (a + k)).toNatClampNeg.testBit t == true)) then 1 else 0) = _
          rw [e, nI_clamp (by omega), hb]
          simp
        rw [e6, ← h6 P, show k + 1 - (m + 1) = k - m by omega]
        rcases Nat.lt_or_ge m k with z | z
        · obtain ⟨r, hr⟩ : ∃ r, k - m = r + 1 := ⟨k - m - 1, by omega⟩
          rw [hr, mA_head F P (a + m) r]
          show mA _ (a + (m + 1)) P r + (if P (upd (upd F (a + k) (F (a + m))) (a + m) (nI x) (a + (m + 1) + r)).toNatClampNeg then 1 else 0) = _
          rw [show a + (m + 1) + r = a + k by omega, upd_n (by omega), upd_s, Nat.add_comm]
          congr 1
          rw [show a + (m + 1) = a + m + 1 by omega]
          refine mA_congr r (fun i a1 a2 => ?_)
          rw [upd_n (by omega), upd_n (by omega)]
        · rw [show k - m = 0 by omega]; rfl
/-- the class's worst -/
theorem quo_N : ∀ (d : Nat) (f : Nat → Int32) (a b : Nat), a ≤ b → d ≤ 12 → allI f a (b - a) →
    (quoF d f a b).1 = nI (WN d (fun P => mA f a P (b - a))) ∧ (∀ j, j < a ∨ b ≤ j → (quoF d f a b).2 j = f j) ∧ allI (quoF d f a b).2 a (b - a) ∧ ∀ P, mA (quoF d f a b).2 a P (b - a) = mA f a P (b - a)
  | 0, f, a, b, _, _, h => ⟨rfl, fun _ _ => rfl, h, fun _ => rfl⟩
  | d + 1, f, a, b, hab, hd, h => by
    obtain ⟨b1, b2⟩ := best_M h 12 (Nat.le_refl _)
    have b3 : (bestF f a (b - a) 12).1 = oQ (bs12 (fun P => mA f a P (b - a))) := b1
    clear b1 b2
    cases ho : bs12 (fun P => mA f a P (b - a)) with
    | none =>
      rw [ho] at b3
      rw [quoF_p b3, WN_none ho]
      exact ⟨rfl, fun _ _ => rfl, h, fun _ => rfl⟩
    | some t =>
      rw [ho] at b3
      have b1 : (bestF f a (b - a) 12).1 = nI t := b3
      have ht : t < 12 := bsM_lt 12 t ho
      have hne : ¬ (bestF f a (b - a) 12).1 = -1 := by rw [b1]; exact nI_m1 (by omega)
      rw [quoF_n hne, b1]
      obtain ⟨m, m1, m2, m3, m4, m5, m6⟩ := spl_N (f := f) (a := a) (t := t) (by omega) (b - a) h
      rw [m2]
      generalize hF : (splF f (nI t) a (b - a)).1 = F at m3 m4 m5 m6
      obtain ⟨p1, p2, p3, p4⟩ := quo_N d F a (a + m) (by omega) (by omega) (fun i a1 a2 => m4 i a1 (by omega))
      generalize hQ : quoF d F a (a + m) = Q at p1 p2 p3 p4
      have hq : allI Q.2 (a + m) (b - (a + m)) := fun i a1 a2 => by
        rw [p2 i (Or.inr a1)]
        exact m4 i (by omega) (by omega)
      obtain ⟨r1, r2, r3, r4⟩ := quo_N d Q.2 (a + m) b (by omega) (by omega) hq
      generalize hR : quoF d Q.2 (a + m) b = R at r1 r2 r3 r4
      rw [show a + m - a = m by omega] at p1 p3 p4
      have hlow : ∀ P, mA R.2 a P m = mA F a P m := fun P => by
        rw [← p4 P]
        exact mA_congr m (fun i a1 a2 => by rw [r2 i (Or.inl a2)])
      have hhigh : ∀ P, mA R.2 (a + m) P (b - (a + m)) = mA F (a + m) P (b - a - m) := fun P => by
        rw [r4 P, show b - (a + m) = b - a - m by omega]
        exact mA_congr _ (fun i a1 a2 => by rw [p2 i (Or.inr a1)])
      have e1 : (fun P => mA F a P m) = rsM (fun P => mA f a P (b - a)) t false := by funext P; exact m5 P
      have e2 : (fun P => mA Q.2 (a + m) P (b - (a + m))) = rsM (fun P => mA f a P (b - a)) t true := by
        funext P
        show _ = mA f a _ (b - a)
        rw [← m6 P, show b - (a + m) = b - a - m by omega]
        exact mA_congr _ (fun i a1 a2 => by rw [p2 i (Or.inr a1)])
      refine ⟨?_, fun j hj => ?_, fun i a1 a2 => ?_, fun P => ?_⟩
      · have w1 := WN_le d (rsM (fun P => mA f a P (b - a)) t false)
        have w2 := WN_le d (rsM (fun P => mA f a P (b - a)) t true)
        show 1 + kmax Q.1 R.1 = _
        rw [p1, r1, e1, e2, kmax_nI (by omega) (by omega), show (1 : Int32) = nI 1 from rfl, nI_add]
        rw [WN_some ho]
      · show R.2 j = f j
        rw [r2 j (by omega), p2 j (by omega)]
        exact m3 j (by omega)
      · rcases Nat.lt_or_ge i (a + m) with z | z
        · show ∃ x, x < 4096 ∧ R.2 i = nI x
          rw [r2 i (Or.inl z)]
          exact p3 i a1 z
        · exact r3 i z (by omega)
      · show mA R.2 a P (b - a) = mA f a P (b - a)
        have e4 : b - a = m + (b - (a + m)) := by omega
        rw [e4, mA_app, hlow, hhigh, m5, m6, show m + (b - (a + m)) = b - a by omega]
        have := mA_app F P a m (b - a - m)
        -- the two parts are all of it
        have hsum : ∀ n, mA f a (fun x => P x && (x.testBit t == false)) n + mA f a (fun x => P x && (x.testBit t == true)) n = mA f a P n := by
          intro n
          induction n with
          | zero => rfl
          | succ n ih =>
            unfold mA
            rw [← ih]
            cases P (f (a + n)).toNatClampNeg <;> cases (f (a + n)).toNatClampNeg.testBit t <;> simp <;> omega
        exact hsum _
