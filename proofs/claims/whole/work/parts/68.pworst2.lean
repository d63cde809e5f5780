/-! ===== the pure part: the reference's worst ===== -/
def mCt (s : Nat) (r : Nat → Nat) : (Nat → Bool) → Nat := fun P => cntP (fun k => s.testBit k && P (r k)) 64
def hsF (s : Nat) (r : Nat → Nat) (t : Nat) : Nat → Nat
  | 0 => 0
  | k + 1 => if s.testBit k && (r k).testBit t then hsF s r t k ||| 2 ^ k else hsF s r t k
def moreW (all n : Nat) : Nat := if n ≤ all - n then all - n else n
def wsF (s : Nat) (r : Nat → Nat) (all : Nat) : Nat → Nat × Nat
  | 0 => (0, all)
  | t + 1 => if moreW all (pcN (hsF s r t 64) 64) < (wsF s r all t).2 then (hsF s r t 64, moreW all (pcN (hsF s r t 64) 64)) else wsF s r all t
def spN (M : (Nat → Bool) → Nat) : Nat := cntP (fun t => decide (0 < M (fun x => x.testBit t)) && decide (M (fun x => x.testBit t) < M (fun _ => true))) 12
theorem pcN_cnt (s : Nat) : ∀ n, pcN s n = cntP (fun k => s.testBit k) n
  | 0 => rfl
  | n + 1 => by
    unfold pcN cntP
    rw [pcN_cnt s n]
    split <;> rfl
theorem hsF_t (s : Nat) (r : Nat → Nat) (t i : Nat) : ∀ n, (hsF s r t n).testBit i = (decide (i < n) && (s.testBit i && (r i).testBit t))
  | 0 => by unfold hsF; simp
  | n + 1 => by
    have ih := hsF_t s r t i n
    unfold hsF
    by_cases h : (s.testBit n && (r n).testBit t) = true
    · rw [if_pos h, Nat.testBit_or, ih, Nat.testBit_two_pow]
      by_cases e : n = i
      · subst e
        rw [h]; simp
      · have e2 : decide (i < n + 1) = decide (i < n) := by rw [decide_eq_decide]; omega
        rw [e2, decide_eq_false e, Bool.or_false]
    · rw [if_neg h, ih]
      by_cases e : n = i
      · subst e
        have h : (s.testBit n && (r n).testBit t) = false := by
          cases hq : (s.testBit n && (r n).testBit t) with
          | true => exact absurd hq h
          | false => rfl
        rw [h]; simp
      · have e2 : decide (i < n + 1) = decide (i < n) := by rw [decide_eq_decide]; omega
        rw [e2]
theorem hsF_lt (s : Nat) (r : Nat → Nat) (t : Nat) : ∀ n, hsF s r t n < 2 ^ n
  | 0 => by show 0 < 1; omega
  | n + 1 => by
    have ih := hsF_lt s r t n
    have h1 : 2 ^ n < 2 ^ (n + 1) := Nat.pow_lt_pow_right (by decide) (by omega)
    unfold hsF
    split
    · exact Nat.or_lt_two_pow (by omega) h1
    · omega
section PW2
variable {s : Nat} {r : Nat → Nat} {T : Nat}
theorem hs_cnt (t : Nat) : pcN (hsF s r t 64) 64 = mCt s r (fun x => x.testBit t) := by
  rw [pcN_cnt]
  exact cntP_congr 64 (fun k hk => by rw [hsF_t, decide_eq_true hk, Bool.true_and])
theorem all_cnt : pcN s 64 = mCt s r (fun _ => true) := by
  rw [pcN_cnt]
  exact cntP_congr 64 (fun k hk => by simp)
theorem mCt_le {P Q : Nat → Bool} (h : ∀ x, P x = true → Q x = true) : mCt s r P ≤ mCt s r Q := by
  refine cntP_sub (fun k hk => ?_) 64
  simp only [Bool.and_eq_true] at hk ⊢
  exact ⟨hk.1, h _ hk.2⟩
theorem mCt_ext {P Q : Nat → Bool} (h : ∀ x, P x = Q x) : mCt s r P = mCt s r Q := by rw [funext h]
theorem mCt_split (P Q : Nat → Bool) : mCt s r (fun x => P x && Q x) + mCt s r (fun x => P x && !Q x) = mCt s r P := by
  have h := cntP_split (fun k => s.testBit k && P (r k)) (fun k => Q (r k)) 64
  rw [← show cntP (fun k => s.testBit k && P (r k)) 64 = mCt s r P from rfl, ← h]
  congr 1
  · exact cntP_congr 64 (fun k _ => by rw [Bool.and_assoc])
  · exact cntP_congr 64 (fun k _ => by rw [Bool.and_assoc])
theorem ws_N : ∀ t, (wsF s r (pcN s 64) t).2 = (bsM (mCt s r) t).2 ∧ (bsM (mCt s r) t).2 ≤ pcN s 64 ∧ ((bsM (mCt s r) t).1 = none → (bsM (mCt s r) t).2 = pcN s 64) ∧ ∀ t0, (bsM (mCt s r) t).1 = some t0 → (wsF s r (pcN s 64) t).1 = hsF s r t0 64 ∧ (bsM (mCt s r) t).2 < pcN s 64
  | 0 => ⟨all_cnt (r := r), Nat.le_of_eq (all_cnt (r := r)).symm, fun _ => (all_cnt (r := r)).symm, fun t0 h => (by cases h)⟩
  | t + 1 => by
    obtain ⟨h1, h2, h3, h4⟩ := ws_N t
    have hm : moreW (pcN s 64) (pcN (hsF s r t 64) 64) = max (mCt s r (fun x => x.testBit t)) (mCt s r (fun _ => true) - mCt s r (fun x => x.testBit t)) := by
      rw [hs_cnt, all_cnt (r := r)]
      unfold moreW
      split <;> omega
    unfold wsF bsM
    rw [hm, h1]
    split
    · refine ⟨rfl, ?_, fun h => (by cases h), fun t0 h => ?_⟩
      · show max _ _ ≤ _
        omega
      · cases h
        exact ⟨rfl, by show max _ _ < _; omega⟩
    · exact ⟨h1, h2, h3, h4⟩
theorem bs_T (hT : T ≤ 12) (hr : ∀ k, k < 64 → s.testBit k = true → r k < 2 ^ T) : ∀ d, bsM (mCt s r) (T + d) = bsM (mCt s r) T
  | 0 => rfl
  | d + 1 => by
    have ih := bs_T hT hr d
    have h0 : mCt s r (fun x => x.testBit (T + d)) = 0 := by
      have e : mCt s r (fun x => x.testBit (T + d)) = cntP (fun _ => false) 64 := cntP_congr 64 (fun k hk => by
        cases hs : s.testBit k with
        | false => rfl
        | true =>
          show (true && (r k).testBit (T + d)) = false
          rw [Nat.testBit_lt_two_pow (Nat.lt_of_lt_of_le (hr k hk hs) (Nat.pow_le_pow_right (by decide) (by omega)))]
          rfl)
      have e2 : ∀ n, cntP (fun _ => false) n = 0 := fun n => by
        induction n with
        | zero => rfl
        | succ n ih => exact ih
      rw [e, e2]
    have hle := (ws_N (s := s) (r := r) (T + d)).2.1
    rw [all_cnt (r := r)] at hle
    have e : bsM (mCt s r) (T + d + 1) = if max (mCt s r (fun x => x.testBit (T + d))) (mCt s r (fun _ => true) - mCt s r (fun x => x.testBit (T + d))) < (bsM (mCt s r) (T + d)).2 then (some (T + d), max (mCt s r (fun x => x.testBit (T + d))) (mCt s r (fun _ => true) - mCt s r (fun x => x.testBit (T + d)))) else bsM (mCt s r) (T + d) := rfl
    rw [show T + (d + 1) = T + d + 1 by omega, e, if_neg (by rw [h0]; omega)]
    exact ih
theorem bsM_sp {M : (Nat → Bool) → Nat} : ∀ n t, (bsM M n).1 = some t → (bsM M n).2 ≤ M (fun _ => true) ∧ max (M (fun x => x.testBit t)) (M (fun _ => true) - M (fun x => x.testBit t)) < M (fun _ => true)
  | 0, t, h => by cases h
  | n + 1, t, h => by
    have hle : ∀ n, (bsM M n).2 ≤ M (fun _ => true) := by
      intro n
      induction n with
      | zero => exact Nat.le_refl _
      | succ n ih =>
        unfold bsM
        split
        · show max _ _ ≤ _; omega
        · exact ih
    refine ⟨hle _, ?_⟩
    have hn := hle n
    unfold bsM at h
    split at h
    · cases h; omega
    · exact (bsM_sp n t h).2
/-- parting by a topic leaves fewer topics that part -/
theorem sp_lt {t0 : Nat} (h : bs12 (mCt s r) = some t0) (b : Bool) : spN (rsM (mCt s r) t0 b) < spN (mCt s r) := by
  have h12 : t0 < 12 := bsM_lt 12 t0 h
  have hs := (bsM_sp 12 t0 h).2
  have hsub : ∀ t, (decide (0 < rsM (mCt s r) t0 b (fun x => x.testBit t)) && decide (rsM (mCt s r) t0 b (fun x => x.testBit t) < rsM (mCt s r) t0 b (fun _ => true))) = true → (decide (0 < mCt s r (fun x => x.testBit t)) && decide (mCt s r (fun x => x.testBit t) < mCt s r (fun _ => true))) = true ∧ t ≠ t0 := by
    intro t ht
    simp only [Bool.and_eq_true, decide_eq_true_iff] at ht ⊢
    have a1 : rsM (mCt s r) t0 b (fun x => x.testBit t) ≤ mCt s r (fun x => x.testBit t) := mCt_le (fun x hx => by simp only [Bool.and_eq_true] at hx; exact hx.1)
    have a2 := mCt_split (s := s) (r := r) (fun x => (x.testBit t0 == b)) (fun x => x.testBit t)
    have a3 := mCt_split (s := s) (r := r) (fun _ => true) (fun x => x.testBit t)
    have a4 : rsM (mCt s r) t0 b (fun _ => true) = mCt s r (fun x => (x.testBit t0 == b)) := by
      exact mCt_ext (fun x => by simp)
    have a5 : rsM (mCt s r) t0 b (fun x => x.testBit t) = mCt s r (fun x => (x.testBit t0 == b) && x.testBit t) := by
      exact mCt_ext (fun x => Bool.and_comm _ _)
    have a6 : mCt s r (fun x => (x.testBit t0 == b) && !x.testBit t) ≤ mCt s r (fun x => true && !x.testBit t) := mCt_le (fun x hx => by simp only [Bool.and_eq_true] at hx ⊢; exact ⟨trivial, hx.2⟩)
    have a7 : mCt s r (fun x => true && x.testBit t) = mCt s r (fun x => x.testBit t) := mCt_ext (fun x => by simp)
    rw [a4, a5] at ht
    rw [a5] at a1
    refine ⟨⟨by omega, by omega⟩, ?_⟩
    rintro rfl
    cases b with
    | true =>
      have e : mCt s r (fun x => (x.testBit t == true) && x.testBit t) = mCt s r (fun x => (x.testBit t == true)) := by
        exact mCt_ext (fun x => by cases x.testBit t <;> rfl)
      omega
    | false =>
      have e : mCt s r (fun x => (x.testBit t == false) && x.testBit t) = 0 := by
        have e1 : mCt s r (fun x => (x.testBit t == false) && x.testBit t) = cntP (fun _ => false) 64 := cntP_congr 64 (fun k _ => by cases (r k).testBit t <;> simp)
        have e2 : ∀ n, cntP (fun _ => false) n = 0 := fun n => by
          induction n with
          | zero => rfl
          | succ n ih => exact ih
        rw [e1, e2]
      omega
  -- strictly fewer, for t0 itself falls away
  have hcs : ∀ n, n ≤ 12 → cntP (fun t => decide (0 < rsM (mCt s r) t0 b (fun x => x.testBit t)) && decide (rsM (mCt s r) t0 b (fun x => x.testBit t) < rsM (mCt s r) t0 b (fun _ => true))) n + (if t0 < n then 1 else 0) ≤ cntP (fun t => decide (0 < mCt s r (fun x => x.testBit t)) && decide (mCt s r (fun x => x.testBit t) < mCt s r (fun _ => true))) n := by
    intro n
    induction n with
    | zero => exact fun _ => by show 0 + (if t0 < 0 then 1 else 0) ≤ 0; rw [if_neg (by omega)]; exact Nat.le_refl _
    | succ n ih =>
      intro hn
      have ih := ih (by omega)
      by_cases e : n = t0
      · have hT : (decide (0 < mCt s r (fun x => x.testBit n)) && decide (mCt s r (fun x => x.testBit n) < mCt s r (fun _ => true))) = true := by
          simp only [Bool.and_eq_true, decide_eq_true_iff]
          rw [e]; omega
        have hF : (decide (0 < rsM (mCt s r) t0 b (fun x => x.testBit n)) && decide (rsM (mCt s r) t0 b (fun x => x.testBit n) < rsM (mCt s r) t0 b (fun _ => true))) = false := by
          cases hq : (decide (0 < rsM (mCt s r) t0 b (fun x => x.testBit n)) && decide (rsM (mCt s r) t0 b (fun x => x.testBit n) < rsM (mCt s r) t0 b (fun _ => true))) with
          | false => rfl
          | true => exact absurd e (hsub n hq).2
        unfold cntP
        rw [hT, hF, if_pos (show t0 < n + 1 by omega)]
        rw [if_neg (show ¬ t0 < n by omega)] at ih
        simp
        omega
      · have e2 : (if t0 < n + 1 then 1 else 0) = (if t0 < n then 1 else 0) := by
          by_cases z : t0 < n
          · rw [if_pos z, if_pos (by omega)]
          · rw [if_neg z, if_neg (by omega)]
        rw [e2]
        have hge := cntP_mono (fun t => decide (0 < mCt s r (fun x => x.testBit t)) && decide (mCt s r (fun x => x.testBit t) < mCt s r (fun _ => true))) (a := n) 1
        cases hq : (decide (0 < rsM (mCt s r) t0 b (fun x => x.testBit n)) && decide (rsM (mCt s r) t0 b (fun x => x.testBit n) < rsM (mCt s r) t0 b (fun _ => true))) with
        | true =>
          have g1 : cntP (fun t => decide (0 < rsM (mCt s r) t0 b (fun x => x.testBit t)) && decide (rsM (mCt s r) t0 b (fun x => x.testBit t) < rsM (mCt s r) t0 b (fun _ => true))) (n + 1) = cntP (fun t => decide (0 < rsM (mCt s r) t0 b (fun x => x.testBit t)) && decide (rsM (mCt s r) t0 b (fun x => x.testBit t) < rsM (mCt s r) t0 b (fun _ => true))) n + 1 := if_pos hq
          have g2 : cntP (fun t => decide (0 < mCt s r (fun x => x.testBit t)) && decide (mCt s r (fun x => x.testBit t) < mCt s r (fun _ => true))) (n + 1) = cntP (fun t => decide (0 < mCt s r (fun x => x.testBit t)) && decide (mCt s r (fun x => x.testBit t) < mCt s r (fun _ => true))) n + 1 := if_pos (hsub n hq).1
          rw [g1, g2]
          omega
        | false =>
          have g1 : cntP (fun t => decide (0 < rsM (mCt s r) t0 b (fun x => x.testBit t)) && decide (rsM (mCt s r) t0 b (fun x => x.testBit t) < rsM (mCt s r) t0 b (fun _ => true))) (n + 1) = cntP (fun t => decide (0 < rsM (mCt s r) t0 b (fun x => x.testBit t)) && decide (rsM (mCt s r) t0 b (fun x => x.testBit t) < rsM (mCt s r) t0 b (fun _ => true))) n := if_neg (fun z => Bool.noConfusion (hq.symm.trans z))
          rw [g1]
          exact Nat.le_trans ih hge
  have := hcs 12 (Nat.le_refl _)
  rw [if_pos h12] at this
  unfold spN
  omega
theorem rs_true (t0 : Nat) : rsM (mCt s r) t0 true = mCt (hsF s r t0 64) r := by
  funext P
  show cntP (fun k => s.testBit k && (P (r k) && ((r k).testBit t0 == true))) 64 = cntP (fun k => (hsF s r t0 64).testBit k && P (r k)) 64
  refine cntP_congr 64 (fun k hk => ?_)
  show (s.testBit k && (P (r k) && ((r k).testBit t0 == true))) = ((hsF s r t0 64).testBit k && P (r k))
  rw [hsF_t, decide_eq_true hk]
  cases s.testBit k <;> cases (r k).testBit t0 <;> cases P (r k) <;> rfl
theorem rs_false (t0 : Nat) : rsM (mCt s r) t0 false = mCt (andn s (hsF s r t0 64)) r := by
  funext P
  show cntP (fun k => s.testBit k && (P (r k) && ((r k).testBit t0 == false))) 64 = cntP (fun k => (andn s (hsF s r t0 64)).testBit k && P (r k)) 64
  refine cntP_congr 64 (fun k hk => ?_)
  show (s.testBit k && (P (r k) && ((r k).testBit t0 == false))) = ((andn s (hsF s r t0 64)).testBit k && P (r k))
  rw [andn_t, hsF_t, decide_eq_true hk]
  cases s.testBit k <;> cases (r k).testBit t0 <;> cases P (r k) <;> rfl
/-- what the reference's last step needs -/
theorem ws_end (hT : T ≤ 12) (hr : ∀ k, k < 64 → s.testBit k = true → r k < 2 ^ T) {w : Nat × Nat} (hw : w = wsF s r (pcN s 64) T) :
    (w.2 = pcN s 64 → ∀ d, WN d (mCt s r) = 0) ∧ (¬ w.2 = pcN s 64 → w.1 < 2 ^ 64 ∧ (∀ k, k < 64 → w.1.testBit k = true → r k < 2 ^ T) ∧ (∀ k, k < 64 → (andn s w.1).testBit k = true → r k < 2 ^ T) ∧ 0 < spN (mCt s r) ∧ spN (mCt w.1 r) < spN (mCt s r) ∧ spN (mCt (andn s w.1) r) < spN (mCt s r) ∧
      ∀ d, WN (d + 1) (mCt s r) = 1 + max (WN d (mCt (andn s w.1) r)) (WN d (mCt w.1 r))) := by
  obtain ⟨h1, h2, h3, h4⟩ := ws_N (s := s) (r := r) T
  have h12 : bs12 (mCt s r) = (bsM (mCt s r) T).1 := by
    have := bs_T hT hr (12 - T)
    rw [show T + (12 - T) = 12 by omega] at this
    unfold bs12
    rw [this]
  subst hw
  cases ho : (bsM (mCt s r) T).1 with
  | none =>
    rw [ho] at h12
    refine ⟨fun _ d => ?_, fun h => absurd (h1.trans (h3 ho)) h⟩
    cases d with
    | zero => rfl
    | succ d => exact WN_none h12
  | some t0 =>
    rw [ho] at h12
    obtain ⟨h5, h6⟩ := h4 t0 ho
    refine ⟨fun h => by omega, fun _ => ?_⟩
    have l1 := sp_lt h12 true
    have l2 := sp_lt h12 false
    rw [rs_true] at l1
    rw [rs_false] at l2
    rw [h5]
    refine ⟨hsF_lt s r t0 64, fun k hk hb => ?_, fun k hk hb => ?_, by omega, l1, l2, fun d => ?_⟩
    · rw [hsF_t, Bool.and_eq_true, Bool.and_eq_true] at hb
      exact hr k hk hb.2.1
    · rw [andn_t, Bool.and_eq_true] at hb
      exact hr k hk hb.1
    · rw [WN_some h12, rs_true, rs_false]
end PW2
