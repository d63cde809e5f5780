/-! ===== the pure part: worst, the class's and the reference's ===== -/
theorem mA_cnt (F : Nat → Int32) (P : Nat → Bool) : ∀ n, mA F 0 P n = cntP (fun i => P (F i).toNatClampNeg) n
  | 0 => rfl
  | n + 1 => by
    unfold mA cntP
    rw [mA_cnt F P n, Nat.zero_add]
    split <;> rfl
theorem cnt_false : ∀ n, cntP (fun _ => false) n = 0
  | 0 => rfl
  | n + 1 => cnt_false n
theorem mCt_lo (r : Nat → Nat) (P : Nat → Bool) {n : Nat} (hn : n ≤ 64) : mCt (2 ^ n - 1) r P = cntP (fun k => P (r k)) n := by
  have h := cntP_app (fun k => (2 ^ n - 1).testBit k && P (r k)) n (64 - n)
  rw [show n + (64 - n) = 64 by omega] at h
  show cntP (fun k => (2 ^ n - 1).testBit k && P (r k)) 64 = _
  rw [h]
  have e1 : cntP (fun k => (2 ^ n - 1).testBit k && P (r k)) n = cntP (fun k => P (r k)) n := cntP_congr n (fun k hk => by
    rw [Nat.testBit_two_pow_sub_one, decide_eq_true hk, Bool.true_and])
  have e2 : cntP (fun u => (2 ^ n - 1).testBit (n + u) && P (r (n + u))) (64 - n) = cntP (fun _ => false) (64 - n) := cntP_congr _ (fun k _ => by
    rw [Nat.testBit_two_pow_sub_one, decide_eq_false (by omega), Bool.false_and])
  rw [e1, e2, cnt_false]
  rfl
theorem worst_eq {iN aN : Nat → Nat} {T ns : Nat} {sf sg : Nat → Int32} {rr : Nat → Nat} (hT : T ≤ 12) (h : enumOK (pS iN aN T) (2 ^ T) sf ns) (h64 : ns ≤ 64) {fq : Nat} (hfu : fq = 12) :
    (quoF fq (becF sg sf ns) 0 ns).1 = nI (WN fq (mCt (2 ^ manyF (nF iN) (nF aN) T (2 ^ T) - 1) (wgN (nF iN) (nF aN) T rr (2 ^ T)).1)) := by
  have hpw := kpow hT
  have hmm : manyF (nF iN) (nF aN) T (2 ^ T) = ns := by rw [manyF_C, ← h.1]
  have hF : ∀ i, i < ns → becF sg sf ns i = sf i := fun i hi => by rw [bec_at, if_pos hi]
  have hall : allI (becF sg sf ns) 0 (ns - 0) := fun i _ hi => by
    obtain ⟨v, a1, a2, a3, a4⟩ := enum_at h (show i < ns by omega)
    exact ⟨v, by omega, by rw [hF i (by omega)]; exact a4⟩
  rw [(quo_N fq (becF sg sf ns) 0 ns (Nat.zero_le _) (by omega) hall).1, hmm]
  congr 2
  funext P
  rw [mCt_lo _ _ h64, Nat.sub_zero, mA_cnt]
  refine cntP_congr ns (fun i hi => ?_)
  obtain ⟨v, a1, a2, a3, a4⟩ := enum_at h hi
  have e := (wg_at (nF iN) (nF aN) T rr (2 ^ T)).2 v a1 a2
  rw [manyF_C, a3] at e
  show P (becF sg sf ns i).toNatClampNeg = P _
  rw [hF i hi, a4, nI_clamp (by omega), e]
