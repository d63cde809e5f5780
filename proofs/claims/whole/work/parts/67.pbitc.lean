/-! ===== the pure part: the count of the bits of a long ===== -/
def V8 (b : Nat → Nat) : Nat → Nat
  | 0 => 0
  | n + 1 => b 0 + 256 * V8 (fun i => b (i + 1)) n
theorem V8_lt {b : Nat → Nat} (n : Nat) : (∀ i, b i < 256) → V8 b n < 256 ^ n := by
  induction n generalizing b with
  | zero => exact fun _ => by show 0 < 1; omega
  | succ n ih =>
    intro h
    have h1 := ih (b := fun i => b (i + 1)) (fun i => h (i + 1))
    have h2 := h 0
    rw [Nat.pow_succ]
    show b 0 + 256 * V8 (fun i => b (i + 1)) n < _
    omega
theorem V8_of (n : Nat) : ∀ s, s < 256 ^ n → s = V8 (fun i => s / 256 ^ i % 256) n := by
  induction n with
  | zero => intro s h; show s = 0; simp at h; exact h
  | succ n ih =>
    intro s h
    rw [Nat.pow_succ] at h
    have h1 := ih (s / 256) (by omega)
    show s = s / 256 ^ 0 % 256 + 256 * V8 (fun i => s / 256 ^ (i + 1) % 256) n
    have e : (fun i => s / 256 ^ (i + 1) % 256) = fun i => s / 256 / 256 ^ i % 256 := by
      funext i
      rw [Nat.pow_succ, Nat.mul_comm, Nat.div_div_eq_div_mul]
    rw [e, ← h1]
    simp
    omega
theorem V8_congr {b c : Nat → Nat} (n : Nat) : (∀ i, b i = c i) → V8 b n = V8 c n := fun h => by rw [show b = c from funext h]
theorem and256 (a m r q : Nat) (hr : r < 256) (hq : q < 256) : (256 * a + r) &&& (256 * m + q) = 256 * (a &&& m) + (r &&& q) := by
  have h1 : (r &&& q) < 2 ^ 8 := Nat.and_lt_two_pow r hq
  have e : (256 : Nat) = 2 ^ 8 := rfl
  apply Nat.eq_of_testBit_eq
  intro i
  rw [e, Nat.testBit_and, Nat.testBit_two_pow_mul_add _ hr, Nat.testBit_two_pow_mul_add _ hq, Nat.testBit_two_pow_mul_add _ h1]
  split
  · rw [Nat.testBit_and]
  · rw [Nat.testBit_and]
theorem by55 : ∀ r, r < 256 → ∀ e, e < 2 → (128 * e + r / 2) &&& 85 = r / 2 &&& 85 := by decide +kernel
theorem by33 : ∀ r, r < 256 → ∀ e, e < 4 → (64 * e + r / 4) &&& 51 = r / 4 &&& 51 := by decide +kernel
theorem V55 (n : Nat) : ∀ b : Nat → Nat, (∀ i, b i < 256) → V8 b n / 2 &&& V8 (fun _ => 85) n = V8 (fun i => b i / 2 &&& 85) n := by
  induction n with
  | zero => intro b h; simp [V8]
  | succ n ih =>
    intro b h
    have h0 := h 0
    have ih := ih (fun i => b (i + 1)) (fun i => h (i + 1))
    show (b 0 + 256 * V8 (fun i => b (i + 1)) n) / 2 &&& (85 + 256 * V8 (fun _ => 85) n) = (b 0 / 2 &&& 85) + 256 * V8 (fun i => b (i + 1) / 2 &&& 85) n
    rw [← ih]
    generalize V8 (fun i => b (i + 1)) n = a
    rw [show (b 0 + 256 * a) / 2 = 256 * (a / 2) + (128 * (a % 2) + b 0 / 2) by omega, Nat.add_comm 85, and256 _ _ _ _ (by omega) (by decide), by55 _ h0 _ (by omega), Nat.add_comm]
theorem V33 (n : Nat) : ∀ b : Nat → Nat, (∀ i, b i < 256) → V8 b n / 4 &&& V8 (fun _ => 51) n = V8 (fun i => b i / 4 &&& 51) n := by
  induction n with
  | zero => intro b h; simp [V8]
  | succ n ih =>
    intro b h
    have h0 := h 0
    have ih := ih (fun i => b (i + 1)) (fun i => h (i + 1))
    show (b 0 + 256 * V8 (fun i => b (i + 1)) n) / 4 &&& (51 + 256 * V8 (fun _ => 51) n) = (b 0 / 4 &&& 51) + 256 * V8 (fun i => b (i + 1) / 4 &&& 51) n
    rw [← ih]
    generalize V8 (fun i => b (i + 1)) n = a
    rw [show (b 0 + 256 * a) / 4 = 256 * (a / 4) + (64 * (a % 4) + b 0 / 4) by omega, Nat.add_comm 51, and256 _ _ _ _ (by omega) (by decide), by33 _ h0 _ (by omega), Nat.add_comm]
theorem V33b (n : Nat) : ∀ b : Nat → Nat, (∀ i, b i < 256) → V8 b n &&& V8 (fun _ => 51) n = V8 (fun i => b i &&& 51) n := by
  induction n with
  | zero => intro b h; simp [V8]
  | succ n ih =>
    intro b h
    have h0 := h 0
    have ih := ih (fun i => b (i + 1)) (fun i => h (i + 1))
    show (b 0 + 256 * V8 (fun i => b (i + 1)) n) &&& (51 + 256 * V8 (fun _ => 51) n) = (b 0 &&& 51) + 256 * V8 (fun i => b (i + 1) &&& 51) n
    rw [← ih, Nat.add_comm (b 0), Nat.add_comm 51, and256 _ _ _ _ h0 (by decide), Nat.add_comm]
theorem V8_sub (n : Nat) : ∀ b c : Nat → Nat, (∀ i, c i ≤ b i) → V8 b n - V8 c n = V8 (fun i => b i - c i) n ∧ V8 c n ≤ V8 b n := by
  induction n with
  | zero => exact fun _ _ _ => ⟨rfl, Nat.le_refl _⟩
  | succ n ih =>
    intro b c h
    have h0 := h 0
    obtain ⟨i1, i2⟩ := ih (fun i => b (i + 1)) (fun i => c (i + 1)) (fun i => h (i + 1))
    show (b 0 + 256 * V8 (fun i => b (i + 1)) n) - (c 0 + 256 * V8 (fun i => c (i + 1)) n) = (b 0 - c 0) + 256 * V8 (fun i => b (i + 1) - c (i + 1)) n ∧ c 0 + 256 * V8 (fun i => c (i + 1)) n ≤ b 0 + 256 * V8 (fun i => b (i + 1)) n
    rw [← i1]
    omega
theorem V8_add (n : Nat) : ∀ b c : Nat → Nat, V8 b n + V8 c n = V8 (fun i => b i + c i) n := by
  induction n with
  | zero => exact fun _ _ => rfl
  | succ n ih =>
    intro b c
    have i1 := ih (fun i => b (i + 1)) (fun i => c (i + 1))
    show (b 0 + 256 * V8 (fun i => b (i + 1)) n) + (c 0 + 256 * V8 (fun i => c (i + 1)) n) = (b 0 + c 0) + 256 * V8 (fun i => b (i + 1) + c (i + 1)) n
    rw [← i1]
    omega
def nib (r : Nat) : Prop := r % 16 ≤ 4 ∧ r / 16 ≤ 4
theorem by0f : ∀ r, r < 80 → r % 16 ≤ 4 → ∀ e, e < 5 → r + r / 16 + 16 * e < 256 ∧ (r + r / 16 + 16 * e) &&& 15 = (r + r / 16) &&& 15 := by decide +kernel
theorem V8_nib {b : Nat → Nat} (n : Nat) (h : ∀ i, nib (b i)) : V8 b n % 16 ≤ 4 := by
  cases n with
  | zero => show 0 % 16 ≤ 4; omega
  | succ n =>
    have h0 := (h 0).1
    show (b 0 + 256 * V8 (fun i => b (i + 1)) n) % 16 ≤ 4
    omega
theorem V0f (n : Nat) : ∀ b : Nat → Nat, (∀ i, nib (b i)) → (V8 b n + V8 b n / 16) &&& V8 (fun _ => 15) n = V8 (fun i => (b i + b i / 16) &&& 15) n := by
  induction n with
  | zero => intro b h; simp [V8]
  | succ n ih =>
    intro b h
    have h0 := h 0
    have hn := V8_nib n (b := fun i => b (i + 1)) (fun i => h (i + 1))
    have ih := ih (fun i => b (i + 1)) (fun i => h (i + 1))
    show ((b 0 + 256 * V8 (fun i => b (i + 1)) n) + (b 0 + 256 * V8 (fun i => b (i + 1)) n) / 16) &&& (15 + 256 * V8 (fun _ => 15) n) = ((b 0 + b 0 / 16) &&& 15) + 256 * V8 (fun i => (b (i + 1) + b (i + 1) / 16) &&& 15) n
    rw [← ih]
    revert hn
    generalize V8 (fun i => b (i + 1)) n = a
    intro hn
    unfold nib at h0
    obtain ⟨c1, c2⟩ := by0f (b 0) (by omega) h0.1 (a % 16) (by omega)
    rw [show (b 0 + 256 * a) + (b 0 + 256 * a) / 16 = 256 * (a + a / 16) + (b 0 + b 0 / 16 + 16 * (a % 16)) by omega, Nat.add_comm 15, and256 _ _ _ _ c1 (by decide), c2, Nat.add_comm]
def p1 (r : Nat) : Nat := r - (r / 2 &&& 85)
def p2 (r : Nat) : Nat := (p1 r &&& 51) + (p1 r / 4 &&& 51)
def p3 (r : Nat) : Nat := (p2 r + p2 r / 16) &&& 15
theorem p_dec : ∀ r, r < 256 → (r / 2 &&& 85) ≤ r ∧ p1 r < 256 ∧ p2 r < 80 ∧ p2 r % 16 ≤ 4 ∧ p3 r = pcN r 8 ∧ pcN r 8 ≤ 8 := by decide +kernel
/-- the five steps of the count -/
def bc1 (s : Nat) : Nat := s - (s / 2 &&& 6148914691236517205)
def bc2 (x : Nat) : Nat := (x &&& 3689348814741910323) + (x / 4 &&& 3689348814741910323)
def bc3 (x : Nat) : Nat := (x + x / 16) &&& 1085102592571150095
theorem pcN_256 {a r : Nat} (hr : r < 256) : ∀ m, pcN (256 * a + r) (8 + m) = pcN r 8 + pcN a m
  | 0 => by
    have h : ∀ n, n ≤ 8 → pcN (256 * a + r) n = pcN r n := by
      intro n
      induction n with
      | zero => exact fun _ => rfl
      | succ n ih =>
        intro hn
        unfold pcN
        rw [ih (by omega), show (256 : Nat) = 2 ^ 8 from rfl, Nat.testBit_two_pow_mul_add _ (show r < 2 ^ 8 from hr), if_pos (show n < 8 by omega)]
    exact h 8 (Nat.le_refl _)
  | m + 1 => by
    have ih := pcN_256 (a := a) hr m
    show pcN (256 * a + r) (8 + m) + (if (256 * a + r).testBit (8 + m) then 1 else 0) = pcN r 8 + (pcN a m + (if a.testBit m then 1 else 0))
    rw [ih, show (256 : Nat) = 2 ^ 8 from rfl, Nat.testBit_two_pow_mul_add _ (show r < 2 ^ 8 from hr), if_neg (show ¬ 8 + m < 8 by omega), show 8 + m - 8 = m by omega]
    omega
def S8 (b : Nat → Nat) : Nat → Nat
  | 0 => 0
  | n + 1 => b 0 + S8 (fun i => b (i + 1)) n
theorem pcN_V8 (n : Nat) : ∀ b : Nat → Nat, (∀ i, b i < 256) → pcN (V8 b n) (8 * n) = S8 (fun i => pcN (b i) 8) n := by
  induction n with
  | zero => exact fun _ _ => rfl
  | succ n ih =>
    intro b h
    show pcN (b 0 + 256 * V8 (fun i => b (i + 1)) n) (8 * (n + 1)) = pcN (b 0) 8 + S8 (fun i => pcN (b (i + 1)) 8) n
    rw [Nat.add_comm (b 0), show 8 * (n + 1) = 8 + 8 * n by omega, pcN_256 (h 0), ih (fun i => b (i + 1)) (fun i => h (i + 1))]
theorem sumA {a b y1 x : Nat} (ha : a ≤ 8) (hx : x = a + 256 * y1) : x / 256 = y1 := by omega
theorem sumB {a b c y1 y2 y3 x x4 : Nat} (ha : a ≤ 8) (hb : b ≤ 8) (hc : c ≤ 8) (hx : x = a + 256 * y1) (e1 : y1 = b + 256 * y2) (e2 : y2 = c + 256 * y3) (h4 : x4 = x + y1) : x4 = (a + b) + 256 * (b + c) + 65536 * (y2 + y3) := by
  subst hx; subst h4; subst e1; subst e2; omega
theorem sumC {p q z x4 : Nat} (hp : p ≤ 16) (hq : q ≤ 16) (h : x4 = p + 256 * q + 65536 * z) : x4 / 65536 = z := by omega
theorem sumD {c d e f y2 y3 y4 y5 z : Nat} (e2 : y2 = c + 256 * y3) (e3 : y3 = d + 256 * y4) (e4 : y4 = e + 256 * y5) (hz : z = y2 + y3) : z = (c + d) + 256 * (d + e) + 65536 * (y4 + y5) := by
  subst hz; subst e2; subst e3; subst e4; omega
theorem sumE {p q r s z x5 : Nat} (hp : p ≤ 32) (hq : q ≤ 32) (hr : r ≤ 32) (hs : s ≤ 32) (h : x5 = p + 256 * q + 65536 * r + 16777216 * s + 4294967296 * z) : x5 / 4294967296 = z := by omega
theorem sumI {A B p q z w x4 x5 : Nat} (h4 : x4 = A + 256 * B + 65536 * z) (h5 : x5 = x4 + z) (hz : z = p + 256 * q + 65536 * w) : x5 = (A + p) + 256 * (B + q) + 65536 * (z + w) := by omega
theorem sumG {A p q r s u z w x5 : Nat} (h : x5 = A + 65536 * (z + w)) (hz : z = p + 256 * q + 65536 * w) (hw : w = r + 256 * s + 65536 * u) : x5 = A + 65536 * (p + r) + 16777216 * (q + s) + 4294967296 * (w + u) := by
  rw [h, hz]
  clear h hz
  omega
theorem sumH {p q r s c d e f u x5 x6 Z : Nat} (hp : p ≤ 32) (hq : c + d + e + f ≤ 32) (h5 : x5 = p + 256 * q + 65536 * r + 16777216 * s + 4294967296 * Z) (h6 : x6 = x5 + Z) (hz : Z = (c + d) + 256 * (d + e) + 65536 * u + (e + 256 * f + f)) : x6 % 128 = p + (c + d + e + f) := by
  have e1 : x6 = (p + (c + d + e + f)) + 256 * (q + 256 * r + 65536 * s + 16777216 * Z + (d + e) + 256 * u + f) := by rw [h6, h5]; omega
  omega
theorem sumF {p q r s w z x6 : Nat} (hp : p ≤ 64) (h : x6 = p + 256 * w) : x6 % 128 = p := by omega
theorem sum8' {a b c d e f g h y1 y2 y3 y4 y5 y6 x4 x5 x6 x : Nat} (ha : a ≤ 8) (hb : b ≤ 8) (hc : c ≤ 8) (hd : d ≤ 8) (he : e ≤ 8) (hf : f ≤ 8) (hg : g ≤ 8) (hh : h ≤ 8) (hx : x = a + 256 * y1) (e1 : y1 = b + 256 * y2) (e2 : y2 = c + 256 * y3) (e3 : y3 = d + 256 * y4) (e4 : y4 = e + 256 * y5) (e5 : y5 = f + 256 * y6) (e6 : y6 = g + 256 * h)
    (h4 : x4 = x + x / 256) (h5 : x5 = x4 + x4 / 65536) (h6 : x6 = x5 + x5 / 4294967296) : x6 % 128 = a + b + c + d + e + f + g + h := by
  have p1 : a + b ≤ 16 := Nat.add_le_add ha hb
  have p2 : b + c ≤ 16 := Nat.add_le_add hb hc
  have p3 : c + d ≤ 16 := Nat.add_le_add hc hd
  have p4 : d + e ≤ 16 := Nat.add_le_add hd he
  have p5 : e + f ≤ 16 := Nat.add_le_add he hf
  have p6 : f + g ≤ 16 := Nat.add_le_add hf hg
  have p7 : g + h ≤ 16 := Nat.add_le_add hg hh
  have q1 : a + b + (c + d) ≤ 32 := Nat.add_le_add p1 p3
  have q2 : b + c + (d + e) ≤ 32 := Nat.add_le_add p2 p4
  have q3 : c + d + (e + f) ≤ 32 := Nat.add_le_add p3 p5
  have q4 : d + e + (f + g) ≤ 32 := Nat.add_le_add p4 p6
  have q5 : e + f + g + h ≤ 32 := by rw [Nat.add_assoc]; exact Nat.add_le_add p5 p7
  have d1 : x / 256 = y1 := sumA (b := 0) ha hx
  rw [d1] at h4
  have f4 := sumB ha hb hc hx e1 e2 h4
  have d2 : x4 / 65536 = y2 + y3 := sumC p1 p2 f4
  rw [d2] at h5
  have g2 := sumD (f := 0) e2 e3 e4 rfl
  have g4 := sumD (f := 0) e4 e5 e6 rfl
  have f5 : x5 = (a + b + (c + d)) + 256 * ((b + c) + (d + e)) + 65536 * (y2 + y3 + (y4 + y5)) := sumI f4 h5 g2
  have f5b := sumG f5 g2 g4
  have d3 : x5 / 4294967296 = y4 + y5 + (y6 + h) := sumE q1 q2 q3 q4 f5b
  rw [d3] at h6
  have h9 := sumH (u := y6 + h) q1 q5 f5b h6 (by rw [g4, e6])
  rw [h9]
  simp only [Nat.add_assoc]
theorem sum8 {a b c d e f g h x4 x5 x6 x : Nat} (ha : a ≤ 8) (hb : b ≤ 8) (hc : c ≤ 8) (hd : d ≤ 8) (he : e ≤ 8) (hf : f ≤ 8) (hg : g ≤ 8) (hh : h ≤ 8) (hx : x = a + 256 * (b + 256 * (c + 256 * (d + 256 * (e + 256 * (f + 256 * (g + 256 * (h + 256 * 0))))))))
    (h4 : x4 = x + x / 256) (h5 : x5 = x4 + x4 / 65536) (h6 : x6 = x5 + x5 / 4294967296) : x6 % 128 = a + (b + (c + (d + (e + (f + (g + (h + 0))))))) := by
  obtain ⟨y6, q6⟩ : ∃ y, y = g + 256 * (h + 256 * 0) := ⟨_, rfl⟩
  rw [← q6] at hx
  obtain ⟨y5, q5⟩ : ∃ y, y = f + 256 * y6 := ⟨_, rfl⟩
  rw [← q5] at hx
  obtain ⟨y4, q4⟩ : ∃ y, y = e + 256 * y5 := ⟨_, rfl⟩
  rw [← q4] at hx
  obtain ⟨y3, q3⟩ : ∃ y, y = d + 256 * y4 := ⟨_, rfl⟩
  rw [← q3] at hx
  obtain ⟨y2, q2⟩ : ∃ y, y = c + 256 * y3 := ⟨_, rfl⟩
  rw [← q2] at hx
  obtain ⟨y1, q1⟩ : ∃ y, y = b + 256 * y2 := ⟨_, rfl⟩
  rw [← q1] at hx
  have e6 : y6 = g + 256 * h := by rw [q6, Nat.mul_zero, Nat.add_zero]
  have h9 := sum8' ha hb hc hd he hf hg hh hx q1 q2 q3 q4 q5 e6 h4 h5 h6
  rw [h9]
  simp only [Nat.add_zero, Nat.add_assoc]
theorem bc_N {s : Nat} (hs : s < 2 ^ 64) {x4 x5 x6 : Nat} (h4 : x4 = bc3 (bc2 (bc1 s)) + bc3 (bc2 (bc1 s)) / 256) (h5 : x5 = x4 + x4 / 65536) (h6 : x6 = x5 + x5 / 4294967296) : x6 % 128 = pcN s 64 := by
  obtain ⟨b, hb⟩ : ∃ b : Nat → Nat, b = fun i => s / 256 ^ i % 256 := ⟨_, rfl⟩
  have hlt : ∀ i, b i < 256 := fun i => by rw [hb]; exact Nat.mod_lt _ (by decide)
  have hsV : s = V8 b 8 := by rw [hb]; exact V8_of 8 s hs
  have m5 : (6148914691236517205 : Nat) = V8 (fun _ => 85) 8 := by decide
  have m3 : (3689348814741910323 : Nat) = V8 (fun _ => 51) 8 := by decide
  have mf : (1085102592571150095 : Nat) = V8 (fun _ => 15) 8 := by decide
  have e1 : bc1 s = V8 (fun i => p1 (b i)) 8 := by
    unfold bc1
    rw [m5, hsV, V55 8 b hlt, (V8_sub 8 b _ (fun i => (p_dec (b i) (hlt i)).1)).1]
    rfl
  have e2 : bc2 (bc1 s) = V8 (fun i => p2 (b i)) 8 := by
    unfold bc2
    rw [m3, e1, V33b 8 _ (fun i => (p_dec (b i) (hlt i)).2.1), V33 8 _ (fun i => (p_dec (b i) (hlt i)).2.1), V8_add]
    rfl
  have e3 : bc3 (bc2 (bc1 s)) = V8 (fun i => pcN (b i) 8) 8 := by
    unfold bc3
    rw [mf, e2, V0f 8 _ (fun i => ⟨(p_dec (b i) (hlt i)).2.2.2.1, by have := (p_dec (b i) (hlt i)).2.2.1; omega⟩)]
    exact V8_congr 8 (fun i => (p_dec (b i) (hlt i)).2.2.2.2.1)
  have hp := pcN_V8 8 b hlt
  rw [← hsV] at hp
  show x6 % 128 = pcN s (8 * 8)
  rw [hp]
  obtain ⟨x, hx⟩ : ∃ x, x = V8 (fun i => pcN (b i) 8) 8 := ⟨_, rfl⟩
  rw [e3, ← hx] at h4
  have hV : x = pcN (b 0) 8 + 256 * (pcN (b 1) 8 + 256 * (pcN (b 2) 8 + 256 * (pcN (b 3) 8 + 256 * (pcN (b 4) 8 + 256 * (pcN (b 5) 8 + 256 * (pcN (b 6) 8 + 256 * (pcN (b 7) 8 + 256 * 0))))))) := by rw [hx]; simp only [V8]
  have q := fun i => (p_dec (b i) (hlt i)).2.2.2.2.2
  have hS := sum8 (q 0) (q 1) (q 2) (q 3) (q 4) (q 5) (q 6) (q 7) hV h4 h5 h6
  rw [hS]
  simp only [S8]
