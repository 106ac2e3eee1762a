/-! COUNTING: how many below n; the bits of a number; Integer.bitCount's way of counting them -/
def ct (p : Nat → Bool) : Nat → Nat
  | 0 => 0
  | n + 1 => ct p n + (p n).toNat
theorem ct_le (p : Nat → Bool) : ∀ n, ct p n ≤ n
  | 0 => Nat.le_refl _
  | n + 1 => by have := ct_le p n; have := Bool.toNat_le (p n); rw [ct]; omega
theorem ct_cong {p q : Nat → Bool} : ∀ {n : Nat}, (∀ i, i < n → p i = q i) → ct p n = ct q n
  | 0, _ => rfl
  | n + 1, h => by rw [ct, ct, ct_cong (fun i hi => h i (by omega)), h n (by omega)]
theorem ct_split (p : Nat → Bool) (m : Nat) : ∀ n, ct p (m + n) = ct p m + ct (fun i => p (m + i)) n
  | 0 => rfl
  | n + 1 => by rw [← Nat.add_assoc, ct, ct_split p m n, ct]; omega
theorem ct_zero {p : Nat → Bool} : ∀ {n : Nat}, (∀ i, i < n → p i = false) → ct p n = 0
  | 0, _ => rfl
  | n + 1, h => by rw [ct, ct_zero (fun i hi => h i (by omega)), h n (by omega)]; rfl
def pc32 (n : Nat) : Nat := ct (fun i => n.testBit i) 32
theorem and_dig {k a b d m : Nat} (hd : d < 2 ^ k) (hm : m < 2 ^ k) : (2 ^ k * a + d) &&& (2 ^ k * b + m) = 2 ^ k * (a &&& b) + (d &&& m) := by
  apply Nat.eq_of_testBit_eq
  intro i
  rw [Nat.testBit_and, Nat.testBit_two_pow_mul_add _ hd, Nat.testBit_two_pow_mul_add _ hm, Nat.testBit_two_pow_mul_add _ (Nat.and_lt_two_pow _ hm)]
  by_cases hi : i < k
  · simp [hi]
  · simp [hi]
theorem and4 {x0 x1 x2 x3 m : Nat} (h0 : x0 < 256) (h1 : x1 < 256) (h2 : x2 < 256) (hm : m < 256) : (x0 + 256 * x1 + 65536 * x2 + 16777216 * x3) &&& (m + 256 * m + 65536 * m + 16777216 * m) = (x0 &&& m) + 256 * (x1 &&& m) + 65536 * (x2 &&& m) + 16777216 * (x3 &&& m) := by
  have e1 := and_dig (k := 8) (a := x2 + 256 * x3) (b := m + 256 * m) (d := x1) (m := m) h1 hm
  have e2 := and_dig (k := 8) (a := x1 + 256 * (x2 + 256 * x3)) (b := m + 256 * (m + 256 * m)) (d := x0) (m := m) h0 hm
  have e3 := and_dig (k := 8) (a := x3) (b := m) (d := x2) (m := m) h2 hm
  rw [show (2 : Nat) ^ 8 = 256 from rfl] at e1 e2 e3
  rw [show x0 + 256 * x1 + 65536 * x2 + 16777216 * x3 = 256 * (x1 + 256 * (x2 + 256 * x3)) + x0 by omega, show m + 256 * m + 65536 * m + 16777216 * m = 256 * (m + 256 * (m + 256 * m)) + m by omega, e2, show x1 + 256 * (x2 + 256 * x3) = 256 * (x2 + 256 * x3) + x1 by omega, show m + 256 * (m + 256 * m) = 256 * (m + 256 * m) + m by omega, e1, show x2 + 256 * x3 = 256 * x3 + x2 by omega, show m + 256 * m = 256 * m + m by omega, e3]
  omega
theorem dv4 (q k x0 x1 x2 x3 : Nat) (hq : 0 < q) (h : q * k = 256) : (x0 + 256 * x1 + 65536 * x2 + 16777216 * x3) / q = (x0 / q + k * (x1 % q)) + 256 * (x1 / q + k * (x2 % q)) + 65536 * (x2 / q + k * (x3 % q)) + 16777216 * (x3 / q + k * 0) := by
  have e : x0 + 256 * x1 + 65536 * x2 + 16777216 * x3 = x0 + q * (k * (x1 + 256 * x2 + 65536 * x3)) := by
    rw [← Nat.mul_assoc, h]
    omega
  rw [e, Nat.add_mul_div_left _ _ hq]
  have m1 := Nat.div_add_mod x1 q
  have m2 := Nat.div_add_mod x2 q
  have m3 := Nat.div_add_mod x3 q
  have z : ∀ a b : Nat, k * (q * a + b) = 256 * a + k * b := fun a b => by rw [Nat.mul_add, ← Nat.mul_assoc, Nat.mul_comm k q, h]
  have z1 : k * x1 = 256 * (x1 / q) + k * (x1 % q) := by rw [← z, m1]
  have z2 : k * x2 = 256 * (x2 / q) + k * (x2 % q) := by rw [← z, m2]
  have z3 : k * x3 = 256 * (x3 / q) + k * (x3 % q) := by rw [← z, m3]
  have z4 : k * (x1 + 256 * x2 + 65536 * x3) = k * x1 + 256 * (k * x2) + 65536 * (k * x3) := by
    rw [Nat.mul_add, Nat.mul_add, Nat.mul_left_comm k 256 x2, Nat.mul_left_comm k 65536 x3]
  rw [z4, z1, z2, z3, Nat.mul_zero]
  generalize x1 / q = a1
  generalize x2 / q = a2
  generalize x3 / q = a3
  generalize x0 / q = a0
  generalize k * (x1 % q) = b1
  generalize k * (x2 % q) = b2
  generalize k * (x3 % q) = b3
  omega
def bc1 (n : Nat) : Nat := n - (n >>> 1 &&& 1431655765)
def bc2 (n : Nat) : Nat := (bc1 n &&& 858993459) + (bc1 n >>> 2 &&& 858993459)
def bc3 (n : Nat) : Nat := (bc2 n + bc2 n >>> 4) &&& 252645135
def bc4 (n : Nat) : Nat := bc3 n + bc3 n >>> 8
def bc5 (n : Nat) : Nat := bc4 n + bc4 n >>> 16
def by1 (x : Nat) : Nat := x - (x / 2 &&& 85)
def by2 (x : Nat) : Nat := (by1 x &&& 51) + (by1 x / 4 &&& 51)
def by3 (x : Nat) : Nat := (by2 x + by2 x / 16) % 16
theorem by_1 : ∀ x, x < 256 → ∀ e, e < 2 → (x / 2 + 128 * e) &&& 85 = x / 2 &&& 85 := by decide +kernel
theorem by_1b : ∀ x, x < 256 → (x / 2 &&& 85) ≤ x ∧ by1 x < 256 := by decide +kernel
theorem by_2 : ∀ x, x < 256 → ∀ e, e < 4 → (x / 4 + 64 * e) &&& 51 = x / 4 &&& 51 := by decide +kernel
theorem by_2b : ∀ x, x < 256 → by2 x % 16 ≤ 4 ∧ by2 x ≤ 68 := by decide +kernel
theorem by_3 : ∀ x, x < 69 → ∀ e, e < 5 → (x + x / 16 + 16 * e) &&& 15 = (x + x / 16) % 16 := by decide +kernel
theorem by_3b : ∀ x, x < 256 → by3 x = ct (fun i => x.testBit i) 8 := by decide +kernel
theorem bc_ok {n : Nat} (hn : n < 4294967296) : (n >>> 1 &&& 1431655765) ≤ n ∧ bc1 n < 4294967296 ∧ bc2 n < 1200000000 ∧ bc3 n < 252645136 ∧ bc5 n &&& 63 = pc32 n := by
  obtain ⟨x0, x1, x2, x3, h0, h1, h2, h3, rfl⟩ : ∃ x0 x1 x2 x3 : Nat, x0 < 256 ∧ x1 < 256 ∧ x2 < 256 ∧ x3 < 256 ∧ n = x0 + 256 * x1 + 65536 * x2 + 16777216 * x3 := ⟨n % 256, n / 256 % 256, n / 65536 % 256, n / 16777216, by omega, by omega, by omega, by omega, by omega⟩
  have e1 : ((x0 + 256 * x1 + 65536 * x2 + 16777216 * x3) >>> 1 &&& 1431655765) = (x0 / 2 &&& 85) + 256 * (x1 / 2 &&& 85) + 65536 * (x2 / 2 &&& 85) + 16777216 * (x3 / 2 &&& 85) := by
    rw [Nat.shiftRight_eq_div_pow, show (2 : Nat) ^ 1 = 2 from rfl, dv4 2 128 x0 x1 x2 x3 (by decide) rfl, show 1431655765 = 85 + 256 * 85 + 65536 * 85 + 16777216 * 85 from rfl, and4 (by omega) (by omega) (by omega) (by omega), by_1 x0 h0 _ (by omega), by_1 x1 h1 _ (by omega), by_1 x2 h2 _ (by omega), by_1 x3 h3 _ (by omega)]
  have b0 := by_1b x0 h0
  have b1 := by_1b x1 h1
  have b2 := by_1b x2 h2
  have b3 := by_1b x3 h3
  have e2 : bc1 (x0 + 256 * x1 + 65536 * x2 + 16777216 * x3) = by1 x0 + 256 * by1 x1 + 65536 * by1 x2 + 16777216 * by1 x3 := by
    unfold bc1
    rw [e1]
    unfold by1
    omega
  have e3 : bc2 (x0 + 256 * x1 + 65536 * x2 + 16777216 * x3) = by2 x0 + 256 * by2 x1 + 65536 * by2 x2 + 16777216 * by2 x3 := by
    unfold bc2
    rw [e2]
    have q1 := and4 (x3 := by1 x3) b0.2 b1.2 b2.2 (show 51 < 256 by decide)
    rw [show 51 + 256 * 51 + 65536 * 51 + 16777216 * 51 = 858993459 from rfl] at q1
    have q2 := and4 (x0 := by1 x0 / 4 + 64 * (by1 x1 % 4)) (x1 := by1 x1 / 4 + 64 * (by1 x2 % 4)) (x2 := by1 x2 / 4 + 64 * (by1 x3 % 4)) (x3 := by1 x3 / 4 + 64 * 0) (m := 51) (by omega) (by omega) (by omega) (by omega)
    rw [show 51 + 256 * 51 + 65536 * 51 + 16777216 * 51 = 858993459 from rfl, by_2 _ b0.2 _ (by omega), by_2 _ b1.2 _ (by omega), by_2 _ b2.2 _ (by omega), by_2 _ b3.2 _ (by omega)] at q2
    rw [q1, Nat.shiftRight_eq_div_pow, show (2 : Nat) ^ 2 = 4 from rfl, dv4 4 64 (by1 x0) (by1 x1) (by1 x2) (by1 x3) (by decide) rfl, q2]
    unfold by2
    generalize (by1 x0 &&& 51) = a0
    generalize (by1 x1 &&& 51) = a1
    generalize (by1 x2 &&& 51) = a2
    generalize (by1 x3 &&& 51) = a3
    generalize (by1 x0 / 4 &&& 51) = c0
    generalize (by1 x1 / 4 &&& 51) = c1
    generalize (by1 x2 / 4 &&& 51) = c2
    generalize (by1 x3 / 4 &&& 51) = c3
    omega
  have c0 := by_2b x0 h0
  have c1 := by_2b x1 h1
  have c2 := by_2b x2 h2
  have c3 := by_2b x3 h3
  have e4 : bc3 (x0 + 256 * x1 + 65536 * x2 + 16777216 * x3) = by3 x0 + 256 * by3 x1 + 65536 * by3 x2 + 16777216 * by3 x3 := by
    unfold bc3
    rw [e3]
    have q2 := and4 (x0 := by2 x0 + by2 x0 / 16 + 16 * (by2 x1 % 16)) (x1 := by2 x1 + by2 x1 / 16 + 16 * (by2 x2 % 16)) (x2 := by2 x2 + by2 x2 / 16 + 16 * (by2 x3 % 16)) (x3 := by2 x3 + by2 x3 / 16 + 16 * 0) (m := 15) (by omega) (by omega) (by omega) (by omega)
    rw [show 15 + 256 * 15 + 65536 * 15 + 16777216 * 15 = 252645135 from rfl, by_3 _ (by omega) _ (by omega), by_3 _ (by omega) _ (by omega), by_3 _ (by omega) _ (by omega), by_3 _ (by omega) _ (by omega)] at q2
    have q3 := dv4 16 16 (by2 x0) (by2 x1) (by2 x2) (by2 x3) (by decide) rfl
    rw [Nat.shiftRight_eq_div_pow, show (2 : Nat) ^ 4 = 16 from rfl, q3, ← show ∀ a0 a1 a2 a3 b0 b1 b2 b3 e1 e2 e3 e4 : Nat, (a0 + b0 + e1) + 256 * (a1 + b1 + e2) + 65536 * (a2 + b2 + e3) + 16777216 * (a3 + b3 + e4) = a0 + 256 * a1 + 65536 * a2 + 16777216 * a3 + ((b0 + e1) + 256 * (b1 + e2) + 65536 * (b2 + e3) + 16777216 * (b3 + e4)) from fun a0 a1 a2 a3 b0 b1 b2 b3 e1 e2 e3 e4 => by omega, q2]
    unfold by3
    rfl
  have d0 := by_3b x0 h0
  have d1 := by_3b x1 h1
  have d2 := by_3b x2 h2
  have d3 := by_3b x3 h3
  have g0 := ct_le (fun i => x0.testBit i) 8
  have g1 := ct_le (fun i => x1.testBit i) 8
  have g2 := ct_le (fun i => x2.testBit i) 8
  have g3 := ct_le (fun i => x3.testBit i) 8
  refine ⟨by rw [e1]; omega, by rw [e2]; omega, by rw [e3]; omega, by rw [e4, d0, d1, d2, d3]; omega, ?_⟩
  have e5 : bc5 (x0 + 256 * x1 + 65536 * x2 + 16777216 * x3) &&& 63 = by3 x0 + by3 x1 + by3 x2 + by3 x3 := by
    unfold bc5 bc4
    rw [e4, show (63 : Nat) = 2 ^ 6 - 1 from rfl, Nat.and_two_pow_sub_one_eq_mod, Nat.shiftRight_eq_div_pow, Nat.shiftRight_eq_div_pow]
    rw [d0, d1, d2, d3]
    generalize ct (fun i => x0.testBit i) 8 = s0 at g0 ⊢
    generalize ct (fun i => x1.testBit i) 8 = s1 at g1 ⊢
    generalize ct (fun i => x2.testBit i) 8 = s2 at g2 ⊢
    generalize ct (fun i => x3.testBit i) 8 = s3 at g3 ⊢
    clear e1 e2 e3 e4 b0 b1 b2 b3 c0 c1 c2 c3 d0 d1 d2 d3 h0 h1 h2 h3 hn
    have k1 : (s0 + 256 * s1 + 65536 * s2 + 16777216 * s3) / 2 ^ 8 = s1 + 256 * s2 + 65536 * s3 := by omega
    rw [k1]
    have k2 : (s0 + 256 * s1 + 65536 * s2 + 16777216 * s3 + (s1 + 256 * s2 + 65536 * s3)) / 2 ^ 16 = s2 + s3 + 256 * s3 := by omega
    rw [k2]
    omega
  rw [e5]
  unfold pc32
  rw [show (32 : Nat) = 8 + (8 + (8 + 8)) from rfl, ct_split, ct_split, ct_split, d0, d1, d2, d3]
  have z : ∀ (a q k i : Nat), a = 256 * q + k → k < 256 → i < 8 → a.testBit i = k.testBit i := by
    intro a q k i ha hk hi
    rw [ha, show 256 * q + k = 2 ^ 8 * q + k from rfl, Nat.testBit_two_pow_mul_add _ hk, if_pos hi]
  have s8 : ∀ a i : Nat, a.testBit (8 + i) = (a / 256).testBit i := fun a i => by rw [Nat.add_comm, ← Nat.testBit_div_two_pow]
  have w0 : ct (fun i => (x0 + 256 * x1 + 65536 * x2 + 16777216 * x3).testBit i) 8 = ct (fun i => x0.testBit i) 8 := ct_cong (fun i hi => z _ (x1 + 256 * x2 + 65536 * x3) x0 i (by omega) h0 hi)
  have w1 : ct (fun i => (x0 + 256 * x1 + 65536 * x2 + 16777216 * x3).testBit (8 + i)) 8 = ct (fun i => x1.testBit i) 8 := ct_cong (fun i hi => by rw [s8]; exact z _ (x2 + 256 * x3) x1 i (by omega) h1 hi)
  have w2 : ct (fun i => (x0 + 256 * x1 + 65536 * x2 + 16777216 * x3).testBit (8 + (8 + i))) 8 = ct (fun i => x2.testBit i) 8 := ct_cong (fun i hi => by rw [s8, s8]; exact z _ x3 x2 i (by omega) h2 hi)
  have w3 : ct (fun i => (x0 + 256 * x1 + 65536 * x2 + 16777216 * x3).testBit (8 + (8 + (8 + i)))) 8 = ct (fun i => x3.testBit i) 8 := ct_cong (fun i hi => by rw [s8, s8, s8]; exact z _ 0 x3 i (by omega) h3 hi)
  rw [w0, w1, w2, w3]
  omega
