/-! WHAT IS SO, in whole numbers: a scene is f : Nat → Int (its 132 cells) -/
abbrev St : Type := Nat → Int
def nT (f : St) : Nat := (f 0).toNat
def th (f : St) (t w : Nat) : Int := f (36 + 8 * t + w)
/-- what a scene is: its numbers in their bounds; FRAME at most B -/
def Va (B : Int) (f : St) : Prop :=
  (0 ≤ f 0 ∧ f 0 ≤ 12) ∧ (1 ≤ f 1 ∧ f 1 ≤ 8) ∧ (0 ≤ f 2 ∧ f 2 ≤ 3) ∧ (0 ≤ f 3 ∧ f 3 ≤ B) ∧ (∀ j, 4 ≤ j → j < 36 → 0 ≤ f j ∧ f j ≤ 255) ∧
  ∀ t, t < nT f → (-8 ≤ th f t 0 ∧ th f t 0 ≤ 31) ∧ (-8 ≤ th f t 1 ∧ th f t 1 ≤ 23) ∧ (0 ≤ th f t 2 ∧ th f t 2 ≤ 3) ∧ (0 ≤ th f t 3 ∧ th f t 3 ≤ 3) ∧ (0 ≤ th f t 4 ∧ th f t 4 ≤ 3) ∧ (1 ≤ th f t 5 ∧ th f t 5 ≤ 7) ∧ (-8 ≤ th f t 6 ∧ th f t 6 ≤ 8) ∧ (-8 ≤ th f t 7 ∧ th f t 7 ≤ 8)
theorem Va.n {B : Int} {f : St} (h : Va B f) : (nT f : Int) = f 0 ∧ nT f ≤ 12 := by
  have := h.1
  unfold nT
  omega
theorem Va.t {B : Int} {f : St} (h : Va B f) {t : Nat} (ht : t < nT f) : (-8 ≤ th f t 0 ∧ th f t 0 ≤ 31) ∧ (-8 ≤ th f t 1 ∧ th f t 1 ≤ 23) ∧ (0 ≤ th f t 2 ∧ th f t 2 ≤ 3) ∧ (0 ≤ th f t 3 ∧ th f t 3 ≤ 3) ∧ (0 ≤ th f t 4 ∧ th f t 4 ≤ 3) ∧ (1 ≤ th f t 5 ∧ th f t 5 ≤ 7) ∧ (-8 ≤ th f t 6 ∧ th f t 6 ≤ 8) ∧ (-8 ≤ th f t 7 ∧ th f t 7 ≤ 8) := h.2.2.2.2.2 t ht
theorem Va.p {B : Int} {f : St} (h : Va B f) {j : Nat} (h1 : 4 ≤ j) (h2 : j < 36) : 0 ≤ f j ∧ f j ≤ 255 := h.2.2.2.2.1 j h1 h2
def setP (p : Nat → Bool) : Nat → Nat
  | 0 => 0
  | n + 1 => setP p n ||| (if p n then 1 <<< n else 0)
theorem setP_t {p : Nat → Bool} {n : Nat} (h : p n = true) : setP p n ||| 1 <<< n = setP p (n + 1) := by rw [setP, if_pos h]
theorem setP_f {p : Nat → Bool} {n : Nat} (h : p n = false) : setP p n = setP p (n + 1) := by rw [setP, if_neg (by rw [h]; decide), Nat.or_zero]
theorem setP_bit (p : Nat → Bool) : ∀ n i, (setP p n).testBit i = (decide (i < n) && p i)
  | 0, i => by simp [setP]
  | n + 1, i => by
    rw [setP, Nat.testBit_or, setP_bit p n i]
    by_cases hp : p n = true
    · rw [if_pos hp, Nat.one_shiftLeft, Nat.testBit_two_pow]
      by_cases hi : n = i
      · subst hi; simp [hp]
      · have : (i < n) ↔ (i < n + 1) := by omega
        simp [hi, this]
    · rw [if_neg hp, Nat.zero_testBit]
      by_cases hi : n = i
      · subst hi; simp [hp]
      · have : (i < n) ↔ (i < n + 1) := by omega
        simp [this]
theorem setP_lt (p : Nat → Bool) (n : Nat) : setP p n < 2 ^ n := Nat.lt_pow_two_of_testBit _ (fun i hi => by rw [setP_bit, decide_eq_false (by omega)]; rfl)
theorem setP_lt12 (p : Nat → Bool) {n : Nat} (h : n ≤ 12) : setP p n < 4096 := Nat.lt_of_lt_of_le (setP_lt p n) (Nat.pow_le_pow_right (by decide) h)
theorem setP_lt24 (p : Nat → Bool) {n : Nat} (h : n ≤ 24) : setP p n < 16777216 := Nat.lt_of_lt_of_le (setP_lt p n) (Nat.pow_le_pow_right (by decide) h)
theorem setP_ext {n a : Nat} {p : Nat → Bool} (h1 : ∀ i, i < n → a.testBit i = p i) (h2 : ∀ i, n ≤ i → a.testBit i = false) : a = setP p n := Nat.eq_of_testBit_eq (fun i => by
  rw [setP_bit]
  by_cases hi : i < n
  · rw [h1 i hi, decide_eq_true hi, Bool.true_and]
  · rw [h2 i (by omega), decide_eq_false hi, Bool.false_and])
theorem setP_cong {p q : Nat → Bool} {n : Nat} (h : ∀ i, i < n → p i = q i) : setP p n = setP q n := setP_ext (fun i hi => by rw [setP_bit, decide_eq_true hi, Bool.true_and, h i hi]) (fun i hi => by rw [setP_bit, decide_eq_false (by omega), Bool.false_and])
theorem sh1_lt {t n : Nat} (h : t < n) (hn : n ≤ 31) : 1 <<< t < 4294967296 := by
  rw [Nat.one_shiftLeft]
  exact Nat.lt_of_lt_of_le (Nat.pow_lt_pow_right (by decide) (show t < 32 by omega)) (by decide)
theorem bit1 (a k : Nat) : (a >>> k &&& 1) = (a.testBit k).toNat := by
  rw [Nat.and_one_is_mod, Nat.testBit_eq_decide_div_mod_eq, Nat.shiftRight_eq_div_pow]
  have := Nat.mod_two_eq_zero_or_one (a / 2 ^ k)
  rcases this with h | h <;> rw [h] <;> rfl
/-- a THING is ON a LINE -/
def onL (f : St) (t L : Nat) : Bool := decide (0 ≤ (L : Int) - th f t 1) && decide ((L : Int) - th f t 1 ≤ 7)
def onS (f : St) (L : Nat) : Nat := setP (fun u => onL f u L) (nT f)
/-- Math.floorMod's sign test -/
theorem fm_sign {x y : Int} (hx : -2147483648 ≤ x ∧ x < 2147483648) (hy : 0 < y ∧ y < 2147483648) : 0 ≤ zI x ^^^ zI y ↔ 0 ≤ x := by
  have h1 : ∀ a : Int32, decide (a.toInt < 0) = a.toBitVec.msb := fun a => (BitVec.msb_eq_toInt).symm
  have h2 := h1 (zI x ^^^ zI y)
  rw [Int32.toBitVec_xor, BitVec.msb_xor, ← h1, ← h1, zI_toInt hx, zI_toInt (by omega)] at h2
  rw [Int32.le_iff_toInt_le, show (0 : Int32).toInt = 0 from by decide +kernel]
  rw [show decide (y < 0) = false from decide_eq_false (by omega), Bool.xor_false] at h2
  have := decide_eq_decide.mp h2
  omega
theorem tm1 {x y : Int} (hx : x < 0) (hy : 0 < y) (h : x.tmod y = 0) : x.tmod y = x % y := by
  have h1 := Int.tmod_eq_emod (a := x) (b := y)
  have h2 := Int.emod_nonneg x (show y ≠ 0 by omega)
  have h3 := Int.emod_lt_of_pos x hy
  split at h1 <;> omega
theorem tm2 {x y : Int} (hx : x < 0) (hy : 0 < y) (h : x.tmod y ≠ 0) : x.tmod y + y = x % y := by
  have h1 := Int.tmod_eq_emod (a := x) (b := y)
  split at h1
  · rename_i h4
    rcases h4 with h4 | h4
    · omega
    · have := Int.emod_eq_zero_of_dvd h4
      omega
  · omega
theorem z_rem_toInt {x y : Int} (hx : -2147483648 ≤ x ∧ x < 2147483648) (hy : 0 < y ∧ y < 2147483648) : zI x - zI x / zI y * zI y = zI (x.tmod y) := by
  have h1 := rem_toInt (zI x) (zI y)
  rw [zI_toInt hx, zI_toInt (by omega)] at h1
  rw [← zI_of (zI x - zI x / zI y * zI y), h1]
section ZK
variable {p : Program} {l : Launch} {e : Env} {R : Room} {s : State} {m : MethodId} {args : Array Value} {below : List Frame} {meth : Method} {c : Code} {H H0 : Heap} {locs : List Loc} {cells slots : Nat} {Q : State → Prop}
variable {cc : ByteArray} {pc : Nat} {ls : Array Slot} {rest : List Value}
theorem z_iremT (hx : p.tables.exec = Jvm.exec) (hb : c.code = cc) {x y : Int} (hdg : decode cc pc = .ok (.irem, 1)) (h0 : -2147483648 ≤ x ∧ x < 2147483648) (h1 : 0 < y ∧ y < 2147483648) (kk : W p l e R s m args below meth c H locs cells slots Q (F0 m (pc + 1) ls (.int (zI (x.tmod y)) :: rest))) : W p l e R s m args below meth c H locs cells slots Q (F0 m pc ls (.int (zI y) :: .int (zI x) :: rest)) := lv_irem hx hb hdg (zI_ne0 h1.1 h1.2) (te (z_rem_toInt h0 h1) kk)
end ZK
/-- a row of a PICTURE, turned round -/
def mirL (b : Nat) : Nat → Nat
  | 0 => 0
  | k + 1 => (mirL b k <<< 1) ||| (b >>> k &&& 1)
theorem mir_ok : ∀ b, b < 256 → mirL b 8 < 256 ∧ ∀ i, i < 8 → (mirL b 8).testBit i = b.testBit (7 - i) := by decide +kernel
theorem mirL_lt (b : Nat) : ∀ k, mirL b k < 2 ^ k
  | 0 => Nat.zero_lt_one
  | k + 1 => Nat.lt_pow_two_of_testBit _ (fun i hi => by
    rw [mirL, Nat.testBit_or, Nat.testBit_shiftLeft, bit1, Nat.testBit_lt_two_pow (show mirL b k < 2 ^ (i - 1) from Nat.lt_of_lt_of_le (mirL_lt b k) (Nat.pow_le_pow_right (by decide) (by omega))), Nat.testBit_lt_two_pow (show (b.testBit k).toNat < 2 ^ i from Nat.lt_of_le_of_lt (Bool.toNat_le _) (Nat.one_lt_two_pow (by omega)))]
    simp)
/-- the bits of a THING's row on a LINE where it is ON -/
def rowN (f : St) (t L : Nat) : Nat :=
  let r := ((L : Int) - th f t 1).toNat
  let b := (f (4 + 8 * (th f t 2).toNat + if (th f t 3).toNat &&& 2 = 0 then r else 7 - r)).toNat
  if (th f t 3).toNat &&& 1 = 0 then b else mirL b 8
/-- the COLUMNS where a THING HAS a dot on a LINE, column 0 the highest of 32 bits -/
def dotsN (f : St) (t L : Nat) : Nat := if onL f t L then rowN f t L * 2 ^ 32 / 2 ^ (th f t 0 + 8).toNat % 2 ^ 32 else 0
-- from the kit's texts to paste (BITS): shifts of longs
theorem wb_tb (n : Nat) : (lN n).toBitVec = BitVec.ofNat 64 n := rfl
theorem wb_inj {a b : Int64} (h : a.toBitVec = b.toBitVec) : a = b := Int64.toBitVec_inj.mp h
theorem wb_tn {n : Nat} (h : n < 2 ^ 64) : (lN n).toBitVec.toNat = n := by rw [wb_tb, BitVec.toNat_ofNat, Nat.mod_eq_of_lt h]
theorem wb_of (x : Int64) : ∃ n, n < 2 ^ 64 ∧ x = lN n := ⟨x.toBitVec.toNat, x.toBitVec.isLt, wb_inj (by rw [wb_tb]; simp)⟩
theorem wb_of32 (x : Int32) : ∃ n, n < 2 ^ 32 ∧ x = nI n := ⟨x.toBitVec.toNat, x.toBitVec.isLt, Int32.toBitVec_inj.mp (by show _ = BitVec.ofNat 32 _; simp)⟩
theorem wb_c : ∀ k, k < 64 → ((nI k).toInt64 &&& 63) = lN k := by decide +kernel
theorem wb_cu : ∀ k, k < 64 → ((nI k).toInt64.toUInt64 &&& Int64.toUInt64 63) = UInt64.ofNat k := by decide +kernel
theorem wb_sm : ∀ k, k < 64 → (BitVec.ofNat 64 k).smod 64 = BitVec.ofNat 64 k := by decide +kernel
theorem wb_pw {a b : Nat} (h : a ≤ b) : 2 ^ b = 2 ^ a * 2 ^ (b - a) := by rw [← Nat.pow_add]; congr 1; omega
theorem wb_lt2 {a b : Nat} (h : a < b) : 2 ^ a < 2 ^ b := Nat.pow_lt_pow_right (by decide) h
theorem wb_mod (n : Nat) : lN n = lN (n % 2 ^ 64) := wb_inj (by rw [wb_tb, wb_tb]; apply BitVec.eq_of_toNat_eq; rw [BitVec.toNat_ofNat, BitVec.toNat_ofNat, Nat.mod_mod])
theorem wb_shr {n k : Nat} (hn : n < 2 ^ 64) (hk : k < 64) : ((lN n).toUInt64 >>> ((nI k).toInt64.toUInt64 &&& Int64.toUInt64 63)).toInt64 = lN (n / 2 ^ k) := by
  rw [wb_cu k hk]
  apply wb_inj
  apply BitVec.eq_of_toNat_eq
  show ((lN n).toUInt64 >>> UInt64.ofNat k).toNat = (BitVec.ofNat 64 _).toNat
  have h1 : (UInt64.ofNat k).toNat = k := by
    show (BitVec.ofNat 64 k).toNat = k
    rw [BitVec.toNat_ofNat, Nat.mod_eq_of_lt (by omega)]
  have h2 : (lN n).toUInt64.toNat = n := wb_tn hn
  rw [UInt64.toNat_shiftRight, h1, h2, Nat.mod_eq_of_lt hk, Nat.shiftRight_eq_div_pow, BitVec.toNat_ofNat, Nat.mod_eq_of_lt (Nat.lt_of_le_of_lt (Nat.div_le_self _ _) hn)]
theorem wb_shl (n : Nat) {k : Nat} (hk : k < 64) : lN n <<< ((nI k).toInt64 &&& 63) = lN (n * 2 ^ k) := by
  rw [wb_c k hk]
  apply wb_inj
  rw [Int64.toBitVec_shiftLeft, wb_tb, wb_tb, wb_tb, wb_sm k hk]
  apply BitVec.eq_of_toNat_eq
  rw [BitVec.shiftLeft_eq', BitVec.toNat_shiftLeft, BitVec.toNat_ofNat, BitVec.toNat_ofNat, BitVec.toNat_ofNat, Nat.mod_eq_of_lt (show k < 2 ^ 64 by omega), Nat.shiftLeft_eq, Nat.mul_mod, Nat.mod_mod, ← Nat.mul_mod]
theorem zL_shl (n : Nat) {k : Nat} (hk : k < 64) : zL (n : Int) <<< ((zI (k : Int)).toInt64 &&& 63) = zL ((n * 2 ^ k : Nat) : Int) := by
  rw [zL_nat, zI_nat, zL_nat]
  exact wb_shl n hk
theorem zL_shr {n k : Nat} (hn : n < 2 ^ 64) (hk : k < 64) : ((zL (n : Int)).toUInt64 >>> ((zI (k : Int)).toInt64.toUInt64 &&& Int64.toUInt64 63)).toInt64 = zL ((n / 2 ^ k : Nat) : Int) := by
  rw [zL_nat, zI_nat, zL_nat]
  exact wb_shr hn hk
theorem zI_m32 (n : Nat) : zI (n : Int) = zI ((n % 2 ^ 32 : Nat) : Int) := by
  rw [zI_nat, zI_nat]
  apply Int32.toBitVec_inj.mp
  rw [bv_nI, bv_nI]
  apply BitVec.eq_of_toNat_eq
  rw [BitVec.toNat_ofNat, BitVec.toNat_ofNat, Nat.mod_mod]
section ZM
variable {p : Program} {l : Launch} {e : Env} {R : Room} {s : State} {m : MethodId} {args : Array Value} {below : List Frame} {meth : Method} {c : Code} {H H0 : Heap} {locs : List Loc} {cells slots : Nat} {Q : State → Prop}
variable {cc : ByteArray} {pc : Nat} {ls : Array Slot} {rest : List Value}
theorem z_lshl (hx : p.tables.exec = Jvm.exec) (hb : c.code = cc) {x y : Int} (hdg : decode cc pc = .ok (.lshl, 1)) (X Y : Nat) (hX : x = (X : Int)) (hY : y = (Y : Int)) (h1 : Y < 64) (kk : W p l e R s m args below meth c H locs cells slots Q (F0 m (pc + 1) ls (.long (zL ((X * 2 ^ Y : Nat) : Int)) :: rest))) : W p l e R s m args below meth c H locs cells slots Q (F0 m pc ls (.int (zI y) :: .long (zL x) :: rest)) := by subst hX; subst hY; exact lv_lshl hx hb hdg (zL_shl X h1) kk
theorem z_lushr (hx : p.tables.exec = Jvm.exec) (hb : c.code = cc) {x y : Int} (hdg : decode cc pc = .ok (.lushr, 1)) (X Y : Nat) (hX : x = (X : Int)) (hY : y = (Y : Int)) (h1 : Y < 64) (h2 : X < 2 ^ 64) (kk : W p l e R s m args below meth c H locs cells slots Q (F0 m (pc + 1) ls (.long (zL ((X / 2 ^ Y : Nat) : Int)) :: rest))) : W p l e R s m args below meth c H locs cells slots Q (F0 m pc ls (.int (zI y) :: .long (zL x) :: rest)) := by subst hX; subst hY; exact lv_lushr hx hb hdg (zL_shr h2 h1) kk
end ZM
