/-! NUMBERS AS WHOLE NUMBERS: every int on the stack is 'zI z' (z : Int), every int array 'zF g' (g : Nat → Int) -/
def zI (z : Int) : Int32 := Int32.ofInt z
def zL (z : Int) : Int64 := Int64.ofInt z
def zF (g : Nat → Int) : Nat → Int32 := fun j => zI (g j)
def zG (g : Nat → Int) : Nat → Int64 := fun j => zL (g j)
def upZ (g : Nat → Int) (k : Nat) (v : Int) : Nat → Int := fun j => if j = k then v else g j
theorem upZ_s {g : Nat → Int} {k : Nat} {v : Int} : upZ g k v k = v := if_pos rfl
theorem upZ_n {g : Nat → Int} {k j : Nat} {v : Int} (h : j ≠ k) : upZ g k v j = g j := if_neg h
theorem zF_upd (g : Nat → Int) (k : Nat) (v : Int) : upd (zF g) k (zI v) = zF (upZ g k v) := by
  funext j
  unfold upd zF upZ
  split <;> rfl
theorem zG_upd (g : Nat → Int) (k : Nat) (v : Int) : vp_updL (zG g) k (zL v) = zG (upZ g k v) := by
  funext j
  unfold vp_updL zG upZ
  split <;> rfl
theorem zI_nat (n : Nat) : zI (n : Int) = nI n := Int32.ofInt_eq_ofNat
theorem zL_nat (n : Nat) : zL (n : Int) = lN n := Int64.ofInt_eq_ofNat
theorem zI_of (x : Int32) : zI x.toInt = x := Int32.ofInt_toInt x
theorem zI_rg (x : Int32) : -2147483648 ≤ x.toInt ∧ x.toInt < 2147483648 := ⟨Int32.le_toInt x, Int32.toInt_lt x⟩
theorem zI_toInt {a : Int} (h : -2147483648 ≤ a ∧ a < 2147483648) : (zI a).toInt = a := Int32.toInt_ofInt_of_le h.1 h.2
theorem zL_toInt {a : Int} (h : -9223372036854775808 ≤ a ∧ a < 9223372036854775808) : (zL a).toInt = a := Int64.toInt_ofInt_of_le h.1 h.2
theorem zI_lt {a b : Int} (ha : -2147483648 ≤ a ∧ a < 2147483648) (hb : -2147483648 ≤ b ∧ b < 2147483648) : zI a < zI b ↔ a < b := by rw [Int32.lt_iff_toInt_lt, zI_toInt ha, zI_toInt hb]
theorem zI_le {a b : Int} (ha : -2147483648 ≤ a ∧ a < 2147483648) (hb : -2147483648 ≤ b ∧ b < 2147483648) : zI a ≤ zI b ↔ a ≤ b := by rw [Int32.le_iff_toInt_le, zI_toInt ha, zI_toInt hb]
theorem zI_eq {a b : Int} (ha : -2147483648 ≤ a ∧ a < 2147483648) (hb : -2147483648 ≤ b ∧ b < 2147483648) : zI a = zI b ↔ a = b := by rw [← Int32.toInt_inj, zI_toInt ha, zI_toInt hb]
theorem zI_0 : (0 : Int32) = zI 0 := by decide +kernel
theorem zI_add (a b : Int) : zI a + zI b = zI (a + b) := (Int32.ofInt_add a b).symm
theorem zI_sub (a b : Int) : zI a - zI b = zI (a - b) := (Int32.ofInt_sub a b).symm
theorem zI_mul (a b : Int) : zI a * zI b = zI (a * b) := (Int32.ofInt_mul a b).symm
theorem zL_add (a b : Int) : zL a + zL b = zL (a + b) := (Int64.ofInt_add a b).symm
theorem zL_sub (a b : Int) : zL a - zL b = zL (a - b) := (Int64.ofInt_sub a b).symm
theorem zL_mul (a b : Int) : zL a * zL b = zL (a * b) := (Int64.ofInt_mul a b).symm
theorem zI_div {a b : Int} (h0 : 0 ≤ a) (h1 : a < 2147483648) (h2 : 0 < b) (h3 : b < 2147483648) : zI a / zI b = zI (a / b) := by
  obtain ⟨n, rfl⟩ := Int.eq_ofNat_of_zero_le h0
  obtain ⟨d, rfl⟩ := Int.eq_ofNat_of_zero_le (Int.le_of_lt h2)
  rw [show ((n : Int) / (d : Int)) = ((n / d : Nat) : Int) from (Int.natCast_ediv n d).symm, zI_nat, zI_nat, zI_nat]
  exact pk_div (by omega) (by omega) (by omega)
theorem zI_rem {a b : Int} (h0 : 0 ≤ a) (h1 : a < 2147483648) (h2 : 0 < b) (h3 : b < 2147483648) : zI a - zI a / zI b * zI b = zI (a % b) := by
  rw [zI_div h0 h1 h2 h3, zI_mul, zI_sub]
  congr 1
  have := Int.mul_ediv_add_emod a b
  rw [Int.mul_comm] at this
  omega
theorem zL_div {a b : Int} (h0 : 0 ≤ a) (h1 : a < 9223372036854775808) (h2 : 0 < b) (h3 : b < 9223372036854775808) : zL a / zL b = zL (a / b) := by
  obtain ⟨n, rfl⟩ := Int.eq_ofNat_of_zero_le h0
  obtain ⟨d, rfl⟩ := Int.eq_ofNat_of_zero_le (Int.le_of_lt h2)
  rw [show ((n : Int) / (d : Int)) = ((n / d : Nat) : Int) from (Int.natCast_ediv n d).symm, zL_nat, zL_nat, zL_nat]
  exact pk_lDiv (by omega) (by omega) (by omega)
theorem zL_rem {a b : Int} (h0 : 0 ≤ a) (h1 : a < 9223372036854775808) (h2 : 0 < b) (h3 : b < 9223372036854775808) : zL a - zL a / zL b * zL b = zL (a % b) := by
  rw [zL_div h0 h1 h2 h3, zL_mul, zL_sub]
  congr 1
  have := Int.mul_ediv_add_emod a b
  rw [Int.mul_comm] at this
  omega
theorem zI_inj (a b : Nat) (h : nI a = nI b) (ha : a < 4294967296) (hb : b < 4294967296) : a = b := by
  have h1 : (nI a).toBitVec.toNat = (nI b).toBitVec.toNat := by rw [h]
  rwa [pk_tn ha, pk_tn hb] at h1
theorem bv_nI (n : Nat) : (nI n).toBitVec = BitVec.ofNat 32 n := rfl
theorem zI_and (a b : Nat) : zI (a : Int) &&& zI (b : Int) = zI ((a &&& b : Nat) : Int) := by
  rw [zI_nat, zI_nat, zI_nat]
  apply Int32.toBitVec_inj.mp
  rw [Int32.toBitVec_and, bv_nI, bv_nI, bv_nI, BitVec.ofNat_and]
theorem zI_or (a b : Nat) : zI (a : Int) ||| zI (b : Int) = zI ((a ||| b : Nat) : Int) := by
  rw [zI_nat, zI_nat, zI_nat]
  apply Int32.toBitVec_inj.mp
  rw [Int32.toBitVec_or, bv_nI, bv_nI, bv_nI, BitVec.ofNat_or]
theorem zI_xor (a b : Nat) : zI (a : Int) ^^^ zI (b : Int) = zI ((a ^^^ b : Nat) : Int) := by
  rw [zI_nat, zI_nat, zI_nat]
  apply Int32.toBitVec_inj.mp
  rw [Int32.toBitVec_xor, bv_nI, bv_nI, bv_nI, BitVec.ofNat_xor]
theorem zI_m1 : zI (-1) = zI ((4294967295 : Nat) : Int) := by decide +kernel
theorem zI_not {a : Nat} (h : a < 4294967296) : zI (a : Int) ^^^ zI (-1) = zI ((2 ^ 32 - (a + 1) : Nat) : Int) := by
  rw [zI_m1, zI_xor]
  congr 2
  apply Nat.eq_of_testBit_eq
  intro i
  rw [Nat.testBit_two_pow_sub_succ (by omega), Nat.testBit_xor, show (4294967295 : Nat) = 2 ^ 32 - 1 from by decide, Nat.testBit_two_pow_sub_one]
  by_cases hi : i < 32
  · simp [hi]
  · simp [hi, Nat.testBit_lt_two_pow (show a < 2 ^ i from Nat.lt_of_lt_of_le (show a < 2 ^ 32 by omega) (Nat.pow_le_pow_right (by decide) (by omega)))]
theorem sh_l : ∀ n, n < 32 → ((nI n &&& 31).toBitVec.smod 32).toNat = n := by decide +kernel
theorem sh_u : ∀ n, n < 32 → (((nI n).toUInt32 &&& Int32.toUInt32 31).toBitVec % 32).toNat = n := by decide +kernel
theorem zI_shl {a s : Nat} (hs : s < 32) (h : a <<< s < 4294967296) : zI (a : Int) <<< (zI (s : Int) &&& 31) = zI ((a <<< s : Nat) : Int) := by
  rw [Nat.shiftLeft_eq] at h
  rw [zI_nat, zI_nat, zI_nat, Nat.shiftLeft_eq]
  exact pk_shlN _ s (sh_l s hs) (by omega)
theorem zI_shr {a s : Nat} (hs : s < 32) (h : a < 2147483648) : zI (a : Int) >>> (zI (s : Int) &&& 31) = zI ((a >>> s : Nat) : Int) := by
  rw [zI_nat, zI_nat, zI_nat, Nat.shiftRight_eq_div_pow]
  exact pk_shrN (by omega) _ s (sh_l s hs)
theorem zI_ushr {a s : Nat} (hs : s < 32) (h : a < 4294967296) : ((zI (a : Int)).toUInt32 >>> ((zI (s : Int)).toUInt32 &&& Int32.toUInt32 31)).toInt32 = zI ((a >>> s : Nat) : Int) := by
  rw [zI_nat, zI_nat, zI_nat, Nat.shiftRight_eq_div_pow]
  exact pk_ushrN (by omega) _ s (sh_u s hs)
theorem zI_mask0 {a : Nat} (h : a < 4294967296) : zI (a : Int) = 0 ↔ a = 0 := by
  rw [zI_nat]
  exact ⟨fun h1 => zI_inj a 0 h1 h (by decide), fun h1 => by rw [h1]; rfl⟩
section ZI
variable {p : Program} {l : Launch} {e : Env} {R : Room} {s : State} {m : MethodId} {args : Array Value} {below : List Frame} {meth : Method} {c : Code} {H H0 : Heap} {locs : List Loc} {cells slots : Nat} {Q : State → Prop}
variable {cc : ByteArray} {pc : Nat} {ls : Array Slot} {rest : List Value} {D : va_G} {k : Kt} {ws : va_W} {A : Nat → Prop}
theorem z_iconst (hx : p.tables.exec = Jvm.exec) (hb : c.code = cc) {n : Int} (hdg : decode cc pc = .ok (.iconst n, 1)) (kk : W p l e R s m args below meth c H locs cells slots Q (F0 m (pc + 1) ls (.int (zI n) :: rest))) : W p l e R s m args below meth c H locs cells slots Q (F0 m pc ls rest) := lv_iconst hx hb hdg rfl kk
theorem z_bipush (hx : p.tables.exec = Jvm.exec) (hb : c.code = cc) {n : Int} (hdg : decode cc pc = .ok (.bipush n, 2)) (hv : (Int8.ofInt n).toInt32 = zI n) (kk : W p l e R s m args below meth c H locs cells slots Q (F0 m (pc + 2) ls (.int (zI n) :: rest))) : W p l e R s m args below meth c H locs cells slots Q (F0 m pc ls rest) := lv_bipush hx hb hdg hv kk
theorem z_sipush (hx : p.tables.exec = Jvm.exec) (hb : c.code = cc) {n : Int} (hdg : decode cc pc = .ok (.sipush n, 3)) (hv : (Int16.ofInt n).toInt32 = zI n) (kk : W p l e R s m args below meth c H locs cells slots Q (F0 m (pc + 3) ls (.int (zI n) :: rest))) : W p l e R s m args below meth c H locs cells slots Q (F0 m pc ls rest) := lv_sipush hx hb hdg hv kk
theorem z_iadd (hx : p.tables.exec = Jvm.exec) (hb : c.code = cc) {x y : Int} (hdg : decode cc pc = .ok (.iadd, 1)) (kk : W p l e R s m args below meth c H locs cells slots Q (F0 m (pc + 1) ls (.int (zI (x + y)) :: rest))) : W p l e R s m args below meth c H locs cells slots Q (F0 m pc ls (.int (zI y) :: .int (zI x) :: rest)) := lv_iadd hx hb hdg (te (zI_add x y) kk)
theorem z_isub (hx : p.tables.exec = Jvm.exec) (hb : c.code = cc) {x y : Int} (hdg : decode cc pc = .ok (.isub, 1)) (kk : W p l e R s m args below meth c H locs cells slots Q (F0 m (pc + 1) ls (.int (zI (x - y)) :: rest))) : W p l e R s m args below meth c H locs cells slots Q (F0 m pc ls (.int (zI y) :: .int (zI x) :: rest)) := lv_isub hx hb hdg (te (zI_sub x y) kk)
theorem z_imul (hx : p.tables.exec = Jvm.exec) (hb : c.code = cc) {x y : Int} (hdg : decode cc pc = .ok (.imul, 1)) (kk : W p l e R s m args below meth c H locs cells slots Q (F0 m (pc + 1) ls (.int (zI (x * y)) :: rest))) : W p l e R s m args below meth c H locs cells slots Q (F0 m pc ls (.int (zI y) :: .int (zI x) :: rest)) := lv_imul hx hb hdg (te (zI_mul x y) kk)
theorem zI_ne0 {y : Int} (h1 : 0 < y) (h2 : y < 2147483648) : ¬ zI y = 0 := fun h => by rw [zI_0, zI_eq (by omega) (by omega)] at h; omega
theorem zL_ne0 {y : Int} (h1 : 0 < y) (h2 : y < 9223372036854775808) : ¬ zL y = 0 := fun h => by
  have := congrArg Int64.toInt h
  rw [zL_toInt (by omega), show (0 : Int64).toInt = 0 from by decide +kernel] at this
  omega
theorem z_idiv (hx : p.tables.exec = Jvm.exec) (hb : c.code = cc) {x y : Int} (hdg : decode cc pc = .ok (.idiv, 1)) (h0 : 0 ≤ x ∧ x < 2147483648) (h1 : 0 < y ∧ y < 2147483648) (kk : W p l e R s m args below meth c H locs cells slots Q (F0 m (pc + 1) ls (.int (zI (x / y)) :: rest))) : W p l e R s m args below meth c H locs cells slots Q (F0 m pc ls (.int (zI y) :: .int (zI x) :: rest)) := lv_idiv hx hb hdg (zI_ne0 h1.1 h1.2) (te (zI_div h0.1 h0.2 h1.1 h1.2) kk)
theorem z_irem (hx : p.tables.exec = Jvm.exec) (hb : c.code = cc) {x y : Int} (hdg : decode cc pc = .ok (.irem, 1)) (h0 : 0 ≤ x ∧ x < 2147483648) (h1 : 0 < y ∧ y < 2147483648) (kk : W p l e R s m args below meth c H locs cells slots Q (F0 m (pc + 1) ls (.int (zI (x % y)) :: rest))) : W p l e R s m args below meth c H locs cells slots Q (F0 m pc ls (.int (zI y) :: .int (zI x) :: rest)) := lv_irem hx hb hdg (zI_ne0 h1.1 h1.2) (te (zI_rem h0.1 h0.2 h1.1 h1.2) kk)
theorem z_iand (hx : p.tables.exec = Jvm.exec) (hb : c.code = cc) {x y : Int} (hdg : decode cc pc = .ok (.iand, 1)) (X Y : Nat) (hX : x = (X : Int)) (hY : y = (Y : Int)) (kk : W p l e R s m args below meth c H locs cells slots Q (F0 m (pc + 1) ls (.int (zI ((X &&& Y : Nat) : Int)) :: rest))) : W p l e R s m args below meth c H locs cells slots Q (F0 m pc ls (.int (zI y) :: .int (zI x) :: rest)) := by subst hX; subst hY; exact lv_iand hx hb hdg (te (zI_and X Y) kk)
theorem z_ior (hx : p.tables.exec = Jvm.exec) (hb : c.code = cc) {x y : Int} (hdg : decode cc pc = .ok (.ior, 1)) (X Y : Nat) (hX : x = (X : Int)) (hY : y = (Y : Int)) (kk : W p l e R s m args below meth c H locs cells slots Q (F0 m (pc + 1) ls (.int (zI ((X ||| Y : Nat) : Int)) :: rest))) : W p l e R s m args below meth c H locs cells slots Q (F0 m pc ls (.int (zI y) :: .int (zI x) :: rest)) := by subst hX; subst hY; exact lv_ior hx hb hdg (te (zI_or X Y) kk)
theorem z_ixor (hx : p.tables.exec = Jvm.exec) (hb : c.code = cc) {x y : Int} (hdg : decode cc pc = .ok (.ixor, 1)) (X Y : Nat) (hX : x = (X : Int)) (hY : y = (Y : Int)) (kk : W p l e R s m args below meth c H locs cells slots Q (F0 m (pc + 1) ls (.int (zI ((X ^^^ Y : Nat) : Int)) :: rest))) : W p l e R s m args below meth c H locs cells slots Q (F0 m pc ls (.int (zI y) :: .int (zI x) :: rest)) := by subst hX; subst hY; exact lv_ixor hx hb hdg (te (zI_xor X Y) kk)
theorem z_not (hx : p.tables.exec = Jvm.exec) (hb : c.code = cc) {x : Int} (hdg : decode cc pc = .ok (.ixor, 1)) (X : Nat) (hX : x = (X : Int)) (hb2 : X < 4294967296) (kk : W p l e R s m args below meth c H locs cells slots Q (F0 m (pc + 1) ls (.int (zI ((2 ^ 32 - (X + 1) : Nat) : Int)) :: rest))) : W p l e R s m args below meth c H locs cells slots Q (F0 m pc ls (.int (zI (-1)) :: .int (zI x) :: rest)) := by subst hX; exact lv_ixor hx hb hdg (te (zI_not hb2) kk)
theorem z_ishl (hx : p.tables.exec = Jvm.exec) (hb : c.code = cc) {x y : Int} (hdg : decode cc pc = .ok (.ishl, 1)) (X Y : Nat) (hX : x = (X : Int)) (hY : y = (Y : Int)) (h1 : Y < 32) (h2 : X <<< Y < 4294967296) (kk : W p l e R s m args below meth c H locs cells slots Q (F0 m (pc + 1) ls (.int (zI ((X <<< Y : Nat) : Int)) :: rest))) : W p l e R s m args below meth c H locs cells slots Q (F0 m pc ls (.int (zI y) :: .int (zI x) :: rest)) := by subst hX; subst hY; exact lv_ishl hx hb hdg (te (zI_shl h1 h2) kk)
theorem z_ishr (hx : p.tables.exec = Jvm.exec) (hb : c.code = cc) {x y : Int} (hdg : decode cc pc = .ok (.ishr, 1)) (X Y : Nat) (hX : x = (X : Int)) (hY : y = (Y : Int)) (h1 : Y < 32) (h2 : X < 2147483648) (kk : W p l e R s m args below meth c H locs cells slots Q (F0 m (pc + 1) ls (.int (zI ((X >>> Y : Nat) : Int)) :: rest))) : W p l e R s m args below meth c H locs cells slots Q (F0 m pc ls (.int (zI y) :: .int (zI x) :: rest)) := by subst hX; subst hY; exact lv_ishr hx hb hdg (te (zI_shr h1 h2) kk)
theorem z_iushr (hx : p.tables.exec = Jvm.exec) (hb : c.code = cc) {x y : Int} (hdg : decode cc pc = .ok (.iushr, 1)) (X Y : Nat) (hX : x = (X : Int)) (hY : y = (Y : Int)) (h1 : Y < 32) (h2 : X < 4294967296) (kk : W p l e R s m args below meth c H locs cells slots Q (F0 m (pc + 1) ls (.int (zI ((X >>> Y : Nat) : Int)) :: rest))) : W p l e R s m args below meth c H locs cells slots Q (F0 m pc ls (.int (zI y) :: .int (zI x) :: rest)) := by subst hX; subst hY; exact lv_iushr hx hb hdg (zI_ushr h1 h2) kk
theorem z_if_eq (hx : p.tables.exec = Jvm.exec) (hb : c.code = cc) {x : Int} {off : Int} {tgt : Nat} (hdg : decode cc pc = .ok (.ifCond .eq off, 3)) (ht : (pc : Int) + off = (tgt : Int)) (hr : -2147483648 ≤ x ∧ x < 2147483648) (kt : x = 0 → W p l e R s m args below meth c H locs cells slots Q (F0 m tgt ls rest)) (kf : x ≠ 0 → W p l e R s m args below meth c H locs cells slots Q (F0 m (pc + 3) ls rest)) : W p l e R s m args below meth c H locs cells slots Q (F0 m pc ls (.int (zI x) :: rest)) := lv_if_eq hx hb hdg ht (fun h => kt (by rw [zI_0, zI_eq hr (by omega)] at h; exact h)) (fun h => kf (by rw [zI_0, zI_eq hr (by omega)] at h; exact h))
theorem z_if_ne (hx : p.tables.exec = Jvm.exec) (hb : c.code = cc) {x : Int} {off : Int} {tgt : Nat} (hdg : decode cc pc = .ok (.ifCond .ne off, 3)) (ht : (pc : Int) + off = (tgt : Int)) (hr : -2147483648 ≤ x ∧ x < 2147483648) (kt : x ≠ 0 → W p l e R s m args below meth c H locs cells slots Q (F0 m tgt ls rest)) (kf : x = 0 → W p l e R s m args below meth c H locs cells slots Q (F0 m (pc + 3) ls rest)) : W p l e R s m args below meth c H locs cells slots Q (F0 m pc ls (.int (zI x) :: rest)) := lv_if_ne hx hb hdg ht (fun h => kt (by rw [zI_0, zI_eq hr (by omega)] at h; exact h)) (fun h => kf (by rw [zI_0, zI_eq hr (by omega)] at h; exact h))
theorem z_if_eqm (hx : p.tables.exec = Jvm.exec) (hb : c.code = cc) {x : Nat} {off : Int} {tgt : Nat} (hdg : decode cc pc = .ok (.ifCond .eq off, 3)) (ht : (pc : Int) + off = (tgt : Int)) (hr : x < 4294967296) (kt : x = 0 → W p l e R s m args below meth c H locs cells slots Q (F0 m tgt ls rest)) (kf : x ≠ 0 → W p l e R s m args below meth c H locs cells slots Q (F0 m (pc + 3) ls rest)) : W p l e R s m args below meth c H locs cells slots Q (F0 m pc ls (.int (zI ((x : Nat) : Int)) :: rest)) := lv_if_eq hx hb hdg ht (fun h => kt ((zI_mask0 hr).mp h)) (fun h => kf (fun h2 => h ((zI_mask0 hr).mpr h2)))
theorem z_if_lt (hx : p.tables.exec = Jvm.exec) (hb : c.code = cc) {x : Int} {off : Int} {tgt : Nat} (hdg : decode cc pc = .ok (.ifCond .lt off, 3)) (ht : (pc : Int) + off = (tgt : Int)) (hr : -2147483648 ≤ x ∧ x < 2147483648) (kt : x < 0 → W p l e R s m args below meth c H locs cells slots Q (F0 m tgt ls rest)) (kf : 0 ≤ x → W p l e R s m args below meth c H locs cells slots Q (F0 m (pc + 3) ls rest)) : W p l e R s m args below meth c H locs cells slots Q (F0 m pc ls (.int (zI x) :: rest)) := lv_if_lt hx hb hdg ht (fun h => kt (by rw [zI_0, zI_lt hr (by omega)] at h; exact h)) (fun h => kf (by rw [zI_0, zI_lt hr (by omega)] at h; omega))
theorem z_if_ge (hx : p.tables.exec = Jvm.exec) (hb : c.code = cc) {x : Int} {off : Int} {tgt : Nat} (hdg : decode cc pc = .ok (.ifCond .ge off, 3)) (ht : (pc : Int) + off = (tgt : Int)) (hr : -2147483648 ≤ x ∧ x < 2147483648) (kt : 0 ≤ x → W p l e R s m args below meth c H locs cells slots Q (F0 m tgt ls rest)) (kf : x < 0 → W p l e R s m args below meth c H locs cells slots Q (F0 m (pc + 3) ls rest)) : W p l e R s m args below meth c H locs cells slots Q (F0 m pc ls (.int (zI x) :: rest)) := lv_if_ge hx hb hdg ht (fun h => kt (by rw [zI_0, zI_le (by omega) hr] at h; exact h)) (fun h => kf (by rw [zI_0, zI_le (by omega) hr] at h; omega))
theorem z_if_gt (hx : p.tables.exec = Jvm.exec) (hb : c.code = cc) {x : Int} {off : Int} {tgt : Nat} (hdg : decode cc pc = .ok (.ifCond .gt off, 3)) (ht : (pc : Int) + off = (tgt : Int)) (hr : -2147483648 ≤ x ∧ x < 2147483648) (kt : 0 < x → W p l e R s m args below meth c H locs cells slots Q (F0 m tgt ls rest)) (kf : x ≤ 0 → W p l e R s m args below meth c H locs cells slots Q (F0 m (pc + 3) ls rest)) : W p l e R s m args below meth c H locs cells slots Q (F0 m pc ls (.int (zI x) :: rest)) := lv_if_gt hx hb hdg ht (fun h => kt (by rw [zI_0, zI_lt (by omega) hr] at h; exact h)) (fun h => kf (by rw [zI_0, zI_lt (by omega) hr] at h; omega))
theorem z_if_le (hx : p.tables.exec = Jvm.exec) (hb : c.code = cc) {x : Int} {off : Int} {tgt : Nat} (hdg : decode cc pc = .ok (.ifCond .le off, 3)) (ht : (pc : Int) + off = (tgt : Int)) (hr : -2147483648 ≤ x ∧ x < 2147483648) (kt : x ≤ 0 → W p l e R s m args below meth c H locs cells slots Q (F0 m tgt ls rest)) (kf : 0 < x → W p l e R s m args below meth c H locs cells slots Q (F0 m (pc + 3) ls rest)) : W p l e R s m args below meth c H locs cells slots Q (F0 m pc ls (.int (zI x) :: rest)) := lv_if_le hx hb hdg ht (fun h => kt (by rw [zI_0, zI_le hr (by omega)] at h; exact h)) (fun h => kf (by rw [zI_0, zI_le hr (by omega)] at h; omega))
theorem z_icmp_eq (hx : p.tables.exec = Jvm.exec) (hb : c.code = cc) {x y : Int} {off : Int} {tgt : Nat} (hdg : decode cc pc = .ok (.if_icmp .eq off, 3)) (ht : (pc : Int) + off = (tgt : Int)) (hr : -2147483648 ≤ x ∧ x < 2147483648) (hr2 : -2147483648 ≤ y ∧ y < 2147483648) (kt : x = y → W p l e R s m args below meth c H locs cells slots Q (F0 m tgt ls rest)) (kf : x ≠ y → W p l e R s m args below meth c H locs cells slots Q (F0 m (pc + 3) ls rest)) : W p l e R s m args below meth c H locs cells slots Q (F0 m pc ls (.int (zI y) :: .int (zI x) :: rest)) := lv_icmp_eq hx hb hdg ht (fun h => kt ((zI_eq hr hr2).mp h)) (fun h => kf (fun h2 => h (by rw [h2])))
theorem z_icmp_ne (hx : p.tables.exec = Jvm.exec) (hb : c.code = cc) {x y : Int} {off : Int} {tgt : Nat} (hdg : decode cc pc = .ok (.if_icmp .ne off, 3)) (ht : (pc : Int) + off = (tgt : Int)) (hr : -2147483648 ≤ x ∧ x < 2147483648) (hr2 : -2147483648 ≤ y ∧ y < 2147483648) (kt : x ≠ y → W p l e R s m args below meth c H locs cells slots Q (F0 m tgt ls rest)) (kf : x = y → W p l e R s m args below meth c H locs cells slots Q (F0 m (pc + 3) ls rest)) : W p l e R s m args below meth c H locs cells slots Q (F0 m pc ls (.int (zI y) :: .int (zI x) :: rest)) := lv_icmp_ne hx hb hdg ht (fun h => kt (fun h2 => h (by rw [h2]))) (fun h => kf ((zI_eq hr hr2).mp h))
theorem z_icmp_lt (hx : p.tables.exec = Jvm.exec) (hb : c.code = cc) {x y : Int} {off : Int} {tgt : Nat} (hdg : decode cc pc = .ok (.if_icmp .lt off, 3)) (ht : (pc : Int) + off = (tgt : Int)) (hr : -2147483648 ≤ x ∧ x < 2147483648) (hr2 : -2147483648 ≤ y ∧ y < 2147483648) (kt : x < y → W p l e R s m args below meth c H locs cells slots Q (F0 m tgt ls rest)) (kf : y ≤ x → W p l e R s m args below meth c H locs cells slots Q (F0 m (pc + 3) ls rest)) : W p l e R s m args below meth c H locs cells slots Q (F0 m pc ls (.int (zI y) :: .int (zI x) :: rest)) := lv_icmp_lt hx hb hdg ht (fun h => kt ((zI_lt hr hr2).mp h)) (fun h => kf (by rw [zI_lt hr hr2] at h; omega))
theorem z_icmp_ge (hx : p.tables.exec = Jvm.exec) (hb : c.code = cc) {x y : Int} {off : Int} {tgt : Nat} (hdg : decode cc pc = .ok (.if_icmp .ge off, 3)) (ht : (pc : Int) + off = (tgt : Int)) (hr : -2147483648 ≤ x ∧ x < 2147483648) (hr2 : -2147483648 ≤ y ∧ y < 2147483648) (kt : y ≤ x → W p l e R s m args below meth c H locs cells slots Q (F0 m tgt ls rest)) (kf : x < y → W p l e R s m args below meth c H locs cells slots Q (F0 m (pc + 3) ls rest)) : W p l e R s m args below meth c H locs cells slots Q (F0 m pc ls (.int (zI y) :: .int (zI x) :: rest)) := lv_icmp_ge hx hb hdg ht (fun h => kt ((zI_le hr2 hr).mp h)) (fun h => kf (by rw [zI_le hr2 hr] at h; omega))
theorem z_icmp_gt (hx : p.tables.exec = Jvm.exec) (hb : c.code = cc) {x y : Int} {off : Int} {tgt : Nat} (hdg : decode cc pc = .ok (.if_icmp .gt off, 3)) (ht : (pc : Int) + off = (tgt : Int)) (hr : -2147483648 ≤ x ∧ x < 2147483648) (hr2 : -2147483648 ≤ y ∧ y < 2147483648) (kt : y < x → W p l e R s m args below meth c H locs cells slots Q (F0 m tgt ls rest)) (kf : x ≤ y → W p l e R s m args below meth c H locs cells slots Q (F0 m (pc + 3) ls rest)) : W p l e R s m args below meth c H locs cells slots Q (F0 m pc ls (.int (zI y) :: .int (zI x) :: rest)) := lv_icmp_gt hx hb hdg ht (fun h => kt ((zI_lt hr2 hr).mp h)) (fun h => kf (by rw [zI_lt hr2 hr] at h; omega))
theorem z_icmp_le (hx : p.tables.exec = Jvm.exec) (hb : c.code = cc) {x y : Int} {off : Int} {tgt : Nat} (hdg : decode cc pc = .ok (.if_icmp .le off, 3)) (ht : (pc : Int) + off = (tgt : Int)) (hr : -2147483648 ≤ x ∧ x < 2147483648) (hr2 : -2147483648 ≤ y ∧ y < 2147483648) (kt : x ≤ y → W p l e R s m args below meth c H locs cells slots Q (F0 m tgt ls rest)) (kf : y < x → W p l e R s m args below meth c H locs cells slots Q (F0 m (pc + 3) ls rest)) : W p l e R s m args below meth c H locs cells slots Q (F0 m pc ls (.int (zI y) :: .int (zI x) :: rest)) := lv_icmp_le hx hb hdg ht (fun h => kt ((zI_le hr hr2).mp h)) (fun h => kf (by rw [zI_le hr hr2] at h; omega))
theorem zI_cl {n : Nat} (h : n < 2147483648) : (zI (n : Int)).toNatClampNeg = n := by rw [zI_nat]; exact nI_clamp (by omega)
theorem zI_vin {n N : Nat} (h : n < N) (hN : N < 2147483648) : vp_in (zI (n : Int)) N := by rw [zI_nat]; exact vp_in_nI h (by omega)
theorem z_ald (hx : p.tables.exec = Jvm.exec) (hb : c.code = cc) (hK : GW D k s) (hP : va_P D vwCl ws H) (q0 : Nat) {a n : Nat} {g : Nat → Int} (ha : ws[q0]? = some (a, .inl (k.1, n, .inl (zF g)))) {i : Int} (E : Nat) (he : i = (E : Int)) (hE : E < n) (hn : n < 2147483648) (hdg : decode cc pc = .ok (.iaload, 1)) (kk : W p l e R s m args below meth c H locs cells slots Q (F0 m (pc + 1) ls (.int (zI (g E)) :: rest))) : W p l e R s m args below meth c H locs cells slots Q (F0 m pc ls (.int (zI i) :: .ref a :: rest)) := by
  subst he
  refine va_iald hx hb hK.1 hP q0 0 ha rfl (zI_vin hE hn) hdg ?_
  rw [zI_cl (by omega)]
  exact kk
theorem z_ast (hx : p.tables.exec = Jvm.exec) (hb : c.code = cc) (hK : GW D k s) (hP : va_P D vwCl ws H) (hD : va_D A ws) (hS : va_S A H0 H locs) (q0 : Nat) {a n : Nat} {g : Nat → Int} (ha : ws[q0]? = some (a, .inl (k.1, n, .inl (zF g)))) {i x : Int} (E : Nat) (he : i = (E : Int)) (hE : E < n) (hn : n < 2147483648) (hdg : decode cc pc = .ok (.iastore, 1)) (kk : ∀ (H1 : Heap) (locs1 : List Loc), va_P D vwCl (ws.set q0 (a, .inl (k.1, n, .inl (zF (upZ g E x))))) H1 → va_D A (ws.set q0 (a, .inl (k.1, n, .inl (zF (upZ g E x))))) → va_S A H0 H1 locs1 → W p l e R s m args below meth c H1 locs1 cells slots Q (F0 m (pc + 1) ls rest)) : W p l e R s m args below meth c H locs cells slots Q (F0 m pc ls (.int (zI x) :: .int (zI i) :: .ref a :: rest)) := by
  subst he
  refine va_iast hx hb hK.1 hP hD hS q0 0 ha rfl (zI_vin hE hn) hdg (fun H1 locs1 h1 h2 h3 => ?_)
  rw [zI_cl (by omega), zF_upd] at h1 h2
  exact kk H1 locs1 h1 h2 h3
theorem z_zald (hx : p.tables.exec = Jvm.exec) (hb : c.code = cc) (hK : GW D k s) (hP : va_P D vwCl ws H) (q0 : Nat) {a n : Nat} {g : Nat → Int} (ha : ws[q0]? = some (a, .inl (k.2.1, n, .inl (zF g)))) {i : Int} (E : Nat) (he : i = (E : Int)) (hE : E < n) (hn : n < 2147483648) (hdg : decode cc pc = .ok (.baload, 1)) (kk : W p l e R s m args below meth c H locs cells slots Q (F0 m (pc + 1) ls (.int (zI (g E)) :: rest))) : W p l e R s m args below meth c H locs cells slots Q (F0 m pc ls (.int (zI i) :: .ref a :: rest)) := by
  subst he
  refine va_zald hx hb hK.1 hP q0 1 ha rfl (zI_vin hE hn) hdg ?_
  rw [zI_cl (by omega)]
  exact kk
theorem z_zast (hx : p.tables.exec = Jvm.exec) (hb : c.code = cc) (hK : GW D k s) (hP : va_P D vwCl ws H) (hD : va_D A ws) (hS : va_S A H0 H locs) (q0 : Nat) {a n : Nat} {g : Nat → Int} (ha : ws[q0]? = some (a, .inl (k.2.1, n, .inl (zF g)))) {i : Int} (E : Nat) (he : i = (E : Int)) (hE : E < n) (hn : n < 2147483648) (hdg : decode cc pc = .ok (.bastore, 1)) (kk : ∀ (H1 : Heap) (locs1 : List Loc), va_P D vwCl (ws.set q0 (a, .inl (k.2.1, n, .inl (zF (upZ g E 1))))) H1 → va_D A (ws.set q0 (a, .inl (k.2.1, n, .inl (zF (upZ g E 1))))) → va_S A H0 H1 locs1 → W p l e R s m args below meth c H1 locs1 cells slots Q (F0 m (pc + 1) ls rest)) : W p l e R s m args below meth c H locs cells slots Q (F0 m pc ls (.int (zI 1) :: .int (zI i) :: .ref a :: rest)) := by
  subst he
  refine va_zast hx hb hK.1 hP hD hS q0 1 ha rfl (zI_vin hE hn) hdg (fun H1 locs1 h1 h2 h3 => ?_)
  rw [zI_cl (by omega), show vp_nar .boolean (zI 1) = zI 1 from by decide +kernel, zF_upd] at h1 h2
  exact kk H1 locs1 h1 h2 h3
theorem z_lald (hx : p.tables.exec = Jvm.exec) (hb : c.code = cc) (hK : GW D k s) (hP : va_P D vwCl ws H) (q0 : Nat) {a n : Nat} {g : Nat → Int} (ha : ws[q0]? = some (a, .inl (k.2.2.1, n, .inr (.inl (zG g))))) {i : Int} (E : Nat) (he : i = (E : Int)) (hE : E < n) (hn : n < 2147483648) (hdg : decode cc pc = .ok (.laload, 1)) (kk : W p l e R s m args below meth c H locs cells slots Q (F0 m (pc + 1) ls (.long (zL (g E)) :: rest))) : W p l e R s m args below meth c H locs cells slots Q (F0 m pc ls (.int (zI i) :: .ref a :: rest)) := by
  subst he
  refine va_lald hx hb hK.1 hP q0 2 ha rfl (zI_vin hE hn) hdg ?_
  rw [zI_cl (by omega)]
  exact kk
theorem z_last (hx : p.tables.exec = Jvm.exec) (hb : c.code = cc) (hK : GW D k s) (hP : va_P D vwCl ws H) (hD : va_D A ws) (hS : va_S A H0 H locs) (q0 : Nat) {a n : Nat} {g : Nat → Int} (ha : ws[q0]? = some (a, .inl (k.2.2.1, n, .inr (.inl (zG g))))) {i x : Int} (E : Nat) (he : i = (E : Int)) (hE : E < n) (hn : n < 2147483648) (hdg : decode cc pc = .ok (.lastore, 1)) (kk : ∀ (H1 : Heap) (locs1 : List Loc), va_P D vwCl (ws.set q0 (a, .inl (k.2.2.1, n, .inr (.inl (zG (upZ g E x)))))) H1 → va_D A (ws.set q0 (a, .inl (k.2.2.1, n, .inr (.inl (zG (upZ g E x)))))) → va_S A H0 H1 locs1 → W p l e R s m args below meth c H1 locs1 cells slots Q (F0 m (pc + 1) ls rest)) : W p l e R s m args below meth c H locs cells slots Q (F0 m pc ls (.long (zL x) :: .int (zI i) :: .ref a :: rest)) := by
  subst he
  refine va_last hx hb hK.1 hP hD hS q0 2 ha rfl (zI_vin hE hn) hdg (fun H1 locs1 h1 h2 h3 => ?_)
  rw [zI_cl (by omega), zG_upd] at h1 h2
  exact kk H1 locs1 h1 h2 h3
end ZI
