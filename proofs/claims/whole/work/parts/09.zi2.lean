theorem zc {a b : Int} (h : a = b) : zI a = zI b := congrArg zI h
theorem zcl {a b : Int} (h : a = b) : zL a = zL b := congrArg zL h
theorem zI_l {a : Int} (h : -2147483648 ≤ a ∧ a < 2147483648) : (zI a).toInt64 = zL a := by
  apply Int64.toInt_inj.mp
  rw [Int32.toInt_toInt64, zI_toInt h, zL_toInt (by omega)]
theorem zL_i (a : Int) : (zL a).toInt32 = zI a := Int64.toInt32_ofInt
theorem lv_c {ls : Array Slot} {n i : Nat} {x y : Int} {l1 l2 : List (Nat × Value)} (h : lv_has ls n (l1 ++ (i, .int (zI x)) :: l2)) (e : x = y) : lv_has ls n (l1 ++ (i, .int (zI y)) :: l2) := e ▸ h
def b2i (b : Bool) : Int := if b then 1 else 0
theorem b2i_t : b2i true = 1 := rfl
theorem b2i_f : b2i false = 0 := rfl
theorem b2i_01 (b : Bool) : 0 ≤ b2i b ∧ b2i b ≤ 1 := by cases b <;> decide
theorem nbb (b : Bool) : narrow .boolean (.int (zI (b2i b))) = .int (zI (b2i b)) := by cases b <;> decide +kernel
theorem nb1 : narrow .boolean (.int (zI 1)) = .int (zI 1) := by decide +kernel
theorem nb0 : narrow .boolean (.int (zI 0)) = .int (zI 0) := by decide +kernel
theorem zI_max {a b : Int} (ha : -2147483648 ≤ a ∧ a < 2147483648) (hb : -2147483648 ≤ b ∧ b < 2147483648) : (if zI a < zI b then zI b else zI a) = zI (max a b) := by
  by_cases h : a < b
  · rw [if_pos ((zI_lt ha hb).mpr h)]; congr 1; omega
  · rw [if_neg (fun q => h ((zI_lt ha hb).mp q))]; congr 1; omega
theorem zI_min {a b : Int} (ha : -2147483648 ≤ a ∧ a < 2147483648) (hb : -2147483648 ≤ b ∧ b < 2147483648) : (if zI b < zI a then zI b else zI a) = zI (min a b) := by
  by_cases h : b < a
  · rw [if_pos ((zI_lt hb ha).mpr h)]; congr 1; omega
  · rw [if_neg (fun q => h ((zI_lt hb ha).mp q))]; congr 1; omega
theorem sw_cases {x lo hi : Int} : (x < lo ∨ hi < x) ∨ (lo ≤ x ∧ x ≤ hi) := by omega
def cpZ (f g : Nat → Int) (sp dp n : Nat) : Nat → Int := fun k => if dp ≤ k ∧ k < dp + n then f (sp + (k - dp)) else g k
theorem cpZ_in {f g : Nat → Int} {sp dp n k : Nat} (h1 : dp ≤ k) (h2 : k < dp + n) : cpZ f g sp dp n k = f (sp + (k - dp)) := if_pos ⟨h1, h2⟩
theorem cpZ_out {f g : Nat → Int} {sp dp n k : Nat} (h : k < dp ∨ dp + n ≤ k) : cpZ f g sp dp n k = g k := if_neg (fun q => by omega)
theorem zF_cpy (f g : Nat → Int) (sp dp n : Nat) : va_cpy (zF f) (zF g) sp dp n = zF (cpZ f g sp dp n) := by
  funext j
  unfold va_cpy zF cpZ
  split <;> rfl
section ZJ
variable {p : Program} {l : Launch} {e : Env} {R : Room} {s : State} {m : MethodId} {args : Array Value} {below : List Frame} {meth : Method} {c : Code} {H H0 : Heap} {locs : List Loc} {cells slots : Nat} {Q : State → Prop}
variable {cc : ByteArray} {pc : Nat} {ls : Array Slot} {rest : List Value} {D : va_G} {k : Kt} {ws : va_W} {A : Nat → Prop}
theorem z_if_eqb (hx : p.tables.exec = Jvm.exec) (hb : c.code = cc) {B : Bool} {off : Int} {tgt : Nat} (hdg : decode cc pc = .ok (.ifCond .eq off, 3)) (ht : (pc : Int) + off = (tgt : Int)) (kt : B = false → W p l e R s m args below meth c H locs cells slots Q (F0 m tgt ls rest)) (kf : B = true → W p l e R s m args below meth c H locs cells slots Q (F0 m (pc + 3) ls rest)) : W p l e R s m args below meth c H locs cells slots Q (F0 m pc ls (.int (zI (b2i B)) :: rest)) := z_if_eq hx hb hdg ht (by have := b2i_01 B; omega) (fun h => kt (by cases B; rfl; exact absurd h (by decide))) (fun h => kf (by cases B; exact absurd rfl h; rfl))
theorem z_if_neb (hx : p.tables.exec = Jvm.exec) (hb : c.code = cc) {B : Bool} {off : Int} {tgt : Nat} (hdg : decode cc pc = .ok (.ifCond .ne off, 3)) (ht : (pc : Int) + off = (tgt : Int)) (kt : B = true → W p l e R s m args below meth c H locs cells slots Q (F0 m tgt ls rest)) (kf : B = false → W p l e R s m args below meth c H locs cells slots Q (F0 m (pc + 3) ls rest)) : W p l e R s m args below meth c H locs cells slots Q (F0 m pc ls (.int (zI (b2i B)) :: rest)) := z_if_ne hx hb hdg ht (by have := b2i_01 B; omega) (fun h => kt (by cases B; exact absurd rfl h; rfl)) (fun h => kf (by cases B; rfl; exact absurd h (by decide)))
theorem z_copy (hx : p.tables.exec = Jvm.exec) (hb : c.code = cc) (hml : c.maxLocals = ls.size) {own : String} {index : Nat} (hown : s.vm.findClass own = some m.cls) (hlink : (Cond.methodLink own index arraycopyName).before args s = true) (hnat : (Cond.native arraycopyName).before args s = true) (hstat : (Cond.static arraycopyName).before args s = true) (hini : (Cond.initialized "java/lang/System").before args s = true)
    (hK : GW D k s) (hP : va_P D vwCl ws H) (hD : va_D A ws) (hS : va_S A H0 H locs) (q0 q1 : Nat) {a0 a n0 n1 : Nat} {f g : Nat → Int} (ha0 : ws[q0]? = some (a0, .inl (k.1, n0, .inl (zF f)))) (ha1 : ws[q1]? = some (a, .inl (k.1, n1, .inl (zF g)))) {x y z : Int} (SP DP N : Nat) (h1 : x = (SP : Int)) (h2 : y = (DP : Int)) (h3 : z = (N : Int)) (h4 : SP + N ≤ n0) (h5 : DP + N ≤ n1) (hn0 : n0 < 2147483648) (hn1 : n1 < 2147483648)
    (hframes : 1 ≤ R.frames) (hlocals : (rest.map fun v => v.category).sum + (nativeFrameWords "java/lang/System" "arraycopy" 5 + 11) ≤ R.locals) (hdg : decode cc pc = .ok (.invokestatic index, 3))
    (kk : ∀ (H1 : Heap) (locs1 : List Loc), va_P D vwCl (ws.set q1 (a, .inl (k.1, n1, .inl (zF (cpZ f g SP DP N))))) H1 → va_D A (ws.set q1 (a, .inl (k.1, n1, .inl (zF (cpZ f g SP DP N))))) → va_S A H0 H1 locs1 → W p l e R s m args below meth c H1 locs1 cells slots Q (F0 m (pc + 3) ls rest)) : W p l e R s m args below meth c H locs cells slots Q (F0 m pc ls (.int (zI z) :: .int (zI y) :: .ref a :: .int (zI x) :: .ref a0 :: rest)) := by
  subst h1; subst h2; subst h3
  have nn : ∀ n : Nat, n < 2147483648 → ¬ zI (n : Int) < 0 := fun n hn q => by rw [zI_0, zI_lt (by omega) (by omega)] at q; omega
  refine va_copyi hx hb hml hown hlink hnat hstat hini hK.1 hP hD hS q0 q1 0 0 ha0 ha1 rfl rfl rfl (nn _ (by omega)) (nn _ (by omega)) (nn _ (by omega)) (by rw [zI_cl (by omega), zI_cl (by omega)]; exact h4) (by rw [zI_cl (by omega), zI_cl (by omega)]; exact h5) (fun _ _ => rfl) hframes hlocals hdg (fun H1 locs1 k1 k2 k3 => ?_)
  rw [zI_cl (by omega), zI_cl (by omega), zI_cl (by omega), zF_cpy] at k1 k2
  exact kk H1 locs1 k1 k2 k3
end ZJ
