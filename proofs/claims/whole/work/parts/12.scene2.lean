theorem dots_ret {f : St} {t L X Y : Nat} (hon : onL f t L = true) (hX : X = rowN f t L) (hY : Y = (th f t 0 + 8).toNat) : zI ((X * 2 ^ 32 / 2 ^ Y : Nat) : Int) = zI ((dotsN f t L : Nat) : Int) := by
  subst hX; subst hY
  rw [zI_m32, dotsN, if_pos hon]
theorem row_00 {f : St} {t L : Nat} (h1 : (th f t 3).toNat &&& 1 = 0) (h2 : (th f t 3).toNat &&& 2 = 0) : (f (4 + 8 * (th f t 2).toNat + ((L : Int) - th f t 1).toNat)).toNat = rowN f t L := by
  simp only [rowN]
  rw [if_pos h1, if_pos h2]
theorem row_01 {f : St} {t L : Nat} (h1 : (th f t 3).toNat &&& 1 = 0) (h2 : ¬ (th f t 3).toNat &&& 2 = 0) : (f (4 + 8 * (th f t 2).toNat + (7 - ((L : Int) - th f t 1).toNat))).toNat = rowN f t L := by
  simp only [rowN]
  rw [if_pos h1, if_neg h2]
theorem row_10 {f : St} {t L : Nat} (h1 : ¬ (th f t 3).toNat &&& 1 = 0) (h2 : (th f t 3).toNat &&& 2 = 0) : mirL (f (4 + 8 * (th f t 2).toNat + ((L : Int) - th f t 1).toNat)).toNat 8 = rowN f t L := by
  simp only [rowN]
  rw [if_neg h1, if_pos h2]
theorem row_11 {f : St} {t L : Nat} (h1 : ¬ (th f t 3).toNat &&& 1 = 0) (h2 : ¬ (th f t 3).toNat &&& 2 = 0) : mirL (f (4 + 8 * (th f t 2).toNat + (7 - ((L : Int) - th f t 1).toNat))).toNat 8 = rowN f t L := by
  simp only [rowN]
  rw [if_neg h1, if_neg h2]
theorem dotsN_lt (f : St) (t L : Nat) : dotsN f t L < 4294967296 := by
  unfold dotsN
  split
  · exact Nat.mod_lt _ (by decide)
  · decide
def fillZ (f : Nat → Int) (n : Nat) (v : Int) : Nat → Int := fun j => if j < n then v else f j
theorem fillZ_0 (f : Nat → Int) (v : Int) : fillZ f 0 v = f := by funext j; unfold fillZ; rw [if_neg (by omega)]
theorem fillZ_s (f : Nat → Int) (n : Nat) (v : Int) : upZ (fillZ f n v) n v = fillZ f (n + 1) v := by
  funext j
  unfold upZ fillZ
  by_cases h : j = n
  · subst h; rw [if_pos rfl, if_pos (by omega)]
  · rw [if_neg h]
    by_cases h2 : j < n
    · rw [if_pos h2, if_pos (by omega)]
    · rw [if_neg h2, if_neg (by omega)]
theorem fillZ_in {f : Nat → Int} {n j : Nat} {v : Int} (h : j < n) : fillZ f n v j = v := if_pos h
set_option maxHeartbeats 4000000 in
set_option maxRecDepth 100000 in
theorem c_bitCount (l : Launch) (D : va_G) (k : Kt) (n1 : Nat) (hn1 : n1 < 4294967296) : RO l D k yJ6_bitCount_0f7a4 wsJ6_bitCount_0f7a4 0 0 [.int (zI ((n1 : Nat) : Int))] [] (fun r => r = zI ((pc32 n1 : Nat) : Int)) := by
  refine va_MetF (cc := cJ6_bitCount_0f7a4) (maxL := 1) (ret := (some .int)) (by decide +kernel) rfl ?_
  intro p e s m args below meth c s₁ Bd hml hv
  obtain ⟨rfl, hP, hK⟩ := hv
  have hx := Bd.exec
  have hb := Bd.bytes
  have hr := Bd.returns
  have hts := atoms_spec (ws := wsJ6_bitCount_0f7a4) Bd.pre
  have hown : s.vm.findClass RJ6 = some m.cls := findClass_of_methodNamed Bd.named
  have hlocks := Bd.notSynchronized
  have hSf : CallFix p m c cJ6_bitCount_0f7a4 1 s ([.int (zI ((n1 : Nat) : Int))] : List Value).toArray wsJ6_bitCount_0f7a4 RJ6 := ⟨hx, hb, hml, hown, hts⟩
  have hl := lv_entry ([.int (zI ((n1 : Nat) : Int))]) (n := 1) (Nat.le_of_ble_eq_true rfl)
  rw [lg_entry_eq]
  generalize (lg_sl ([.int (zI ((n1 : Nat) : Int))]) ++ List.replicate (1 - (lg_sl ([.int (zI ((n1 : Nat) : Int))])).length) Slot.unset).toArray = ls at hl ⊢
  have hl : lv_has ls 1 [(0, .int (zI ((n1 : Nat) : Int)))] := hl
  obtain ⟨q1, q2, q3, q4, q5⟩ := bc_ok hn1
  have q6 : bc4 n1 < 300000000 := by unfold bc4; rw [Nat.shiftRight_eq_div_pow]; omega
  refine lv_iload_n hx hb dJ6_bitCount_0f7a4_0 rfl (lv_at hl 0 rfl) ?_
  refine lv_iload_n hx hb dJ6_bitCount_0f7a4_1 rfl (lv_at hl 0 rfl) ?_
  refine z_iconst hx hb dJ6_bitCount_0f7a4_2 ?_
  refine z_iushr hx hb dJ6_bitCount_0f7a4_3 (n1) (1) (by omega) (by omega) (by omega) (by omega) ?_
  refine lv_ldcw hx hb hown (hts (.constant RJ6 265 (1431655765)) (by decide +kernel)) dJ6_bitCount_0f7a4_4 ?_
  refine te (show (1431655765 : Int32) = zI (1431655765) from by decide +kernel) ?_
  refine z_iand hx hb dJ6_bitCount_0f7a4_7 (n1 >>> 1) (1431655765) (by omega) (by omega) ?_
  refine z_isub hx hb dJ6_bitCount_0f7a4_8 ?_
  refine te (zc (show ((n1 : Nat) : Int) - (((n1 >>> 1) &&& 1431655765 : Nat) : Int) = ((bc1 n1 : Nat) : Int) from by unfold bc1; omega)) ?_
  refine lv_istore_n (lv' := [(0, .int (zI ((bc1 n1 : Nat) : Int)))]) hx hb dJ6_bitCount_0f7a4_9 rfl hl (by decide) rfl (fun ls hl => ?_)
  refine lv_iload_n hx hb dJ6_bitCount_0f7a4_10 rfl (lv_at hl 0 rfl) ?_
  refine lv_ldcw hx hb hown (hts (.constant RJ6 266 (858993459)) (by decide +kernel)) dJ6_bitCount_0f7a4_11 ?_
  refine te (show (858993459 : Int32) = zI (858993459) from by decide +kernel) ?_
  refine z_iand hx hb dJ6_bitCount_0f7a4_14 (bc1 n1) (858993459) (by omega) (by omega) ?_
  refine lv_iload_n hx hb dJ6_bitCount_0f7a4_15 rfl (lv_at hl 0 rfl) ?_
  refine z_iconst hx hb dJ6_bitCount_0f7a4_16 ?_
  refine z_iushr hx hb dJ6_bitCount_0f7a4_17 (bc1 n1) (2) (by omega) (by omega) (by omega) (by omega) ?_
  refine lv_ldcw hx hb hown (hts (.constant RJ6 266 (858993459)) (by decide +kernel)) dJ6_bitCount_0f7a4_18 ?_
  refine te (show (858993459 : Int32) = zI (858993459) from by decide +kernel) ?_
  refine z_iand hx hb dJ6_bitCount_0f7a4_21 ((bc1 n1) >>> 2) (858993459) (by omega) (by omega) ?_
  refine z_iadd hx hb dJ6_bitCount_0f7a4_22 ?_
  refine te (zc (show (((bc1 n1) &&& 858993459 : Nat) : Int) + ((((bc1 n1) >>> 2) &&& 858993459 : Nat) : Int) = ((bc2 n1 : Nat) : Int) from by unfold bc2; omega)) ?_
  refine lv_istore_n (lv' := [(0, .int (zI ((bc2 n1 : Nat) : Int)))]) hx hb dJ6_bitCount_0f7a4_23 rfl hl (by decide) rfl (fun ls hl => ?_)
  refine lv_iload_n hx hb dJ6_bitCount_0f7a4_24 rfl (lv_at hl 0 rfl) ?_
  refine lv_iload_n hx hb dJ6_bitCount_0f7a4_25 rfl (lv_at hl 0 rfl) ?_
  refine z_iconst hx hb dJ6_bitCount_0f7a4_26 ?_
  refine z_iushr hx hb dJ6_bitCount_0f7a4_27 (bc2 n1) (4) (by omega) (by omega) (by omega) (by omega) ?_
  refine z_iadd hx hb dJ6_bitCount_0f7a4_28 ?_
  refine te (zc (show ((bc2 n1 : Nat) : Int) + (((bc2 n1) >>> 4 : Nat) : Int) = ((bc2 n1 + bc2 n1 >>> 4 : Nat) : Int) from by omega)) ?_
  refine lv_ldcw hx hb hown (hts (.constant RJ6 267 (252645135)) (by decide +kernel)) dJ6_bitCount_0f7a4_29 ?_
  refine te (show (252645135 : Int32) = zI (252645135) from by decide +kernel) ?_
  refine z_iand hx hb dJ6_bitCount_0f7a4_32 (bc2 n1 + bc2 n1 >>> 4) (252645135) (by omega) (by omega) ?_
  refine te (zc (show (((bc2 n1 + bc2 n1 >>> 4) &&& 252645135 : Nat) : Int) = ((bc3 n1 : Nat) : Int) from rfl)) ?_
  refine lv_istore_n (lv' := [(0, .int (zI ((bc3 n1 : Nat) : Int)))]) hx hb dJ6_bitCount_0f7a4_33 rfl hl (by decide) rfl (fun ls hl => ?_)
  refine lv_iload_n hx hb dJ6_bitCount_0f7a4_34 rfl (lv_at hl 0 rfl) ?_
  refine lv_iload_n hx hb dJ6_bitCount_0f7a4_35 rfl (lv_at hl 0 rfl) ?_
  refine z_bipush hx hb dJ6_bitCount_0f7a4_36 (by decide +kernel) ?_
  refine z_iushr hx hb dJ6_bitCount_0f7a4_38 (bc3 n1) (8) (by omega) (by omega) (by omega) (by omega) ?_
  refine z_iadd hx hb dJ6_bitCount_0f7a4_39 ?_
  refine te (zc (show ((bc3 n1 : Nat) : Int) + (((bc3 n1) >>> 8 : Nat) : Int) = ((bc4 n1 : Nat) : Int) from by unfold bc4; omega)) ?_
  refine lv_istore_n (lv' := [(0, .int (zI ((bc4 n1 : Nat) : Int)))]) hx hb dJ6_bitCount_0f7a4_40 rfl hl (by decide) rfl (fun ls hl => ?_)
  refine lv_iload_n hx hb dJ6_bitCount_0f7a4_41 rfl (lv_at hl 0 rfl) ?_
  refine lv_iload_n hx hb dJ6_bitCount_0f7a4_42 rfl (lv_at hl 0 rfl) ?_
  refine z_bipush hx hb dJ6_bitCount_0f7a4_43 (by decide +kernel) ?_
  refine z_iushr hx hb dJ6_bitCount_0f7a4_45 (bc4 n1) (16) (by omega) (by omega) (by omega) (by omega) ?_
  refine z_iadd hx hb dJ6_bitCount_0f7a4_46 ?_
  refine te (zc (show ((bc4 n1 : Nat) : Int) + (((bc4 n1) >>> 16 : Nat) : Int) = ((bc5 n1 : Nat) : Int) from by unfold bc5; omega)) ?_
  refine lv_istore_n (lv' := [(0, .int (zI ((bc5 n1 : Nat) : Int)))]) hx hb dJ6_bitCount_0f7a4_47 rfl hl (by decide) rfl (fun ls hl => ?_)
  refine lv_iload_n hx hb dJ6_bitCount_0f7a4_48 rfl (lv_at hl 0 rfl) ?_
  refine z_bipush hx hb dJ6_bitCount_0f7a4_49 (by decide +kernel) ?_
  refine z_iand hx hb dJ6_bitCount_0f7a4_51 (bc5 n1) (63) (by omega) (by omega) ?_
  refine te (zc (show (((bc5 n1) &&& 63 : Nat) : Int) = ((pc32 n1 : Nat) : Int) from by rw [q5])) ?_
  exact W.iret hx hb hr (fun t ht hW => ⟨_, rfl, rfl, ht⟩) (fun q hq => by cases hq) dJ6_bitCount_0f7a4_52
set_option maxHeartbeats 4000000 in
set_option maxRecDepth 100000 in
theorem c_fill (l : Launch) (D : va_G) (k : Kt) (a0 : Nat) (n0 : Nat) (f : Nat → Int) (v1 : Int) (hn0 : n0 < 1000) : MU l D k yJ7_fill_53178 wsJ7_fill_53178 0 0 [.ref a0, .int (zI v1)] [(a0, .inl (k.1, n0, .inl (zF f)))] (fun (u : Unit) => True) (fun u => [(a0, .inl (k.1, n0, .inl (zF (fillZ f n0 v1))))]) := by
  refine va_MetF (cc := cJ7_fill_53178) (maxL := 4) (ret := none) (by decide +kernel) rfl ?_
  intro p e s m args below meth c s₁ Bd hml hv
  obtain ⟨rfl, hP, hK, hD0⟩ := hv
  have hx := Bd.exec
  have hb := Bd.bytes
  have hr := Bd.returns
  have hts := atoms_spec (ws := wsJ7_fill_53178) Bd.pre
  have hown : s.vm.findClass RJ7 = some m.cls := findClass_of_methodNamed Bd.named
  have hlocks := Bd.notSynchronized
  have hSf : CallFix p m c cJ7_fill_53178 4 s ([.ref a0, .int (zI v1)] : List Value).toArray wsJ7_fill_53178 RJ7 := ⟨hx, hb, hml, hown, hts⟩
  have hD := fA_D hD0
  have hS : va_S (fA [(a0, .inl (k.1, n0, .inl (zF f)))]) s.heap s.heap [] := va_S.rf
  generalize hAe : fA [(a0, .inl (k.1, n0, .inl (zF f)))] = A at hD hS ⊢
  have hP : va_P D vwCl [(a0, .inl (k.1, n0, .inl (zF f)))] s.heap := hP
  have hl := lv_entry ([.ref a0, .int (zI v1)]) (n := 4) (Nat.le_of_ble_eq_true rfl)
  rw [lg_entry_eq]
  generalize (lg_sl ([.ref a0, .int (zI v1)]) ++ List.replicate (4 - (lg_sl ([.ref a0, .int (zI v1)])).length) Slot.unset).toArray = ls at hl ⊢
  have hl : lv_has ls 4 [(0, .ref a0), (1, .int (zI v1))] := hl
  refine z_iconst hx hb dJ7_fill_53178_0 ?_
  refine lv_istore_n (lv' := [(2, .int (zI 0)), (0, .ref a0), (1, .int (zI v1))]) hx hb dJ7_fill_53178_1 rfl hl (by decide) rfl (fun ls hl => ?_)
  refine lv_aload_n hx hb dJ7_fill_53178_2 rfl (lv_at hl 1 rfl) ?_
  refine va_alen (v := zI ((n0 : Nat) : Int)) hx hb hK.1 hP 0 0 rfl rfl (zI_nat _).symm dJ7_fill_53178_3 ?_
  refine lv_istore_n (lv' := [(3, .int (zI ((n0 : Nat) : Int))), (2, .int (zI 0)), (0, .ref a0), (1, .int (zI v1))]) hx hb dJ7_fill_53178_4 rfl hl (by decide) rfl (fun ls hl => ?_)
  have L5 : ∀ (NN5 : Nat), ∀ (j : Nat), (j ≤ n0) → n0 - j < NN5 → ∀ (H : Heap) (locs : List Loc), va_P D vwCl [(a0, .inl (k.1, n0, .inl (zF (fillZ f j v1))))] H → va_D A [(a0, .inl (k.1, n0, .inl (zF (fillZ f j v1))))] → va_S A s.heap H locs → ∀ (ls : Array Slot), lv_has ls 4 [(0, .ref a0), (1, .int (zI v1)), (2, .int (zI ((j : Nat) : Int))), (3, .int (zI ((n0 : Nat) : Int)))] → W p l e (headSpec wsJ7_fill_53178 { frames := 0, cells := 0, slots := 0, locals := 0 }).room s m ([.ref a0, .int (zI v1)] : List Value).toArray below meth c H locs 0 0 (MQ below (va_Qv (fun (u : Unit) => True) (fun (u : Unit) t => va_P D vwCl [(a0, .inl (k.1, n0, .inl (zF (fillZ f n0 v1))))] t.heap) A) ([.ref a0, .int (zI v1)] : List Value).toArray s 0 0 A) (F0 m 5 ls []) := by
    intro NN5
    induction NN5 with
    | zero => intro j _ hN; exact absurd hN (Nat.not_lt_zero _)
    | succ NN5 ih5 =>
      intro j hj hN H locs hP hD hS ls hl
      refine lv_iload_n hx hb dJ7_fill_53178_5 rfl (lv_at hl 2 rfl) ?_
      refine lv_iload_n hx hb dJ7_fill_53178_6 rfl (lv_at hl 3 rfl) ?_
      refine z_icmp_ge (tgt := 20) hx hb dJ7_fill_53178_7 (by decide) (by omega) (by omega) (fun c_7 => ?_) (fun c_7 => ?_)
      · obtain rfl : j = n0 := by omega
        exact W.vret hx hb hr (fun t ht hW => ⟨⟨(), rfl, trivial, by show va_P D vwCl _ _; rw [ht]; exact hP⟩, hS.F ht⟩) hS.2.2 dJ7_fill_53178_20
      · refine lv_aload_n hx hb dJ7_fill_53178_10 rfl (lv_at hl 0 rfl) ?_
        refine lv_iload_n hx hb dJ7_fill_53178_11 rfl (lv_at hl 2 rfl) ?_
        refine lv_iload_n hx hb dJ7_fill_53178_12 rfl (lv_at hl 1 rfl) ?_
        refine z_ast hx hb hK hP hD hS 0 rfl (j) (by omega) (by omega) (by omega) dJ7_fill_53178_13 (fun H locs hP hD hS => ?_)
        have hP : va_P D vwCl [(a0, .inl (k.1, n0, .inl (zF (upZ (fillZ f j v1) j v1))))] H := hP
        have hD : va_D A [(a0, .inl (k.1, n0, .inl (zF (upZ (fillZ f j v1) j v1))))] := hD
        refine lv_iinc (v := zI (((j : Nat) : Int) + 1)) (lv' := [(2, .int (zI (((j : Nat) : Int) + 1))), (0, .ref a0), (1, .int (zI v1)), (3, .int (zI ((n0 : Nat) : Int)))]) hx hb dJ7_fill_53178_14 hl (k := 2) rfl (zI_add _ _) (by decide) rfl (fun ls hl => ?_)
        refine lv_goto (tgt := 5) hx hb dJ7_fill_53178_17 (by decide) ?_
        have hl : lv_has ls 4 [(2, .int (zI (((j + 1) : Nat) : Int))), (0, .ref a0), (1, .int (zI v1)), (3, .int (zI ((n0 : Nat) : Int)))] := lv_c (l1 := []) (l2 := [(0, .ref a0), (1, .int (zI v1)), (3, .int (zI ((n0 : Nat) : Int)))]) hl (show ((j : Nat) : Int) + 1 = (((j + 1) : Nat) : Int) from by omega)
        exact ih5 (j + 1) (by omega) (by omega) _ _ (by rw [← fillZ_s]; exact hP) (by rw [← fillZ_s]; exact hD) hS ls (lv_sub hl [1, 2, 0, 3] rfl)
  have hl : lv_has ls 4 [(3, .int (zI ((n0 : Nat) : Int))), (2, .int (zI ((0 : Nat) : Int))), (0, .ref a0), (1, .int (zI v1))] := lv_c (l1 := [(3, .int (zI ((n0 : Nat) : Int)))]) (l2 := [(0, .ref a0), (1, .int (zI v1))]) hl (show 0 = ((0 : Nat) : Int) from rfl)
  exact L5 _ 0 (Nat.zero_le _) (Nat.lt_succ_self _) _ _ (by rw [fillZ_0]; exact hP) (by rw [fillZ_0]; exact hD) hS ls (lv_sub hl [2, 3, 1, 0] rfl)
set_option maxHeartbeats 4000000 in
set_option maxRecDepth 100000 in
theorem c_mirrored (l : Launch) (D : va_G) (k : Kt) (b1 : Nat) (hb1 : b1 < 256) : RO l D k yX7_mirrored wsX7_mirrored 0 0 [.int (zI ((b1 : Nat) : Int))] [] (fun r => r = zI ((mirL b1 8 : Nat) : Int)) := by
  refine Met.ofW (cc := cX7_mirrored) (maxL := 3) (ret := (some .int)) (by decide) rfl ?_
  intro p e s m args below meth c s₁ Bd hml hv
  obtain ⟨rfl, hP, hK⟩ := hv
  have hx := Bd.exec
  have hb := Bd.bytes
  have hr := Bd.returns
  have hts := atoms_spec (ws := wsX7_mirrored) Bd.pre
  have hown : s.vm.findClass RX7 = some m.cls := findClass_of_methodNamed Bd.named
  have hlocks := Bd.notSynchronized
  have hSf : CallFix p m c cX7_mirrored 3 s ([.int (zI ((b1 : Nat) : Int))] : List Value).toArray wsX7_mirrored RX7 := ⟨hx, hb, hml, hown, hts⟩
  have hl := lv_entry ([.int (zI ((b1 : Nat) : Int))]) (n := 3) (Nat.le_of_ble_eq_true rfl)
  rw [lg_entry_eq]
  generalize (lg_sl ([.int (zI ((b1 : Nat) : Int))]) ++ List.replicate (3 - (lg_sl ([.int (zI ((b1 : Nat) : Int))])).length) Slot.unset).toArray = ls at hl ⊢
  have hl : lv_has ls 3 [(0, .int (zI ((b1 : Nat) : Int)))] := hl
  refine z_iconst hx hb dX7_mirrored_0 ?_
  refine lv_istore_n (lv' := [(1, .int (zI 0)), (0, .int (zI ((b1 : Nat) : Int)))]) hx hb dX7_mirrored_1 rfl hl (by decide) rfl (fun ls hl => ?_)
  refine z_iconst hx hb dX7_mirrored_2 ?_
  refine lv_istore_n (lv' := [(2, .int (zI 0)), (1, .int (zI 0)), (0, .int (zI ((b1 : Nat) : Int)))]) hx hb dX7_mirrored_3 rfl hl (by decide) rfl (fun ls hl => ?_)
  have L4 : ∀ (NN4 : Nat), ∀ (j : Nat), (j ≤ 8) → 8 - j < NN4 → ∀ (ls : Array Slot), lv_has ls 3 [(0, .int (zI ((b1 : Nat) : Int))), (1, .int (zI ((mirL b1 j : Nat) : Int))), (2, .int (zI ((j : Nat) : Int)))] → W p l e (headSpec wsX7_mirrored { frames := 0, cells := 0, slots := 0, locals := 0 }).room s m ([.int (zI ((b1 : Nat) : Int))] : List Value).toArray below meth c s.heap [] 0 0 (MQ below (vp_Si (fun r => r = zI ((mirL b1 8 : Nat) : Int))) ([.int (zI ((b1 : Nat) : Int))] : List Value).toArray s 0 0 (fun _ => False)) (F0 m 4 ls []) := by
    intro NN4
    induction NN4 with
    | zero => intro j _ hN; exact absurd hN (Nat.not_lt_zero _)
    | succ NN4 ih4 =>
      intro j hj hN ls hl
      refine lv_iload_n hx hb dX7_mirrored_4 rfl (lv_at hl 2 rfl) ?_
      refine z_bipush hx hb dX7_mirrored_5 (by decide +kernel) ?_
      refine z_icmp_ge (tgt := 26) hx hb dX7_mirrored_7 (by decide) (by omega) (by omega) (fun c_7 => ?_) (fun c_7 => ?_)
      · obtain rfl : j = 8 := by omega
        refine lv_iload_n hx hb dX7_mirrored_26 rfl (lv_at hl 1 rfl) ?_
        exact W.iret hx hb hr (fun t ht hW => ⟨_, rfl, rfl, ht⟩) (fun q hq => by cases hq) dX7_mirrored_27
      · refine lv_iload_n hx hb dX7_mirrored_10 rfl (lv_at hl 1 rfl) ?_
        refine z_iconst hx hb dX7_mirrored_11 ?_
        refine z_ishl hx hb dX7_mirrored_12 (mirL b1 j) (1) (by omega) (by omega) (by decide) (by rw [Nat.shiftLeft_eq]; have := mirL_lt b1 j; have := Nat.pow_le_pow_right (n := 2) (by decide) hj; omega) ?_
        refine lv_iload_n hx hb dX7_mirrored_13 rfl (lv_at hl 0 rfl) ?_
        refine lv_iload_n hx hb dX7_mirrored_14 rfl (lv_at hl 2 rfl) ?_
        refine z_iushr hx hb dX7_mirrored_15 (b1) (j) (by omega) (by omega) (by omega) (by omega) ?_
        refine z_iconst hx hb dX7_mirrored_16 ?_
        refine z_iand hx hb dX7_mirrored_17 (b1 >>> j) (1) (by omega) (by omega) ?_
        refine z_ior hx hb dX7_mirrored_18 ((mirL b1 j) <<< 1) ((b1 >>> j) &&& 1) (by omega) (by omega) ?_
        refine lv_istore_n (lv' := [(1, .int (zI ((((mirL b1 j) <<< 1) ||| ((b1 >>> j) &&& 1) : Nat) : Int))), (0, .int (zI ((b1 : Nat) : Int))), (2, .int (zI ((j : Nat) : Int)))]) hx hb dX7_mirrored_19 rfl hl (by decide) rfl (fun ls hl => ?_)
        refine lv_iinc (v := zI (((j : Nat) : Int) + 1)) (lv' := [(2, .int (zI (((j : Nat) : Int) + 1))), (1, .int (zI ((((mirL b1 j) <<< 1) ||| ((b1 >>> j) &&& 1) : Nat) : Int))), (0, .int (zI ((b1 : Nat) : Int)))]) hx hb dX7_mirrored_20 hl (k := 2) rfl (zI_add _ _) (by decide) rfl (fun ls hl => ?_)
        refine lv_goto (tgt := 4) hx hb dX7_mirrored_23 (by decide) ?_
        have hl : lv_has ls 3 [(2, .int (zI (((j : Nat) : Int) + 1))), (1, .int (zI ((mirL b1 (j + 1) : Nat) : Int))), (0, .int (zI ((b1 : Nat) : Int)))] := lv_c (l1 := [(2, .int (zI (((j : Nat) : Int) + 1)))]) (l2 := [(0, .int (zI ((b1 : Nat) : Int)))]) hl (show ((((mirL b1 j) <<< 1) ||| ((b1 >>> j) &&& 1) : Nat) : Int) = ((mirL b1 (j + 1) : Nat) : Int) from rfl)
        have hl : lv_has ls 3 [(2, .int (zI (((j + 1) : Nat) : Int))), (1, .int (zI ((mirL b1 (j + 1) : Nat) : Int))), (0, .int (zI ((b1 : Nat) : Int)))] := lv_c (l1 := []) (l2 := [(1, .int (zI ((mirL b1 (j + 1) : Nat) : Int))), (0, .int (zI ((b1 : Nat) : Int)))]) hl (show ((j : Nat) : Int) + 1 = (((j + 1) : Nat) : Int) from by omega)
        exact ih4 (j + 1) (by omega) (by omega) ls (lv_sub hl [2, 1, 0] rfl)
  have hl : lv_has ls 3 [(2, .int (zI 0)), (1, .int (zI ((mirL b1 0 : Nat) : Int))), (0, .int (zI ((b1 : Nat) : Int)))] := lv_c (l1 := [(2, .int (zI 0))]) (l2 := [(0, .int (zI ((b1 : Nat) : Int)))]) hl (show 0 = ((mirL b1 0 : Nat) : Int) from rfl)
  have hl : lv_has ls 3 [(2, .int (zI ((0 : Nat) : Int))), (1, .int (zI ((mirL b1 0 : Nat) : Int))), (0, .int (zI ((b1 : Nat) : Int)))] := lv_c (l1 := []) (l2 := [(1, .int (zI ((mirL b1 0 : Nat) : Int))), (0, .int (zI ((b1 : Nat) : Int)))]) hl (show 0 = ((0 : Nat) : Int) from rfl)
  exact L4 _ 0 (by decide) (Nat.lt_succ_self _) ls (lv_sub hl [2, 1, 0] rfl)
set_option maxHeartbeats 4000000 in
set_option maxRecDepth 100000 in
theorem c_wrapped (l : Launch) (D : va_G) (k : Kt) (x1 : Int) (y1 : Int) (hx1 : -1000 ≤ x1 ∧ x1 ≤ 1000) (hy1 : 0 < y1 ∧ y1 < 1000) : RO l D k yX7_wrapped wsX7_wrapped 1 22 [.int (zI x1), .int (zI y1)] [] (fun r => r = zI ((x1 + 8) % y1 - 8)) := by
  refine Met.ofW (cc := cX7_wrapped) (maxL := 2) (ret := (some .int)) (by decide) rfl ?_
  intro p e s m args below meth c s₁ Bd hml hv
  obtain ⟨rfl, hP, hK⟩ := hv
  have hx := Bd.exec
  have hb := Bd.bytes
  have hr := Bd.returns
  have hts := atoms_spec (ws := wsX7_wrapped) Bd.pre
  have hown : s.vm.findClass RX7 = some m.cls := findClass_of_methodNamed Bd.named
  have hlocks := Bd.notSynchronized
  have hSf : CallFix p m c cX7_wrapped 2 s ([.int (zI x1), .int (zI y1)] : List Value).toArray wsX7_wrapped RX7 := ⟨hx, hb, hml, hown, hts⟩
  have hl := lv_entry ([.int (zI x1), .int (zI y1)]) (n := 2) (Nat.le_of_ble_eq_true rfl)
  rw [lg_entry_eq]
  generalize (lg_sl ([.int (zI x1), .int (zI y1)]) ++ List.replicate (2 - (lg_sl ([.int (zI x1), .int (zI y1)])).length) Slot.unset).toArray = ls at hl ⊢
  have hl : lv_has ls 2 [(0, .int (zI x1)), (1, .int (zI y1))] := hl
  refine lv_iload_n hx hb dX7_wrapped_0 rfl (lv_at hl 0 rfl) ?_
  refine z_bipush hx hb dX7_wrapped_1 (by decide +kernel) ?_
  refine z_iadd hx hb dX7_wrapped_3 ?_
  refine lv_iload_n hx hb dX7_wrapped_4 rfl (lv_at hl 1 rfl) ?_
  refine roS (n := 2) (As := [.int (zI (x1 + 8)), .int (zI y1)]) (rest := []) hSf (c_floorMod l D k (x1 + 8) y1 (by omega) (by omega)) gX7_wrapped_J9_floorMod_7cf53 rfl (by decide +kernel) ⟨Nat.le_of_ble_eq_true rfl, Nat.le_of_ble_eq_true rfl⟩ hK hP [] rfl rfl hl.1 rfl (Nat.le_of_ble_eq_true rfl) dX7_wrapped_5 ⟨Nat.zero_le _, Nat.zero_le _⟩ (fun r_5 h_5 => ?_)
  subst h_5
  refine z_bipush hx hb dX7_wrapped_8 (by decide +kernel) ?_
  refine z_isub hx hb dX7_wrapped_10 ?_
  exact W.iret hx hb hr (fun t ht hW => ⟨_, rfl, rfl, ht⟩) (fun q hq => by cases hq) dX7_wrapped_11
set_option maxHeartbeats 4000000 in
set_option maxRecDepth 100000 in
theorem c_linesOf (l : Launch) (D : va_G) (k : Kt) (h0 : Nat) (c0 : Nat) (f : St) (B : Int) (hV : Va B f) (t1 : Nat) (ht1 : t1 < nT f) : RO l D k yX7_linesOf wsX7_linesOf 1 22 [.ref h0, .int (zI ((t1 : Nat) : Int))] [(h0, .inr (7, [.ref c0])), (c0, .inl (k.1, 132, .inl (zF f)))] (fun r => r = zI (max (min (th f t1 1 + 8) 24 - max (th f t1 1) 0) 0)) := by
  refine Met.ofW (cc := cX7_linesOf) (maxL := 4) (ret := (some .int)) (by decide) rfl ?_
  intro p e s m args below meth c s₁ Bd hml hv
  obtain ⟨rfl, hP, hK⟩ := hv
  have hx := Bd.exec
  have hb := Bd.bytes
  have hr := Bd.returns
  have hts := atoms_spec (ws := wsX7_linesOf) Bd.pre
  have hown : s.vm.findClass RX7 = some m.cls := findClass_of_methodNamed Bd.named
  have hlocks := Bd.notSynchronized
  have hSf : CallFix p m c cX7_linesOf 4 s ([.ref h0, .int (zI ((t1 : Nat) : Int))] : List Value).toArray wsX7_linesOf RX7 := ⟨hx, hb, hml, hown, hts⟩
  have hmmax := And.intro (hts (.methodLink RX7 49 Lib.Math.max.name) (by decide +kernel)) (And.intro (hts (.static Lib.Math.max.name) (by decide +kernel)) (And.intro (hts (.initialized "java/lang/Math") (by decide +kernel)) (hts (.code Lib.Math.max.name Lib.Math.max.code 2 (some .int)) (by decide +kernel))))
  have hmmin := And.intro (hts (.methodLink RX7 52 Lib.Math.min.name) (by decide +kernel)) (And.intro (hts (.static Lib.Math.min.name) (by decide +kernel)) (And.intro (hts (.initialized "java/lang/Math") (by decide +kernel)) (hts (.code Lib.Math.min.name Lib.Math.min.code 2 (some .int)) (by decide +kernel))))
  have hl := lv_entry ([.ref h0, .int (zI ((t1 : Nat) : Int))]) (n := 4) (Nat.le_of_ble_eq_true rfl)
  rw [lg_entry_eq]
  generalize (lg_sl ([.ref h0, .int (zI ((t1 : Nat) : Int))]) ++ List.replicate (4 - (lg_sl ([.ref h0, .int (zI ((t1 : Nat) : Int))])).length) Slot.unset).toArray = ls at hl ⊢
  have hl : lv_has ls 4 [(0, .ref h0), (1, .int (zI ((t1 : Nat) : Int)))] := hl
  have hn := hV.n
  have hv := hV.t ht1
  refine lv_aload_n hx hb dX7_linesOf_0 rfl (lv_at hl 0 rfl) ?_
  refine lv_iload_n hx hb dX7_linesOf_1 rfl (lv_at hl 1 rfl) ?_
  refine z_iconst hx hb dX7_linesOf_2 ?_
  refine roV (n := 2) (As := [.int (zI ((t1 : Nat) : Int)), .int (zI ((1 : Nat) : Int))]) (rest := []) hSf (c_field l D k h0 c0 f t1 1 (by omega) (by omega)) gX7_linesOf_X7_field rfl (by decide +kernel) ⟨Nat.le_of_ble_eq_true rfl, Nat.le_of_ble_eq_true rfl⟩ hK hP [0, 1] rfl 0 rfl rfl rfl hl.1 (by rw [show zI 1 = zI ((1 : Nat) : Int) from zc (by omega)]; rfl) (Nat.le_of_ble_eq_true rfl) dX7_linesOf_3 ⟨Nat.zero_le _, Nat.zero_le _⟩ (fun r_3 h_3 => ?_)
  subst h_3
  refine z_iconst hx hb dX7_linesOf_6 ?_
  refine va_mmax hx hb (hml.trans hl.1.symm) hown hmmax.1 hmmax.2.1 hmmax.2.2.1 hmmax.2.2.2 (Nat.le_of_ble_eq_true rfl) (Nat.le_of_ble_eq_true rfl) (Nat.zero_le _) (Nat.zero_le _) dX7_linesOf_7 ?_
  refine te (zI_max (by omega) (by omega)) ?_
  refine lv_istore_n (lv' := [(2, .int (zI (max (th f t1 1) 0))), (0, .ref h0), (1, .int (zI ((t1 : Nat) : Int)))]) hx hb dX7_linesOf_10 rfl hl (by decide) rfl (fun ls hl => ?_)
  refine lv_aload_n hx hb dX7_linesOf_11 rfl (lv_at hl 1 rfl) ?_
  refine lv_iload_n hx hb dX7_linesOf_12 rfl (lv_at hl 2 rfl) ?_
  refine z_iconst hx hb dX7_linesOf_13 ?_
  refine roV (n := 2) (As := [.int (zI ((t1 : Nat) : Int)), .int (zI ((1 : Nat) : Int))]) (rest := []) hSf (c_field l D k h0 c0 f t1 1 (by omega) (by omega)) gX7_linesOf_X7_field rfl (by decide +kernel) ⟨Nat.le_of_ble_eq_true rfl, Nat.le_of_ble_eq_true rfl⟩ hK hP [0, 1] rfl 0 rfl rfl rfl hl.1 (by rw [show zI 1 = zI ((1 : Nat) : Int) from zc (by omega)]; rfl) (Nat.le_of_ble_eq_true rfl) dX7_linesOf_14 ⟨Nat.zero_le _, Nat.zero_le _⟩ (fun r_14 h_14 => ?_)
  subst h_14
  refine z_bipush hx hb dX7_linesOf_17 (by decide +kernel) ?_
  refine z_iadd hx hb dX7_linesOf_19 ?_
  refine z_bipush hx hb dX7_linesOf_20 (by decide +kernel) ?_
  refine va_mmin hx hb (hml.trans hl.1.symm) hown hmmin.1 hmmin.2.1 hmmin.2.2.1 hmmin.2.2.2 (Nat.le_of_ble_eq_true rfl) (Nat.le_of_ble_eq_true rfl) (Nat.zero_le _) (Nat.zero_le _) dX7_linesOf_22 ?_
  refine te (zI_min (by omega) (by omega)) ?_
  refine lv_istore_n (lv' := [(3, .int (zI (min ((th f t1 1) + 8) 24))), (2, .int (zI (max (th f t1 1) 0))), (0, .ref h0), (1, .int (zI ((t1 : Nat) : Int)))]) hx hb dX7_linesOf_25 rfl hl (by decide) rfl (fun ls hl => ?_)
  refine lv_iload_n hx hb dX7_linesOf_26 rfl (lv_at hl 0 rfl) ?_
  refine lv_iload_n hx hb dX7_linesOf_27 rfl (lv_at hl 1 rfl) ?_
  refine z_isub hx hb dX7_linesOf_28 ?_
  refine z_iconst hx hb dX7_linesOf_29 ?_
  refine va_mmax hx hb (hml.trans hl.1.symm) hown hmmax.1 hmmax.2.1 hmmax.2.2.1 hmmax.2.2.2 (Nat.le_of_ble_eq_true rfl) (Nat.le_of_ble_eq_true rfl) (Nat.zero_le _) (Nat.zero_le _) dX7_linesOf_30 ?_
  refine te (zI_max (by omega) (by omega)) ?_
  exact W.iret hx hb hr (fun t ht hW => ⟨_, rfl, rfl, ht⟩) (fun q hq => by cases hq) dX7_linesOf_33
set_option maxHeartbeats 4000000 in
set_option maxRecDepth 100000 in
theorem c_dotsOf (l : Launch) (D : va_G) (k : Kt) (h0 : Nat) (c0 : Nat) (f : St) (B : Int) (hV : Va B f) (t1 : Nat) (L1 : Nat) (ht1 : t1 < nT f) (hL1 : L1 < 24) : RO l D k yX7_dotsOf wsX7_dotsOf 1 22 [.ref h0, .int (zI ((t1 : Nat) : Int)), .int (zI ((L1 : Nat) : Int))] [(h0, .inr (7, [.ref c0])), (c0, .inl (k.1, 132, .inl (zF f)))] (fun r => r = zI ((dotsN f t1 L1 : Nat) : Int)) := by
  refine Met.ofW (cc := cX7_dotsOf) (maxL := 6) (ret := (some .int)) (by decide) rfl ?_
  intro p e s m args below meth c s₁ Bd hml hv
  obtain ⟨rfl, hP, hK⟩ := hv
  have hx := Bd.exec
  have hb := Bd.bytes
  have hr := Bd.returns
  have hts := atoms_spec (ws := wsX7_dotsOf) Bd.pre
  have hown : s.vm.findClass RX7 = some m.cls := findClass_of_methodNamed Bd.named
  have hlocks := Bd.notSynchronized
  have hSf : CallFix p m c cX7_dotsOf 6 s ([.ref h0, .int (zI ((t1 : Nat) : Int)), .int (zI ((L1 : Nat) : Int))] : List Value).toArray wsX7_dotsOf RX7 := ⟨hx, hb, hml, hown, hts⟩
  have hl := lv_entry ([.ref h0, .int (zI ((t1 : Nat) : Int)), .int (zI ((L1 : Nat) : Int))]) (n := 6) (Nat.le_of_ble_eq_true rfl)
  rw [lg_entry_eq]
  generalize (lg_sl ([.ref h0, .int (zI ((t1 : Nat) : Int)), .int (zI ((L1 : Nat) : Int))]) ++ List.replicate (6 - (lg_sl ([.ref h0, .int (zI ((t1 : Nat) : Int)), .int (zI ((L1 : Nat) : Int))])).length) Slot.unset).toArray = ls at hl ⊢
  have hl : lv_has ls 6 [(0, .ref h0), (1, .int (zI ((t1 : Nat) : Int))), (2, .int (zI ((L1 : Nat) : Int)))] := hl
  have hn := hV.n
  have hv := hV.t ht1
  have ha1 := Nat.and_le_right (n := (th f t1 3).toNat) (m := 1)
  have ha2 := Nat.and_le_right (n := (th f t1 3).toNat) (m := 2)
  refine lv_iload_n hx hb dX7_dotsOf_0 rfl (lv_at hl 2 rfl) ?_
  refine lv_aload_n hx hb dX7_dotsOf_1 rfl (lv_at hl 0 rfl) ?_
  refine lv_iload_n hx hb dX7_dotsOf_2 rfl (lv_at hl 1 rfl) ?_
  refine z_iconst hx hb dX7_dotsOf_3 ?_
  refine roV (n := 2) (As := [.int (zI ((t1 : Nat) : Int)), .int (zI ((1 : Nat) : Int))]) (rest := [.int (zI ((L1 : Nat) : Int))]) hSf (c_field l D k h0 c0 f t1 1 (by omega) (by omega)) gX7_dotsOf_X7_field rfl (by decide +kernel) ⟨Nat.le_of_ble_eq_true rfl, Nat.le_of_ble_eq_true rfl⟩ hK hP [0, 1] rfl 0 rfl rfl rfl hl.1 (by rw [show zI 1 = zI ((1 : Nat) : Int) from zc (by omega)]; rfl) (Nat.le_of_ble_eq_true rfl) dX7_dotsOf_4 ⟨Nat.zero_le _, Nat.zero_le _⟩ (fun r_4 h_4 => ?_)
  subst h_4
  refine z_isub hx hb dX7_dotsOf_7 ?_
  refine lv_istore_n (lv' := [(3, .int (zI (((L1 : Nat) : Int) - (th f t1 1)))), (0, .ref h0), (1, .int (zI ((t1 : Nat) : Int))), (2, .int (zI ((L1 : Nat) : Int)))]) hx hb dX7_dotsOf_8 rfl hl (by decide) rfl (fun ls hl => ?_)
  refine lv_iload_n hx hb dX7_dotsOf_9 rfl (lv_at hl 0 rfl) ?_
  refine z_iconst hx hb dX7_dotsOf_10 ?_
  refine z_bipush hx hb dX7_dotsOf_11 (by decide +kernel) ?_
  refine roSN (n := 3) (As := [.int (zI (((L1 : Nat) : Int) - th f t1 1)), .int (zI 0), .int (zI 7)]) (rest := []) hSf (c_isWithin l D k (((L1 : Nat) : Int) - th f t1 1) 0 7 (by omega) (by omega) (by omega)) gX7_dotsOf_X9_isWithin_n41 rfl hK.2.1 (hts (.initialized RX9) (by decide +kernel)) (hts (.static yX9_isWithin) (by decide +kernel)) (by decide +kernel) ⟨Nat.le_of_ble_eq_true rfl, Nat.le_of_ble_eq_true rfl⟩ hK hP [] rfl rfl hl.1 rfl (Nat.le_of_ble_eq_true rfl) dX7_dotsOf_13 ⟨Nat.zero_le _, Nat.zero_le _⟩ (fun r_13 h_13 => ?_)
  subst h_13
  refine z_if_neb (tgt := 21) hx hb dX7_dotsOf_16 (by decide) (fun c_16 => ?_) (fun c_16 => ?_)
  · have hon : onL f t1 L1 = true := c_16
    have hrr : 0 ≤ ((L1 : Nat) : Int) - th f t1 1 ∧ ((L1 : Nat) : Int) - th f t1 1 ≤ 7 := by simpa [onL] using hon
    refine lv_aload_n hx hb dX7_dotsOf_21 rfl (lv_at hl 1 rfl) ?_
    refine lv_iload_n hx hb dX7_dotsOf_22 rfl (lv_at hl 2 rfl) ?_
    refine z_iconst hx hb dX7_dotsOf_23 ?_
    refine roV (n := 2) (As := [.int (zI ((t1 : Nat) : Int)), .int (zI ((3 : Nat) : Int))]) (rest := []) hSf (c_field l D k h0 c0 f t1 3 (by omega) (by omega)) gX7_dotsOf_X7_field rfl (by decide +kernel) ⟨Nat.le_of_ble_eq_true rfl, Nat.le_of_ble_eq_true rfl⟩ hK hP [0, 1] rfl 0 rfl rfl rfl hl.1 (by rw [show zI 3 = zI ((3 : Nat) : Int) from zc (by omega)]; rfl) (Nat.le_of_ble_eq_true rfl) dX7_dotsOf_24 ⟨Nat.zero_le _, Nat.zero_le _⟩ (fun r_24 h_24 => ?_)
    subst h_24
    refine lv_istore (lv' := [(4, .int (zI (th f t1 3))), (3, .int (zI (((L1 : Nat) : Int) - (th f t1 1)))), (0, .ref h0), (1, .int (zI ((t1 : Nat) : Int))), (2, .int (zI ((L1 : Nat) : Int)))]) hx hb dX7_dotsOf_27 hl (by decide) rfl (fun ls hl => ?_)
    refine lv_aload_n hx hb dX7_dotsOf_29 rfl (lv_at hl 2 rfl) ?_
    refine lv_aload_n hx hb dX7_dotsOf_30 rfl (lv_at hl 2 rfl) ?_
    refine lv_iload_n hx hb dX7_dotsOf_31 rfl (lv_at hl 3 rfl) ?_
    refine z_iconst hx hb dX7_dotsOf_32 ?_
    refine roV (n := 2) (As := [.int (zI ((t1 : Nat) : Int)), .int (zI ((2 : Nat) : Int))]) (rest := [.ref h0]) hSf (c_field l D k h0 c0 f t1 2 (by omega) (by omega)) gX7_dotsOf_X7_field rfl (by decide +kernel) ⟨Nat.le_of_ble_eq_true rfl, Nat.le_of_ble_eq_true rfl⟩ hK hP [0, 1] rfl 0 rfl rfl rfl hl.1 (by rw [show zI 2 = zI ((2 : Nat) : Int) from zc (by omega)]; rfl) (Nat.le_of_ble_eq_true rfl) dX7_dotsOf_33 ⟨Nat.zero_le _, Nat.zero_le _⟩ (fun r_33 h_33 => ?_)
    subst h_33
    refine lv_iload hx hb dX7_dotsOf_36 (lv_at hl 0 rfl) ?_
    refine z_iconst hx hb dX7_dotsOf_38 ?_
    refine z_iand hx hb dX7_dotsOf_39 ((th f t1 3).toNat) (2) (by omega) (by omega) ?_
    refine z_if_eq (tgt := 50) hx hb dX7_dotsOf_40 (by decide) (by omega) (fun c_40 => ?_) (fun c_40 => ?_)
    · refine lv_iload_n hx hb dX7_dotsOf_50 rfl (lv_at hl 1 rfl) ?_
      refine roV (n := 2) (As := [.int (zI ((((th f t1 2).toNat) : Nat) : Int)), .int (zI ((((((L1 : Nat) : Int) - th f t1 1).toNat) : Nat) : Int))]) (rest := []) hSf (c_bits l D k h0 c0 f ((th f t1 2).toNat) ((((L1 : Nat) : Int) - th f t1 1).toNat) (by omega) (by omega)) gX7_dotsOf_X7_bits rfl (by decide +kernel) ⟨Nat.le_of_ble_eq_true rfl, Nat.le_of_ble_eq_true rfl⟩ hK hP [0, 1] rfl 0 rfl rfl rfl hl.1 (by rw [show zI (th f t1 2) = zI ((((th f t1 2).toNat) : Nat) : Int) from zc (by omega)]; rw [show zI (((L1 : Nat) : Int) - (th f t1 1)) = zI ((((((L1 : Nat) : Int) - th f t1 1).toNat) : Nat) : Int) from zc (by omega)]; rfl) (Nat.le_of_ble_eq_true rfl) dX7_dotsOf_51 ⟨Nat.zero_le _, Nat.zero_le _⟩ (fun r_51 h_51 => ?_)
      subst h_51
      have hp := hV.p (j := 4 + 8 * (th f t1 2).toNat + (((L1 : Nat) : Int) - th f t1 1).toNat) (by omega) (by omega)
      refine te (zc (show f (4 + 8 * ((th f t1 2).toNat) + ((((L1 : Nat) : Int) - th f t1 1).toNat)) = (((f (4 + 8 * (th f t1 2).toNat + (((L1 : Nat) : Int) - th f t1 1).toNat)).toNat : Nat) : Int) from by omega)) ?_
      refine lv_istore (lv' := [(5, .int (zI (((f (4 + 8 * (th f t1 2).toNat + (((L1 : Nat) : Int) - th f t1 1).toNat)).toNat : Nat) : Int))), (4, .int (zI (th f t1 3))), (3, .int (zI (((L1 : Nat) : Int) - (th f t1 1)))), (0, .ref h0), (1, .int (zI ((t1 : Nat) : Int))), (2, .int (zI ((L1 : Nat) : Int)))]) hx hb dX7_dotsOf_54 hl (by decide) rfl (fun ls hl => ?_)
      refine lv_iload hx hb dX7_dotsOf_56 (lv_at hl 1 rfl) ?_
      refine z_iconst hx hb dX7_dotsOf_58 ?_
      refine z_iand hx hb dX7_dotsOf_59 ((th f t1 3).toNat) (1) (by omega) (by omega) ?_
      refine z_if_eq (tgt := 70) hx hb dX7_dotsOf_60 (by decide) (by omega) (fun c_60 => ?_) (fun c_60 => ?_)
      · refine lv_iload hx hb dX7_dotsOf_70 (lv_at hl 0 rfl) ?_
        refine lv_i2l (v := zL (((f (4 + 8 * (th f t1 2).toNat + (((L1 : Nat) : Int) - th f t1 1).toNat)).toNat : Nat) : Int)) hx hb dX7_dotsOf_72 (zI_l (by omega)) ?_
        refine z_bipush hx hb dX7_dotsOf_73 (by decide +kernel) ?_
        refine z_lshl hx hb dX7_dotsOf_75 ((f (4 + 8 * (th f t1 2).toNat + (((L1 : Nat) : Int) - th f t1 1).toNat)).toNat) (32) (by omega) (by omega) (by omega) ?_
        refine lv_aload_n hx hb dX7_dotsOf_76 rfl (lv_at hl 3 rfl) ?_
        refine lv_iload_n hx hb dX7_dotsOf_77 rfl (lv_at hl 4 rfl) ?_
        refine z_iconst hx hb dX7_dotsOf_78 ?_
        refine roV (n := 2) (As := [.int (zI ((t1 : Nat) : Int)), .int (zI ((0 : Nat) : Int))]) (rest := [.long (zL ((((f (4 + 8 * (th f t1 2).toNat + (((L1 : Nat) : Int) - th f t1 1).toNat)).toNat) * 2 ^ 32 : Nat) : Int))]) hSf (c_field l D k h0 c0 f t1 0 (by omega) (by omega)) gX7_dotsOf_X7_field rfl (by decide +kernel) ⟨Nat.le_of_ble_eq_true rfl, Nat.le_of_ble_eq_true rfl⟩ hK hP [0, 1] rfl 0 rfl rfl rfl hl.1 (by rw [show zI 0 = zI ((0 : Nat) : Int) from zc (by omega)]; rfl) (Nat.le_of_ble_eq_true rfl) dX7_dotsOf_79 ⟨Nat.zero_le _, Nat.zero_le _⟩ (fun r_79 h_79 => ?_)
        subst h_79
        refine z_bipush hx hb dX7_dotsOf_82 (by decide +kernel) ?_
        refine z_iadd hx hb dX7_dotsOf_84 ?_
        refine z_lushr hx hb dX7_dotsOf_85 (((f (4 + 8 * (th f t1 2).toNat + (((L1 : Nat) : Int) - th f t1 1).toNat)).toNat) * 2 ^ 32) ((th f t1 0 + 8).toNat) (by omega) (by omega) (by omega) (by omega) ?_
        refine lv_l2i (v := zI (((((f (4 + 8 * (th f t1 2).toNat + (((L1 : Nat) : Int) - th f t1 1).toNat)).toNat) * 2 ^ 32) / 2 ^ ((th f t1 0 + 8).toNat) : Nat) : Int)) hx hb dX7_dotsOf_86 (zL_i _) ?_
        exact W.iret hx hb hr (fun t ht hW => ⟨_, rfl, dots_ret hon (row_00 (by omega) (by omega)) rfl, ht⟩) (fun q hq => by cases hq) dX7_dotsOf_87
      · refine lv_iload hx hb dX7_dotsOf_63 (lv_at hl 0 rfl) ?_
        refine roS (n := 1) (As := [.int (zI ((((f (4 + 8 * (th f t1 2).toNat + (((L1 : Nat) : Int) - th f t1 1).toNat)).toNat) : Nat) : Int))]) (rest := []) hSf (c_mirrored l D k ((f (4 + 8 * (th f t1 2).toNat + (((L1 : Nat) : Int) - th f t1 1).toNat)).toNat) (by omega)) gX7_dotsOf_X7_mirrored rfl (by decide +kernel) ⟨Nat.le_of_ble_eq_true rfl, Nat.le_of_ble_eq_true rfl⟩ hK hP [] rfl rfl hl.1 rfl (Nat.le_of_ble_eq_true rfl) dX7_dotsOf_65 ⟨Nat.zero_le _, Nat.zero_le _⟩ (fun r_65 h_65 => ?_)
        subst h_65
        have hm := (mir_ok (f (4 + 8 * (th f t1 2).toNat + (((L1 : Nat) : Int) - th f t1 1).toNat)).toNat (by omega)).1
        refine lv_istore (lv' := [(5, .int (zI ((mirL ((f (4 + 8 * (th f t1 2).toNat + (((L1 : Nat) : Int) - th f t1 1).toNat)).toNat) 8 : Nat) : Int))), (4, .int (zI (th f t1 3))), (3, .int (zI (((L1 : Nat) : Int) - (th f t1 1)))), (0, .ref h0), (1, .int (zI ((t1 : Nat) : Int))), (2, .int (zI ((L1 : Nat) : Int)))]) hx hb dX7_dotsOf_68 hl (by decide) rfl (fun ls hl => ?_)
        refine lv_iload hx hb dX7_dotsOf_70 (lv_at hl 0 rfl) ?_
        refine lv_i2l (v := zL ((mirL ((f (4 + 8 * (th f t1 2).toNat + (((L1 : Nat) : Int) - th f t1 1).toNat)).toNat) 8 : Nat) : Int)) hx hb dX7_dotsOf_72 (zI_l (by omega)) ?_
        refine z_bipush hx hb dX7_dotsOf_73 (by decide +kernel) ?_
        refine z_lshl hx hb dX7_dotsOf_75 (mirL ((f (4 + 8 * (th f t1 2).toNat + (((L1 : Nat) : Int) - th f t1 1).toNat)).toNat) 8) (32) (by omega) (by omega) (by omega) ?_
        refine lv_aload_n hx hb dX7_dotsOf_76 rfl (lv_at hl 3 rfl) ?_
        refine lv_iload_n hx hb dX7_dotsOf_77 rfl (lv_at hl 4 rfl) ?_
        refine z_iconst hx hb dX7_dotsOf_78 ?_
        refine roV (n := 2) (As := [.int (zI ((t1 : Nat) : Int)), .int (zI ((0 : Nat) : Int))]) (rest := [.long (zL (((mirL ((f (4 + 8 * (th f t1 2).toNat + (((L1 : Nat) : Int) - th f t1 1).toNat)).toNat) 8) * 2 ^ 32 : Nat) : Int))]) hSf (c_field l D k h0 c0 f t1 0 (by omega) (by omega)) gX7_dotsOf_X7_field rfl (by decide +kernel) ⟨Nat.le_of_ble_eq_true rfl, Nat.le_of_ble_eq_true rfl⟩ hK hP [0, 1] rfl 0 rfl rfl rfl hl.1 (by rw [show zI 0 = zI ((0 : Nat) : Int) from zc (by omega)]; rfl) (Nat.le_of_ble_eq_true rfl) dX7_dotsOf_79 ⟨Nat.zero_le _, Nat.zero_le _⟩ (fun r_79 h_79 => ?_)
        subst h_79
        refine z_bipush hx hb dX7_dotsOf_82 (by decide +kernel) ?_
        refine z_iadd hx hb dX7_dotsOf_84 ?_
        refine z_lushr hx hb dX7_dotsOf_85 ((mirL ((f (4 + 8 * (th f t1 2).toNat + (((L1 : Nat) : Int) - th f t1 1).toNat)).toNat) 8) * 2 ^ 32) ((th f t1 0 + 8).toNat) (by omega) (by omega) (by omega) (by omega) ?_
        refine lv_l2i (v := zI ((((mirL ((f (4 + 8 * (th f t1 2).toNat + (((L1 : Nat) : Int) - th f t1 1).toNat)).toNat) 8) * 2 ^ 32) / 2 ^ ((th f t1 0 + 8).toNat) : Nat) : Int)) hx hb dX7_dotsOf_86 (zL_i _) ?_
        exact W.iret hx hb hr (fun t ht hW => ⟨_, rfl, dots_ret hon (row_10 (by omega) (by omega)) rfl, ht⟩) (fun q hq => by cases hq) dX7_dotsOf_87
    · refine z_bipush hx hb dX7_dotsOf_43 (by decide +kernel) ?_
      refine lv_iload_n hx hb dX7_dotsOf_45 rfl (lv_at hl 1 rfl) ?_
      refine z_isub hx hb dX7_dotsOf_46 ?_
      refine lv_goto (tgt := 51) hx hb dX7_dotsOf_47 (by decide) ?_
      refine roV (n := 2) (As := [.int (zI ((((th f t1 2).toNat) : Nat) : Int)), .int (zI (((7 - (((L1 : Nat) : Int) - th f t1 1).toNat) : Nat) : Int))]) (rest := []) hSf (c_bits l D k h0 c0 f ((th f t1 2).toNat) (7 - (((L1 : Nat) : Int) - th f t1 1).toNat) (by omega) (by omega)) gX7_dotsOf_X7_bits rfl (by decide +kernel) ⟨Nat.le_of_ble_eq_true rfl, Nat.le_of_ble_eq_true rfl⟩ hK hP [0, 1] rfl 0 rfl rfl rfl hl.1 (by rw [show zI (th f t1 2) = zI ((((th f t1 2).toNat) : Nat) : Int) from zc (by omega)]; rw [show zI (7 - (((L1 : Nat) : Int) - (th f t1 1))) = zI (((7 - (((L1 : Nat) : Int) - th f t1 1).toNat) : Nat) : Int) from zc (by omega)]; rfl) (Nat.le_of_ble_eq_true rfl) dX7_dotsOf_51 ⟨Nat.zero_le _, Nat.zero_le _⟩ (fun r_51 h_51 => ?_)
      subst h_51
      have hp := hV.p (j := 4 + 8 * (th f t1 2).toNat + (7 - (((L1 : Nat) : Int) - th f t1 1).toNat)) (by omega) (by omega)
      refine te (zc (show f (4 + 8 * ((th f t1 2).toNat) + (7 - (((L1 : Nat) : Int) - th f t1 1).toNat)) = (((f (4 + 8 * (th f t1 2).toNat + (7 - (((L1 : Nat) : Int) - th f t1 1).toNat))).toNat : Nat) : Int) from by omega)) ?_
      refine lv_istore (lv' := [(5, .int (zI (((f (4 + 8 * (th f t1 2).toNat + (7 - (((L1 : Nat) : Int) - th f t1 1).toNat))).toNat : Nat) : Int))), (4, .int (zI (th f t1 3))), (3, .int (zI (((L1 : Nat) : Int) - (th f t1 1)))), (0, .ref h0), (1, .int (zI ((t1 : Nat) : Int))), (2, .int (zI ((L1 : Nat) : Int)))]) hx hb dX7_dotsOf_54 hl (by decide) rfl (fun ls hl => ?_)
      refine lv_iload hx hb dX7_dotsOf_56 (lv_at hl 1 rfl) ?_
      refine z_iconst hx hb dX7_dotsOf_58 ?_
      refine z_iand hx hb dX7_dotsOf_59 ((th f t1 3).toNat) (1) (by omega) (by omega) ?_
      refine z_if_eq (tgt := 70) hx hb dX7_dotsOf_60 (by decide) (by omega) (fun c_60 => ?_) (fun c_60 => ?_)
      · refine lv_iload hx hb dX7_dotsOf_70 (lv_at hl 0 rfl) ?_
        refine lv_i2l (v := zL (((f (4 + 8 * (th f t1 2).toNat + (7 - (((L1 : Nat) : Int) - th f t1 1).toNat))).toNat : Nat) : Int)) hx hb dX7_dotsOf_72 (zI_l (by omega)) ?_
        refine z_bipush hx hb dX7_dotsOf_73 (by decide +kernel) ?_
        refine z_lshl hx hb dX7_dotsOf_75 ((f (4 + 8 * (th f t1 2).toNat + (7 - (((L1 : Nat) : Int) - th f t1 1).toNat))).toNat) (32) (by omega) (by omega) (by omega) ?_
        refine lv_aload_n hx hb dX7_dotsOf_76 rfl (lv_at hl 3 rfl) ?_
        refine lv_iload_n hx hb dX7_dotsOf_77 rfl (lv_at hl 4 rfl) ?_
        refine z_iconst hx hb dX7_dotsOf_78 ?_
        refine roV (n := 2) (As := [.int (zI ((t1 : Nat) : Int)), .int (zI ((0 : Nat) : Int))]) (rest := [.long (zL ((((f (4 + 8 * (th f t1 2).toNat + (7 - (((L1 : Nat) : Int) - th f t1 1).toNat))).toNat) * 2 ^ 32 : Nat) : Int))]) hSf (c_field l D k h0 c0 f t1 0 (by omega) (by omega)) gX7_dotsOf_X7_field rfl (by decide +kernel) ⟨Nat.le_of_ble_eq_true rfl, Nat.le_of_ble_eq_true rfl⟩ hK hP [0, 1] rfl 0 rfl rfl rfl hl.1 (by rw [show zI 0 = zI ((0 : Nat) : Int) from zc (by omega)]; rfl) (Nat.le_of_ble_eq_true rfl) dX7_dotsOf_79 ⟨Nat.zero_le _, Nat.zero_le _⟩ (fun r_79 h_79 => ?_)
        subst h_79
        refine z_bipush hx hb dX7_dotsOf_82 (by decide +kernel) ?_
        refine z_iadd hx hb dX7_dotsOf_84 ?_
        refine z_lushr hx hb dX7_dotsOf_85 (((f (4 + 8 * (th f t1 2).toNat + (7 - (((L1 : Nat) : Int) - th f t1 1).toNat))).toNat) * 2 ^ 32) ((th f t1 0 + 8).toNat) (by omega) (by omega) (by omega) (by omega) ?_
        refine lv_l2i (v := zI (((((f (4 + 8 * (th f t1 2).toNat + (7 - (((L1 : Nat) : Int) - th f t1 1).toNat))).toNat) * 2 ^ 32) / 2 ^ ((th f t1 0 + 8).toNat) : Nat) : Int)) hx hb dX7_dotsOf_86 (zL_i _) ?_
        exact W.iret hx hb hr (fun t ht hW => ⟨_, rfl, dots_ret hon (row_01 (by omega) (by omega)) rfl, ht⟩) (fun q hq => by cases hq) dX7_dotsOf_87
      · refine lv_iload hx hb dX7_dotsOf_63 (lv_at hl 0 rfl) ?_
        refine roS (n := 1) (As := [.int (zI ((((f (4 + 8 * (th f t1 2).toNat + (7 - (((L1 : Nat) : Int) - th f t1 1).toNat))).toNat) : Nat) : Int))]) (rest := []) hSf (c_mirrored l D k ((f (4 + 8 * (th f t1 2).toNat + (7 - (((L1 : Nat) : Int) - th f t1 1).toNat))).toNat) (by omega)) gX7_dotsOf_X7_mirrored rfl (by decide +kernel) ⟨Nat.le_of_ble_eq_true rfl, Nat.le_of_ble_eq_true rfl⟩ hK hP [] rfl rfl hl.1 rfl (Nat.le_of_ble_eq_true rfl) dX7_dotsOf_65 ⟨Nat.zero_le _, Nat.zero_le _⟩ (fun r_65 h_65 => ?_)
        subst h_65
        have hm := (mir_ok (f (4 + 8 * (th f t1 2).toNat + (7 - (((L1 : Nat) : Int) - th f t1 1).toNat))).toNat (by omega)).1
        refine lv_istore (lv' := [(5, .int (zI ((mirL ((f (4 + 8 * (th f t1 2).toNat + (7 - (((L1 : Nat) : Int) - th f t1 1).toNat))).toNat) 8 : Nat) : Int))), (4, .int (zI (th f t1 3))), (3, .int (zI (((L1 : Nat) : Int) - (th f t1 1)))), (0, .ref h0), (1, .int (zI ((t1 : Nat) : Int))), (2, .int (zI ((L1 : Nat) : Int)))]) hx hb dX7_dotsOf_68 hl (by decide) rfl (fun ls hl => ?_)
        refine lv_iload hx hb dX7_dotsOf_70 (lv_at hl 0 rfl) ?_
        refine lv_i2l (v := zL ((mirL ((f (4 + 8 * (th f t1 2).toNat + (7 - (((L1 : Nat) : Int) - th f t1 1).toNat))).toNat) 8 : Nat) : Int)) hx hb dX7_dotsOf_72 (zI_l (by omega)) ?_
        refine z_bipush hx hb dX7_dotsOf_73 (by decide +kernel) ?_
        refine z_lshl hx hb dX7_dotsOf_75 (mirL ((f (4 + 8 * (th f t1 2).toNat + (7 - (((L1 : Nat) : Int) - th f t1 1).toNat))).toNat) 8) (32) (by omega) (by omega) (by omega) ?_
        refine lv_aload_n hx hb dX7_dotsOf_76 rfl (lv_at hl 3 rfl) ?_
        refine lv_iload_n hx hb dX7_dotsOf_77 rfl (lv_at hl 4 rfl) ?_
        refine z_iconst hx hb dX7_dotsOf_78 ?_
        refine roV (n := 2) (As := [.int (zI ((t1 : Nat) : Int)), .int (zI ((0 : Nat) : Int))]) (rest := [.long (zL (((mirL ((f (4 + 8 * (th f t1 2).toNat + (7 - (((L1 : Nat) : Int) - th f t1 1).toNat))).toNat) 8) * 2 ^ 32 : Nat) : Int))]) hSf (c_field l D k h0 c0 f t1 0 (by omega) (by omega)) gX7_dotsOf_X7_field rfl (by decide +kernel) ⟨Nat.le_of_ble_eq_true rfl, Nat.le_of_ble_eq_true rfl⟩ hK hP [0, 1] rfl 0 rfl rfl rfl hl.1 (by rw [show zI 0 = zI ((0 : Nat) : Int) from zc (by omega)]; rfl) (Nat.le_of_ble_eq_true rfl) dX7_dotsOf_79 ⟨Nat.zero_le _, Nat.zero_le _⟩ (fun r_79 h_79 => ?_)
        subst h_79
        refine z_bipush hx hb dX7_dotsOf_82 (by decide +kernel) ?_
        refine z_iadd hx hb dX7_dotsOf_84 ?_
        refine z_lushr hx hb dX7_dotsOf_85 ((mirL ((f (4 + 8 * (th f t1 2).toNat + (7 - (((L1 : Nat) : Int) - th f t1 1).toNat))).toNat) 8) * 2 ^ 32) ((th f t1 0 + 8).toNat) (by omega) (by omega) (by omega) (by omega) ?_
        refine lv_l2i (v := zI ((((mirL ((f (4 + 8 * (th f t1 2).toNat + (7 - (((L1 : Nat) : Int) - th f t1 1).toNat))).toNat) 8) * 2 ^ 32) / 2 ^ ((th f t1 0 + 8).toNat) : Nat) : Int)) hx hb dX7_dotsOf_86 (zL_i _) ?_
        exact W.iret hx hb hr (fun t ht hW => ⟨_, rfl, dots_ret hon (row_11 (by omega) (by omega)) rfl, ht⟩) (fun q hq => by cases hq) dX7_dotsOf_87
  · refine z_iconst hx hb dX7_dotsOf_19 ?_
    exact W.iret hx hb hr (fun t ht hW => ⟨_, rfl, zc (by rw [dotsN, if_neg (by rw [show onL f t1 L1 = false from c_16]; decide)]; rfl), ht⟩) (fun q hq => by cases hq) dX7_dotsOf_20
