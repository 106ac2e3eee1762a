set_option maxHeartbeats 4000000 in
set_option maxRecDepth 100000 in
theorem c_isWithin (l : Launch) (D : va_G) (k : Kt) (v1 : Int) (v2 : Int) (v3 : Int) (hv1 : -2147483648 ≤ v1 ∧ v1 < 2147483648) (hv2 : -2147483648 ≤ v2 ∧ v2 < 2147483648) (hv3 : -2147483648 ≤ v3 ∧ v3 < 2147483648) : RO l D k yX9_isWithin wsX9_isWithin 0 0 [.int (zI v1), .int (zI v2), .int (zI v3)] [] (fun r => r = zI (b2i (decide (v2 ≤ v1) && decide (v1 ≤ v3)))) := by
  refine Met.ofW (cc := cX9_isWithin) (maxL := 3) (ret := (some .boolean)) (by decide) rfl ?_
  intro p e s m args below meth c s₁ Bd hml hv
  obtain ⟨rfl, hP, hK⟩ := hv
  have hx := Bd.exec
  have hb := Bd.bytes
  have hr := Bd.returns
  have hts := atoms_spec (ws := wsX9_isWithin) Bd.pre
  have hown : s.vm.findClass RX9 = some m.cls := findClass_of_methodNamed Bd.named
  have hlocks := Bd.notSynchronized
  have hSf : CallFix p m c cX9_isWithin 3 s ([.int (zI v1), .int (zI v2), .int (zI v3)] : List Value).toArray wsX9_isWithin RX9 := ⟨hx, hb, hml, hown, hts⟩
  have hl := lv_entry ([.int (zI v1), .int (zI v2), .int (zI v3)]) (n := 3) (Nat.le_of_ble_eq_true rfl)
  rw [lg_entry_eq]
  generalize (lg_sl ([.int (zI v1), .int (zI v2), .int (zI v3)]) ++ List.replicate (3 - (lg_sl ([.int (zI v1), .int (zI v2), .int (zI v3)])).length) Slot.unset).toArray = ls at hl ⊢
  have hl : lv_has ls 3 [(0, .int (zI v1)), (1, .int (zI v2)), (2, .int (zI v3))] := hl
  refine lv_iload_n hx hb dX9_isWithin_0 rfl (lv_at hl 0 rfl) ?_
  refine lv_iload_n hx hb dX9_isWithin_1 rfl (lv_at hl 1 rfl) ?_
  refine z_icmp_lt (tgt := 14) hx hb dX9_isWithin_2 (by decide) (by omega) (by omega) (fun c_2 => ?_) (fun c_2 => ?_)
  · refine z_iconst hx hb dX9_isWithin_14 ?_
    exact W.zret hx hb hr (by decide +kernel) (fun t ht hW => ⟨_, rfl, zc (by simp [b2i]; omega), ht⟩) (fun q hq => by cases hq) dX9_isWithin_15
  · refine lv_iload_n hx hb dX9_isWithin_5 rfl (lv_at hl 0 rfl) ?_
    refine lv_iload_n hx hb dX9_isWithin_6 rfl (lv_at hl 2 rfl) ?_
    refine z_icmp_gt (tgt := 14) hx hb dX9_isWithin_7 (by decide) (by omega) (by omega) (fun c_7 => ?_) (fun c_7 => ?_)
    · refine z_iconst hx hb dX9_isWithin_14 ?_
      exact W.zret hx hb hr (by decide +kernel) (fun t ht hW => ⟨_, rfl, zc (by simp [b2i]; omega), ht⟩) (fun q hq => by cases hq) dX9_isWithin_15
    · refine z_iconst hx hb dX9_isWithin_10 ?_
      refine lv_goto (tgt := 15) hx hb dX9_isWithin_11 (by decide) ?_
      exact W.zret hx hb hr (by decide +kernel) (fun t ht hW => ⟨_, rfl, zc (by simp [b2i]; omega), ht⟩) (fun q hq => by cases hq) dX9_isWithin_15
set_option maxHeartbeats 4000000 in
set_option maxRecDepth 100000 in
theorem c_isInSet (l : Launch) (D : va_G) (k : Kt) (a1 : Nat) (k1 : Nat) (ha1 : a1 < 4294967296) (hk1 : k1 < 32) : RO l D k yX9_isInSet wsX9_isInSet 0 0 [.int (zI ((a1 : Nat) : Int)), .int (zI ((k1 : Nat) : Int))] [] (fun r => r = zI (b2i (a1.testBit k1))) := by
  refine Met.ofW (cc := cX9_isInSet) (maxL := 2) (ret := (some .boolean)) (by decide) rfl ?_
  intro p e s m args below meth c s₁ Bd hml hv
  obtain ⟨rfl, hP, hK⟩ := hv
  have hx := Bd.exec
  have hb := Bd.bytes
  have hr := Bd.returns
  have hts := atoms_spec (ws := wsX9_isInSet) Bd.pre
  have hown : s.vm.findClass RX9 = some m.cls := findClass_of_methodNamed Bd.named
  have hlocks := Bd.notSynchronized
  have hSf : CallFix p m c cX9_isInSet 2 s ([.int (zI ((a1 : Nat) : Int)), .int (zI ((k1 : Nat) : Int))] : List Value).toArray wsX9_isInSet RX9 := ⟨hx, hb, hml, hown, hts⟩
  have hl := lv_entry ([.int (zI ((a1 : Nat) : Int)), .int (zI ((k1 : Nat) : Int))]) (n := 2) (Nat.le_of_ble_eq_true rfl)
  rw [lg_entry_eq]
  generalize (lg_sl ([.int (zI ((a1 : Nat) : Int)), .int (zI ((k1 : Nat) : Int))]) ++ List.replicate (2 - (lg_sl ([.int (zI ((a1 : Nat) : Int)), .int (zI ((k1 : Nat) : Int))])).length) Slot.unset).toArray = ls at hl ⊢
  have hl : lv_has ls 2 [(0, .int (zI ((a1 : Nat) : Int))), (1, .int (zI ((k1 : Nat) : Int)))] := hl
  have hb1 := Bool.toNat_le (a1.testBit k1)
  refine lv_iload_n hx hb dX9_isInSet_0 rfl (lv_at hl 0 rfl) ?_
  refine lv_iload_n hx hb dX9_isInSet_1 rfl (lv_at hl 1 rfl) ?_
  refine z_iushr hx hb dX9_isInSet_2 (a1) (k1) (by omega) (by omega) (by omega) (by omega) ?_
  refine z_iconst hx hb dX9_isInSet_3 ?_
  refine z_iand hx hb dX9_isInSet_4 (a1 >>> k1) (1) (by omega) (by omega) ?_
  refine te (zc (show (((a1 >>> k1) &&& 1 : Nat) : Int) = (((a1.testBit k1).toNat : Nat) : Int) from by rw [bit1])) ?_
  refine z_iconst hx hb dX9_isInSet_5 ?_
  refine z_icmp_ne (tgt := 13) hx hb dX9_isInSet_6 (by decide) (by omega) (by omega) (fun c_6 => ?_) (fun c_6 => ?_)
  · refine z_iconst hx hb dX9_isInSet_13 ?_
    exact W.zret hx hb hr (by decide +kernel) (fun t ht hW => ⟨_, rfl, zc (by cases hh : a1.testBit k1 <;> simp_all [b2i]), ht⟩) (fun q hq => by cases hq) dX9_isInSet_14
  · refine z_iconst hx hb dX9_isInSet_9 ?_
    refine lv_goto (tgt := 14) hx hb dX9_isInSet_10 (by decide) ?_
    exact W.zret hx hb hr (by decide +kernel) (fun t ht hW => ⟨_, rfl, zc (by cases hh : a1.testBit k1 <;> simp_all [b2i]), ht⟩) (fun q hq => by cases hq) dX9_isInSet_14
set_option maxHeartbeats 4000000 in
set_option maxRecDepth 100000 in
theorem c_floorMod (l : Launch) (D : va_G) (k : Kt) (x1 : Int) (y1 : Int) (hx1 : -2147483648 ≤ x1 ∧ x1 < 2147483648) (hy1 : 0 < y1 ∧ y1 < 2147483648) : RO l D k yJ9_floorMod_7cf53 wsJ9_floorMod_7cf53 0 0 [.int (zI x1), .int (zI y1)] [] (fun r => r = zI (x1 % y1)) := by
  refine va_MetF (cc := cJ9_floorMod_7cf53) (maxL := 3) (ret := (some .int)) (by decide +kernel) rfl ?_
  intro p e s m args below meth c s₁ Bd hml hv
  obtain ⟨rfl, hP, hK⟩ := hv
  have hx := Bd.exec
  have hb := Bd.bytes
  have hr := Bd.returns
  have hts := atoms_spec (ws := wsJ9_floorMod_7cf53) Bd.pre
  have hown : s.vm.findClass RJ9 = some m.cls := findClass_of_methodNamed Bd.named
  have hlocks := Bd.notSynchronized
  have hSf : CallFix p m c cJ9_floorMod_7cf53 3 s ([.int (zI x1), .int (zI y1)] : List Value).toArray wsJ9_floorMod_7cf53 RJ9 := ⟨hx, hb, hml, hown, hts⟩
  have hl := lv_entry ([.int (zI x1), .int (zI y1)]) (n := 3) (Nat.le_of_ble_eq_true rfl)
  rw [lg_entry_eq]
  generalize (lg_sl ([.int (zI x1), .int (zI y1)]) ++ List.replicate (3 - (lg_sl ([.int (zI x1), .int (zI y1)])).length) Slot.unset).toArray = ls at hl ⊢
  have hl : lv_has ls 3 [(0, .int (zI x1)), (1, .int (zI y1))] := hl
  have ht1 := tmod_bounds (a := x1) hy1.1
  refine lv_iload_n hx hb dJ9_floorMod_7cf53_0 rfl (lv_at hl 0 rfl) ?_
  refine lv_iload_n hx hb dJ9_floorMod_7cf53_1 rfl (lv_at hl 1 rfl) ?_
  refine z_iremT hx hb dJ9_floorMod_7cf53_2 (by omega) (by omega) ?_
  refine lv_istore_n (lv' := [(2, .int (zI (x1.tmod y1))), (0, .int (zI x1)), (1, .int (zI y1))]) hx hb dJ9_floorMod_7cf53_3 rfl hl (by decide) rfl (fun ls hl => ?_)
  refine lv_iload_n hx hb dJ9_floorMod_7cf53_4 rfl (lv_at hl 1 rfl) ?_
  refine lv_iload_n hx hb dJ9_floorMod_7cf53_5 rfl (lv_at hl 2 rfl) ?_
  refine lv_ixor hx hb dJ9_floorMod_7cf53_6 ?_
  refine lv_if_ge (tgt := 18) hx hb dJ9_floorMod_7cf53_7 (by decide) (fun c_7 => ?_) (fun c_7 => ?_)
  · have c_7 := (fm_sign hx1 hy1).mp c_7
    refine lv_iload_n hx hb dJ9_floorMod_7cf53_18 rfl (lv_at hl 0 rfl) ?_
    exact W.iret hx hb hr (fun t ht hW => ⟨_, rfl, by first | exact zc (Int.tmod_eq_emod_of_nonneg c_7) | exact zc (tm1 c_7 hy1.1 c_11), ht⟩) (fun q hq => by cases hq) dJ9_floorMod_7cf53_19
  · have c_7 : x1 < 0 := by rw [fm_sign hx1 hy1] at c_7; omega
    refine lv_iload_n hx hb dJ9_floorMod_7cf53_10 rfl (lv_at hl 0 rfl) ?_
    refine z_if_eq (tgt := 18) hx hb dJ9_floorMod_7cf53_11 (by decide) (by omega) (fun c_11 => ?_) (fun c_11 => ?_)
    · refine lv_iload_n hx hb dJ9_floorMod_7cf53_18 rfl (lv_at hl 0 rfl) ?_
      exact W.iret hx hb hr (fun t ht hW => ⟨_, rfl, by first | exact zc (Int.tmod_eq_emod_of_nonneg c_7) | exact zc (tm1 c_7 hy1.1 c_11), ht⟩) (fun q hq => by cases hq) dJ9_floorMod_7cf53_19
    · refine lv_iload_n hx hb dJ9_floorMod_7cf53_14 rfl (lv_at hl 0 rfl) ?_
      refine lv_iload_n hx hb dJ9_floorMod_7cf53_15 rfl (lv_at hl 2 rfl) ?_
      refine z_iadd hx hb dJ9_floorMod_7cf53_16 ?_
      exact W.iret hx hb hr (fun t ht hW => ⟨_, rfl, zc (tm2 c_7 hy1.1 c_11), ht⟩) (fun q hq => by cases hq) dJ9_floorMod_7cf53_17
set_option maxHeartbeats 4000000 in
set_option maxRecDepth 100000 in
theorem c_cell (l : Launch) (D : va_G) (k : Kt) (h0 : Nat) (c0 : Nat) (f : St) (j1 : Nat) (hj1 : j1 < 132) : RO l D k yX7_cell wsX7_cell 0 0 [.ref h0, .int (zI ((j1 : Nat) : Int))] [(h0, .inr (7, [.ref c0])), (c0, .inl (k.1, 132, .inl (zF f)))] (fun r => r = zI (f j1)) := by
  refine Met.ofW (cc := cX7_cell) (maxL := 2) (ret := (some .int)) (by decide) rfl ?_
  intro p e s m args below meth c s₁ Bd hml hv
  obtain ⟨rfl, hP, hK⟩ := hv
  have hx := Bd.exec
  have hb := Bd.bytes
  have hr := Bd.returns
  have hts := atoms_spec (ws := wsX7_cell) Bd.pre
  have hown : s.vm.findClass RX7 = some m.cls := findClass_of_methodNamed Bd.named
  have hlocks := Bd.notSynchronized
  have hSf : CallFix p m c cX7_cell 2 s ([.ref h0, .int (zI ((j1 : Nat) : Int))] : List Value).toArray wsX7_cell RX7 := ⟨hx, hb, hml, hown, hts⟩
  have hinX7 : ∀ w ∈ u_ws RX7 TX7 1, w ∈ wsX7_cell := by decide +kernel
  have fl11 := hts (.fieldLink RX7 11 "DotObjects$Scene" "cells" "[I") (by decide +kernel)
  have hl := lv_entry ([.ref h0, .int (zI ((j1 : Nat) : Int))]) (n := 2) (Nat.le_of_ble_eq_true rfl)
  rw [lg_entry_eq]
  generalize (lg_sl ([.ref h0, .int (zI ((j1 : Nat) : Int))]) ++ List.replicate (2 - (lg_sl ([.ref h0, .int (zI ((j1 : Nat) : Int))])).length) Slot.unset).toArray = ls at hl ⊢
  have hl : lv_has ls 2 [(0, .ref h0), (1, .int (zI ((j1 : Nat) : Int)))] := hl
  refine lv_aload_n hx hb dX7_cell_0 rfl (lv_at hl 0 rfl) ?_
  refine va_get (D := D) (ci := 7) (v := .ref c0) (C := RX7) (T := TX7) (N := 1) hx hb hts hinX7 hown hK.1 hP 0 rfl rfl 0 (by decide) fl11 (fun _ h9 => h9) rfl dX7_cell_1 ?_
  refine lv_iload_n hx hb dX7_cell_4 rfl (lv_at hl 1 rfl) ?_
  refine z_ald hx hb hK hP 1 rfl (j1) (by omega) (by omega) (Nat.le_of_ble_eq_true rfl) dX7_cell_5 ?_
  exact W.iret hx hb hr (fun t ht hW => ⟨_, rfl, rfl, ht⟩) (fun q hq => by cases hq) dX7_cell_6
set_option maxHeartbeats 4000000 in
set_option maxRecDepth 100000 in
theorem c_field (l : Launch) (D : va_G) (k : Kt) (h0 : Nat) (c0 : Nat) (f : St) (t1 : Nat) (w1 : Nat) (ht1 : t1 < 12) (hw1 : w1 < 8) : RO l D k yX7_field wsX7_field 0 0 [.ref h0, .int (zI ((t1 : Nat) : Int)), .int (zI ((w1 : Nat) : Int))] [(h0, .inr (7, [.ref c0])), (c0, .inl (k.1, 132, .inl (zF f)))] (fun r => r = zI (th f t1 w1)) := by
  refine Met.ofW (cc := cX7_field) (maxL := 3) (ret := (some .int)) (by decide) rfl ?_
  intro p e s m args below meth c s₁ Bd hml hv
  obtain ⟨rfl, hP, hK⟩ := hv
  have hx := Bd.exec
  have hb := Bd.bytes
  have hr := Bd.returns
  have hts := atoms_spec (ws := wsX7_field) Bd.pre
  have hown : s.vm.findClass RX7 = some m.cls := findClass_of_methodNamed Bd.named
  have hlocks := Bd.notSynchronized
  have hSf : CallFix p m c cX7_field 3 s ([.ref h0, .int (zI ((t1 : Nat) : Int)), .int (zI ((w1 : Nat) : Int))] : List Value).toArray wsX7_field RX7 := ⟨hx, hb, hml, hown, hts⟩
  have hinX7 : ∀ w ∈ u_ws RX7 TX7 1, w ∈ wsX7_field := by decide +kernel
  have fl11 := hts (.fieldLink RX7 11 "DotObjects$Scene" "cells" "[I") (by decide +kernel)
  have hl := lv_entry ([.ref h0, .int (zI ((t1 : Nat) : Int)), .int (zI ((w1 : Nat) : Int))]) (n := 3) (Nat.le_of_ble_eq_true rfl)
  rw [lg_entry_eq]
  generalize (lg_sl ([.ref h0, .int (zI ((t1 : Nat) : Int)), .int (zI ((w1 : Nat) : Int))]) ++ List.replicate (3 - (lg_sl ([.ref h0, .int (zI ((t1 : Nat) : Int)), .int (zI ((w1 : Nat) : Int))])).length) Slot.unset).toArray = ls at hl ⊢
  have hl : lv_has ls 3 [(0, .ref h0), (1, .int (zI ((t1 : Nat) : Int))), (2, .int (zI ((w1 : Nat) : Int)))] := hl
  refine lv_aload_n hx hb dX7_field_0 rfl (lv_at hl 0 rfl) ?_
  refine va_get (D := D) (ci := 7) (v := .ref c0) (C := RX7) (T := TX7) (N := 1) hx hb hts hinX7 hown hK.1 hP 0 rfl rfl 0 (by decide) fl11 (fun _ h9 => h9) rfl dX7_field_1 ?_
  refine z_bipush hx hb dX7_field_4 (by decide +kernel) ?_
  refine lv_iload_n hx hb dX7_field_6 rfl (lv_at hl 1 rfl) ?_
  refine z_bipush hx hb dX7_field_7 (by decide +kernel) ?_
  refine z_imul hx hb dX7_field_9 ?_
  refine z_iadd hx hb dX7_field_10 ?_
  refine lv_iload_n hx hb dX7_field_11 rfl (lv_at hl 2 rfl) ?_
  refine z_iadd hx hb dX7_field_12 ?_
  refine z_ald hx hb hK hP 1 rfl (36 + 8 * t1 + w1) (by omega) (by omega) (Nat.le_of_ble_eq_true rfl) dX7_field_13 ?_
  exact W.iret hx hb hr (fun t ht hW => ⟨_, rfl, rfl, ht⟩) (fun q hq => by cases hq) dX7_field_14
set_option maxHeartbeats 4000000 in
set_option maxRecDepth 100000 in
theorem c_bits (l : Launch) (D : va_G) (k : Kt) (h0 : Nat) (c0 : Nat) (f : St) (p1 : Nat) (r1 : Nat) (hp1 : p1 < 4) (hr1 : r1 < 8) : RO l D k yX7_bits wsX7_bits 0 0 [.ref h0, .int (zI ((p1 : Nat) : Int)), .int (zI ((r1 : Nat) : Int))] [(h0, .inr (7, [.ref c0])), (c0, .inl (k.1, 132, .inl (zF f)))] (fun r => r = zI (f (4 + 8 * p1 + r1))) := by
  refine Met.ofW (cc := cX7_bits) (maxL := 3) (ret := (some .int)) (by decide) rfl ?_
  intro p e s m args below meth c s₁ Bd hml hv
  obtain ⟨rfl, hP, hK⟩ := hv
  have hx := Bd.exec
  have hb := Bd.bytes
  have hr := Bd.returns
  have hts := atoms_spec (ws := wsX7_bits) Bd.pre
  have hown : s.vm.findClass RX7 = some m.cls := findClass_of_methodNamed Bd.named
  have hlocks := Bd.notSynchronized
  have hSf : CallFix p m c cX7_bits 3 s ([.ref h0, .int (zI ((p1 : Nat) : Int)), .int (zI ((r1 : Nat) : Int))] : List Value).toArray wsX7_bits RX7 := ⟨hx, hb, hml, hown, hts⟩
  have hinX7 : ∀ w ∈ u_ws RX7 TX7 1, w ∈ wsX7_bits := by decide +kernel
  have fl11 := hts (.fieldLink RX7 11 "DotObjects$Scene" "cells" "[I") (by decide +kernel)
  have hl := lv_entry ([.ref h0, .int (zI ((p1 : Nat) : Int)), .int (zI ((r1 : Nat) : Int))]) (n := 3) (Nat.le_of_ble_eq_true rfl)
  rw [lg_entry_eq]
  generalize (lg_sl ([.ref h0, .int (zI ((p1 : Nat) : Int)), .int (zI ((r1 : Nat) : Int))]) ++ List.replicate (3 - (lg_sl ([.ref h0, .int (zI ((p1 : Nat) : Int)), .int (zI ((r1 : Nat) : Int))])).length) Slot.unset).toArray = ls at hl ⊢
  have hl : lv_has ls 3 [(0, .ref h0), (1, .int (zI ((p1 : Nat) : Int))), (2, .int (zI ((r1 : Nat) : Int)))] := hl
  refine lv_aload_n hx hb dX7_bits_0 rfl (lv_at hl 0 rfl) ?_
  refine va_get (D := D) (ci := 7) (v := .ref c0) (C := RX7) (T := TX7) (N := 1) hx hb hts hinX7 hown hK.1 hP 0 rfl rfl 0 (by decide) fl11 (fun _ h9 => h9) rfl dX7_bits_1 ?_
  refine z_iconst hx hb dX7_bits_4 ?_
  refine lv_iload_n hx hb dX7_bits_5 rfl (lv_at hl 1 rfl) ?_
  refine z_bipush hx hb dX7_bits_6 (by decide +kernel) ?_
  refine z_imul hx hb dX7_bits_8 ?_
  refine z_iadd hx hb dX7_bits_9 ?_
  refine lv_iload_n hx hb dX7_bits_10 rfl (lv_at hl 2 rfl) ?_
  refine z_iadd hx hb dX7_bits_11 ?_
  refine z_ald hx hb hK hP 1 rfl (4 + 8 * p1 + r1) (by omega) (by omega) (Nat.le_of_ble_eq_true rfl) dX7_bits_12 ?_
  exact W.iret hx hb hr (fun t ht hW => ⟨_, rfl, rfl, ht⟩) (fun q hq => by cases hq) dX7_bits_13
set_option maxHeartbeats 4000000 in
set_option maxRecDepth 100000 in
theorem c_isFull (l : Launch) (D : va_G) (k : Kt) (h0 : Nat) (c0 : Nat) (f : St) (B : Int) (hV : Va B f) : RO l D k yX7_isFull wsX7_isFull 0 0 [.ref h0] [(h0, .inr (7, [.ref c0])), (c0, .inl (k.1, 132, .inl (zF f)))] (fun r => r = zI (b2i (decide (12 ≤ nT f)))) := by
  refine Met.ofW (cc := cX7_isFull) (maxL := 1) (ret := (some .boolean)) (by decide) rfl ?_
  intro p e s m args below meth c s₁ Bd hml hv
  obtain ⟨rfl, hP, hK⟩ := hv
  have hx := Bd.exec
  have hb := Bd.bytes
  have hr := Bd.returns
  have hts := atoms_spec (ws := wsX7_isFull) Bd.pre
  have hown : s.vm.findClass RX7 = some m.cls := findClass_of_methodNamed Bd.named
  have hlocks := Bd.notSynchronized
  have hSf : CallFix p m c cX7_isFull 1 s ([.ref h0] : List Value).toArray wsX7_isFull RX7 := ⟨hx, hb, hml, hown, hts⟩
  have hinX7 : ∀ w ∈ u_ws RX7 TX7 1, w ∈ wsX7_isFull := by decide +kernel
  have fl11 := hts (.fieldLink RX7 11 "DotObjects$Scene" "cells" "[I") (by decide +kernel)
  have hl := lv_entry ([.ref h0]) (n := 1) (Nat.le_of_ble_eq_true rfl)
  rw [lg_entry_eq]
  generalize (lg_sl ([.ref h0]) ++ List.replicate (1 - (lg_sl ([.ref h0])).length) Slot.unset).toArray = ls at hl ⊢
  have hl : lv_has ls 1 [(0, .ref h0)] := hl
  have hn := hV.n
  have hv := hV.1
  refine lv_aload_n hx hb dX7_isFull_0 rfl (lv_at hl 0 rfl) ?_
  refine va_get (D := D) (ci := 7) (v := .ref c0) (C := RX7) (T := TX7) (N := 1) hx hb hts hinX7 hown hK.1 hP 0 rfl rfl 0 (by decide) fl11 (fun _ h9 => h9) rfl dX7_isFull_1 ?_
  refine z_iconst hx hb dX7_isFull_4 ?_
  refine z_ald hx hb hK hP 1 rfl (0) (by omega) (by omega) (Nat.le_of_ble_eq_true rfl) dX7_isFull_5 ?_
  refine z_bipush hx hb dX7_isFull_6 (by decide +kernel) ?_
  refine z_icmp_lt (tgt := 15) hx hb dX7_isFull_8 (by decide) (by omega) (by omega) (fun c_8 => ?_) (fun c_8 => ?_)
  · refine z_iconst hx hb dX7_isFull_15 ?_
    exact W.zret hx hb hr (by decide +kernel) (fun t ht hW => ⟨_, rfl, zc (by simp [b2i]; omega), ht⟩) (fun q hq => by cases hq) dX7_isFull_16
  · refine z_iconst hx hb dX7_isFull_11 ?_
    refine lv_goto (tgt := 16) hx hb dX7_isFull_12 (by decide) ?_
    exact W.zret hx hb hr (by decide +kernel) (fun t ht hW => ⟨_, rfl, zc (by simp [b2i]; omega), ht⟩) (fun q hq => by cases hq) dX7_isFull_16
set_option maxHeartbeats 4000000 in
set_option maxRecDepth 100000 in
theorem c_isOn (l : Launch) (D : va_G) (k : Kt) (h0 : Nat) (c0 : Nat) (f : St) (B : Int) (hV : Va B f) (t1 : Nat) (L1 : Nat) (ht1 : t1 < nT f) (hL1 : L1 < 24) : RO l D k yX7_isOn wsX7_isOn 1 22 [.ref h0, .int (zI ((t1 : Nat) : Int)), .int (zI ((L1 : Nat) : Int))] [(h0, .inr (7, [.ref c0])), (c0, .inl (k.1, 132, .inl (zF f)))] (fun r => r = zI (b2i (onL f t1 L1))) := by
  refine Met.ofW (cc := cX7_isOn) (maxL := 3) (ret := (some .boolean)) (by decide) rfl ?_
  intro p e s m args below meth c s₁ Bd hml hv
  obtain ⟨rfl, hP, hK⟩ := hv
  have hx := Bd.exec
  have hb := Bd.bytes
  have hr := Bd.returns
  have hts := atoms_spec (ws := wsX7_isOn) Bd.pre
  have hown : s.vm.findClass RX7 = some m.cls := findClass_of_methodNamed Bd.named
  have hlocks := Bd.notSynchronized
  have hSf : CallFix p m c cX7_isOn 3 s ([.ref h0, .int (zI ((t1 : Nat) : Int)), .int (zI ((L1 : Nat) : Int))] : List Value).toArray wsX7_isOn RX7 := ⟨hx, hb, hml, hown, hts⟩
  have hl := lv_entry ([.ref h0, .int (zI ((t1 : Nat) : Int)), .int (zI ((L1 : Nat) : Int))]) (n := 3) (Nat.le_of_ble_eq_true rfl)
  rw [lg_entry_eq]
  generalize (lg_sl ([.ref h0, .int (zI ((t1 : Nat) : Int)), .int (zI ((L1 : Nat) : Int))]) ++ List.replicate (3 - (lg_sl ([.ref h0, .int (zI ((t1 : Nat) : Int)), .int (zI ((L1 : Nat) : Int))])).length) Slot.unset).toArray = ls at hl ⊢
  have hl : lv_has ls 3 [(0, .ref h0), (1, .int (zI ((t1 : Nat) : Int))), (2, .int (zI ((L1 : Nat) : Int)))] := hl
  have hn := hV.n
  have hv := hV.t ht1
  refine lv_iload_n hx hb dX7_isOn_0 rfl (lv_at hl 2 rfl) ?_
  refine lv_aload_n hx hb dX7_isOn_1 rfl (lv_at hl 0 rfl) ?_
  refine lv_iload_n hx hb dX7_isOn_2 rfl (lv_at hl 1 rfl) ?_
  refine z_iconst hx hb dX7_isOn_3 ?_
  refine roV (n := 2) (As := [.int (zI ((t1 : Nat) : Int)), .int (zI ((1 : Nat) : Int))]) (rest := [.int (zI ((L1 : Nat) : Int))]) hSf (c_field l D k h0 c0 f t1 1 (by omega) (by omega)) gX7_isOn_X7_field rfl (by decide +kernel) ⟨Nat.le_of_ble_eq_true rfl, Nat.le_of_ble_eq_true rfl⟩ hK hP [0, 1] rfl 0 rfl rfl rfl hl.1 (by rw [show zI 1 = zI ((1 : Nat) : Int) from zc (by omega)]; rfl) (Nat.le_of_ble_eq_true rfl) dX7_isOn_4 ⟨Nat.zero_le _, Nat.zero_le _⟩ (fun r_4 h_4 => ?_)
  subst h_4
  refine z_isub hx hb dX7_isOn_7 ?_
  refine z_iconst hx hb dX7_isOn_8 ?_
  refine z_bipush hx hb dX7_isOn_9 (by decide +kernel) ?_
  refine roSN (n := 3) (As := [.int (zI (((L1 : Nat) : Int) - th f t1 1)), .int (zI 0), .int (zI 7)]) (rest := []) hSf (c_isWithin l D k (((L1 : Nat) : Int) - th f t1 1) 0 7 (by omega) (by omega) (by omega)) gX7_isOn_X9_isWithin_n41 rfl hK.2.1 (hts (.initialized RX9) (by decide +kernel)) (hts (.static yX9_isWithin) (by decide +kernel)) (by decide +kernel) ⟨Nat.le_of_ble_eq_true rfl, Nat.le_of_ble_eq_true rfl⟩ hK hP [] rfl rfl hl.1 rfl (Nat.le_of_ble_eq_true rfl) dX7_isOn_11 ⟨Nat.zero_le _, Nat.zero_le _⟩ (fun r_11 h_11 => ?_)
  subst h_11
  exact W.zret hx hb hr (nbb _) (fun t ht hW => ⟨_, rfl, rfl, ht⟩) (fun q hq => by cases hq) dX7_isOn_14
set_option maxHeartbeats 4000000 in
set_option maxRecDepth 100000 in
theorem c_setOn (l : Launch) (D : va_G) (k : Kt) (h0 : Nat) (c0 : Nat) (f : St) (B : Int) (hV : Va B f) (L1 : Nat) (hL1 : L1 < 24) : RO l D k yX7_setOn wsX7_setOn 2 44 [.ref h0, .int (zI ((L1 : Nat) : Int))] [(h0, .inr (7, [.ref c0])), (c0, .inl (k.1, 132, .inl (zF f)))] (fun r => r = zI ((onS f L1 : Nat) : Int)) := by
  refine Met.ofW (cc := cX7_setOn) (maxL := 4) (ret := (some .int)) (by decide) rfl ?_
  intro p e s m args below meth c s₁ Bd hml hv
  obtain ⟨rfl, hP, hK⟩ := hv
  have hx := Bd.exec
  have hb := Bd.bytes
  have hr := Bd.returns
  have hts := atoms_spec (ws := wsX7_setOn) Bd.pre
  have hown : s.vm.findClass RX7 = some m.cls := findClass_of_methodNamed Bd.named
  have hlocks := Bd.notSynchronized
  have hSf : CallFix p m c cX7_setOn 4 s ([.ref h0, .int (zI ((L1 : Nat) : Int))] : List Value).toArray wsX7_setOn RX7 := ⟨hx, hb, hml, hown, hts⟩
  have hinX7 : ∀ w ∈ u_ws RX7 TX7 1, w ∈ wsX7_setOn := by decide +kernel
  have fl11 := hts (.fieldLink RX7 11 "DotObjects$Scene" "cells" "[I") (by decide +kernel)
  have hl := lv_entry ([.ref h0, .int (zI ((L1 : Nat) : Int))]) (n := 4) (Nat.le_of_ble_eq_true rfl)
  rw [lg_entry_eq]
  generalize (lg_sl ([.ref h0, .int (zI ((L1 : Nat) : Int))]) ++ List.replicate (4 - (lg_sl ([.ref h0, .int (zI ((L1 : Nat) : Int))])).length) Slot.unset).toArray = ls at hl ⊢
  have hl : lv_has ls 4 [(0, .ref h0), (1, .int (zI ((L1 : Nat) : Int)))] := hl
  have hn := hV.n
  refine z_iconst hx hb dX7_setOn_0 ?_
  refine lv_istore_n (lv' := [(2, .int (zI 0)), (0, .ref h0), (1, .int (zI ((L1 : Nat) : Int)))]) hx hb dX7_setOn_1 rfl hl (by decide) rfl (fun ls hl => ?_)
  refine z_iconst hx hb dX7_setOn_2 ?_
  refine lv_istore_n (lv' := [(3, .int (zI 0)), (2, .int (zI 0)), (0, .ref h0), (1, .int (zI ((L1 : Nat) : Int)))]) hx hb dX7_setOn_3 rfl hl (by decide) rfl (fun ls hl => ?_)
  have L4 : ∀ (NN4 : Nat), ∀ (t : Nat), (t ≤ nT f) → nT f - t < NN4 → ∀ (ls : Array Slot), lv_has ls 4 [(0, .ref h0), (1, .int (zI ((L1 : Nat) : Int))), (2, .int (zI ((setP (fun u => onL f u L1) t : Nat) : Int))), (3, .int (zI ((t : Nat) : Int)))] → W p l e (headSpec wsX7_setOn { frames := 2, cells := 0, slots := 0, locals := 44 }).room s m ([.ref h0, .int (zI ((L1 : Nat) : Int))] : List Value).toArray below meth c s.heap [] 0 0 (MQ below (vp_Si (fun r => r = zI ((onS f L1 : Nat) : Int))) ([.ref h0, .int (zI ((L1 : Nat) : Int))] : List Value).toArray s 0 0 (fun _ => False)) (F0 m 4 ls []) := by
    intro NN4
    induction NN4 with
    | zero => intro t _ hN; exact absurd hN (Nat.not_lt_zero _)
    | succ NN4 ih4 =>
      intro t ht hN ls hl
      refine lv_iload_n hx hb dX7_setOn_4 rfl (lv_at hl 3 rfl) ?_
      refine lv_aload_n hx hb dX7_setOn_5 rfl (lv_at hl 0 rfl) ?_
      refine va_get (D := D) (ci := 7) (v := .ref c0) (C := RX7) (T := TX7) (N := 1) hx hb hts hinX7 hown hK.1 hP 0 rfl rfl 0 (by decide) fl11 (fun _ h9 => h9) rfl dX7_setOn_6 ?_
      refine z_iconst hx hb dX7_setOn_9 ?_
      refine z_ald hx hb hK hP 1 rfl (0) (by omega) (by omega) (Nat.le_of_ble_eq_true rfl) dX7_setOn_10 ?_
      refine z_icmp_ge (tgt := 35) hx hb dX7_setOn_11 (by decide) (by omega) (by omega) (fun c_11 => ?_) (fun c_11 => ?_)
      · obtain rfl : t = nT f := by omega
        refine lv_iload_n hx hb dX7_setOn_35 rfl (lv_at hl 2 rfl) ?_
        exact W.iret hx hb hr (fun t ht hW => ⟨_, rfl, rfl, ht⟩) (fun q hq => by cases hq) dX7_setOn_36
      · refine lv_aload_n hx hb dX7_setOn_14 rfl (lv_at hl 0 rfl) ?_
        refine lv_iload_n hx hb dX7_setOn_15 rfl (lv_at hl 3 rfl) ?_
        refine lv_iload_n hx hb dX7_setOn_16 rfl (lv_at hl 1 rfl) ?_
        refine roV (n := 2) (As := [.int (zI ((t : Nat) : Int)), .int (zI ((L1 : Nat) : Int))]) (rest := []) hSf (c_isOn l D k h0 c0 f B hV t L1 (by omega) hL1) gX7_setOn_X7_isOn rfl (by decide +kernel) ⟨Nat.le_of_ble_eq_true rfl, Nat.le_of_ble_eq_true rfl⟩ hK hP [0, 1] rfl 0 rfl rfl rfl hl.1 rfl (Nat.le_of_ble_eq_true rfl) dX7_setOn_17 ⟨Nat.zero_le _, Nat.zero_le _⟩ (fun r_17 h_17 => ?_)
        subst h_17
        refine z_if_eqb (tgt := 29) hx hb dX7_setOn_20 (by decide) (fun c_20 => ?_) (fun c_20 => ?_)
        · refine lv_iinc (v := zI (((t : Nat) : Int) + 1)) (lv' := [(3, .int (zI (((t : Nat) : Int) + 1))), (0, .ref h0), (1, .int (zI ((L1 : Nat) : Int))), (2, .int (zI ((setP (fun u => onL f u L1) t : Nat) : Int)))]) hx hb dX7_setOn_29 hl (k := 3) rfl (zI_add _ _) (by decide) rfl (fun ls hl => ?_)
          refine lv_goto (tgt := 4) hx hb dX7_setOn_32 (by decide) ?_
          have hl : lv_has ls 4 [(3, .int (zI (((t : Nat) : Int) + 1))), (0, .ref h0), (1, .int (zI ((L1 : Nat) : Int))), (2, .int (zI ((setP (fun u => onL f u L1) (t + 1) : Nat) : Int)))] := lv_c (l1 := [(3, .int (zI (((t : Nat) : Int) + 1))), (0, .ref h0), (1, .int (zI ((L1 : Nat) : Int)))]) (l2 := []) hl (show ((setP (fun u => onL f u L1) t : Nat) : Int) = ((setP (fun u => onL f u L1) (t + 1) : Nat) : Int) from by first | exact congrArg Nat.cast (setP_t (p := (fun u => onL f u L1)) c_20) | exact congrArg Nat.cast (setP_f (p := (fun u => onL f u L1)) c_20))
          have hl : lv_has ls 4 [(3, .int (zI (((t + 1) : Nat) : Int))), (0, .ref h0), (1, .int (zI ((L1 : Nat) : Int))), (2, .int (zI ((setP (fun u => onL f u L1) (t + 1) : Nat) : Int)))] := lv_c (l1 := []) (l2 := [(0, .ref h0), (1, .int (zI ((L1 : Nat) : Int))), (2, .int (zI ((setP (fun u => onL f u L1) (t + 1) : Nat) : Int)))]) hl (show ((t : Nat) : Int) + 1 = (((t + 1) : Nat) : Int) from by omega)
          exact ih4 (t + 1) (by omega) (by omega) ls (lv_sub hl [1, 2, 3, 0] rfl)
        · refine lv_iload_n hx hb dX7_setOn_23 rfl (lv_at hl 2 rfl) ?_
          refine z_iconst hx hb dX7_setOn_24 ?_
          refine lv_iload_n hx hb dX7_setOn_25 rfl (lv_at hl 3 rfl) ?_
          refine z_ishl hx hb dX7_setOn_26 (1) (t) (by omega) (by omega) (by omega) (sh1_lt (n := 12) (by omega) (by decide)) ?_
          refine z_ior hx hb dX7_setOn_27 (setP (fun u => onL f u L1) t) (1 <<< t) (by omega) (by omega) ?_
          refine lv_istore_n (lv' := [(2, .int (zI (((setP (fun u => onL f u L1) t) ||| (1 <<< t) : Nat) : Int))), (0, .ref h0), (1, .int (zI ((L1 : Nat) : Int))), (3, .int (zI ((t : Nat) : Int)))]) hx hb dX7_setOn_28 rfl hl (by decide) rfl (fun ls hl => ?_)
          refine lv_iinc (v := zI (((t : Nat) : Int) + 1)) (lv' := [(3, .int (zI (((t : Nat) : Int) + 1))), (2, .int (zI (((setP (fun u => onL f u L1) t) ||| (1 <<< t) : Nat) : Int))), (0, .ref h0), (1, .int (zI ((L1 : Nat) : Int)))]) hx hb dX7_setOn_29 hl (k := 3) rfl (zI_add _ _) (by decide) rfl (fun ls hl => ?_)
          refine lv_goto (tgt := 4) hx hb dX7_setOn_32 (by decide) ?_
          have hl : lv_has ls 4 [(3, .int (zI (((t : Nat) : Int) + 1))), (2, .int (zI ((setP (fun u => onL f u L1) (t + 1) : Nat) : Int))), (0, .ref h0), (1, .int (zI ((L1 : Nat) : Int)))] := lv_c (l1 := [(3, .int (zI (((t : Nat) : Int) + 1)))]) (l2 := [(0, .ref h0), (1, .int (zI ((L1 : Nat) : Int)))]) hl (show (((setP (fun u => onL f u L1) t) ||| (1 <<< t) : Nat) : Int) = ((setP (fun u => onL f u L1) (t + 1) : Nat) : Int) from by first | exact congrArg Nat.cast (setP_t (p := (fun u => onL f u L1)) c_20) | exact congrArg Nat.cast (setP_f (p := (fun u => onL f u L1)) c_20))
          have hl : lv_has ls 4 [(3, .int (zI (((t + 1) : Nat) : Int))), (2, .int (zI ((setP (fun u => onL f u L1) (t + 1) : Nat) : Int))), (0, .ref h0), (1, .int (zI ((L1 : Nat) : Int)))] := lv_c (l1 := []) (l2 := [(2, .int (zI ((setP (fun u => onL f u L1) (t + 1) : Nat) : Int))), (0, .ref h0), (1, .int (zI ((L1 : Nat) : Int)))]) hl (show ((t : Nat) : Int) + 1 = (((t + 1) : Nat) : Int) from by omega)
          exact ih4 (t + 1) (by omega) (by omega) ls (lv_sub hl [2, 3, 1, 0] rfl)
  have hl : lv_has ls 4 [(3, .int (zI 0)), (2, .int (zI ((setP (fun u => onL f u L1) 0 : Nat) : Int))), (0, .ref h0), (1, .int (zI ((L1 : Nat) : Int)))] := lv_c (l1 := [(3, .int (zI 0))]) (l2 := [(0, .ref h0), (1, .int (zI ((L1 : Nat) : Int)))]) hl (show 0 = ((setP (fun u => onL f u L1) 0 : Nat) : Int) from rfl)
  have hl : lv_has ls 4 [(3, .int (zI ((0 : Nat) : Int))), (2, .int (zI ((setP (fun u => onL f u L1) 0 : Nat) : Int))), (0, .ref h0), (1, .int (zI ((L1 : Nat) : Int)))] := lv_c (l1 := []) (l2 := [(2, .int (zI ((setP (fun u => onL f u L1) 0 : Nat) : Int))), (0, .ref h0), (1, .int (zI ((L1 : Nat) : Int)))]) hl (show 0 = ((0 : Nat) : Int) from rfl)
  exact L4 _ 0 (Nat.zero_le _) (Nat.lt_succ_self _) ls (lv_sub hl [2, 3, 1, 0] rfl)
