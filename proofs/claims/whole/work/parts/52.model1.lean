set_option maxHeartbeats 4000000 in
set_option maxRecDepth 100000 in
theorem m_in (l : Launch) (D : va_G) (k : Kt) (v1 : Int) (v2 : Int) (v3 : Int) (hv1 : -2147483648 ≤ v1 ∧ v1 < 2147483648) (hv2 : -2147483648 ≤ v2 ∧ v2 < 2147483648) (hv3 : -2147483648 ≤ v3 ∧ v3 < 2147483648) : RO l D k yX10_in wsX10_in 0 0 [.int (zI v1), .int (zI v2), .int (zI v3)] [] (fun r => r = zI (b2i (decide (v2 ≤ v1) && decide (v1 ≤ v3)))) := by
  refine Met.ofW (cc := cX10_in) (maxL := 3) (ret := (some .boolean)) (by decide) rfl ?_
  intro p e s m args below meth c s₁ Bd hml hv
  obtain ⟨rfl, hP, hK⟩ := hv
  have hx := Bd.exec
  have hb := Bd.bytes
  have hr := Bd.returns
  have hts := atoms_spec (ws := wsX10_in) Bd.pre
  have hown : s.vm.findClass RX10 = some m.cls := findClass_of_methodNamed Bd.named
  have hlocks := Bd.notSynchronized
  have hSf : CallFix p m c cX10_in 3 s ([.int (zI v1), .int (zI v2), .int (zI v3)] : List Value).toArray wsX10_in RX10 := ⟨hx, hb, hml, hown, hts⟩
  have hl := lv_entry ([.int (zI v1), .int (zI v2), .int (zI v3)]) (n := 3) (Nat.le_of_ble_eq_true rfl)
  rw [lg_entry_eq]
  generalize (lg_sl ([.int (zI v1), .int (zI v2), .int (zI v3)]) ++ List.replicate (3 - (lg_sl ([.int (zI v1), .int (zI v2), .int (zI v3)])).length) Slot.unset).toArray = ls at hl ⊢
  have hl : lv_has ls 3 [(0, .int (zI v1)), (1, .int (zI v2)), (2, .int (zI v3))] := hl
  refine lv_iload_n hx hb dX10_in_0 rfl (lv_at hl 0 rfl) ?_
  refine lv_iload_n hx hb dX10_in_1 rfl (lv_at hl 1 rfl) ?_
  refine z_icmp_lt (tgt := 14) hx hb dX10_in_2 (by decide) (by omega) (by omega) (fun c_2 => ?_) (fun c_2 => ?_)
  · refine z_iconst hx hb dX10_in_14 ?_
    exact W.zret hx hb hr (by decide +kernel) (fun t ht hW => ⟨_, rfl, zc (by simp [b2i]; omega), ht⟩) (fun q hq => by cases hq) dX10_in_15
  · refine lv_iload_n hx hb dX10_in_5 rfl (lv_at hl 0 rfl) ?_
    refine lv_iload_n hx hb dX10_in_6 rfl (lv_at hl 2 rfl) ?_
    refine z_icmp_gt (tgt := 14) hx hb dX10_in_7 (by decide) (by omega) (by omega) (fun c_7 => ?_) (fun c_7 => ?_)
    · refine z_iconst hx hb dX10_in_14 ?_
      exact W.zret hx hb hr (by decide +kernel) (fun t ht hW => ⟨_, rfl, zc (by simp [b2i]; omega), ht⟩) (fun q hq => by cases hq) dX10_in_15
    · refine z_iconst hx hb dX10_in_10 ?_
      refine lv_goto (tgt := 15) hx hb dX10_in_11 (by decide) ?_
      exact W.zret hx hb hr (by decide +kernel) (fun t ht hW => ⟨_, rfl, zc (by simp [b2i]; omega), ht⟩) (fun q hq => by cases hq) dX10_in_15
set_option maxHeartbeats 4000000 in
set_option maxRecDepth 100000 in
theorem m_has (l : Launch) (D : va_G) (k : Kt) (a1 : Nat) (k1 : Nat) (ha1 : a1 < 2147483648) (hk1 : k1 < 32) : RO l D k yX10_has wsX10_has 0 0 [.int (zI ((a1 : Nat) : Int)), .int (zI ((k1 : Nat) : Int))] [] (fun r => r = zI (b2i (a1.testBit k1))) := by
  refine Met.ofW (cc := cX10_has) (maxL := 2) (ret := (some .boolean)) (by decide) rfl ?_
  intro p e s m args below meth c s₁ Bd hml hv
  obtain ⟨rfl, hP, hK⟩ := hv
  have hx := Bd.exec
  have hb := Bd.bytes
  have hr := Bd.returns
  have hts := atoms_spec (ws := wsX10_has) Bd.pre
  have hown : s.vm.findClass RX10 = some m.cls := findClass_of_methodNamed Bd.named
  have hlocks := Bd.notSynchronized
  have hSf : CallFix p m c cX10_has 2 s ([.int (zI ((a1 : Nat) : Int)), .int (zI ((k1 : Nat) : Int))] : List Value).toArray wsX10_has RX10 := ⟨hx, hb, hml, hown, hts⟩
  have hl := lv_entry ([.int (zI ((a1 : Nat) : Int)), .int (zI ((k1 : Nat) : Int))]) (n := 2) (Nat.le_of_ble_eq_true rfl)
  rw [lg_entry_eq]
  generalize (lg_sl ([.int (zI ((a1 : Nat) : Int)), .int (zI ((k1 : Nat) : Int))]) ++ List.replicate (2 - (lg_sl ([.int (zI ((a1 : Nat) : Int)), .int (zI ((k1 : Nat) : Int))])).length) Slot.unset).toArray = ls at hl ⊢
  have hl : lv_has ls 2 [(0, .int (zI ((a1 : Nat) : Int))), (1, .int (zI ((k1 : Nat) : Int)))] := hl
  have hb1 := Bool.toNat_le (a1.testBit k1)
  refine lv_iload_n hx hb dX10_has_0 rfl (lv_at hl 0 rfl) ?_
  refine lv_iload_n hx hb dX10_has_1 rfl (lv_at hl 1 rfl) ?_
  refine z_ishr hx hb dX10_has_2 (a1) (k1) (by omega) (by omega) (by omega) (by omega) ?_
  refine z_iconst hx hb dX10_has_3 ?_
  refine z_iand hx hb dX10_has_4 (a1 >>> k1) (1) (by omega) (by omega) ?_
  refine te (zc (show (((a1 >>> k1) &&& 1 : Nat) : Int) = (((a1.testBit k1).toNat : Nat) : Int) from by rw [bit1])) ?_
  refine z_iconst hx hb dX10_has_5 ?_
  refine z_icmp_ne (tgt := 13) hx hb dX10_has_6 (by decide) (by omega) (by omega) (fun c_6 => ?_) (fun c_6 => ?_)
  · refine z_iconst hx hb dX10_has_13 ?_
    exact W.zret hx hb hr (by decide +kernel) (fun t ht hW => ⟨_, rfl, zc (by cases hh : a1.testBit k1 <;> simp_all [b2i]), ht⟩) (fun q hq => by cases hq) dX10_has_14
  · refine z_iconst hx hb dX10_has_9 ?_
    refine lv_goto (tgt := 14) hx hb dX10_has_10 (by decide) ?_
    exact W.zret hx hb hr (by decide +kernel) (fun t ht hW => ⟨_, rfl, zc (by cases hh : a1.testBit k1 <;> simp_all [b2i]), ht⟩) (fun q hq => by cases hq) dX10_has_14
set_option maxHeartbeats 4000000 in
set_option maxRecDepth 100000 in
theorem m_ones (l : Launch) (D : va_G) (k : Kt) (a1 : Nat) (ha1 : a1 < 2147483648) : RO l D k yX10_ones wsX10_ones 0 0 [.int (zI ((a1 : Nat) : Int))] [] (fun r => r = zI ((ct (fun i => a1.testBit i) 24 : Nat) : Int)) := by
  refine Met.ofW (cc := cX10_ones) (maxL := 3) (ret := (some .int)) (by decide) rfl ?_
  intro p e s m args below meth c s₁ Bd hml hv
  obtain ⟨rfl, hP, hK⟩ := hv
  have hx := Bd.exec
  have hb := Bd.bytes
  have hr := Bd.returns
  have hts := atoms_spec (ws := wsX10_ones) Bd.pre
  have hown : s.vm.findClass RX10 = some m.cls := findClass_of_methodNamed Bd.named
  have hlocks := Bd.notSynchronized
  have hSf : CallFix p m c cX10_ones 3 s ([.int (zI ((a1 : Nat) : Int))] : List Value).toArray wsX10_ones RX10 := ⟨hx, hb, hml, hown, hts⟩
  have hl := lv_entry ([.int (zI ((a1 : Nat) : Int))]) (n := 3) (Nat.le_of_ble_eq_true rfl)
  rw [lg_entry_eq]
  generalize (lg_sl ([.int (zI ((a1 : Nat) : Int))]) ++ List.replicate (3 - (lg_sl ([.int (zI ((a1 : Nat) : Int))])).length) Slot.unset).toArray = ls at hl ⊢
  have hl : lv_has ls 3 [(0, .int (zI ((a1 : Nat) : Int)))] := hl
  refine z_iconst hx hb dX10_ones_0 ?_
  refine lv_istore_n (lv' := [(1, .int (zI 0)), (0, .int (zI ((a1 : Nat) : Int)))]) hx hb dX10_ones_1 rfl hl (by decide) rfl (fun ls hl => ?_)
  refine z_iconst hx hb dX10_ones_2 ?_
  refine lv_istore_n (lv' := [(2, .int (zI 0)), (1, .int (zI 0)), (0, .int (zI ((a1 : Nat) : Int)))]) hx hb dX10_ones_3 rfl hl (by decide) rfl (fun ls hl => ?_)
  have L4 : ∀ (NN4 : Nat), ∀ (jj : Nat), (jj ≤ 24) → 24 - jj < NN4 → ∀ (ls : Array Slot), lv_has ls 3 [(0, .int (zI ((a1 : Nat) : Int))), (1, .int (zI ((ct (fun i => a1.testBit i) jj : Nat) : Int))), (2, .int (zI ((jj : Nat) : Int)))] → W p l e (headSpec wsX10_ones { frames := 0, cells := 0, slots := 0, locals := 0 }).room s m ([.int (zI ((a1 : Nat) : Int))] : List Value).toArray below meth c s.heap [] 0 0 (MQ below (vp_Si (fun r => r = zI ((ct (fun i => a1.testBit i) 24 : Nat) : Int))) ([.int (zI ((a1 : Nat) : Int))] : List Value).toArray s 0 0 (fun _ => False)) (F0 m 4 ls []) := by
    intro NN4
    induction NN4 with
    | zero => intro jj _ hN; exact absurd hN (Nat.not_lt_zero _)
    | succ NN4 ih4 =>
      intro jj hjj hN ls hl
      refine lv_iload_n hx hb dX10_ones_4 rfl (lv_at hl 2 rfl) ?_
      refine z_bipush hx hb dX10_ones_5 (by decide +kernel) ?_
      refine z_icmp_ge (tgt := 24) hx hb dX10_ones_7 (by decide) (by omega) (by omega) (fun c_7 => ?_) (fun c_7 => ?_)
      · obtain rfl : jj = 24 := by omega
        refine lv_iload_n hx hb dX10_ones_24 rfl (lv_at hl 1 rfl) ?_
        exact W.iret hx hb hr (fun t ht hW => ⟨_, rfl, rfl, ht⟩) (fun q hq => by cases hq) dX10_ones_25
      · refine lv_iload_n hx hb dX10_ones_10 rfl (lv_at hl 1 rfl) ?_
        refine lv_iload_n hx hb dX10_ones_11 rfl (lv_at hl 0 rfl) ?_
        refine lv_iload_n hx hb dX10_ones_12 rfl (lv_at hl 2 rfl) ?_
        refine z_ishr hx hb dX10_ones_13 (a1) (jj) (by omega) (by omega) (by omega) (by omega) ?_
        refine z_iconst hx hb dX10_ones_14 ?_
        refine z_iand hx hb dX10_ones_15 (a1 >>> jj) (1) (by omega) (by omega) ?_
        refine te (zc (show (((a1 >>> jj) &&& 1 : Nat) : Int) = (((a1.testBit jj).toNat : Nat) : Int) from by rw [bit1])) ?_
        refine z_iadd hx hb dX10_ones_16 ?_
        refine lv_istore_n (lv' := [(1, .int (zI (((ct (fun i => a1.testBit i) jj : Nat) : Int) + (((a1.testBit jj).toNat : Nat) : Int)))), (0, .int (zI ((a1 : Nat) : Int))), (2, .int (zI ((jj : Nat) : Int)))]) hx hb dX10_ones_17 rfl hl (by decide) rfl (fun ls hl => ?_)
        refine lv_iinc (v := zI (((jj : Nat) : Int) + 1)) (lv' := [(2, .int (zI (((jj : Nat) : Int) + 1))), (1, .int (zI (((ct (fun i => a1.testBit i) jj : Nat) : Int) + (((a1.testBit jj).toNat : Nat) : Int)))), (0, .int (zI ((a1 : Nat) : Int)))]) hx hb dX10_ones_18 hl (k := 2) rfl (zI_add _ _) (by decide) rfl (fun ls hl => ?_)
        refine lv_goto (tgt := 4) hx hb dX10_ones_21 (by decide) ?_
        have hl : lv_has ls 3 [(2, .int (zI (((jj : Nat) : Int) + 1))), (1, .int (zI ((ct (fun i => a1.testBit i) (jj + 1) : Nat) : Int))), (0, .int (zI ((a1 : Nat) : Int)))] := lv_c (l1 := [(2, .int (zI (((jj : Nat) : Int) + 1)))]) (l2 := [(0, .int (zI ((a1 : Nat) : Int)))]) hl (show ((ct (fun i => a1.testBit i) jj : Nat) : Int) + (((a1.testBit jj).toNat : Nat) : Int) = ((ct (fun i => a1.testBit i) (jj + 1) : Nat) : Int) from by rw [ct]; omega)
        have hl : lv_has ls 3 [(2, .int (zI (((jj + 1) : Nat) : Int))), (1, .int (zI ((ct (fun i => a1.testBit i) (jj + 1) : Nat) : Int))), (0, .int (zI ((a1 : Nat) : Int)))] := lv_c (l1 := []) (l2 := [(1, .int (zI ((ct (fun i => a1.testBit i) (jj + 1) : Nat) : Int))), (0, .int (zI ((a1 : Nat) : Int)))]) hl (show ((jj : Nat) : Int) + 1 = (((jj + 1) : Nat) : Int) from by omega)
        exact ih4 (jj + 1) (by omega) (by omega) ls (lv_sub hl [2, 1, 0] rfl)
  have hl : lv_has ls 3 [(2, .int (zI 0)), (1, .int (zI ((ct (fun i => a1.testBit i) 0 : Nat) : Int))), (0, .int (zI ((a1 : Nat) : Int)))] := lv_c (l1 := [(2, .int (zI 0))]) (l2 := [(0, .int (zI ((a1 : Nat) : Int)))]) hl (show 0 = ((ct (fun i => a1.testBit i) 0 : Nat) : Int) from rfl)
  have hl : lv_has ls 3 [(2, .int (zI ((0 : Nat) : Int))), (1, .int (zI ((ct (fun i => a1.testBit i) 0 : Nat) : Int))), (0, .int (zI ((a1 : Nat) : Int)))] := lv_c (l1 := []) (l2 := [(1, .int (zI ((ct (fun i => a1.testBit i) 0 : Nat) : Int))), (0, .int (zI ((a1 : Nat) : Int)))]) hl (show 0 = ((0 : Nat) : Int) from rfl)
  exact L4 _ 0 (by decide) (Nat.lt_succ_self _) ls (lv_sub hl [2, 1, 0] rfl)
set_option maxHeartbeats 4000000 in
set_option maxRecDepth 100000 in
theorem m_isThing (l : Launch) (D : va_G) (k : Kt) (q0 : Nat) (qn : Nat) (qa : Nat) (qp : Nat) (qi : Nat) (qs : Nat) (qk : Nat) (qb : Nat) (qt : Nat) (qh : Nat) (qe : Nat) (de : Nat) (sv : Int) (bn : Nat) (f : St) (B : Int) (hV : Va B f) (hB : B < 1000000) (v1 : Int) (hv1 : -2147483648 ≤ v1 ∧ v1 < 2147483648) : RO l D k yX10_isThing wsX10_isThing 1 22 [.ref q0, .int (zI v1)] [(q0, .inr (10, [.ref qn, .ref qa, .ref qp, .int (zI ((de : Nat) : Int)), .ref qi, .ref qs, .ref qk, .long (zL sv), .ref qb, .int (zI ((bn : Nat) : Int)), .ref qt, .ref qh, .ref qe])), (qn, .inl (k.1, 132, .inl (zF f)))] (fun r => r = zI (b2i (decide (0 ≤ v1) && decide (v1 ≤ f 0 - 1)))) := by
  refine Met.ofW (cc := cX10_isThing) (maxL := 2) (ret := (some .boolean)) (by decide) rfl ?_
  intro p e s m args below meth c s₁ Bd hml hv
  obtain ⟨rfl, hP, hK⟩ := hv
  have hx := Bd.exec
  have hb := Bd.bytes
  have hr := Bd.returns
  have hts := atoms_spec (ws := wsX10_isThing) Bd.pre
  have hown : s.vm.findClass RX10 = some m.cls := findClass_of_methodNamed Bd.named
  have hlocks := Bd.notSynchronized
  have hSf : CallFix p m c cX10_isThing 2 s ([.ref q0, .int (zI v1)] : List Value).toArray wsX10_isThing RX10 := ⟨hx, hb, hml, hown, hts⟩
  have hinX10 : ∀ w ∈ u_ws RX10 TX10 13, w ∈ wsX10_isThing := by decide +kernel
  have fl7 := hts (.fieldLink RX10 7 "DotObjectsModel" "now" "[I") (by decide +kernel)
  have hl := lv_entry ([.ref q0, .int (zI v1)]) (n := 2) (Nat.le_of_ble_eq_true rfl)
  rw [lg_entry_eq]
  generalize (lg_sl ([.ref q0, .int (zI v1)]) ++ List.replicate (2 - (lg_sl ([.ref q0, .int (zI v1)])).length) Slot.unset).toArray = ls at hl ⊢
  have hl : lv_has ls 2 [(0, .ref q0), (1, .int (zI v1))] := hl
  have hv0 := hV.1
  refine lv_iload_n hx hb dX10_isThing_0 rfl (lv_at hl 1 rfl) ?_
  refine z_iconst hx hb dX10_isThing_1 ?_
  refine lv_aload_n hx hb dX10_isThing_2 rfl (lv_at hl 0 rfl) ?_
  refine va_get (D := D) (ci := 10) (v := .ref qn) (C := RX10) (T := TX10) (N := 13) hx hb hts hinX10 hown hK.1 hP 0 rfl rfl 0 (by decide) fl7 (fun _ h9 => h9) rfl dX10_isThing_3 ?_
  refine z_iconst hx hb dX10_isThing_6 ?_
  refine z_ald hx hb hK hP 1 rfl (0) (by omega) (by omega) (Nat.le_of_ble_eq_true rfl) dX10_isThing_7 ?_
  refine z_iconst hx hb dX10_isThing_8 ?_
  refine z_isub hx hb dX10_isThing_9 ?_
  refine roS (n := 3) (As := [.int (zI v1), .int (zI 0), .int (zI (f 0 - 1))]) (rest := []) hSf (m_in l D k v1 0 (f 0 - 1) (by omega) (by omega) (by omega)) gX10_isThing_X10_in rfl (by decide +kernel) ⟨Nat.le_of_ble_eq_true rfl, Nat.le_of_ble_eq_true rfl⟩ hK hP [] rfl rfl hl.1 rfl (Nat.le_of_ble_eq_true rfl) dX10_isThing_10 ⟨Nat.zero_le _, Nat.zero_le _⟩ (fun r_10 h_10 => ?_)
  subst h_10
  exact W.zret hx hb hr (nbb _) (fun t ht hW => ⟨_, rfl, rfl, ht⟩) (fun q hq => by cases hq) dX10_isThing_13
set_option maxHeartbeats 4000000 in
set_option maxRecDepth 100000 in
theorem m_of (l : Launch) (D : va_G) (k : Kt) (q0 : Nat) (qn : Nat) (qa : Nat) (qp : Nat) (qi : Nat) (qs : Nat) (qk : Nat) (qb : Nat) (qt : Nat) (qh : Nat) (qe : Nat) (de : Nat) (sv : Int) (bn : Nat) (f : St) (t1 : Nat) (w1 : Nat) (ht1 : t1 < 12) (hw1 : w1 < 8) : RO l D k yX10_of wsX10_of 0 0 [.ref q0, .int (zI ((t1 : Nat) : Int)), .int (zI ((w1 : Nat) : Int))] [(q0, .inr (10, [.ref qn, .ref qa, .ref qp, .int (zI ((de : Nat) : Int)), .ref qi, .ref qs, .ref qk, .long (zL sv), .ref qb, .int (zI ((bn : Nat) : Int)), .ref qt, .ref qh, .ref qe])), (qn, .inl (k.1, 132, .inl (zF f)))] (fun r => r = zI (th f t1 w1)) := by
  refine Met.ofW (cc := cX10_of) (maxL := 3) (ret := (some .int)) (by decide) rfl ?_
  intro p e s m args below meth c s₁ Bd hml hv
  obtain ⟨rfl, hP, hK⟩ := hv
  have hx := Bd.exec
  have hb := Bd.bytes
  have hr := Bd.returns
  have hts := atoms_spec (ws := wsX10_of) Bd.pre
  have hown : s.vm.findClass RX10 = some m.cls := findClass_of_methodNamed Bd.named
  have hlocks := Bd.notSynchronized
  have hSf : CallFix p m c cX10_of 3 s ([.ref q0, .int (zI ((t1 : Nat) : Int)), .int (zI ((w1 : Nat) : Int))] : List Value).toArray wsX10_of RX10 := ⟨hx, hb, hml, hown, hts⟩
  have hinX10 : ∀ w ∈ u_ws RX10 TX10 13, w ∈ wsX10_of := by decide +kernel
  have fl7 := hts (.fieldLink RX10 7 "DotObjectsModel" "now" "[I") (by decide +kernel)
  have hl := lv_entry ([.ref q0, .int (zI ((t1 : Nat) : Int)), .int (zI ((w1 : Nat) : Int))]) (n := 3) (Nat.le_of_ble_eq_true rfl)
  rw [lg_entry_eq]
  generalize (lg_sl ([.ref q0, .int (zI ((t1 : Nat) : Int)), .int (zI ((w1 : Nat) : Int))]) ++ List.replicate (3 - (lg_sl ([.ref q0, .int (zI ((t1 : Nat) : Int)), .int (zI ((w1 : Nat) : Int))])).length) Slot.unset).toArray = ls at hl ⊢
  have hl : lv_has ls 3 [(0, .ref q0), (1, .int (zI ((t1 : Nat) : Int))), (2, .int (zI ((w1 : Nat) : Int)))] := hl
  refine lv_aload_n hx hb dX10_of_0 rfl (lv_at hl 0 rfl) ?_
  refine va_get (D := D) (ci := 10) (v := .ref qn) (C := RX10) (T := TX10) (N := 13) hx hb hts hinX10 hown hK.1 hP 0 rfl rfl 0 (by decide) fl7 (fun _ h9 => h9) rfl dX10_of_1 ?_
  refine z_bipush hx hb dX10_of_4 (by decide +kernel) ?_
  refine z_bipush hx hb dX10_of_6 (by decide +kernel) ?_
  refine lv_iload_n hx hb dX10_of_8 rfl (lv_at hl 1 rfl) ?_
  refine z_imul hx hb dX10_of_9 ?_
  refine z_iadd hx hb dX10_of_10 ?_
  refine lv_iload_n hx hb dX10_of_11 rfl (lv_at hl 2 rfl) ?_
  refine z_iadd hx hb dX10_of_12 ?_
  refine z_ald hx hb hK hP 1 rfl (36 + 8 * t1 + w1) (by omega) (by omega) (Nat.le_of_ble_eq_true rfl) dX10_of_13 ?_
  exact W.iret hx hb hr (fun t ht hW => ⟨_, rfl, rfl, ht⟩) (fun q hq => by cases hq) dX10_of_14
set_option maxHeartbeats 4000000 in
set_option maxRecDepth 100000 in
theorem m_isOn (l : Launch) (D : va_G) (k : Kt) (q0 : Nat) (qn : Nat) (qa : Nat) (qp : Nat) (qi : Nat) (qs : Nat) (qk : Nat) (qb : Nat) (qt : Nat) (qh : Nat) (qe : Nat) (de : Nat) (sv : Int) (bn : Nat) (f : St) (B : Int) (hV : Va B f) (hB : B < 1000000) (t1 : Nat) (L1 : Nat) (ht1 : t1 < nT f) (hL1 : L1 < 24) : RO l D k yX10_isOn wsX10_isOn 1 22 [.ref q0, .int (zI ((t1 : Nat) : Int)), .int (zI ((L1 : Nat) : Int))] [(q0, .inr (10, [.ref qn, .ref qa, .ref qp, .int (zI ((de : Nat) : Int)), .ref qi, .ref qs, .ref qk, .long (zL sv), .ref qb, .int (zI ((bn : Nat) : Int)), .ref qt, .ref qh, .ref qe])), (qn, .inl (k.1, 132, .inl (zF f)))] (fun r => r = zI (b2i (onL f t1 L1))) := by
  refine Met.ofW (cc := cX10_isOn) (maxL := 3) (ret := (some .boolean)) (by decide) rfl ?_
  intro p e s m args below meth c s₁ Bd hml hv
  obtain ⟨rfl, hP, hK⟩ := hv
  have hx := Bd.exec
  have hb := Bd.bytes
  have hr := Bd.returns
  have hts := atoms_spec (ws := wsX10_isOn) Bd.pre
  have hown : s.vm.findClass RX10 = some m.cls := findClass_of_methodNamed Bd.named
  have hlocks := Bd.notSynchronized
  have hSf : CallFix p m c cX10_isOn 3 s ([.ref q0, .int (zI ((t1 : Nat) : Int)), .int (zI ((L1 : Nat) : Int))] : List Value).toArray wsX10_isOn RX10 := ⟨hx, hb, hml, hown, hts⟩
  have hl := lv_entry ([.ref q0, .int (zI ((t1 : Nat) : Int)), .int (zI ((L1 : Nat) : Int))]) (n := 3) (Nat.le_of_ble_eq_true rfl)
  rw [lg_entry_eq]
  generalize (lg_sl ([.ref q0, .int (zI ((t1 : Nat) : Int)), .int (zI ((L1 : Nat) : Int))]) ++ List.replicate (3 - (lg_sl ([.ref q0, .int (zI ((t1 : Nat) : Int)), .int (zI ((L1 : Nat) : Int))])).length) Slot.unset).toArray = ls at hl ⊢
  have hl : lv_has ls 3 [(0, .ref q0), (1, .int (zI ((t1 : Nat) : Int))), (2, .int (zI ((L1 : Nat) : Int)))] := hl
  have hn := hV.n
  have hv := hV.t ht1
  refine lv_iload_n hx hb dX10_isOn_0 rfl (lv_at hl 2 rfl) ?_
  refine lv_aload_n hx hb dX10_isOn_1 rfl (lv_at hl 0 rfl) ?_
  refine lv_iload_n hx hb dX10_isOn_2 rfl (lv_at hl 1 rfl) ?_
  refine z_iconst hx hb dX10_isOn_3 ?_
  refine roV (n := 2) (As := [.int (zI ((t1 : Nat) : Int)), .int (zI ((1 : Nat) : Int))]) (rest := [.int (zI ((L1 : Nat) : Int))]) hSf (m_of l D k q0 qn qa qp qi qs qk qb qt qh qe de sv bn f t1 1 (by omega) (by omega)) gX10_isOn_X10_of rfl (by decide +kernel) ⟨Nat.le_of_ble_eq_true rfl, Nat.le_of_ble_eq_true rfl⟩ hK hP [0, 1] rfl 0 rfl rfl rfl hl.1 (by rw [show zI 1 = zI ((1 : Nat) : Int) from zc (by omega)]; rfl) (Nat.le_of_ble_eq_true rfl) dX10_isOn_4 ⟨Nat.zero_le _, Nat.zero_le _⟩ (fun r_4 h_4 => ?_)
  subst h_4
  refine z_isub hx hb dX10_isOn_7 ?_
  refine z_iconst hx hb dX10_isOn_8 ?_
  refine z_bipush hx hb dX10_isOn_9 (by decide +kernel) ?_
  refine roS (n := 3) (As := [.int (zI (((L1 : Nat) : Int) - th f t1 1)), .int (zI 0), .int (zI 7)]) (rest := []) hSf (m_in l D k (((L1 : Nat) : Int) - th f t1 1) 0 7 (by omega) (by omega) (by omega)) gX10_isOn_X10_in rfl (by decide +kernel) ⟨Nat.le_of_ble_eq_true rfl, Nat.le_of_ble_eq_true rfl⟩ hK hP [] rfl rfl hl.1 rfl (Nat.le_of_ble_eq_true rfl) dX10_isOn_11 ⟨Nat.zero_le _, Nat.zero_le _⟩ (fun r_11 h_11 => ?_)
  subst h_11
  exact W.zret hx hb hr (nbb _) (fun t ht hW => ⟨_, rfl, rfl, ht⟩) (fun q hq => by cases hq) dX10_isOn_14
set_option maxHeartbeats 4000000 in
set_option maxRecDepth 100000 in
theorem m_hasDot (l : Launch) (D : va_G) (k : Kt) (q0 : Nat) (qn : Nat) (qa : Nat) (qp : Nat) (qi : Nat) (qs : Nat) (qk : Nat) (qb : Nat) (qt : Nat) (qh : Nat) (qe : Nat) (de : Nat) (sv : Int) (bn : Nat) (f : St) (B : Int) (hV : Va B f) (hB : B < 1000000) (t1 : Nat) (L1 : Nat) (cl : Nat) (ht1 : t1 < nT f) (hL1 : L1 < 24) (hcl : cl < 32) : RO l D k yX10_hasDot wsX10_hasDot 1 22 [.ref q0, .int (zI ((t1 : Nat) : Int)), .int (zI ((L1 : Nat) : Int)), .int (zI ((cl : Nat) : Int))] [(q0, .inr (10, [.ref qn, .ref qa, .ref qp, .int (zI ((de : Nat) : Int)), .ref qi, .ref qs, .ref qk, .long (zL sv), .ref qb, .int (zI ((bn : Nat) : Int)), .ref qt, .ref qh, .ref qe])), (qn, .inl (k.1, 132, .inl (zF f)))] (fun r => r = zI (b2i ((dotsN f t1 L1).testBit (31 - cl)))) := by
  refine Met.ofW (cc := cX10_hasDot) (maxL := 8) (ret := (some .boolean)) (by decide) rfl ?_
  intro p e s m args below meth c s₁ Bd hml hv
  obtain ⟨rfl, hP, hK⟩ := hv
  have hx := Bd.exec
  have hb := Bd.bytes
  have hr := Bd.returns
  have hts := atoms_spec (ws := wsX10_hasDot) Bd.pre
  have hown : s.vm.findClass RX10 = some m.cls := findClass_of_methodNamed Bd.named
  have hlocks := Bd.notSynchronized
  have hSf : CallFix p m c cX10_hasDot 8 s ([.ref q0, .int (zI ((t1 : Nat) : Int)), .int (zI ((L1 : Nat) : Int)), .int (zI ((cl : Nat) : Int))] : List Value).toArray wsX10_hasDot RX10 := ⟨hx, hb, hml, hown, hts⟩
  have hinX10 : ∀ w ∈ u_ws RX10 TX10 13, w ∈ wsX10_hasDot := by decide +kernel
  have fl7 := hts (.fieldLink RX10 7 "DotObjectsModel" "now" "[I") (by decide +kernel)
  have hl := lv_entry ([.ref q0, .int (zI ((t1 : Nat) : Int)), .int (zI ((L1 : Nat) : Int)), .int (zI ((cl : Nat) : Int))]) (n := 8) (Nat.le_of_ble_eq_true rfl)
  rw [lg_entry_eq]
  generalize (lg_sl ([.ref q0, .int (zI ((t1 : Nat) : Int)), .int (zI ((L1 : Nat) : Int)), .int (zI ((cl : Nat) : Int))]) ++ List.replicate (8 - (lg_sl ([.ref q0, .int (zI ((t1 : Nat) : Int)), .int (zI ((L1 : Nat) : Int)), .int (zI ((cl : Nat) : Int))])).length) Slot.unset).toArray = ls at hl ⊢
  have hl : lv_has ls 8 [(0, .ref q0), (1, .int (zI ((t1 : Nat) : Int))), (2, .int (zI ((L1 : Nat) : Int))), (3, .int (zI ((cl : Nat) : Int)))] := hl
  have hn := hV.n
  have hv := hV.t ht1
  have ht4 := tb4 (th f t1 3).toNat (by omega)
  refine lv_iload_n hx hb dX10_hasDot_0 rfl (lv_at hl 2 rfl) ?_
  refine lv_aload_n hx hb dX10_hasDot_1 rfl (lv_at hl 0 rfl) ?_
  refine lv_iload_n hx hb dX10_hasDot_2 rfl (lv_at hl 1 rfl) ?_
  refine z_iconst hx hb dX10_hasDot_3 ?_
  refine roV (n := 2) (As := [.int (zI ((t1 : Nat) : Int)), .int (zI ((1 : Nat) : Int))]) (rest := [.int (zI ((L1 : Nat) : Int))]) hSf (m_of l D k q0 qn qa qp qi qs qk qb qt qh qe de sv bn f t1 1 (by omega) (by omega)) gX10_hasDot_X10_of rfl (by decide +kernel) ⟨Nat.le_of_ble_eq_true rfl, Nat.le_of_ble_eq_true rfl⟩ hK hP [0, 1] rfl 0 rfl rfl rfl hl.1 (by rw [show zI 1 = zI ((1 : Nat) : Int) from zc (by omega)]; rfl) (Nat.le_of_ble_eq_true rfl) dX10_hasDot_4 ⟨Nat.zero_le _, Nat.zero_le _⟩ (fun r_4 h_4 => ?_)
  subst h_4
  refine z_isub hx hb dX10_hasDot_7 ?_
  refine lv_istore (lv' := [(4, .int (zI (((L1 : Nat) : Int) - (th f t1 1)))), (0, .ref q0), (1, .int (zI ((t1 : Nat) : Int))), (2, .int (zI ((L1 : Nat) : Int))), (3, .int (zI ((cl : Nat) : Int)))]) hx hb dX10_hasDot_8 hl (by decide) rfl (fun ls hl => ?_)
  refine lv_iload_n hx hb dX10_hasDot_10 rfl (lv_at hl 4 rfl) ?_
  refine lv_aload_n hx hb dX10_hasDot_11 rfl (lv_at hl 1 rfl) ?_
  refine lv_iload_n hx hb dX10_hasDot_12 rfl (lv_at hl 2 rfl) ?_
  refine z_iconst hx hb dX10_hasDot_13 ?_
  refine roV (n := 2) (As := [.int (zI ((t1 : Nat) : Int)), .int (zI ((0 : Nat) : Int))]) (rest := [.int (zI ((cl : Nat) : Int))]) hSf (m_of l D k q0 qn qa qp qi qs qk qb qt qh qe de sv bn f t1 0 (by omega) (by omega)) gX10_hasDot_X10_of rfl (by decide +kernel) ⟨Nat.le_of_ble_eq_true rfl, Nat.le_of_ble_eq_true rfl⟩ hK hP [0, 1] rfl 0 rfl rfl rfl hl.1 (by rw [show zI 0 = zI ((0 : Nat) : Int) from zc (by omega)]; rfl) (Nat.le_of_ble_eq_true rfl) dX10_hasDot_14 ⟨Nat.zero_le _, Nat.zero_le _⟩ (fun r_14 h_14 => ?_)
  subst h_14
  refine z_isub hx hb dX10_hasDot_17 ?_
  refine lv_istore (lv' := [(5, .int (zI (((cl : Nat) : Int) - (th f t1 0)))), (4, .int (zI (((L1 : Nat) : Int) - (th f t1 1)))), (0, .ref q0), (1, .int (zI ((t1 : Nat) : Int))), (2, .int (zI ((L1 : Nat) : Int))), (3, .int (zI ((cl : Nat) : Int)))]) hx hb dX10_hasDot_18 hl (by decide) rfl (fun ls hl => ?_)
  refine lv_iload hx hb dX10_hasDot_20 (lv_at hl 1 rfl) ?_
  refine z_iconst hx hb dX10_hasDot_22 ?_
  refine z_bipush hx hb dX10_hasDot_23 (by decide +kernel) ?_
  refine roS (n := 3) (As := [.int (zI (((L1 : Nat) : Int) - th f t1 1)), .int (zI 0), .int (zI 7)]) (rest := []) hSf (m_in l D k (((L1 : Nat) : Int) - th f t1 1) 0 7 (by omega) (by omega) (by omega)) gX10_hasDot_X10_in rfl (by decide +kernel) ⟨Nat.le_of_ble_eq_true rfl, Nat.le_of_ble_eq_true rfl⟩ hK hP [] rfl rfl hl.1 rfl (Nat.le_of_ble_eq_true rfl) dX10_hasDot_25 ⟨Nat.zero_le _, Nat.zero_le _⟩ (fun r_25 h_25 => ?_)
  subst h_25
  refine z_if_eqb (tgt := 42) hx hb dX10_hasDot_28 (by decide) (fun c_28 => ?_) (fun c_28 => ?_)
  · have hon : onL f t1 L1 = false := c_28
    refine z_iconst hx hb dX10_hasDot_42 ?_
    exact W.zret hx hb hr (by decide +kernel) (fun t ht hW => ⟨_, rfl, zc (by rw [hd_off hon]; rfl), ht⟩) (fun q hq => by cases hq) dX10_hasDot_43
  · have hon : onL f t1 L1 = true := c_28
    have hrr := on_r hon
    refine lv_iload hx hb dX10_hasDot_31 (lv_at hl 0 rfl) ?_
    refine z_iconst hx hb dX10_hasDot_33 ?_
    refine z_bipush hx hb dX10_hasDot_34 (by decide +kernel) ?_
    refine roS (n := 3) (As := [.int (zI (((cl : Nat) : Int) - th f t1 0)), .int (zI 0), .int (zI 7)]) (rest := []) hSf (m_in l D k (((cl : Nat) : Int) - th f t1 0) 0 7 (by omega) (by omega) (by omega)) gX10_hasDot_X10_in rfl (by decide +kernel) ⟨Nat.le_of_ble_eq_true rfl, Nat.le_of_ble_eq_true rfl⟩ hK hP [] rfl rfl hl.1 rfl (Nat.le_of_ble_eq_true rfl) dX10_hasDot_36 ⟨Nat.zero_le _, Nat.zero_le _⟩ (fun r_36 h_36 => ?_)
    subst h_36
    refine z_if_neb (tgt := 44) hx hb dX10_hasDot_39 (by decide) (fun c_39 => ?_) (fun c_39 => ?_)
    · simp only [Bool.and_eq_true, decide_eq_true_eq] at c_39
      refine lv_aload_n hx hb dX10_hasDot_44 rfl (lv_at hl 2 rfl) ?_
      refine lv_iload_n hx hb dX10_hasDot_45 rfl (lv_at hl 3 rfl) ?_
      refine z_iconst hx hb dX10_hasDot_46 ?_
      refine roV (n := 2) (As := [.int (zI ((t1 : Nat) : Int)), .int (zI ((3 : Nat) : Int))]) (rest := []) hSf (m_of l D k q0 qn qa qp qi qs qk qb qt qh qe de sv bn f t1 3 (by omega) (by omega)) gX10_hasDot_X10_of rfl (by decide +kernel) ⟨Nat.le_of_ble_eq_true rfl, Nat.le_of_ble_eq_true rfl⟩ hK hP [0, 1] rfl 0 rfl rfl rfl hl.1 (by rw [show zI 3 = zI ((3 : Nat) : Int) from zc (by omega)]; rfl) (Nat.le_of_ble_eq_true rfl) dX10_hasDot_47 ⟨Nat.zero_le _, Nat.zero_le _⟩ (fun r_47 h_47 => ?_)
      subst h_47
      refine lv_istore (lv' := [(6, .int (zI (th f t1 3))), (5, .int (zI (((cl : Nat) : Int) - (th f t1 0)))), (4, .int (zI (((L1 : Nat) : Int) - (th f t1 1)))), (0, .ref q0), (1, .int (zI ((t1 : Nat) : Int))), (2, .int (zI ((L1 : Nat) : Int))), (3, .int (zI ((cl : Nat) : Int)))]) hx hb dX10_hasDot_50 hl (by decide) rfl (fun ls hl => ?_)
      refine lv_aload_n hx hb dX10_hasDot_52 rfl (lv_at hl 3 rfl) ?_
      refine va_get (D := D) (ci := 10) (v := .ref qn) (C := RX10) (T := TX10) (N := 13) hx hb hts hinX10 hown hK.1 hP 0 rfl rfl 0 (by decide) fl7 (fun _ h9 => h9) rfl dX10_hasDot_53 ?_
      refine z_iconst hx hb dX10_hasDot_56 ?_
      refine z_bipush hx hb dX10_hasDot_57 (by decide +kernel) ?_
      refine lv_aload_n hx hb dX10_hasDot_59 rfl (lv_at hl 3 rfl) ?_
      refine lv_iload_n hx hb dX10_hasDot_60 rfl (lv_at hl 4 rfl) ?_
      refine z_iconst hx hb dX10_hasDot_61 ?_
      refine roV (n := 2) (As := [.int (zI ((t1 : Nat) : Int)), .int (zI ((2 : Nat) : Int))]) (rest := [.int (zI 8), .int (zI 4), .ref qn]) hSf (m_of l D k q0 qn qa qp qi qs qk qb qt qh qe de sv bn f t1 2 (by omega) (by omega)) gX10_hasDot_X10_of rfl (by decide +kernel) ⟨Nat.le_of_ble_eq_true rfl, Nat.le_of_ble_eq_true rfl⟩ hK hP [0, 1] rfl 0 rfl rfl rfl hl.1 (by rw [show zI 2 = zI ((2 : Nat) : Int) from zc (by omega)]; rfl) (Nat.le_of_ble_eq_true rfl) dX10_hasDot_62 ⟨Nat.zero_le _, Nat.zero_le _⟩ (fun r_62 h_62 => ?_)
      subst h_62
      refine z_imul hx hb dX10_hasDot_65 ?_
      refine z_iadd hx hb dX10_hasDot_66 ?_
      refine lv_iload hx hb dX10_hasDot_67 (lv_at hl 0 rfl) ?_
      refine z_iconst hx hb dX10_hasDot_69 ?_
      refine z_icmp_lt (tgt := 81) hx hb dX10_hasDot_70 (by decide) (by omega) (by omega) (fun c_70 => ?_) (fun c_70 => ?_)
      · refine lv_iload hx hb dX10_hasDot_81 (lv_at hl 2 rfl) ?_
        refine z_iadd hx hb dX10_hasDot_83 ?_
        refine z_ald hx hb hK hP 1 rfl (4 + 8 * (th f t1 2).toNat + (((L1 : Nat) : Int) - th f t1 1).toNat) (by omega) (by omega) (Nat.le_of_ble_eq_true rfl) dX10_hasDot_84 ?_
        refine te (zc (show f (4 + 8 * (th f t1 2).toNat + (((L1 : Nat) : Int) - th f t1 1).toNat) = (((f (4 + 8 * (th f t1 2).toNat + (((L1 : Nat) : Int) - th f t1 1).toNat)).toNat : Nat) : Int) from by have hp := hV.p (j := 4 + 8 * (th f t1 2).toNat + (((L1 : Nat) : Int) - th f t1 1).toNat) (by omega) (by omega); omega)) ?_
        have hp := hV.p (j := 4 + 8 * (th f t1 2).toNat + (((L1 : Nat) : Int) - th f t1 1).toNat) (by omega) (by omega)
        refine lv_istore (lv' := [(7, .int (zI (((f (4 + 8 * (th f t1 2).toNat + (((L1 : Nat) : Int) - th f t1 1).toNat)).toNat : Nat) : Int))), (6, .int (zI (th f t1 3))), (5, .int (zI (((cl : Nat) : Int) - (th f t1 0)))), (4, .int (zI (((L1 : Nat) : Int) - (th f t1 1)))), (0, .ref q0), (1, .int (zI ((t1 : Nat) : Int))), (2, .int (zI ((L1 : Nat) : Int))), (3, .int (zI ((cl : Nat) : Int)))]) hx hb dX10_hasDot_85 hl (by decide) rfl (fun ls hl => ?_)
        refine lv_iload hx hb dX10_hasDot_87 (lv_at hl 0 rfl) ?_
        refine lv_iload hx hb dX10_hasDot_89 (lv_at hl 1 rfl) ?_
        refine z_iconst hx hb dX10_hasDot_91 ?_
        refine z_irem hx hb dX10_hasDot_92 (by omega) (by omega) ?_
        refine z_iconst hx hb dX10_hasDot_93 ?_
        refine z_icmp_ne (tgt := 102) hx hb dX10_hasDot_94 (by decide) (by omega) (by omega) (fun c_94 => ?_) (fun c_94 => ?_)
        · refine z_bipush hx hb dX10_hasDot_102 (by decide +kernel) ?_
          refine lv_iload hx hb dX10_hasDot_104 (lv_at hl 2 rfl) ?_
          refine z_isub hx hb dX10_hasDot_106 ?_
          refine roS (n := 2) (As := [.int (zI ((((f (4 + 8 * (th f t1 2).toNat + (((L1 : Nat) : Int) - th f t1 1).toNat)).toNat) : Nat) : Int)), .int (zI (((7 - (((cl : Nat) : Int) - th f t1 0).toNat) : Nat) : Int))]) (rest := []) hSf (m_has l D k ((f (4 + 8 * (th f t1 2).toNat + (((L1 : Nat) : Int) - th f t1 1).toNat)).toNat) (7 - (((cl : Nat) : Int) - th f t1 0).toNat) (by omega) (by omega)) gX10_hasDot_X10_has rfl (by decide +kernel) ⟨Nat.le_of_ble_eq_true rfl, Nat.le_of_ble_eq_true rfl⟩ hK hP [] rfl rfl hl.1 (by rw [show zI (7 - (((cl : Nat) : Int) - (th f t1 0))) = zI (((7 - (((cl : Nat) : Int) - th f t1 0).toNat) : Nat) : Int) from zc (by omega)]; rfl) (Nat.le_of_ble_eq_true rfl) dX10_hasDot_107 ⟨Nat.zero_le _, Nat.zero_le _⟩ (fun r_107 h_107 => ?_)
          subst h_107
          exact W.zret hx hb hr (nbb _) (fun t ht hW => ⟨_, rfl, zc (hd_ret hV ht1 hon hcl c_39 (by rw [if_pos (by omega)]) (by rw [if_pos (by omega)])), ht⟩) (fun q hq => by cases hq) dX10_hasDot_110
        · refine lv_iload hx hb dX10_hasDot_97 (lv_at hl 2 rfl) ?_
          refine lv_goto (tgt := 107) hx hb dX10_hasDot_99 (by decide) ?_
          refine roS (n := 2) (As := [.int (zI ((((f (4 + 8 * (th f t1 2).toNat + (((L1 : Nat) : Int) - th f t1 1).toNat)).toNat) : Nat) : Int)), .int (zI ((((((cl : Nat) : Int) - th f t1 0).toNat) : Nat) : Int))]) (rest := []) hSf (m_has l D k ((f (4 + 8 * (th f t1 2).toNat + (((L1 : Nat) : Int) - th f t1 1).toNat)).toNat) ((((cl : Nat) : Int) - th f t1 0).toNat) (by omega) (by omega)) gX10_hasDot_X10_has rfl (by decide +kernel) ⟨Nat.le_of_ble_eq_true rfl, Nat.le_of_ble_eq_true rfl⟩ hK hP [] rfl rfl hl.1 (by rw [show zI (((cl : Nat) : Int) - (th f t1 0)) = zI ((((((cl : Nat) : Int) - th f t1 0).toNat) : Nat) : Int) from zc (by omega)]; rfl) (Nat.le_of_ble_eq_true rfl) dX10_hasDot_107 ⟨Nat.zero_le _, Nat.zero_le _⟩ (fun r_107 h_107 => ?_)
          subst h_107
          exact W.zret hx hb hr (nbb _) (fun t ht hW => ⟨_, rfl, zc (hd_ret hV ht1 hon hcl c_39 (by rw [if_pos (by omega)]) (by rw [if_neg (by omega)])), ht⟩) (fun q hq => by cases hq) dX10_hasDot_110
      · refine z_bipush hx hb dX10_hasDot_73 (by decide +kernel) ?_
        refine lv_iload hx hb dX10_hasDot_75 (lv_at hl 2 rfl) ?_
        refine z_isub hx hb dX10_hasDot_77 ?_
        refine lv_goto (tgt := 83) hx hb dX10_hasDot_78 (by decide) ?_
        refine z_iadd hx hb dX10_hasDot_83 ?_
        refine z_ald hx hb hK hP 1 rfl (4 + 8 * (th f t1 2).toNat + (7 - (((L1 : Nat) : Int) - th f t1 1).toNat)) (by omega) (by omega) (Nat.le_of_ble_eq_true rfl) dX10_hasDot_84 ?_
        refine te (zc (show f (4 + 8 * (th f t1 2).toNat + (7 - (((L1 : Nat) : Int) - th f t1 1).toNat)) = (((f (4 + 8 * (th f t1 2).toNat + (7 - (((L1 : Nat) : Int) - th f t1 1).toNat))).toNat : Nat) : Int) from by have hp := hV.p (j := 4 + 8 * (th f t1 2).toNat + (7 - (((L1 : Nat) : Int) - th f t1 1).toNat)) (by omega) (by omega); omega)) ?_
        have hp := hV.p (j := 4 + 8 * (th f t1 2).toNat + (7 - (((L1 : Nat) : Int) - th f t1 1).toNat)) (by omega) (by omega)
        refine lv_istore (lv' := [(7, .int (zI (((f (4 + 8 * (th f t1 2).toNat + (7 - (((L1 : Nat) : Int) - th f t1 1).toNat))).toNat : Nat) : Int))), (6, .int (zI (th f t1 3))), (5, .int (zI (((cl : Nat) : Int) - (th f t1 0)))), (4, .int (zI (((L1 : Nat) : Int) - (th f t1 1)))), (0, .ref q0), (1, .int (zI ((t1 : Nat) : Int))), (2, .int (zI ((L1 : Nat) : Int))), (3, .int (zI ((cl : Nat) : Int)))]) hx hb dX10_hasDot_85 hl (by decide) rfl (fun ls hl => ?_)
        refine lv_iload hx hb dX10_hasDot_87 (lv_at hl 0 rfl) ?_
        refine lv_iload hx hb dX10_hasDot_89 (lv_at hl 1 rfl) ?_
        refine z_iconst hx hb dX10_hasDot_91 ?_
        refine z_irem hx hb dX10_hasDot_92 (by omega) (by omega) ?_
        refine z_iconst hx hb dX10_hasDot_93 ?_
        refine z_icmp_ne (tgt := 102) hx hb dX10_hasDot_94 (by decide) (by omega) (by omega) (fun c_94 => ?_) (fun c_94 => ?_)
        · refine z_bipush hx hb dX10_hasDot_102 (by decide +kernel) ?_
          refine lv_iload hx hb dX10_hasDot_104 (lv_at hl 2 rfl) ?_
          refine z_isub hx hb dX10_hasDot_106 ?_
          refine roS (n := 2) (As := [.int (zI ((((f (4 + 8 * (th f t1 2).toNat + (7 - (((L1 : Nat) : Int) - th f t1 1).toNat))).toNat) : Nat) : Int)), .int (zI (((7 - (((cl : Nat) : Int) - th f t1 0).toNat) : Nat) : Int))]) (rest := []) hSf (m_has l D k ((f (4 + 8 * (th f t1 2).toNat + (7 - (((L1 : Nat) : Int) - th f t1 1).toNat))).toNat) (7 - (((cl : Nat) : Int) - th f t1 0).toNat) (by omega) (by omega)) gX10_hasDot_X10_has rfl (by decide +kernel) ⟨Nat.le_of_ble_eq_true rfl, Nat.le_of_ble_eq_true rfl⟩ hK hP [] rfl rfl hl.1 (by rw [show zI (7 - (((cl : Nat) : Int) - (th f t1 0))) = zI (((7 - (((cl : Nat) : Int) - th f t1 0).toNat) : Nat) : Int) from zc (by omega)]; rfl) (Nat.le_of_ble_eq_true rfl) dX10_hasDot_107 ⟨Nat.zero_le _, Nat.zero_le _⟩ (fun r_107 h_107 => ?_)
          subst h_107
          exact W.zret hx hb hr (nbb _) (fun t ht hW => ⟨_, rfl, zc (hd_ret hV ht1 hon hcl c_39 (by rw [if_neg (by omega)]) (by rw [if_pos (by omega)])), ht⟩) (fun q hq => by cases hq) dX10_hasDot_110
        · refine lv_iload hx hb dX10_hasDot_97 (lv_at hl 2 rfl) ?_
          refine lv_goto (tgt := 107) hx hb dX10_hasDot_99 (by decide) ?_
          refine roS (n := 2) (As := [.int (zI ((((f (4 + 8 * (th f t1 2).toNat + (7 - (((L1 : Nat) : Int) - th f t1 1).toNat))).toNat) : Nat) : Int)), .int (zI ((((((cl : Nat) : Int) - th f t1 0).toNat) : Nat) : Int))]) (rest := []) hSf (m_has l D k ((f (4 + 8 * (th f t1 2).toNat + (7 - (((L1 : Nat) : Int) - th f t1 1).toNat))).toNat) ((((cl : Nat) : Int) - th f t1 0).toNat) (by omega) (by omega)) gX10_hasDot_X10_has rfl (by decide +kernel) ⟨Nat.le_of_ble_eq_true rfl, Nat.le_of_ble_eq_true rfl⟩ hK hP [] rfl rfl hl.1 (by rw [show zI (((cl : Nat) : Int) - (th f t1 0)) = zI ((((((cl : Nat) : Int) - th f t1 0).toNat) : Nat) : Int) from zc (by omega)]; rfl) (Nat.le_of_ble_eq_true rfl) dX10_hasDot_107 ⟨Nat.zero_le _, Nat.zero_le _⟩ (fun r_107 h_107 => ?_)
          subst h_107
          exact W.zret hx hb hr (nbb _) (fun t ht hW => ⟨_, rfl, zc (hd_ret hV ht1 hon hcl c_39 (by rw [if_neg (by omega)]) (by rw [if_neg (by omega)])), ht⟩) (fun q hq => by cases hq) dX10_hasDot_110
    · simp only [Bool.and_eq_false_iff, decide_eq_false_iff_not] at c_39
      refine z_iconst hx hb dX10_hasDot_42 ?_
      exact W.zret hx hb hr (by decide +kernel) (fun t ht hW => ⟨_, rfl, zc (by rw [hd_bit hV ht1 hon hcl, show (decide (0 ≤ (cl : Int) - th f t1 0) && decide ((cl : Int) - th f t1 0 ≤ 7)) = false from by rw [Bool.and_eq_false_iff, decide_eq_false_iff_not, decide_eq_false_iff_not]; exact c_39]; rfl), ht⟩) (fun q hq => by cases hq) dX10_hasDot_43
set_option maxHeartbeats 4000000 in
set_option maxRecDepth 100000 in
theorem m_isAhead (l : Launch) (D : va_G) (k : Kt) (q0 : Nat) (qn : Nat) (qa : Nat) (qp : Nat) (qi : Nat) (qs : Nat) (qk : Nat) (qb : Nat) (qt : Nat) (qh : Nat) (qe : Nat) (de : Nat) (sv : Int) (bn : Nat) (f : St) (B : Int) (hV : Va B f) (hB : B < 1000000) (a1 : Nat) (b1 : Nat) (ha1 : a1 < nT f) (hb1 : b1 < nT f) : RO l D k yX10_isAhead wsX10_isAhead 1 22 [.ref q0, .int (zI ((a1 : Nat) : Int)), .int (zI ((b1 : Nat) : Int))] [(q0, .inr (10, [.ref qn, .ref qa, .ref qp, .int (zI ((de : Nat) : Int)), .ref qi, .ref qs, .ref qk, .long (zL sv), .ref qb, .int (zI ((bn : Nat) : Int)), .ref qt, .ref qh, .ref qe])), (qn, .inl (k.1, 132, .inl (zF f)))] (fun r => r = zI (b2i (ahd f (f 2) a1 b1))) := by
  refine Met.ofW (cc := cX10_isAhead) (maxL := 5) (ret := (some .boolean)) (by decide) rfl ?_
  intro p e s m args below meth c s₁ Bd hml hv
  obtain ⟨rfl, hP, hK⟩ := hv
  have hx := Bd.exec
  have hb := Bd.bytes
  have hr := Bd.returns
  have hts := atoms_spec (ws := wsX10_isAhead) Bd.pre
  have hown : s.vm.findClass RX10 = some m.cls := findClass_of_methodNamed Bd.named
  have hlocks := Bd.notSynchronized
  have hSf : CallFix p m c cX10_isAhead 5 s ([.ref q0, .int (zI ((a1 : Nat) : Int)), .int (zI ((b1 : Nat) : Int))] : List Value).toArray wsX10_isAhead RX10 := ⟨hx, hb, hml, hown, hts⟩
  have hinX10 : ∀ w ∈ u_ws RX10 TX10 13, w ∈ wsX10_isAhead := by decide +kernel
  have fl7 := hts (.fieldLink RX10 7 "DotObjectsModel" "now" "[I") (by decide +kernel)
  have hl := lv_entry ([.ref q0, .int (zI ((a1 : Nat) : Int)), .int (zI ((b1 : Nat) : Int))]) (n := 5) (Nat.le_of_ble_eq_true rfl)
  rw [lg_entry_eq]
  generalize (lg_sl ([.ref q0, .int (zI ((a1 : Nat) : Int)), .int (zI ((b1 : Nat) : Int))]) ++ List.replicate (5 - (lg_sl ([.ref q0, .int (zI ((a1 : Nat) : Int)), .int (zI ((b1 : Nat) : Int))])).length) Slot.unset).toArray = ls at hl ⊢
  have hl : lv_has ls 5 [(0, .ref q0), (1, .int (zI ((a1 : Nat) : Int))), (2, .int (zI ((b1 : Nat) : Int)))] := hl
  have hn := hV.n
  have hv0 := hV.1
  have hv2 := hV.2.2.1
  have hv3 := hV.2.2.2.1
  have hva := hV.t ha1
  have hvb := hV.t hb1
  have hm1 := Int.emod_nonneg (f 3) (show f 0 ≠ 0 by omega)
  have hm2 := Int.emod_lt_of_pos (f 3) (show 0 < f 0 by omega)
  refine lv_aload_n hx hb dX10_isAhead_0 rfl (lv_at hl 0 rfl) ?_
  refine va_get (D := D) (ci := 10) (v := .ref qn) (C := RX10) (T := TX10) (N := 13) hx hb hts hinX10 hown hK.1 hP 0 rfl rfl 0 (by decide) fl7 (fun _ h9 => h9) rfl dX10_isAhead_1 ?_
  refine z_iconst hx hb dX10_isAhead_4 ?_
  refine z_ald hx hb hK hP 1 rfl (0) (by omega) (by omega) (Nat.le_of_ble_eq_true rfl) dX10_isAhead_5 ?_
  refine lv_istore_n (lv' := [(3, .int (zI (f 0))), (0, .ref q0), (1, .int (zI ((a1 : Nat) : Int))), (2, .int (zI ((b1 : Nat) : Int)))]) hx hb dX10_isAhead_6 rfl hl (by decide) rfl (fun ls hl => ?_)
  refine lv_aload_n hx hb dX10_isAhead_7 rfl (lv_at hl 1 rfl) ?_
  refine va_get (D := D) (ci := 10) (v := .ref qn) (C := RX10) (T := TX10) (N := 13) hx hb hts hinX10 hown hK.1 hP 0 rfl rfl 0 (by decide) fl7 (fun _ h9 => h9) rfl dX10_isAhead_8 ?_
  refine z_iconst hx hb dX10_isAhead_11 ?_
  refine z_ald hx hb hK hP 1 rfl (3) (by omega) (by omega) (Nat.le_of_ble_eq_true rfl) dX10_isAhead_12 ?_
  refine lv_iload_n hx hb dX10_isAhead_13 rfl (lv_at hl 0 rfl) ?_
  refine z_irem hx hb dX10_isAhead_14 (by omega) (by omega) ?_
  refine lv_istore (lv' := [(4, .int (zI ((f 3) % (f 0)))), (3, .int (zI (f 0))), (0, .ref q0), (1, .int (zI ((a1 : Nat) : Int))), (2, .int (zI ((b1 : Nat) : Int)))]) hx hb dX10_isAhead_15 hl (by decide) rfl (fun ls hl => ?_)
  refine lv_aload_n hx hb dX10_isAhead_17 rfl (lv_at hl 2 rfl) ?_
  refine va_get (D := D) (ci := 10) (v := .ref qn) (C := RX10) (T := TX10) (N := 13) hx hb hts hinX10 hown hK.1 hP 0 rfl rfl 0 (by decide) fl7 (fun _ h9 => h9) rfl dX10_isAhead_18 ?_
  refine z_iconst hx hb dX10_isAhead_21 ?_
  refine z_ald hx hb hK hP 1 rfl (2) (by omega) (by omega) (Nat.le_of_ble_eq_true rfl) dX10_isAhead_22 ?_
  rcases sw_cases (x := f 2) (lo := 0) (hi := 2) with hsw | hsw
  · refine lv_tableOut (tgt := 95) hx hb dX10_isAhead_23 (by rw [zI_toInt (by omega)]; omega) (by decide) ?_
    refine lv_aload_n hx hb dX10_isAhead_95 rfl (lv_at hl 2 rfl) ?_
    refine lv_iload_n hx hb dX10_isAhead_96 rfl (lv_at hl 3 rfl) ?_
    refine z_iconst hx hb dX10_isAhead_97 ?_
    refine roV (n := 2) (As := [.int (zI ((a1 : Nat) : Int)), .int (zI ((4 : Nat) : Int))]) (rest := []) hSf (m_of l D k q0 qn qa qp qi qs qk qb qt qh qe de sv bn f a1 4 (by omega) (by omega)) gX10_isAhead_X10_of rfl (by decide +kernel) ⟨Nat.le_of_ble_eq_true rfl, Nat.le_of_ble_eq_true rfl⟩ hK hP [0, 1] rfl 0 rfl rfl rfl hl.1 (by rw [show zI 4 = zI ((4 : Nat) : Int) from zc (by omega)]; rfl) (Nat.le_of_ble_eq_true rfl) dX10_isAhead_98 ⟨Nat.zero_le _, Nat.zero_le _⟩ (fun r_98 h_98 => ?_)
    subst h_98
    refine lv_aload_n hx hb dX10_isAhead_101 rfl (lv_at hl 2 rfl) ?_
    refine lv_iload_n hx hb dX10_isAhead_102 rfl (lv_at hl 4 rfl) ?_
    refine z_iconst hx hb dX10_isAhead_103 ?_
    refine roV (n := 2) (As := [.int (zI ((b1 : Nat) : Int)), .int (zI ((4 : Nat) : Int))]) (rest := [.int (zI (th f a1 4))]) hSf (m_of l D k q0 qn qa qp qi qs qk qb qt qh qe de sv bn f b1 4 (by omega) (by omega)) gX10_isAhead_X10_of rfl (by decide +kernel) ⟨Nat.le_of_ble_eq_true rfl, Nat.le_of_ble_eq_true rfl⟩ hK hP [0, 1] rfl 0 rfl rfl rfl hl.1 (by rw [show zI 4 = zI ((4 : Nat) : Int) from zc (by omega)]; rfl) (Nat.le_of_ble_eq_true rfl) dX10_isAhead_104 ⟨Nat.zero_le _, Nat.zero_le _⟩ (fun r_104 h_104 => ?_)
    subst h_104
    refine z_icmp_lt (tgt := 130) hx hb dX10_isAhead_107 (by decide) (by omega) (by omega) (fun c_107 => ?_) (fun c_107 => ?_)
    · refine z_iconst hx hb dX10_isAhead_130 ?_
      refine lv_goto (tgt := 135) hx hb dX10_isAhead_131 (by decide) ?_
      exact W.zret hx hb hr (by decide +kernel) (fun t ht hW => ⟨_, rfl, zc (by unfold ahd; rw [if_neg (by omega), if_neg (by omega), if_neg (by omega), decide_eq_true (p := th f a1 4 < th f b1 4) (by omega), Bool.true_or]; rfl), ht⟩) (fun q hq => by cases hq) dX10_isAhead_135
    · refine lv_aload_n hx hb dX10_isAhead_110 rfl (lv_at hl 2 rfl) ?_
      refine lv_iload_n hx hb dX10_isAhead_111 rfl (lv_at hl 3 rfl) ?_
      refine z_iconst hx hb dX10_isAhead_112 ?_
      refine roV (n := 2) (As := [.int (zI ((a1 : Nat) : Int)), .int (zI ((4 : Nat) : Int))]) (rest := []) hSf (m_of l D k q0 qn qa qp qi qs qk qb qt qh qe de sv bn f a1 4 (by omega) (by omega)) gX10_isAhead_X10_of rfl (by decide +kernel) ⟨Nat.le_of_ble_eq_true rfl, Nat.le_of_ble_eq_true rfl⟩ hK hP [0, 1] rfl 0 rfl rfl rfl hl.1 (by rw [show zI 4 = zI ((4 : Nat) : Int) from zc (by omega)]; rfl) (Nat.le_of_ble_eq_true rfl) dX10_isAhead_113 ⟨Nat.zero_le _, Nat.zero_le _⟩ (fun r_113 h_113 => ?_)
      subst h_113
      refine lv_aload_n hx hb dX10_isAhead_116 rfl (lv_at hl 2 rfl) ?_
      refine lv_iload_n hx hb dX10_isAhead_117 rfl (lv_at hl 4 rfl) ?_
      refine z_iconst hx hb dX10_isAhead_118 ?_
      refine roV (n := 2) (As := [.int (zI ((b1 : Nat) : Int)), .int (zI ((4 : Nat) : Int))]) (rest := [.int (zI (th f a1 4))]) hSf (m_of l D k q0 qn qa qp qi qs qk qb qt qh qe de sv bn f b1 4 (by omega) (by omega)) gX10_isAhead_X10_of rfl (by decide +kernel) ⟨Nat.le_of_ble_eq_true rfl, Nat.le_of_ble_eq_true rfl⟩ hK hP [0, 1] rfl 0 rfl rfl rfl hl.1 (by rw [show zI 4 = zI ((4 : Nat) : Int) from zc (by omega)]; rfl) (Nat.le_of_ble_eq_true rfl) dX10_isAhead_119 ⟨Nat.zero_le _, Nat.zero_le _⟩ (fun r_119 h_119 => ?_)
      subst h_119
      refine z_icmp_ne (tgt := 134) hx hb dX10_isAhead_122 (by decide) (by omega) (by omega) (fun c_122 => ?_) (fun c_122 => ?_)
      · refine z_iconst hx hb dX10_isAhead_134 ?_
        exact W.zret hx hb hr (by decide +kernel) (fun t ht hW => ⟨_, rfl, zc (by unfold ahd; rw [if_neg (by omega), if_neg (by omega), if_neg (by omega), decide_eq_false (p := th f a1 4 < th f b1 4) (by omega), decide_eq_false (p := th f a1 4 = th f b1 4) (by omega), Bool.false_and]; rfl), ht⟩) (fun q hq => by cases hq) dX10_isAhead_135
      · refine lv_iload_n hx hb dX10_isAhead_125 rfl (lv_at hl 3 rfl) ?_
        refine lv_iload_n hx hb dX10_isAhead_126 rfl (lv_at hl 4 rfl) ?_
        refine z_icmp_ge (tgt := 134) hx hb dX10_isAhead_127 (by decide) (by omega) (by omega) (fun c_127 => ?_) (fun c_127 => ?_)
        · refine z_iconst hx hb dX10_isAhead_134 ?_
          exact W.zret hx hb hr (by decide +kernel) (fun t ht hW => ⟨_, rfl, zc (by unfold ahd; rw [if_neg (by omega), if_neg (by omega), if_neg (by omega), decide_eq_false (p := th f a1 4 < th f b1 4) (by omega), decide_eq_true (p := th f a1 4 = th f b1 4) (by omega), decide_eq_false (p := a1 < b1) (by omega)]; rfl), ht⟩) (fun q hq => by cases hq) dX10_isAhead_135
        · refine z_iconst hx hb dX10_isAhead_130 ?_
          refine lv_goto (tgt := 135) hx hb dX10_isAhead_131 (by decide) ?_
          exact W.zret hx hb hr (by decide +kernel) (fun t ht hW => ⟨_, rfl, zc (by unfold ahd; rw [if_neg (by omega), if_neg (by omega), if_neg (by omega), decide_eq_false (p := th f a1 4 < th f b1 4) (by omega), decide_eq_true (p := th f a1 4 = th f b1 4) (by omega), decide_eq_true (p := a1 < b1) (by omega)]; rfl), ht⟩) (fun q hq => by cases hq) dX10_isAhead_135
  · rcases (show f 2 = 0 ∨ f 2 = 1 ∨ f 2 = 2 from by omega) with hsw | hsw | hsw
    · refine lv_tableIn (off := 25) (tgt := 48) hx hb dX10_isAhead_23 (by rw [zI_toInt (by omega)]; omega) (by rw [zI_toInt (by omega)]; omega) (by rw [zI_toInt (by omega), hsw]; decide) (by decide) ?_
      refine lv_iload_n hx hb dX10_isAhead_48 rfl (lv_at hl 3 rfl) ?_
      refine lv_iload_n hx hb dX10_isAhead_49 rfl (lv_at hl 4 rfl) ?_
      refine z_icmp_ge (tgt := 57) hx hb dX10_isAhead_50 (by decide) (by omega) (by omega) (fun c_50 => ?_) (fun c_50 => ?_)
      · refine z_iconst hx hb dX10_isAhead_57 ?_
        exact W.zret hx hb hr (by decide +kernel) (fun t ht hW => ⟨_, rfl, zc (by unfold ahd; rw [if_pos (by omega), decide_eq_false (by omega)]; rfl), ht⟩) (fun q hq => by cases hq) dX10_isAhead_58
      · refine z_iconst hx hb dX10_isAhead_53 ?_
        refine lv_goto (tgt := 58) hx hb dX10_isAhead_54 (by decide) ?_
        exact W.zret hx hb hr (by decide +kernel) (fun t ht hW => ⟨_, rfl, zc (by unfold ahd; rw [if_pos (by omega), decide_eq_true (by omega)]; rfl), ht⟩) (fun q hq => by cases hq) dX10_isAhead_58
    · refine lv_tableIn (off := 36) (tgt := 59) hx hb dX10_isAhead_23 (by rw [zI_toInt (by omega)]; omega) (by rw [zI_toInt (by omega)]; omega) (by rw [zI_toInt (by omega), hsw]; decide) (by decide) ?_
      refine lv_iload_n hx hb dX10_isAhead_59 rfl (lv_at hl 3 rfl) ?_
      refine lv_iload_n hx hb dX10_isAhead_60 rfl (lv_at hl 4 rfl) ?_
      refine z_icmp_le (tgt := 68) hx hb dX10_isAhead_61 (by decide) (by omega) (by omega) (fun c_61 => ?_) (fun c_61 => ?_)
      · refine z_iconst hx hb dX10_isAhead_68 ?_
        exact W.zret hx hb hr (by decide +kernel) (fun t ht hW => ⟨_, rfl, zc (by unfold ahd; rw [if_neg (by omega), if_pos (by omega), decide_eq_false (by omega)]; rfl), ht⟩) (fun q hq => by cases hq) dX10_isAhead_69
      · refine z_iconst hx hb dX10_isAhead_64 ?_
        refine lv_goto (tgt := 69) hx hb dX10_isAhead_65 (by decide) ?_
        exact W.zret hx hb hr (by decide +kernel) (fun t ht hW => ⟨_, rfl, zc (by unfold ahd; rw [if_neg (by omega), if_pos (by omega), decide_eq_true (by omega)]; rfl), ht⟩) (fun q hq => by cases hq) dX10_isAhead_69
    · refine lv_tableIn (off := 47) (tgt := 70) hx hb dX10_isAhead_23 (by rw [zI_toInt (by omega)]; omega) (by rw [zI_toInt (by omega)]; omega) (by rw [zI_toInt (by omega), hsw]; decide) (by decide) ?_
      refine lv_iload_n hx hb dX10_isAhead_70 rfl (lv_at hl 3 rfl) ?_
      refine lv_iload hx hb dX10_isAhead_71 (lv_at hl 0 rfl) ?_
      refine z_isub hx hb dX10_isAhead_73 ?_
      refine lv_iload_n hx hb dX10_isAhead_74 rfl (lv_at hl 1 rfl) ?_
      refine z_iadd hx hb dX10_isAhead_75 ?_
      refine lv_iload_n hx hb dX10_isAhead_76 rfl (lv_at hl 1 rfl) ?_
      refine z_irem hx hb dX10_isAhead_77 (by omega) (by omega) ?_
      refine lv_iload_n hx hb dX10_isAhead_78 rfl (lv_at hl 4 rfl) ?_
      refine lv_iload hx hb dX10_isAhead_79 (lv_at hl 0 rfl) ?_
      refine z_isub hx hb dX10_isAhead_81 ?_
      refine lv_iload_n hx hb dX10_isAhead_82 rfl (lv_at hl 1 rfl) ?_
      refine z_iadd hx hb dX10_isAhead_83 ?_
      refine lv_iload_n hx hb dX10_isAhead_84 rfl (lv_at hl 1 rfl) ?_
      refine z_irem hx hb dX10_isAhead_85 (by omega) (by omega) ?_
      have hk1 := Int.emod_nonneg (((a1 : Nat) : Int) - f 3 % f 0 + f 0) (show f 0 ≠ 0 by omega)
      have hk2 := Int.emod_lt_of_pos (((a1 : Nat) : Int) - f 3 % f 0 + f 0) (show 0 < f 0 by omega)
      have hk3 := Int.emod_nonneg (((b1 : Nat) : Int) - f 3 % f 0 + f 0) (show f 0 ≠ 0 by omega)
      have hk4 := Int.emod_lt_of_pos (((b1 : Nat) : Int) - f 3 % f 0 + f 0) (show 0 < f 0 by omega)
      refine z_icmp_ge (tgt := 93) hx hb dX10_isAhead_86 (by decide) (by omega) (by omega) (fun c_86 => ?_) (fun c_86 => ?_)
      · refine z_iconst hx hb dX10_isAhead_93 ?_
        exact W.zret hx hb hr (by decide +kernel) (fun t ht hW => ⟨_, rfl, zc (by unfold ahd; rw [if_neg (by omega), if_neg (by omega), if_pos (by omega), decide_eq_false (by omega)]; rfl), ht⟩) (fun q hq => by cases hq) dX10_isAhead_94
      · refine z_iconst hx hb dX10_isAhead_89 ?_
        refine lv_goto (tgt := 94) hx hb dX10_isAhead_90 (by decide) ?_
        exact W.zret hx hb hr (by decide +kernel) (fun t ht hW => ⟨_, rfl, zc (by unfold ahd; rw [if_neg (by omega), if_neg (by omega), if_pos (by omega), decide_eq_true (by omega)]; rfl), ht⟩) (fun q hq => by cases hq) dX10_isAhead_94
set_option maxHeartbeats 4000000 in
set_option maxRecDepth 100000 in
theorem m_onLine (l : Launch) (D : va_G) (k : Kt) (q0 : Nat) (qn : Nat) (qa : Nat) (qp : Nat) (qi : Nat) (qs : Nat) (qk : Nat) (qb : Nat) (qt : Nat) (qh : Nat) (qe : Nat) (de : Nat) (sv : Int) (bn : Nat) (f : St) (B : Int) (hV : Va B f) (hB : B < 1000000) (L1 : Nat) (hL1 : L1 < 24) : RO l D k yX10_onLine wsX10_onLine 2 44 [.ref q0, .int (zI ((L1 : Nat) : Int))] [(q0, .inr (10, [.ref qn, .ref qa, .ref qp, .int (zI ((de : Nat) : Int)), .ref qi, .ref qs, .ref qk, .long (zL sv), .ref qb, .int (zI ((bn : Nat) : Int)), .ref qt, .ref qh, .ref qe])), (qn, .inl (k.1, 132, .inl (zF f)))] (fun r => r = zI ((onS f L1 : Nat) : Int)) := by
  refine Met.ofW (cc := cX10_onLine) (maxL := 4) (ret := (some .int)) (by decide) rfl ?_
  intro p e s m args below meth c s₁ Bd hml hv
  obtain ⟨rfl, hP, hK⟩ := hv
  have hx := Bd.exec
  have hb := Bd.bytes
  have hr := Bd.returns
  have hts := atoms_spec (ws := wsX10_onLine) Bd.pre
  have hown : s.vm.findClass RX10 = some m.cls := findClass_of_methodNamed Bd.named
  have hlocks := Bd.notSynchronized
  have hSf : CallFix p m c cX10_onLine 4 s ([.ref q0, .int (zI ((L1 : Nat) : Int))] : List Value).toArray wsX10_onLine RX10 := ⟨hx, hb, hml, hown, hts⟩
  have hinX10 : ∀ w ∈ u_ws RX10 TX10 13, w ∈ wsX10_onLine := by decide +kernel
  have fl7 := hts (.fieldLink RX10 7 "DotObjectsModel" "now" "[I") (by decide +kernel)
  have hl := lv_entry ([.ref q0, .int (zI ((L1 : Nat) : Int))]) (n := 4) (Nat.le_of_ble_eq_true rfl)
  rw [lg_entry_eq]
  generalize (lg_sl ([.ref q0, .int (zI ((L1 : Nat) : Int))]) ++ List.replicate (4 - (lg_sl ([.ref q0, .int (zI ((L1 : Nat) : Int))])).length) Slot.unset).toArray = ls at hl ⊢
  have hl : lv_has ls 4 [(0, .ref q0), (1, .int (zI ((L1 : Nat) : Int)))] := hl
  have hn := hV.n
  have hv0 := hV.1
  refine z_iconst hx hb dX10_onLine_0 ?_
  refine lv_istore_n (lv' := [(2, .int (zI 0)), (0, .ref q0), (1, .int (zI ((L1 : Nat) : Int)))]) hx hb dX10_onLine_1 rfl hl (by decide) rfl (fun ls hl => ?_)
  refine z_iconst hx hb dX10_onLine_2 ?_
  refine lv_istore_n (lv' := [(3, .int (zI 0)), (2, .int (zI 0)), (0, .ref q0), (1, .int (zI ((L1 : Nat) : Int)))]) hx hb dX10_onLine_3 rfl hl (by decide) rfl (fun ls hl => ?_)
  have L4 : ∀ (NN4 : Nat), ∀ (tt : Nat), (tt ≤ nT f) → nT f - tt < NN4 → ∀ (ls : Array Slot), lv_has ls 4 [(0, .ref q0), (1, .int (zI ((L1 : Nat) : Int))), (2, .int (zI ((setP (fun u => onL f u L1) tt : Nat) : Int))), (3, .int (zI ((tt : Nat) : Int)))] → W p l e (headSpec wsX10_onLine { frames := 2, cells := 0, slots := 0, locals := 44 }).room s m ([.ref q0, .int (zI ((L1 : Nat) : Int))] : List Value).toArray below meth c s.heap [] 0 0 (MQ below (vp_Si (fun r => r = zI ((onS f L1 : Nat) : Int))) ([.ref q0, .int (zI ((L1 : Nat) : Int))] : List Value).toArray s 0 0 (fun _ => False)) (F0 m 4 ls []) := by
    intro NN4
    induction NN4 with
    | zero => intro tt _ hN; exact absurd hN (Nat.not_lt_zero _)
    | succ NN4 ih4 =>
      intro tt htt hN ls hl
      refine lv_iload_n hx hb dX10_onLine_4 rfl (lv_at hl 3 rfl) ?_
      refine lv_aload_n hx hb dX10_onLine_5 rfl (lv_at hl 0 rfl) ?_
      refine va_get (D := D) (ci := 10) (v := .ref qn) (C := RX10) (T := TX10) (N := 13) hx hb hts hinX10 hown hK.1 hP 0 rfl rfl 0 (by decide) fl7 (fun _ h9 => h9) rfl dX10_onLine_6 ?_
      refine z_iconst hx hb dX10_onLine_9 ?_
      refine z_ald hx hb hK hP 1 rfl (0) (by omega) (by omega) (Nat.le_of_ble_eq_true rfl) dX10_onLine_10 ?_
      refine z_icmp_ge (tgt := 39) hx hb dX10_onLine_11 (by decide) (by omega) (by omega) (fun c_11 => ?_) (fun c_11 => ?_)
      · obtain rfl : tt = nT f := by omega
        refine lv_iload_n hx hb dX10_onLine_39 rfl (lv_at hl 2 rfl) ?_
        exact W.iret hx hb hr (fun t ht hW => ⟨_, rfl, rfl, ht⟩) (fun q hq => by cases hq) dX10_onLine_40
      · refine lv_iload_n hx hb dX10_onLine_14 rfl (lv_at hl 2 rfl) ?_
        refine lv_aload_n hx hb dX10_onLine_15 rfl (lv_at hl 0 rfl) ?_
        refine lv_iload_n hx hb dX10_onLine_16 rfl (lv_at hl 3 rfl) ?_
        refine lv_iload_n hx hb dX10_onLine_17 rfl (lv_at hl 1 rfl) ?_
        refine roV (n := 2) (As := [.int (zI ((tt : Nat) : Int)), .int (zI ((L1 : Nat) : Int))]) (rest := [.int (zI ((setP (fun u => onL f u L1) tt : Nat) : Int))]) hSf (m_isOn l D k q0 qn qa qp qi qs qk qb qt qh qe de sv bn f B hV hB tt L1 (by omega) (by omega)) gX10_onLine_X10_isOn rfl (by decide +kernel) ⟨Nat.le_of_ble_eq_true rfl, Nat.le_of_ble_eq_true rfl⟩ hK hP [0, 1] rfl 0 rfl rfl rfl hl.1 rfl (Nat.le_of_ble_eq_true rfl) dX10_onLine_18 ⟨Nat.zero_le _, Nat.zero_le _⟩ (fun r_18 h_18 => ?_)
        subst h_18
        refine z_if_eqb (tgt := 30) hx hb dX10_onLine_21 (by decide) (fun c_21 => ?_) (fun c_21 => ?_)
        · refine z_iconst hx hb dX10_onLine_30 ?_
          refine z_ior hx hb dX10_onLine_31 (setP (fun u => onL f u L1) tt) (0) (by omega) (by omega) ?_
          refine lv_istore_n (lv' := [(2, .int (zI (((setP (fun u => onL f u L1) tt) ||| 0 : Nat) : Int))), (0, .ref q0), (1, .int (zI ((L1 : Nat) : Int))), (3, .int (zI ((tt : Nat) : Int)))]) hx hb dX10_onLine_32 rfl hl (by decide) rfl (fun ls hl => ?_)
          refine lv_iinc (v := zI (((tt : Nat) : Int) + 1)) (lv' := [(3, .int (zI (((tt : Nat) : Int) + 1))), (2, .int (zI (((setP (fun u => onL f u L1) tt) ||| 0 : Nat) : Int))), (0, .ref q0), (1, .int (zI ((L1 : Nat) : Int)))]) hx hb dX10_onLine_33 hl (k := 3) rfl (zI_add _ _) (by decide) rfl (fun ls hl => ?_)
          refine lv_goto (tgt := 4) hx hb dX10_onLine_36 (by decide) ?_
          have hl : lv_has ls 4 [(3, .int (zI (((tt : Nat) : Int) + 1))), (2, .int (zI ((setP (fun u => onL f u L1) (tt + 1) : Nat) : Int))), (0, .ref q0), (1, .int (zI ((L1 : Nat) : Int)))] := lv_c (l1 := [(3, .int (zI (((tt : Nat) : Int) + 1)))]) (l2 := [(0, .ref q0), (1, .int (zI ((L1 : Nat) : Int)))]) hl (show (((setP (fun u => onL f u L1) tt) ||| 0 : Nat) : Int) = ((setP (fun u => onL f u L1) (tt + 1) : Nat) : Int) from congrArg Nat.cast ((Nat.or_zero _).trans (setP_f (p := (fun u => onL f u L1)) c_21)))
          have hl : lv_has ls 4 [(3, .int (zI (((tt + 1) : Nat) : Int))), (2, .int (zI ((setP (fun u => onL f u L1) (tt + 1) : Nat) : Int))), (0, .ref q0), (1, .int (zI ((L1 : Nat) : Int)))] := lv_c (l1 := []) (l2 := [(2, .int (zI ((setP (fun u => onL f u L1) (tt + 1) : Nat) : Int))), (0, .ref q0), (1, .int (zI ((L1 : Nat) : Int)))]) hl (show ((tt : Nat) : Int) + 1 = (((tt + 1) : Nat) : Int) from by omega)
          exact ih4 (tt + 1) (by omega) (by omega) ls (lv_sub hl [2, 3, 1, 0] rfl)
        · refine z_iconst hx hb dX10_onLine_24 ?_
          refine lv_iload_n hx hb dX10_onLine_25 rfl (lv_at hl 3 rfl) ?_
          refine z_ishl hx hb dX10_onLine_26 (1) (tt) (by omega) (by omega) (by omega) (sh1_lt (n := 12) (by omega) (by decide)) ?_
          refine lv_goto (tgt := 31) hx hb dX10_onLine_27 (by decide) ?_
          refine z_ior hx hb dX10_onLine_31 (setP (fun u => onL f u L1) tt) (1 <<< tt) (by omega) (by omega) ?_
          refine lv_istore_n (lv' := [(2, .int (zI (((setP (fun u => onL f u L1) tt) ||| (1 <<< tt) : Nat) : Int))), (0, .ref q0), (1, .int (zI ((L1 : Nat) : Int))), (3, .int (zI ((tt : Nat) : Int)))]) hx hb dX10_onLine_32 rfl hl (by decide) rfl (fun ls hl => ?_)
          refine lv_iinc (v := zI (((tt : Nat) : Int) + 1)) (lv' := [(3, .int (zI (((tt : Nat) : Int) + 1))), (2, .int (zI (((setP (fun u => onL f u L1) tt) ||| (1 <<< tt) : Nat) : Int))), (0, .ref q0), (1, .int (zI ((L1 : Nat) : Int)))]) hx hb dX10_onLine_33 hl (k := 3) rfl (zI_add _ _) (by decide) rfl (fun ls hl => ?_)
          refine lv_goto (tgt := 4) hx hb dX10_onLine_36 (by decide) ?_
          have hl : lv_has ls 4 [(3, .int (zI (((tt : Nat) : Int) + 1))), (2, .int (zI ((setP (fun u => onL f u L1) (tt + 1) : Nat) : Int))), (0, .ref q0), (1, .int (zI ((L1 : Nat) : Int)))] := lv_c (l1 := [(3, .int (zI (((tt : Nat) : Int) + 1)))]) (l2 := [(0, .ref q0), (1, .int (zI ((L1 : Nat) : Int)))]) hl (show (((setP (fun u => onL f u L1) tt) ||| (1 <<< tt) : Nat) : Int) = ((setP (fun u => onL f u L1) (tt + 1) : Nat) : Int) from congrArg Nat.cast (setP_t (p := (fun u => onL f u L1)) c_21))
          have hl : lv_has ls 4 [(3, .int (zI (((tt + 1) : Nat) : Int))), (2, .int (zI ((setP (fun u => onL f u L1) (tt + 1) : Nat) : Int))), (0, .ref q0), (1, .int (zI ((L1 : Nat) : Int)))] := lv_c (l1 := []) (l2 := [(2, .int (zI ((setP (fun u => onL f u L1) (tt + 1) : Nat) : Int))), (0, .ref q0), (1, .int (zI ((L1 : Nat) : Int)))]) hl (show ((tt : Nat) : Int) + 1 = (((tt + 1) : Nat) : Int) from by omega)
          exact ih4 (tt + 1) (by omega) (by omega) ls (lv_sub hl [2, 3, 1, 0] rfl)
  have hl : lv_has ls 4 [(3, .int (zI 0)), (2, .int (zI ((setP (fun u => onL f u L1) 0 : Nat) : Int))), (0, .ref q0), (1, .int (zI ((L1 : Nat) : Int)))] := lv_c (l1 := [(3, .int (zI 0))]) (l2 := [(0, .ref q0), (1, .int (zI ((L1 : Nat) : Int)))]) hl (show 0 = ((setP (fun u => onL f u L1) 0 : Nat) : Int) from rfl)
  have hl : lv_has ls 4 [(3, .int (zI ((0 : Nat) : Int))), (2, .int (zI ((setP (fun u => onL f u L1) 0 : Nat) : Int))), (0, .ref q0), (1, .int (zI ((L1 : Nat) : Int)))] := lv_c (l1 := []) (l2 := [(2, .int (zI ((setP (fun u => onL f u L1) 0 : Nat) : Int))), (0, .ref q0), (1, .int (zI ((L1 : Nat) : Int)))]) hl (show 0 = ((0 : Nat) : Int) from rfl)
  exact L4 _ 0 (Nat.zero_le _) (Nat.lt_succ_self _) ls (lv_sub hl [2, 3, 1, 0] rfl)
theorem dby_0 {p : Nat → Bool} {n : Nat} (h : p n = false) : ((ct p n : Nat) : Int) + 0 = ((ct p (n + 1) : Nat) : Int) := by rw [ct, h]; show _ = ((ct p n + 0 : Nat) : Int); omega
theorem dby_1 {p : Nat → Bool} {n : Nat} (h : p n = true) : ((ct p n : Nat) : Int) + 1 = ((ct p (n + 1) : Nat) : Int) := by rw [ct, h]; show _ = ((ct p n + 1 : Nat) : Int); omega
set_option maxHeartbeats 4000000 in
set_option maxRecDepth 100000 in
theorem m_drawnBy (l : Launch) (D : va_G) (k : Kt) (q0 : Nat) (qn : Nat) (qa : Nat) (qp : Nat) (qi : Nat) (qs : Nat) (qk : Nat) (qb : Nat) (qt : Nat) (qh : Nat) (qe : Nat) (de : Nat) (sv : Int) (bn : Nat) (f : St) (B : Int) (hV : Va B f) (hB : B < 1000000) (L1 : Nat) (lim : Int) (hL1 : L1 < 24) (hlim : 0 ≤ lim ∧ lim ≤ 100) : RO l D k yX10_drawnBy wsX10_drawnBy 3 67 [.ref q0, .int (zI ((L1 : Nat) : Int)), .int (zI lim)] [(q0, .inr (10, [.ref qn, .ref qa, .ref qp, .int (zI ((de : Nat) : Int)), .ref qi, .ref qs, .ref qk, .long (zL sv), .ref qb, .int (zI ((bn : Nat) : Int)), .ref qt, .ref qh, .ref qe])), (qn, .inl (k.1, 132, .inl (zF f)))] (fun r => r = zI ((drS f (f 2) lim L1 : Nat) : Int)) := by
  refine Met.ofW (cc := cX10_drawnBy) (maxL := 8) (ret := (some .int)) (by decide) rfl ?_
  intro p e s m args below meth c s₁ Bd hml hv
  obtain ⟨rfl, hP, hK⟩ := hv
  have hx := Bd.exec
  have hb := Bd.bytes
  have hr := Bd.returns
  have hts := atoms_spec (ws := wsX10_drawnBy) Bd.pre
  have hown : s.vm.findClass RX10 = some m.cls := findClass_of_methodNamed Bd.named
  have hlocks := Bd.notSynchronized
  have hSf : CallFix p m c cX10_drawnBy 8 s ([.ref q0, .int (zI ((L1 : Nat) : Int)), .int (zI lim)] : List Value).toArray wsX10_drawnBy RX10 := ⟨hx, hb, hml, hown, hts⟩
  have hinX10 : ∀ w ∈ u_ws RX10 TX10 13, w ∈ wsX10_drawnBy := by decide +kernel
  have fl7 := hts (.fieldLink RX10 7 "DotObjectsModel" "now" "[I") (by decide +kernel)
  have hl := lv_entry ([.ref q0, .int (zI ((L1 : Nat) : Int)), .int (zI lim)]) (n := 8) (Nat.le_of_ble_eq_true rfl)
  rw [lg_entry_eq]
  generalize (lg_sl ([.ref q0, .int (zI ((L1 : Nat) : Int)), .int (zI lim)]) ++ List.replicate (8 - (lg_sl ([.ref q0, .int (zI ((L1 : Nat) : Int)), .int (zI lim)])).length) Slot.unset).toArray = ls at hl ⊢
  have hl : lv_has ls 8 [(0, .ref q0), (1, .int (zI ((L1 : Nat) : Int))), (2, .int (zI lim))] := hl
  have hn := hV.n
  have hv0 := hV.1
  have hos := onS_lt hV L1
  refine lv_aload_n hx hb dX10_drawnBy_0 rfl (lv_at hl 0 rfl) ?_
  refine lv_iload_n hx hb dX10_drawnBy_1 rfl (lv_at hl 1 rfl) ?_
  refine roV (n := 1) (As := [.int (zI ((L1 : Nat) : Int))]) (rest := []) hSf (m_onLine l D k q0 qn qa qp qi qs qk qb qt qh qe de sv bn f B hV hB L1 (by omega)) gX10_drawnBy_X10_onLine rfl (by decide +kernel) ⟨Nat.le_of_ble_eq_true rfl, Nat.le_of_ble_eq_true rfl⟩ hK hP [0, 1] rfl 0 rfl rfl rfl hl.1 rfl (Nat.le_of_ble_eq_true rfl) dX10_drawnBy_2 ⟨Nat.zero_le _, Nat.zero_le _⟩ (fun r_2 h_2 => ?_)
  subst h_2
  refine lv_istore_n (lv' := [(3, .int (zI ((onS f L1 : Nat) : Int))), (0, .ref q0), (1, .int (zI ((L1 : Nat) : Int))), (2, .int (zI lim))]) hx hb dX10_drawnBy_5 rfl hl (by decide) rfl (fun ls hl => ?_)
  refine z_iconst hx hb dX10_drawnBy_6 ?_
  refine lv_istore (lv' := [(4, .int (zI 0)), (3, .int (zI ((onS f L1 : Nat) : Int))), (0, .ref q0), (1, .int (zI ((L1 : Nat) : Int))), (2, .int (zI lim))]) hx hb dX10_drawnBy_7 hl (by decide) rfl (fun ls hl => ?_)
  refine z_iconst hx hb dX10_drawnBy_9 ?_
  refine lv_istore (lv' := [(5, .int (zI 0)), (4, .int (zI 0)), (3, .int (zI ((onS f L1 : Nat) : Int))), (0, .ref q0), (1, .int (zI ((L1 : Nat) : Int))), (2, .int (zI lim))]) hx hb dX10_drawnBy_10 hl (by decide) rfl (fun ls hl => ?_)
  have L12 : ∀ (NN12 : Nat), ∀ (tt : Nat), (tt ≤ nT f) → nT f - tt < NN12 → ∀ (ls : Array Slot), lv_has ls 8 [(0, .ref q0), (1, .int (zI ((L1 : Nat) : Int))), (2, .int (zI lim)), (3, .int (zI ((onS f L1 : Nat) : Int))), (4, .int (zI ((setP (fun u => drP f (f 2) lim L1 u) tt : Nat) : Int))), (5, .int (zI ((tt : Nat) : Int)))] → W p l e (headSpec wsX10_drawnBy { frames := 3, cells := 0, slots := 0, locals := 67 }).room s m ([.ref q0, .int (zI ((L1 : Nat) : Int)), .int (zI lim)] : List Value).toArray below meth c s.heap [] 0 0 (MQ below (vp_Si (fun r => r = zI ((drS f (f 2) lim L1 : Nat) : Int))) ([.ref q0, .int (zI ((L1 : Nat) : Int)), .int (zI lim)] : List Value).toArray s 0 0 (fun _ => False)) (F0 m 12 ls []) := by
    intro NN12
    induction NN12 with
    | zero => intro tt _ hN; exact absurd hN (Nat.not_lt_zero _)
    | succ NN12 ih12 =>
      intro tt htt hN ls hl
      refine lv_iload hx hb dX10_drawnBy_12 (lv_at hl 5 rfl) ?_
      refine lv_aload_n hx hb dX10_drawnBy_14 rfl (lv_at hl 0 rfl) ?_
      refine va_get (D := D) (ci := 10) (v := .ref qn) (C := RX10) (T := TX10) (N := 13) hx hb hts hinX10 hown hK.1 hP 0 rfl rfl 0 (by decide) fl7 (fun _ h9 => h9) rfl dX10_drawnBy_15 ?_
      refine z_iconst hx hb dX10_drawnBy_18 ?_
      refine z_ald hx hb hK hP 1 rfl (0) (by omega) (by omega) (Nat.le_of_ble_eq_true rfl) dX10_drawnBy_19 ?_
      refine z_icmp_ge (tgt := 117) hx hb dX10_drawnBy_20 (by decide) (by omega) (by omega) (fun c_20 => ?_) (fun c_20 => ?_)
      · obtain rfl : tt = nT f := by omega
        refine lv_iload hx hb dX10_drawnBy_117 (lv_at hl 4 rfl) ?_
        exact W.iret hx hb hr (fun t ht hW => ⟨_, rfl, rfl, ht⟩) (fun q hq => by cases hq) dX10_drawnBy_119
      · refine z_iconst hx hb dX10_drawnBy_23 ?_
        refine lv_istore (lv' := [(6, .int (zI 0)), (0, .ref q0), (1, .int (zI ((L1 : Nat) : Int))), (2, .int (zI lim)), (3, .int (zI ((onS f L1 : Nat) : Int))), (4, .int (zI ((setP (fun u => drP f (f 2) lim L1 u) tt : Nat) : Int))), (5, .int (zI ((tt : Nat) : Int)))]) hx hb dX10_drawnBy_24 hl (by decide) rfl (fun ls hl => ?_)
        refine z_iconst hx hb dX10_drawnBy_26 ?_
        refine lv_istore (lv' := [(7, .int (zI 0)), (6, .int (zI 0)), (0, .ref q0), (1, .int (zI ((L1 : Nat) : Int))), (2, .int (zI lim)), (3, .int (zI ((onS f L1 : Nat) : Int))), (4, .int (zI ((setP (fun u => drP f (f 2) lim L1 u) tt : Nat) : Int))), (5, .int (zI ((tt : Nat) : Int)))]) hx hb dX10_drawnBy_27 hl (by decide) rfl (fun ls hl => ?_)
        have L29 : ∀ (NN29 : Nat), ∀ (uu : Nat), (uu ≤ nT f) → nT f - uu < NN29 → ∀ (ls : Array Slot), lv_has ls 8 [(0, .ref q0), (1, .int (zI ((L1 : Nat) : Int))), (2, .int (zI lim)), (3, .int (zI ((onS f L1 : Nat) : Int))), (4, .int (zI ((setP (fun u => drP f (f 2) lim L1 u) tt : Nat) : Int))), (5, .int (zI ((tt : Nat) : Int))), (6, .int (zI ((ct (fun u => decide (u ≠ tt) && onL f u L1 && ahd f (f 2) u tt) uu : Nat) : Int))), (7, .int (zI ((uu : Nat) : Int)))] → W p l e (headSpec wsX10_drawnBy { frames := 3, cells := 0, slots := 0, locals := 67 }).room s m ([.ref q0, .int (zI ((L1 : Nat) : Int)), .int (zI lim)] : List Value).toArray below meth c s.heap [] 0 0 (MQ below (vp_Si (fun r => r = zI ((drS f (f 2) lim L1 : Nat) : Int))) ([.ref q0, .int (zI ((L1 : Nat) : Int)), .int (zI lim)] : List Value).toArray s 0 0 (fun _ => False)) (F0 m 29 ls []) := by
          intro NN29
          induction NN29 with
          | zero => intro uu _ hN; exact absurd hN (Nat.not_lt_zero _)
          | succ NN29 ih29 =>
            intro uu huu hN ls hl
            refine lv_iload hx hb dX10_drawnBy_29 (lv_at hl 7 rfl) ?_
            refine lv_aload_n hx hb dX10_drawnBy_31 rfl (lv_at hl 0 rfl) ?_
            refine va_get (D := D) (ci := 10) (v := .ref qn) (C := RX10) (T := TX10) (N := 13) hx hb hts hinX10 hown hK.1 hP 0 rfl rfl 0 (by decide) fl7 (fun _ h9 => h9) rfl dX10_drawnBy_32 ?_
            refine z_iconst hx hb dX10_drawnBy_35 ?_
            refine z_ald hx hb hK hP 1 rfl (0) (by omega) (by omega) (Nat.le_of_ble_eq_true rfl) dX10_drawnBy_36 ?_
            refine z_icmp_ge (tgt := 83) hx hb dX10_drawnBy_37 (by decide) (by omega) (by omega) (fun c_37 => ?_) (fun c_37 => ?_)
            · have huu2 : uu = nT f := by omega
              have hcl2 := ct_le (fun u => decide (u ≠ tt) && onL f u L1 && ahd f (f 2) u tt) uu
              have hrk : ct (fun u => decide (u ≠ tt) && onL f u L1 && ahd f (f 2) u tt) uu = rank f (f 2) L1 tt := by rw [huu2]; rfl
              refine lv_iload hx hb dX10_drawnBy_83 (lv_at hl 4 rfl) ?_
              refine lv_iload_n hx hb dX10_drawnBy_85 rfl (lv_at hl 3 rfl) ?_
              refine lv_iload hx hb dX10_drawnBy_86 (lv_at hl 5 rfl) ?_
              refine roS (n := 2) (As := [.int (zI (((onS f L1) : Nat) : Int)), .int (zI ((tt : Nat) : Int))]) (rest := [.int (zI ((setP (fun u => drP f (f 2) lim L1 u) tt : Nat) : Int))]) hSf (m_has l D k (onS f L1) tt (by omega) (by omega)) gX10_drawnBy_X10_has rfl (by decide +kernel) ⟨Nat.le_of_ble_eq_true rfl, Nat.le_of_ble_eq_true rfl⟩ hK hP [] rfl rfl hl.1 rfl (Nat.le_of_ble_eq_true rfl) dX10_drawnBy_88 ⟨Nat.zero_le _, Nat.zero_le _⟩ (fun r_88 h_88 => ?_)
              subst h_88
              refine z_if_eqb (tgt := 107) hx hb dX10_drawnBy_91 (by decide) (fun c_91 => ?_) (fun c_91 => ?_)
              · refine z_iconst hx hb dX10_drawnBy_107 ?_
                refine z_ior hx hb dX10_drawnBy_108 (setP (fun u => drP f (f 2) lim L1 u) tt) (0) (by omega) (by omega) ?_
                refine lv_istore (lv' := [(4, .int (zI (((setP (fun u => drP f (f 2) lim L1 u) tt) ||| 0 : Nat) : Int))), (0, .ref q0), (1, .int (zI ((L1 : Nat) : Int))), (2, .int (zI lim)), (3, .int (zI ((onS f L1 : Nat) : Int))), (5, .int (zI ((tt : Nat) : Int))), (6, .int (zI ((ct (fun u => decide (u ≠ tt) && onL f u L1 && ahd f (f 2) u tt) uu : Nat) : Int))), (7, .int (zI ((uu : Nat) : Int)))]) hx hb dX10_drawnBy_109 hl (by decide) rfl (fun ls hl => ?_)
                refine lv_iinc (v := zI (((tt : Nat) : Int) + 1)) (lv' := [(5, .int (zI (((tt : Nat) : Int) + 1))), (4, .int (zI (((setP (fun u => drP f (f 2) lim L1 u) tt) ||| 0 : Nat) : Int))), (0, .ref q0), (1, .int (zI ((L1 : Nat) : Int))), (2, .int (zI lim)), (3, .int (zI ((onS f L1 : Nat) : Int))), (6, .int (zI ((ct (fun u => decide (u ≠ tt) && onL f u L1 && ahd f (f 2) u tt) uu : Nat) : Int))), (7, .int (zI ((uu : Nat) : Int)))]) hx hb dX10_drawnBy_111 hl (k := 5) rfl (zI_add _ _) (by decide) rfl (fun ls hl => ?_)
                refine lv_goto (tgt := 12) hx hb dX10_drawnBy_114 (by decide) ?_
                have hl : lv_has ls 8 [(5, .int (zI (((tt : Nat) : Int) + 1))), (4, .int (zI ((setP (fun u => drP f (f 2) lim L1 u) (tt + 1) : Nat) : Int))), (0, .ref q0), (1, .int (zI ((L1 : Nat) : Int))), (2, .int (zI lim)), (3, .int (zI ((onS f L1 : Nat) : Int))), (6, .int (zI ((ct (fun u => decide (u ≠ tt) && onL f u L1 && ahd f (f 2) u tt) uu : Nat) : Int))), (7, .int (zI ((uu : Nat) : Int)))] := lv_c (l1 := [(5, .int (zI (((tt : Nat) : Int) + 1)))]) (l2 := [(0, .ref q0), (1, .int (zI ((L1 : Nat) : Int))), (2, .int (zI lim)), (3, .int (zI ((onS f L1 : Nat) : Int))), (6, .int (zI ((ct (fun u => decide (u ≠ tt) && onL f u L1 && ahd f (f 2) u tt) uu : Nat) : Int))), (7, .int (zI ((uu : Nat) : Int)))]) hl (show (((setP (fun u => drP f (f 2) lim L1 u) tt) ||| 0 : Nat) : Int) = ((setP (fun u => drP f (f 2) lim L1 u) (tt + 1) : Nat) : Int) from congrArg Nat.cast ((Nat.or_zero _).trans (setP_f (p := (fun u => drP f (f 2) lim L1 u)) (by unfold drP; rw [show onL f tt L1 = false from by rw [onS_bit, decide_eq_true (show tt < nT f by omega), Bool.true_and] at c_91; exact c_91]; rfl))))
                have hl : lv_has ls 8 [(5, .int (zI (((tt + 1) : Nat) : Int))), (4, .int (zI ((setP (fun u => drP f (f 2) lim L1 u) (tt + 1) : Nat) : Int))), (0, .ref q0), (1, .int (zI ((L1 : Nat) : Int))), (2, .int (zI lim)), (3, .int (zI ((onS f L1 : Nat) : Int))), (6, .int (zI ((ct (fun u => decide (u ≠ tt) && onL f u L1 && ahd f (f 2) u tt) uu : Nat) : Int))), (7, .int (zI ((uu : Nat) : Int)))] := lv_c (l1 := []) (l2 := [(4, .int (zI ((setP (fun u => drP f (f 2) lim L1 u) (tt + 1) : Nat) : Int))), (0, .ref q0), (1, .int (zI ((L1 : Nat) : Int))), (2, .int (zI lim)), (3, .int (zI ((onS f L1 : Nat) : Int))), (6, .int (zI ((ct (fun u => decide (u ≠ tt) && onL f u L1 && ahd f (f 2) u tt) uu : Nat) : Int))), (7, .int (zI ((uu : Nat) : Int)))]) hl (show ((tt : Nat) : Int) + 1 = (((tt + 1) : Nat) : Int) from by omega)
                exact ih12 (tt + 1) (by omega) (by omega) ls (lv_sub hl [2, 3, 4, 5, 1, 0] rfl)
              · refine lv_iload hx hb dX10_drawnBy_94 (lv_at hl 6 rfl) ?_
                refine lv_iload_n hx hb dX10_drawnBy_96 rfl (lv_at hl 2 rfl) ?_
                refine z_icmp_ge (tgt := 107) hx hb dX10_drawnBy_97 (by decide) (by omega) (by omega) (fun c_97 => ?_) (fun c_97 => ?_)
                · refine z_iconst hx hb dX10_drawnBy_107 ?_
                  refine z_ior hx hb dX10_drawnBy_108 (setP (fun u => drP f (f 2) lim L1 u) tt) (0) (by omega) (by omega) ?_
                  refine lv_istore (lv' := [(4, .int (zI (((setP (fun u => drP f (f 2) lim L1 u) tt) ||| 0 : Nat) : Int))), (0, .ref q0), (1, .int (zI ((L1 : Nat) : Int))), (2, .int (zI lim)), (3, .int (zI ((onS f L1 : Nat) : Int))), (5, .int (zI ((tt : Nat) : Int))), (6, .int (zI ((ct (fun u => decide (u ≠ tt) && onL f u L1 && ahd f (f 2) u tt) uu : Nat) : Int))), (7, .int (zI ((uu : Nat) : Int)))]) hx hb dX10_drawnBy_109 hl (by decide) rfl (fun ls hl => ?_)
                  refine lv_iinc (v := zI (((tt : Nat) : Int) + 1)) (lv' := [(5, .int (zI (((tt : Nat) : Int) + 1))), (4, .int (zI (((setP (fun u => drP f (f 2) lim L1 u) tt) ||| 0 : Nat) : Int))), (0, .ref q0), (1, .int (zI ((L1 : Nat) : Int))), (2, .int (zI lim)), (3, .int (zI ((onS f L1 : Nat) : Int))), (6, .int (zI ((ct (fun u => decide (u ≠ tt) && onL f u L1 && ahd f (f 2) u tt) uu : Nat) : Int))), (7, .int (zI ((uu : Nat) : Int)))]) hx hb dX10_drawnBy_111 hl (k := 5) rfl (zI_add _ _) (by decide) rfl (fun ls hl => ?_)
                  refine lv_goto (tgt := 12) hx hb dX10_drawnBy_114 (by decide) ?_
                  have hl : lv_has ls 8 [(5, .int (zI (((tt : Nat) : Int) + 1))), (4, .int (zI ((setP (fun u => drP f (f 2) lim L1 u) (tt + 1) : Nat) : Int))), (0, .ref q0), (1, .int (zI ((L1 : Nat) : Int))), (2, .int (zI lim)), (3, .int (zI ((onS f L1 : Nat) : Int))), (6, .int (zI ((ct (fun u => decide (u ≠ tt) && onL f u L1 && ahd f (f 2) u tt) uu : Nat) : Int))), (7, .int (zI ((uu : Nat) : Int)))] := lv_c (l1 := [(5, .int (zI (((tt : Nat) : Int) + 1)))]) (l2 := [(0, .ref q0), (1, .int (zI ((L1 : Nat) : Int))), (2, .int (zI lim)), (3, .int (zI ((onS f L1 : Nat) : Int))), (6, .int (zI ((ct (fun u => decide (u ≠ tt) && onL f u L1 && ahd f (f 2) u tt) uu : Nat) : Int))), (7, .int (zI ((uu : Nat) : Int)))]) hl (show (((setP (fun u => drP f (f 2) lim L1 u) tt) ||| 0 : Nat) : Int) = ((setP (fun u => drP f (f 2) lim L1 u) (tt + 1) : Nat) : Int) from congrArg Nat.cast ((Nat.or_zero _).trans (setP_f (p := (fun u => drP f (f 2) lim L1 u)) (by unfold drP; rw [decide_eq_false (by omega), Bool.and_false]))))
                  have hl : lv_has ls 8 [(5, .int (zI (((tt + 1) : Nat) : Int))), (4, .int (zI ((setP (fun u => drP f (f 2) lim L1 u) (tt + 1) : Nat) : Int))), (0, .ref q0), (1, .int (zI ((L1 : Nat) : Int))), (2, .int (zI lim)), (3, .int (zI ((onS f L1 : Nat) : Int))), (6, .int (zI ((ct (fun u => decide (u ≠ tt) && onL f u L1 && ahd f (f 2) u tt) uu : Nat) : Int))), (7, .int (zI ((uu : Nat) : Int)))] := lv_c (l1 := []) (l2 := [(4, .int (zI ((setP (fun u => drP f (f 2) lim L1 u) (tt + 1) : Nat) : Int))), (0, .ref q0), (1, .int (zI ((L1 : Nat) : Int))), (2, .int (zI lim)), (3, .int (zI ((onS f L1 : Nat) : Int))), (6, .int (zI ((ct (fun u => decide (u ≠ tt) && onL f u L1 && ahd f (f 2) u tt) uu : Nat) : Int))), (7, .int (zI ((uu : Nat) : Int)))]) hl (show ((tt : Nat) : Int) + 1 = (((tt + 1) : Nat) : Int) from by omega)
                  exact ih12 (tt + 1) (by omega) (by omega) ls (lv_sub hl [2, 3, 4, 5, 1, 0] rfl)
                · refine z_iconst hx hb dX10_drawnBy_100 ?_
                  refine lv_iload hx hb dX10_drawnBy_101 (lv_at hl 5 rfl) ?_
                  refine z_ishl hx hb dX10_drawnBy_103 (1) (tt) (by omega) (by omega) (by omega) (sh1_lt (n := 12) (by omega) (by decide)) ?_
                  refine lv_goto (tgt := 108) hx hb dX10_drawnBy_104 (by decide) ?_
                  refine z_ior hx hb dX10_drawnBy_108 (setP (fun u => drP f (f 2) lim L1 u) tt) (1 <<< tt) (by omega) (by omega) ?_
                  refine lv_istore (lv' := [(4, .int (zI (((setP (fun u => drP f (f 2) lim L1 u) tt) ||| (1 <<< tt) : Nat) : Int))), (0, .ref q0), (1, .int (zI ((L1 : Nat) : Int))), (2, .int (zI lim)), (3, .int (zI ((onS f L1 : Nat) : Int))), (5, .int (zI ((tt : Nat) : Int))), (6, .int (zI ((ct (fun u => decide (u ≠ tt) && onL f u L1 && ahd f (f 2) u tt) uu : Nat) : Int))), (7, .int (zI ((uu : Nat) : Int)))]) hx hb dX10_drawnBy_109 hl (by decide) rfl (fun ls hl => ?_)
                  refine lv_iinc (v := zI (((tt : Nat) : Int) + 1)) (lv' := [(5, .int (zI (((tt : Nat) : Int) + 1))), (4, .int (zI (((setP (fun u => drP f (f 2) lim L1 u) tt) ||| (1 <<< tt) : Nat) : Int))), (0, .ref q0), (1, .int (zI ((L1 : Nat) : Int))), (2, .int (zI lim)), (3, .int (zI ((onS f L1 : Nat) : Int))), (6, .int (zI ((ct (fun u => decide (u ≠ tt) && onL f u L1 && ahd f (f 2) u tt) uu : Nat) : Int))), (7, .int (zI ((uu : Nat) : Int)))]) hx hb dX10_drawnBy_111 hl (k := 5) rfl (zI_add _ _) (by decide) rfl (fun ls hl => ?_)
                  refine lv_goto (tgt := 12) hx hb dX10_drawnBy_114 (by decide) ?_
                  have hl : lv_has ls 8 [(5, .int (zI (((tt : Nat) : Int) + 1))), (4, .int (zI ((setP (fun u => drP f (f 2) lim L1 u) (tt + 1) : Nat) : Int))), (0, .ref q0), (1, .int (zI ((L1 : Nat) : Int))), (2, .int (zI lim)), (3, .int (zI ((onS f L1 : Nat) : Int))), (6, .int (zI ((ct (fun u => decide (u ≠ tt) && onL f u L1 && ahd f (f 2) u tt) uu : Nat) : Int))), (7, .int (zI ((uu : Nat) : Int)))] := lv_c (l1 := [(5, .int (zI (((tt : Nat) : Int) + 1)))]) (l2 := [(0, .ref q0), (1, .int (zI ((L1 : Nat) : Int))), (2, .int (zI lim)), (3, .int (zI ((onS f L1 : Nat) : Int))), (6, .int (zI ((ct (fun u => decide (u ≠ tt) && onL f u L1 && ahd f (f 2) u tt) uu : Nat) : Int))), (7, .int (zI ((uu : Nat) : Int)))]) hl (show (((setP (fun u => drP f (f 2) lim L1 u) tt) ||| (1 <<< tt) : Nat) : Int) = ((setP (fun u => drP f (f 2) lim L1 u) (tt + 1) : Nat) : Int) from congrArg Nat.cast (setP_t (p := (fun u => drP f (f 2) lim L1 u)) (by unfold drP; rw [show onL f tt L1 = true from by rw [onS_bit, decide_eq_true (show tt < nT f by omega), Bool.true_and] at c_91; exact c_91, decide_eq_true (by omega)]; rfl)))
                  have hl : lv_has ls 8 [(5, .int (zI (((tt + 1) : Nat) : Int))), (4, .int (zI ((setP (fun u => drP f (f 2) lim L1 u) (tt + 1) : Nat) : Int))), (0, .ref q0), (1, .int (zI ((L1 : Nat) : Int))), (2, .int (zI lim)), (3, .int (zI ((onS f L1 : Nat) : Int))), (6, .int (zI ((ct (fun u => decide (u ≠ tt) && onL f u L1 && ahd f (f 2) u tt) uu : Nat) : Int))), (7, .int (zI ((uu : Nat) : Int)))] := lv_c (l1 := []) (l2 := [(4, .int (zI ((setP (fun u => drP f (f 2) lim L1 u) (tt + 1) : Nat) : Int))), (0, .ref q0), (1, .int (zI ((L1 : Nat) : Int))), (2, .int (zI lim)), (3, .int (zI ((onS f L1 : Nat) : Int))), (6, .int (zI ((ct (fun u => decide (u ≠ tt) && onL f u L1 && ahd f (f 2) u tt) uu : Nat) : Int))), (7, .int (zI ((uu : Nat) : Int)))]) hl (show ((tt : Nat) : Int) + 1 = (((tt + 1) : Nat) : Int) from by omega)
                  exact ih12 (tt + 1) (by omega) (by omega) ls (lv_sub hl [2, 3, 4, 5, 1, 0] rfl)
            · refine lv_iload hx hb dX10_drawnBy_40 (lv_at hl 6 rfl) ?_
              refine lv_iload hx hb dX10_drawnBy_42 (lv_at hl 7 rfl) ?_
              refine lv_iload hx hb dX10_drawnBy_44 (lv_at hl 5 rfl) ?_
              refine z_icmp_eq (tgt := 73) hx hb dX10_drawnBy_46 (by decide) (by omega) (by omega) (fun c_46 => ?_) (fun c_46 => ?_)
              · refine z_iconst hx hb dX10_drawnBy_73 ?_
                refine z_iadd hx hb dX10_drawnBy_74 ?_
                refine lv_istore (lv' := [(6, .int (zI (((ct (fun u => decide (u ≠ tt) && onL f u L1 && ahd f (f 2) u tt) uu : Nat) : Int) + 0))), (0, .ref q0), (1, .int (zI ((L1 : Nat) : Int))), (2, .int (zI lim)), (3, .int (zI ((onS f L1 : Nat) : Int))), (4, .int (zI ((setP (fun u => drP f (f 2) lim L1 u) tt : Nat) : Int))), (5, .int (zI ((tt : Nat) : Int))), (7, .int (zI ((uu : Nat) : Int)))]) hx hb dX10_drawnBy_75 hl (by decide) rfl (fun ls hl => ?_)
                refine lv_iinc (v := zI (((uu : Nat) : Int) + 1)) (lv' := [(7, .int (zI (((uu : Nat) : Int) + 1))), (6, .int (zI (((ct (fun u => decide (u ≠ tt) && onL f u L1 && ahd f (f 2) u tt) uu : Nat) : Int) + 0))), (0, .ref q0), (1, .int (zI ((L1 : Nat) : Int))), (2, .int (zI lim)), (3, .int (zI ((onS f L1 : Nat) : Int))), (4, .int (zI ((setP (fun u => drP f (f 2) lim L1 u) tt : Nat) : Int))), (5, .int (zI ((tt : Nat) : Int)))]) hx hb dX10_drawnBy_77 hl (k := 7) rfl (zI_add _ _) (by decide) rfl (fun ls hl => ?_)
                refine lv_goto (tgt := 29) hx hb dX10_drawnBy_80 (by decide) ?_
                have hl : lv_has ls 8 [(7, .int (zI (((uu : Nat) : Int) + 1))), (6, .int (zI ((ct (fun u => decide (u ≠ tt) && onL f u L1 && ahd f (f 2) u tt) (uu + 1) : Nat) : Int))), (0, .ref q0), (1, .int (zI ((L1 : Nat) : Int))), (2, .int (zI lim)), (3, .int (zI ((onS f L1 : Nat) : Int))), (4, .int (zI ((setP (fun u => drP f (f 2) lim L1 u) tt : Nat) : Int))), (5, .int (zI ((tt : Nat) : Int)))] := lv_c (l1 := [(7, .int (zI (((uu : Nat) : Int) + 1)))]) (l2 := [(0, .ref q0), (1, .int (zI ((L1 : Nat) : Int))), (2, .int (zI lim)), (3, .int (zI ((onS f L1 : Nat) : Int))), (4, .int (zI ((setP (fun u => drP f (f 2) lim L1 u) tt : Nat) : Int))), (5, .int (zI ((tt : Nat) : Int)))]) hl (show ((ct (fun u => decide (u ≠ tt) && onL f u L1 && ahd f (f 2) u tt) uu : Nat) : Int) + 0 = ((ct (fun u => decide (u ≠ tt) && onL f u L1 && ahd f (f 2) u tt) (uu + 1) : Nat) : Int) from (dby_0 (by rw [decide_eq_false (by omega)]; rfl) : _ = ((ct (fun u => decide (u ≠ tt) && onL f u L1 && ahd f (f 2) u tt) (uu + 1) : Nat) : Int)))
                have hl : lv_has ls 8 [(7, .int (zI (((uu + 1) : Nat) : Int))), (6, .int (zI ((ct (fun u => decide (u ≠ tt) && onL f u L1 && ahd f (f 2) u tt) (uu + 1) : Nat) : Int))), (0, .ref q0), (1, .int (zI ((L1 : Nat) : Int))), (2, .int (zI lim)), (3, .int (zI ((onS f L1 : Nat) : Int))), (4, .int (zI ((setP (fun u => drP f (f 2) lim L1 u) tt : Nat) : Int))), (5, .int (zI ((tt : Nat) : Int)))] := lv_c (l1 := []) (l2 := [(6, .int (zI ((ct (fun u => decide (u ≠ tt) && onL f u L1 && ahd f (f 2) u tt) (uu + 1) : Nat) : Int))), (0, .ref q0), (1, .int (zI ((L1 : Nat) : Int))), (2, .int (zI lim)), (3, .int (zI ((onS f L1 : Nat) : Int))), (4, .int (zI ((setP (fun u => drP f (f 2) lim L1 u) tt : Nat) : Int))), (5, .int (zI ((tt : Nat) : Int)))]) hl (show ((uu : Nat) : Int) + 1 = (((uu + 1) : Nat) : Int) from by omega)
                exact ih29 (uu + 1) (by omega) (by omega) ls (lv_sub hl [2, 3, 4, 5, 6, 7, 1, 0] rfl)
              · refine lv_iload_n hx hb dX10_drawnBy_49 rfl (lv_at hl 3 rfl) ?_
                refine lv_iload hx hb dX10_drawnBy_50 (lv_at hl 7 rfl) ?_
                refine roS (n := 2) (As := [.int (zI (((onS f L1) : Nat) : Int)), .int (zI ((uu : Nat) : Int))]) (rest := [.int (zI ((ct (fun u => decide (u ≠ tt) && onL f u L1 && ahd f (f 2) u tt) uu : Nat) : Int))]) hSf (m_has l D k (onS f L1) uu (by omega) (by omega)) gX10_drawnBy_X10_has rfl (by decide +kernel) ⟨Nat.le_of_ble_eq_true rfl, Nat.le_of_ble_eq_true rfl⟩ hK hP [] rfl rfl hl.1 rfl (Nat.le_of_ble_eq_true rfl) dX10_drawnBy_52 ⟨Nat.zero_le _, Nat.zero_le _⟩ (fun r_52 h_52 => ?_)
                subst h_52
                refine z_if_eqb (tgt := 73) hx hb dX10_drawnBy_55 (by decide) (fun c_55 => ?_) (fun c_55 => ?_)
                · refine z_iconst hx hb dX10_drawnBy_73 ?_
                  refine z_iadd hx hb dX10_drawnBy_74 ?_
                  refine lv_istore (lv' := [(6, .int (zI (((ct (fun u => decide (u ≠ tt) && onL f u L1 && ahd f (f 2) u tt) uu : Nat) : Int) + 0))), (0, .ref q0), (1, .int (zI ((L1 : Nat) : Int))), (2, .int (zI lim)), (3, .int (zI ((onS f L1 : Nat) : Int))), (4, .int (zI ((setP (fun u => drP f (f 2) lim L1 u) tt : Nat) : Int))), (5, .int (zI ((tt : Nat) : Int))), (7, .int (zI ((uu : Nat) : Int)))]) hx hb dX10_drawnBy_75 hl (by decide) rfl (fun ls hl => ?_)
                  refine lv_iinc (v := zI (((uu : Nat) : Int) + 1)) (lv' := [(7, .int (zI (((uu : Nat) : Int) + 1))), (6, .int (zI (((ct (fun u => decide (u ≠ tt) && onL f u L1 && ahd f (f 2) u tt) uu : Nat) : Int) + 0))), (0, .ref q0), (1, .int (zI ((L1 : Nat) : Int))), (2, .int (zI lim)), (3, .int (zI ((onS f L1 : Nat) : Int))), (4, .int (zI ((setP (fun u => drP f (f 2) lim L1 u) tt : Nat) : Int))), (5, .int (zI ((tt : Nat) : Int)))]) hx hb dX10_drawnBy_77 hl (k := 7) rfl (zI_add _ _) (by decide) rfl (fun ls hl => ?_)
                  refine lv_goto (tgt := 29) hx hb dX10_drawnBy_80 (by decide) ?_
                  have hl : lv_has ls 8 [(7, .int (zI (((uu : Nat) : Int) + 1))), (6, .int (zI ((ct (fun u => decide (u ≠ tt) && onL f u L1 && ahd f (f 2) u tt) (uu + 1) : Nat) : Int))), (0, .ref q0), (1, .int (zI ((L1 : Nat) : Int))), (2, .int (zI lim)), (3, .int (zI ((onS f L1 : Nat) : Int))), (4, .int (zI ((setP (fun u => drP f (f 2) lim L1 u) tt : Nat) : Int))), (5, .int (zI ((tt : Nat) : Int)))] := lv_c (l1 := [(7, .int (zI (((uu : Nat) : Int) + 1)))]) (l2 := [(0, .ref q0), (1, .int (zI ((L1 : Nat) : Int))), (2, .int (zI lim)), (3, .int (zI ((onS f L1 : Nat) : Int))), (4, .int (zI ((setP (fun u => drP f (f 2) lim L1 u) tt : Nat) : Int))), (5, .int (zI ((tt : Nat) : Int)))]) hl (show ((ct (fun u => decide (u ≠ tt) && onL f u L1 && ahd f (f 2) u tt) uu : Nat) : Int) + 0 = ((ct (fun u => decide (u ≠ tt) && onL f u L1 && ahd f (f 2) u tt) (uu + 1) : Nat) : Int) from (dby_0 (by rw [show onL f uu L1 = false from by rw [onS_bit, decide_eq_true (show uu < nT f by omega), Bool.true_and] at c_55; exact c_55, Bool.and_false]; rfl) : _ = ((ct (fun u => decide (u ≠ tt) && onL f u L1 && ahd f (f 2) u tt) (uu + 1) : Nat) : Int)))
                  have hl : lv_has ls 8 [(7, .int (zI (((uu + 1) : Nat) : Int))), (6, .int (zI ((ct (fun u => decide (u ≠ tt) && onL f u L1 && ahd f (f 2) u tt) (uu + 1) : Nat) : Int))), (0, .ref q0), (1, .int (zI ((L1 : Nat) : Int))), (2, .int (zI lim)), (3, .int (zI ((onS f L1 : Nat) : Int))), (4, .int (zI ((setP (fun u => drP f (f 2) lim L1 u) tt : Nat) : Int))), (5, .int (zI ((tt : Nat) : Int)))] := lv_c (l1 := []) (l2 := [(6, .int (zI ((ct (fun u => decide (u ≠ tt) && onL f u L1 && ahd f (f 2) u tt) (uu + 1) : Nat) : Int))), (0, .ref q0), (1, .int (zI ((L1 : Nat) : Int))), (2, .int (zI lim)), (3, .int (zI ((onS f L1 : Nat) : Int))), (4, .int (zI ((setP (fun u => drP f (f 2) lim L1 u) tt : Nat) : Int))), (5, .int (zI ((tt : Nat) : Int)))]) hl (show ((uu : Nat) : Int) + 1 = (((uu + 1) : Nat) : Int) from by omega)
                  exact ih29 (uu + 1) (by omega) (by omega) ls (lv_sub hl [2, 3, 4, 5, 6, 7, 1, 0] rfl)
                · refine lv_aload_n hx hb dX10_drawnBy_58 rfl (lv_at hl 0 rfl) ?_
                  refine lv_iload hx hb dX10_drawnBy_59 (lv_at hl 7 rfl) ?_
                  refine lv_iload hx hb dX10_drawnBy_61 (lv_at hl 5 rfl) ?_
                  refine roV (n := 2) (As := [.int (zI ((uu : Nat) : Int)), .int (zI ((tt : Nat) : Int))]) (rest := [.int (zI ((ct (fun u => decide (u ≠ tt) && onL f u L1 && ahd f (f 2) u tt) uu : Nat) : Int))]) hSf (m_isAhead l D k q0 qn qa qp qi qs qk qb qt qh qe de sv bn f B hV hB uu tt (by omega) (by omega)) gX10_drawnBy_X10_isAhead rfl (by decide +kernel) ⟨Nat.le_of_ble_eq_true rfl, Nat.le_of_ble_eq_true rfl⟩ hK hP [0, 1] rfl 0 rfl rfl rfl hl.1 rfl (Nat.le_of_ble_eq_true rfl) dX10_drawnBy_63 ⟨Nat.zero_le _, Nat.zero_le _⟩ (fun r_63 h_63 => ?_)
                  subst h_63
                  refine z_if_eqb (tgt := 73) hx hb dX10_drawnBy_66 (by decide) (fun c_66 => ?_) (fun c_66 => ?_)
                  · refine z_iconst hx hb dX10_drawnBy_73 ?_
                    refine z_iadd hx hb dX10_drawnBy_74 ?_
                    refine lv_istore (lv' := [(6, .int (zI (((ct (fun u => decide (u ≠ tt) && onL f u L1 && ahd f (f 2) u tt) uu : Nat) : Int) + 0))), (0, .ref q0), (1, .int (zI ((L1 : Nat) : Int))), (2, .int (zI lim)), (3, .int (zI ((onS f L1 : Nat) : Int))), (4, .int (zI ((setP (fun u => drP f (f 2) lim L1 u) tt : Nat) : Int))), (5, .int (zI ((tt : Nat) : Int))), (7, .int (zI ((uu : Nat) : Int)))]) hx hb dX10_drawnBy_75 hl (by decide) rfl (fun ls hl => ?_)
                    refine lv_iinc (v := zI (((uu : Nat) : Int) + 1)) (lv' := [(7, .int (zI (((uu : Nat) : Int) + 1))), (6, .int (zI (((ct (fun u => decide (u ≠ tt) && onL f u L1 && ahd f (f 2) u tt) uu : Nat) : Int) + 0))), (0, .ref q0), (1, .int (zI ((L1 : Nat) : Int))), (2, .int (zI lim)), (3, .int (zI ((onS f L1 : Nat) : Int))), (4, .int (zI ((setP (fun u => drP f (f 2) lim L1 u) tt : Nat) : Int))), (5, .int (zI ((tt : Nat) : Int)))]) hx hb dX10_drawnBy_77 hl (k := 7) rfl (zI_add _ _) (by decide) rfl (fun ls hl => ?_)
                    refine lv_goto (tgt := 29) hx hb dX10_drawnBy_80 (by decide) ?_
                    have hl : lv_has ls 8 [(7, .int (zI (((uu : Nat) : Int) + 1))), (6, .int (zI ((ct (fun u => decide (u ≠ tt) && onL f u L1 && ahd f (f 2) u tt) (uu + 1) : Nat) : Int))), (0, .ref q0), (1, .int (zI ((L1 : Nat) : Int))), (2, .int (zI lim)), (3, .int (zI ((onS f L1 : Nat) : Int))), (4, .int (zI ((setP (fun u => drP f (f 2) lim L1 u) tt : Nat) : Int))), (5, .int (zI ((tt : Nat) : Int)))] := lv_c (l1 := [(7, .int (zI (((uu : Nat) : Int) + 1)))]) (l2 := [(0, .ref q0), (1, .int (zI ((L1 : Nat) : Int))), (2, .int (zI lim)), (3, .int (zI ((onS f L1 : Nat) : Int))), (4, .int (zI ((setP (fun u => drP f (f 2) lim L1 u) tt : Nat) : Int))), (5, .int (zI ((tt : Nat) : Int)))]) hl (show ((ct (fun u => decide (u ≠ tt) && onL f u L1 && ahd f (f 2) u tt) uu : Nat) : Int) + 0 = ((ct (fun u => decide (u ≠ tt) && onL f u L1 && ahd f (f 2) u tt) (uu + 1) : Nat) : Int) from (dby_0 (by rw [c_66, Bool.and_false]) : _ = ((ct (fun u => decide (u ≠ tt) && onL f u L1 && ahd f (f 2) u tt) (uu + 1) : Nat) : Int)))
                    have hl : lv_has ls 8 [(7, .int (zI (((uu + 1) : Nat) : Int))), (6, .int (zI ((ct (fun u => decide (u ≠ tt) && onL f u L1 && ahd f (f 2) u tt) (uu + 1) : Nat) : Int))), (0, .ref q0), (1, .int (zI ((L1 : Nat) : Int))), (2, .int (zI lim)), (3, .int (zI ((onS f L1 : Nat) : Int))), (4, .int (zI ((setP (fun u => drP f (f 2) lim L1 u) tt : Nat) : Int))), (5, .int (zI ((tt : Nat) : Int)))] := lv_c (l1 := []) (l2 := [(6, .int (zI ((ct (fun u => decide (u ≠ tt) && onL f u L1 && ahd f (f 2) u tt) (uu + 1) : Nat) : Int))), (0, .ref q0), (1, .int (zI ((L1 : Nat) : Int))), (2, .int (zI lim)), (3, .int (zI ((onS f L1 : Nat) : Int))), (4, .int (zI ((setP (fun u => drP f (f 2) lim L1 u) tt : Nat) : Int))), (5, .int (zI ((tt : Nat) : Int)))]) hl (show ((uu : Nat) : Int) + 1 = (((uu + 1) : Nat) : Int) from by omega)
                    exact ih29 (uu + 1) (by omega) (by omega) ls (lv_sub hl [2, 3, 4, 5, 6, 7, 1, 0] rfl)
                  · refine z_iconst hx hb dX10_drawnBy_69 ?_
                    refine lv_goto (tgt := 74) hx hb dX10_drawnBy_70 (by decide) ?_
                    refine z_iadd hx hb dX10_drawnBy_74 ?_
                    refine lv_istore (lv' := [(6, .int (zI (((ct (fun u => decide (u ≠ tt) && onL f u L1 && ahd f (f 2) u tt) uu : Nat) : Int) + 1))), (0, .ref q0), (1, .int (zI ((L1 : Nat) : Int))), (2, .int (zI lim)), (3, .int (zI ((onS f L1 : Nat) : Int))), (4, .int (zI ((setP (fun u => drP f (f 2) lim L1 u) tt : Nat) : Int))), (5, .int (zI ((tt : Nat) : Int))), (7, .int (zI ((uu : Nat) : Int)))]) hx hb dX10_drawnBy_75 hl (by decide) rfl (fun ls hl => ?_)
                    refine lv_iinc (v := zI (((uu : Nat) : Int) + 1)) (lv' := [(7, .int (zI (((uu : Nat) : Int) + 1))), (6, .int (zI (((ct (fun u => decide (u ≠ tt) && onL f u L1 && ahd f (f 2) u tt) uu : Nat) : Int) + 1))), (0, .ref q0), (1, .int (zI ((L1 : Nat) : Int))), (2, .int (zI lim)), (3, .int (zI ((onS f L1 : Nat) : Int))), (4, .int (zI ((setP (fun u => drP f (f 2) lim L1 u) tt : Nat) : Int))), (5, .int (zI ((tt : Nat) : Int)))]) hx hb dX10_drawnBy_77 hl (k := 7) rfl (zI_add _ _) (by decide) rfl (fun ls hl => ?_)
                    refine lv_goto (tgt := 29) hx hb dX10_drawnBy_80 (by decide) ?_
                    have hl : lv_has ls 8 [(7, .int (zI (((uu : Nat) : Int) + 1))), (6, .int (zI ((ct (fun u => decide (u ≠ tt) && onL f u L1 && ahd f (f 2) u tt) (uu + 1) : Nat) : Int))), (0, .ref q0), (1, .int (zI ((L1 : Nat) : Int))), (2, .int (zI lim)), (3, .int (zI ((onS f L1 : Nat) : Int))), (4, .int (zI ((setP (fun u => drP f (f 2) lim L1 u) tt : Nat) : Int))), (5, .int (zI ((tt : Nat) : Int)))] := lv_c (l1 := [(7, .int (zI (((uu : Nat) : Int) + 1)))]) (l2 := [(0, .ref q0), (1, .int (zI ((L1 : Nat) : Int))), (2, .int (zI lim)), (3, .int (zI ((onS f L1 : Nat) : Int))), (4, .int (zI ((setP (fun u => drP f (f 2) lim L1 u) tt : Nat) : Int))), (5, .int (zI ((tt : Nat) : Int)))]) hl (show ((ct (fun u => decide (u ≠ tt) && onL f u L1 && ahd f (f 2) u tt) uu : Nat) : Int) + 1 = ((ct (fun u => decide (u ≠ tt) && onL f u L1 && ahd f (f 2) u tt) (uu + 1) : Nat) : Int) from (dby_1 (by rw [decide_eq_true (show uu ≠ tt by omega), show onL f uu L1 = true from by rw [onS_bit, decide_eq_true (show uu < nT f by omega), Bool.true_and] at c_55; exact c_55, c_66]; rfl) : _ = ((ct (fun u => decide (u ≠ tt) && onL f u L1 && ahd f (f 2) u tt) (uu + 1) : Nat) : Int)))
                    have hl : lv_has ls 8 [(7, .int (zI (((uu + 1) : Nat) : Int))), (6, .int (zI ((ct (fun u => decide (u ≠ tt) && onL f u L1 && ahd f (f 2) u tt) (uu + 1) : Nat) : Int))), (0, .ref q0), (1, .int (zI ((L1 : Nat) : Int))), (2, .int (zI lim)), (3, .int (zI ((onS f L1 : Nat) : Int))), (4, .int (zI ((setP (fun u => drP f (f 2) lim L1 u) tt : Nat) : Int))), (5, .int (zI ((tt : Nat) : Int)))] := lv_c (l1 := []) (l2 := [(6, .int (zI ((ct (fun u => decide (u ≠ tt) && onL f u L1 && ahd f (f 2) u tt) (uu + 1) : Nat) : Int))), (0, .ref q0), (1, .int (zI ((L1 : Nat) : Int))), (2, .int (zI lim)), (3, .int (zI ((onS f L1 : Nat) : Int))), (4, .int (zI ((setP (fun u => drP f (f 2) lim L1 u) tt : Nat) : Int))), (5, .int (zI ((tt : Nat) : Int)))]) hl (show ((uu : Nat) : Int) + 1 = (((uu + 1) : Nat) : Int) from by omega)
                    exact ih29 (uu + 1) (by omega) (by omega) ls (lv_sub hl [2, 3, 4, 5, 6, 7, 1, 0] rfl)
        have hl : lv_has ls 8 [(7, .int (zI 0)), (6, .int (zI ((ct (fun u => decide (u ≠ tt) && onL f u L1 && ahd f (f 2) u tt) 0 : Nat) : Int))), (0, .ref q0), (1, .int (zI ((L1 : Nat) : Int))), (2, .int (zI lim)), (3, .int (zI ((onS f L1 : Nat) : Int))), (4, .int (zI ((setP (fun u => drP f (f 2) lim L1 u) tt : Nat) : Int))), (5, .int (zI ((tt : Nat) : Int)))] := lv_c (l1 := [(7, .int (zI 0))]) (l2 := [(0, .ref q0), (1, .int (zI ((L1 : Nat) : Int))), (2, .int (zI lim)), (3, .int (zI ((onS f L1 : Nat) : Int))), (4, .int (zI ((setP (fun u => drP f (f 2) lim L1 u) tt : Nat) : Int))), (5, .int (zI ((tt : Nat) : Int)))]) hl (show 0 = ((ct (fun u => decide (u ≠ tt) && onL f u L1 && ahd f (f 2) u tt) 0 : Nat) : Int) from rfl)
        have hl : lv_has ls 8 [(7, .int (zI ((0 : Nat) : Int))), (6, .int (zI ((ct (fun u => decide (u ≠ tt) && onL f u L1 && ahd f (f 2) u tt) 0 : Nat) : Int))), (0, .ref q0), (1, .int (zI ((L1 : Nat) : Int))), (2, .int (zI lim)), (3, .int (zI ((onS f L1 : Nat) : Int))), (4, .int (zI ((setP (fun u => drP f (f 2) lim L1 u) tt : Nat) : Int))), (5, .int (zI ((tt : Nat) : Int)))] := lv_c (l1 := []) (l2 := [(6, .int (zI ((ct (fun u => decide (u ≠ tt) && onL f u L1 && ahd f (f 2) u tt) 0 : Nat) : Int))), (0, .ref q0), (1, .int (zI ((L1 : Nat) : Int))), (2, .int (zI lim)), (3, .int (zI ((onS f L1 : Nat) : Int))), (4, .int (zI ((setP (fun u => drP f (f 2) lim L1 u) tt : Nat) : Int))), (5, .int (zI ((tt : Nat) : Int)))]) hl (show 0 = ((0 : Nat) : Int) from rfl)
        exact L29 _ 0 (Nat.zero_le _) (Nat.lt_succ_self _) ls (lv_sub hl [2, 3, 4, 5, 6, 7, 1, 0] rfl)
  have hl : lv_has ls 8 [(5, .int (zI 0)), (4, .int (zI ((setP (fun u => drP f (f 2) lim L1 u) 0 : Nat) : Int))), (3, .int (zI ((onS f L1 : Nat) : Int))), (0, .ref q0), (1, .int (zI ((L1 : Nat) : Int))), (2, .int (zI lim))] := lv_c (l1 := [(5, .int (zI 0))]) (l2 := [(3, .int (zI ((onS f L1 : Nat) : Int))), (0, .ref q0), (1, .int (zI ((L1 : Nat) : Int))), (2, .int (zI lim))]) hl (show 0 = ((setP (fun u => drP f (f 2) lim L1 u) 0 : Nat) : Int) from rfl)
  have hl : lv_has ls 8 [(5, .int (zI ((0 : Nat) : Int))), (4, .int (zI ((setP (fun u => drP f (f 2) lim L1 u) 0 : Nat) : Int))), (3, .int (zI ((onS f L1 : Nat) : Int))), (0, .ref q0), (1, .int (zI ((L1 : Nat) : Int))), (2, .int (zI lim))] := lv_c (l1 := []) (l2 := [(4, .int (zI ((setP (fun u => drP f (f 2) lim L1 u) 0 : Nat) : Int))), (3, .int (zI ((onS f L1 : Nat) : Int))), (0, .ref q0), (1, .int (zI ((L1 : Nat) : Int))), (2, .int (zI lim))]) hl (show 0 = ((0 : Nat) : Int) from rfl)
  exact L12 _ 0 (Nat.zero_le _) (Nat.lt_succ_self _) ls (lv_sub hl [3, 4, 5, 2, 1, 0] rfl)
set_option maxHeartbeats 4000000 in
set_option maxRecDepth 100000 in
theorem m_drawnOn (l : Launch) (D : va_G) (k : Kt) (q0 : Nat) (qn : Nat) (qa : Nat) (qp : Nat) (qi : Nat) (qs : Nat) (qk : Nat) (qb : Nat) (qt : Nat) (qh : Nat) (qe : Nat) (de : Nat) (sv : Int) (bn : Nat) (f : St) (B : Int) (hV : Va B f) (hB : B < 1000000) (L1 : Nat) (hL1 : L1 < 24) : RO l D k yX10_drawnOn wsX10_drawnOn 4 94 [.ref q0, .int (zI ((L1 : Nat) : Int))] [(q0, .inr (10, [.ref qn, .ref qa, .ref qp, .int (zI ((de : Nat) : Int)), .ref qi, .ref qs, .ref qk, .long (zL sv), .ref qb, .int (zI ((bn : Nat) : Int)), .ref qt, .ref qh, .ref qe])), (qn, .inl (k.1, 132, .inl (zF f)))] (fun r => r = zI ((dN f L1 : Nat) : Int)) := by
  refine Met.ofW (cc := cX10_drawnOn) (maxL := 2) (ret := (some .int)) (by decide) rfl ?_
  intro p e s m args below meth c s₁ Bd hml hv
  obtain ⟨rfl, hP, hK⟩ := hv
  have hx := Bd.exec
  have hb := Bd.bytes
  have hr := Bd.returns
  have hts := atoms_spec (ws := wsX10_drawnOn) Bd.pre
  have hown : s.vm.findClass RX10 = some m.cls := findClass_of_methodNamed Bd.named
  have hlocks := Bd.notSynchronized
  have hSf : CallFix p m c cX10_drawnOn 2 s ([.ref q0, .int (zI ((L1 : Nat) : Int))] : List Value).toArray wsX10_drawnOn RX10 := ⟨hx, hb, hml, hown, hts⟩
  have hinX10 : ∀ w ∈ u_ws RX10 TX10 13, w ∈ wsX10_drawnOn := by decide +kernel
  have fl7 := hts (.fieldLink RX10 7 "DotObjectsModel" "now" "[I") (by decide +kernel)
  have hl := lv_entry ([.ref q0, .int (zI ((L1 : Nat) : Int))]) (n := 2) (Nat.le_of_ble_eq_true rfl)
  rw [lg_entry_eq]
  generalize (lg_sl ([.ref q0, .int (zI ((L1 : Nat) : Int))]) ++ List.replicate (2 - (lg_sl ([.ref q0, .int (zI ((L1 : Nat) : Int))])).length) Slot.unset).toArray = ls at hl ⊢
  have hl : lv_has ls 2 [(0, .ref q0), (1, .int (zI ((L1 : Nat) : Int)))] := hl
  have hv1 := hV.2.1
  refine lv_aload_n hx hb dX10_drawnOn_0 rfl (lv_at hl 0 rfl) ?_
  refine lv_iload_n hx hb dX10_drawnOn_1 rfl (lv_at hl 1 rfl) ?_
  refine lv_aload_n hx hb dX10_drawnOn_2 rfl (lv_at hl 0 rfl) ?_
  refine va_get (D := D) (ci := 10) (v := .ref qn) (C := RX10) (T := TX10) (N := 13) hx hb hts hinX10 hown hK.1 hP 0 rfl rfl 0 (by decide) fl7 (fun _ h9 => h9) rfl dX10_drawnOn_3 ?_
  refine z_iconst hx hb dX10_drawnOn_6 ?_
  refine z_ald hx hb hK hP 1 rfl (1) (by omega) (by omega) (Nat.le_of_ble_eq_true rfl) dX10_drawnOn_7 ?_
  refine roV (n := 2) (As := [.int (zI ((L1 : Nat) : Int)), .int (zI (f 1))]) (rest := []) hSf (m_drawnBy l D k q0 qn qa qp qi qs qk qb qt qh qe de sv bn f B hV hB L1 (f 1) hL1 (by omega)) gX10_drawnOn_X10_drawnBy rfl (by decide +kernel) ⟨Nat.le_of_ble_eq_true rfl, Nat.le_of_ble_eq_true rfl⟩ hK hP [0, 1] rfl 0 rfl rfl rfl hl.1 rfl (Nat.le_of_ble_eq_true rfl) dX10_drawnOn_8 ⟨Nat.zero_le _, Nat.zero_le _⟩ (fun r_8 h_8 => ?_)
  subst h_8
  exact W.iret hx hb hr (fun t ht hW => ⟨_, rfl, rfl, ht⟩) (fun q hq => by cases hq) dX10_drawnOn_11
set_option maxHeartbeats 4000000 in
set_option maxRecDepth 100000 in
theorem m_seenAt (l : Launch) (D : va_G) (k : Kt) (q0 : Nat) (qn : Nat) (qa : Nat) (qp : Nat) (qi : Nat) (qs : Nat) (qk : Nat) (qb : Nat) (qt : Nat) (qh : Nat) (qe : Nat) (de : Nat) (sv : Int) (bn : Nat) (f : St) (B : Int) (hV : Va B f) (hB : B < 1000000) (S1 : Nat) (L1 : Nat) (cl : Nat) (hS1 : S1 < 4096) (hL1 : L1 < 24) (hcl : cl < 32) : RO l D k yX10_seenAt wsX10_seenAt 2 49 [.ref q0, .int (zI ((S1 : Nat) : Int)), .int (zI ((L1 : Nat) : Int)), .int (zI ((cl : Nat) : Int))] [(q0, .inr (10, [.ref qn, .ref qa, .ref qp, .int (zI ((de : Nat) : Int)), .ref qi, .ref qs, .ref qk, .long (zL sv), .ref qb, .int (zI ((bn : Nat) : Int)), .ref qt, .ref qh, .ref qe])), (qn, .inl (k.1, 132, .inl (zF f)))] (fun r => r = zI (seenA f S1 L1 cl)) := by
  refine Met.ofW (cc := cX10_seenAt) (maxL := 7) (ret := (some .int)) (by decide) rfl ?_
  intro p e s m args below meth c s₁ Bd hml hv
  obtain ⟨rfl, hP, hK⟩ := hv
  have hx := Bd.exec
  have hb := Bd.bytes
  have hr := Bd.returns
  have hts := atoms_spec (ws := wsX10_seenAt) Bd.pre
  have hown : s.vm.findClass RX10 = some m.cls := findClass_of_methodNamed Bd.named
  have hlocks := Bd.notSynchronized
  have hSf : CallFix p m c cX10_seenAt 7 s ([.ref q0, .int (zI ((S1 : Nat) : Int)), .int (zI ((L1 : Nat) : Int)), .int (zI ((cl : Nat) : Int))] : List Value).toArray wsX10_seenAt RX10 := ⟨hx, hb, hml, hown, hts⟩
  have hinX10 : ∀ w ∈ u_ws RX10 TX10 13, w ∈ wsX10_seenAt := by decide +kernel
  have fl7 := hts (.fieldLink RX10 7 "DotObjectsModel" "now" "[I") (by decide +kernel)
  have hl := lv_entry ([.ref q0, .int (zI ((S1 : Nat) : Int)), .int (zI ((L1 : Nat) : Int)), .int (zI ((cl : Nat) : Int))]) (n := 7) (Nat.le_of_ble_eq_true rfl)
  rw [lg_entry_eq]
  generalize (lg_sl ([.ref q0, .int (zI ((S1 : Nat) : Int)), .int (zI ((L1 : Nat) : Int)), .int (zI ((cl : Nat) : Int))]) ++ List.replicate (7 - (lg_sl ([.ref q0, .int (zI ((S1 : Nat) : Int)), .int (zI ((L1 : Nat) : Int)), .int (zI ((cl : Nat) : Int))])).length) Slot.unset).toArray = ls at hl ⊢
  have hl : lv_has ls 7 [(0, .ref q0), (1, .int (zI ((S1 : Nat) : Int))), (2, .int (zI ((L1 : Nat) : Int))), (3, .int (zI ((cl : Nat) : Int)))] := hl
  have hn := hV.n
  have hv0 := hV.1
  refine z_iconst hx hb dX10_seenAt_0 ?_
  refine lv_istore (lv' := [(4, .int (zI (-1))), (0, .ref q0), (1, .int (zI ((S1 : Nat) : Int))), (2, .int (zI ((L1 : Nat) : Int))), (3, .int (zI ((cl : Nat) : Int)))]) hx hb dX10_seenAt_1 hl (by decide) rfl (fun ls hl => ?_)
  refine lv_aload_n hx hb dX10_seenAt_3 rfl (lv_at hl 1 rfl) ?_
  refine va_get (D := D) (ci := 10) (v := .ref qn) (C := RX10) (T := TX10) (N := 13) hx hb hts hinX10 hown hK.1 hP 0 rfl rfl 0 (by decide) fl7 (fun _ h9 => h9) rfl dX10_seenAt_4 ?_
  refine z_iconst hx hb dX10_seenAt_7 ?_
  refine z_ald hx hb hK hP 1 rfl (0) (by omega) (by omega) (Nat.le_of_ble_eq_true rfl) dX10_seenAt_8 ?_
  refine z_iconst hx hb dX10_seenAt_9 ?_
  refine z_isub hx hb dX10_seenAt_10 ?_
  refine lv_istore (lv' := [(5, .int (zI ((f 0) - 1))), (4, .int (zI (-1))), (0, .ref q0), (1, .int (zI ((S1 : Nat) : Int))), (2, .int (zI ((L1 : Nat) : Int))), (3, .int (zI ((cl : Nat) : Int)))]) hx hb dX10_seenAt_11 hl (by decide) rfl (fun ls hl => ?_)
  have L13 : ∀ (NN13 : Nat), ∀ (ll : Nat) (rr : Int), (ll ≤ nT f) → (TopR f S1 L1 cl ll rr) → ll < NN13 → ∀ (ls : Array Slot), lv_has ls 7 [(0, .ref q0), (1, .int (zI ((S1 : Nat) : Int))), (2, .int (zI ((L1 : Nat) : Int))), (3, .int (zI ((cl : Nat) : Int))), (4, .int (zI rr)), (5, .int (zI (((ll : Nat) : Int) - 1)))] → W p l e (headSpec wsX10_seenAt { frames := 2, cells := 0, slots := 0, locals := 49 }).room s m ([.ref q0, .int (zI ((S1 : Nat) : Int)), .int (zI ((L1 : Nat) : Int)), .int (zI ((cl : Nat) : Int))] : List Value).toArray below meth c s.heap [] 0 0 (MQ below (vp_Si (fun r => r = zI (seenA f S1 L1 cl))) ([.ref q0, .int (zI ((S1 : Nat) : Int)), .int (zI ((L1 : Nat) : Int)), .int (zI ((cl : Nat) : Int))] : List Value).toArray s 0 0 (fun _ => False)) (F0 m 13 ls []) := by
    intro NN13
    induction NN13 with
    | zero => intro ll rr _ _ hN; exact absurd hN (Nat.not_lt_zero _)
    | succ NN13 ih13 =>
      intro ll rr hll hI hN ls hl
      refine lv_iload hx hb dX10_seenAt_13 (lv_at hl 5 rfl) ?_
      refine z_if_lt (tgt := 88) hx hb dX10_seenAt_15 (by decide) (by omega) (fun c_15 => ?_) (fun c_15 => ?_)
      · obtain rfl : ll = 0 := by omega
        refine lv_iload hx hb dX10_seenAt_88 (lv_at hl 4 rfl) ?_
        exact W.iret hx hb hr (fun t ht hW => ⟨_, rfl, zc (seenA_eq hn.2 (TopR_0 hI)), ht⟩) (fun q hq => by cases hq) dX10_seenAt_90
      · obtain ⟨lo, hlo⟩ : ∃ lo, ll = lo + 1 := ⟨ll - 1, by omega⟩
        have hI : TopR f S1 L1 cl (lo + 1) rr := hlo ▸ hI
        have hrr := TopR_rg hI
        have hvl := hV.t (t := lo) (by omega)
        refine lv_iload_n hx hb dX10_seenAt_18 rfl (lv_at hl 1 rfl) ?_
        refine lv_iload hx hb dX10_seenAt_19 (lv_at hl 5 rfl) ?_
        refine roS (n := 2) (As := [.int (zI ((S1 : Nat) : Int)), .int (zI ((lo : Nat) : Int))]) (rest := []) hSf (m_has l D k S1 lo (by omega) (by omega)) gX10_seenAt_X10_has rfl (by decide +kernel) ⟨Nat.le_of_ble_eq_true rfl, Nat.le_of_ble_eq_true rfl⟩ hK hP [] rfl rfl hl.1 (by rw [show zI (((ll : Nat) : Int) - 1) = zI ((lo : Nat) : Int) from zc (by omega)]; rfl) (Nat.le_of_ble_eq_true rfl) dX10_seenAt_21 ⟨Nat.zero_le _, Nat.zero_le _⟩ (fun r_21 h_21 => ?_)
        subst h_21
        refine z_if_eqb (tgt := 42) hx hb dX10_seenAt_24 (by decide) (fun c_24 => ?_) (fun c_24 => ?_)
        · refine z_iconst hx hb dX10_seenAt_42 ?_
          refine lv_istore (lv' := [(6, .int (zI 0)), (0, .ref q0), (1, .int (zI ((S1 : Nat) : Int))), (2, .int (zI ((L1 : Nat) : Int))), (3, .int (zI ((cl : Nat) : Int))), (4, .int (zI rr)), (5, .int (zI (((ll : Nat) : Int) - 1)))]) hx hb dX10_seenAt_43 hl (by decide) rfl (fun ls hl => ?_)
          refine lv_iload hx hb dX10_seenAt_45 (lv_at hl 0 rfl) ?_
          refine z_if_eq (tgt := 78) hx hb dX10_seenAt_47 (by decide) (by omega) (fun c_47 => ?_) (fun c_47 => ?_)
          · refine lv_iload hx hb dX10_seenAt_78 (lv_at hl 5 rfl) ?_
            refine lv_istore (lv' := [(4, .int (zI rr)), (6, .int (zI 0)), (0, .ref q0), (1, .int (zI ((S1 : Nat) : Int))), (2, .int (zI ((L1 : Nat) : Int))), (3, .int (zI ((cl : Nat) : Int))), (5, .int (zI (((ll : Nat) : Int) - 1)))]) hx hb dX10_seenAt_80 hl (by decide) rfl (fun ls hl => ?_)
            refine lv_iinc (v := zI ((((ll : Nat) : Int) - 1) + (-1))) (lv' := [(5, .int (zI ((((ll : Nat) : Int) - 1) + (-1)))), (4, .int (zI rr)), (6, .int (zI 0)), (0, .ref q0), (1, .int (zI ((S1 : Nat) : Int))), (2, .int (zI ((L1 : Nat) : Int))), (3, .int (zI ((cl : Nat) : Int)))]) hx hb dX10_seenAt_82 hl (k := 6) rfl (zI_add _ _) (by decide) rfl (fun ls hl => ?_)
            refine lv_goto (tgt := 13) hx hb dX10_seenAt_85 (by decide) ?_
            have hl : lv_has ls 7 [(5, .int (zI (((lo : Nat) : Int) - 1))), (4, .int (zI rr)), (6, .int (zI 0)), (0, .ref q0), (1, .int (zI ((S1 : Nat) : Int))), (2, .int (zI ((L1 : Nat) : Int))), (3, .int (zI ((cl : Nat) : Int)))] := lv_c (l1 := []) (l2 := [(4, .int (zI rr)), (6, .int (zI 0)), (0, .ref q0), (1, .int (zI ((S1 : Nat) : Int))), (2, .int (zI ((L1 : Nat) : Int))), (3, .int (zI ((cl : Nat) : Int)))]) hl (show (((ll : Nat) : Int) - 1) + (-1) = ((lo : Nat) : Int) - 1 from by omega)
            exact ih13 lo rr (by omega) (TopR_sk hI (Or.inl c_24)) (by omega) ls (lv_sub hl [3, 4, 5, 6, 1, 0] rfl)
          · exact absurd rfl c_47
        · refine lv_aload_n hx hb dX10_seenAt_27 rfl (lv_at hl 0 rfl) ?_
          refine lv_iload hx hb dX10_seenAt_28 (lv_at hl 5 rfl) ?_
          refine lv_iload_n hx hb dX10_seenAt_30 rfl (lv_at hl 2 rfl) ?_
          refine lv_iload_n hx hb dX10_seenAt_31 rfl (lv_at hl 3 rfl) ?_
          refine roV (n := 3) (As := [.int (zI ((lo : Nat) : Int)), .int (zI ((L1 : Nat) : Int)), .int (zI ((cl : Nat) : Int))]) (rest := []) hSf (m_hasDot l D k q0 qn qa qp qi qs qk qb qt qh qe de sv bn f B hV hB lo L1 cl (by omega) (by omega) (by omega)) gX10_seenAt_X10_hasDot rfl (by decide +kernel) ⟨Nat.le_of_ble_eq_true rfl, Nat.le_of_ble_eq_true rfl⟩ hK hP [0, 1] rfl 0 rfl rfl rfl hl.1 (by rw [show zI (((ll : Nat) : Int) - 1) = zI ((lo : Nat) : Int) from zc (by omega)]; rfl) (Nat.le_of_ble_eq_true rfl) dX10_seenAt_32 ⟨Nat.zero_le _, Nat.zero_le _⟩ (fun r_32 h_32 => ?_)
          subst h_32
          refine z_if_eqb (tgt := 42) hx hb dX10_seenAt_35 (by decide) (fun c_35 => ?_) (fun c_35 => ?_)
          · refine z_iconst hx hb dX10_seenAt_42 ?_
            refine lv_istore (lv' := [(6, .int (zI 0)), (0, .ref q0), (1, .int (zI ((S1 : Nat) : Int))), (2, .int (zI ((L1 : Nat) : Int))), (3, .int (zI ((cl : Nat) : Int))), (4, .int (zI rr)), (5, .int (zI (((ll : Nat) : Int) - 1)))]) hx hb dX10_seenAt_43 hl (by decide) rfl (fun ls hl => ?_)
            refine lv_iload hx hb dX10_seenAt_45 (lv_at hl 0 rfl) ?_
            refine z_if_eq (tgt := 78) hx hb dX10_seenAt_47 (by decide) (by omega) (fun c_47 => ?_) (fun c_47 => ?_)
            · refine lv_iload hx hb dX10_seenAt_78 (lv_at hl 5 rfl) ?_
              refine lv_istore (lv' := [(4, .int (zI rr)), (6, .int (zI 0)), (0, .ref q0), (1, .int (zI ((S1 : Nat) : Int))), (2, .int (zI ((L1 : Nat) : Int))), (3, .int (zI ((cl : Nat) : Int))), (5, .int (zI (((ll : Nat) : Int) - 1)))]) hx hb dX10_seenAt_80 hl (by decide) rfl (fun ls hl => ?_)
              refine lv_iinc (v := zI ((((ll : Nat) : Int) - 1) + (-1))) (lv' := [(5, .int (zI ((((ll : Nat) : Int) - 1) + (-1)))), (4, .int (zI rr)), (6, .int (zI 0)), (0, .ref q0), (1, .int (zI ((S1 : Nat) : Int))), (2, .int (zI ((L1 : Nat) : Int))), (3, .int (zI ((cl : Nat) : Int)))]) hx hb dX10_seenAt_82 hl (k := 6) rfl (zI_add _ _) (by decide) rfl (fun ls hl => ?_)
              refine lv_goto (tgt := 13) hx hb dX10_seenAt_85 (by decide) ?_
              have hl : lv_has ls 7 [(5, .int (zI (((lo : Nat) : Int) - 1))), (4, .int (zI rr)), (6, .int (zI 0)), (0, .ref q0), (1, .int (zI ((S1 : Nat) : Int))), (2, .int (zI ((L1 : Nat) : Int))), (3, .int (zI ((cl : Nat) : Int)))] := lv_c (l1 := []) (l2 := [(4, .int (zI rr)), (6, .int (zI 0)), (0, .ref q0), (1, .int (zI ((S1 : Nat) : Int))), (2, .int (zI ((L1 : Nat) : Int))), (3, .int (zI ((cl : Nat) : Int)))]) hl (show (((ll : Nat) : Int) - 1) + (-1) = ((lo : Nat) : Int) - 1 from by omega)
              exact ih13 lo rr (by omega) (TopR_sk hI (Or.inr c_35)) (by omega) ls (lv_sub hl [3, 4, 5, 6, 1, 0] rfl)
            · exact absurd rfl c_47
          · refine z_iconst hx hb dX10_seenAt_38 ?_
            refine lv_goto (tgt := 43) hx hb dX10_seenAt_39 (by decide) ?_
            refine lv_istore (lv' := [(6, .int (zI 1)), (0, .ref q0), (1, .int (zI ((S1 : Nat) : Int))), (2, .int (zI ((L1 : Nat) : Int))), (3, .int (zI ((cl : Nat) : Int))), (4, .int (zI rr)), (5, .int (zI (((ll : Nat) : Int) - 1)))]) hx hb dX10_seenAt_43 hl (by decide) rfl (fun ls hl => ?_)
            refine lv_iload hx hb dX10_seenAt_45 (lv_at hl 0 rfl) ?_
            refine z_if_eq (tgt := 78) hx hb dX10_seenAt_47 (by decide) (by omega) (fun c_47 => ?_) (fun c_47 => ?_)
            · exact absurd c_47 (by decide)
            · refine lv_iload hx hb dX10_seenAt_50 (lv_at hl 5 rfl) ?_
              refine z_iconst hx hb dX10_seenAt_52 ?_
              refine z_icmp_eq (tgt := 73) hx hb dX10_seenAt_53 (by decide) (by omega) (by omega) (fun c_53 => ?_) (fun c_53 => ?_)
              · refine lv_iload hx hb dX10_seenAt_73 (lv_at hl 6 rfl) ?_
                refine lv_goto (tgt := 80) hx hb dX10_seenAt_75 (by decide) ?_
                refine lv_istore (lv' := [(4, .int (zI (((ll : Nat) : Int) - 1))), (6, .int (zI 1)), (0, .ref q0), (1, .int (zI ((S1 : Nat) : Int))), (2, .int (zI ((L1 : Nat) : Int))), (3, .int (zI ((cl : Nat) : Int))), (5, .int (zI (((ll : Nat) : Int) - 1)))]) hx hb dX10_seenAt_80 hl (by decide) rfl (fun ls hl => ?_)
                refine lv_iinc (v := zI ((((ll : Nat) : Int) - 1) + (-1))) (lv' := [(5, .int (zI ((((ll : Nat) : Int) - 1) + (-1)))), (4, .int (zI (((ll : Nat) : Int) - 1))), (6, .int (zI 1)), (0, .ref q0), (1, .int (zI ((S1 : Nat) : Int))), (2, .int (zI ((L1 : Nat) : Int))), (3, .int (zI ((cl : Nat) : Int)))]) hx hb dX10_seenAt_82 hl (k := 6) rfl (zI_add _ _) (by decide) rfl (fun ls hl => ?_)
                refine lv_goto (tgt := 13) hx hb dX10_seenAt_85 (by decide) ?_
                have hl : lv_has ls 7 [(5, .int (zI ((((ll : Nat) : Int) - 1) + (-1)))), (4, .int (zI ((lo : Nat) : Int))), (6, .int (zI 1)), (0, .ref q0), (1, .int (zI ((S1 : Nat) : Int))), (2, .int (zI ((L1 : Nat) : Int))), (3, .int (zI ((cl : Nat) : Int)))] := lv_c (l1 := [(5, .int (zI ((((ll : Nat) : Int) - 1) + (-1))))]) (l2 := [(6, .int (zI 1)), (0, .ref q0), (1, .int (zI ((S1 : Nat) : Int))), (2, .int (zI ((L1 : Nat) : Int))), (3, .int (zI ((cl : Nat) : Int)))]) hl (show ((ll : Nat) : Int) - 1 = ((lo : Nat) : Int) from by omega)
                have hl : lv_has ls 7 [(5, .int (zI (((lo : Nat) : Int) - 1))), (4, .int (zI ((lo : Nat) : Int))), (6, .int (zI 1)), (0, .ref q0), (1, .int (zI ((S1 : Nat) : Int))), (2, .int (zI ((L1 : Nat) : Int))), (3, .int (zI ((cl : Nat) : Int)))] := lv_c (l1 := []) (l2 := [(4, .int (zI ((lo : Nat) : Int))), (6, .int (zI 1)), (0, .ref q0), (1, .int (zI ((S1 : Nat) : Int))), (2, .int (zI ((L1 : Nat) : Int))), (3, .int (zI ((cl : Nat) : Int)))]) hl (show (((ll : Nat) : Int) - 1) + (-1) = ((lo : Nat) : Int) - 1 from by omega)
                exact ih13 lo ((lo : Nat) : Int) (by omega) (TopR_new hV hI (by omega) c_24 c_35 (Or.inl c_53)) (by omega) ls (lv_sub hl [3, 4, 5, 6, 1, 0] rfl)
              · have hvr := hV.t (t := rr.toNat) (by omega)
                refine lv_aload_n hx hb dX10_seenAt_56 rfl (lv_at hl 1 rfl) ?_
                refine lv_iload hx hb dX10_seenAt_57 (lv_at hl 6 rfl) ?_
                refine z_iconst hx hb dX10_seenAt_59 ?_
                refine roV (n := 2) (As := [.int (zI ((lo : Nat) : Int)), .int (zI ((4 : Nat) : Int))]) (rest := []) hSf (m_of l D k q0 qn qa qp qi qs qk qb qt qh qe de sv bn f lo 4 (by omega) (by omega)) gX10_seenAt_X10_of rfl (by decide +kernel) ⟨Nat.le_of_ble_eq_true rfl, Nat.le_of_ble_eq_true rfl⟩ hK hP [0, 1] rfl 0 rfl rfl rfl hl.1 (by rw [show zI (((ll : Nat) : Int) - 1) = zI ((lo : Nat) : Int) from zc (by omega)]; rw [show zI 4 = zI ((4 : Nat) : Int) from zc (by omega)]; rfl) (Nat.le_of_ble_eq_true rfl) dX10_seenAt_60 ⟨Nat.zero_le _, Nat.zero_le _⟩ (fun r_60 h_60 => ?_)
                subst h_60
                refine lv_aload_n hx hb dX10_seenAt_63 rfl (lv_at hl 1 rfl) ?_
                refine lv_iload hx hb dX10_seenAt_64 (lv_at hl 5 rfl) ?_
                refine z_iconst hx hb dX10_seenAt_66 ?_
                refine roV (n := 2) (As := [.int (zI ((rr.toNat : Nat) : Int)), .int (zI ((4 : Nat) : Int))]) (rest := [.int (zI (th f lo 4))]) hSf (m_of l D k q0 qn qa qp qi qs qk qb qt qh qe de sv bn f rr.toNat 4 (by omega) (by omega)) gX10_seenAt_X10_of rfl (by decide +kernel) ⟨Nat.le_of_ble_eq_true rfl, Nat.le_of_ble_eq_true rfl⟩ hK hP [0, 1] rfl 0 rfl rfl rfl hl.1 (by rw [show zI rr = zI ((rr.toNat : Nat) : Int) from zc (by omega)]; rw [show zI 4 = zI ((4 : Nat) : Int) from zc (by omega)]; rfl) (Nat.le_of_ble_eq_true rfl) dX10_seenAt_67 ⟨Nat.zero_le _, Nat.zero_le _⟩ (fun r_67 h_67 => ?_)
                subst h_67
                refine z_icmp_gt (tgt := 78) hx hb dX10_seenAt_70 (by decide) (by omega) (by omega) (fun c_70 => ?_) (fun c_70 => ?_)
                · refine lv_iload hx hb dX10_seenAt_78 (lv_at hl 5 rfl) ?_
                  refine lv_istore (lv' := [(4, .int (zI rr)), (6, .int (zI 1)), (0, .ref q0), (1, .int (zI ((S1 : Nat) : Int))), (2, .int (zI ((L1 : Nat) : Int))), (3, .int (zI ((cl : Nat) : Int))), (5, .int (zI (((ll : Nat) : Int) - 1)))]) hx hb dX10_seenAt_80 hl (by decide) rfl (fun ls hl => ?_)
                  refine lv_iinc (v := zI ((((ll : Nat) : Int) - 1) + (-1))) (lv' := [(5, .int (zI ((((ll : Nat) : Int) - 1) + (-1)))), (4, .int (zI rr)), (6, .int (zI 1)), (0, .ref q0), (1, .int (zI ((S1 : Nat) : Int))), (2, .int (zI ((L1 : Nat) : Int))), (3, .int (zI ((cl : Nat) : Int)))]) hx hb dX10_seenAt_82 hl (k := 6) rfl (zI_add _ _) (by decide) rfl (fun ls hl => ?_)
                  refine lv_goto (tgt := 13) hx hb dX10_seenAt_85 (by decide) ?_
                  have hl : lv_has ls 7 [(5, .int (zI (((lo : Nat) : Int) - 1))), (4, .int (zI rr)), (6, .int (zI 1)), (0, .ref q0), (1, .int (zI ((S1 : Nat) : Int))), (2, .int (zI ((L1 : Nat) : Int))), (3, .int (zI ((cl : Nat) : Int)))] := lv_c (l1 := []) (l2 := [(4, .int (zI rr)), (6, .int (zI 1)), (0, .ref q0), (1, .int (zI ((S1 : Nat) : Int))), (2, .int (zI ((L1 : Nat) : Int))), (3, .int (zI ((cl : Nat) : Int)))]) hl (show (((ll : Nat) : Int) - 1) + (-1) = ((lo : Nat) : Int) - 1 from by omega)
                  exact ih13 lo rr (by omega) (TopR_old hV hI c_53 c_70) (by omega) ls (lv_sub hl [3, 4, 5, 6, 1, 0] rfl)
                · refine lv_iload hx hb dX10_seenAt_73 (lv_at hl 6 rfl) ?_
                  refine lv_goto (tgt := 80) hx hb dX10_seenAt_75 (by decide) ?_
                  refine lv_istore (lv' := [(4, .int (zI (((ll : Nat) : Int) - 1))), (6, .int (zI 1)), (0, .ref q0), (1, .int (zI ((S1 : Nat) : Int))), (2, .int (zI ((L1 : Nat) : Int))), (3, .int (zI ((cl : Nat) : Int))), (5, .int (zI (((ll : Nat) : Int) - 1)))]) hx hb dX10_seenAt_80 hl (by decide) rfl (fun ls hl => ?_)
                  refine lv_iinc (v := zI ((((ll : Nat) : Int) - 1) + (-1))) (lv' := [(5, .int (zI ((((ll : Nat) : Int) - 1) + (-1)))), (4, .int (zI (((ll : Nat) : Int) - 1))), (6, .int (zI 1)), (0, .ref q0), (1, .int (zI ((S1 : Nat) : Int))), (2, .int (zI ((L1 : Nat) : Int))), (3, .int (zI ((cl : Nat) : Int)))]) hx hb dX10_seenAt_82 hl (k := 6) rfl (zI_add _ _) (by decide) rfl (fun ls hl => ?_)
                  refine lv_goto (tgt := 13) hx hb dX10_seenAt_85 (by decide) ?_
                  have hl : lv_has ls 7 [(5, .int (zI ((((ll : Nat) : Int) - 1) + (-1)))), (4, .int (zI ((lo : Nat) : Int))), (6, .int (zI 1)), (0, .ref q0), (1, .int (zI ((S1 : Nat) : Int))), (2, .int (zI ((L1 : Nat) : Int))), (3, .int (zI ((cl : Nat) : Int)))] := lv_c (l1 := [(5, .int (zI ((((ll : Nat) : Int) - 1) + (-1))))]) (l2 := [(6, .int (zI 1)), (0, .ref q0), (1, .int (zI ((S1 : Nat) : Int))), (2, .int (zI ((L1 : Nat) : Int))), (3, .int (zI ((cl : Nat) : Int)))]) hl (show ((ll : Nat) : Int) - 1 = ((lo : Nat) : Int) from by omega)
                  have hl : lv_has ls 7 [(5, .int (zI (((lo : Nat) : Int) - 1))), (4, .int (zI ((lo : Nat) : Int))), (6, .int (zI 1)), (0, .ref q0), (1, .int (zI ((S1 : Nat) : Int))), (2, .int (zI ((L1 : Nat) : Int))), (3, .int (zI ((cl : Nat) : Int)))] := lv_c (l1 := []) (l2 := [(4, .int (zI ((lo : Nat) : Int))), (6, .int (zI 1)), (0, .ref q0), (1, .int (zI ((S1 : Nat) : Int))), (2, .int (zI ((L1 : Nat) : Int))), (3, .int (zI ((cl : Nat) : Int)))]) hl (show (((ll : Nat) : Int) - 1) + (-1) = ((lo : Nat) : Int) - 1 from by omega)
                  exact ih13 lo ((lo : Nat) : Int) (by omega) (TopR_new hV hI (by omega) c_24 c_35 (Or.inr c_70)) (by omega) ls (lv_sub hl [3, 4, 5, 6, 1, 0] rfl)
  have hl : lv_has ls 7 [(5, .int (zI ((((nT f) : Nat) : Int) - 1))), (4, .int (zI (-1))), (0, .ref q0), (1, .int (zI ((S1 : Nat) : Int))), (2, .int (zI ((L1 : Nat) : Int))), (3, .int (zI ((cl : Nat) : Int)))] := lv_c (l1 := []) (l2 := [(4, .int (zI (-1))), (0, .ref q0), (1, .int (zI ((S1 : Nat) : Int))), (2, .int (zI ((L1 : Nat) : Int))), (3, .int (zI ((cl : Nat) : Int)))]) hl (show (f 0) - 1 = (((nT f) : Nat) : Int) - 1 from by omega)
  exact L13 _ (nT f) (-1) (Nat.le_refl _) (TopR_n f S1 L1 cl) (Nat.lt_succ_self _) ls (lv_sub hl [2, 3, 4, 5, 1, 0] rfl)
set_option maxHeartbeats 4000000 in
set_option maxRecDepth 100000 in
theorem m_colourAt (l : Launch) (D : va_G) (k : Kt) (q0 : Nat) (qn : Nat) (qa : Nat) (qp : Nat) (qi : Nat) (qs : Nat) (qk : Nat) (qb : Nat) (qt : Nat) (qh : Nat) (qe : Nat) (de : Nat) (sv : Int) (bn : Nat) (f : St) (B : Int) (hV : Va B f) (hB : B < 1000000) (S1 : Nat) (L1 : Nat) (cl : Nat) (hS1 : S1 < 4096) (hL1 : L1 < 24) (hcl : cl < 32) : RO l D k yX10_colourAt wsX10_colourAt 3 75 [.ref q0, .int (zI ((S1 : Nat) : Int)), .int (zI ((L1 : Nat) : Int)), .int (zI ((cl : Nat) : Int))] [(q0, .inr (10, [.ref qn, .ref qa, .ref qp, .int (zI ((de : Nat) : Int)), .ref qi, .ref qs, .ref qk, .long (zL sv), .ref qb, .int (zI ((bn : Nat) : Int)), .ref qt, .ref qh, .ref qe])), (qn, .inl (k.1, 132, .inl (zF f)))] (fun r => r = zI (colA f S1 L1 cl)) := by
  refine Met.ofW (cc := cX10_colourAt) (maxL := 5) (ret := (some .int)) (by decide) rfl ?_
  intro p e s m args below meth c s₁ Bd hml hv
  obtain ⟨rfl, hP, hK⟩ := hv
  have hx := Bd.exec
  have hb := Bd.bytes
  have hr := Bd.returns
  have hts := atoms_spec (ws := wsX10_colourAt) Bd.pre
  have hown : s.vm.findClass RX10 = some m.cls := findClass_of_methodNamed Bd.named
  have hlocks := Bd.notSynchronized
  have hSf : CallFix p m c cX10_colourAt 5 s ([.ref q0, .int (zI ((S1 : Nat) : Int)), .int (zI ((L1 : Nat) : Int)), .int (zI ((cl : Nat) : Int))] : List Value).toArray wsX10_colourAt RX10 := ⟨hx, hb, hml, hown, hts⟩
  have hl := lv_entry ([.ref q0, .int (zI ((S1 : Nat) : Int)), .int (zI ((L1 : Nat) : Int)), .int (zI ((cl : Nat) : Int))]) (n := 5) (Nat.le_of_ble_eq_true rfl)
  rw [lg_entry_eq]
  generalize (lg_sl ([.ref q0, .int (zI ((S1 : Nat) : Int)), .int (zI ((L1 : Nat) : Int)), .int (zI ((cl : Nat) : Int))]) ++ List.replicate (5 - (lg_sl ([.ref q0, .int (zI ((S1 : Nat) : Int)), .int (zI ((L1 : Nat) : Int)), .int (zI ((cl : Nat) : Int))])).length) Slot.unset).toArray = ls at hl ⊢
  have hl : lv_has ls 5 [(0, .ref q0), (1, .int (zI ((S1 : Nat) : Int))), (2, .int (zI ((L1 : Nat) : Int))), (3, .int (zI ((cl : Nat) : Int)))] := hl
  have hn := hV.n
  have hs := seenA_rg hV S1 L1 cl
  refine lv_aload_n hx hb dX10_colourAt_0 rfl (lv_at hl 0 rfl) ?_
  refine lv_iload_n hx hb dX10_colourAt_1 rfl (lv_at hl 1 rfl) ?_
  refine lv_iload_n hx hb dX10_colourAt_2 rfl (lv_at hl 2 rfl) ?_
  refine lv_iload_n hx hb dX10_colourAt_3 rfl (lv_at hl 3 rfl) ?_
  refine roV (n := 3) (As := [.int (zI ((S1 : Nat) : Int)), .int (zI ((L1 : Nat) : Int)), .int (zI ((cl : Nat) : Int))]) (rest := []) hSf (m_seenAt l D k q0 qn qa qp qi qs qk qb qt qh qe de sv bn f B hV hB S1 L1 cl hS1 (by omega) (by omega)) gX10_colourAt_X10_seenAt rfl (by decide +kernel) ⟨Nat.le_of_ble_eq_true rfl, Nat.le_of_ble_eq_true rfl⟩ hK hP [0, 1] rfl 0 rfl rfl rfl hl.1 rfl (Nat.le_of_ble_eq_true rfl) dX10_colourAt_4 ⟨Nat.zero_le _, Nat.zero_le _⟩ (fun r_4 h_4 => ?_)
  subst h_4
  refine lv_istore (lv' := [(4, .int (zI (seenA f S1 L1 cl))), (0, .ref q0), (1, .int (zI ((S1 : Nat) : Int))), (2, .int (zI ((L1 : Nat) : Int))), (3, .int (zI ((cl : Nat) : Int)))]) hx hb dX10_colourAt_7 hl (by decide) rfl (fun ls hl => ?_)
  refine lv_iload hx hb dX10_colourAt_9 (lv_at hl 0 rfl) ?_
  refine z_iconst hx hb dX10_colourAt_11 ?_
  refine z_icmp_ne (tgt := 19) hx hb dX10_colourAt_12 (by decide) (by omega) (by omega) (fun c_12 => ?_) (fun c_12 => ?_)
  · refine lv_aload_n hx hb dX10_colourAt_19 rfl (lv_at hl 1 rfl) ?_
    refine lv_iload hx hb dX10_colourAt_20 (lv_at hl 0 rfl) ?_
    refine z_iconst hx hb dX10_colourAt_22 ?_
    refine roV (n := 2) (As := [.int (zI ((((seenA f S1 L1 cl).toNat) : Nat) : Int)), .int (zI ((5 : Nat) : Int))]) (rest := []) hSf (m_of l D k q0 qn qa qp qi qs qk qb qt qh qe de sv bn f ((seenA f S1 L1 cl).toNat) 5 (by omega) (by omega)) gX10_colourAt_X10_of rfl (by decide +kernel) ⟨Nat.le_of_ble_eq_true rfl, Nat.le_of_ble_eq_true rfl⟩ hK hP [0, 1] rfl 0 rfl rfl rfl hl.1 (by rw [show zI (seenA f S1 L1 cl) = zI ((((seenA f S1 L1 cl).toNat) : Nat) : Int) from zc (by omega)]; rw [show zI 5 = zI ((5 : Nat) : Int) from zc (by omega)]; rfl) (Nat.le_of_ble_eq_true rfl) dX10_colourAt_23 ⟨Nat.zero_le _, Nat.zero_le _⟩ (fun r_23 h_23 => ?_)
    subst h_23
    exact W.iret hx hb hr (fun t ht hW => ⟨_, rfl, zc (by unfold colA; rw [if_neg c_12]), ht⟩) (fun q hq => by cases hq) dX10_colourAt_26
  · refine z_iconst hx hb dX10_colourAt_15 ?_
    refine lv_goto (tgt := 26) hx hb dX10_colourAt_16 (by decide) ?_
    exact W.iret hx hb hr (fun t ht hW => ⟨_, rfl, zc (by unfold colA; rw [if_pos c_12]), ht⟩) (fun q hq => by cases hq) dX10_colourAt_26
set_option maxHeartbeats 4000000 in
set_option maxRecDepth 100000 in
theorem m_draws (l : Launch) (D : va_G) (k : Kt) (q0 : Nat) (qn : Nat) (qa : Nat) (qp : Nat) (qi : Nat) (qs : Nat) (qk : Nat) (qb : Nat) (qt : Nat) (qh : Nat) (qe : Nat) (de : Nat) (sv : Int) (bn : Nat) (f : St) (B : Int) (hV : Va B f) (hB : B < 1000000) (ts : Nat → Int) : MU l D k yX10_draws wsX10_draws 5 115 [.ref q0] [(q0, .inr (10, [.ref qn, .ref qa, .ref qp, .int (zI ((de : Nat) : Int)), .ref qi, .ref qs, .ref qk, .long (zL sv), .ref qb, .int (zI ((bn : Nat) : Int)), .ref qt, .ref qh, .ref qe])), (qn, .inl (k.1, 132, .inl (zF f))), (qt, .inl (k.1, 24, .inl (zF ts)))] (fun (u : Nat → Int) => ∀ q, q < 24 → u q = ((dN f q : Nat) : Int)) (fun u => [(q0, .inr (10, [.ref qn, .ref qa, .ref qp, .int (zI ((de : Nat) : Int)), .ref qi, .ref qs, .ref qk, .long (zL sv), .ref qb, .int (zI ((bn : Nat) : Int)), .ref qt, .ref qh, .ref qe])), (qn, .inl (k.1, 132, .inl (zF f))), (qt, .inl (k.1, 24, .inl (zF u)))]) := by
  refine Met.ofW (cc := cX10_draws) (maxL := 2) (ret := none) (by decide) rfl ?_
  intro p e s m args below meth c s₁ Bd hml hv
  obtain ⟨rfl, hP, hK, hD0⟩ := hv
  have hx := Bd.exec
  have hb := Bd.bytes
  have hr := Bd.returns
  have hts := atoms_spec (ws := wsX10_draws) Bd.pre
  have hown : s.vm.findClass RX10 = some m.cls := findClass_of_methodNamed Bd.named
  have hlocks := Bd.notSynchronized
  have hSf : CallFix p m c cX10_draws 2 s ([.ref q0] : List Value).toArray wsX10_draws RX10 := ⟨hx, hb, hml, hown, hts⟩
  have hD := fA_D hD0
  have hS : va_S (fA [(q0, .inr (10, [.ref qn, .ref qa, .ref qp, .int (zI ((de : Nat) : Int)), .ref qi, .ref qs, .ref qk, .long (zL sv), .ref qb, .int (zI ((bn : Nat) : Int)), .ref qt, .ref qh, .ref qe])), (qn, .inl (k.1, 132, .inl (zF f))), (qt, .inl (k.1, 24, .inl (zF ts)))]) s.heap s.heap [] := va_S.rf
  generalize hAe : fA [(q0, .inr (10, [.ref qn, .ref qa, .ref qp, .int (zI ((de : Nat) : Int)), .ref qi, .ref qs, .ref qk, .long (zL sv), .ref qb, .int (zI ((bn : Nat) : Int)), .ref qt, .ref qh, .ref qe])), (qn, .inl (k.1, 132, .inl (zF f))), (qt, .inl (k.1, 24, .inl (zF ts)))] = A at hD hS ⊢
  have hP : va_P D vwCl [(q0, .inr (10, [.ref qn, .ref qa, .ref qp, .int (zI ((de : Nat) : Int)), .ref qi, .ref qs, .ref qk, .long (zL sv), .ref qb, .int (zI ((bn : Nat) : Int)), .ref qt, .ref qh, .ref qe])), (qn, .inl (k.1, 132, .inl (zF f))), (qt, .inl (k.1, 24, .inl (zF ts)))] s.heap := hP
  have hinX10 : ∀ w ∈ u_ws RX10 TX10 13, w ∈ wsX10_draws := by decide +kernel
  have fl33 := hts (.fieldLink RX10 33 "DotObjectsModel" "sets" "[I") (by decide +kernel)
  have hl := lv_entry ([.ref q0]) (n := 2) (Nat.le_of_ble_eq_true rfl)
  rw [lg_entry_eq]
  generalize (lg_sl ([.ref q0]) ++ List.replicate (2 - (lg_sl ([.ref q0])).length) Slot.unset).toArray = ls at hl ⊢
  have hl : lv_has ls 2 [(0, .ref q0)] := hl
  refine z_iconst hx hb dX10_draws_0 ?_
  refine lv_istore_n (lv' := [(1, .int (zI 0)), (0, .ref q0)]) hx hb dX10_draws_1 rfl hl (by decide) rfl (fun ls hl => ?_)
  have L2 : ∀ (NN2 : Nat), ∀ (jj : Nat) (tz : Nat → Int), (jj ≤ 24) → (∀ i, i < jj → tz i = ((dN f i : Nat) : Int)) → 24 - jj < NN2 → ∀ (H : Heap) (locs : List Loc), va_P D vwCl [(q0, .inr (10, [.ref qn, .ref qa, .ref qp, .int (zI ((de : Nat) : Int)), .ref qi, .ref qs, .ref qk, .long (zL sv), .ref qb, .int (zI ((bn : Nat) : Int)), .ref qt, .ref qh, .ref qe])), (qn, .inl (k.1, 132, .inl (zF f))), (qt, .inl (k.1, 24, .inl (zF tz)))] H → va_D A [(q0, .inr (10, [.ref qn, .ref qa, .ref qp, .int (zI ((de : Nat) : Int)), .ref qi, .ref qs, .ref qk, .long (zL sv), .ref qb, .int (zI ((bn : Nat) : Int)), .ref qt, .ref qh, .ref qe])), (qn, .inl (k.1, 132, .inl (zF f))), (qt, .inl (k.1, 24, .inl (zF tz)))] → va_S A s.heap H locs → ∀ (ls : Array Slot), lv_has ls 2 [(0, .ref q0), (1, .int (zI ((jj : Nat) : Int)))] → W p l e (headSpec wsX10_draws { frames := 5, cells := 0, slots := 0, locals := 115 }).room s m ([.ref q0] : List Value).toArray below meth c H locs 0 0 (MQ below (va_Qv (fun (u : Nat → Int) => ∀ q, q < 24 → u q = ((dN f q : Nat) : Int)) (fun (u : Nat → Int) t => va_P D vwCl [(q0, .inr (10, [.ref qn, .ref qa, .ref qp, .int (zI ((de : Nat) : Int)), .ref qi, .ref qs, .ref qk, .long (zL sv), .ref qb, .int (zI ((bn : Nat) : Int)), .ref qt, .ref qh, .ref qe])), (qn, .inl (k.1, 132, .inl (zF f))), (qt, .inl (k.1, 24, .inl (zF u)))] t.heap) A) ([.ref q0] : List Value).toArray s 0 0 A) (F0 m 2 ls []) := by
    intro NN2
    induction NN2 with
    | zero => intro jj tz _ _ hN; exact absurd hN (Nat.not_lt_zero _)
    | succ NN2 ih2 =>
      intro jj tz hjj hI hN H locs hP hD hS ls hl
      refine lv_iload_n hx hb dX10_draws_2 rfl (lv_at hl 1 rfl) ?_
      refine z_bipush hx hb dX10_draws_3 (by decide +kernel) ?_
      refine z_icmp_ge (tgt := 25) hx hb dX10_draws_5 (by decide) (by omega) (by omega) (fun c_5 => ?_) (fun c_5 => ?_)
      · obtain rfl : jj = 24 := by omega
        exact W.vret hx hb hr (fun t ht hW => ⟨⟨tz, rfl, hI, by show va_P D vwCl _ _; rw [ht]; exact hP⟩, hS.F ht⟩) hS.2.2 dX10_draws_25
      · refine lv_aload_n hx hb dX10_draws_8 rfl (lv_at hl 0 rfl) ?_
        refine va_get (D := D) (ci := 10) (v := .ref qt) (C := RX10) (T := TX10) (N := 13) hx hb hts hinX10 hown hK.1 hP 0 rfl rfl 10 (by decide) fl33 (fun _ h9 => h9) rfl dX10_draws_9 ?_
        refine lv_iload_n hx hb dX10_draws_12 rfl (lv_at hl 1 rfl) ?_
        refine lv_aload_n hx hb dX10_draws_13 rfl (lv_at hl 0 rfl) ?_
        refine lv_iload_n hx hb dX10_draws_14 rfl (lv_at hl 1 rfl) ?_
        refine roV (n := 1) (As := [.int (zI ((jj : Nat) : Int))]) (rest := [.int (zI ((jj : Nat) : Int)), .ref qt]) hSf (m_drawnOn l D k q0 qn qa qp qi qs qk qb qt qh qe de sv bn f B hV hB jj (by omega)) gX10_draws_X10_drawnOn rfl (by decide +kernel) ⟨Nat.le_of_ble_eq_true rfl, Nat.le_of_ble_eq_true rfl⟩ hK hP [0, 1] rfl 0 rfl rfl rfl hl.1 rfl (Nat.le_of_ble_eq_true rfl) dX10_draws_15 ⟨Nat.zero_le _, Nat.zero_le _⟩ (fun r_15 h_15 => ?_)
        subst h_15
        refine z_ast hx hb hK hP hD hS 2 rfl (jj) (by omega) (by omega) (Nat.le_of_ble_eq_true rfl) dX10_draws_18 (fun H locs hP hD hS => ?_)
        have hP : va_P D vwCl [(q0, .inr (10, [.ref qn, .ref qa, .ref qp, .int (zI ((de : Nat) : Int)), .ref qi, .ref qs, .ref qk, .long (zL sv), .ref qb, .int (zI ((bn : Nat) : Int)), .ref qt, .ref qh, .ref qe])), (qn, .inl (k.1, 132, .inl (zF f))), (qt, .inl (k.1, 24, .inl (zF (upZ tz jj ((dN f jj : Nat) : Int)))))] H := hP
        have hD : va_D A [(q0, .inr (10, [.ref qn, .ref qa, .ref qp, .int (zI ((de : Nat) : Int)), .ref qi, .ref qs, .ref qk, .long (zL sv), .ref qb, .int (zI ((bn : Nat) : Int)), .ref qt, .ref qh, .ref qe])), (qn, .inl (k.1, 132, .inl (zF f))), (qt, .inl (k.1, 24, .inl (zF (upZ tz jj ((dN f jj : Nat) : Int)))))] := hD
        refine lv_iinc (v := zI (((jj : Nat) : Int) + 1)) (lv' := [(1, .int (zI (((jj : Nat) : Int) + 1))), (0, .ref q0)]) hx hb dX10_draws_19 hl (k := 1) rfl (zI_add _ _) (by decide) rfl (fun ls hl => ?_)
        refine lv_goto (tgt := 2) hx hb dX10_draws_22 (by decide) ?_
        have hl : lv_has ls 2 [(1, .int (zI (((jj + 1) : Nat) : Int))), (0, .ref q0)] := lv_c (l1 := []) (l2 := [(0, .ref q0)]) hl (show ((jj : Nat) : Int) + 1 = (((jj + 1) : Nat) : Int) from by omega)
        exact ih2 (jj + 1) (upZ tz jj ((dN f jj : Nat) : Int)) (by omega) (up_s (w := fun i => ((dN f i : Nat) : Int)) hI rfl) (by omega) _ _ hP hD hS ls (lv_sub hl [1, 0] rfl)
  have hl : lv_has ls 2 [(1, .int (zI ((0 : Nat) : Int))), (0, .ref q0)] := lv_c (l1 := []) (l2 := [(0, .ref q0)]) hl (show 0 = ((0 : Nat) : Int) from rfl)
  exact L2 _ 0 ts (by decide) (fun i hi => absurd hi (Nat.not_lt_zero _)) (Nat.lt_succ_self _) _ _ hP hD hS ls (lv_sub hl [1, 0] rfl)
