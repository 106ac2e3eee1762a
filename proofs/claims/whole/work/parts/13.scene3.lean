def addZ (f : St) (x y pi tu le co : Int) : St := upZ (upZ (upZ (upZ (upZ (upZ (upZ (upZ (upZ f (36 + 8 * nT f + 0) x) (36 + 8 * nT f + 1) y) (36 + 8 * nT f + 2) pi) (36 + 8 * nT f + 3) tu) (36 + 8 * nT f + 4) le) (36 + 8 * nT f + 5) co) (36 + 8 * nT f + 6) 0) (36 + 8 * nT f + 7) 0) 0 (f 0 + 1)
def takeC (f : St) (t : Nat) : St := upZ (cpZ f f (36 + 8 * t + 8) (36 + 8 * t) (8 * (nT f - 1 - t))) 0 (f 0 - 1)
def gx (f : St) (t : Nat) : Int := (th f t 0 + th f t 6 + 8) % 40 - 8
def gy (f : St) (t : Nat) : Int := (th f t 1 + th f t 7 + 8) % 32 - 8
/-- NEXT FRAME, as far as THING j -/
def nz (f : St) (j : Nat) : St := fun i => if i = 3 then f 3 + 1 else if 36 ≤ i ∧ i < 36 + 8 * j ∧ i % 8 = 4 then gx f ((i - 36) / 8) else if 36 ≤ i ∧ i < 36 + 8 * j ∧ i % 8 = 5 then gy f ((i - 36) / 8) else f i
def nextZ (f : St) : St := nz f (nT f)
theorem nz_0 (f : St) : upZ f 3 (f 3 + 1) = nz f 0 := by
  funext i
  unfold upZ nz
  by_cases h : i = 3
  · rw [if_pos h, if_pos h]
  · rw [if_neg h, if_neg h, if_neg (by omega), if_neg (by omega)]
theorem nz_c (f : St) (j i : Nat) (h : i < 3) : nz f j i = f i := by
  unfold nz
  rw [if_neg (by omega), if_neg (by omega), if_neg (by omega)]
theorem nz_th {f : St} {j t w : Nat} (hw : w < 8) (h : j ≤ t ∨ 2 ≤ w) : th (nz f j) t w = th f t w := by
  unfold th nz
  rw [if_neg (by omega), if_neg (by omega), if_neg (by omega)]
theorem nz_s (f : St) (j : Nat) : upZ (upZ (nz f j) (36 + 8 * j + 0) (gx f j)) (36 + 8 * j + 1) (gy f j) = nz f (j + 1) := by
  funext i
  unfold upZ nz
  by_cases h1 : i = 36 + 8 * j + 1
  · rw [if_pos h1, if_neg (by omega), if_neg (by omega), if_pos (by omega), show (i - 36) / 8 = j by omega]
  · rw [if_neg h1]
    by_cases h2 : i = 36 + 8 * j + 0
    · rw [if_pos h2, if_neg (by omega), if_pos (by omega), show (i - 36) / 8 = j by omega]
    · rw [if_neg h2]
      by_cases h3 : i = 3
      · rw [if_pos h3, if_pos h3]
      · rw [if_neg h3, if_neg h3]
        have e1 : (36 ≤ i ∧ i < 36 + 8 * j ∧ i % 8 = 4) ↔ (36 ≤ i ∧ i < 36 + 8 * (j + 1) ∧ i % 8 = 4) := by omega
        have e2 : (36 ≤ i ∧ i < 36 + 8 * j ∧ i % 8 = 5) ↔ (36 ≤ i ∧ i < 36 + 8 * (j + 1) ∧ i % 8 = 5) := by omega
        simp only [e1, e2]
set_option maxHeartbeats 4000000 in
set_option maxRecDepth 100000 in
theorem c_setCell (l : Launch) (D : va_G) (k : Kt) (h0 : Nat) (c0 : Nat) (f : St) (j1 : Nat) (v1 : Int) (hj1 : j1 < 132) : MU l D k yX7_setCell wsX7_setCell 0 0 [.ref h0, .int (zI ((j1 : Nat) : Int)), .int (zI v1)] [(h0, .inr (7, [.ref c0])), (c0, .inl (k.1, 132, .inl (zF f)))] (fun (u : Unit) => True) (fun u => [(h0, .inr (7, [.ref c0])), (c0, .inl (k.1, 132, .inl (zF (upZ f j1 v1))))]) := by
  refine Met.ofW (cc := cX7_setCell) (maxL := 3) (ret := none) (by decide) rfl ?_
  intro p e s m args below meth c s₁ Bd hml hv
  obtain ⟨rfl, hP, hK, hD0⟩ := hv
  have hx := Bd.exec
  have hb := Bd.bytes
  have hr := Bd.returns
  have hts := atoms_spec (ws := wsX7_setCell) Bd.pre
  have hown : s.vm.findClass RX7 = some m.cls := findClass_of_methodNamed Bd.named
  have hlocks := Bd.notSynchronized
  have hSf : CallFix p m c cX7_setCell 3 s ([.ref h0, .int (zI ((j1 : Nat) : Int)), .int (zI v1)] : List Value).toArray wsX7_setCell RX7 := ⟨hx, hb, hml, hown, hts⟩
  have hD := fA_D hD0
  have hS : va_S (fA [(h0, .inr (7, [.ref c0])), (c0, .inl (k.1, 132, .inl (zF f)))]) s.heap s.heap [] := va_S.rf
  generalize hAe : fA [(h0, .inr (7, [.ref c0])), (c0, .inl (k.1, 132, .inl (zF f)))] = A at hD hS ⊢
  have hP : va_P D vwCl [(h0, .inr (7, [.ref c0])), (c0, .inl (k.1, 132, .inl (zF f)))] s.heap := hP
  have hinX7 : ∀ w ∈ u_ws RX7 TX7 1, w ∈ wsX7_setCell := by decide +kernel
  have fl11 := hts (.fieldLink RX7 11 "DotObjects$Scene" "cells" "[I") (by decide +kernel)
  have hl := lv_entry ([.ref h0, .int (zI ((j1 : Nat) : Int)), .int (zI v1)]) (n := 3) (Nat.le_of_ble_eq_true rfl)
  rw [lg_entry_eq]
  generalize (lg_sl ([.ref h0, .int (zI ((j1 : Nat) : Int)), .int (zI v1)]) ++ List.replicate (3 - (lg_sl ([.ref h0, .int (zI ((j1 : Nat) : Int)), .int (zI v1)])).length) Slot.unset).toArray = ls at hl ⊢
  have hl : lv_has ls 3 [(0, .ref h0), (1, .int (zI ((j1 : Nat) : Int))), (2, .int (zI v1))] := hl
  refine lv_aload_n hx hb dX7_setCell_0 rfl (lv_at hl 0 rfl) ?_
  refine va_get (D := D) (ci := 7) (v := .ref c0) (C := RX7) (T := TX7) (N := 1) hx hb hts hinX7 hown hK.1 hP 0 rfl rfl 0 (by decide) fl11 (fun _ h9 => h9) rfl dX7_setCell_1 ?_
  refine lv_iload_n hx hb dX7_setCell_4 rfl (lv_at hl 1 rfl) ?_
  refine lv_iload_n hx hb dX7_setCell_5 rfl (lv_at hl 2 rfl) ?_
  refine z_ast hx hb hK hP hD hS 1 rfl (j1) (by omega) (by omega) (Nat.le_of_ble_eq_true rfl) dX7_setCell_6 (fun H locs hP hD hS => ?_)
  have hP : va_P D vwCl [(h0, .inr (7, [.ref c0])), (c0, .inl (k.1, 132, .inl (zF (upZ f j1 v1))))] H := hP
  have hD : va_D A [(h0, .inr (7, [.ref c0])), (c0, .inl (k.1, 132, .inl (zF (upZ f j1 v1))))] := hD
  exact W.vret hx hb hr (fun t ht hW => ⟨⟨(), rfl, trivial, by show va_P D vwCl _ _; rw [ht]; exact hP⟩, hS.F ht⟩) hS.2.2 dX7_setCell_7
set_option maxHeartbeats 4000000 in
set_option maxRecDepth 100000 in
theorem c_setField (l : Launch) (D : va_G) (k : Kt) (h0 : Nat) (c0 : Nat) (f : St) (t1 : Nat) (w1 : Nat) (v1 : Int) (ht1 : t1 < 12) (hw1 : w1 < 8) : MU l D k yX7_setField wsX7_setField 0 0 [.ref h0, .int (zI ((t1 : Nat) : Int)), .int (zI ((w1 : Nat) : Int)), .int (zI v1)] [(h0, .inr (7, [.ref c0])), (c0, .inl (k.1, 132, .inl (zF f)))] (fun (u : Unit) => True) (fun u => [(h0, .inr (7, [.ref c0])), (c0, .inl (k.1, 132, .inl (zF (upZ f (36 + 8 * t1 + w1) v1))))]) := by
  refine Met.ofW (cc := cX7_setField) (maxL := 4) (ret := none) (by decide) rfl ?_
  intro p e s m args below meth c s₁ Bd hml hv
  obtain ⟨rfl, hP, hK, hD0⟩ := hv
  have hx := Bd.exec
  have hb := Bd.bytes
  have hr := Bd.returns
  have hts := atoms_spec (ws := wsX7_setField) Bd.pre
  have hown : s.vm.findClass RX7 = some m.cls := findClass_of_methodNamed Bd.named
  have hlocks := Bd.notSynchronized
  have hSf : CallFix p m c cX7_setField 4 s ([.ref h0, .int (zI ((t1 : Nat) : Int)), .int (zI ((w1 : Nat) : Int)), .int (zI v1)] : List Value).toArray wsX7_setField RX7 := ⟨hx, hb, hml, hown, hts⟩
  have hD := fA_D hD0
  have hS : va_S (fA [(h0, .inr (7, [.ref c0])), (c0, .inl (k.1, 132, .inl (zF f)))]) s.heap s.heap [] := va_S.rf
  generalize hAe : fA [(h0, .inr (7, [.ref c0])), (c0, .inl (k.1, 132, .inl (zF f)))] = A at hD hS ⊢
  have hP : va_P D vwCl [(h0, .inr (7, [.ref c0])), (c0, .inl (k.1, 132, .inl (zF f)))] s.heap := hP
  have hinX7 : ∀ w ∈ u_ws RX7 TX7 1, w ∈ wsX7_setField := by decide +kernel
  have fl11 := hts (.fieldLink RX7 11 "DotObjects$Scene" "cells" "[I") (by decide +kernel)
  have hl := lv_entry ([.ref h0, .int (zI ((t1 : Nat) : Int)), .int (zI ((w1 : Nat) : Int)), .int (zI v1)]) (n := 4) (Nat.le_of_ble_eq_true rfl)
  rw [lg_entry_eq]
  generalize (lg_sl ([.ref h0, .int (zI ((t1 : Nat) : Int)), .int (zI ((w1 : Nat) : Int)), .int (zI v1)]) ++ List.replicate (4 - (lg_sl ([.ref h0, .int (zI ((t1 : Nat) : Int)), .int (zI ((w1 : Nat) : Int)), .int (zI v1)])).length) Slot.unset).toArray = ls at hl ⊢
  have hl : lv_has ls 4 [(0, .ref h0), (1, .int (zI ((t1 : Nat) : Int))), (2, .int (zI ((w1 : Nat) : Int))), (3, .int (zI v1))] := hl
  refine lv_aload_n hx hb dX7_setField_0 rfl (lv_at hl 0 rfl) ?_
  refine va_get (D := D) (ci := 7) (v := .ref c0) (C := RX7) (T := TX7) (N := 1) hx hb hts hinX7 hown hK.1 hP 0 rfl rfl 0 (by decide) fl11 (fun _ h9 => h9) rfl dX7_setField_1 ?_
  refine z_bipush hx hb dX7_setField_4 (by decide +kernel) ?_
  refine lv_iload_n hx hb dX7_setField_6 rfl (lv_at hl 1 rfl) ?_
  refine z_bipush hx hb dX7_setField_7 (by decide +kernel) ?_
  refine z_imul hx hb dX7_setField_9 ?_
  refine z_iadd hx hb dX7_setField_10 ?_
  refine lv_iload_n hx hb dX7_setField_11 rfl (lv_at hl 2 rfl) ?_
  refine z_iadd hx hb dX7_setField_12 ?_
  refine lv_iload_n hx hb dX7_setField_13 rfl (lv_at hl 3 rfl) ?_
  refine z_ast hx hb hK hP hD hS 1 rfl (36 + 8 * t1 + w1) (by omega) (by omega) (Nat.le_of_ble_eq_true rfl) dX7_setField_14 (fun H locs hP hD hS => ?_)
  have hP : va_P D vwCl [(h0, .inr (7, [.ref c0])), (c0, .inl (k.1, 132, .inl (zF (upZ f (36 + 8 * t1 + w1) v1))))] H := hP
  have hD : va_D A [(h0, .inr (7, [.ref c0])), (c0, .inl (k.1, 132, .inl (zF (upZ f (36 + 8 * t1 + w1) v1))))] := hD
  exact W.vret hx hb hr (fun t ht hW => ⟨⟨(), rfl, trivial, by show va_P D vwCl _ _; rw [ht]; exact hP⟩, hS.F ht⟩) hS.2.2 dX7_setField_15
set_option maxHeartbeats 4000000 in
set_option maxRecDepth 100000 in
theorem c_setBits (l : Launch) (D : va_G) (k : Kt) (h0 : Nat) (c0 : Nat) (f : St) (p1 : Nat) (r1 : Nat) (v1 : Int) (hp1 : p1 < 4) (hr1 : r1 < 8) : MU l D k yX7_setBits wsX7_setBits 0 0 [.ref h0, .int (zI ((p1 : Nat) : Int)), .int (zI ((r1 : Nat) : Int)), .int (zI v1)] [(h0, .inr (7, [.ref c0])), (c0, .inl (k.1, 132, .inl (zF f)))] (fun (u : Unit) => True) (fun u => [(h0, .inr (7, [.ref c0])), (c0, .inl (k.1, 132, .inl (zF (upZ f (4 + 8 * p1 + r1) v1))))]) := by
  refine Met.ofW (cc := cX7_setBits) (maxL := 4) (ret := none) (by decide) rfl ?_
  intro p e s m args below meth c s₁ Bd hml hv
  obtain ⟨rfl, hP, hK, hD0⟩ := hv
  have hx := Bd.exec
  have hb := Bd.bytes
  have hr := Bd.returns
  have hts := atoms_spec (ws := wsX7_setBits) Bd.pre
  have hown : s.vm.findClass RX7 = some m.cls := findClass_of_methodNamed Bd.named
  have hlocks := Bd.notSynchronized
  have hSf : CallFix p m c cX7_setBits 4 s ([.ref h0, .int (zI ((p1 : Nat) : Int)), .int (zI ((r1 : Nat) : Int)), .int (zI v1)] : List Value).toArray wsX7_setBits RX7 := ⟨hx, hb, hml, hown, hts⟩
  have hD := fA_D hD0
  have hS : va_S (fA [(h0, .inr (7, [.ref c0])), (c0, .inl (k.1, 132, .inl (zF f)))]) s.heap s.heap [] := va_S.rf
  generalize hAe : fA [(h0, .inr (7, [.ref c0])), (c0, .inl (k.1, 132, .inl (zF f)))] = A at hD hS ⊢
  have hP : va_P D vwCl [(h0, .inr (7, [.ref c0])), (c0, .inl (k.1, 132, .inl (zF f)))] s.heap := hP
  have hinX7 : ∀ w ∈ u_ws RX7 TX7 1, w ∈ wsX7_setBits := by decide +kernel
  have fl11 := hts (.fieldLink RX7 11 "DotObjects$Scene" "cells" "[I") (by decide +kernel)
  have hl := lv_entry ([.ref h0, .int (zI ((p1 : Nat) : Int)), .int (zI ((r1 : Nat) : Int)), .int (zI v1)]) (n := 4) (Nat.le_of_ble_eq_true rfl)
  rw [lg_entry_eq]
  generalize (lg_sl ([.ref h0, .int (zI ((p1 : Nat) : Int)), .int (zI ((r1 : Nat) : Int)), .int (zI v1)]) ++ List.replicate (4 - (lg_sl ([.ref h0, .int (zI ((p1 : Nat) : Int)), .int (zI ((r1 : Nat) : Int)), .int (zI v1)])).length) Slot.unset).toArray = ls at hl ⊢
  have hl : lv_has ls 4 [(0, .ref h0), (1, .int (zI ((p1 : Nat) : Int))), (2, .int (zI ((r1 : Nat) : Int))), (3, .int (zI v1))] := hl
  refine lv_aload_n hx hb dX7_setBits_0 rfl (lv_at hl 0 rfl) ?_
  refine va_get (D := D) (ci := 7) (v := .ref c0) (C := RX7) (T := TX7) (N := 1) hx hb hts hinX7 hown hK.1 hP 0 rfl rfl 0 (by decide) fl11 (fun _ h9 => h9) rfl dX7_setBits_1 ?_
  refine z_iconst hx hb dX7_setBits_4 ?_
  refine lv_iload_n hx hb dX7_setBits_5 rfl (lv_at hl 1 rfl) ?_
  refine z_bipush hx hb dX7_setBits_6 (by decide +kernel) ?_
  refine z_imul hx hb dX7_setBits_8 ?_
  refine z_iadd hx hb dX7_setBits_9 ?_
  refine lv_iload_n hx hb dX7_setBits_10 rfl (lv_at hl 2 rfl) ?_
  refine z_iadd hx hb dX7_setBits_11 ?_
  refine lv_iload_n hx hb dX7_setBits_12 rfl (lv_at hl 3 rfl) ?_
  refine z_ast hx hb hK hP hD hS 1 rfl (4 + 8 * p1 + r1) (by omega) (by omega) (Nat.le_of_ble_eq_true rfl) dX7_setBits_13 (fun H locs hP hD hS => ?_)
  have hP : va_P D vwCl [(h0, .inr (7, [.ref c0])), (c0, .inl (k.1, 132, .inl (zF (upZ f (4 + 8 * p1 + r1) v1))))] H := hP
  have hD : va_D A [(h0, .inr (7, [.ref c0])), (c0, .inl (k.1, 132, .inl (zF (upZ f (4 + 8 * p1 + r1) v1))))] := hD
  exact W.vret hx hb hr (fun t ht hW => ⟨⟨(), rfl, trivial, by show va_P D vwCl _ _; rw [ht]; exact hP⟩, hS.F ht⟩) hS.2.2 dX7_setBits_14
set_option maxHeartbeats 4000000 in
set_option maxRecDepth 100000 in
theorem c_add (l : Launch) (D : va_G) (k : Kt) (h0 : Nat) (c0 : Nat) (f : St) (B : Int) (hV : Va B f) (x1 : Int) (x2 : Int) (x3 : Int) (x4 : Int) (x5 : Int) (x6 : Int) (hf : nT f < 12) : MI l D k yX7_add wsX7_add 1 23 [.ref h0, .int (zI x1), .int (zI x2), .int (zI x3), .int (zI x4), .int (zI x5), .int (zI x6)] [(h0, .inr (7, [.ref c0])), (c0, .inl (k.1, 132, .inl (zF f)))] (fun (r : Int32) (u : Unit) => r = zI (f 0) ∧ True) (fun u => [(h0, .inr (7, [.ref c0])), (c0, .inl (k.1, 132, .inl (zF (addZ f x1 x2 x3 x4 x5 x6))))]) := by
  refine Met.ofW (cc := cX7_add) (maxL := 8) (ret := (some .int)) (by decide) rfl ?_
  intro p e s m args below meth c s₁ Bd hml hv
  obtain ⟨rfl, hP, hK, hD0⟩ := hv
  have hx := Bd.exec
  have hb := Bd.bytes
  have hr := Bd.returns
  have hts := atoms_spec (ws := wsX7_add) Bd.pre
  have hown : s.vm.findClass RX7 = some m.cls := findClass_of_methodNamed Bd.named
  have hlocks := Bd.notSynchronized
  have hSf : CallFix p m c cX7_add 8 s ([.ref h0, .int (zI x1), .int (zI x2), .int (zI x3), .int (zI x4), .int (zI x5), .int (zI x6)] : List Value).toArray wsX7_add RX7 := ⟨hx, hb, hml, hown, hts⟩
  have hD := fA_D hD0
  have hS : va_S (fA [(h0, .inr (7, [.ref c0])), (c0, .inl (k.1, 132, .inl (zF f)))]) s.heap s.heap [] := va_S.rf
  generalize hAe : fA [(h0, .inr (7, [.ref c0])), (c0, .inl (k.1, 132, .inl (zF f)))] = A at hD hS ⊢
  have hP : va_P D vwCl [(h0, .inr (7, [.ref c0])), (c0, .inl (k.1, 132, .inl (zF f)))] s.heap := hP
  have hinX7 : ∀ w ∈ u_ws RX7 TX7 1, w ∈ wsX7_add := by decide +kernel
  have fl11 := hts (.fieldLink RX7 11 "DotObjects$Scene" "cells" "[I") (by decide +kernel)
  have hl := lv_entry ([.ref h0, .int (zI x1), .int (zI x2), .int (zI x3), .int (zI x4), .int (zI x5), .int (zI x6)]) (n := 8) (Nat.le_of_ble_eq_true rfl)
  rw [lg_entry_eq]
  generalize (lg_sl ([.ref h0, .int (zI x1), .int (zI x2), .int (zI x3), .int (zI x4), .int (zI x5), .int (zI x6)]) ++ List.replicate (8 - (lg_sl ([.ref h0, .int (zI x1), .int (zI x2), .int (zI x3), .int (zI x4), .int (zI x5), .int (zI x6)])).length) Slot.unset).toArray = ls at hl ⊢
  have hl : lv_has ls 8 [(0, .ref h0), (1, .int (zI x1)), (2, .int (zI x2)), (3, .int (zI x3)), (4, .int (zI x4)), (5, .int (zI x5)), (6, .int (zI x6))] := hl
  have hn := hV.n
  have hv := hV.1
  refine lv_aload_n hx hb dX7_add_0 rfl (lv_at hl 0 rfl) ?_
  refine va_get (D := D) (ci := 7) (v := .ref c0) (C := RX7) (T := TX7) (N := 1) hx hb hts hinX7 hown hK.1 hP 0 rfl rfl 0 (by decide) fl11 (fun _ h9 => h9) rfl dX7_add_1 ?_
  refine z_iconst hx hb dX7_add_4 ?_
  refine z_ald hx hb hK hP 1 rfl (0) (by omega) (by omega) (Nat.le_of_ble_eq_true rfl) dX7_add_5 ?_
  refine lv_istore (lv' := [(7, .int (zI (f 0))), (0, .ref h0), (1, .int (zI x1)), (2, .int (zI x2)), (3, .int (zI x3)), (4, .int (zI x4)), (5, .int (zI x5)), (6, .int (zI x6))]) hx hb dX7_add_6 hl (by decide) rfl (fun ls hl => ?_)
  refine lv_aload_n hx hb dX7_add_8 rfl (lv_at hl 1 rfl) ?_
  refine lv_iload hx hb dX7_add_9 (lv_at hl 0 rfl) ?_
  refine z_iconst hx hb dX7_add_11 ?_
  refine lv_iload_n hx hb dX7_add_12 rfl (lv_at hl 2 rfl) ?_
  refine muV (n := 3) (As := [.int (zI (((nT f) : Nat) : Int)), .int (zI ((0 : Nat) : Int)), .int (zI x1)]) (rest := []) hSf (c_setField l D k h0 c0 f (nT f) 0 x1 (by omega) (by omega)) gX7_add_X7_setField rfl (by decide +kernel) ⟨Nat.le_of_ble_eq_true rfl, Nat.le_of_ble_eq_true rfl⟩ hK hP hD hS [0, 1] rfl rfl (by decide) (fun _ => rfl) (fun _ => rfl) 0 rfl rfl rfl hl.1 (by rw [show zI (f 0) = zI (((nT f) : Nat) : Int) from zc (by omega)]; rw [show zI 0 = zI ((0 : Nat) : Int) from zc (by omega)]; rfl) (Nat.le_of_ble_eq_true rfl) dX7_add_13 ⟨Nat.zero_le _, Nat.zero_le _⟩ (fun u_13 H locs h_13 hP hD hS => ?_)
  have hP : va_P D vwCl [(h0, .inr (7, [.ref c0])), (c0, .inl (k.1, 132, .inl (zF (upZ f (36 + 8 * (nT f) + 0) x1))))] H := hP
  have hD : va_D A [(h0, .inr (7, [.ref c0])), (c0, .inl (k.1, 132, .inl (zF (upZ f (36 + 8 * (nT f) + 0) x1))))] := hD
  refine lv_aload_n hx hb dX7_add_16 rfl (lv_at hl 1 rfl) ?_
  refine lv_iload hx hb dX7_add_17 (lv_at hl 0 rfl) ?_
  refine z_iconst hx hb dX7_add_19 ?_
  refine lv_iload_n hx hb dX7_add_20 rfl (lv_at hl 3 rfl) ?_
  refine muV (n := 3) (As := [.int (zI (((nT f) : Nat) : Int)), .int (zI ((1 : Nat) : Int)), .int (zI x2)]) (rest := []) hSf (c_setField l D k h0 c0 (upZ f (36 + 8 * (nT f) + 0) x1) (nT f) 1 x2 (by omega) (by omega)) gX7_add_X7_setField rfl (by decide +kernel) ⟨Nat.le_of_ble_eq_true rfl, Nat.le_of_ble_eq_true rfl⟩ hK hP hD hS [0, 1] rfl rfl (by decide) (fun _ => rfl) (fun _ => rfl) 0 rfl rfl rfl hl.1 (by rw [show zI (f 0) = zI (((nT f) : Nat) : Int) from zc (by omega)]; rw [show zI 1 = zI ((1 : Nat) : Int) from zc (by omega)]; rfl) (Nat.le_of_ble_eq_true rfl) dX7_add_21 ⟨Nat.zero_le _, Nat.zero_le _⟩ (fun u_21 H locs h_21 hP hD hS => ?_)
  have hP : va_P D vwCl [(h0, .inr (7, [.ref c0])), (c0, .inl (k.1, 132, .inl (zF (upZ (upZ f (36 + 8 * (nT f) + 0) x1) (36 + 8 * (nT f) + 1) x2))))] H := hP
  have hD : va_D A [(h0, .inr (7, [.ref c0])), (c0, .inl (k.1, 132, .inl (zF (upZ (upZ f (36 + 8 * (nT f) + 0) x1) (36 + 8 * (nT f) + 1) x2))))] := hD
  refine lv_aload_n hx hb dX7_add_24 rfl (lv_at hl 1 rfl) ?_
  refine lv_iload hx hb dX7_add_25 (lv_at hl 0 rfl) ?_
  refine z_iconst hx hb dX7_add_27 ?_
  refine lv_iload_n hx hb dX7_add_28 rfl (lv_at hl 4 rfl) ?_
  refine muV (n := 3) (As := [.int (zI (((nT f) : Nat) : Int)), .int (zI ((2 : Nat) : Int)), .int (zI x3)]) (rest := []) hSf (c_setField l D k h0 c0 (upZ (upZ f (36 + 8 * (nT f) + 0) x1) (36 + 8 * (nT f) + 1) x2) (nT f) 2 x3 (by omega) (by omega)) gX7_add_X7_setField rfl (by decide +kernel) ⟨Nat.le_of_ble_eq_true rfl, Nat.le_of_ble_eq_true rfl⟩ hK hP hD hS [0, 1] rfl rfl (by decide) (fun _ => rfl) (fun _ => rfl) 0 rfl rfl rfl hl.1 (by rw [show zI (f 0) = zI (((nT f) : Nat) : Int) from zc (by omega)]; rw [show zI 2 = zI ((2 : Nat) : Int) from zc (by omega)]; rfl) (Nat.le_of_ble_eq_true rfl) dX7_add_29 ⟨Nat.zero_le _, Nat.zero_le _⟩ (fun u_29 H locs h_29 hP hD hS => ?_)
  have hP : va_P D vwCl [(h0, .inr (7, [.ref c0])), (c0, .inl (k.1, 132, .inl (zF (upZ (upZ (upZ f (36 + 8 * (nT f) + 0) x1) (36 + 8 * (nT f) + 1) x2) (36 + 8 * (nT f) + 2) x3))))] H := hP
  have hD : va_D A [(h0, .inr (7, [.ref c0])), (c0, .inl (k.1, 132, .inl (zF (upZ (upZ (upZ f (36 + 8 * (nT f) + 0) x1) (36 + 8 * (nT f) + 1) x2) (36 + 8 * (nT f) + 2) x3))))] := hD
  refine lv_aload_n hx hb dX7_add_32 rfl (lv_at hl 1 rfl) ?_
  refine lv_iload hx hb dX7_add_33 (lv_at hl 0 rfl) ?_
  refine z_iconst hx hb dX7_add_35 ?_
  refine lv_iload hx hb dX7_add_36 (lv_at hl 5 rfl) ?_
  refine muV (n := 3) (As := [.int (zI (((nT f) : Nat) : Int)), .int (zI ((3 : Nat) : Int)), .int (zI x4)]) (rest := []) hSf (c_setField l D k h0 c0 (upZ (upZ (upZ f (36 + 8 * (nT f) + 0) x1) (36 + 8 * (nT f) + 1) x2) (36 + 8 * (nT f) + 2) x3) (nT f) 3 x4 (by omega) (by omega)) gX7_add_X7_setField rfl (by decide +kernel) ⟨Nat.le_of_ble_eq_true rfl, Nat.le_of_ble_eq_true rfl⟩ hK hP hD hS [0, 1] rfl rfl (by decide) (fun _ => rfl) (fun _ => rfl) 0 rfl rfl rfl hl.1 (by rw [show zI (f 0) = zI (((nT f) : Nat) : Int) from zc (by omega)]; rw [show zI 3 = zI ((3 : Nat) : Int) from zc (by omega)]; rfl) (Nat.le_of_ble_eq_true rfl) dX7_add_38 ⟨Nat.zero_le _, Nat.zero_le _⟩ (fun u_38 H locs h_38 hP hD hS => ?_)
  have hP : va_P D vwCl [(h0, .inr (7, [.ref c0])), (c0, .inl (k.1, 132, .inl (zF (upZ (upZ (upZ (upZ f (36 + 8 * (nT f) + 0) x1) (36 + 8 * (nT f) + 1) x2) (36 + 8 * (nT f) + 2) x3) (36 + 8 * (nT f) + 3) x4))))] H := hP
  have hD : va_D A [(h0, .inr (7, [.ref c0])), (c0, .inl (k.1, 132, .inl (zF (upZ (upZ (upZ (upZ f (36 + 8 * (nT f) + 0) x1) (36 + 8 * (nT f) + 1) x2) (36 + 8 * (nT f) + 2) x3) (36 + 8 * (nT f) + 3) x4))))] := hD
  refine lv_aload_n hx hb dX7_add_41 rfl (lv_at hl 1 rfl) ?_
  refine lv_iload hx hb dX7_add_42 (lv_at hl 0 rfl) ?_
  refine z_iconst hx hb dX7_add_44 ?_
  refine lv_iload hx hb dX7_add_45 (lv_at hl 6 rfl) ?_
  refine muV (n := 3) (As := [.int (zI (((nT f) : Nat) : Int)), .int (zI ((4 : Nat) : Int)), .int (zI x5)]) (rest := []) hSf (c_setField l D k h0 c0 (upZ (upZ (upZ (upZ f (36 + 8 * (nT f) + 0) x1) (36 + 8 * (nT f) + 1) x2) (36 + 8 * (nT f) + 2) x3) (36 + 8 * (nT f) + 3) x4) (nT f) 4 x5 (by omega) (by omega)) gX7_add_X7_setField rfl (by decide +kernel) ⟨Nat.le_of_ble_eq_true rfl, Nat.le_of_ble_eq_true rfl⟩ hK hP hD hS [0, 1] rfl rfl (by decide) (fun _ => rfl) (fun _ => rfl) 0 rfl rfl rfl hl.1 (by rw [show zI (f 0) = zI (((nT f) : Nat) : Int) from zc (by omega)]; rw [show zI 4 = zI ((4 : Nat) : Int) from zc (by omega)]; rfl) (Nat.le_of_ble_eq_true rfl) dX7_add_47 ⟨Nat.zero_le _, Nat.zero_le _⟩ (fun u_47 H locs h_47 hP hD hS => ?_)
  have hP : va_P D vwCl [(h0, .inr (7, [.ref c0])), (c0, .inl (k.1, 132, .inl (zF (upZ (upZ (upZ (upZ (upZ f (36 + 8 * (nT f) + 0) x1) (36 + 8 * (nT f) + 1) x2) (36 + 8 * (nT f) + 2) x3) (36 + 8 * (nT f) + 3) x4) (36 + 8 * (nT f) + 4) x5))))] H := hP
  have hD : va_D A [(h0, .inr (7, [.ref c0])), (c0, .inl (k.1, 132, .inl (zF (upZ (upZ (upZ (upZ (upZ f (36 + 8 * (nT f) + 0) x1) (36 + 8 * (nT f) + 1) x2) (36 + 8 * (nT f) + 2) x3) (36 + 8 * (nT f) + 3) x4) (36 + 8 * (nT f) + 4) x5))))] := hD
  refine lv_aload_n hx hb dX7_add_50 rfl (lv_at hl 1 rfl) ?_
  refine lv_iload hx hb dX7_add_51 (lv_at hl 0 rfl) ?_
  refine z_iconst hx hb dX7_add_53 ?_
  refine lv_iload hx hb dX7_add_54 (lv_at hl 7 rfl) ?_
  refine muV (n := 3) (As := [.int (zI (((nT f) : Nat) : Int)), .int (zI ((5 : Nat) : Int)), .int (zI x6)]) (rest := []) hSf (c_setField l D k h0 c0 (upZ (upZ (upZ (upZ (upZ f (36 + 8 * (nT f) + 0) x1) (36 + 8 * (nT f) + 1) x2) (36 + 8 * (nT f) + 2) x3) (36 + 8 * (nT f) + 3) x4) (36 + 8 * (nT f) + 4) x5) (nT f) 5 x6 (by omega) (by omega)) gX7_add_X7_setField rfl (by decide +kernel) ⟨Nat.le_of_ble_eq_true rfl, Nat.le_of_ble_eq_true rfl⟩ hK hP hD hS [0, 1] rfl rfl (by decide) (fun _ => rfl) (fun _ => rfl) 0 rfl rfl rfl hl.1 (by rw [show zI (f 0) = zI (((nT f) : Nat) : Int) from zc (by omega)]; rw [show zI 5 = zI ((5 : Nat) : Int) from zc (by omega)]; rfl) (Nat.le_of_ble_eq_true rfl) dX7_add_56 ⟨Nat.zero_le _, Nat.zero_le _⟩ (fun u_56 H locs h_56 hP hD hS => ?_)
  have hP : va_P D vwCl [(h0, .inr (7, [.ref c0])), (c0, .inl (k.1, 132, .inl (zF (upZ (upZ (upZ (upZ (upZ (upZ f (36 + 8 * (nT f) + 0) x1) (36 + 8 * (nT f) + 1) x2) (36 + 8 * (nT f) + 2) x3) (36 + 8 * (nT f) + 3) x4) (36 + 8 * (nT f) + 4) x5) (36 + 8 * (nT f) + 5) x6))))] H := hP
  have hD : va_D A [(h0, .inr (7, [.ref c0])), (c0, .inl (k.1, 132, .inl (zF (upZ (upZ (upZ (upZ (upZ (upZ f (36 + 8 * (nT f) + 0) x1) (36 + 8 * (nT f) + 1) x2) (36 + 8 * (nT f) + 2) x3) (36 + 8 * (nT f) + 3) x4) (36 + 8 * (nT f) + 4) x5) (36 + 8 * (nT f) + 5) x6))))] := hD
  refine lv_aload_n hx hb dX7_add_59 rfl (lv_at hl 1 rfl) ?_
  refine lv_iload hx hb dX7_add_60 (lv_at hl 0 rfl) ?_
  refine z_bipush hx hb dX7_add_62 (by decide +kernel) ?_
  refine z_iconst hx hb dX7_add_64 ?_
  refine muV (n := 3) (As := [.int (zI (((nT f) : Nat) : Int)), .int (zI ((6 : Nat) : Int)), .int (zI 0)]) (rest := []) hSf (c_setField l D k h0 c0 (upZ (upZ (upZ (upZ (upZ (upZ f (36 + 8 * (nT f) + 0) x1) (36 + 8 * (nT f) + 1) x2) (36 + 8 * (nT f) + 2) x3) (36 + 8 * (nT f) + 3) x4) (36 + 8 * (nT f) + 4) x5) (36 + 8 * (nT f) + 5) x6) (nT f) 6 0 (by omega) (by omega)) gX7_add_X7_setField rfl (by decide +kernel) ⟨Nat.le_of_ble_eq_true rfl, Nat.le_of_ble_eq_true rfl⟩ hK hP hD hS [0, 1] rfl rfl (by decide) (fun _ => rfl) (fun _ => rfl) 0 rfl rfl rfl hl.1 (by rw [show zI (f 0) = zI (((nT f) : Nat) : Int) from zc (by omega)]; rw [show zI 6 = zI ((6 : Nat) : Int) from zc (by omega)]; rfl) (Nat.le_of_ble_eq_true rfl) dX7_add_65 ⟨Nat.zero_le _, Nat.zero_le _⟩ (fun u_65 H locs h_65 hP hD hS => ?_)
  have hP : va_P D vwCl [(h0, .inr (7, [.ref c0])), (c0, .inl (k.1, 132, .inl (zF (upZ (upZ (upZ (upZ (upZ (upZ (upZ f (36 + 8 * (nT f) + 0) x1) (36 + 8 * (nT f) + 1) x2) (36 + 8 * (nT f) + 2) x3) (36 + 8 * (nT f) + 3) x4) (36 + 8 * (nT f) + 4) x5) (36 + 8 * (nT f) + 5) x6) (36 + 8 * (nT f) + 6) 0))))] H := hP
  have hD : va_D A [(h0, .inr (7, [.ref c0])), (c0, .inl (k.1, 132, .inl (zF (upZ (upZ (upZ (upZ (upZ (upZ (upZ f (36 + 8 * (nT f) + 0) x1) (36 + 8 * (nT f) + 1) x2) (36 + 8 * (nT f) + 2) x3) (36 + 8 * (nT f) + 3) x4) (36 + 8 * (nT f) + 4) x5) (36 + 8 * (nT f) + 5) x6) (36 + 8 * (nT f) + 6) 0))))] := hD
  refine lv_aload_n hx hb dX7_add_68 rfl (lv_at hl 1 rfl) ?_
  refine lv_iload hx hb dX7_add_69 (lv_at hl 0 rfl) ?_
  refine z_bipush hx hb dX7_add_71 (by decide +kernel) ?_
  refine z_iconst hx hb dX7_add_73 ?_
  refine muV (n := 3) (As := [.int (zI (((nT f) : Nat) : Int)), .int (zI ((7 : Nat) : Int)), .int (zI 0)]) (rest := []) hSf (c_setField l D k h0 c0 (upZ (upZ (upZ (upZ (upZ (upZ (upZ f (36 + 8 * (nT f) + 0) x1) (36 + 8 * (nT f) + 1) x2) (36 + 8 * (nT f) + 2) x3) (36 + 8 * (nT f) + 3) x4) (36 + 8 * (nT f) + 4) x5) (36 + 8 * (nT f) + 5) x6) (36 + 8 * (nT f) + 6) 0) (nT f) 7 0 (by omega) (by omega)) gX7_add_X7_setField rfl (by decide +kernel) ⟨Nat.le_of_ble_eq_true rfl, Nat.le_of_ble_eq_true rfl⟩ hK hP hD hS [0, 1] rfl rfl (by decide) (fun _ => rfl) (fun _ => rfl) 0 rfl rfl rfl hl.1 (by rw [show zI (f 0) = zI (((nT f) : Nat) : Int) from zc (by omega)]; rw [show zI 7 = zI ((7 : Nat) : Int) from zc (by omega)]; rfl) (Nat.le_of_ble_eq_true rfl) dX7_add_74 ⟨Nat.zero_le _, Nat.zero_le _⟩ (fun u_74 H locs h_74 hP hD hS => ?_)
  have hP : va_P D vwCl [(h0, .inr (7, [.ref c0])), (c0, .inl (k.1, 132, .inl (zF (upZ (upZ (upZ (upZ (upZ (upZ (upZ (upZ f (36 + 8 * (nT f) + 0) x1) (36 + 8 * (nT f) + 1) x2) (36 + 8 * (nT f) + 2) x3) (36 + 8 * (nT f) + 3) x4) (36 + 8 * (nT f) + 4) x5) (36 + 8 * (nT f) + 5) x6) (36 + 8 * (nT f) + 6) 0) (36 + 8 * (nT f) + 7) 0))))] H := hP
  have hD : va_D A [(h0, .inr (7, [.ref c0])), (c0, .inl (k.1, 132, .inl (zF (upZ (upZ (upZ (upZ (upZ (upZ (upZ (upZ f (36 + 8 * (nT f) + 0) x1) (36 + 8 * (nT f) + 1) x2) (36 + 8 * (nT f) + 2) x3) (36 + 8 * (nT f) + 3) x4) (36 + 8 * (nT f) + 4) x5) (36 + 8 * (nT f) + 5) x6) (36 + 8 * (nT f) + 6) 0) (36 + 8 * (nT f) + 7) 0))))] := hD
  refine lv_aload_n hx hb dX7_add_77 rfl (lv_at hl 1 rfl) ?_
  refine va_get (D := D) (ci := 7) (v := .ref c0) (C := RX7) (T := TX7) (N := 1) hx hb hts hinX7 hown hK.1 hP 0 rfl rfl 0 (by decide) fl11 (fun _ h9 => h9) rfl dX7_add_78 ?_
  refine z_iconst hx hb dX7_add_81 ?_
  refine lv_iload hx hb dX7_add_82 (lv_at hl 0 rfl) ?_
  refine z_iconst hx hb dX7_add_84 ?_
  refine z_iadd hx hb dX7_add_85 ?_
  refine z_ast hx hb hK hP hD hS 1 rfl (0) (by omega) (by omega) (Nat.le_of_ble_eq_true rfl) dX7_add_86 (fun H locs hP hD hS => ?_)
  have hP : va_P D vwCl [(h0, .inr (7, [.ref c0])), (c0, .inl (k.1, 132, .inl (zF (upZ (upZ (upZ (upZ (upZ (upZ (upZ (upZ (upZ f (36 + 8 * (nT f) + 0) x1) (36 + 8 * (nT f) + 1) x2) (36 + 8 * (nT f) + 2) x3) (36 + 8 * (nT f) + 3) x4) (36 + 8 * (nT f) + 4) x5) (36 + 8 * (nT f) + 5) x6) (36 + 8 * (nT f) + 6) 0) (36 + 8 * (nT f) + 7) 0) 0 ((f 0) + 1)))))] H := hP
  have hD : va_D A [(h0, .inr (7, [.ref c0])), (c0, .inl (k.1, 132, .inl (zF (upZ (upZ (upZ (upZ (upZ (upZ (upZ (upZ (upZ f (36 + 8 * (nT f) + 0) x1) (36 + 8 * (nT f) + 1) x2) (36 + 8 * (nT f) + 2) x3) (36 + 8 * (nT f) + 3) x4) (36 + 8 * (nT f) + 4) x5) (36 + 8 * (nT f) + 5) x6) (36 + 8 * (nT f) + 6) 0) (36 + 8 * (nT f) + 7) 0) 0 ((f 0) + 1)))))] := hD
  refine lv_iload hx hb dX7_add_87 (lv_at hl 0 rfl) ?_
  exact W.iret hx hb hr (fun t ht hW => ⟨⟨_, (), rfl, ⟨rfl, trivial⟩, by show va_P D vwCl _ _; rw [ht]; exact hP⟩, hS.F ht⟩) hS.2.2 dX7_add_89
set_option maxHeartbeats 4000000 in
set_option maxRecDepth 100000 in
theorem c_removeThing (l : Launch) (D : va_G) (k : Kt) (h0 : Nat) (c0 : Nat) (f : St) (B : Int) (hV : Va B f) (t1 : Nat) (ht1 : t1 < nT f) : MU l D k yX7_removeThing wsX7_removeThing 1 40 [.ref h0, .int (zI ((t1 : Nat) : Int))] [(h0, .inr (7, [.ref c0])), (c0, .inl (k.1, 132, .inl (zF f)))] (fun (u : Unit) => True) (fun u => [(h0, .inr (7, [.ref c0])), (c0, .inl (k.1, 132, .inl (zF (takeC f t1))))]) := by
  refine Met.ofW (cc := cX7_removeThing) (maxL := 4) (ret := none) (by decide) rfl ?_
  intro p e s m args below meth c s₁ Bd hml hv
  obtain ⟨rfl, hP, hK, hD0⟩ := hv
  have hx := Bd.exec
  have hb := Bd.bytes
  have hr := Bd.returns
  have hts := atoms_spec (ws := wsX7_removeThing) Bd.pre
  have hown : s.vm.findClass RX7 = some m.cls := findClass_of_methodNamed Bd.named
  have hlocks := Bd.notSynchronized
  have hSf : CallFix p m c cX7_removeThing 4 s ([.ref h0, .int (zI ((t1 : Nat) : Int))] : List Value).toArray wsX7_removeThing RX7 := ⟨hx, hb, hml, hown, hts⟩
  have hD := fA_D hD0
  have hS : va_S (fA [(h0, .inr (7, [.ref c0])), (c0, .inl (k.1, 132, .inl (zF f)))]) s.heap s.heap [] := va_S.rf
  generalize hAe : fA [(h0, .inr (7, [.ref c0])), (c0, .inl (k.1, 132, .inl (zF f)))] = A at hD hS ⊢
  have hP : va_P D vwCl [(h0, .inr (7, [.ref c0])), (c0, .inl (k.1, 132, .inl (zF f)))] s.heap := hP
  have hinX7 : ∀ w ∈ u_ws RX7 TX7 1, w ∈ wsX7_removeThing := by decide +kernel
  have fl11 := hts (.fieldLink RX7 11 "DotObjects$Scene" "cells" "[I") (by decide +kernel)
  have hac := And.intro (hts (.methodLink RX7 15 arraycopyName) (by decide +kernel)) (And.intro (hts (.native arraycopyName) (by decide +kernel)) (And.intro (hts (.static arraycopyName) (by decide +kernel)) (hts (.initialized "java/lang/System") (by decide +kernel))))
  have hl := lv_entry ([.ref h0, .int (zI ((t1 : Nat) : Int))]) (n := 4) (Nat.le_of_ble_eq_true rfl)
  rw [lg_entry_eq]
  generalize (lg_sl ([.ref h0, .int (zI ((t1 : Nat) : Int))]) ++ List.replicate (4 - (lg_sl ([.ref h0, .int (zI ((t1 : Nat) : Int))])).length) Slot.unset).toArray = ls at hl ⊢
  have hl : lv_has ls 4 [(0, .ref h0), (1, .int (zI ((t1 : Nat) : Int)))] := hl
  have hn := hV.n
  have hv := hV.1
  refine z_bipush hx hb dX7_removeThing_0 (by decide +kernel) ?_
  refine lv_iload_n hx hb dX7_removeThing_2 rfl (lv_at hl 1 rfl) ?_
  refine z_bipush hx hb dX7_removeThing_3 (by decide +kernel) ?_
  refine z_imul hx hb dX7_removeThing_5 ?_
  refine z_iadd hx hb dX7_removeThing_6 ?_
  refine lv_istore_n (lv' := [(2, .int (zI (36 + (((t1 : Nat) : Int) * 8)))), (0, .ref h0), (1, .int (zI ((t1 : Nat) : Int)))]) hx hb dX7_removeThing_7 rfl hl (by decide) rfl (fun ls hl => ?_)
  refine lv_aload_n hx hb dX7_removeThing_8 rfl (lv_at hl 1 rfl) ?_
  refine va_get (D := D) (ci := 7) (v := .ref c0) (C := RX7) (T := TX7) (N := 1) hx hb hts hinX7 hown hK.1 hP 0 rfl rfl 0 (by decide) fl11 (fun _ h9 => h9) rfl dX7_removeThing_9 ?_
  refine z_iconst hx hb dX7_removeThing_12 ?_
  refine z_ald hx hb hK hP 1 rfl (0) (by omega) (by omega) (Nat.le_of_ble_eq_true rfl) dX7_removeThing_13 ?_
  refine z_iconst hx hb dX7_removeThing_14 ?_
  refine z_isub hx hb dX7_removeThing_15 ?_
  refine lv_iload_n hx hb dX7_removeThing_16 rfl (lv_at hl 2 rfl) ?_
  refine z_isub hx hb dX7_removeThing_17 ?_
  refine lv_istore_n (lv' := [(3, .int (zI (((f 0) - 1) - ((t1 : Nat) : Int)))), (2, .int (zI (36 + (((t1 : Nat) : Int) * 8)))), (0, .ref h0), (1, .int (zI ((t1 : Nat) : Int)))]) hx hb dX7_removeThing_18 rfl hl (by decide) rfl (fun ls hl => ?_)
  refine lv_aload_n hx hb dX7_removeThing_19 rfl (lv_at hl 2 rfl) ?_
  refine va_get (D := D) (ci := 7) (v := .ref c0) (C := RX7) (T := TX7) (N := 1) hx hb hts hinX7 hown hK.1 hP 0 rfl rfl 0 (by decide) fl11 (fun _ h9 => h9) rfl dX7_removeThing_20 ?_
  refine lv_iload_n hx hb dX7_removeThing_23 rfl (lv_at hl 1 rfl) ?_
  refine z_bipush hx hb dX7_removeThing_24 (by decide +kernel) ?_
  refine z_iadd hx hb dX7_removeThing_26 ?_
  refine lv_aload_n hx hb dX7_removeThing_27 rfl (lv_at hl 2 rfl) ?_
  refine va_get (D := D) (ci := 7) (v := .ref c0) (C := RX7) (T := TX7) (N := 1) hx hb hts hinX7 hown hK.1 hP 0 rfl rfl 0 (by decide) fl11 (fun _ h9 => h9) rfl dX7_removeThing_28 ?_
  refine lv_iload_n hx hb dX7_removeThing_31 rfl (lv_at hl 1 rfl) ?_
  refine lv_iload_n hx hb dX7_removeThing_32 rfl (lv_at hl 0 rfl) ?_
  refine z_bipush hx hb dX7_removeThing_33 (by decide +kernel) ?_
  refine z_imul hx hb dX7_removeThing_35 ?_
  refine z_copy hx hb (hml.trans hl.1.symm) hown hac.1 hac.2.1 hac.2.2.1 hac.2.2.2 hK hP hD hS 1 1 rfl rfl (36 + 8 * t1 + 8) (36 + 8 * t1) (8 * (nT f - 1 - t1)) (by omega) (by omega) (by omega) (by omega) (by omega) (by decide) (by decide) (Nat.le_of_ble_eq_true rfl) (by decide) dX7_removeThing_36 (fun H locs hP hD hS => ?_)
  have hP : va_P D vwCl [(h0, .inr (7, [.ref c0])), (c0, .inl (k.1, 132, .inl (zF (cpZ f f (36 + 8 * t1 + 8) (36 + 8 * t1) (8 * (nT f - 1 - t1))))))] H := hP
  have hD : va_D A [(h0, .inr (7, [.ref c0])), (c0, .inl (k.1, 132, .inl (zF (cpZ f f (36 + 8 * t1 + 8) (36 + 8 * t1) (8 * (nT f - 1 - t1))))))] := hD
  refine lv_aload_n hx hb dX7_removeThing_39 rfl (lv_at hl 2 rfl) ?_
  refine va_get (D := D) (ci := 7) (v := .ref c0) (C := RX7) (T := TX7) (N := 1) hx hb hts hinX7 hown hK.1 hP 0 rfl rfl 0 (by decide) fl11 (fun _ h9 => h9) rfl dX7_removeThing_40 ?_
  refine z_iconst hx hb dX7_removeThing_43 ?_
  refine lv_dup2_11 hx hb dX7_removeThing_44 rfl rfl ?_
  refine z_ald hx hb hK hP 1 rfl (0) (by omega) (by omega) (Nat.le_of_ble_eq_true rfl) dX7_removeThing_45 ?_
  refine te (zc (show (cpZ f f (36 + 8 * t1 + 8) (36 + 8 * t1) (8 * (nT f - 1 - t1))) 0 = f 0 from by rw [cpZ_out (by omega)])) ?_
  refine z_iconst hx hb dX7_removeThing_46 ?_
  refine z_isub hx hb dX7_removeThing_47 ?_
  refine z_ast hx hb hK hP hD hS 1 rfl (0) (by omega) (by omega) (Nat.le_of_ble_eq_true rfl) dX7_removeThing_48 (fun H locs hP hD hS => ?_)
  have hP : va_P D vwCl [(h0, .inr (7, [.ref c0])), (c0, .inl (k.1, 132, .inl (zF (upZ (cpZ f f (36 + 8 * t1 + 8) (36 + 8 * t1) (8 * (nT f - 1 - t1))) 0 ((f 0) - 1)))))] H := hP
  have hD : va_D A [(h0, .inr (7, [.ref c0])), (c0, .inl (k.1, 132, .inl (zF (upZ (cpZ f f (36 + 8 * t1 + 8) (36 + 8 * t1) (8 * (nT f - 1 - t1))) 0 ((f 0) - 1)))))] := hD
  exact W.vret hx hb hr (fun t ht hW => ⟨⟨(), rfl, trivial, by show va_P D vwCl _ _; rw [ht]; exact hP⟩, hS.F ht⟩) hS.2.2 dX7_removeThing_49
set_option maxHeartbeats 4000000 in
set_option maxRecDepth 100000 in
theorem c_goNextFrame (l : Launch) (D : va_G) (k : Kt) (h0 : Nat) (c0 : Nat) (f : St) (B : Int) (hV : Va B f) (hB : B < 1000000) : MU l D k yX7_goNextFrame wsX7_goNextFrame 2 43 [.ref h0] [(h0, .inr (7, [.ref c0])), (c0, .inl (k.1, 132, .inl (zF f)))] (fun (u : Unit) => True) (fun u => [(h0, .inr (7, [.ref c0])), (c0, .inl (k.1, 132, .inl (zF (nextZ f))))]) := by
  refine Met.ofW (cc := cX7_goNextFrame) (maxL := 2) (ret := none) (by decide) rfl ?_
  intro p e s m args below meth c s₁ Bd hml hv
  obtain ⟨rfl, hP, hK, hD0⟩ := hv
  have hx := Bd.exec
  have hb := Bd.bytes
  have hr := Bd.returns
  have hts := atoms_spec (ws := wsX7_goNextFrame) Bd.pre
  have hown : s.vm.findClass RX7 = some m.cls := findClass_of_methodNamed Bd.named
  have hlocks := Bd.notSynchronized
  have hSf : CallFix p m c cX7_goNextFrame 2 s ([.ref h0] : List Value).toArray wsX7_goNextFrame RX7 := ⟨hx, hb, hml, hown, hts⟩
  have hD := fA_D hD0
  have hS : va_S (fA [(h0, .inr (7, [.ref c0])), (c0, .inl (k.1, 132, .inl (zF f)))]) s.heap s.heap [] := va_S.rf
  generalize hAe : fA [(h0, .inr (7, [.ref c0])), (c0, .inl (k.1, 132, .inl (zF f)))] = A at hD hS ⊢
  have hP : va_P D vwCl [(h0, .inr (7, [.ref c0])), (c0, .inl (k.1, 132, .inl (zF f)))] s.heap := hP
  have hinX7 : ∀ w ∈ u_ws RX7 TX7 1, w ∈ wsX7_goNextFrame := by decide +kernel
  have fl11 := hts (.fieldLink RX7 11 "DotObjects$Scene" "cells" "[I") (by decide +kernel)
  have hl := lv_entry ([.ref h0]) (n := 2) (Nat.le_of_ble_eq_true rfl)
  rw [lg_entry_eq]
  generalize (lg_sl ([.ref h0]) ++ List.replicate (2 - (lg_sl ([.ref h0])).length) Slot.unset).toArray = ls at hl ⊢
  have hl : lv_has ls 2 [(0, .ref h0)] := hl
  have hn := hV.n
  have hv0 := hV.1
  refine lv_aload_n hx hb dX7_goNextFrame_0 rfl (lv_at hl 0 rfl) ?_
  refine va_get (D := D) (ci := 7) (v := .ref c0) (C := RX7) (T := TX7) (N := 1) hx hb hts hinX7 hown hK.1 hP 0 rfl rfl 0 (by decide) fl11 (fun _ h9 => h9) rfl dX7_goNextFrame_1 ?_
  refine z_iconst hx hb dX7_goNextFrame_4 ?_
  refine lv_dup2_11 hx hb dX7_goNextFrame_5 rfl rfl ?_
  refine z_ald hx hb hK hP 1 rfl (3) (by omega) (by omega) (Nat.le_of_ble_eq_true rfl) dX7_goNextFrame_6 ?_
  refine z_iconst hx hb dX7_goNextFrame_7 ?_
  refine z_iadd hx hb dX7_goNextFrame_8 ?_
  refine z_ast hx hb hK hP hD hS 1 rfl (3) (by omega) (by omega) (Nat.le_of_ble_eq_true rfl) dX7_goNextFrame_9 (fun H locs hP hD hS => ?_)
  have hP : va_P D vwCl [(h0, .inr (7, [.ref c0])), (c0, .inl (k.1, 132, .inl (zF (upZ f 3 ((f 3) + 1)))))] H := hP
  have hD : va_D A [(h0, .inr (7, [.ref c0])), (c0, .inl (k.1, 132, .inl (zF (upZ f 3 ((f 3) + 1)))))] := hD
  refine z_iconst hx hb dX7_goNextFrame_10 ?_
  refine lv_istore_n (lv' := [(1, .int (zI 0)), (0, .ref h0)]) hx hb dX7_goNextFrame_11 rfl hl (by decide) rfl (fun ls hl => ?_)
  have L12 : ∀ (NN12 : Nat), ∀ (j : Nat), (j ≤ nT f) → nT f - j < NN12 → ∀ (H : Heap) (locs : List Loc), va_P D vwCl [(h0, .inr (7, [.ref c0])), (c0, .inl (k.1, 132, .inl (zF (nz f j))))] H → va_D A [(h0, .inr (7, [.ref c0])), (c0, .inl (k.1, 132, .inl (zF (nz f j))))] → va_S A s.heap H locs → ∀ (ls : Array Slot), lv_has ls 2 [(0, .ref h0), (1, .int (zI ((j : Nat) : Int)))] → W p l e (headSpec wsX7_goNextFrame { frames := 2, cells := 0, slots := 0, locals := 43 }).room s m ([.ref h0] : List Value).toArray below meth c H locs 0 0 (MQ below (va_Qv (fun (u : Unit) => True) (fun (u : Unit) t => va_P D vwCl [(h0, .inr (7, [.ref c0])), (c0, .inl (k.1, 132, .inl (zF (nextZ f))))] t.heap) A) ([.ref h0] : List Value).toArray s 0 0 A) (F0 m 12 ls []) := by
    intro NN12
    induction NN12 with
    | zero => intro j _ hN; exact absurd hN (Nat.not_lt_zero _)
    | succ NN12 ih12 =>
      intro j hj hN H locs hP hD hS ls hl
      refine lv_iload_n hx hb dX7_goNextFrame_12 rfl (lv_at hl 1 rfl) ?_
      refine lv_aload_n hx hb dX7_goNextFrame_13 rfl (lv_at hl 0 rfl) ?_
      refine va_get (D := D) (ci := 7) (v := .ref c0) (C := RX7) (T := TX7) (N := 1) hx hb hts hinX7 hown hK.1 hP 0 rfl rfl 0 (by decide) fl11 (fun _ h9 => h9) rfl dX7_goNextFrame_14 ?_
      refine z_iconst hx hb dX7_goNextFrame_17 ?_
      refine z_ald hx hb hK hP 1 rfl (0) (by omega) (by omega) (Nat.le_of_ble_eq_true rfl) dX7_goNextFrame_18 ?_
      refine te (zc (show (nz f j) 0 = f 0 from nz_c f j 0 (by decide))) ?_
      refine z_icmp_ge (tgt := 78) hx hb dX7_goNextFrame_19 (by decide) (by omega) (by omega) (fun c_19 => ?_) (fun c_19 => ?_)
      · obtain rfl : j = nT f := by omega
        exact W.vret hx hb hr (fun t ht hW => ⟨⟨(), rfl, trivial, by show va_P D vwCl _ _; rw [ht]; exact hP⟩, hS.F ht⟩) hS.2.2 dX7_goNextFrame_78
      · have hv := hV.t (t := j) (by omega)
        refine lv_aload_n hx hb dX7_goNextFrame_22 rfl (lv_at hl 0 rfl) ?_
        refine lv_iload_n hx hb dX7_goNextFrame_23 rfl (lv_at hl 1 rfl) ?_
        refine z_iconst hx hb dX7_goNextFrame_24 ?_
        refine lv_aload_n hx hb dX7_goNextFrame_25 rfl (lv_at hl 0 rfl) ?_
        refine lv_iload_n hx hb dX7_goNextFrame_26 rfl (lv_at hl 1 rfl) ?_
        refine z_iconst hx hb dX7_goNextFrame_27 ?_
        refine roV (n := 2) (As := [.int (zI ((j : Nat) : Int)), .int (zI ((0 : Nat) : Int))]) (rest := [.int (zI 0), .int (zI ((j : Nat) : Int)), .ref h0]) hSf (c_field l D k h0 c0 (nz f j) j 0 (by omega) (by omega)) gX7_goNextFrame_X7_field rfl (by decide +kernel) ⟨Nat.le_of_ble_eq_true rfl, Nat.le_of_ble_eq_true rfl⟩ hK hP [0, 1] rfl 0 rfl rfl rfl hl.1 (by rw [show zI 0 = zI ((0 : Nat) : Int) from zc (by omega)]; rfl) (Nat.le_of_ble_eq_true rfl) dX7_goNextFrame_28 ⟨Nat.zero_le _, Nat.zero_le _⟩ (fun r_28 h_28 => ?_)
        subst h_28
        refine te (zc (show th (nz f j) j 0 = th f j 0 from nz_th (by decide) (Or.inl (Nat.le_refl _)))) ?_
        refine lv_aload_n hx hb dX7_goNextFrame_31 rfl (lv_at hl 0 rfl) ?_
        refine lv_iload_n hx hb dX7_goNextFrame_32 rfl (lv_at hl 1 rfl) ?_
        refine z_bipush hx hb dX7_goNextFrame_33 (by decide +kernel) ?_
        refine roV (n := 2) (As := [.int (zI ((j : Nat) : Int)), .int (zI ((6 : Nat) : Int))]) (rest := [.int (zI (th f j 0)), .int (zI 0), .int (zI ((j : Nat) : Int)), .ref h0]) hSf (c_field l D k h0 c0 (nz f j) j 6 (by omega) (by omega)) gX7_goNextFrame_X7_field rfl (by decide +kernel) ⟨Nat.le_of_ble_eq_true rfl, Nat.le_of_ble_eq_true rfl⟩ hK hP [0, 1] rfl 0 rfl rfl rfl hl.1 (by rw [show zI 6 = zI ((6 : Nat) : Int) from zc (by omega)]; rfl) (Nat.le_of_ble_eq_true rfl) dX7_goNextFrame_35 ⟨Nat.zero_le _, Nat.zero_le _⟩ (fun r_35 h_35 => ?_)
        subst h_35
        refine te (zc (show th (nz f j) j 6 = th f j 6 from nz_th (by decide) (Or.inl (Nat.le_refl _)))) ?_
        refine z_iadd hx hb dX7_goNextFrame_38 ?_
        refine z_bipush hx hb dX7_goNextFrame_39 (by decide +kernel) ?_
        refine roS (n := 2) (As := [.int (zI (th f j 0 + th f j 6)), .int (zI 40)]) (rest := [.int (zI 0), .int (zI ((j : Nat) : Int)), .ref h0]) hSf (c_wrapped l D k (th f j 0 + th f j 6) 40 (by omega) (by omega)) gX7_goNextFrame_X7_wrapped rfl (by decide +kernel) ⟨Nat.le_of_ble_eq_true rfl, Nat.le_of_ble_eq_true rfl⟩ hK hP [] rfl rfl hl.1 rfl (Nat.le_of_ble_eq_true rfl) dX7_goNextFrame_41 ⟨Nat.zero_le _, Nat.zero_le _⟩ (fun r_41 h_41 => ?_)
        subst h_41
        refine te (zc (show ((th f j 0 + th f j 6) + 8) % 40 - 8 = gx f j from rfl)) ?_
        refine muV (n := 3) (As := [.int (zI ((j : Nat) : Int)), .int (zI ((0 : Nat) : Int)), .int (zI (gx f j))]) (rest := []) hSf (c_setField l D k h0 c0 (nz f j) j 0 (gx f j) (by omega) (by omega)) gX7_goNextFrame_X7_setField rfl (by decide +kernel) ⟨Nat.le_of_ble_eq_true rfl, Nat.le_of_ble_eq_true rfl⟩ hK hP hD hS [0, 1] rfl rfl (by decide) (fun _ => rfl) (fun _ => rfl) 0 rfl rfl rfl hl.1 (by rw [show zI 0 = zI ((0 : Nat) : Int) from zc (by omega)]; rfl) (Nat.le_of_ble_eq_true rfl) dX7_goNextFrame_44 ⟨Nat.zero_le _, Nat.zero_le _⟩ (fun u_44 H locs h_44 hP hD hS => ?_)
        have hP : va_P D vwCl [(h0, .inr (7, [.ref c0])), (c0, .inl (k.1, 132, .inl (zF (upZ (nz f j) (36 + 8 * j + 0) (gx f j)))))] H := hP
        have hD : va_D A [(h0, .inr (7, [.ref c0])), (c0, .inl (k.1, 132, .inl (zF (upZ (nz f j) (36 + 8 * j + 0) (gx f j)))))] := hD
        refine lv_aload_n hx hb dX7_goNextFrame_47 rfl (lv_at hl 0 rfl) ?_
        refine lv_iload_n hx hb dX7_goNextFrame_48 rfl (lv_at hl 1 rfl) ?_
        refine z_iconst hx hb dX7_goNextFrame_49 ?_
        refine lv_aload_n hx hb dX7_goNextFrame_50 rfl (lv_at hl 0 rfl) ?_
        refine lv_iload_n hx hb dX7_goNextFrame_51 rfl (lv_at hl 1 rfl) ?_
        refine z_iconst hx hb dX7_goNextFrame_52 ?_
        refine roV (n := 2) (As := [.int (zI ((j : Nat) : Int)), .int (zI ((1 : Nat) : Int))]) (rest := [.int (zI 1), .int (zI ((j : Nat) : Int)), .ref h0]) hSf (c_field l D k h0 c0 (upZ (nz f j) (36 + 8 * j + 0) (gx f j)) j 1 (by omega) (by omega)) gX7_goNextFrame_X7_field rfl (by decide +kernel) ⟨Nat.le_of_ble_eq_true rfl, Nat.le_of_ble_eq_true rfl⟩ hK hP [0, 1] rfl 0 rfl rfl rfl hl.1 (by rw [show zI 1 = zI ((1 : Nat) : Int) from zc (by omega)]; rfl) (Nat.le_of_ble_eq_true rfl) dX7_goNextFrame_53 ⟨Nat.zero_le _, Nat.zero_le _⟩ (fun r_53 h_53 => ?_)
        subst h_53
        refine te (zc (show th (upZ (nz f j) (36 + 8 * j + 0) (gx f j)) j 1 = th f j 1 from (show th (upZ (nz f j) (36 + 8 * j + 0) (gx f j)) j 1 = th (nz f j) j 1 from upZ_n (by omega)).trans (nz_th (by decide) (Or.inl (Nat.le_refl _))))) ?_
        refine lv_aload_n hx hb dX7_goNextFrame_56 rfl (lv_at hl 0 rfl) ?_
        refine lv_iload_n hx hb dX7_goNextFrame_57 rfl (lv_at hl 1 rfl) ?_
        refine z_bipush hx hb dX7_goNextFrame_58 (by decide +kernel) ?_
        refine roV (n := 2) (As := [.int (zI ((j : Nat) : Int)), .int (zI ((7 : Nat) : Int))]) (rest := [.int (zI (th f j 1)), .int (zI 1), .int (zI ((j : Nat) : Int)), .ref h0]) hSf (c_field l D k h0 c0 (upZ (nz f j) (36 + 8 * j + 0) (gx f j)) j 7 (by omega) (by omega)) gX7_goNextFrame_X7_field rfl (by decide +kernel) ⟨Nat.le_of_ble_eq_true rfl, Nat.le_of_ble_eq_true rfl⟩ hK hP [0, 1] rfl 0 rfl rfl rfl hl.1 (by rw [show zI 7 = zI ((7 : Nat) : Int) from zc (by omega)]; rfl) (Nat.le_of_ble_eq_true rfl) dX7_goNextFrame_60 ⟨Nat.zero_le _, Nat.zero_le _⟩ (fun r_60 h_60 => ?_)
        subst h_60
        refine te (zc (show th (upZ (nz f j) (36 + 8 * j + 0) (gx f j)) j 7 = th f j 7 from (show th (upZ (nz f j) (36 + 8 * j + 0) (gx f j)) j 7 = th (nz f j) j 7 from upZ_n (by omega)).trans (nz_th (by decide) (Or.inl (Nat.le_refl _))))) ?_
        refine z_iadd hx hb dX7_goNextFrame_63 ?_
        refine z_bipush hx hb dX7_goNextFrame_64 (by decide +kernel) ?_
        refine roS (n := 2) (As := [.int (zI (th f j 1 + th f j 7)), .int (zI 32)]) (rest := [.int (zI 1), .int (zI ((j : Nat) : Int)), .ref h0]) hSf (c_wrapped l D k (th f j 1 + th f j 7) 32 (by omega) (by omega)) gX7_goNextFrame_X7_wrapped rfl (by decide +kernel) ⟨Nat.le_of_ble_eq_true rfl, Nat.le_of_ble_eq_true rfl⟩ hK hP [] rfl rfl hl.1 rfl (Nat.le_of_ble_eq_true rfl) dX7_goNextFrame_66 ⟨Nat.zero_le _, Nat.zero_le _⟩ (fun r_66 h_66 => ?_)
        subst h_66
        refine te (zc (show ((th f j 1 + th f j 7) + 8) % 32 - 8 = gy f j from rfl)) ?_
        refine muV (n := 3) (As := [.int (zI ((j : Nat) : Int)), .int (zI ((1 : Nat) : Int)), .int (zI (gy f j))]) (rest := []) hSf (c_setField l D k h0 c0 (upZ (nz f j) (36 + 8 * j + 0) (gx f j)) j 1 (gy f j) (by omega) (by omega)) gX7_goNextFrame_X7_setField rfl (by decide +kernel) ⟨Nat.le_of_ble_eq_true rfl, Nat.le_of_ble_eq_true rfl⟩ hK hP hD hS [0, 1] rfl rfl (by decide) (fun _ => rfl) (fun _ => rfl) 0 rfl rfl rfl hl.1 (by rw [show zI 1 = zI ((1 : Nat) : Int) from zc (by omega)]; rfl) (Nat.le_of_ble_eq_true rfl) dX7_goNextFrame_69 ⟨Nat.zero_le _, Nat.zero_le _⟩ (fun u_69 H locs h_69 hP hD hS => ?_)
        have hP : va_P D vwCl [(h0, .inr (7, [.ref c0])), (c0, .inl (k.1, 132, .inl (zF (upZ (upZ (nz f j) (36 + 8 * j + 0) (gx f j)) (36 + 8 * j + 1) (gy f j)))))] H := hP
        have hD : va_D A [(h0, .inr (7, [.ref c0])), (c0, .inl (k.1, 132, .inl (zF (upZ (upZ (nz f j) (36 + 8 * j + 0) (gx f j)) (36 + 8 * j + 1) (gy f j)))))] := hD
        refine lv_iinc (v := zI (((j : Nat) : Int) + 1)) (lv' := [(1, .int (zI (((j : Nat) : Int) + 1))), (0, .ref h0)]) hx hb dX7_goNextFrame_72 hl (k := 1) rfl (zI_add _ _) (by decide) rfl (fun ls hl => ?_)
        refine lv_goto (tgt := 12) hx hb dX7_goNextFrame_75 (by decide) ?_
        have hl : lv_has ls 2 [(1, .int (zI (((j + 1) : Nat) : Int))), (0, .ref h0)] := lv_c (l1 := []) (l2 := [(0, .ref h0)]) hl (show ((j : Nat) : Int) + 1 = (((j + 1) : Nat) : Int) from by omega)
        exact ih12 (j + 1) (by omega) (by omega) _ _ (by rw [← nz_s]; exact hP) (by rw [← nz_s]; exact hD) hS ls (lv_sub hl [1, 0] rfl)
  have hl : lv_has ls 2 [(1, .int (zI ((0 : Nat) : Int))), (0, .ref h0)] := lv_c (l1 := []) (l2 := [(0, .ref h0)]) hl (show 0 = ((0 : Nat) : Int) from rfl)
  exact L12 _ 0 (Nat.zero_le _) (Nat.lt_succ_self _) _ _ (by rw [← nz_0]; exact hP) (by rw [← nz_0]; exact hD) hS ls (lv_sub hl [1, 0] rfl)
set_option maxHeartbeats 4000000 in
set_option maxRecDepth 100000 in
theorem c_saveTo (l : Launch) (D : va_G) (k : Kt) (h0 : Nat) (c0 : Nat) (f : St) (c1 : Nat) (g : St) : MU l D k yX7_saveTo wsX7_saveTo 1 40 [.ref h0, .ref c1] [(h0, .inr (7, [.ref c0])), (c0, .inl (k.1, 132, .inl (zF f))), (c1, .inl (k.1, 132, .inl (zF g)))] (fun (u : Unit) => True) (fun u => [(h0, .inr (7, [.ref c0])), (c0, .inl (k.1, 132, .inl (zF f))), (c1, .inl (k.1, 132, .inl (zF (cpZ f g 0 0 132))))]) := by
  refine Met.ofW (cc := cX7_saveTo) (maxL := 2) (ret := none) (by decide) rfl ?_
  intro p e s m args below meth c s₁ Bd hml hv
  obtain ⟨rfl, hP, hK, hD0⟩ := hv
  have hx := Bd.exec
  have hb := Bd.bytes
  have hr := Bd.returns
  have hts := atoms_spec (ws := wsX7_saveTo) Bd.pre
  have hown : s.vm.findClass RX7 = some m.cls := findClass_of_methodNamed Bd.named
  have hlocks := Bd.notSynchronized
  have hSf : CallFix p m c cX7_saveTo 2 s ([.ref h0, .ref c1] : List Value).toArray wsX7_saveTo RX7 := ⟨hx, hb, hml, hown, hts⟩
  have hD := fA_D hD0
  have hS : va_S (fA [(h0, .inr (7, [.ref c0])), (c0, .inl (k.1, 132, .inl (zF f))), (c1, .inl (k.1, 132, .inl (zF g)))]) s.heap s.heap [] := va_S.rf
  generalize hAe : fA [(h0, .inr (7, [.ref c0])), (c0, .inl (k.1, 132, .inl (zF f))), (c1, .inl (k.1, 132, .inl (zF g)))] = A at hD hS ⊢
  have hP : va_P D vwCl [(h0, .inr (7, [.ref c0])), (c0, .inl (k.1, 132, .inl (zF f))), (c1, .inl (k.1, 132, .inl (zF g)))] s.heap := hP
  have hinX7 : ∀ w ∈ u_ws RX7 TX7 1, w ∈ wsX7_saveTo := by decide +kernel
  have fl11 := hts (.fieldLink RX7 11 "DotObjects$Scene" "cells" "[I") (by decide +kernel)
  have hac := And.intro (hts (.methodLink RX7 15 arraycopyName) (by decide +kernel)) (And.intro (hts (.native arraycopyName) (by decide +kernel)) (And.intro (hts (.static arraycopyName) (by decide +kernel)) (hts (.initialized "java/lang/System") (by decide +kernel))))
  have hl := lv_entry ([.ref h0, .ref c1]) (n := 2) (Nat.le_of_ble_eq_true rfl)
  rw [lg_entry_eq]
  generalize (lg_sl ([.ref h0, .ref c1]) ++ List.replicate (2 - (lg_sl ([.ref h0, .ref c1])).length) Slot.unset).toArray = ls at hl ⊢
  have hl : lv_has ls 2 [(0, .ref h0), (1, .ref c1)] := hl
  refine lv_aload_n hx hb dX7_saveTo_0 rfl (lv_at hl 0 rfl) ?_
  refine va_get (D := D) (ci := 7) (v := .ref c0) (C := RX7) (T := TX7) (N := 1) hx hb hts hinX7 hown hK.1 hP 0 rfl rfl 0 (by decide) fl11 (fun _ h9 => h9) rfl dX7_saveTo_1 ?_
  refine z_iconst hx hb dX7_saveTo_4 ?_
  refine lv_aload_n hx hb dX7_saveTo_5 rfl (lv_at hl 1 rfl) ?_
  refine z_iconst hx hb dX7_saveTo_6 ?_
  refine z_sipush hx hb dX7_saveTo_7 (by decide +kernel) ?_
  refine z_copy hx hb (hml.trans hl.1.symm) hown hac.1 hac.2.1 hac.2.2.1 hac.2.2.2 hK hP hD hS 1 2 rfl rfl (0) (0) (132) (by omega) (by omega) (by omega) (by omega) (by omega) (by decide) (by decide) (Nat.le_of_ble_eq_true rfl) (by decide) dX7_saveTo_10 (fun H locs hP hD hS => ?_)
  have hP : va_P D vwCl [(h0, .inr (7, [.ref c0])), (c0, .inl (k.1, 132, .inl (zF f))), (c1, .inl (k.1, 132, .inl (zF (cpZ f g 0 0 132))))] H := hP
  have hD : va_D A [(h0, .inr (7, [.ref c0])), (c0, .inl (k.1, 132, .inl (zF f))), (c1, .inl (k.1, 132, .inl (zF (cpZ f g 0 0 132))))] := hD
  exact W.vret hx hb hr (fun t ht hW => ⟨⟨(), rfl, trivial, by show va_P D vwCl _ _; rw [ht]; exact hP⟩, hS.F ht⟩) hS.2.2 dX7_saveTo_13
set_option maxHeartbeats 4000000 in
set_option maxRecDepth 100000 in
theorem c_loadFrom (l : Launch) (D : va_G) (k : Kt) (h0 : Nat) (c0 : Nat) (f : St) (c1 : Nat) (g : St) : MU l D k yX7_loadFrom wsX7_loadFrom 1 40 [.ref h0, .ref c1] [(h0, .inr (7, [.ref c0])), (c0, .inl (k.1, 132, .inl (zF f))), (c1, .inl (k.1, 132, .inl (zF g)))] (fun (u : Unit) => True) (fun u => [(h0, .inr (7, [.ref c0])), (c0, .inl (k.1, 132, .inl (zF (cpZ g f 0 0 132)))), (c1, .inl (k.1, 132, .inl (zF g)))]) := by
  refine Met.ofW (cc := cX7_loadFrom) (maxL := 2) (ret := none) (by decide) rfl ?_
  intro p e s m args below meth c s₁ Bd hml hv
  obtain ⟨rfl, hP, hK, hD0⟩ := hv
  have hx := Bd.exec
  have hb := Bd.bytes
  have hr := Bd.returns
  have hts := atoms_spec (ws := wsX7_loadFrom) Bd.pre
  have hown : s.vm.findClass RX7 = some m.cls := findClass_of_methodNamed Bd.named
  have hlocks := Bd.notSynchronized
  have hSf : CallFix p m c cX7_loadFrom 2 s ([.ref h0, .ref c1] : List Value).toArray wsX7_loadFrom RX7 := ⟨hx, hb, hml, hown, hts⟩
  have hD := fA_D hD0
  have hS : va_S (fA [(h0, .inr (7, [.ref c0])), (c0, .inl (k.1, 132, .inl (zF f))), (c1, .inl (k.1, 132, .inl (zF g)))]) s.heap s.heap [] := va_S.rf
  generalize hAe : fA [(h0, .inr (7, [.ref c0])), (c0, .inl (k.1, 132, .inl (zF f))), (c1, .inl (k.1, 132, .inl (zF g)))] = A at hD hS ⊢
  have hP : va_P D vwCl [(h0, .inr (7, [.ref c0])), (c0, .inl (k.1, 132, .inl (zF f))), (c1, .inl (k.1, 132, .inl (zF g)))] s.heap := hP
  have hinX7 : ∀ w ∈ u_ws RX7 TX7 1, w ∈ wsX7_loadFrom := by decide +kernel
  have fl11 := hts (.fieldLink RX7 11 "DotObjects$Scene" "cells" "[I") (by decide +kernel)
  have hac := And.intro (hts (.methodLink RX7 15 arraycopyName) (by decide +kernel)) (And.intro (hts (.native arraycopyName) (by decide +kernel)) (And.intro (hts (.static arraycopyName) (by decide +kernel)) (hts (.initialized "java/lang/System") (by decide +kernel))))
  have hl := lv_entry ([.ref h0, .ref c1]) (n := 2) (Nat.le_of_ble_eq_true rfl)
  rw [lg_entry_eq]
  generalize (lg_sl ([.ref h0, .ref c1]) ++ List.replicate (2 - (lg_sl ([.ref h0, .ref c1])).length) Slot.unset).toArray = ls at hl ⊢
  have hl : lv_has ls 2 [(0, .ref h0), (1, .ref c1)] := hl
  refine lv_aload_n hx hb dX7_loadFrom_0 rfl (lv_at hl 1 rfl) ?_
  refine z_iconst hx hb dX7_loadFrom_1 ?_
  refine lv_aload_n hx hb dX7_loadFrom_2 rfl (lv_at hl 0 rfl) ?_
  refine va_get (D := D) (ci := 7) (v := .ref c0) (C := RX7) (T := TX7) (N := 1) hx hb hts hinX7 hown hK.1 hP 0 rfl rfl 0 (by decide) fl11 (fun _ h9 => h9) rfl dX7_loadFrom_3 ?_
  refine z_iconst hx hb dX7_loadFrom_6 ?_
  refine z_sipush hx hb dX7_loadFrom_7 (by decide +kernel) ?_
  refine z_copy hx hb (hml.trans hl.1.symm) hown hac.1 hac.2.1 hac.2.2.1 hac.2.2.2 hK hP hD hS 2 1 rfl rfl (0) (0) (132) (by omega) (by omega) (by omega) (by omega) (by omega) (by decide) (by decide) (Nat.le_of_ble_eq_true rfl) (by decide) dX7_loadFrom_10 (fun H locs hP hD hS => ?_)
  have hP : va_P D vwCl [(h0, .inr (7, [.ref c0])), (c0, .inl (k.1, 132, .inl (zF (cpZ g f 0 0 132)))), (c1, .inl (k.1, 132, .inl (zF g)))] H := hP
  have hD : va_D A [(h0, .inr (7, [.ref c0])), (c0, .inl (k.1, 132, .inl (zF (cpZ g f 0 0 132)))), (c1, .inl (k.1, 132, .inl (zF g)))] := hD
  exact W.vret hx hb hr (fun t ht hW => ⟨⟨(), rfl, trivial, by show va_P D vwCl _ _; rw [ht]; exact hP⟩, hS.F ht⟩) hS.2.2 dX7_loadFrom_13
set_option maxHeartbeats 4000000 in
set_option maxRecDepth 100000 in
theorem c_copyFrom (l : Launch) (D : va_G) (k : Kt) (h0 : Nat) (c0 : Nat) (f : St) (h1 : Nat) (c1 : Nat) (g : St) : MU l D k yX7_copyFrom wsX7_copyFrom 2 61 [.ref h0, .ref h1] [(h0, .inr (7, [.ref c0])), (c0, .inl (k.1, 132, .inl (zF f))), (h1, .inr (7, [.ref c1])), (c1, .inl (k.1, 132, .inl (zF g)))] (fun (u : Unit) => True) (fun u => [(h0, .inr (7, [.ref c0])), (c0, .inl (k.1, 132, .inl (zF (cpZ g f 0 0 132)))), (h1, .inr (7, [.ref c1])), (c1, .inl (k.1, 132, .inl (zF g)))]) := by
  refine Met.ofW (cc := cX7_copyFrom) (maxL := 2) (ret := none) (by decide) rfl ?_
  intro p e s m args below meth c s₁ Bd hml hv
  obtain ⟨rfl, hP, hK, hD0⟩ := hv
  have hx := Bd.exec
  have hb := Bd.bytes
  have hr := Bd.returns
  have hts := atoms_spec (ws := wsX7_copyFrom) Bd.pre
  have hown : s.vm.findClass RX7 = some m.cls := findClass_of_methodNamed Bd.named
  have hlocks := Bd.notSynchronized
  have hSf : CallFix p m c cX7_copyFrom 2 s ([.ref h0, .ref h1] : List Value).toArray wsX7_copyFrom RX7 := ⟨hx, hb, hml, hown, hts⟩
  have hD := fA_D hD0
  have hS : va_S (fA [(h0, .inr (7, [.ref c0])), (c0, .inl (k.1, 132, .inl (zF f))), (h1, .inr (7, [.ref c1])), (c1, .inl (k.1, 132, .inl (zF g)))]) s.heap s.heap [] := va_S.rf
  generalize hAe : fA [(h0, .inr (7, [.ref c0])), (c0, .inl (k.1, 132, .inl (zF f))), (h1, .inr (7, [.ref c1])), (c1, .inl (k.1, 132, .inl (zF g)))] = A at hD hS ⊢
  have hP : va_P D vwCl [(h0, .inr (7, [.ref c0])), (c0, .inl (k.1, 132, .inl (zF f))), (h1, .inr (7, [.ref c1])), (c1, .inl (k.1, 132, .inl (zF g)))] s.heap := hP
  have hinX7 : ∀ w ∈ u_ws RX7 TX7 1, w ∈ wsX7_copyFrom := by decide +kernel
  have fl11 := hts (.fieldLink RX7 11 "DotObjects$Scene" "cells" "[I") (by decide +kernel)
  have hl := lv_entry ([.ref h0, .ref h1]) (n := 2) (Nat.le_of_ble_eq_true rfl)
  rw [lg_entry_eq]
  generalize (lg_sl ([.ref h0, .ref h1]) ++ List.replicate (2 - (lg_sl ([.ref h0, .ref h1])).length) Slot.unset).toArray = ls at hl ⊢
  have hl : lv_has ls 2 [(0, .ref h0), (1, .ref h1)] := hl
  refine lv_aload_n hx hb dX7_copyFrom_0 rfl (lv_at hl 0 rfl) ?_
  refine lv_aload_n hx hb dX7_copyFrom_1 rfl (lv_at hl 1 rfl) ?_
  refine va_get (D := D) (ci := 7) (v := .ref c1) (C := RX7) (T := TX7) (N := 1) hx hb hts hinX7 hown hK.1 hP 2 rfl rfl 0 (by decide) fl11 (fun _ h9 => h9) rfl dX7_copyFrom_2 ?_
  refine muV (n := 1) (As := [.ref c1]) (rest := []) hSf (c_loadFrom l D k h0 c0 f c1 g) gX7_copyFrom_X7_loadFrom rfl (by decide +kernel) ⟨Nat.le_of_ble_eq_true rfl, Nat.le_of_ble_eq_true rfl⟩ hK hP hD hS [0, 1, 3] rfl rfl (by decide) (fun _ => rfl) (fun _ => rfl) 0 rfl rfl rfl hl.1 rfl (Nat.le_of_ble_eq_true rfl) dX7_copyFrom_5 ⟨Nat.zero_le _, Nat.zero_le _⟩ (fun u_5 H locs h_5 hP hD hS => ?_)
  have hP : va_P D vwCl [(h0, .inr (7, [.ref c0])), (c0, .inl (k.1, 132, .inl (zF (cpZ g f 0 0 132)))), (h1, .inr (7, [.ref c1])), (c1, .inl (k.1, 132, .inl (zF g)))] H := hP
  have hD : va_D A [(h0, .inr (7, [.ref c0])), (c0, .inl (k.1, 132, .inl (zF (cpZ g f 0 0 132)))), (h1, .inr (7, [.ref c1])), (c1, .inl (k.1, 132, .inl (zF g)))] := hD
  exact W.vret hx hb hr (fun t ht hW => ⟨⟨(), rfl, trivial, by show va_P D vwCl _ _; rw [ht]; exact hP⟩, hS.F ht⟩) hS.2.2 dX7_copyFrom_8
