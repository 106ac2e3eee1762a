set_option maxHeartbeats 4000000 in
set_option maxRecDepth 100000 in
theorem c_hsize (l : Launch) (D : va_G) (k : Kt) (hh : Nat) (eo : Nat) (nx : Nat) (sz : Nat) : RO l D k yX3_size wsX3_size 0 0 [.ref hh] [(hh, .inr (3, [.ref eo, .int (zI ((nx : Nat) : Int)), .int (zI ((sz : Nat) : Int))]))] (fun r => r = zI ((sz : Nat) : Int)) := by
  refine Met.ofW (cc := cX3_size) (maxL := 1) (ret := (some .int)) (by decide) rfl ?_
  intro p e s m args below meth c s₁ Bd hml hv
  obtain ⟨rfl, hP, hK⟩ := hv
  have hx := Bd.exec
  have hb := Bd.bytes
  have hr := Bd.returns
  have hts := atoms_spec (ws := wsX3_size) Bd.pre
  have hown : s.vm.findClass RX3 = some m.cls := findClass_of_methodNamed Bd.named
  have hlocks := Bd.notSynchronized
  have hSf : CallFix p m c cX3_size 1 s ([.ref hh] : List Value).toArray wsX3_size RX3 := ⟨hx, hb, hml, hown, hts⟩
  have hinX3 : ∀ w ∈ u_ws RX3 TX3 3, w ∈ wsX3_size := by decide +kernel
  have fl18 := hts (.fieldLink RX3 18 "DotObjects$History" "size" "I") (by decide +kernel)
  have hl := lv_entry ([.ref hh]) (n := 1) (Nat.le_of_ble_eq_true rfl)
  rw [lg_entry_eq]
  generalize (lg_sl ([.ref hh]) ++ List.replicate (1 - (lg_sl ([.ref hh])).length) Slot.unset).toArray = ls at hl ⊢
  have hl : lv_has ls 1 [(0, .ref hh)] := hl
  refine lv_aload_n hx hb dX3_size_0 rfl (lv_at hl 0 rfl) ?_
  refine va_get (D := D) (ci := 3) (v := .int (zI ((sz : Nat) : Int))) (C := RX3) (T := TX3) (N := 3) hx hb hts hinX3 hown hK.1 hP 0 rfl rfl 2 (by decide) fl18 (fun _ h9 => h9) rfl dX3_size_1 ?_
  exact W.iret hx hb hr (fun t ht hW => ⟨_, rfl, rfl, ht⟩) (fun q hq => by cases hq) dX3_size_4
set_option maxHeartbeats 4000000 in
set_option maxRecDepth 100000 in
theorem c_hclear (l : Launch) (D : va_G) (k : Kt) (hh : Nat) (eo : Nat) (nx : Nat) (sz : Nat) : MU l D k yX3_clear wsX3_clear 0 0 [.ref hh] [(hh, .inr (3, [.ref eo, .int (zI ((nx : Nat) : Int)), .int (zI ((sz : Nat) : Int))]))] (fun (u : Unit) => True) (fun u => [(hh, .inr (3, [.ref eo, .int (zI ((nx : Nat) : Int)), .int (zI 0)]))]) := by
  refine Met.ofW (cc := cX3_clear) (maxL := 1) (ret := none) (by decide) rfl ?_
  intro p e s m args below meth c s₁ Bd hml hv
  obtain ⟨rfl, hP, hK, hD0⟩ := hv
  have hx := Bd.exec
  have hb := Bd.bytes
  have hr := Bd.returns
  have hts := atoms_spec (ws := wsX3_clear) Bd.pre
  have hown : s.vm.findClass RX3 = some m.cls := findClass_of_methodNamed Bd.named
  have hlocks := Bd.notSynchronized
  have hSf : CallFix p m c cX3_clear 1 s ([.ref hh] : List Value).toArray wsX3_clear RX3 := ⟨hx, hb, hml, hown, hts⟩
  have hD := fA_D hD0
  have hS : va_S (fA [(hh, .inr (3, [.ref eo, .int (zI ((nx : Nat) : Int)), .int (zI ((sz : Nat) : Int))]))]) s.heap s.heap [] := va_S.rf
  generalize hAe : fA [(hh, .inr (3, [.ref eo, .int (zI ((nx : Nat) : Int)), .int (zI ((sz : Nat) : Int))]))] = A at hD hS ⊢
  have hP : va_P D vwCl [(hh, .inr (3, [.ref eo, .int (zI ((nx : Nat) : Int)), .int (zI ((sz : Nat) : Int))]))] s.heap := hP
  have hinX3 : ∀ w ∈ u_ws RX3 TX3 3, w ∈ wsX3_clear := by decide +kernel
  have fl18 := hts (.fieldLink RX3 18 "DotObjects$History" "size" "I") (by decide +kernel)
  have hl := lv_entry ([.ref hh]) (n := 1) (Nat.le_of_ble_eq_true rfl)
  rw [lg_entry_eq]
  generalize (lg_sl ([.ref hh]) ++ List.replicate (1 - (lg_sl ([.ref hh])).length) Slot.unset).toArray = ls at hl ⊢
  have hl : lv_has ls 1 [(0, .ref hh)] := hl
  refine lv_aload_n hx hb dX3_clear_0 rfl (lv_at hl 0 rfl) ?_
  refine z_iconst hx hb dX3_clear_1 ?_
  refine va_put (D := D) (ci := 3) (v := .int (zI 0)) (ty := .int) (C := RX3) (T := TX3) (N := 3) hx hb hts hinX3 tyX3 tyX3_ok nmX3 hown hK.1 hP hD hS 0 rfl rfl 2 (by decide) fl18 (fun _ h9 => h9) rfl (by decide +kernel) rfl rfl (Nat.le_of_ble_eq_true rfl) dX3_clear_2 (fun H locs hP hD hS => ?_)
  have hP : va_P D vwCl [(hh, .inr (3, [.ref eo, .int (zI ((nx : Nat) : Int)), .int (zI 0)]))] H := hP
  have hD : va_D A [(hh, .inr (3, [.ref eo, .int (zI ((nx : Nat) : Int)), .int (zI 0)]))] := hD
  exact W.vret hx hb hr (fun t ht hW => ⟨⟨(), rfl, trivial, by show va_P D vwCl _ _; rw [ht]; exact hP⟩, hS.F ht⟩) hS.2.2 dX3_clear_5
set_option maxHeartbeats 4000000 in
set_option maxRecDepth 100000 in
theorem c_remember (l : Launch) (D : va_G) (k : Kt) (h0 : Nat) (c0 : Nat) (f : St) (hh : Nat) (eo : Nat) (r : Nat → Nat) (nx : Nat) (sz : Nat) (E : Nat → St) (hnx : nx < 20) (hsz : sz ≤ 20) : MU l D k yX3_remember wsX3_remember 2 61 [.ref hh, .ref h0] ([(h0, .inr (7, [.ref c0])), (c0, .inl (k.1, 132, .inl (zF f))), (hh, .inr (3, [.ref eo, .int (zI ((nx : Nat) : Int)), .int (zI ((sz : Nat) : Int))])), (eo, .inl (k.2.2.2, 20, .inr (.inr (.inr (.inr (eoF r))))))] ++ rowsW k r E) (fun (u : Unit) => True) (fun u => ([(h0, .inr (7, [.ref c0])), (c0, .inl (k.1, 132, .inl (zF f))), (hh, .inr (3, [.ref eo, .int (zI (((nx + 1) % 20 : Nat) : Int)), .int (zI ((min (sz + 1) 20 : Nat) : Int))])), (eo, .inl (k.2.2.2, 20, .inr (.inr (.inr (.inr (eoF r))))))] ++ rowsW k r (upE E nx (cpZ f (E nx) 0 0 132)))) := by
  refine Met.ofW (cc := cX3_remember) (maxL := 2) (ret := none) (by decide) rfl ?_
  intro p e s m args below meth c s₁ Bd hml hv
  obtain ⟨rfl, hP, hK, hD0⟩ := hv
  have hx := Bd.exec
  have hb := Bd.bytes
  have hr := Bd.returns
  have hts := atoms_spec (ws := wsX3_remember) Bd.pre
  have hown : s.vm.findClass RX3 = some m.cls := findClass_of_methodNamed Bd.named
  have hlocks := Bd.notSynchronized
  have hSf : CallFix p m c cX3_remember 2 s ([.ref hh, .ref h0] : List Value).toArray wsX3_remember RX3 := ⟨hx, hb, hml, hown, hts⟩
  have hD := fA_D hD0
  have hS : va_S (fA ([(h0, .inr (7, [.ref c0])), (c0, .inl (k.1, 132, .inl (zF f))), (hh, .inr (3, [.ref eo, .int (zI ((nx : Nat) : Int)), .int (zI ((sz : Nat) : Int))])), (eo, .inl (k.2.2.2, 20, .inr (.inr (.inr (.inr (eoF r))))))] ++ rowsW k r E)) s.heap s.heap [] := va_S.rf
  generalize hAe : fA ([(h0, .inr (7, [.ref c0])), (c0, .inl (k.1, 132, .inl (zF f))), (hh, .inr (3, [.ref eo, .int (zI ((nx : Nat) : Int)), .int (zI ((sz : Nat) : Int))])), (eo, .inl (k.2.2.2, 20, .inr (.inr (.inr (.inr (eoF r))))))] ++ rowsW k r E) = A at hD hS ⊢
  have hP : va_P D vwCl ([(h0, .inr (7, [.ref c0])), (c0, .inl (k.1, 132, .inl (zF f))), (hh, .inr (3, [.ref eo, .int (zI ((nx : Nat) : Int)), .int (zI ((sz : Nat) : Int))])), (eo, .inl (k.2.2.2, 20, .inr (.inr (.inr (.inr (eoF r))))))] ++ rowsW k r E) s.heap := hP
  have hinX3 : ∀ w ∈ u_ws RX3 TX3 3, w ∈ wsX3_remember := by decide +kernel
  have fl13 := hts (.fieldLink RX3 13 "DotObjects$History" "earlier" "[[I") (by decide +kernel)
  have fl22 := hts (.fieldLink RX3 22 "DotObjects$History" "next" "I") (by decide +kernel)
  have fl18 := hts (.fieldLink RX3 18 "DotObjects$History" "size" "I") (by decide +kernel)
  have hmmin := And.intro (hts (.methodLink RX3 29 Lib.Math.min.name) (by decide +kernel)) (And.intro (hts (.static Lib.Math.min.name) (by decide +kernel)) (And.intro (hts (.initialized "java/lang/Math") (by decide +kernel)) (hts (.code Lib.Math.min.name Lib.Math.min.code 2 (some .int)) (by decide +kernel))))
  have hl := lv_entry ([.ref hh, .ref h0]) (n := 2) (Nat.le_of_ble_eq_true rfl)
  rw [lg_entry_eq]
  generalize (lg_sl ([.ref hh, .ref h0]) ++ List.replicate (2 - (lg_sl ([.ref hh, .ref h0])).length) Slot.unset).toArray = ls at hl ⊢
  have hl : lv_has ls 2 [(0, .ref hh), (1, .ref h0)] := hl
  refine lv_aload_n hx hb dX3_remember_0 rfl (lv_at hl 1 rfl) ?_
  refine lv_aload_n hx hb dX3_remember_1 rfl (lv_at hl 0 rfl) ?_
  refine va_get (D := D) (ci := 3) (v := .ref eo) (C := RX3) (T := TX3) (N := 3) hx hb hts hinX3 hown hK.1 hP 2 rfl rfl 0 (by decide) fl13 (fun _ h9 => h9) rfl dX3_remember_2 ?_
  refine lv_aload_n hx hb dX3_remember_5 rfl (lv_at hl 0 rfl) ?_
  refine va_get (D := D) (ci := 3) (v := .int (zI ((nx : Nat) : Int))) (C := RX3) (T := TX3) (N := 3) hx hb hts hinX3 hown hK.1 hP 2 rfl rfl 1 (by decide) fl22 (fun _ h9 => h9) rfl dX3_remember_6 ?_
  refine z_aald hx hb hK hP 3 rfl (nx) (by omega) (by omega) (Nat.le_of_ble_eq_true rfl) (if_pos hnx) dX3_remember_9 ?_
  refine muV (n := 1) (As := [.ref (r nx)]) (rest := []) hSf (c_saveTo l D k h0 c0 f (r nx) (E nx)) gX3_remember_X7_saveTo rfl (by decide +kernel) ⟨Nat.le_of_ble_eq_true rfl, Nat.le_of_ble_eq_true rfl⟩ hK hP hD hS [0, 1, nx + 4] (rh_hs (by omega)) (rh_hC (by omega)) (rh_nd _) (fun _ => rfl) (fun _ => rh_ha (by omega) rfl rfl) 0 rfl rfl rfl hl.1 rfl (Nat.le_of_ble_eq_true rfl) dX3_remember_10 ⟨Nat.zero_le _, Nat.zero_le _⟩ (fun u_10 H locs h_10 hP hD hS => ?_)
  rw [rh_sA (by omega)] at hP hD
  have hP : va_P D vwCl ([(h0, .inr (7, [.ref c0])), (c0, .inl (k.1, 132, .inl (zF f))), (hh, .inr (3, [.ref eo, .int (zI ((nx : Nat) : Int)), .int (zI ((sz : Nat) : Int))])), (eo, .inl (k.2.2.2, 20, .inr (.inr (.inr (.inr (eoF r))))))] ++ rowsW k r (upE E nx (cpZ f (E nx) 0 0 132))) H := hP
  have hD : va_D A ([(h0, .inr (7, [.ref c0])), (c0, .inl (k.1, 132, .inl (zF f))), (hh, .inr (3, [.ref eo, .int (zI ((nx : Nat) : Int)), .int (zI ((sz : Nat) : Int))])), (eo, .inl (k.2.2.2, 20, .inr (.inr (.inr (.inr (eoF r))))))] ++ rowsW k r (upE E nx (cpZ f (E nx) 0 0 132))) := hD
  refine lv_aload_n hx hb dX3_remember_13 rfl (lv_at hl 0 rfl) ?_
  refine lv_aload_n hx hb dX3_remember_14 rfl (lv_at hl 0 rfl) ?_
  refine va_get (D := D) (ci := 3) (v := .int (zI ((nx : Nat) : Int))) (C := RX3) (T := TX3) (N := 3) hx hb hts hinX3 hown hK.1 hP 2 rfl rfl 1 (by decide) fl22 (fun _ h9 => h9) rfl dX3_remember_15 ?_
  refine z_iconst hx hb dX3_remember_18 ?_
  refine z_iadd hx hb dX3_remember_19 ?_
  refine z_bipush hx hb dX3_remember_20 (by decide +kernel) ?_
  refine z_irem hx hb dX3_remember_22 (by omega) (by omega) ?_
  refine te (zc (show (((nx : Nat) : Int) + 1) % 20 = (((nx + 1) % 20 : Nat) : Int) from by omega)) ?_
  refine va_put (D := D) (ci := 3) (v := .int (zI (((nx + 1) % 20 : Nat) : Int))) (ty := .int) (C := RX3) (T := TX3) (N := 3) hx hb hts hinX3 tyX3 tyX3_ok nmX3 hown hK.1 hP hD hS 2 rfl rfl 1 (by decide) fl22 (fun _ h9 => h9) rfl (by decide +kernel) rfl rfl (Nat.le_of_ble_eq_true rfl) dX3_remember_23 (fun H locs hP hD hS => ?_)
  have hP : va_P D vwCl ([(h0, .inr (7, [.ref c0])), (c0, .inl (k.1, 132, .inl (zF f))), (hh, .inr (3, [.ref eo, .int (zI (((nx + 1) % 20 : Nat) : Int)), .int (zI ((sz : Nat) : Int))])), (eo, .inl (k.2.2.2, 20, .inr (.inr (.inr (.inr (eoF r))))))] ++ rowsW k r (upE E nx (cpZ f (E nx) 0 0 132))) H := hP
  have hD : va_D A ([(h0, .inr (7, [.ref c0])), (c0, .inl (k.1, 132, .inl (zF f))), (hh, .inr (3, [.ref eo, .int (zI (((nx + 1) % 20 : Nat) : Int)), .int (zI ((sz : Nat) : Int))])), (eo, .inl (k.2.2.2, 20, .inr (.inr (.inr (.inr (eoF r))))))] ++ rowsW k r (upE E nx (cpZ f (E nx) 0 0 132))) := hD
  refine lv_aload_n hx hb dX3_remember_26 rfl (lv_at hl 0 rfl) ?_
  refine lv_aload_n hx hb dX3_remember_27 rfl (lv_at hl 0 rfl) ?_
  refine va_get (D := D) (ci := 3) (v := .int (zI ((sz : Nat) : Int))) (C := RX3) (T := TX3) (N := 3) hx hb hts hinX3 hown hK.1 hP 2 rfl rfl 2 (by decide) fl18 (fun _ h9 => h9) rfl dX3_remember_28 ?_
  refine z_iconst hx hb dX3_remember_31 ?_
  refine z_iadd hx hb dX3_remember_32 ?_
  refine z_bipush hx hb dX3_remember_33 (by decide +kernel) ?_
  refine va_mmin hx hb (hml.trans hl.1.symm) hown hmmin.1 hmmin.2.1 hmmin.2.2.1 hmmin.2.2.2 (Nat.le_of_ble_eq_true rfl) (Nat.le_of_ble_eq_true rfl) (Nat.zero_le _) (Nat.zero_le _) dX3_remember_35 ?_
  refine te (zI_min (by omega) (by omega)) ?_
  refine te (zc (show min (((sz : Nat) : Int) + 1) 20 = ((min (sz + 1) 20 : Nat) : Int) from by omega)) ?_
  refine va_put (D := D) (ci := 3) (v := .int (zI ((min (sz + 1) 20 : Nat) : Int))) (ty := .int) (C := RX3) (T := TX3) (N := 3) hx hb hts hinX3 tyX3 tyX3_ok nmX3 hown hK.1 hP hD hS 2 rfl rfl 2 (by decide) fl18 (fun _ h9 => h9) rfl (by decide +kernel) rfl rfl (Nat.le_of_ble_eq_true rfl) dX3_remember_38 (fun H locs hP hD hS => ?_)
  have hP : va_P D vwCl ([(h0, .inr (7, [.ref c0])), (c0, .inl (k.1, 132, .inl (zF f))), (hh, .inr (3, [.ref eo, .int (zI (((nx + 1) % 20 : Nat) : Int)), .int (zI ((min (sz + 1) 20 : Nat) : Int))])), (eo, .inl (k.2.2.2, 20, .inr (.inr (.inr (.inr (eoF r))))))] ++ rowsW k r (upE E nx (cpZ f (E nx) 0 0 132))) H := hP
  have hD : va_D A ([(h0, .inr (7, [.ref c0])), (c0, .inl (k.1, 132, .inl (zF f))), (hh, .inr (3, [.ref eo, .int (zI (((nx + 1) % 20 : Nat) : Int)), .int (zI ((min (sz + 1) 20 : Nat) : Int))])), (eo, .inl (k.2.2.2, 20, .inr (.inr (.inr (.inr (eoF r))))))] ++ rowsW k r (upE E nx (cpZ f (E nx) 0 0 132))) := hD
  exact W.vret hx hb hr (fun t ht hW => ⟨⟨(), rfl, trivial, by show va_P D vwCl _ _; rw [ht]; exact hP⟩, hS.F ht⟩) hS.2.2 dX3_remember_41
set_option maxHeartbeats 4000000 in
set_option maxRecDepth 100000 in
theorem c_bringBack (l : Launch) (D : va_G) (k : Kt) (h0 : Nat) (c0 : Nat) (f : St) (hh : Nat) (eo : Nat) (r : Nat → Nat) (nx : Nat) (sz : Nat) (E : Nat → St) (n1 : Nat) (hnx : nx < 20) (hsz : sz ≤ 20) (hn1 : n1 ≤ sz) : MU l D k yX3_bringBack wsX3_bringBack 2 61 [.ref hh, .ref h0, .int (zI ((n1 : Nat) : Int))] ([(h0, .inr (7, [.ref c0])), (c0, .inl (k.1, 132, .inl (zF f))), (hh, .inr (3, [.ref eo, .int (zI ((nx : Nat) : Int)), .int (zI ((sz : Nat) : Int))])), (eo, .inl (k.2.2.2, 20, .inr (.inr (.inr (.inr (eoF r))))))] ++ rowsW k r E) (fun (u : Unit) => True) (fun u => ([(h0, .inr (7, [.ref c0])), (c0, .inl (k.1, 132, .inl (zF (cpZ (E ((nx + 20 - n1) % 20)) f 0 0 132)))), (hh, .inr (3, [.ref eo, .int (zI (((nx + 20 - n1) % 20 : Nat) : Int)), .int (zI ((sz - n1 : Nat) : Int))])), (eo, .inl (k.2.2.2, 20, .inr (.inr (.inr (.inr (eoF r))))))] ++ rowsW k r E)) := by
  refine Met.ofW (cc := cX3_bringBack) (maxL := 3) (ret := none) (by decide) rfl ?_
  intro p e s m args below meth c s₁ Bd hml hv
  obtain ⟨rfl, hP, hK, hD0⟩ := hv
  have hx := Bd.exec
  have hb := Bd.bytes
  have hr := Bd.returns
  have hts := atoms_spec (ws := wsX3_bringBack) Bd.pre
  have hown : s.vm.findClass RX3 = some m.cls := findClass_of_methodNamed Bd.named
  have hlocks := Bd.notSynchronized
  have hSf : CallFix p m c cX3_bringBack 3 s ([.ref hh, .ref h0, .int (zI ((n1 : Nat) : Int))] : List Value).toArray wsX3_bringBack RX3 := ⟨hx, hb, hml, hown, hts⟩
  have hD := fA_D hD0
  have hS : va_S (fA ([(h0, .inr (7, [.ref c0])), (c0, .inl (k.1, 132, .inl (zF f))), (hh, .inr (3, [.ref eo, .int (zI ((nx : Nat) : Int)), .int (zI ((sz : Nat) : Int))])), (eo, .inl (k.2.2.2, 20, .inr (.inr (.inr (.inr (eoF r))))))] ++ rowsW k r E)) s.heap s.heap [] := va_S.rf
  generalize hAe : fA ([(h0, .inr (7, [.ref c0])), (c0, .inl (k.1, 132, .inl (zF f))), (hh, .inr (3, [.ref eo, .int (zI ((nx : Nat) : Int)), .int (zI ((sz : Nat) : Int))])), (eo, .inl (k.2.2.2, 20, .inr (.inr (.inr (.inr (eoF r))))))] ++ rowsW k r E) = A at hD hS ⊢
  have hP : va_P D vwCl ([(h0, .inr (7, [.ref c0])), (c0, .inl (k.1, 132, .inl (zF f))), (hh, .inr (3, [.ref eo, .int (zI ((nx : Nat) : Int)), .int (zI ((sz : Nat) : Int))])), (eo, .inl (k.2.2.2, 20, .inr (.inr (.inr (.inr (eoF r))))))] ++ rowsW k r E) s.heap := hP
  have hinX3 : ∀ w ∈ u_ws RX3 TX3 3, w ∈ wsX3_bringBack := by decide +kernel
  have fl22 := hts (.fieldLink RX3 22 "DotObjects$History" "next" "I") (by decide +kernel)
  have fl18 := hts (.fieldLink RX3 18 "DotObjects$History" "size" "I") (by decide +kernel)
  have fl13 := hts (.fieldLink RX3 13 "DotObjects$History" "earlier" "[[I") (by decide +kernel)
  have hl := lv_entry ([.ref hh, .ref h0, .int (zI ((n1 : Nat) : Int))]) (n := 3) (Nat.le_of_ble_eq_true rfl)
  rw [lg_entry_eq]
  generalize (lg_sl ([.ref hh, .ref h0, .int (zI ((n1 : Nat) : Int))]) ++ List.replicate (3 - (lg_sl ([.ref hh, .ref h0, .int (zI ((n1 : Nat) : Int))])).length) Slot.unset).toArray = ls at hl ⊢
  have hl : lv_has ls 3 [(0, .ref hh), (1, .ref h0), (2, .int (zI ((n1 : Nat) : Int)))] := hl
  refine lv_aload_n hx hb dX3_bringBack_0 rfl (lv_at hl 0 rfl) ?_
  refine lv_aload_n hx hb dX3_bringBack_1 rfl (lv_at hl 0 rfl) ?_
  refine va_get (D := D) (ci := 3) (v := .int (zI ((nx : Nat) : Int))) (C := RX3) (T := TX3) (N := 3) hx hb hts hinX3 hown hK.1 hP 2 rfl rfl 1 (by decide) fl22 (fun _ h9 => h9) rfl dX3_bringBack_2 ?_
  refine lv_iload_n hx hb dX3_bringBack_5 rfl (lv_at hl 2 rfl) ?_
  refine z_isub hx hb dX3_bringBack_6 ?_
  refine z_bipush hx hb dX3_bringBack_7 (by decide +kernel) ?_
  refine roS (n := 2) (As := [.int (zI (((nx : Nat) : Int) - ((n1 : Nat) : Int))), .int (zI 20)]) (rest := [.ref hh]) hSf (c_floorMod l D k (((nx : Nat) : Int) - ((n1 : Nat) : Int)) 20 (by omega) (by omega)) gX3_bringBack_J9_floorMod_7cf53 rfl (by decide +kernel) ⟨Nat.le_of_ble_eq_true rfl, Nat.le_of_ble_eq_true rfl⟩ hK hP [] rfl rfl hl.1 rfl (Nat.le_of_ble_eq_true rfl) dX3_bringBack_9 ⟨Nat.zero_le _, Nat.zero_le _⟩ (fun r_9 h_9 => ?_)
  subst h_9
  refine te (zc (show (((nx : Nat) : Int) - ((n1 : Nat) : Int)) % 20 = (((nx + 20 - n1) % 20 : Nat) : Int) from by omega)) ?_
  refine va_put (D := D) (ci := 3) (v := .int (zI (((nx + 20 - n1) % 20 : Nat) : Int))) (ty := .int) (C := RX3) (T := TX3) (N := 3) hx hb hts hinX3 tyX3 tyX3_ok nmX3 hown hK.1 hP hD hS 2 rfl rfl 1 (by decide) fl22 (fun _ h9 => h9) rfl (by decide +kernel) rfl rfl (Nat.le_of_ble_eq_true rfl) dX3_bringBack_12 (fun H locs hP hD hS => ?_)
  have hP : va_P D vwCl ([(h0, .inr (7, [.ref c0])), (c0, .inl (k.1, 132, .inl (zF f))), (hh, .inr (3, [.ref eo, .int (zI (((nx + 20 - n1) % 20 : Nat) : Int)), .int (zI ((sz : Nat) : Int))])), (eo, .inl (k.2.2.2, 20, .inr (.inr (.inr (.inr (eoF r))))))] ++ rowsW k r E) H := hP
  have hD : va_D A ([(h0, .inr (7, [.ref c0])), (c0, .inl (k.1, 132, .inl (zF f))), (hh, .inr (3, [.ref eo, .int (zI (((nx + 20 - n1) % 20 : Nat) : Int)), .int (zI ((sz : Nat) : Int))])), (eo, .inl (k.2.2.2, 20, .inr (.inr (.inr (.inr (eoF r))))))] ++ rowsW k r E) := hD
  refine lv_aload_n hx hb dX3_bringBack_15 rfl (lv_at hl 0 rfl) ?_
  refine lv_dup hx hb dX3_bringBack_16 rfl ?_
  refine va_get (D := D) (ci := 3) (v := .int (zI ((sz : Nat) : Int))) (C := RX3) (T := TX3) (N := 3) hx hb hts hinX3 hown hK.1 hP 2 rfl rfl 2 (by decide) fl18 (fun _ h9 => h9) rfl dX3_bringBack_17 ?_
  refine lv_iload_n hx hb dX3_bringBack_20 rfl (lv_at hl 2 rfl) ?_
  refine z_isub hx hb dX3_bringBack_21 ?_
  refine te (zc (show ((sz : Nat) : Int) - ((n1 : Nat) : Int) = ((sz - n1 : Nat) : Int) from by omega)) ?_
  refine va_put (D := D) (ci := 3) (v := .int (zI ((sz - n1 : Nat) : Int))) (ty := .int) (C := RX3) (T := TX3) (N := 3) hx hb hts hinX3 tyX3 tyX3_ok nmX3 hown hK.1 hP hD hS 2 rfl rfl 2 (by decide) fl18 (fun _ h9 => h9) rfl (by decide +kernel) rfl rfl (Nat.le_of_ble_eq_true rfl) dX3_bringBack_22 (fun H locs hP hD hS => ?_)
  have hP : va_P D vwCl ([(h0, .inr (7, [.ref c0])), (c0, .inl (k.1, 132, .inl (zF f))), (hh, .inr (3, [.ref eo, .int (zI (((nx + 20 - n1) % 20 : Nat) : Int)), .int (zI ((sz - n1 : Nat) : Int))])), (eo, .inl (k.2.2.2, 20, .inr (.inr (.inr (.inr (eoF r))))))] ++ rowsW k r E) H := hP
  have hD : va_D A ([(h0, .inr (7, [.ref c0])), (c0, .inl (k.1, 132, .inl (zF f))), (hh, .inr (3, [.ref eo, .int (zI (((nx + 20 - n1) % 20 : Nat) : Int)), .int (zI ((sz - n1 : Nat) : Int))])), (eo, .inl (k.2.2.2, 20, .inr (.inr (.inr (.inr (eoF r))))))] ++ rowsW k r E) := hD
  refine lv_aload_n hx hb dX3_bringBack_25 rfl (lv_at hl 1 rfl) ?_
  refine lv_aload_n hx hb dX3_bringBack_26 rfl (lv_at hl 0 rfl) ?_
  refine va_get (D := D) (ci := 3) (v := .ref eo) (C := RX3) (T := TX3) (N := 3) hx hb hts hinX3 hown hK.1 hP 2 rfl rfl 0 (by decide) fl13 (fun _ h9 => h9) rfl dX3_bringBack_27 ?_
  refine lv_aload_n hx hb dX3_bringBack_30 rfl (lv_at hl 0 rfl) ?_
  refine va_get (D := D) (ci := 3) (v := .int (zI (((nx + 20 - n1) % 20 : Nat) : Int))) (C := RX3) (T := TX3) (N := 3) hx hb hts hinX3 hown hK.1 hP 2 rfl rfl 1 (by decide) fl22 (fun _ h9 => h9) rfl dX3_bringBack_31 ?_
  refine z_aald hx hb hK hP 3 rfl ((nx + 20 - n1) % 20) (by omega) (by omega) (Nat.le_of_ble_eq_true rfl) (if_pos (by omega)) dX3_bringBack_34 ?_
  refine muV (n := 1) (As := [.ref (r ((nx + 20 - n1) % 20))]) (rest := []) hSf (c_loadFrom l D k h0 c0 f (r ((nx + 20 - n1) % 20)) (E ((nx + 20 - n1) % 20))) gX3_bringBack_X7_loadFrom rfl (by decide +kernel) ⟨Nat.le_of_ble_eq_true rfl, Nat.le_of_ble_eq_true rfl⟩ hK hP hD hS [0, 1, ((nx + 20 - n1) % 20) + 4] (rh_hs (by omega)) (rh_hC (by omega)) (rh_nd _) (fun _ => rfl) (fun _ => rh_ha (by omega) rfl rfl) 0 rfl rfl rfl hl.1 rfl (Nat.le_of_ble_eq_true rfl) dX3_bringBack_35 ⟨Nat.zero_le _, Nat.zero_le _⟩ (fun u_35 H locs h_35 hP hD hS => ?_)
  rw [rh_sA (by omega)] at hP hD
  have hP : va_P D vwCl ([(h0, .inr (7, [.ref c0])), (c0, .inl (k.1, 132, .inl (zF (cpZ (E ((nx + 20 - n1) % 20)) f 0 0 132)))), (hh, .inr (3, [.ref eo, .int (zI (((nx + 20 - n1) % 20 : Nat) : Int)), .int (zI ((sz - n1 : Nat) : Int))])), (eo, .inl (k.2.2.2, 20, .inr (.inr (.inr (.inr (eoF r))))))] ++ rowsW k r (upE E ((nx + 20 - n1) % 20) (E ((nx + 20 - n1) % 20)))) H := hP
  have hD : va_D A ([(h0, .inr (7, [.ref c0])), (c0, .inl (k.1, 132, .inl (zF (cpZ (E ((nx + 20 - n1) % 20)) f 0 0 132)))), (hh, .inr (3, [.ref eo, .int (zI (((nx + 20 - n1) % 20 : Nat) : Int)), .int (zI ((sz - n1 : Nat) : Int))])), (eo, .inl (k.2.2.2, 20, .inr (.inr (.inr (.inr (eoF r))))))] ++ rowsW k r (upE E ((nx + 20 - n1) % 20) (E ((nx + 20 - n1) % 20)))) := hD
  rw [upE_id] at hP
  exact W.vret hx hb hr (fun t ht hW => ⟨⟨(), rfl, trivial, by show va_P D vwCl _ _; rw [ht]; exact hP⟩, hS.F ht⟩) hS.2.2 dX3_bringBack_38
