set_option maxHeartbeats 4000000 in
set_option maxRecDepth 100000 in
theorem c_isPicture (l : Launch) (D : va_G) (k : Kt) (v1 : Int) (hv1 : -2147483648 ≤ v1 ∧ v1 < 2147483648) : RO l D k yX9_isPicture wsX9_isPicture 1 22 [.int (zI v1)] [] (fun r => r = zI (b2i (decide (0 ≤ v1) && decide (v1 ≤ 3)))) := by
  refine Met.ofW (cc := cX9_isPicture) (maxL := 1) (ret := (some .boolean)) (by decide) rfl ?_
  intro p e s m args below meth c s₁ Bd hml hv
  obtain ⟨rfl, hP, hK⟩ := hv
  have hx := Bd.exec
  have hb := Bd.bytes
  have hr := Bd.returns
  have hts := atoms_spec (ws := wsX9_isPicture) Bd.pre
  have hown : s.vm.findClass RX9 = some m.cls := findClass_of_methodNamed Bd.named
  have hlocks := Bd.notSynchronized
  have hSf : CallFix p m c cX9_isPicture 1 s ([.int (zI v1)] : List Value).toArray wsX9_isPicture RX9 := ⟨hx, hb, hml, hown, hts⟩
  have hl := lv_entry ([.int (zI v1)]) (n := 1) (Nat.le_of_ble_eq_true rfl)
  rw [lg_entry_eq]
  generalize (lg_sl ([.int (zI v1)]) ++ List.replicate (1 - (lg_sl ([.int (zI v1)])).length) Slot.unset).toArray = ls at hl ⊢
  have hl : lv_has ls 1 [(0, .int (zI v1))] := hl
  refine lv_iload_n hx hb dX9_isPicture_0 rfl (lv_at hl 0 rfl) ?_
  refine z_iconst hx hb dX9_isPicture_1 ?_
  refine z_iconst hx hb dX9_isPicture_2 ?_
  refine roS (n := 3) (As := [.int (zI v1), .int (zI 0), .int (zI 3)]) (rest := []) hSf (c_isWithin l D k v1 0 3 (by omega) (by omega) (by omega)) gX9_isPicture_X9_isWithin rfl (by decide +kernel) ⟨Nat.le_of_ble_eq_true rfl, Nat.le_of_ble_eq_true rfl⟩ hK hP [] rfl rfl hl.1 rfl (Nat.le_of_ble_eq_true rfl) dX9_isPicture_3 ⟨Nat.zero_le _, Nat.zero_le _⟩ (fun r_3 h_3 => ?_)
  subst h_3
  exact W.zret hx hb hr (nbb _) (fun t ht hW => ⟨_, rfl, rfl, ht⟩) (fun q hq => by cases hq) dX9_isPicture_6
set_option maxHeartbeats 4000000 in
set_option maxRecDepth 100000 in
theorem c_isImage (l : Launch) (D : va_G) (k : Kt) (v1 : Int) (hv1 : -2147483648 ≤ v1 ∧ v1 < 2147483648) : RO l D k yX9_isImage wsX9_isImage 1 22 [.int (zI v1)] [] (fun r => r = zI (b2i (decide (0 ≤ v1) && decide (v1 ≤ 1)))) := by
  refine Met.ofW (cc := cX9_isImage) (maxL := 1) (ret := (some .boolean)) (by decide) rfl ?_
  intro p e s m args below meth c s₁ Bd hml hv
  obtain ⟨rfl, hP, hK⟩ := hv
  have hx := Bd.exec
  have hb := Bd.bytes
  have hr := Bd.returns
  have hts := atoms_spec (ws := wsX9_isImage) Bd.pre
  have hown : s.vm.findClass RX9 = some m.cls := findClass_of_methodNamed Bd.named
  have hlocks := Bd.notSynchronized
  have hSf : CallFix p m c cX9_isImage 1 s ([.int (zI v1)] : List Value).toArray wsX9_isImage RX9 := ⟨hx, hb, hml, hown, hts⟩
  have hl := lv_entry ([.int (zI v1)]) (n := 1) (Nat.le_of_ble_eq_true rfl)
  rw [lg_entry_eq]
  generalize (lg_sl ([.int (zI v1)]) ++ List.replicate (1 - (lg_sl ([.int (zI v1)])).length) Slot.unset).toArray = ls at hl ⊢
  have hl : lv_has ls 1 [(0, .int (zI v1))] := hl
  refine lv_iload_n hx hb dX9_isImage_0 rfl (lv_at hl 0 rfl) ?_
  refine z_iconst hx hb dX9_isImage_1 ?_
  refine z_iconst hx hb dX9_isImage_2 ?_
  refine roS (n := 3) (As := [.int (zI v1), .int (zI 0), .int (zI 1)]) (rest := []) hSf (c_isWithin l D k v1 0 1 (by omega) (by omega) (by omega)) gX9_isImage_X9_isWithin rfl (by decide +kernel) ⟨Nat.le_of_ble_eq_true rfl, Nat.le_of_ble_eq_true rfl⟩ hK hP [] rfl rfl hl.1 rfl (Nat.le_of_ble_eq_true rfl) dX9_isImage_3 ⟨Nat.zero_le _, Nat.zero_le _⟩ (fun r_3 h_3 => ?_)
  subst h_3
  exact W.zret hx hb hr (nbb _) (fun t ht hW => ⟨_, rfl, rfl, ht⟩) (fun q hq => by cases hq) dX9_isImage_6
set_option maxHeartbeats 4000000 in
set_option maxRecDepth 100000 in
theorem c_isDot (l : Launch) (D : va_G) (k : Kt) (v1 : Int) (v2 : Int) (hv1 : -2147483648 ≤ v1 ∧ v1 < 2147483648) (hv2 : -2147483648 ≤ v2 ∧ v2 < 2147483648) : RO l D k yX9_isDot wsX9_isDot 1 22 [.int (zI v1), .int (zI v2)] [] (fun r => r = zI (b2i ((decide (0 ≤ v1) && decide (v1 ≤ 23)) && (decide (0 ≤ v2) && decide (v2 ≤ 31))))) := by
  refine Met.ofW (cc := cX9_isDot) (maxL := 2) (ret := (some .boolean)) (by decide) rfl ?_
  intro p e s m args below meth c s₁ Bd hml hv
  obtain ⟨rfl, hP, hK⟩ := hv
  have hx := Bd.exec
  have hb := Bd.bytes
  have hr := Bd.returns
  have hts := atoms_spec (ws := wsX9_isDot) Bd.pre
  have hown : s.vm.findClass RX9 = some m.cls := findClass_of_methodNamed Bd.named
  have hlocks := Bd.notSynchronized
  have hSf : CallFix p m c cX9_isDot 2 s ([.int (zI v1), .int (zI v2)] : List Value).toArray wsX9_isDot RX9 := ⟨hx, hb, hml, hown, hts⟩
  have hl := lv_entry ([.int (zI v1), .int (zI v2)]) (n := 2) (Nat.le_of_ble_eq_true rfl)
  rw [lg_entry_eq]
  generalize (lg_sl ([.int (zI v1), .int (zI v2)]) ++ List.replicate (2 - (lg_sl ([.int (zI v1), .int (zI v2)])).length) Slot.unset).toArray = ls at hl ⊢
  have hl : lv_has ls 2 [(0, .int (zI v1)), (1, .int (zI v2))] := hl
  refine lv_iload_n hx hb dX9_isDot_0 rfl (lv_at hl 0 rfl) ?_
  refine z_iconst hx hb dX9_isDot_1 ?_
  refine z_bipush hx hb dX9_isDot_2 (by decide +kernel) ?_
  refine roS (n := 3) (As := [.int (zI v1), .int (zI 0), .int (zI 23)]) (rest := []) hSf (c_isWithin l D k v1 0 23 (by omega) (by omega) (by omega)) gX9_isDot_X9_isWithin rfl (by decide +kernel) ⟨Nat.le_of_ble_eq_true rfl, Nat.le_of_ble_eq_true rfl⟩ hK hP [] rfl rfl hl.1 rfl (Nat.le_of_ble_eq_true rfl) dX9_isDot_4 ⟨Nat.zero_le _, Nat.zero_le _⟩ (fun r_4 h_4 => ?_)
  subst h_4
  refine z_if_eqb (tgt := 24) hx hb dX9_isDot_7 (by decide) (fun c_7 => ?_) (fun c_7 => ?_)
  · refine z_iconst hx hb dX9_isDot_24 ?_
    exact W.zret hx hb hr (by decide +kernel) (fun t ht hW => ⟨_, rfl, zc (by rw [c_7]; rfl), ht⟩) (fun q hq => by cases hq) dX9_isDot_25
  · refine lv_iload_n hx hb dX9_isDot_10 rfl (lv_at hl 1 rfl) ?_
    refine z_iconst hx hb dX9_isDot_11 ?_
    refine z_bipush hx hb dX9_isDot_12 (by decide +kernel) ?_
    refine roS (n := 3) (As := [.int (zI v2), .int (zI 0), .int (zI 31)]) (rest := []) hSf (c_isWithin l D k v2 0 31 (by omega) (by omega) (by omega)) gX9_isDot_X9_isWithin rfl (by decide +kernel) ⟨Nat.le_of_ble_eq_true rfl, Nat.le_of_ble_eq_true rfl⟩ hK hP [] rfl rfl hl.1 rfl (Nat.le_of_ble_eq_true rfl) dX9_isDot_14 ⟨Nat.zero_le _, Nat.zero_le _⟩ (fun r_14 h_14 => ?_)
    subst h_14
    refine z_if_eqb (tgt := 24) hx hb dX9_isDot_17 (by decide) (fun c_17 => ?_) (fun c_17 => ?_)
    · refine z_iconst hx hb dX9_isDot_24 ?_
      exact W.zret hx hb hr (by decide +kernel) (fun t ht hW => ⟨_, rfl, zc (by rw [c_7, c_17]; rfl), ht⟩) (fun q hq => by cases hq) dX9_isDot_25
    · refine z_iconst hx hb dX9_isDot_20 ?_
      refine lv_goto (tgt := 25) hx hb dX9_isDot_21 (by decide) ?_
      exact W.zret hx hb hr (by decide +kernel) (fun t ht hW => ⟨_, rfl, zc (by rw [c_7, c_17]; rfl), ht⟩) (fun q hq => by cases hq) dX9_isDot_25
set_option maxHeartbeats 4000000 in
set_option maxRecDepth 100000 in
theorem c_isPlace (l : Launch) (D : va_G) (k : Kt) (v1 : Int) (v2 : Int) (hv1 : -2147483648 ≤ v1 ∧ v1 < 2147483648) (hv2 : -2147483648 ≤ v2 ∧ v2 < 2147483648) : RO l D k yX9_isPlace wsX9_isPlace 1 22 [.int (zI v1), .int (zI v2)] [] (fun r => r = zI (b2i ((decide (-8 ≤ v1) && decide (v1 ≤ 31)) && (decide (-8 ≤ v2) && decide (v2 ≤ 23))))) := by
  refine Met.ofW (cc := cX9_isPlace) (maxL := 2) (ret := (some .boolean)) (by decide) rfl ?_
  intro p e s m args below meth c s₁ Bd hml hv
  obtain ⟨rfl, hP, hK⟩ := hv
  have hx := Bd.exec
  have hb := Bd.bytes
  have hr := Bd.returns
  have hts := atoms_spec (ws := wsX9_isPlace) Bd.pre
  have hown : s.vm.findClass RX9 = some m.cls := findClass_of_methodNamed Bd.named
  have hlocks := Bd.notSynchronized
  have hSf : CallFix p m c cX9_isPlace 2 s ([.int (zI v1), .int (zI v2)] : List Value).toArray wsX9_isPlace RX9 := ⟨hx, hb, hml, hown, hts⟩
  have hl := lv_entry ([.int (zI v1), .int (zI v2)]) (n := 2) (Nat.le_of_ble_eq_true rfl)
  rw [lg_entry_eq]
  generalize (lg_sl ([.int (zI v1), .int (zI v2)]) ++ List.replicate (2 - (lg_sl ([.int (zI v1), .int (zI v2)])).length) Slot.unset).toArray = ls at hl ⊢
  have hl : lv_has ls 2 [(0, .int (zI v1)), (1, .int (zI v2))] := hl
  refine lv_iload_n hx hb dX9_isPlace_0 rfl (lv_at hl 0 rfl) ?_
  refine z_bipush hx hb dX9_isPlace_1 (by decide +kernel) ?_
  refine z_bipush hx hb dX9_isPlace_3 (by decide +kernel) ?_
  refine roS (n := 3) (As := [.int (zI v1), .int (zI (-8)), .int (zI 31)]) (rest := []) hSf (c_isWithin l D k v1 (-8) 31 (by omega) (by omega) (by omega)) gX9_isPlace_X9_isWithin rfl (by decide +kernel) ⟨Nat.le_of_ble_eq_true rfl, Nat.le_of_ble_eq_true rfl⟩ hK hP [] rfl rfl hl.1 rfl (Nat.le_of_ble_eq_true rfl) dX9_isPlace_5 ⟨Nat.zero_le _, Nat.zero_le _⟩ (fun r_5 h_5 => ?_)
  subst h_5
  refine z_if_eqb (tgt := 26) hx hb dX9_isPlace_8 (by decide) (fun c_8 => ?_) (fun c_8 => ?_)
  · refine z_iconst hx hb dX9_isPlace_26 ?_
    exact W.zret hx hb hr (by decide +kernel) (fun t ht hW => ⟨_, rfl, zc (by rw [c_8]; rfl), ht⟩) (fun q hq => by cases hq) dX9_isPlace_27
  · refine lv_iload_n hx hb dX9_isPlace_11 rfl (lv_at hl 1 rfl) ?_
    refine z_bipush hx hb dX9_isPlace_12 (by decide +kernel) ?_
    refine z_bipush hx hb dX9_isPlace_14 (by decide +kernel) ?_
    refine roS (n := 3) (As := [.int (zI v2), .int (zI (-8)), .int (zI 23)]) (rest := []) hSf (c_isWithin l D k v2 (-8) 23 (by omega) (by omega) (by omega)) gX9_isPlace_X9_isWithin rfl (by decide +kernel) ⟨Nat.le_of_ble_eq_true rfl, Nat.le_of_ble_eq_true rfl⟩ hK hP [] rfl rfl hl.1 rfl (Nat.le_of_ble_eq_true rfl) dX9_isPlace_16 ⟨Nat.zero_le _, Nat.zero_le _⟩ (fun r_16 h_16 => ?_)
    subst h_16
    refine z_if_eqb (tgt := 26) hx hb dX9_isPlace_19 (by decide) (fun c_19 => ?_) (fun c_19 => ?_)
    · refine z_iconst hx hb dX9_isPlace_26 ?_
      exact W.zret hx hb hr (by decide +kernel) (fun t ht hW => ⟨_, rfl, zc (by rw [c_8, c_19]; rfl), ht⟩) (fun q hq => by cases hq) dX9_isPlace_27
    · refine z_iconst hx hb dX9_isPlace_22 ?_
      refine lv_goto (tgt := 27) hx hb dX9_isPlace_23 (by decide) ?_
      exact W.zret hx hb hr (by decide +kernel) (fun t ht hW => ⟨_, rfl, zc (by rw [c_8, c_19]; rfl), ht⟩) (fun q hq => by cases hq) dX9_isPlace_27
set_option maxHeartbeats 4000000 in
set_option maxRecDepth 100000 in
theorem c_isManner (l : Launch) (D : va_G) (k : Kt) (v1 : Int) (v2 : Int) (hv1 : -2147483648 ≤ v1 ∧ v1 < 2147483648) (hv2 : -2147483648 ≤ v2 ∧ v2 < 2147483648) : RO l D k yX9_isManner wsX9_isManner 1 22 [.int (zI v1), .int (zI v2)] [] (fun r => r = zI (b2i ((decide (0 ≤ v1) && decide (v1 ≤ 3)) && (decide (0 ≤ v2) && decide (v2 ≤ 3))))) := by
  refine Met.ofW (cc := cX9_isManner) (maxL := 2) (ret := (some .boolean)) (by decide) rfl ?_
  intro p e s m args below meth c s₁ Bd hml hv
  obtain ⟨rfl, hP, hK⟩ := hv
  have hx := Bd.exec
  have hb := Bd.bytes
  have hr := Bd.returns
  have hts := atoms_spec (ws := wsX9_isManner) Bd.pre
  have hown : s.vm.findClass RX9 = some m.cls := findClass_of_methodNamed Bd.named
  have hlocks := Bd.notSynchronized
  have hSf : CallFix p m c cX9_isManner 2 s ([.int (zI v1), .int (zI v2)] : List Value).toArray wsX9_isManner RX9 := ⟨hx, hb, hml, hown, hts⟩
  have hl := lv_entry ([.int (zI v1), .int (zI v2)]) (n := 2) (Nat.le_of_ble_eq_true rfl)
  rw [lg_entry_eq]
  generalize (lg_sl ([.int (zI v1), .int (zI v2)]) ++ List.replicate (2 - (lg_sl ([.int (zI v1), .int (zI v2)])).length) Slot.unset).toArray = ls at hl ⊢
  have hl : lv_has ls 2 [(0, .int (zI v1)), (1, .int (zI v2))] := hl
  refine lv_iload_n hx hb dX9_isManner_0 rfl (lv_at hl 0 rfl) ?_
  refine z_iconst hx hb dX9_isManner_1 ?_
  refine z_iconst hx hb dX9_isManner_2 ?_
  refine roS (n := 3) (As := [.int (zI v1), .int (zI 0), .int (zI 3)]) (rest := []) hSf (c_isWithin l D k v1 0 3 (by omega) (by omega) (by omega)) gX9_isManner_X9_isWithin rfl (by decide +kernel) ⟨Nat.le_of_ble_eq_true rfl, Nat.le_of_ble_eq_true rfl⟩ hK hP [] rfl rfl hl.1 rfl (Nat.le_of_ble_eq_true rfl) dX9_isManner_3 ⟨Nat.zero_le _, Nat.zero_le _⟩ (fun r_3 h_3 => ?_)
  subst h_3
  refine z_if_eqb (tgt := 22) hx hb dX9_isManner_6 (by decide) (fun c_6 => ?_) (fun c_6 => ?_)
  · refine z_iconst hx hb dX9_isManner_22 ?_
    exact W.zret hx hb hr (by decide +kernel) (fun t ht hW => ⟨_, rfl, zc (by rw [c_6]; rfl), ht⟩) (fun q hq => by cases hq) dX9_isManner_23
  · refine lv_iload_n hx hb dX9_isManner_9 rfl (lv_at hl 1 rfl) ?_
    refine z_iconst hx hb dX9_isManner_10 ?_
    refine z_iconst hx hb dX9_isManner_11 ?_
    refine roS (n := 3) (As := [.int (zI v2), .int (zI 0), .int (zI 3)]) (rest := []) hSf (c_isWithin l D k v2 0 3 (by omega) (by omega) (by omega)) gX9_isManner_X9_isWithin rfl (by decide +kernel) ⟨Nat.le_of_ble_eq_true rfl, Nat.le_of_ble_eq_true rfl⟩ hK hP [] rfl rfl hl.1 rfl (Nat.le_of_ble_eq_true rfl) dX9_isManner_12 ⟨Nat.zero_le _, Nat.zero_le _⟩ (fun r_12 h_12 => ?_)
    subst h_12
    refine z_if_eqb (tgt := 22) hx hb dX9_isManner_15 (by decide) (fun c_15 => ?_) (fun c_15 => ?_)
    · refine z_iconst hx hb dX9_isManner_22 ?_
      exact W.zret hx hb hr (by decide +kernel) (fun t ht hW => ⟨_, rfl, zc (by rw [c_6, c_15]; rfl), ht⟩) (fun q hq => by cases hq) dX9_isManner_23
    · refine z_iconst hx hb dX9_isManner_18 ?_
      refine lv_goto (tgt := 23) hx hb dX9_isManner_19 (by decide) ?_
      exact W.zret hx hb hr (by decide +kernel) (fun t ht hW => ⟨_, rfl, zc (by rw [c_6, c_15]; rfl), ht⟩) (fun q hq => by cases hq) dX9_isManner_23
set_option maxHeartbeats 4000000 in
set_option maxRecDepth 100000 in
theorem c_isThing (l : Launch) (D : va_G) (k : Kt) (x9 : Nat) (h0 : Nat) (c0 : Nat) (h8 : Nat) (h4 : Nat) (h2 : Nat) (hh : Nat) (h3 : Nat) (h1 : Nat) (im : Nat) (sd : Nat) (kp : Nat) (f : St) (B : Int) (hV : Va B f) (v1 : Int) (hv1 : -2147483648 ≤ v1 ∧ v1 < 2147483648) : RO l D k yX9_isThing wsX9_isThing 1 22 [.ref x9, .int (zI v1)] [(x9, .inr (9, [.ref h0, .ref h8, .ref h4, .ref h2, .ref hh, .ref h3, .ref h1, .ref im, .ref sd, .ref kp])), (h0, .inr (7, [.ref c0])), (c0, .inl (k.1, 132, .inl (zF f)))] (fun r => r = zI (b2i (decide (0 ≤ v1) && decide (v1 ≤ f 0 - 1)))) := by
  refine Met.ofW (cc := cX9_isThing) (maxL := 2) (ret := (some .boolean)) (by decide) rfl ?_
  intro p e s m args below meth c s₁ Bd hml hv
  obtain ⟨rfl, hP, hK⟩ := hv
  have hx := Bd.exec
  have hb := Bd.bytes
  have hr := Bd.returns
  have hts := atoms_spec (ws := wsX9_isThing) Bd.pre
  have hown : s.vm.findClass RX9 = some m.cls := findClass_of_methodNamed Bd.named
  have hlocks := Bd.notSynchronized
  have hSf : CallFix p m c cX9_isThing 2 s ([.ref x9, .int (zI v1)] : List Value).toArray wsX9_isThing RX9 := ⟨hx, hb, hml, hown, hts⟩
  have hinX9 : ∀ w ∈ u_ws RX9 TX9 10, w ∈ wsX9_isThing := by decide +kernel
  have fl10 := hts (.fieldLink RX9 10 "DotObjects" "scene" "LDotObjects$Scene;") (by decide +kernel)
  have hl := lv_entry ([.ref x9, .int (zI v1)]) (n := 2) (Nat.le_of_ble_eq_true rfl)
  rw [lg_entry_eq]
  generalize (lg_sl ([.ref x9, .int (zI v1)]) ++ List.replicate (2 - (lg_sl ([.ref x9, .int (zI v1)])).length) Slot.unset).toArray = ls at hl ⊢
  have hl : lv_has ls 2 [(0, .ref x9), (1, .int (zI v1))] := hl
  have hv0 := hV.1
  refine lv_iload_n hx hb dX9_isThing_0 rfl (lv_at hl 1 rfl) ?_
  refine z_iconst hx hb dX9_isThing_1 ?_
  refine lv_aload_n hx hb dX9_isThing_2 rfl (lv_at hl 0 rfl) ?_
  refine va_get (D := D) (ci := 9) (v := .ref h0) (C := RX9) (T := TX9) (N := 10) hx hb hts hinX9 hown hK.1 hP 0 rfl rfl 0 (by decide) fl10 (fun _ h9 => h9) rfl dX9_isThing_3 ?_
  refine z_iconst hx hb dX9_isThing_6 ?_
  refine roV (n := 1) (As := [.int (zI ((0 : Nat) : Int))]) (rest := [.int (zI 0), .int (zI v1)]) hSf (c_cell l D k h0 c0 f 0 (by omega)) gX9_isThing_X7_cell rfl (by decide +kernel) ⟨Nat.le_of_ble_eq_true rfl, Nat.le_of_ble_eq_true rfl⟩ hK hP [1, 2] rfl 0 rfl rfl rfl hl.1 (by rw [show zI 0 = zI ((0 : Nat) : Int) from zc (by omega)]; rfl) (Nat.le_of_ble_eq_true rfl) dX9_isThing_7 ⟨Nat.zero_le _, Nat.zero_le _⟩ (fun r_7 h_7 => ?_)
  subst h_7
  refine z_iconst hx hb dX9_isThing_10 ?_
  refine z_isub hx hb dX9_isThing_11 ?_
  refine roS (n := 3) (As := [.int (zI v1), .int (zI 0), .int (zI (f 0 - 1))]) (rest := []) hSf (c_isWithin l D k v1 0 (f 0 - 1) (by omega) (by omega) (by omega)) gX9_isThing_X9_isWithin rfl (by decide +kernel) ⟨Nat.le_of_ble_eq_true rfl, Nat.le_of_ble_eq_true rfl⟩ hK hP [] rfl rfl hl.1 rfl (Nat.le_of_ble_eq_true rfl) dX9_isThing_12 ⟨Nat.zero_le _, Nat.zero_le _⟩ (fun r_12 h_12 => ?_)
  subst h_12
  exact W.zret hx hb hr (nbb _) (fun t ht hW => ⟨_, rfl, rfl, ht⟩) (fun q hq => by cases hq) dX9_isThing_15
set_option maxHeartbeats 4000000 in
set_option maxRecDepth 100000 in
theorem c_missingNow (l : Launch) (D : va_G) (k : Kt) (x9 : Nat) (h0 : Nat) (c0 : Nat) (h8 : Nat) (h4 : Nat) (h2 : Nat) (hh : Nat) (h3 : Nat) (h1 : Nat) (im : Nat) (sd : Nat) (kp : Nat) (f : St) (B : Int) (hV : Va B f) (h5 : Nat) (a5 : Nat) (h6 : Nat) (s6 : Nat) (p6 : Nat) (h9 : Nat) (s9 : Nat) (p9 : Nat) (z : (Nat → Int) × ((Nat → Nat) × (Nat → Nat) × Nat) × ((Nat → Nat) × (Nat → Nat) × Nat)) (hB : B < 1000000) : MI l D k yX9_missingNow wsX9_missingNow 4 99 [.ref x9] [(x9, .inr (9, [.ref h0, .ref h8, .ref h4, .ref h2, .ref hh, .ref h3, .ref h1, .ref im, .ref sd, .ref kp])), (h0, .inr (7, [.ref c0])), (c0, .inl (k.1, 132, .inl (zF f))), (h8, .inr (8, [.ref h5, .ref h6, .ref h9])), (h5, .inr (5, [.ref a5])), (a5, .inl (k.1, 12, .inl (zF z.1))), (h6, .inr (6, [.ref s6, .ref p6, .int (zI ((z.2.1.2.2 : Nat) : Int))])), (s6, .inl (k.1, 12, .inl (zF (nF z.2.1.1)))), (p6, .inl (k.1, 3, .inl (zF (nF z.2.1.2.1)))), (h9, .inr (6, [.ref s9, .ref p9, .int (zI ((z.2.2.2.2 : Nat) : Int))])), (s9, .inl (k.1, 12, .inl (zF (nF z.2.2.1)))), (p9, .inl (k.1, 3, .inl (zF (nF z.2.2.2.1))))] (fun (r : Int32) (u : (Nat → Int) × ((Nat → Nat) × (Nat → Nat) × Nat) × ((Nat → Nat) × (Nat → Nat) × Nat)) => r = zI ((misF f (f 2) : Nat) : Int) ∧ True) (fun u => [(x9, .inr (9, [.ref h0, .ref h8, .ref h4, .ref h2, .ref hh, .ref h3, .ref h1, .ref im, .ref sd, .ref kp])), (h0, .inr (7, [.ref c0])), (c0, .inl (k.1, 132, .inl (zF f))), (h8, .inr (8, [.ref h5, .ref h6, .ref h9])), (h5, .inr (5, [.ref a5])), (a5, .inl (k.1, 12, .inl (zF u.1))), (h6, .inr (6, [.ref s6, .ref p6, .int (zI ((u.2.1.2.2 : Nat) : Int))])), (s6, .inl (k.1, 12, .inl (zF (nF u.2.1.1)))), (p6, .inl (k.1, 3, .inl (zF (nF u.2.1.2.1)))), (h9, .inr (6, [.ref s9, .ref p9, .int (zI ((u.2.2.2.2 : Nat) : Int))])), (s9, .inl (k.1, 12, .inl (zF (nF u.2.2.1)))), (p9, .inl (k.1, 3, .inl (zF (nF u.2.2.2.1))))]) := by
  refine Met.ofW (cc := cX9_missingNow) (maxL := 1) (ret := (some .int)) (by decide) rfl ?_
  intro p e s m args below meth c s₁ Bd hml hv
  obtain ⟨rfl, hP, hK, hD0⟩ := hv
  have hx := Bd.exec
  have hb := Bd.bytes
  have hr := Bd.returns
  have hts := atoms_spec (ws := wsX9_missingNow) Bd.pre
  have hown : s.vm.findClass RX9 = some m.cls := findClass_of_methodNamed Bd.named
  have hlocks := Bd.notSynchronized
  have hSf : CallFix p m c cX9_missingNow 1 s ([.ref x9] : List Value).toArray wsX9_missingNow RX9 := ⟨hx, hb, hml, hown, hts⟩
  have hD := fA_D hD0
  have hS : va_S (fA [(x9, .inr (9, [.ref h0, .ref h8, .ref h4, .ref h2, .ref hh, .ref h3, .ref h1, .ref im, .ref sd, .ref kp])), (h0, .inr (7, [.ref c0])), (c0, .inl (k.1, 132, .inl (zF f))), (h8, .inr (8, [.ref h5, .ref h6, .ref h9])), (h5, .inr (5, [.ref a5])), (a5, .inl (k.1, 12, .inl (zF z.1))), (h6, .inr (6, [.ref s6, .ref p6, .int (zI ((z.2.1.2.2 : Nat) : Int))])), (s6, .inl (k.1, 12, .inl (zF (nF z.2.1.1)))), (p6, .inl (k.1, 3, .inl (zF (nF z.2.1.2.1)))), (h9, .inr (6, [.ref s9, .ref p9, .int (zI ((z.2.2.2.2 : Nat) : Int))])), (s9, .inl (k.1, 12, .inl (zF (nF z.2.2.1)))), (p9, .inl (k.1, 3, .inl (zF (nF z.2.2.2.1))))]) s.heap s.heap [] := va_S.rf
  generalize hAe : fA [(x9, .inr (9, [.ref h0, .ref h8, .ref h4, .ref h2, .ref hh, .ref h3, .ref h1, .ref im, .ref sd, .ref kp])), (h0, .inr (7, [.ref c0])), (c0, .inl (k.1, 132, .inl (zF f))), (h8, .inr (8, [.ref h5, .ref h6, .ref h9])), (h5, .inr (5, [.ref a5])), (a5, .inl (k.1, 12, .inl (zF z.1))), (h6, .inr (6, [.ref s6, .ref p6, .int (zI ((z.2.1.2.2 : Nat) : Int))])), (s6, .inl (k.1, 12, .inl (zF (nF z.2.1.1)))), (p6, .inl (k.1, 3, .inl (zF (nF z.2.1.2.1)))), (h9, .inr (6, [.ref s9, .ref p9, .int (zI ((z.2.2.2.2 : Nat) : Int))])), (s9, .inl (k.1, 12, .inl (zF (nF z.2.2.1)))), (p9, .inl (k.1, 3, .inl (zF (nF z.2.2.2.1))))] = A at hD hS ⊢
  have hP : va_P D vwCl [(x9, .inr (9, [.ref h0, .ref h8, .ref h4, .ref h2, .ref hh, .ref h3, .ref h1, .ref im, .ref sd, .ref kp])), (h0, .inr (7, [.ref c0])), (c0, .inl (k.1, 132, .inl (zF f))), (h8, .inr (8, [.ref h5, .ref h6, .ref h9])), (h5, .inr (5, [.ref a5])), (a5, .inl (k.1, 12, .inl (zF z.1))), (h6, .inr (6, [.ref s6, .ref p6, .int (zI ((z.2.1.2.2 : Nat) : Int))])), (s6, .inl (k.1, 12, .inl (zF (nF z.2.1.1)))), (p6, .inl (k.1, 3, .inl (zF (nF z.2.1.2.1)))), (h9, .inr (6, [.ref s9, .ref p9, .int (zI ((z.2.2.2.2 : Nat) : Int))])), (s9, .inl (k.1, 12, .inl (zF (nF z.2.2.1)))), (p9, .inl (k.1, 3, .inl (zF (nF z.2.2.2.1))))] s.heap := hP
  have hinX9 : ∀ w ∈ u_ws RX9 TX9 10, w ∈ wsX9_missingNow := by decide +kernel
  have fl19 := hts (.fieldLink RX9 19 "DotObjects" "screen" "LDotObjects$Screen;") (by decide +kernel)
  have fl10 := hts (.fieldLink RX9 10 "DotObjects" "scene" "LDotObjects$Scene;") (by decide +kernel)
  have hl := lv_entry ([.ref x9]) (n := 1) (Nat.le_of_ble_eq_true rfl)
  rw [lg_entry_eq]
  generalize (lg_sl ([.ref x9]) ++ List.replicate (1 - (lg_sl ([.ref x9])).length) Slot.unset).toArray = ls at hl ⊢
  have hl : lv_has ls 1 [(0, .ref x9)] := hl
  have hv2 := hV.2.2.1
  refine lv_aload_n hx hb dX9_missingNow_0 rfl (lv_at hl 0 rfl) ?_
  refine va_get (D := D) (ci := 9) (v := .ref h8) (C := RX9) (T := TX9) (N := 10) hx hb hts hinX9 hown hK.1 hP 0 rfl rfl 1 (by decide) fl19 (fun _ h9 => h9) rfl dX9_missingNow_1 ?_
  refine lv_aload_n hx hb dX9_missingNow_4 rfl (lv_at hl 0 rfl) ?_
  refine va_get (D := D) (ci := 9) (v := .ref h0) (C := RX9) (T := TX9) (N := 10) hx hb hts hinX9 hown hK.1 hP 0 rfl rfl 0 (by decide) fl10 (fun _ h9 => h9) rfl dX9_missingNow_5 ?_
  refine lv_aload_n hx hb dX9_missingNow_8 rfl (lv_at hl 0 rfl) ?_
  refine va_get (D := D) (ci := 9) (v := .ref h0) (C := RX9) (T := TX9) (N := 10) hx hb hts hinX9 hown hK.1 hP 0 rfl rfl 0 (by decide) fl10 (fun _ h9 => h9) rfl dX9_missingNow_9 ?_
  refine z_iconst hx hb dX9_missingNow_12 ?_
  refine roV (n := 1) (As := [.int (zI ((2 : Nat) : Int))]) (rest := [.ref h0, .ref h8]) hSf (c_cell l D k h0 c0 f 2 (by omega)) gX9_missingNow_X7_cell rfl (by decide +kernel) ⟨Nat.le_of_ble_eq_true rfl, Nat.le_of_ble_eq_true rfl⟩ hK hP [1, 2] rfl 0 rfl rfl rfl hl.1 (by rw [show zI 2 = zI ((2 : Nat) : Int) from zc (by omega)]; rfl) (Nat.le_of_ble_eq_true rfl) dX9_missingNow_13 ⟨Nat.zero_le _, Nat.zero_le _⟩ (fun r_13 h_13 => ?_)
  subst h_13
  refine miV (n := 2) (As := [.ref h0, .int (zI (f 2))]) (rest := []) hSf (c_missing l D k h0 c0 f B hV h8 h5 a5 h6 s6 p6 h9 s9 p9 (z.1, (z.2.1.1, z.2.1.2.1, z.2.1.2.2), (z.2.2.1, z.2.2.2.1, z.2.2.2.2)) hB (f 2) (by omega)) gX9_missingNow_X8_missing rfl (by decide +kernel) ⟨Nat.le_of_ble_eq_true rfl, Nat.le_of_ble_eq_true rfl⟩ hK hP hD hS [1, 2, 3, 4, 5, 6, 7, 8, 9, 10, 11] rfl rfl (by decide) (fun _ => rfl) (fun _ => rfl) 2 rfl rfl rfl hl.1 rfl (Nat.le_of_ble_eq_true rfl) dX9_missingNow_16 ⟨Nat.zero_le _, Nat.zero_le _⟩ (fun r_16 u_16 H locs h_16 hP hD hS => ?_)
  have hP : va_P D vwCl [(x9, .inr (9, [.ref h0, .ref h8, .ref h4, .ref h2, .ref hh, .ref h3, .ref h1, .ref im, .ref sd, .ref kp])), (h0, .inr (7, [.ref c0])), (c0, .inl (k.1, 132, .inl (zF f))), (h8, .inr (8, [.ref h5, .ref h6, .ref h9])), (h5, .inr (5, [.ref a5])), (a5, .inl (k.1, 12, .inl (zF u_16.1))), (h6, .inr (6, [.ref s6, .ref p6, .int (zI ((u_16.2.1.2.2 : Nat) : Int))])), (s6, .inl (k.1, 12, .inl (zF (nF u_16.2.1.1)))), (p6, .inl (k.1, 3, .inl (zF (nF u_16.2.1.2.1)))), (h9, .inr (6, [.ref s9, .ref p9, .int (zI ((u_16.2.2.2.2 : Nat) : Int))])), (s9, .inl (k.1, 12, .inl (zF (nF u_16.2.2.1)))), (p9, .inl (k.1, 3, .inl (zF (nF u_16.2.2.2.1))))] H := hP
  have hD : va_D A [(x9, .inr (9, [.ref h0, .ref h8, .ref h4, .ref h2, .ref hh, .ref h3, .ref h1, .ref im, .ref sd, .ref kp])), (h0, .inr (7, [.ref c0])), (c0, .inl (k.1, 132, .inl (zF f))), (h8, .inr (8, [.ref h5, .ref h6, .ref h9])), (h5, .inr (5, [.ref a5])), (a5, .inl (k.1, 12, .inl (zF u_16.1))), (h6, .inr (6, [.ref s6, .ref p6, .int (zI ((u_16.2.1.2.2 : Nat) : Int))])), (s6, .inl (k.1, 12, .inl (zF (nF u_16.2.1.1)))), (p6, .inl (k.1, 3, .inl (zF (nF u_16.2.1.2.1)))), (h9, .inr (6, [.ref s9, .ref p9, .int (zI ((u_16.2.2.2.2 : Nat) : Int))])), (s9, .inl (k.1, 12, .inl (zF (nF u_16.2.2.1)))), (p9, .inl (k.1, 3, .inl (zF (nF u_16.2.2.2.1))))] := hD
  obtain ⟨he_16, h_16⟩ := h_16
  subst he_16
  exact W.iret hx hb hr (fun t ht hW => ⟨⟨_, (u_16.1, (u_16.2.1.1, u_16.2.1.2.1, u_16.2.1.2.2), (u_16.2.2.1, u_16.2.2.2.1, u_16.2.2.2.2)), rfl, ⟨rfl, trivial⟩, by show va_P D vwCl _ _; rw [ht]; exact hP⟩, hS.F ht⟩) hS.2.2 dX9_missingNow_19
set_option maxHeartbeats 4000000 in
set_option maxRecDepth 100000 in
theorem c_xholderOf (l : Launch) (D : va_G) (k : Kt) (x9 : Nat) (h0 : Nat) (c0 : Nat) (h8 : Nat) (h4 : Nat) (h2 : Nat) (hh : Nat) (h3 : Nat) (h1 : Nat) (im : Nat) (sd : Nat) (kp : Nat) (f : St) (B : Int) (hV : Va B f) (b4 : Nat) (e4 : Nat) (ho : Nat → Int) (en : Nat → Int) (us : Nat) (t1 : Nat) (ht1 : t1 < nT f) : MI l D k yX9_holderOf wsX9_holderOf 3 66 [.ref x9, .int (zI ((t1 : Nat) : Int))] [(x9, .inr (9, [.ref h0, .ref h8, .ref h4, .ref h2, .ref hh, .ref h3, .ref h1, .ref im, .ref sd, .ref kp])), (h0, .inr (7, [.ref c0])), (c0, .inl (k.1, 132, .inl (zF f))), (h4, .inr (4, [.ref b4, .ref e4, .int (zI ((us : Nat) : Int))])), (b4, .inl (k.1, 12, .inl (zF ho))), (e4, .inl (k.1, 12, .inl (zF en)))] (fun (r : Int32) (u : (Nat → Int) × (Nat → Int)) => r = zI ((hsF f).2.2 t1) ∧ True) (fun u => [(x9, .inr (9, [.ref h0, .ref h8, .ref h4, .ref h2, .ref hh, .ref h3, .ref h1, .ref im, .ref sd, .ref kp])), (h0, .inr (7, [.ref c0])), (c0, .inl (k.1, 132, .inl (zF f))), (h4, .inr (4, [.ref b4, .ref e4, .int (zI (((hsF f).1 : Nat) : Int))])), (b4, .inl (k.1, 12, .inl (zF u.1))), (e4, .inl (k.1, 12, .inl (zF u.2)))]) := by
  refine Met.ofW (cc := cX9_holderOf) (maxL := 2) (ret := (some .int)) (by decide) rfl ?_
  intro p e s m args below meth c s₁ Bd hml hv
  obtain ⟨rfl, hP, hK, hD0⟩ := hv
  have hx := Bd.exec
  have hb := Bd.bytes
  have hr := Bd.returns
  have hts := atoms_spec (ws := wsX9_holderOf) Bd.pre
  have hown : s.vm.findClass RX9 = some m.cls := findClass_of_methodNamed Bd.named
  have hlocks := Bd.notSynchronized
  have hSf : CallFix p m c cX9_holderOf 2 s ([.ref x9, .int (zI ((t1 : Nat) : Int))] : List Value).toArray wsX9_holderOf RX9 := ⟨hx, hb, hml, hown, hts⟩
  have hD := fA_D hD0
  have hS : va_S (fA [(x9, .inr (9, [.ref h0, .ref h8, .ref h4, .ref h2, .ref hh, .ref h3, .ref h1, .ref im, .ref sd, .ref kp])), (h0, .inr (7, [.ref c0])), (c0, .inl (k.1, 132, .inl (zF f))), (h4, .inr (4, [.ref b4, .ref e4, .int (zI ((us : Nat) : Int))])), (b4, .inl (k.1, 12, .inl (zF ho))), (e4, .inl (k.1, 12, .inl (zF en)))]) s.heap s.heap [] := va_S.rf
  generalize hAe : fA [(x9, .inr (9, [.ref h0, .ref h8, .ref h4, .ref h2, .ref hh, .ref h3, .ref h1, .ref im, .ref sd, .ref kp])), (h0, .inr (7, [.ref c0])), (c0, .inl (k.1, 132, .inl (zF f))), (h4, .inr (4, [.ref b4, .ref e4, .int (zI ((us : Nat) : Int))])), (b4, .inl (k.1, 12, .inl (zF ho))), (e4, .inl (k.1, 12, .inl (zF en)))] = A at hD hS ⊢
  have hP : va_P D vwCl [(x9, .inr (9, [.ref h0, .ref h8, .ref h4, .ref h2, .ref hh, .ref h3, .ref h1, .ref im, .ref sd, .ref kp])), (h0, .inr (7, [.ref c0])), (c0, .inl (k.1, 132, .inl (zF f))), (h4, .inr (4, [.ref b4, .ref e4, .int (zI ((us : Nat) : Int))])), (b4, .inl (k.1, 12, .inl (zF ho))), (e4, .inl (k.1, 12, .inl (zF en)))] s.heap := hP
  have hinX9 : ∀ w ∈ u_ws RX9 TX9 10, w ∈ wsX9_holderOf := by decide +kernel
  have fl26 := hts (.fieldLink RX9 26 "DotObjects" "holders" "LDotObjects$Holders;") (by decide +kernel)
  have fl10 := hts (.fieldLink RX9 10 "DotObjects" "scene" "LDotObjects$Scene;") (by decide +kernel)
  have hl := lv_entry ([.ref x9, .int (zI ((t1 : Nat) : Int))]) (n := 2) (Nat.le_of_ble_eq_true rfl)
  rw [lg_entry_eq]
  generalize (lg_sl ([.ref x9, .int (zI ((t1 : Nat) : Int))]) ++ List.replicate (2 - (lg_sl ([.ref x9, .int (zI ((t1 : Nat) : Int))])).length) Slot.unset).toArray = ls at hl ⊢
  have hl : lv_has ls 2 [(0, .ref x9), (1, .int (zI ((t1 : Nat) : Int)))] := hl
  have hn := hV.n
  refine lv_aload_n hx hb dX9_holderOf_0 rfl (lv_at hl 0 rfl) ?_
  refine va_get (D := D) (ci := 9) (v := .ref h4) (C := RX9) (T := TX9) (N := 10) hx hb hts hinX9 hown hK.1 hP 0 rfl rfl 2 (by decide) fl26 (fun _ h9 => h9) rfl dX9_holderOf_1 ?_
  refine lv_aload_n hx hb dX9_holderOf_4 rfl (lv_at hl 0 rfl) ?_
  refine va_get (D := D) (ci := 9) (v := .ref h0) (C := RX9) (T := TX9) (N := 10) hx hb hts hinX9 hown hK.1 hP 0 rfl rfl 0 (by decide) fl10 (fun _ h9 => h9) rfl dX9_holderOf_5 ?_
  refine miV (n := 1) (As := [.ref h0]) (rest := []) hSf (c_assign l D k h0 c0 f B hV h4 b4 e4 ho en us) gX9_holderOf_X4_assign rfl (by decide +kernel) ⟨Nat.le_of_ble_eq_true rfl, Nat.le_of_ble_eq_true rfl⟩ hK hP hD hS [1, 2, 3, 4, 5] rfl rfl (by decide) (fun _ => rfl) (fun _ => rfl) 2 rfl rfl rfl hl.1 rfl (Nat.le_of_ble_eq_true rfl) dX9_holderOf_8 ⟨Nat.zero_le _, Nat.zero_le _⟩ (fun r_8 u_8 H locs h_8 hP hD hS => ?_)
  have hP : va_P D vwCl [(x9, .inr (9, [.ref h0, .ref h8, .ref h4, .ref h2, .ref hh, .ref h3, .ref h1, .ref im, .ref sd, .ref kp])), (h0, .inr (7, [.ref c0])), (c0, .inl (k.1, 132, .inl (zF f))), (h4, .inr (4, [.ref b4, .ref e4, .int (zI (((hsF f).1 : Nat) : Int))])), (b4, .inl (k.1, 12, .inl (zF u_8.1))), (e4, .inl (k.1, 12, .inl (zF u_8.2)))] H := hP
  have hD : va_D A [(x9, .inr (9, [.ref h0, .ref h8, .ref h4, .ref h2, .ref hh, .ref h3, .ref h1, .ref im, .ref sd, .ref kp])), (h0, .inr (7, [.ref c0])), (c0, .inl (k.1, 132, .inl (zF f))), (h4, .inr (4, [.ref b4, .ref e4, .int (zI (((hsF f).1 : Nat) : Int))])), (b4, .inl (k.1, 12, .inl (zF u_8.1))), (e4, .inl (k.1, 12, .inl (zF u_8.2)))] := hD
  obtain ⟨he_8, h_8⟩ := h_8
  subst he_8
  refine lv_pop hx hb dX9_holderOf_11 rfl ?_
  refine lv_aload_n hx hb dX9_holderOf_12 rfl (lv_at hl 0 rfl) ?_
  refine va_get (D := D) (ci := 9) (v := .ref h4) (C := RX9) (T := TX9) (N := 10) hx hb hts hinX9 hown hK.1 hP 0 rfl rfl 2 (by decide) fl26 (fun _ h9 => h9) rfl dX9_holderOf_13 ?_
  refine lv_iload_n hx hb dX9_holderOf_16 rfl (lv_at hl 1 rfl) ?_
  refine roV (n := 1) (As := [.int (zI ((t1 : Nat) : Int))]) (rest := []) hSf (c_holderOf l D k h4 b4 e4 u_8.1 u_8.2 ((hsF f).1) t1 (by omega)) gX9_holderOf_X4_holderOf rfl (by decide +kernel) ⟨Nat.le_of_ble_eq_true rfl, Nat.le_of_ble_eq_true rfl⟩ hK hP [3, 4, 5] rfl 0 rfl rfl rfl hl.1 rfl (Nat.le_of_ble_eq_true rfl) dX9_holderOf_17 ⟨Nat.zero_le _, Nat.zero_le _⟩ (fun r_17 h_17 => ?_)
  subst h_17
  exact W.iret hx hb hr (fun t ht hW => ⟨⟨_, u_8, rfl, ⟨zc (h_8 t1 ht1), trivial⟩, by show va_P D vwCl _ _; rw [ht]; exact hP⟩, hS.F ht⟩) hS.2.2 dX9_holderOf_20
set_option maxHeartbeats 4000000 in
set_option maxRecDepth 100000 in
theorem c_firstWrong (l : Launch) (D : va_G) (k : Kt) (x9 : Nat) (h0 : Nat) (c0 : Nat) (h8 : Nat) (h4 : Nat) (h2 : Nat) (hh : Nat) (h3 : Nat) (h1 : Nat) (im : Nat) (sd : Nat) (kp : Nat) (f : St) (B : Int) (hV : Va B f) (h5 : Nat) (a5 : Nat) (h6 : Nat) (s6 : Nat) (p6 : Nat) (h9 : Nat) (s9 : Nat) (p9 : Nat) (z : (Nat → Int) × ((Nat → Nat) × (Nat → Nat) × Nat) × ((Nat → Nat) × (Nat → Nat) × Nat)) (hB : B < 1000000) (i3 : Nat) (j3 : Nat) (k3 : Nat) (ba : Nat → Int) (bb : Nat → Int) (bd : Nat → Int) (bn : Nat) (hbk : BoOK ba bb bd bn) : MI l D k yX9_firstWrong wsX9_firstWrong 5 117 [.ref x9] [(x9, .inr (9, [.ref h0, .ref h8, .ref h4, .ref h2, .ref hh, .ref h3, .ref h1, .ref im, .ref sd, .ref kp])), (h0, .inr (7, [.ref c0])), (c0, .inl (k.1, 132, .inl (zF f))), (h8, .inr (8, [.ref h5, .ref h6, .ref h9])), (h5, .inr (5, [.ref a5])), (a5, .inl (k.1, 12, .inl (zF z.1))), (h6, .inr (6, [.ref s6, .ref p6, .int (zI ((z.2.1.2.2 : Nat) : Int))])), (s6, .inl (k.1, 12, .inl (zF (nF z.2.1.1)))), (p6, .inl (k.1, 3, .inl (zF (nF z.2.1.2.1)))), (h9, .inr (6, [.ref s9, .ref p9, .int (zI ((z.2.2.2.2 : Nat) : Int))])), (s9, .inl (k.1, 12, .inl (zF (nF z.2.2.1)))), (p9, .inl (k.1, 3, .inl (zF (nF z.2.2.2.1)))), (h3, .inr (0, [.ref i3, .ref j3, .ref k3, .int (zI ((bn : Nat) : Int))])), (i3, .inl (k.1, 20, .inl (zF ba))), (j3, .inl (k.1, 20, .inl (zF bb))), (k3, .inl (k.1, 20, .inl (zF bd)))] (fun (r : Int32) (u : (Nat → Int) × ((Nat → Nat) × (Nat → Nat) × Nat) × ((Nat → Nat) × (Nat → Nat) × Nat)) => r = zI (wrF f ba bb bd bn) ∧ True) (fun u => [(x9, .inr (9, [.ref h0, .ref h8, .ref h4, .ref h2, .ref hh, .ref h3, .ref h1, .ref im, .ref sd, .ref kp])), (h0, .inr (7, [.ref c0])), (c0, .inl (k.1, 132, .inl (zF f))), (h8, .inr (8, [.ref h5, .ref h6, .ref h9])), (h5, .inr (5, [.ref a5])), (a5, .inl (k.1, 12, .inl (zF u.1))), (h6, .inr (6, [.ref s6, .ref p6, .int (zI ((u.2.1.2.2 : Nat) : Int))])), (s6, .inl (k.1, 12, .inl (zF (nF u.2.1.1)))), (p6, .inl (k.1, 3, .inl (zF (nF u.2.1.2.1)))), (h9, .inr (6, [.ref s9, .ref p9, .int (zI ((u.2.2.2.2 : Nat) : Int))])), (s9, .inl (k.1, 12, .inl (zF (nF u.2.2.1)))), (p9, .inl (k.1, 3, .inl (zF (nF u.2.2.2.1)))), (h3, .inr (0, [.ref i3, .ref j3, .ref k3, .int (zI ((bn : Nat) : Int))])), (i3, .inl (k.1, 20, .inl (zF ba))), (j3, .inl (k.1, 20, .inl (zF bb))), (k3, .inl (k.1, 20, .inl (zF bd)))]) := by
  refine Met.ofW (cc := cX9_firstWrong) (maxL := 3) (ret := (some .int)) (by decide) rfl ?_
  intro p e s m args below meth c s₁ Bd hml hv
  obtain ⟨rfl, hP, hK, hD0⟩ := hv
  have hx := Bd.exec
  have hb := Bd.bytes
  have hr := Bd.returns
  have hts := atoms_spec (ws := wsX9_firstWrong) Bd.pre
  have hown : s.vm.findClass RX9 = some m.cls := findClass_of_methodNamed Bd.named
  have hlocks := Bd.notSynchronized
  have hSf : CallFix p m c cX9_firstWrong 3 s ([.ref x9] : List Value).toArray wsX9_firstWrong RX9 := ⟨hx, hb, hml, hown, hts⟩
  have hD := fA_D hD0
  have hS : va_S (fA [(x9, .inr (9, [.ref h0, .ref h8, .ref h4, .ref h2, .ref hh, .ref h3, .ref h1, .ref im, .ref sd, .ref kp])), (h0, .inr (7, [.ref c0])), (c0, .inl (k.1, 132, .inl (zF f))), (h8, .inr (8, [.ref h5, .ref h6, .ref h9])), (h5, .inr (5, [.ref a5])), (a5, .inl (k.1, 12, .inl (zF z.1))), (h6, .inr (6, [.ref s6, .ref p6, .int (zI ((z.2.1.2.2 : Nat) : Int))])), (s6, .inl (k.1, 12, .inl (zF (nF z.2.1.1)))), (p6, .inl (k.1, 3, .inl (zF (nF z.2.1.2.1)))), (h9, .inr (6, [.ref s9, .ref p9, .int (zI ((z.2.2.2.2 : Nat) : Int))])), (s9, .inl (k.1, 12, .inl (zF (nF z.2.2.1)))), (p9, .inl (k.1, 3, .inl (zF (nF z.2.2.2.1)))), (h3, .inr (0, [.ref i3, .ref j3, .ref k3, .int (zI ((bn : Nat) : Int))])), (i3, .inl (k.1, 20, .inl (zF ba))), (j3, .inl (k.1, 20, .inl (zF bb))), (k3, .inl (k.1, 20, .inl (zF bd)))]) s.heap s.heap [] := va_S.rf
  generalize hAe : fA [(x9, .inr (9, [.ref h0, .ref h8, .ref h4, .ref h2, .ref hh, .ref h3, .ref h1, .ref im, .ref sd, .ref kp])), (h0, .inr (7, [.ref c0])), (c0, .inl (k.1, 132, .inl (zF f))), (h8, .inr (8, [.ref h5, .ref h6, .ref h9])), (h5, .inr (5, [.ref a5])), (a5, .inl (k.1, 12, .inl (zF z.1))), (h6, .inr (6, [.ref s6, .ref p6, .int (zI ((z.2.1.2.2 : Nat) : Int))])), (s6, .inl (k.1, 12, .inl (zF (nF z.2.1.1)))), (p6, .inl (k.1, 3, .inl (zF (nF z.2.1.2.1)))), (h9, .inr (6, [.ref s9, .ref p9, .int (zI ((z.2.2.2.2 : Nat) : Int))])), (s9, .inl (k.1, 12, .inl (zF (nF z.2.2.1)))), (p9, .inl (k.1, 3, .inl (zF (nF z.2.2.2.1)))), (h3, .inr (0, [.ref i3, .ref j3, .ref k3, .int (zI ((bn : Nat) : Int))])), (i3, .inl (k.1, 20, .inl (zF ba))), (j3, .inl (k.1, 20, .inl (zF bb))), (k3, .inl (k.1, 20, .inl (zF bd)))] = A at hD hS ⊢
  have hP : va_P D vwCl [(x9, .inr (9, [.ref h0, .ref h8, .ref h4, .ref h2, .ref hh, .ref h3, .ref h1, .ref im, .ref sd, .ref kp])), (h0, .inr (7, [.ref c0])), (c0, .inl (k.1, 132, .inl (zF f))), (h8, .inr (8, [.ref h5, .ref h6, .ref h9])), (h5, .inr (5, [.ref a5])), (a5, .inl (k.1, 12, .inl (zF z.1))), (h6, .inr (6, [.ref s6, .ref p6, .int (zI ((z.2.1.2.2 : Nat) : Int))])), (s6, .inl (k.1, 12, .inl (zF (nF z.2.1.1)))), (p6, .inl (k.1, 3, .inl (zF (nF z.2.1.2.1)))), (h9, .inr (6, [.ref s9, .ref p9, .int (zI ((z.2.2.2.2 : Nat) : Int))])), (s9, .inl (k.1, 12, .inl (zF (nF z.2.2.1)))), (p9, .inl (k.1, 3, .inl (zF (nF z.2.2.2.1)))), (h3, .inr (0, [.ref i3, .ref j3, .ref k3, .int (zI ((bn : Nat) : Int))])), (i3, .inl (k.1, 20, .inl (zF ba))), (j3, .inl (k.1, 20, .inl (zF bb))), (k3, .inl (k.1, 20, .inl (zF bd)))] s.heap := hP
  have hinX9 : ∀ w ∈ u_ws RX9 TX9 10, w ∈ wsX9_firstWrong := by decide +kernel
  have fl47 := hts (.fieldLink RX9 47 "DotObjects" "book" "LDotObjects$Book;") (by decide +kernel)
  have fl19 := hts (.fieldLink RX9 19 "DotObjects" "screen" "LDotObjects$Screen;") (by decide +kernel)
  have fl10 := hts (.fieldLink RX9 10 "DotObjects" "scene" "LDotObjects$Scene;") (by decide +kernel)
  have hl := lv_entry ([.ref x9]) (n := 3) (Nat.le_of_ble_eq_true rfl)
  rw [lg_entry_eq]
  generalize (lg_sl ([.ref x9]) ++ List.replicate (3 - (lg_sl ([.ref x9])).length) Slot.unset).toArray = ls at hl ⊢
  have hl : lv_has ls 3 [(0, .ref x9)] := hl
  have hb20 := hbk.1
  refine z_iconst hx hb dX9_firstWrong_0 ?_
  refine lv_istore_n (lv' := [(1, .int (zI 0)), (0, .ref x9)]) hx hb dX9_firstWrong_1 rfl hl (by decide) rfl (fun ls hl => ?_)
  have L2 : ∀ (NN2 : Nat), ∀ (qq : Nat) (zz : (Nat → Int) × ((Nat → Nat) × (Nat → Nat) × Nat) × ((Nat → Nat) × (Nat → Nat) × Nat)), (qq ≤ bn) → (∀ i, i < qq → wrP f ba bb bd i = false) → bn - qq < NN2 → ∀ (H : Heap) (locs : List Loc), va_P D vwCl [(x9, .inr (9, [.ref h0, .ref h8, .ref h4, .ref h2, .ref hh, .ref h3, .ref h1, .ref im, .ref sd, .ref kp])), (h0, .inr (7, [.ref c0])), (c0, .inl (k.1, 132, .inl (zF f))), (h8, .inr (8, [.ref h5, .ref h6, .ref h9])), (h5, .inr (5, [.ref a5])), (a5, .inl (k.1, 12, .inl (zF zz.1))), (h6, .inr (6, [.ref s6, .ref p6, .int (zI ((zz.2.1.2.2 : Nat) : Int))])), (s6, .inl (k.1, 12, .inl (zF (nF zz.2.1.1)))), (p6, .inl (k.1, 3, .inl (zF (nF zz.2.1.2.1)))), (h9, .inr (6, [.ref s9, .ref p9, .int (zI ((zz.2.2.2.2 : Nat) : Int))])), (s9, .inl (k.1, 12, .inl (zF (nF zz.2.2.1)))), (p9, .inl (k.1, 3, .inl (zF (nF zz.2.2.2.1)))), (h3, .inr (0, [.ref i3, .ref j3, .ref k3, .int (zI ((bn : Nat) : Int))])), (i3, .inl (k.1, 20, .inl (zF ba))), (j3, .inl (k.1, 20, .inl (zF bb))), (k3, .inl (k.1, 20, .inl (zF bd)))] H → va_D A [(x9, .inr (9, [.ref h0, .ref h8, .ref h4, .ref h2, .ref hh, .ref h3, .ref h1, .ref im, .ref sd, .ref kp])), (h0, .inr (7, [.ref c0])), (c0, .inl (k.1, 132, .inl (zF f))), (h8, .inr (8, [.ref h5, .ref h6, .ref h9])), (h5, .inr (5, [.ref a5])), (a5, .inl (k.1, 12, .inl (zF zz.1))), (h6, .inr (6, [.ref s6, .ref p6, .int (zI ((zz.2.1.2.2 : Nat) : Int))])), (s6, .inl (k.1, 12, .inl (zF (nF zz.2.1.1)))), (p6, .inl (k.1, 3, .inl (zF (nF zz.2.1.2.1)))), (h9, .inr (6, [.ref s9, .ref p9, .int (zI ((zz.2.2.2.2 : Nat) : Int))])), (s9, .inl (k.1, 12, .inl (zF (nF zz.2.2.1)))), (p9, .inl (k.1, 3, .inl (zF (nF zz.2.2.2.1)))), (h3, .inr (0, [.ref i3, .ref j3, .ref k3, .int (zI ((bn : Nat) : Int))])), (i3, .inl (k.1, 20, .inl (zF ba))), (j3, .inl (k.1, 20, .inl (zF bb))), (k3, .inl (k.1, 20, .inl (zF bd)))] → va_S A s.heap H locs → ∀ (ls : Array Slot), lv_has ls 3 [(0, .ref x9), (1, .int (zI ((qq : Nat) : Int)))] → W p l e (headSpec wsX9_firstWrong { frames := 5, cells := 0, slots := 0, locals := 117 }).room s m ([.ref x9] : List Value).toArray below meth c H locs 0 0 (MQ below (va_Qi (fun (r : Int32) (u : (Nat → Int) × ((Nat → Nat) × (Nat → Nat) × Nat) × ((Nat → Nat) × (Nat → Nat) × Nat)) => r = zI (wrF f ba bb bd bn) ∧ True) (fun (u : (Nat → Int) × ((Nat → Nat) × (Nat → Nat) × Nat) × ((Nat → Nat) × (Nat → Nat) × Nat)) t => va_P D vwCl [(x9, .inr (9, [.ref h0, .ref h8, .ref h4, .ref h2, .ref hh, .ref h3, .ref h1, .ref im, .ref sd, .ref kp])), (h0, .inr (7, [.ref c0])), (c0, .inl (k.1, 132, .inl (zF f))), (h8, .inr (8, [.ref h5, .ref h6, .ref h9])), (h5, .inr (5, [.ref a5])), (a5, .inl (k.1, 12, .inl (zF u.1))), (h6, .inr (6, [.ref s6, .ref p6, .int (zI ((u.2.1.2.2 : Nat) : Int))])), (s6, .inl (k.1, 12, .inl (zF (nF u.2.1.1)))), (p6, .inl (k.1, 3, .inl (zF (nF u.2.1.2.1)))), (h9, .inr (6, [.ref s9, .ref p9, .int (zI ((u.2.2.2.2 : Nat) : Int))])), (s9, .inl (k.1, 12, .inl (zF (nF u.2.2.1)))), (p9, .inl (k.1, 3, .inl (zF (nF u.2.2.2.1)))), (h3, .inr (0, [.ref i3, .ref j3, .ref k3, .int (zI ((bn : Nat) : Int))])), (i3, .inl (k.1, 20, .inl (zF ba))), (j3, .inl (k.1, 20, .inl (zF bb))), (k3, .inl (k.1, 20, .inl (zF bd)))] t.heap) A) ([.ref x9] : List Value).toArray s 0 0 A) (F0 m 2 ls []) := by
    intro NN2
    induction NN2 with
    | zero => intro qq zz _ _ hN; exact absurd hN (Nat.not_lt_zero _)
    | succ NN2 ih2 =>
      intro qq zz hqq hno hN H locs hP hD hS ls hl
      refine lv_iload_n hx hb dX9_firstWrong_2 rfl (lv_at hl 1 rfl) ?_
      refine lv_aload_n hx hb dX9_firstWrong_3 rfl (lv_at hl 0 rfl) ?_
      refine va_get (D := D) (ci := 9) (v := .ref h3) (C := RX9) (T := TX9) (N := 10) hx hb hts hinX9 hown hK.1 hP 0 rfl rfl 5 (by decide) fl47 (fun _ h9 => h9) rfl dX9_firstWrong_4 ?_
      refine roV (n := 0) (As := []) (rest := [.int (zI ((qq : Nat) : Int))]) hSf (c_bsize l D k h3 i3 j3 k3 ba bb bd bn) gX9_firstWrong_X0_size rfl (by decide +kernel) ⟨Nat.le_of_ble_eq_true rfl, Nat.le_of_ble_eq_true rfl⟩ hK hP [12, 13, 14, 15] rfl 0 rfl rfl rfl hl.1 rfl (Nat.le_of_ble_eq_true rfl) dX9_firstWrong_7 ⟨Nat.zero_le _, Nat.zero_le _⟩ (fun r_7 h_7 => ?_)
      subst h_7
      refine z_icmp_ge (tgt := 68) hx hb dX9_firstWrong_10 (by decide) (by omega) (by omega) (fun c_10 => ?_) (fun c_10 => ?_)
      · refine z_iconst hx hb dX9_firstWrong_68 ?_
        exact W.iret hx hb hr (fun t ht hW => ⟨⟨_, (zz.1, (zz.2.1.1, zz.2.1.2.1, zz.2.1.2.2), (zz.2.2.1, zz.2.2.2.1, zz.2.2.2.2)), rfl, ⟨zc (by have he := fsN_eq (p := wrP f ba bb bd) hno (show qq ≤ bn by omega) (Or.inl (by omega)); unfold wrF; rw [← he, if_neg (by omega)]), trivial⟩, by show va_P D vwCl _ _; rw [ht]; exact hP⟩, hS.F ht⟩) hS.2.2 dX9_firstWrong_69
      · have hbq := hbk.2 qq (by omega)
        refine lv_aload_n hx hb dX9_firstWrong_13 rfl (lv_at hl 0 rfl) ?_
        refine va_get (D := D) (ci := 9) (v := .ref h8) (C := RX9) (T := TX9) (N := 10) hx hb hts hinX9 hown hK.1 hP 0 rfl rfl 1 (by decide) fl19 (fun _ h9 => h9) rfl dX9_firstWrong_14 ?_
        refine lv_aload_n hx hb dX9_firstWrong_17 rfl (lv_at hl 0 rfl) ?_
        refine va_get (D := D) (ci := 9) (v := .ref h0) (C := RX9) (T := TX9) (N := 10) hx hb hts hinX9 hown hK.1 hP 0 rfl rfl 0 (by decide) fl10 (fun _ h9 => h9) rfl dX9_firstWrong_18 ?_
        refine lv_aload_n hx hb dX9_firstWrong_21 rfl (lv_at hl 0 rfl) ?_
        refine va_get (D := D) (ci := 9) (v := .ref h3) (C := RX9) (T := TX9) (N := 10) hx hb hts hinX9 hown hK.1 hP 0 rfl rfl 5 (by decide) fl47 (fun _ h9 => h9) rfl dX9_firstWrong_22 ?_
        refine lv_iload_n hx hb dX9_firstWrong_25 rfl (lv_at hl 1 rfl) ?_
        refine roV (n := 1) (As := [.int (zI ((qq : Nat) : Int))]) (rest := [.ref h0, .ref h8]) hSf (c_lineOf l D k h3 i3 j3 k3 ba bb bd bn qq (by omega)) gX9_firstWrong_X0_lineOf rfl (by decide +kernel) ⟨Nat.le_of_ble_eq_true rfl, Nat.le_of_ble_eq_true rfl⟩ hK hP [12, 13, 14, 15] rfl 0 rfl rfl rfl hl.1 rfl (Nat.le_of_ble_eq_true rfl) dX9_firstWrong_26 ⟨Nat.zero_le _, Nat.zero_le _⟩ (fun r_26 h_26 => ?_)
        subst h_26
        refine mrV (n := 2) (As := [.ref h0, .int (zI ((((ba qq).toNat) : Nat) : Int))]) (rest := []) hSf (c_paintNow l D k h0 c0 f B hV h8 h5 a5 h6 s6 p6 h9 s9 p9 (zz.1, (zz.2.1.1, zz.2.1.2.1, zz.2.1.2.2), (zz.2.2.1, zz.2.2.2.1, zz.2.2.2.2)) hB ((ba qq).toNat) (by omega)) gX9_firstWrong_X8_paintNow rfl (by decide +kernel) ⟨Nat.le_of_ble_eq_true rfl, Nat.le_of_ble_eq_true rfl⟩ hK hP hD hS [1, 2, 3, 4, 5, 6, 7, 8, 9, 10, 11] rfl rfl (by decide) (fun _ => rfl) (fun _ => rfl) 2 rfl rfl rfl hl.1 (by rw [show zI (ba qq) = zI ((((ba qq).toNat) : Nat) : Int) from zc (by omega)]; rfl) (Nat.le_of_ble_eq_true rfl) dX9_firstWrong_29 ⟨Nat.zero_le _, Nat.zero_le _⟩ (fun u_29 H locs h_29 hP hD hS => ?_)
        have hP : va_P D vwCl [(x9, .inr (9, [.ref h0, .ref h8, .ref h4, .ref h2, .ref hh, .ref h3, .ref h1, .ref im, .ref sd, .ref kp])), (h0, .inr (7, [.ref c0])), (c0, .inl (k.1, 132, .inl (zF f))), (h8, .inr (8, [.ref h5, .ref h6, .ref h9])), (h5, .inr (5, [.ref a5])), (a5, .inl (k.1, 12, .inl (zF u_29.1))), (h6, .inr (6, [.ref s6, .ref p6, .int (zI ((u_29.2.1.2.2 : Nat) : Int))])), (s6, .inl (k.1, 12, .inl (zF (nF u_29.2.1.1)))), (p6, .inl (k.1, 3, .inl (zF (nF u_29.2.1.2.1)))), (h9, .inr (6, [.ref s9, .ref p9, .int (zI ((u_29.2.2.2.2 : Nat) : Int))])), (s9, .inl (k.1, 12, .inl (zF (nF u_29.2.2.1)))), (p9, .inl (k.1, 3, .inl (zF (nF u_29.2.2.2.1)))), (h3, .inr (0, [.ref i3, .ref j3, .ref k3, .int (zI ((bn : Nat) : Int))])), (i3, .inl (k.1, 20, .inl (zF ba))), (j3, .inl (k.1, 20, .inl (zF bb))), (k3, .inl (k.1, 20, .inl (zF bd)))] H := hP
        have hD : va_D A [(x9, .inr (9, [.ref h0, .ref h8, .ref h4, .ref h2, .ref hh, .ref h3, .ref h1, .ref im, .ref sd, .ref kp])), (h0, .inr (7, [.ref c0])), (c0, .inl (k.1, 132, .inl (zF f))), (h8, .inr (8, [.ref h5, .ref h6, .ref h9])), (h5, .inr (5, [.ref a5])), (a5, .inl (k.1, 12, .inl (zF u_29.1))), (h6, .inr (6, [.ref s6, .ref p6, .int (zI ((u_29.2.1.2.2 : Nat) : Int))])), (s6, .inl (k.1, 12, .inl (zF (nF u_29.2.1.1)))), (p6, .inl (k.1, 3, .inl (zF (nF u_29.2.1.2.1)))), (h9, .inr (6, [.ref s9, .ref p9, .int (zI ((u_29.2.2.2.2 : Nat) : Int))])), (s9, .inl (k.1, 12, .inl (zF (nF u_29.2.2.1)))), (p9, .inl (k.1, 3, .inl (zF (nF u_29.2.2.2.1)))), (h3, .inr (0, [.ref i3, .ref j3, .ref k3, .int (zI ((bn : Nat) : Int))])), (i3, .inl (k.1, 20, .inl (zF ba))), (j3, .inl (k.1, 20, .inl (zF bb))), (k3, .inl (k.1, 20, .inl (zF bd)))] := hD
        refine lv_astore_n (lv' := [(2, .ref h6), (0, .ref x9), (1, .int (zI ((qq : Nat) : Int)))]) hx hb dX9_firstWrong_32 rfl hl (by decide) rfl (fun ls hl => ?_)
        refine lv_aload_n hx hb dX9_firstWrong_33 rfl (lv_at hl 0 rfl) ?_
        refine lv_aload_n hx hb dX9_firstWrong_34 rfl (lv_at hl 1 rfl) ?_
        refine va_get (D := D) (ci := 9) (v := .ref h0) (C := RX9) (T := TX9) (N := 10) hx hb hts hinX9 hown hK.1 hP 0 rfl rfl 0 (by decide) fl10 (fun _ h9 => h9) rfl dX9_firstWrong_35 ?_
        refine lv_aload_n hx hb dX9_firstWrong_38 rfl (lv_at hl 1 rfl) ?_
        refine va_get (D := D) (ci := 9) (v := .ref h3) (C := RX9) (T := TX9) (N := 10) hx hb hts hinX9 hown hK.1 hP 0 rfl rfl 5 (by decide) fl47 (fun _ h9 => h9) rfl dX9_firstWrong_39 ?_
        refine lv_iload_n hx hb dX9_firstWrong_42 rfl (lv_at hl 2 rfl) ?_
        refine roV (n := 1) (As := [.int (zI ((qq : Nat) : Int))]) (rest := [.ref h0, .ref h6]) hSf (c_columnOf l D k h3 i3 j3 k3 ba bb bd bn qq (by omega)) gX9_firstWrong_X0_columnOf rfl (by decide +kernel) ⟨Nat.le_of_ble_eq_true rfl, Nat.le_of_ble_eq_true rfl⟩ hK hP [12, 13, 14, 15] rfl 0 rfl rfl rfl hl.1 rfl (Nat.le_of_ble_eq_true rfl) dX9_firstWrong_43 ⟨Nat.zero_le _, Nat.zero_le _⟩ (fun r_43 h_43 => ?_)
        subst h_43
        refine roV (n := 2) (As := [.ref h0, .int (zI ((((bb qq).toNat) : Nat) : Int))]) (rest := []) hSf (c_colourAt l D k h0 c0 f B hV h6 s6 p6 u_29.2.1.1 u_29.2.1.2.1 u_29.2.1.2.2 ((ba qq).toNat) (dN f (ba qq).toNat) h_29 ((bb qq).toNat) (by omega)) gX9_firstWrong_X6_colourAt rfl (by decide +kernel) ⟨Nat.le_of_ble_eq_true rfl, Nat.le_of_ble_eq_true rfl⟩ hK hP [1, 2, 6, 7, 8] rfl 2 rfl rfl rfl hl.1 (by rw [show zI (bb qq) = zI ((((bb qq).toNat) : Nat) : Int) from zc (by omega)]; rfl) (Nat.le_of_ble_eq_true rfl) dX9_firstWrong_46 ⟨Nat.zero_le _, Nat.zero_le _⟩ (fun r_46 h_46 => ?_)
        subst h_46
        refine lv_aload_n hx hb dX9_firstWrong_49 rfl (lv_at hl 1 rfl) ?_
        refine va_get (D := D) (ci := 9) (v := .ref h3) (C := RX9) (T := TX9) (N := 10) hx hb hts hinX9 hown hK.1 hP 0 rfl rfl 5 (by decide) fl47 (fun _ h9 => h9) rfl dX9_firstWrong_50 ?_
        refine lv_iload_n hx hb dX9_firstWrong_53 rfl (lv_at hl 2 rfl) ?_
        refine roV (n := 1) (As := [.int (zI ((qq : Nat) : Int))]) (rest := [.int (zI (colA f (dN f (ba qq).toNat) ((ba qq).toNat) ((bb qq).toNat)))]) hSf (c_colourOf l D k h3 i3 j3 k3 ba bb bd bn qq (by omega)) gX9_firstWrong_X0_colourOf rfl (by decide +kernel) ⟨Nat.le_of_ble_eq_true rfl, Nat.le_of_ble_eq_true rfl⟩ hK hP [12, 13, 14, 15] rfl 0 rfl rfl rfl hl.1 rfl (Nat.le_of_ble_eq_true rfl) dX9_firstWrong_54 ⟨Nat.zero_le _, Nat.zero_le _⟩ (fun r_54 h_54 => ?_)
        subst h_54
        refine z_icmp_eq (tgt := 62) hx hb dX9_firstWrong_57 (by decide) (by have := colA_rg hV (dN f (ba qq).toNat) (ba qq).toNat (bb qq).toNat; omega) (by omega) (fun c_57 => ?_) (fun c_57 => ?_)
        · refine lv_iinc (v := zI (((qq : Nat) : Int) + 1)) (lv' := [(1, .int (zI (((qq : Nat) : Int) + 1))), (2, .ref h6), (0, .ref x9)]) hx hb dX9_firstWrong_62 hl (k := 2) rfl (zI_add _ _) (by decide) rfl (fun ls hl => ?_)
          refine lv_goto (tgt := 2) hx hb dX9_firstWrong_65 (by decide) ?_
          have hl : lv_has ls 3 [(1, .int (zI (((qq + 1) : Nat) : Int))), (2, .ref h6), (0, .ref x9)] := lv_c (l1 := []) (l2 := [(2, .ref h6), (0, .ref x9)]) hl (show ((qq : Nat) : Int) + 1 = (((qq + 1) : Nat) : Int) from by omega)
          exact ih2 (qq + 1) (u_29.1, (u_29.2.1.1, u_29.2.1.2.1, u_29.2.1.2.2), (u_29.2.2.1, u_29.2.2.2.1, u_29.2.2.2.2)) (by omega) (lt_s hno (decide_eq_false (fun hz => hz c_57))) (by omega) _ _ hP hD hS ls (lv_sub hl [2, 0] rfl)
        · refine lv_iload_n hx hb dX9_firstWrong_60 rfl (lv_at hl 2 rfl) ?_
          exact W.iret hx hb hr (fun t ht hW => ⟨⟨_, (u_29.1, (u_29.2.1.1, u_29.2.1.2.1, u_29.2.1.2.2), (u_29.2.2.1, u_29.2.2.2.1, u_29.2.2.2.2)), rfl, ⟨zc (by have he := fsN_eq (p := wrP f ba bb bd) hno (show qq ≤ bn by omega) (Or.inr (decide_eq_true c_57)); unfold wrF; rw [← he, if_pos (by omega)]), trivial⟩, by show va_P D vwCl _ _; rw [ht]; exact hP⟩, hS.F ht⟩) hS.2.2 dX9_firstWrong_61
  have hl : lv_has ls 3 [(1, .int (zI ((0 : Nat) : Int))), (0, .ref x9)] := lv_c (l1 := []) (l2 := [(0, .ref x9)]) hl (show 0 = ((0 : Nat) : Int) from rfl)
  exact L2 _ 0 (z.1, (z.2.1.1, z.2.1.2.1, z.2.1.2.2), (z.2.2.1, z.2.2.2.1, z.2.2.2.2)) (Nat.zero_le _) (fun i hi => absurd hi (Nat.not_lt_zero _)) (Nat.lt_succ_self _) _ _ hP hD hS ls (lv_sub hl [1, 0] rfl)
set_option maxHeartbeats 4000000 in
set_option maxRecDepth 100000 in
theorem c_told (l : Launch) (D : va_G) (k : Kt) (x9 : Nat) (h0 : Nat) (c0 : Nat) (h8 : Nat) (h4 : Nat) (h2 : Nat) (hh : Nat) (h3 : Nat) (h1 : Nat) (im : Nat) (sd : Nat) (kp : Nat) (f : St) (B : Int) (hV : Va B f) (h5 : Nat) (a5 : Nat) (h6 : Nat) (s6 : Nat) (p6 : Nat) (h9 : Nat) (s9 : Nat) (p9 : Nat) (z : (Nat → Int) × ((Nat → Nat) × (Nat → Nat) × Nat) × ((Nat → Nat) × (Nat → Nat) × Nat)) (hB : B < 1000000) (b4 : Nat) (e4 : Nat) (ho : Nat → Int) (en : Nat → Int) (us : Nat) (eo : Nat) (nx : Nat) (sz : Nat) (i3 : Nat) (j3 : Nat) (k3 : Nat) (ba : Nat → Int) (bb : Nat → Int) (bd : Nat → Int) (bn : Nat) (hbk : BoOK ba bb bd bn) (x1 : Int) (hx1 : -2147483648 ≤ x1 ∧ x1 < 2147483648) : MI l D k yX9_told wsX9_told 6 140 [.ref x9, .int (zI x1)] [(x9, .inr (9, [.ref h0, .ref h8, .ref h4, .ref h2, .ref hh, .ref h3, .ref h1, .ref im, .ref sd, .ref kp])), (h0, .inr (7, [.ref c0])), (c0, .inl (k.1, 132, .inl (zF f))), (h8, .inr (8, [.ref h5, .ref h6, .ref h9])), (h5, .inr (5, [.ref a5])), (a5, .inl (k.1, 12, .inl (zF z.1))), (h6, .inr (6, [.ref s6, .ref p6, .int (zI ((z.2.1.2.2 : Nat) : Int))])), (s6, .inl (k.1, 12, .inl (zF (nF z.2.1.1)))), (p6, .inl (k.1, 3, .inl (zF (nF z.2.1.2.1)))), (h9, .inr (6, [.ref s9, .ref p9, .int (zI ((z.2.2.2.2 : Nat) : Int))])), (s9, .inl (k.1, 12, .inl (zF (nF z.2.2.1)))), (p9, .inl (k.1, 3, .inl (zF (nF z.2.2.2.1)))), (h4, .inr (4, [.ref b4, .ref e4, .int (zI ((us : Nat) : Int))])), (b4, .inl (k.1, 12, .inl (zF ho))), (e4, .inl (k.1, 12, .inl (zF en))), (hh, .inr (3, [.ref eo, .int (zI ((nx : Nat) : Int)), .int (zI ((sz : Nat) : Int))])), (h3, .inr (0, [.ref i3, .ref j3, .ref k3, .int (zI ((bn : Nat) : Int))])), (i3, .inl (k.1, 20, .inl (zF ba))), (j3, .inl (k.1, 20, .inl (zF bb))), (k3, .inl (k.1, 20, .inl (zF bd)))] (fun (r : Int32) (u : ((Nat → Int) × ((Nat → Nat) × (Nat → Nat) × Nat) × ((Nat → Nat) × (Nat → Nat) × Nat)) × (Nat → Int) × (Nat → Int) × Nat) => r = zI (vTold f bn sz (wrF f ba bb bd bn) x1) ∧ True) (fun u => [(x9, .inr (9, [.ref h0, .ref h8, .ref h4, .ref h2, .ref hh, .ref h3, .ref h1, .ref im, .ref sd, .ref kp])), (h0, .inr (7, [.ref c0])), (c0, .inl (k.1, 132, .inl (zF f))), (h8, .inr (8, [.ref h5, .ref h6, .ref h9])), (h5, .inr (5, [.ref a5])), (a5, .inl (k.1, 12, .inl (zF u.1.1))), (h6, .inr (6, [.ref s6, .ref p6, .int (zI ((u.1.2.1.2.2 : Nat) : Int))])), (s6, .inl (k.1, 12, .inl (zF (nF u.1.2.1.1)))), (p6, .inl (k.1, 3, .inl (zF (nF u.1.2.1.2.1)))), (h9, .inr (6, [.ref s9, .ref p9, .int (zI ((u.1.2.2.2.2 : Nat) : Int))])), (s9, .inl (k.1, 12, .inl (zF (nF u.1.2.2.1)))), (p9, .inl (k.1, 3, .inl (zF (nF u.1.2.2.2.1)))), (h4, .inr (4, [.ref b4, .ref e4, .int (zI ((u.2.2.2 : Nat) : Int))])), (b4, .inl (k.1, 12, .inl (zF u.2.1))), (e4, .inl (k.1, 12, .inl (zF u.2.2.1))), (hh, .inr (3, [.ref eo, .int (zI ((nx : Nat) : Int)), .int (zI ((sz : Nat) : Int))])), (h3, .inr (0, [.ref i3, .ref j3, .ref k3, .int (zI ((bn : Nat) : Int))])), (i3, .inl (k.1, 20, .inl (zF ba))), (j3, .inl (k.1, 20, .inl (zF bb))), (k3, .inl (k.1, 20, .inl (zF bd)))]) := by
  refine Met.ofW (cc := cX9_told) (maxL := 2) (ret := (some .int)) (by decide) rfl ?_
  intro p e s m args below meth c s₁ Bd hml hv
  obtain ⟨rfl, hP, hK, hD0⟩ := hv
  have hx := Bd.exec
  have hb := Bd.bytes
  have hr := Bd.returns
  have hts := atoms_spec (ws := wsX9_told) Bd.pre
  have hown : s.vm.findClass RX9 = some m.cls := findClass_of_methodNamed Bd.named
  have hlocks := Bd.notSynchronized
  have hSf : CallFix p m c cX9_told 2 s ([.ref x9, .int (zI x1)] : List Value).toArray wsX9_told RX9 := ⟨hx, hb, hml, hown, hts⟩
  have hD := fA_D hD0
  have hS : va_S (fA [(x9, .inr (9, [.ref h0, .ref h8, .ref h4, .ref h2, .ref hh, .ref h3, .ref h1, .ref im, .ref sd, .ref kp])), (h0, .inr (7, [.ref c0])), (c0, .inl (k.1, 132, .inl (zF f))), (h8, .inr (8, [.ref h5, .ref h6, .ref h9])), (h5, .inr (5, [.ref a5])), (a5, .inl (k.1, 12, .inl (zF z.1))), (h6, .inr (6, [.ref s6, .ref p6, .int (zI ((z.2.1.2.2 : Nat) : Int))])), (s6, .inl (k.1, 12, .inl (zF (nF z.2.1.1)))), (p6, .inl (k.1, 3, .inl (zF (nF z.2.1.2.1)))), (h9, .inr (6, [.ref s9, .ref p9, .int (zI ((z.2.2.2.2 : Nat) : Int))])), (s9, .inl (k.1, 12, .inl (zF (nF z.2.2.1)))), (p9, .inl (k.1, 3, .inl (zF (nF z.2.2.2.1)))), (h4, .inr (4, [.ref b4, .ref e4, .int (zI ((us : Nat) : Int))])), (b4, .inl (k.1, 12, .inl (zF ho))), (e4, .inl (k.1, 12, .inl (zF en))), (hh, .inr (3, [.ref eo, .int (zI ((nx : Nat) : Int)), .int (zI ((sz : Nat) : Int))])), (h3, .inr (0, [.ref i3, .ref j3, .ref k3, .int (zI ((bn : Nat) : Int))])), (i3, .inl (k.1, 20, .inl (zF ba))), (j3, .inl (k.1, 20, .inl (zF bb))), (k3, .inl (k.1, 20, .inl (zF bd)))]) s.heap s.heap [] := va_S.rf
  generalize hAe : fA [(x9, .inr (9, [.ref h0, .ref h8, .ref h4, .ref h2, .ref hh, .ref h3, .ref h1, .ref im, .ref sd, .ref kp])), (h0, .inr (7, [.ref c0])), (c0, .inl (k.1, 132, .inl (zF f))), (h8, .inr (8, [.ref h5, .ref h6, .ref h9])), (h5, .inr (5, [.ref a5])), (a5, .inl (k.1, 12, .inl (zF z.1))), (h6, .inr (6, [.ref s6, .ref p6, .int (zI ((z.2.1.2.2 : Nat) : Int))])), (s6, .inl (k.1, 12, .inl (zF (nF z.2.1.1)))), (p6, .inl (k.1, 3, .inl (zF (nF z.2.1.2.1)))), (h9, .inr (6, [.ref s9, .ref p9, .int (zI ((z.2.2.2.2 : Nat) : Int))])), (s9, .inl (k.1, 12, .inl (zF (nF z.2.2.1)))), (p9, .inl (k.1, 3, .inl (zF (nF z.2.2.2.1)))), (h4, .inr (4, [.ref b4, .ref e4, .int (zI ((us : Nat) : Int))])), (b4, .inl (k.1, 12, .inl (zF ho))), (e4, .inl (k.1, 12, .inl (zF en))), (hh, .inr (3, [.ref eo, .int (zI ((nx : Nat) : Int)), .int (zI ((sz : Nat) : Int))])), (h3, .inr (0, [.ref i3, .ref j3, .ref k3, .int (zI ((bn : Nat) : Int))])), (i3, .inl (k.1, 20, .inl (zF ba))), (j3, .inl (k.1, 20, .inl (zF bb))), (k3, .inl (k.1, 20, .inl (zF bd)))] = A at hD hS ⊢
  have hP : va_P D vwCl [(x9, .inr (9, [.ref h0, .ref h8, .ref h4, .ref h2, .ref hh, .ref h3, .ref h1, .ref im, .ref sd, .ref kp])), (h0, .inr (7, [.ref c0])), (c0, .inl (k.1, 132, .inl (zF f))), (h8, .inr (8, [.ref h5, .ref h6, .ref h9])), (h5, .inr (5, [.ref a5])), (a5, .inl (k.1, 12, .inl (zF z.1))), (h6, .inr (6, [.ref s6, .ref p6, .int (zI ((z.2.1.2.2 : Nat) : Int))])), (s6, .inl (k.1, 12, .inl (zF (nF z.2.1.1)))), (p6, .inl (k.1, 3, .inl (zF (nF z.2.1.2.1)))), (h9, .inr (6, [.ref s9, .ref p9, .int (zI ((z.2.2.2.2 : Nat) : Int))])), (s9, .inl (k.1, 12, .inl (zF (nF z.2.2.1)))), (p9, .inl (k.1, 3, .inl (zF (nF z.2.2.2.1)))), (h4, .inr (4, [.ref b4, .ref e4, .int (zI ((us : Nat) : Int))])), (b4, .inl (k.1, 12, .inl (zF ho))), (e4, .inl (k.1, 12, .inl (zF en))), (hh, .inr (3, [.ref eo, .int (zI ((nx : Nat) : Int)), .int (zI ((sz : Nat) : Int))])), (h3, .inr (0, [.ref i3, .ref j3, .ref k3, .int (zI ((bn : Nat) : Int))])), (i3, .inl (k.1, 20, .inl (zF ba))), (j3, .inl (k.1, 20, .inl (zF bb))), (k3, .inl (k.1, 20, .inl (zF bd)))] s.heap := hP
  have hinX9 : ∀ w ∈ u_ws RX9 TX9 10, w ∈ wsX9_told := by decide +kernel
  have fl10 := hts (.fieldLink RX9 10 "DotObjects" "scene" "LDotObjects$Scene;") (by decide +kernel)
  have fl19 := hts (.fieldLink RX9 19 "DotObjects" "screen" "LDotObjects$Screen;") (by decide +kernel)
  have fl26 := hts (.fieldLink RX9 26 "DotObjects" "holders" "LDotObjects$Holders;") (by decide +kernel)
  have fl47 := hts (.fieldLink RX9 47 "DotObjects" "book" "LDotObjects$Book;") (by decide +kernel)
  have fl40 := hts (.fieldLink RX9 40 "DotObjects" "history" "LDotObjects$History;") (by decide +kernel)
  have hl := lv_entry ([.ref x9, .int (zI x1)]) (n := 2) (Nat.le_of_ble_eq_true rfl)
  rw [lg_entry_eq]
  generalize (lg_sl ([.ref x9, .int (zI x1)]) ++ List.replicate (2 - (lg_sl ([.ref x9, .int (zI x1)])).length) Slot.unset).toArray = ls at hl ⊢
  have hl : lv_has ls 2 [(0, .ref x9), (1, .int (zI x1))] := hl
  have hv0 := hV.1
  refine lv_iload_n hx hb dX9_told_0 rfl (lv_at hl 1 rfl) ?_
  rcases sw_cases (x := x1) (lo := 0) (hi := 11) with hsw | hsw
  · refine lv_tableOut (tgt := 174) hx hb dX9_told_1 (by rw [zI_toInt (by omega)]; omega) (by decide) ?_
    refine lv_ldc hx hb hown (hts (.constant RX9 99 (-1000000002)) (by decide +kernel)) dX9_told_174 ?_
    refine te (show (-1000000002 : Int32) = zI (-1000000002) from by decide +kernel) ?_
    exact W.iret hx hb hr (fun t ht hW => ⟨⟨_, ((z.1, (z.2.1.1, z.2.1.2.1, z.2.1.2.2), (z.2.2.1, z.2.2.2.1, z.2.2.2.2)), ho, en, us), rfl, ⟨zc (by unfold vTold; rw [if_neg (by omega), if_neg (by omega), if_neg (by omega), if_neg (by omega), if_neg (by omega), if_neg (by omega), if_neg (by omega), if_neg (by omega), if_neg (by omega), if_neg (by omega), if_neg (by omega), if_neg (by omega)]), trivial⟩, by show va_P D vwCl _ _; rw [ht]; exact hP⟩, hS.F ht⟩) hS.2.2 dX9_told_176
  · rcases (show x1 = 0 ∨ x1 = 1 ∨ x1 = 2 ∨ x1 = 3 ∨ x1 = 4 ∨ x1 = 5 ∨ x1 = 6 ∨ x1 = 7 ∨ x1 = 8 ∨ x1 = 9 ∨ x1 = 10 ∨ x1 = 11 from by omega) with hsw | hsw | hsw | hsw | hsw | hsw | hsw | hsw | hsw | hsw | hsw | hsw
    · refine lv_tableIn (off := 63) (tgt := 64) hx hb dX9_told_1 (by rw [zI_toInt (by omega)]; omega) (by rw [zI_toInt (by omega)]; omega) (by rw [zI_toInt (by omega), hsw]; decide) (by decide) ?_
      refine lv_aload_n hx hb dX9_told_64 rfl (lv_at hl 0 rfl) ?_
      refine va_get (D := D) (ci := 9) (v := .ref h0) (C := RX9) (T := TX9) (N := 10) hx hb hts hinX9 hown hK.1 hP 0 rfl rfl 0 (by decide) fl10 (fun _ h9 => h9) rfl dX9_told_65 ?_
      refine z_iconst hx hb dX9_told_68 ?_
      refine roV (n := 1) (As := [.int (zI ((0 : Nat) : Int))]) (rest := []) hSf (c_cell l D k h0 c0 f 0 (by omega)) gX9_told_X7_cell rfl (by decide +kernel) ⟨Nat.le_of_ble_eq_true rfl, Nat.le_of_ble_eq_true rfl⟩ hK hP [1, 2] rfl 0 rfl rfl rfl hl.1 (by rw [show zI 0 = zI ((0 : Nat) : Int) from zc (by omega)]; rfl) (Nat.le_of_ble_eq_true rfl) dX9_told_69 ⟨Nat.zero_le _, Nat.zero_le _⟩ (fun r_69 h_69 => ?_)
      subst h_69
      exact W.iret hx hb hr (fun t ht hW => ⟨⟨_, ((z.1, (z.2.1.1, z.2.1.2.1, z.2.1.2.2), (z.2.2.1, z.2.2.2.1, z.2.2.2.2)), ho, en, us), rfl, ⟨zc (by rw [hsw]; rfl), trivial⟩, by show va_P D vwCl _ _; rw [ht]; exact hP⟩, hS.F ht⟩) hS.2.2 dX9_told_72
    · refine lv_tableIn (off := 72) (tgt := 73) hx hb dX9_told_1 (by rw [zI_toInt (by omega)]; omega) (by rw [zI_toInt (by omega)]; omega) (by rw [zI_toInt (by omega), hsw]; decide) (by decide) ?_
      refine lv_aload_n hx hb dX9_told_73 rfl (lv_at hl 0 rfl) ?_
      refine va_get (D := D) (ci := 9) (v := .ref h0) (C := RX9) (T := TX9) (N := 10) hx hb hts hinX9 hown hK.1 hP 0 rfl rfl 0 (by decide) fl10 (fun _ h9 => h9) rfl dX9_told_74 ?_
      refine z_iconst hx hb dX9_told_77 ?_
      refine roV (n := 1) (As := [.int (zI ((1 : Nat) : Int))]) (rest := []) hSf (c_cell l D k h0 c0 f 1 (by omega)) gX9_told_X7_cell rfl (by decide +kernel) ⟨Nat.le_of_ble_eq_true rfl, Nat.le_of_ble_eq_true rfl⟩ hK hP [1, 2] rfl 0 rfl rfl rfl hl.1 (by rw [show zI 1 = zI ((1 : Nat) : Int) from zc (by omega)]; rfl) (Nat.le_of_ble_eq_true rfl) dX9_told_78 ⟨Nat.zero_le _, Nat.zero_le _⟩ (fun r_78 h_78 => ?_)
      subst h_78
      exact W.iret hx hb hr (fun t ht hW => ⟨⟨_, ((z.1, (z.2.1.1, z.2.1.2.1, z.2.1.2.2), (z.2.2.1, z.2.2.2.1, z.2.2.2.2)), ho, en, us), rfl, ⟨zc (by rw [hsw]; rfl), trivial⟩, by show va_P D vwCl _ _; rw [ht]; exact hP⟩, hS.F ht⟩) hS.2.2 dX9_told_81
    · refine lv_tableIn (off := 81) (tgt := 82) hx hb dX9_told_1 (by rw [zI_toInt (by omega)]; omega) (by rw [zI_toInt (by omega)]; omega) (by rw [zI_toInt (by omega), hsw]; decide) (by decide) ?_
      refine lv_aload_n hx hb dX9_told_82 rfl (lv_at hl 0 rfl) ?_
      refine va_get (D := D) (ci := 9) (v := .ref h0) (C := RX9) (T := TX9) (N := 10) hx hb hts hinX9 hown hK.1 hP 0 rfl rfl 0 (by decide) fl10 (fun _ h9 => h9) rfl dX9_told_83 ?_
      refine z_iconst hx hb dX9_told_86 ?_
      refine roV (n := 1) (As := [.int (zI ((2 : Nat) : Int))]) (rest := []) hSf (c_cell l D k h0 c0 f 2 (by omega)) gX9_told_X7_cell rfl (by decide +kernel) ⟨Nat.le_of_ble_eq_true rfl, Nat.le_of_ble_eq_true rfl⟩ hK hP [1, 2] rfl 0 rfl rfl rfl hl.1 (by rw [show zI 2 = zI ((2 : Nat) : Int) from zc (by omega)]; rfl) (Nat.le_of_ble_eq_true rfl) dX9_told_87 ⟨Nat.zero_le _, Nat.zero_le _⟩ (fun r_87 h_87 => ?_)
      subst h_87
      exact W.iret hx hb hr (fun t ht hW => ⟨⟨_, ((z.1, (z.2.1.1, z.2.1.2.1, z.2.1.2.2), (z.2.2.1, z.2.2.2.1, z.2.2.2.2)), ho, en, us), rfl, ⟨zc (by rw [hsw]; rfl), trivial⟩, by show va_P D vwCl _ _; rw [ht]; exact hP⟩, hS.F ht⟩) hS.2.2 dX9_told_90
    · refine lv_tableIn (off := 90) (tgt := 91) hx hb dX9_told_1 (by rw [zI_toInt (by omega)]; omega) (by rw [zI_toInt (by omega)]; omega) (by rw [zI_toInt (by omega), hsw]; decide) (by decide) ?_
      refine lv_aload_n hx hb dX9_told_91 rfl (lv_at hl 0 rfl) ?_
      refine va_get (D := D) (ci := 9) (v := .ref h0) (C := RX9) (T := TX9) (N := 10) hx hb hts hinX9 hown hK.1 hP 0 rfl rfl 0 (by decide) fl10 (fun _ h9 => h9) rfl dX9_told_92 ?_
      refine z_iconst hx hb dX9_told_95 ?_
      refine roV (n := 1) (As := [.int (zI ((3 : Nat) : Int))]) (rest := []) hSf (c_cell l D k h0 c0 f 3 (by omega)) gX9_told_X7_cell rfl (by decide +kernel) ⟨Nat.le_of_ble_eq_true rfl, Nat.le_of_ble_eq_true rfl⟩ hK hP [1, 2] rfl 0 rfl rfl rfl hl.1 (by rw [show zI 3 = zI ((3 : Nat) : Int) from zc (by omega)]; rfl) (Nat.le_of_ble_eq_true rfl) dX9_told_96 ⟨Nat.zero_le _, Nat.zero_le _⟩ (fun r_96 h_96 => ?_)
      subst h_96
      exact W.iret hx hb hr (fun t ht hW => ⟨⟨_, ((z.1, (z.2.1.1, z.2.1.2.1, z.2.1.2.2), (z.2.2.1, z.2.2.2.1, z.2.2.2.2)), ho, en, us), rfl, ⟨zc (by rw [hsw]; rfl), trivial⟩, by show va_P D vwCl _ _; rw [ht]; exact hP⟩, hS.F ht⟩) hS.2.2 dX9_told_99
    · refine lv_tableIn (off := 99) (tgt := 100) hx hb dX9_told_1 (by rw [zI_toInt (by omega)]; omega) (by rw [zI_toInt (by omega)]; omega) (by rw [zI_toInt (by omega), hsw]; decide) (by decide) ?_
      refine lv_aload_n hx hb dX9_told_100 rfl (lv_at hl 0 rfl) ?_
      refine miV (n := 0) (As := []) (rest := []) hSf (c_missingNow l D k x9 h0 c0 h8 h4 h2 hh h3 h1 im sd kp f B hV h5 a5 h6 s6 p6 h9 s9 p9 (z.1, (z.2.1.1, z.2.1.2.1, z.2.1.2.2), (z.2.2.1, z.2.2.2.1, z.2.2.2.2)) hB) gX9_told_X9_missingNow rfl (by decide +kernel) ⟨Nat.le_of_ble_eq_true rfl, Nat.le_of_ble_eq_true rfl⟩ hK hP hD hS [0, 1, 2, 3, 4, 5, 6, 7, 8, 9, 10, 11] rfl rfl (by decide) (fun _ => rfl) (fun _ => rfl) 0 rfl rfl rfl hl.1 rfl (Nat.le_of_ble_eq_true rfl) dX9_told_101 ⟨Nat.zero_le _, Nat.zero_le _⟩ (fun r_101 u_101 H locs h_101 hP hD hS => ?_)
      have hP : va_P D vwCl [(x9, .inr (9, [.ref h0, .ref h8, .ref h4, .ref h2, .ref hh, .ref h3, .ref h1, .ref im, .ref sd, .ref kp])), (h0, .inr (7, [.ref c0])), (c0, .inl (k.1, 132, .inl (zF f))), (h8, .inr (8, [.ref h5, .ref h6, .ref h9])), (h5, .inr (5, [.ref a5])), (a5, .inl (k.1, 12, .inl (zF u_101.1))), (h6, .inr (6, [.ref s6, .ref p6, .int (zI ((u_101.2.1.2.2 : Nat) : Int))])), (s6, .inl (k.1, 12, .inl (zF (nF u_101.2.1.1)))), (p6, .inl (k.1, 3, .inl (zF (nF u_101.2.1.2.1)))), (h9, .inr (6, [.ref s9, .ref p9, .int (zI ((u_101.2.2.2.2 : Nat) : Int))])), (s9, .inl (k.1, 12, .inl (zF (nF u_101.2.2.1)))), (p9, .inl (k.1, 3, .inl (zF (nF u_101.2.2.2.1)))), (h4, .inr (4, [.ref b4, .ref e4, .int (zI ((us : Nat) : Int))])), (b4, .inl (k.1, 12, .inl (zF ho))), (e4, .inl (k.1, 12, .inl (zF en))), (hh, .inr (3, [.ref eo, .int (zI ((nx : Nat) : Int)), .int (zI ((sz : Nat) : Int))])), (h3, .inr (0, [.ref i3, .ref j3, .ref k3, .int (zI ((bn : Nat) : Int))])), (i3, .inl (k.1, 20, .inl (zF ba))), (j3, .inl (k.1, 20, .inl (zF bb))), (k3, .inl (k.1, 20, .inl (zF bd)))] H := hP
      have hD : va_D A [(x9, .inr (9, [.ref h0, .ref h8, .ref h4, .ref h2, .ref hh, .ref h3, .ref h1, .ref im, .ref sd, .ref kp])), (h0, .inr (7, [.ref c0])), (c0, .inl (k.1, 132, .inl (zF f))), (h8, .inr (8, [.ref h5, .ref h6, .ref h9])), (h5, .inr (5, [.ref a5])), (a5, .inl (k.1, 12, .inl (zF u_101.1))), (h6, .inr (6, [.ref s6, .ref p6, .int (zI ((u_101.2.1.2.2 : Nat) : Int))])), (s6, .inl (k.1, 12, .inl (zF (nF u_101.2.1.1)))), (p6, .inl (k.1, 3, .inl (zF (nF u_101.2.1.2.1)))), (h9, .inr (6, [.ref s9, .ref p9, .int (zI ((u_101.2.2.2.2 : Nat) : Int))])), (s9, .inl (k.1, 12, .inl (zF (nF u_101.2.2.1)))), (p9, .inl (k.1, 3, .inl (zF (nF u_101.2.2.2.1)))), (h4, .inr (4, [.ref b4, .ref e4, .int (zI ((us : Nat) : Int))])), (b4, .inl (k.1, 12, .inl (zF ho))), (e4, .inl (k.1, 12, .inl (zF en))), (hh, .inr (3, [.ref eo, .int (zI ((nx : Nat) : Int)), .int (zI ((sz : Nat) : Int))])), (h3, .inr (0, [.ref i3, .ref j3, .ref k3, .int (zI ((bn : Nat) : Int))])), (i3, .inl (k.1, 20, .inl (zF ba))), (j3, .inl (k.1, 20, .inl (zF bb))), (k3, .inl (k.1, 20, .inl (zF bd)))] := hD
      obtain ⟨he_101, h_101⟩ := h_101
      subst he_101
      exact W.iret hx hb hr (fun t ht hW => ⟨⟨_, ((u_101.1, (u_101.2.1.1, u_101.2.1.2.1, u_101.2.1.2.2), (u_101.2.2.1, u_101.2.2.2.1, u_101.2.2.2.2)), ho, en, us), rfl, ⟨zc (by rw [hsw]; rfl), trivial⟩, by show va_P D vwCl _ _; rw [ht]; exact hP⟩, hS.F ht⟩) hS.2.2 dX9_told_104
    · refine lv_tableIn (off := 104) (tgt := 105) hx hb dX9_told_1 (by rw [zI_toInt (by omega)]; omega) (by rw [zI_toInt (by omega)]; omega) (by rw [zI_toInt (by omega), hsw]; decide) (by decide) ?_
      refine lv_aload_n hx hb dX9_told_105 rfl (lv_at hl 0 rfl) ?_
      refine va_get (D := D) (ci := 9) (v := .ref h8) (C := RX9) (T := TX9) (N := 10) hx hb hts hinX9 hown hK.1 hP 0 rfl rfl 1 (by decide) fl19 (fun _ h9 => h9) rfl dX9_told_106 ?_
      refine lv_aload_n hx hb dX9_told_109 rfl (lv_at hl 0 rfl) ?_
      refine va_get (D := D) (ci := 9) (v := .ref h0) (C := RX9) (T := TX9) (N := 10) hx hb hts hinX9 hown hK.1 hP 0 rfl rfl 0 (by decide) fl10 (fun _ h9 => h9) rfl dX9_told_110 ?_
      refine miV (n := 1) (As := [.ref h0]) (rest := []) hSf (c_bestRule l D k h0 c0 f B hV h8 h5 a5 h6 s6 p6 h9 s9 p9 (z.1, (z.2.1.1, z.2.1.2.1, z.2.1.2.2), (z.2.2.1, z.2.2.2.1, z.2.2.2.2)) hB) gX9_told_X8_bestRule rfl (by decide +kernel) ⟨Nat.le_of_ble_eq_true rfl, Nat.le_of_ble_eq_true rfl⟩ hK hP hD hS [1, 2, 3, 4, 5, 6, 7, 8, 9, 10, 11] rfl rfl (by decide) (fun _ => rfl) (fun _ => rfl) 2 rfl rfl rfl hl.1 rfl (Nat.le_of_ble_eq_true rfl) dX9_told_113 ⟨Nat.zero_le _, Nat.zero_le _⟩ (fun r_113 u_113 H locs h_113 hP hD hS => ?_)
      have hP : va_P D vwCl [(x9, .inr (9, [.ref h0, .ref h8, .ref h4, .ref h2, .ref hh, .ref h3, .ref h1, .ref im, .ref sd, .ref kp])), (h0, .inr (7, [.ref c0])), (c0, .inl (k.1, 132, .inl (zF f))), (h8, .inr (8, [.ref h5, .ref h6, .ref h9])), (h5, .inr (5, [.ref a5])), (a5, .inl (k.1, 12, .inl (zF u_113.1))), (h6, .inr (6, [.ref s6, .ref p6, .int (zI ((u_113.2.1.2.2 : Nat) : Int))])), (s6, .inl (k.1, 12, .inl (zF (nF u_113.2.1.1)))), (p6, .inl (k.1, 3, .inl (zF (nF u_113.2.1.2.1)))), (h9, .inr (6, [.ref s9, .ref p9, .int (zI ((u_113.2.2.2.2 : Nat) : Int))])), (s9, .inl (k.1, 12, .inl (zF (nF u_113.2.2.1)))), (p9, .inl (k.1, 3, .inl (zF (nF u_113.2.2.2.1)))), (h4, .inr (4, [.ref b4, .ref e4, .int (zI ((us : Nat) : Int))])), (b4, .inl (k.1, 12, .inl (zF ho))), (e4, .inl (k.1, 12, .inl (zF en))), (hh, .inr (3, [.ref eo, .int (zI ((nx : Nat) : Int)), .int (zI ((sz : Nat) : Int))])), (h3, .inr (0, [.ref i3, .ref j3, .ref k3, .int (zI ((bn : Nat) : Int))])), (i3, .inl (k.1, 20, .inl (zF ba))), (j3, .inl (k.1, 20, .inl (zF bb))), (k3, .inl (k.1, 20, .inl (zF bd)))] H := hP
      have hD : va_D A [(x9, .inr (9, [.ref h0, .ref h8, .ref h4, .ref h2, .ref hh, .ref h3, .ref h1, .ref im, .ref sd, .ref kp])), (h0, .inr (7, [.ref c0])), (c0, .inl (k.1, 132, .inl (zF f))), (h8, .inr (8, [.ref h5, .ref h6, .ref h9])), (h5, .inr (5, [.ref a5])), (a5, .inl (k.1, 12, .inl (zF u_113.1))), (h6, .inr (6, [.ref s6, .ref p6, .int (zI ((u_113.2.1.2.2 : Nat) : Int))])), (s6, .inl (k.1, 12, .inl (zF (nF u_113.2.1.1)))), (p6, .inl (k.1, 3, .inl (zF (nF u_113.2.1.2.1)))), (h9, .inr (6, [.ref s9, .ref p9, .int (zI ((u_113.2.2.2.2 : Nat) : Int))])), (s9, .inl (k.1, 12, .inl (zF (nF u_113.2.2.1)))), (p9, .inl (k.1, 3, .inl (zF (nF u_113.2.2.2.1)))), (h4, .inr (4, [.ref b4, .ref e4, .int (zI ((us : Nat) : Int))])), (b4, .inl (k.1, 12, .inl (zF ho))), (e4, .inl (k.1, 12, .inl (zF en))), (hh, .inr (3, [.ref eo, .int (zI ((nx : Nat) : Int)), .int (zI ((sz : Nat) : Int))])), (h3, .inr (0, [.ref i3, .ref j3, .ref k3, .int (zI ((bn : Nat) : Int))])), (i3, .inl (k.1, 20, .inl (zF ba))), (j3, .inl (k.1, 20, .inl (zF bb))), (k3, .inl (k.1, 20, .inl (zF bd)))] := hD
      obtain ⟨he_113, h_113⟩ := h_113
      subst he_113
      exact W.iret hx hb hr (fun t ht hW => ⟨⟨_, ((u_113.1, (u_113.2.1.1, u_113.2.1.2.1, u_113.2.1.2.2), (u_113.2.2.1, u_113.2.2.2.1, u_113.2.2.2.2)), ho, en, us), rfl, ⟨zc (by rw [hsw]; rfl), trivial⟩, by show va_P D vwCl _ _; rw [ht]; exact hP⟩, hS.F ht⟩) hS.2.2 dX9_told_116
    · refine lv_tableIn (off := 116) (tgt := 117) hx hb dX9_told_1 (by rw [zI_toInt (by omega)]; omega) (by rw [zI_toInt (by omega)]; omega) (by rw [zI_toInt (by omega), hsw]; decide) (by decide) ?_
      refine lv_aload_n hx hb dX9_told_117 rfl (lv_at hl 0 rfl) ?_
      refine va_get (D := D) (ci := 9) (v := .ref h8) (C := RX9) (T := TX9) (N := 10) hx hb hts hinX9 hown hK.1 hP 0 rfl rfl 1 (by decide) fl19 (fun _ h9 => h9) rfl dX9_told_118 ?_
      refine lv_aload_n hx hb dX9_told_121 rfl (lv_at hl 0 rfl) ?_
      refine va_get (D := D) (ci := 9) (v := .ref h0) (C := RX9) (T := TX9) (N := 10) hx hb hts hinX9 hown hK.1 hP 0 rfl rfl 0 (by decide) fl10 (fun _ h9 => h9) rfl dX9_told_122 ?_
      refine roV (n := 1) (As := [.ref h0]) (rest := []) hSf (c_enough l D k h0 c0 f B hV h8 h5 h6 h9) gX9_told_X8_enough rfl (by decide +kernel) ⟨Nat.le_of_ble_eq_true rfl, Nat.le_of_ble_eq_true rfl⟩ hK hP [1, 2, 3] rfl 2 rfl rfl rfl hl.1 rfl (Nat.le_of_ble_eq_true rfl) dX9_told_125 ⟨Nat.zero_le _, Nat.zero_le _⟩ (fun r_125 h_125 => ?_)
      subst h_125
      exact W.iret hx hb hr (fun t ht hW => ⟨⟨_, ((z.1, (z.2.1.1, z.2.1.2.1, z.2.1.2.2), (z.2.2.1, z.2.2.2.1, z.2.2.2.2)), ho, en, us), rfl, ⟨zc (by rw [hsw]; rfl), trivial⟩, by show va_P D vwCl _ _; rw [ht]; exact hP⟩, hS.F ht⟩) hS.2.2 dX9_told_128
    · refine lv_tableIn (off := 128) (tgt := 129) hx hb dX9_told_1 (by rw [zI_toInt (by omega)]; omega) (by rw [zI_toInt (by omega)]; omega) (by rw [zI_toInt (by omega), hsw]; decide) (by decide) ?_
      refine lv_aload_n hx hb dX9_told_129 rfl (lv_at hl 0 rfl) ?_
      refine va_get (D := D) (ci := 9) (v := .ref h4) (C := RX9) (T := TX9) (N := 10) hx hb hts hinX9 hown hK.1 hP 0 rfl rfl 2 (by decide) fl26 (fun _ h9 => h9) rfl dX9_told_130 ?_
      refine lv_aload_n hx hb dX9_told_133 rfl (lv_at hl 0 rfl) ?_
      refine va_get (D := D) (ci := 9) (v := .ref h0) (C := RX9) (T := TX9) (N := 10) hx hb hts hinX9 hown hK.1 hP 0 rfl rfl 0 (by decide) fl10 (fun _ h9 => h9) rfl dX9_told_134 ?_
      refine miV (n := 1) (As := [.ref h0]) (rest := []) hSf (c_assign l D k h0 c0 f B hV h4 b4 e4 ho en us) gX9_told_X4_assign rfl (by decide +kernel) ⟨Nat.le_of_ble_eq_true rfl, Nat.le_of_ble_eq_true rfl⟩ hK hP hD hS [1, 2, 12, 13, 14] rfl rfl (by decide) (fun _ => rfl) (fun _ => rfl) 2 rfl rfl rfl hl.1 rfl (Nat.le_of_ble_eq_true rfl) dX9_told_137 ⟨Nat.zero_le _, Nat.zero_le _⟩ (fun r_137 u_137 H locs h_137 hP hD hS => ?_)
      have hP : va_P D vwCl [(x9, .inr (9, [.ref h0, .ref h8, .ref h4, .ref h2, .ref hh, .ref h3, .ref h1, .ref im, .ref sd, .ref kp])), (h0, .inr (7, [.ref c0])), (c0, .inl (k.1, 132, .inl (zF f))), (h8, .inr (8, [.ref h5, .ref h6, .ref h9])), (h5, .inr (5, [.ref a5])), (a5, .inl (k.1, 12, .inl (zF z.1))), (h6, .inr (6, [.ref s6, .ref p6, .int (zI ((z.2.1.2.2 : Nat) : Int))])), (s6, .inl (k.1, 12, .inl (zF (nF z.2.1.1)))), (p6, .inl (k.1, 3, .inl (zF (nF z.2.1.2.1)))), (h9, .inr (6, [.ref s9, .ref p9, .int (zI ((z.2.2.2.2 : Nat) : Int))])), (s9, .inl (k.1, 12, .inl (zF (nF z.2.2.1)))), (p9, .inl (k.1, 3, .inl (zF (nF z.2.2.2.1)))), (h4, .inr (4, [.ref b4, .ref e4, .int (zI (((hsF f).1 : Nat) : Int))])), (b4, .inl (k.1, 12, .inl (zF u_137.1))), (e4, .inl (k.1, 12, .inl (zF u_137.2))), (hh, .inr (3, [.ref eo, .int (zI ((nx : Nat) : Int)), .int (zI ((sz : Nat) : Int))])), (h3, .inr (0, [.ref i3, .ref j3, .ref k3, .int (zI ((bn : Nat) : Int))])), (i3, .inl (k.1, 20, .inl (zF ba))), (j3, .inl (k.1, 20, .inl (zF bb))), (k3, .inl (k.1, 20, .inl (zF bd)))] H := hP
      have hD : va_D A [(x9, .inr (9, [.ref h0, .ref h8, .ref h4, .ref h2, .ref hh, .ref h3, .ref h1, .ref im, .ref sd, .ref kp])), (h0, .inr (7, [.ref c0])), (c0, .inl (k.1, 132, .inl (zF f))), (h8, .inr (8, [.ref h5, .ref h6, .ref h9])), (h5, .inr (5, [.ref a5])), (a5, .inl (k.1, 12, .inl (zF z.1))), (h6, .inr (6, [.ref s6, .ref p6, .int (zI ((z.2.1.2.2 : Nat) : Int))])), (s6, .inl (k.1, 12, .inl (zF (nF z.2.1.1)))), (p6, .inl (k.1, 3, .inl (zF (nF z.2.1.2.1)))), (h9, .inr (6, [.ref s9, .ref p9, .int (zI ((z.2.2.2.2 : Nat) : Int))])), (s9, .inl (k.1, 12, .inl (zF (nF z.2.2.1)))), (p9, .inl (k.1, 3, .inl (zF (nF z.2.2.2.1)))), (h4, .inr (4, [.ref b4, .ref e4, .int (zI (((hsF f).1 : Nat) : Int))])), (b4, .inl (k.1, 12, .inl (zF u_137.1))), (e4, .inl (k.1, 12, .inl (zF u_137.2))), (hh, .inr (3, [.ref eo, .int (zI ((nx : Nat) : Int)), .int (zI ((sz : Nat) : Int))])), (h3, .inr (0, [.ref i3, .ref j3, .ref k3, .int (zI ((bn : Nat) : Int))])), (i3, .inl (k.1, 20, .inl (zF ba))), (j3, .inl (k.1, 20, .inl (zF bb))), (k3, .inl (k.1, 20, .inl (zF bd)))] := hD
      obtain ⟨he_137, h_137⟩ := h_137
      subst he_137
      exact W.iret hx hb hr (fun t ht hW => ⟨⟨_, ((z.1, (z.2.1.1, z.2.1.2.1, z.2.1.2.2), (z.2.2.1, z.2.2.2.1, z.2.2.2.2)), u_137.1, u_137.2, (hsF f).1), rfl, ⟨zc (by rw [hsw]; rfl), trivial⟩, by show va_P D vwCl _ _; rw [ht]; exact hP⟩, hS.F ht⟩) hS.2.2 dX9_told_140
    · refine lv_tableIn (off := 140) (tgt := 141) hx hb dX9_told_1 (by rw [zI_toInt (by omega)]; omega) (by rw [zI_toInt (by omega)]; omega) (by rw [zI_toInt (by omega), hsw]; decide) (by decide) ?_
      refine lv_aload_n hx hb dX9_told_141 rfl (lv_at hl 0 rfl) ?_
      refine va_get (D := D) (ci := 9) (v := .ref h8) (C := RX9) (T := TX9) (N := 10) hx hb hts hinX9 hown hK.1 hP 0 rfl rfl 1 (by decide) fl19 (fun _ h9 => h9) rfl dX9_told_142 ?_
      refine lv_aload_n hx hb dX9_told_145 rfl (lv_at hl 0 rfl) ?_
      refine va_get (D := D) (ci := 9) (v := .ref h0) (C := RX9) (T := TX9) (N := 10) hx hb hts hinX9 hown hK.1 hP 0 rfl rfl 0 (by decide) fl10 (fun _ h9 => h9) rfl dX9_told_146 ?_
      refine miV (n := 1) (As := [.ref h0]) (rest := []) hSf (c_filledDots l D k h0 c0 f B hV h8 h5 a5 h6 s6 p6 h9 s9 p9 (z.1, (z.2.1.1, z.2.1.2.1, z.2.1.2.2), (z.2.2.1, z.2.2.2.1, z.2.2.2.2)) hB) gX9_told_X8_filledDots rfl (by decide +kernel) ⟨Nat.le_of_ble_eq_true rfl, Nat.le_of_ble_eq_true rfl⟩ hK hP hD hS [1, 2, 3, 4, 5, 6, 7, 8, 9, 10, 11] rfl rfl (by decide) (fun _ => rfl) (fun _ => rfl) 2 rfl rfl rfl hl.1 rfl (Nat.le_of_ble_eq_true rfl) dX9_told_149 ⟨Nat.zero_le _, Nat.zero_le _⟩ (fun r_149 u_149 H locs h_149 hP hD hS => ?_)
      have hP : va_P D vwCl [(x9, .inr (9, [.ref h0, .ref h8, .ref h4, .ref h2, .ref hh, .ref h3, .ref h1, .ref im, .ref sd, .ref kp])), (h0, .inr (7, [.ref c0])), (c0, .inl (k.1, 132, .inl (zF f))), (h8, .inr (8, [.ref h5, .ref h6, .ref h9])), (h5, .inr (5, [.ref a5])), (a5, .inl (k.1, 12, .inl (zF u_149.1))), (h6, .inr (6, [.ref s6, .ref p6, .int (zI ((u_149.2.1.2.2 : Nat) : Int))])), (s6, .inl (k.1, 12, .inl (zF (nF u_149.2.1.1)))), (p6, .inl (k.1, 3, .inl (zF (nF u_149.2.1.2.1)))), (h9, .inr (6, [.ref s9, .ref p9, .int (zI ((u_149.2.2.2.2 : Nat) : Int))])), (s9, .inl (k.1, 12, .inl (zF (nF u_149.2.2.1)))), (p9, .inl (k.1, 3, .inl (zF (nF u_149.2.2.2.1)))), (h4, .inr (4, [.ref b4, .ref e4, .int (zI ((us : Nat) : Int))])), (b4, .inl (k.1, 12, .inl (zF ho))), (e4, .inl (k.1, 12, .inl (zF en))), (hh, .inr (3, [.ref eo, .int (zI ((nx : Nat) : Int)), .int (zI ((sz : Nat) : Int))])), (h3, .inr (0, [.ref i3, .ref j3, .ref k3, .int (zI ((bn : Nat) : Int))])), (i3, .inl (k.1, 20, .inl (zF ba))), (j3, .inl (k.1, 20, .inl (zF bb))), (k3, .inl (k.1, 20, .inl (zF bd)))] H := hP
      have hD : va_D A [(x9, .inr (9, [.ref h0, .ref h8, .ref h4, .ref h2, .ref hh, .ref h3, .ref h1, .ref im, .ref sd, .ref kp])), (h0, .inr (7, [.ref c0])), (c0, .inl (k.1, 132, .inl (zF f))), (h8, .inr (8, [.ref h5, .ref h6, .ref h9])), (h5, .inr (5, [.ref a5])), (a5, .inl (k.1, 12, .inl (zF u_149.1))), (h6, .inr (6, [.ref s6, .ref p6, .int (zI ((u_149.2.1.2.2 : Nat) : Int))])), (s6, .inl (k.1, 12, .inl (zF (nF u_149.2.1.1)))), (p6, .inl (k.1, 3, .inl (zF (nF u_149.2.1.2.1)))), (h9, .inr (6, [.ref s9, .ref p9, .int (zI ((u_149.2.2.2.2 : Nat) : Int))])), (s9, .inl (k.1, 12, .inl (zF (nF u_149.2.2.1)))), (p9, .inl (k.1, 3, .inl (zF (nF u_149.2.2.2.1)))), (h4, .inr (4, [.ref b4, .ref e4, .int (zI ((us : Nat) : Int))])), (b4, .inl (k.1, 12, .inl (zF ho))), (e4, .inl (k.1, 12, .inl (zF en))), (hh, .inr (3, [.ref eo, .int (zI ((nx : Nat) : Int)), .int (zI ((sz : Nat) : Int))])), (h3, .inr (0, [.ref i3, .ref j3, .ref k3, .int (zI ((bn : Nat) : Int))])), (i3, .inl (k.1, 20, .inl (zF ba))), (j3, .inl (k.1, 20, .inl (zF bb))), (k3, .inl (k.1, 20, .inl (zF bd)))] := hD
      obtain ⟨he_149, h_149⟩ := h_149
      subst he_149
      exact W.iret hx hb hr (fun t ht hW => ⟨⟨_, ((u_149.1, (u_149.2.1.1, u_149.2.1.2.1, u_149.2.1.2.2), (u_149.2.2.1, u_149.2.2.2.1, u_149.2.2.2.2)), ho, en, us), rfl, ⟨zc (by rw [hsw]; rfl), trivial⟩, by show va_P D vwCl _ _; rw [ht]; exact hP⟩, hS.F ht⟩) hS.2.2 dX9_told_152
    · refine lv_tableIn (off := 152) (tgt := 153) hx hb dX9_told_1 (by rw [zI_toInt (by omega)]; omega) (by rw [zI_toInt (by omega)]; omega) (by rw [zI_toInt (by omega), hsw]; decide) (by decide) ?_
      refine lv_aload_n hx hb dX9_told_153 rfl (lv_at hl 0 rfl) ?_
      refine va_get (D := D) (ci := 9) (v := .ref h3) (C := RX9) (T := TX9) (N := 10) hx hb hts hinX9 hown hK.1 hP 0 rfl rfl 5 (by decide) fl47 (fun _ h9 => h9) rfl dX9_told_154 ?_
      refine roV (n := 0) (As := []) (rest := []) hSf (c_bsize l D k h3 i3 j3 k3 ba bb bd bn) gX9_told_X0_size rfl (by decide +kernel) ⟨Nat.le_of_ble_eq_true rfl, Nat.le_of_ble_eq_true rfl⟩ hK hP [16, 17, 18, 19] rfl 0 rfl rfl rfl hl.1 rfl (Nat.le_of_ble_eq_true rfl) dX9_told_157 ⟨Nat.zero_le _, Nat.zero_le _⟩ (fun r_157 h_157 => ?_)
      subst h_157
      exact W.iret hx hb hr (fun t ht hW => ⟨⟨_, ((z.1, (z.2.1.1, z.2.1.2.1, z.2.1.2.2), (z.2.2.1, z.2.2.2.1, z.2.2.2.2)), ho, en, us), rfl, ⟨zc (by rw [hsw]; rfl), trivial⟩, by show va_P D vwCl _ _; rw [ht]; exact hP⟩, hS.F ht⟩) hS.2.2 dX9_told_160
    · refine lv_tableIn (off := 160) (tgt := 161) hx hb dX9_told_1 (by rw [zI_toInt (by omega)]; omega) (by rw [zI_toInt (by omega)]; omega) (by rw [zI_toInt (by omega), hsw]; decide) (by decide) ?_
      refine lv_aload_n hx hb dX9_told_161 rfl (lv_at hl 0 rfl) ?_
      refine miV (n := 0) (As := []) (rest := []) hSf (c_firstWrong l D k x9 h0 c0 h8 h4 h2 hh h3 h1 im sd kp f B hV h5 a5 h6 s6 p6 h9 s9 p9 (z.1, (z.2.1.1, z.2.1.2.1, z.2.1.2.2), (z.2.2.1, z.2.2.2.1, z.2.2.2.2)) hB i3 j3 k3 ba bb bd bn hbk) gX9_told_X9_firstWrong rfl (by decide +kernel) ⟨Nat.le_of_ble_eq_true rfl, Nat.le_of_ble_eq_true rfl⟩ hK hP hD hS [0, 1, 2, 3, 4, 5, 6, 7, 8, 9, 10, 11, 16, 17, 18, 19] rfl rfl (by decide) (fun _ => rfl) (fun _ => rfl) 0 rfl rfl rfl hl.1 rfl (Nat.le_of_ble_eq_true rfl) dX9_told_162 ⟨Nat.zero_le _, Nat.zero_le _⟩ (fun r_162 u_162 H locs h_162 hP hD hS => ?_)
      have hP : va_P D vwCl [(x9, .inr (9, [.ref h0, .ref h8, .ref h4, .ref h2, .ref hh, .ref h3, .ref h1, .ref im, .ref sd, .ref kp])), (h0, .inr (7, [.ref c0])), (c0, .inl (k.1, 132, .inl (zF f))), (h8, .inr (8, [.ref h5, .ref h6, .ref h9])), (h5, .inr (5, [.ref a5])), (a5, .inl (k.1, 12, .inl (zF u_162.1))), (h6, .inr (6, [.ref s6, .ref p6, .int (zI ((u_162.2.1.2.2 : Nat) : Int))])), (s6, .inl (k.1, 12, .inl (zF (nF u_162.2.1.1)))), (p6, .inl (k.1, 3, .inl (zF (nF u_162.2.1.2.1)))), (h9, .inr (6, [.ref s9, .ref p9, .int (zI ((u_162.2.2.2.2 : Nat) : Int))])), (s9, .inl (k.1, 12, .inl (zF (nF u_162.2.2.1)))), (p9, .inl (k.1, 3, .inl (zF (nF u_162.2.2.2.1)))), (h4, .inr (4, [.ref b4, .ref e4, .int (zI ((us : Nat) : Int))])), (b4, .inl (k.1, 12, .inl (zF ho))), (e4, .inl (k.1, 12, .inl (zF en))), (hh, .inr (3, [.ref eo, .int (zI ((nx : Nat) : Int)), .int (zI ((sz : Nat) : Int))])), (h3, .inr (0, [.ref i3, .ref j3, .ref k3, .int (zI ((bn : Nat) : Int))])), (i3, .inl (k.1, 20, .inl (zF ba))), (j3, .inl (k.1, 20, .inl (zF bb))), (k3, .inl (k.1, 20, .inl (zF bd)))] H := hP
      have hD : va_D A [(x9, .inr (9, [.ref h0, .ref h8, .ref h4, .ref h2, .ref hh, .ref h3, .ref h1, .ref im, .ref sd, .ref kp])), (h0, .inr (7, [.ref c0])), (c0, .inl (k.1, 132, .inl (zF f))), (h8, .inr (8, [.ref h5, .ref h6, .ref h9])), (h5, .inr (5, [.ref a5])), (a5, .inl (k.1, 12, .inl (zF u_162.1))), (h6, .inr (6, [.ref s6, .ref p6, .int (zI ((u_162.2.1.2.2 : Nat) : Int))])), (s6, .inl (k.1, 12, .inl (zF (nF u_162.2.1.1)))), (p6, .inl (k.1, 3, .inl (zF (nF u_162.2.1.2.1)))), (h9, .inr (6, [.ref s9, .ref p9, .int (zI ((u_162.2.2.2.2 : Nat) : Int))])), (s9, .inl (k.1, 12, .inl (zF (nF u_162.2.2.1)))), (p9, .inl (k.1, 3, .inl (zF (nF u_162.2.2.2.1)))), (h4, .inr (4, [.ref b4, .ref e4, .int (zI ((us : Nat) : Int))])), (b4, .inl (k.1, 12, .inl (zF ho))), (e4, .inl (k.1, 12, .inl (zF en))), (hh, .inr (3, [.ref eo, .int (zI ((nx : Nat) : Int)), .int (zI ((sz : Nat) : Int))])), (h3, .inr (0, [.ref i3, .ref j3, .ref k3, .int (zI ((bn : Nat) : Int))])), (i3, .inl (k.1, 20, .inl (zF ba))), (j3, .inl (k.1, 20, .inl (zF bb))), (k3, .inl (k.1, 20, .inl (zF bd)))] := hD
      obtain ⟨he_162, h_162⟩ := h_162
      subst he_162
      exact W.iret hx hb hr (fun t ht hW => ⟨⟨_, ((u_162.1, (u_162.2.1.1, u_162.2.1.2.1, u_162.2.1.2.2), (u_162.2.2.1, u_162.2.2.2.1, u_162.2.2.2.2)), ho, en, us), rfl, ⟨zc (by rw [hsw]; rfl), trivial⟩, by show va_P D vwCl _ _; rw [ht]; exact hP⟩, hS.F ht⟩) hS.2.2 dX9_told_165
    · refine lv_tableIn (off := 165) (tgt := 166) hx hb dX9_told_1 (by rw [zI_toInt (by omega)]; omega) (by rw [zI_toInt (by omega)]; omega) (by rw [zI_toInt (by omega), hsw]; decide) (by decide) ?_
      refine lv_aload_n hx hb dX9_told_166 rfl (lv_at hl 0 rfl) ?_
      refine va_get (D := D) (ci := 9) (v := .ref hh) (C := RX9) (T := TX9) (N := 10) hx hb hts hinX9 hown hK.1 hP 0 rfl rfl 4 (by decide) fl40 (fun _ h9 => h9) rfl dX9_told_167 ?_
      refine roV (n := 0) (As := []) (rest := []) hSf (c_hsize l D k hh eo nx sz) gX9_told_X3_size rfl (by decide +kernel) ⟨Nat.le_of_ble_eq_true rfl, Nat.le_of_ble_eq_true rfl⟩ hK hP [15] rfl 0 rfl rfl rfl hl.1 rfl (Nat.le_of_ble_eq_true rfl) dX9_told_170 ⟨Nat.zero_le _, Nat.zero_le _⟩ (fun r_170 h_170 => ?_)
      subst h_170
      exact W.iret hx hb hr (fun t ht hW => ⟨⟨_, ((z.1, (z.2.1.1, z.2.1.2.1, z.2.1.2.2), (z.2.2.1, z.2.2.2.1, z.2.2.2.2)), ho, en, us), rfl, ⟨zc (by rw [hsw]; rfl), trivial⟩, by show va_P D vwCl _ _; rw [ht]; exact hP⟩, hS.F ht⟩) hS.2.2 dX9_told_173
set_option maxHeartbeats 4000000 in
set_option maxRecDepth 100000 in
theorem c_thing (l : Launch) (D : va_G) (k : Kt) (x9 : Nat) (h0 : Nat) (c0 : Nat) (h8 : Nat) (h4 : Nat) (h2 : Nat) (hh : Nat) (h3 : Nat) (h1 : Nat) (im : Nat) (sd : Nat) (kp : Nat) (f : St) (B : Int) (hV : Va B f) (h5 : Nat) (a5 : Nat) (h6 : Nat) (s6 : Nat) (p6 : Nat) (h9 : Nat) (s9 : Nat) (p9 : Nat) (z : (Nat → Int) × ((Nat → Nat) × (Nat → Nat) × Nat) × ((Nat → Nat) × (Nat → Nat) × Nat)) (hB : B < 1000000) (b4 : Nat) (e4 : Nat) (ho : Nat → Int) (en : Nat → Int) (us : Nat) (x1 : Int) (x2 : Int) (hx1 : -2147483648 ≤ x1 ∧ x1 < 2147483648) (hx2 : -2147483648 ≤ x2 ∧ x2 < 2147483648) : MI l D k yX9_thing wsX9_thing 6 142 [.ref x9, .int (zI x1), .int (zI x2)] [(x9, .inr (9, [.ref h0, .ref h8, .ref h4, .ref h2, .ref hh, .ref h3, .ref h1, .ref im, .ref sd, .ref kp])), (h0, .inr (7, [.ref c0])), (c0, .inl (k.1, 132, .inl (zF f))), (h8, .inr (8, [.ref h5, .ref h6, .ref h9])), (h5, .inr (5, [.ref a5])), (a5, .inl (k.1, 12, .inl (zF z.1))), (h6, .inr (6, [.ref s6, .ref p6, .int (zI ((z.2.1.2.2 : Nat) : Int))])), (s6, .inl (k.1, 12, .inl (zF (nF z.2.1.1)))), (p6, .inl (k.1, 3, .inl (zF (nF z.2.1.2.1)))), (h9, .inr (6, [.ref s9, .ref p9, .int (zI ((z.2.2.2.2 : Nat) : Int))])), (s9, .inl (k.1, 12, .inl (zF (nF z.2.2.1)))), (p9, .inl (k.1, 3, .inl (zF (nF z.2.2.2.1)))), (h4, .inr (4, [.ref b4, .ref e4, .int (zI ((us : Nat) : Int))])), (b4, .inl (k.1, 12, .inl (zF ho))), (e4, .inl (k.1, 12, .inl (zF en)))] (fun (r : Int32) (u : ((Nat → Int) × ((Nat → Nat) × (Nat → Nat) × Nat) × ((Nat → Nat) × (Nat → Nat) × Nat)) × (Nat → Int) × (Nat → Int) × Nat) => r = zI (vThing f x1 x2) ∧ True) (fun u => [(x9, .inr (9, [.ref h0, .ref h8, .ref h4, .ref h2, .ref hh, .ref h3, .ref h1, .ref im, .ref sd, .ref kp])), (h0, .inr (7, [.ref c0])), (c0, .inl (k.1, 132, .inl (zF f))), (h8, .inr (8, [.ref h5, .ref h6, .ref h9])), (h5, .inr (5, [.ref a5])), (a5, .inl (k.1, 12, .inl (zF u.1.1))), (h6, .inr (6, [.ref s6, .ref p6, .int (zI ((u.1.2.1.2.2 : Nat) : Int))])), (s6, .inl (k.1, 12, .inl (zF (nF u.1.2.1.1)))), (p6, .inl (k.1, 3, .inl (zF (nF u.1.2.1.2.1)))), (h9, .inr (6, [.ref s9, .ref p9, .int (zI ((u.1.2.2.2.2 : Nat) : Int))])), (s9, .inl (k.1, 12, .inl (zF (nF u.1.2.2.1)))), (p9, .inl (k.1, 3, .inl (zF (nF u.1.2.2.2.1)))), (h4, .inr (4, [.ref b4, .ref e4, .int (zI ((u.2.2.2 : Nat) : Int))])), (b4, .inl (k.1, 12, .inl (zF u.2.1))), (e4, .inl (k.1, 12, .inl (zF u.2.2.1)))]) := by
  refine Met.ofW (cc := cX9_thing) (maxL := 3) (ret := (some .int)) (by decide) rfl ?_
  intro p e s m args below meth c s₁ Bd hml hv
  obtain ⟨rfl, hP, hK, hD0⟩ := hv
  have hx := Bd.exec
  have hb := Bd.bytes
  have hr := Bd.returns
  have hts := atoms_spec (ws := wsX9_thing) Bd.pre
  have hown : s.vm.findClass RX9 = some m.cls := findClass_of_methodNamed Bd.named
  have hlocks := Bd.notSynchronized
  have hSf : CallFix p m c cX9_thing 3 s ([.ref x9, .int (zI x1), .int (zI x2)] : List Value).toArray wsX9_thing RX9 := ⟨hx, hb, hml, hown, hts⟩
  have hD := fA_D hD0
  have hS : va_S (fA [(x9, .inr (9, [.ref h0, .ref h8, .ref h4, .ref h2, .ref hh, .ref h3, .ref h1, .ref im, .ref sd, .ref kp])), (h0, .inr (7, [.ref c0])), (c0, .inl (k.1, 132, .inl (zF f))), (h8, .inr (8, [.ref h5, .ref h6, .ref h9])), (h5, .inr (5, [.ref a5])), (a5, .inl (k.1, 12, .inl (zF z.1))), (h6, .inr (6, [.ref s6, .ref p6, .int (zI ((z.2.1.2.2 : Nat) : Int))])), (s6, .inl (k.1, 12, .inl (zF (nF z.2.1.1)))), (p6, .inl (k.1, 3, .inl (zF (nF z.2.1.2.1)))), (h9, .inr (6, [.ref s9, .ref p9, .int (zI ((z.2.2.2.2 : Nat) : Int))])), (s9, .inl (k.1, 12, .inl (zF (nF z.2.2.1)))), (p9, .inl (k.1, 3, .inl (zF (nF z.2.2.2.1)))), (h4, .inr (4, [.ref b4, .ref e4, .int (zI ((us : Nat) : Int))])), (b4, .inl (k.1, 12, .inl (zF ho))), (e4, .inl (k.1, 12, .inl (zF en)))]) s.heap s.heap [] := va_S.rf
  generalize hAe : fA [(x9, .inr (9, [.ref h0, .ref h8, .ref h4, .ref h2, .ref hh, .ref h3, .ref h1, .ref im, .ref sd, .ref kp])), (h0, .inr (7, [.ref c0])), (c0, .inl (k.1, 132, .inl (zF f))), (h8, .inr (8, [.ref h5, .ref h6, .ref h9])), (h5, .inr (5, [.ref a5])), (a5, .inl (k.1, 12, .inl (zF z.1))), (h6, .inr (6, [.ref s6, .ref p6, .int (zI ((z.2.1.2.2 : Nat) : Int))])), (s6, .inl (k.1, 12, .inl (zF (nF z.2.1.1)))), (p6, .inl (k.1, 3, .inl (zF (nF z.2.1.2.1)))), (h9, .inr (6, [.ref s9, .ref p9, .int (zI ((z.2.2.2.2 : Nat) : Int))])), (s9, .inl (k.1, 12, .inl (zF (nF z.2.2.1)))), (p9, .inl (k.1, 3, .inl (zF (nF z.2.2.2.1)))), (h4, .inr (4, [.ref b4, .ref e4, .int (zI ((us : Nat) : Int))])), (b4, .inl (k.1, 12, .inl (zF ho))), (e4, .inl (k.1, 12, .inl (zF en)))] = A at hD hS ⊢
  have hP : va_P D vwCl [(x9, .inr (9, [.ref h0, .ref h8, .ref h4, .ref h2, .ref hh, .ref h3, .ref h1, .ref im, .ref sd, .ref kp])), (h0, .inr (7, [.ref c0])), (c0, .inl (k.1, 132, .inl (zF f))), (h8, .inr (8, [.ref h5, .ref h6, .ref h9])), (h5, .inr (5, [.ref a5])), (a5, .inl (k.1, 12, .inl (zF z.1))), (h6, .inr (6, [.ref s6, .ref p6, .int (zI ((z.2.1.2.2 : Nat) : Int))])), (s6, .inl (k.1, 12, .inl (zF (nF z.2.1.1)))), (p6, .inl (k.1, 3, .inl (zF (nF z.2.1.2.1)))), (h9, .inr (6, [.ref s9, .ref p9, .int (zI ((z.2.2.2.2 : Nat) : Int))])), (s9, .inl (k.1, 12, .inl (zF (nF z.2.2.1)))), (p9, .inl (k.1, 3, .inl (zF (nF z.2.2.2.1)))), (h4, .inr (4, [.ref b4, .ref e4, .int (zI ((us : Nat) : Int))])), (b4, .inl (k.1, 12, .inl (zF ho))), (e4, .inl (k.1, 12, .inl (zF en)))] s.heap := hP
  have hinX9 : ∀ w ∈ u_ws RX9 TX9 10, w ∈ wsX9_thing := by decide +kernel
  have fl10 := hts (.fieldLink RX9 10 "DotObjects" "scene" "LDotObjects$Scene;") (by decide +kernel)
  have fl19 := hts (.fieldLink RX9 19 "DotObjects" "screen" "LDotObjects$Screen;") (by decide +kernel)
  have hl := lv_entry ([.ref x9, .int (zI x1), .int (zI x2)]) (n := 3) (Nat.le_of_ble_eq_true rfl)
  rw [lg_entry_eq]
  generalize (lg_sl ([.ref x9, .int (zI x1), .int (zI x2)]) ++ List.replicate (3 - (lg_sl ([.ref x9, .int (zI x1), .int (zI x2)])).length) Slot.unset).toArray = ls at hl ⊢
  have hl : lv_has ls 3 [(0, .ref x9), (1, .int (zI x1)), (2, .int (zI x2))] := hl
  have hv0 := hV.1
  have hn := hV.n
  refine lv_aload_n hx hb dX9_thing_0 rfl (lv_at hl 0 rfl) ?_
  refine lv_iload_n hx hb dX9_thing_1 rfl (lv_at hl 1 rfl) ?_
  refine roV (n := 1) (As := [.int (zI x1)]) (rest := []) hSf (c_isThing l D k x9 h0 c0 h8 h4 h2 hh h3 h1 im sd kp f B hV x1 (by omega)) gX9_thing_X9_isThing rfl (by decide +kernel) ⟨Nat.le_of_ble_eq_true rfl, Nat.le_of_ble_eq_true rfl⟩ hK hP [0, 1, 2] rfl 0 rfl rfl rfl hl.1 rfl (Nat.le_of_ble_eq_true rfl) dX9_thing_2 ⟨Nat.zero_le _, Nat.zero_le _⟩ (fun r_2 h_2 => ?_)
  subst h_2
  refine z_if_neb (tgt := 11) hx hb dX9_thing_5 (by decide) (fun c_5 => ?_) (fun c_5 => ?_)
  · simp only [Bool.and_eq_true, decide_eq_true_eq] at c_5
    refine lv_iload_n hx hb dX9_thing_11 rfl (lv_at hl 2 rfl) ?_
    rcases sw_cases (x := x2) (lo := 0) (hi := 13) with hsw | hsw
    · refine lv_tableOut (tgt := 178) hx hb dX9_thing_12 (by rw [zI_toInt (by omega)]; omega) (by decide) ?_
      refine lv_ldc hx hb hown (hts (.constant RX9 99 (-1000000002)) (by decide +kernel)) dX9_thing_178 ?_
      refine te (show (-1000000002 : Int32) = zI (-1000000002) from by decide +kernel) ?_
      exact W.iret hx hb hr (fun t ht hW => ⟨⟨_, ((z.1, (z.2.1.1, z.2.1.2.1, z.2.1.2.2), (z.2.2.1, z.2.2.2.1, z.2.2.2.2)), ho, en, us), rfl, ⟨zc (by unfold vThing; rw [if_pos (by omega), if_neg (by omega), if_neg (by omega), if_neg (by omega), if_neg (by omega), if_neg (by omega), if_neg (by omega), if_neg (by omega), if_neg (by omega), if_neg (by omega), if_neg (by omega), if_neg (by omega), if_neg (by omega), if_neg (by omega), if_neg (by omega)]), trivial⟩, by show va_P D vwCl _ _; rw [ht]; exact hP⟩, hS.F ht⟩) hS.2.2 dX9_thing_180
    · rcases (show x2 = 0 ∨ x2 = 1 ∨ x2 = 2 ∨ x2 = 3 ∨ x2 = 4 ∨ x2 = 5 ∨ x2 = 6 ∨ x2 = 7 ∨ x2 = 8 ∨ x2 = 9 ∨ x2 = 10 ∨ x2 = 11 ∨ x2 = 12 ∨ x2 = 13 from by omega) with hsw | hsw | hsw | hsw | hsw | hsw | hsw | hsw | hsw | hsw | hsw | hsw | hsw | hsw
      · refine lv_tableIn (off := 72) (tgt := 84) hx hb dX9_thing_12 (by rw [zI_toInt (by omega)]; omega) (by rw [zI_toInt (by omega)]; omega) (by rw [zI_toInt (by omega), hsw]; decide) (by decide) ?_
        refine lv_aload_n hx hb dX9_thing_84 rfl (lv_at hl 0 rfl) ?_
        refine va_get (D := D) (ci := 9) (v := .ref h0) (C := RX9) (T := TX9) (N := 10) hx hb hts hinX9 hown hK.1 hP 0 rfl rfl 0 (by decide) fl10 (fun _ h9 => h9) rfl dX9_thing_85 ?_
        refine lv_iload_n hx hb dX9_thing_88 rfl (lv_at hl 1 rfl) ?_
        refine lv_iload_n hx hb dX9_thing_89 rfl (lv_at hl 2 rfl) ?_
        refine roV (n := 2) (As := [.int (zI ((x1.toNat : Nat) : Int)), .int (zI ((x2.toNat : Nat) : Int))]) (rest := []) hSf (c_field l D k h0 c0 f x1.toNat x2.toNat (by omega) (by omega)) gX9_thing_X7_field rfl (by decide +kernel) ⟨Nat.le_of_ble_eq_true rfl, Nat.le_of_ble_eq_true rfl⟩ hK hP [1, 2] rfl 0 rfl rfl rfl hl.1 (by rw [show zI x1 = zI ((x1.toNat : Nat) : Int) from zc (by omega)]; rw [show zI x2 = zI ((x2.toNat : Nat) : Int) from zc (by omega)]; rfl) (Nat.le_of_ble_eq_true rfl) dX9_thing_90 ⟨Nat.zero_le _, Nat.zero_le _⟩ (fun r_90 h_90 => ?_)
        subst h_90
        refine z_bipush hx hb dX9_thing_93 (by decide +kernel) ?_
        refine z_iadd hx hb dX9_thing_95 ?_
        exact W.iret hx hb hr (fun t ht hW => ⟨⟨_, ((z.1, (z.2.1.1, z.2.1.2.1, z.2.1.2.2), (z.2.2.1, z.2.2.2.1, z.2.2.2.2)), ho, en, us), rfl, ⟨zc (by unfold vThing; rw [if_pos (by omega), hsw]; rfl), trivial⟩, by show va_P D vwCl _ _; rw [ht]; exact hP⟩, hS.F ht⟩) hS.2.2 dX9_thing_96
      · refine lv_tableIn (off := 72) (tgt := 84) hx hb dX9_thing_12 (by rw [zI_toInt (by omega)]; omega) (by rw [zI_toInt (by omega)]; omega) (by rw [zI_toInt (by omega), hsw]; decide) (by decide) ?_
        refine lv_aload_n hx hb dX9_thing_84 rfl (lv_at hl 0 rfl) ?_
        refine va_get (D := D) (ci := 9) (v := .ref h0) (C := RX9) (T := TX9) (N := 10) hx hb hts hinX9 hown hK.1 hP 0 rfl rfl 0 (by decide) fl10 (fun _ h9 => h9) rfl dX9_thing_85 ?_
        refine lv_iload_n hx hb dX9_thing_88 rfl (lv_at hl 1 rfl) ?_
        refine lv_iload_n hx hb dX9_thing_89 rfl (lv_at hl 2 rfl) ?_
        refine roV (n := 2) (As := [.int (zI ((x1.toNat : Nat) : Int)), .int (zI ((x2.toNat : Nat) : Int))]) (rest := []) hSf (c_field l D k h0 c0 f x1.toNat x2.toNat (by omega) (by omega)) gX9_thing_X7_field rfl (by decide +kernel) ⟨Nat.le_of_ble_eq_true rfl, Nat.le_of_ble_eq_true rfl⟩ hK hP [1, 2] rfl 0 rfl rfl rfl hl.1 (by rw [show zI x1 = zI ((x1.toNat : Nat) : Int) from zc (by omega)]; rw [show zI x2 = zI ((x2.toNat : Nat) : Int) from zc (by omega)]; rfl) (Nat.le_of_ble_eq_true rfl) dX9_thing_90 ⟨Nat.zero_le _, Nat.zero_le _⟩ (fun r_90 h_90 => ?_)
        subst h_90
        refine z_bipush hx hb dX9_thing_93 (by decide +kernel) ?_
        refine z_iadd hx hb dX9_thing_95 ?_
        exact W.iret hx hb hr (fun t ht hW => ⟨⟨_, ((z.1, (z.2.1.1, z.2.1.2.1, z.2.1.2.2), (z.2.2.1, z.2.2.2.1, z.2.2.2.2)), ho, en, us), rfl, ⟨zc (by unfold vThing; rw [if_pos (by omega), hsw]; rfl), trivial⟩, by show va_P D vwCl _ _; rw [ht]; exact hP⟩, hS.F ht⟩) hS.2.2 dX9_thing_96
      · refine lv_tableIn (off := 85) (tgt := 97) hx hb dX9_thing_12 (by rw [zI_toInt (by omega)]; omega) (by rw [zI_toInt (by omega)]; omega) (by rw [zI_toInt (by omega), hsw]; decide) (by decide) ?_
        refine lv_aload_n hx hb dX9_thing_97 rfl (lv_at hl 0 rfl) ?_
        refine va_get (D := D) (ci := 9) (v := .ref h0) (C := RX9) (T := TX9) (N := 10) hx hb hts hinX9 hown hK.1 hP 0 rfl rfl 0 (by decide) fl10 (fun _ h9 => h9) rfl dX9_thing_98 ?_
        refine lv_iload_n hx hb dX9_thing_101 rfl (lv_at hl 1 rfl) ?_
        refine lv_iload_n hx hb dX9_thing_102 rfl (lv_at hl 2 rfl) ?_
        refine roV (n := 2) (As := [.int (zI ((x1.toNat : Nat) : Int)), .int (zI ((x2.toNat : Nat) : Int))]) (rest := []) hSf (c_field l D k h0 c0 f x1.toNat x2.toNat (by omega) (by omega)) gX9_thing_X7_field rfl (by decide +kernel) ⟨Nat.le_of_ble_eq_true rfl, Nat.le_of_ble_eq_true rfl⟩ hK hP [1, 2] rfl 0 rfl rfl rfl hl.1 (by rw [show zI x1 = zI ((x1.toNat : Nat) : Int) from zc (by omega)]; rw [show zI x2 = zI ((x2.toNat : Nat) : Int) from zc (by omega)]; rfl) (Nat.le_of_ble_eq_true rfl) dX9_thing_103 ⟨Nat.zero_le _, Nat.zero_le _⟩ (fun r_103 h_103 => ?_)
        subst h_103
        exact W.iret hx hb hr (fun t ht hW => ⟨⟨_, ((z.1, (z.2.1.1, z.2.1.2.1, z.2.1.2.2), (z.2.2.1, z.2.2.2.1, z.2.2.2.2)), ho, en, us), rfl, ⟨zc (by unfold vThing; rw [if_pos (by omega), hsw]; rfl), trivial⟩, by show va_P D vwCl _ _; rw [ht]; exact hP⟩, hS.F ht⟩) hS.2.2 dX9_thing_106
      · refine lv_tableIn (off := 85) (tgt := 97) hx hb dX9_thing_12 (by rw [zI_toInt (by omega)]; omega) (by rw [zI_toInt (by omega)]; omega) (by rw [zI_toInt (by omega), hsw]; decide) (by decide) ?_
        refine lv_aload_n hx hb dX9_thing_97 rfl (lv_at hl 0 rfl) ?_
        refine va_get (D := D) (ci := 9) (v := .ref h0) (C := RX9) (T := TX9) (N := 10) hx hb hts hinX9 hown hK.1 hP 0 rfl rfl 0 (by decide) fl10 (fun _ h9 => h9) rfl dX9_thing_98 ?_
        refine lv_iload_n hx hb dX9_thing_101 rfl (lv_at hl 1 rfl) ?_
        refine lv_iload_n hx hb dX9_thing_102 rfl (lv_at hl 2 rfl) ?_
        refine roV (n := 2) (As := [.int (zI ((x1.toNat : Nat) : Int)), .int (zI ((x2.toNat : Nat) : Int))]) (rest := []) hSf (c_field l D k h0 c0 f x1.toNat x2.toNat (by omega) (by omega)) gX9_thing_X7_field rfl (by decide +kernel) ⟨Nat.le_of_ble_eq_true rfl, Nat.le_of_ble_eq_true rfl⟩ hK hP [1, 2] rfl 0 rfl rfl rfl hl.1 (by rw [show zI x1 = zI ((x1.toNat : Nat) : Int) from zc (by omega)]; rw [show zI x2 = zI ((x2.toNat : Nat) : Int) from zc (by omega)]; rfl) (Nat.le_of_ble_eq_true rfl) dX9_thing_103 ⟨Nat.zero_le _, Nat.zero_le _⟩ (fun r_103 h_103 => ?_)
        subst h_103
        exact W.iret hx hb hr (fun t ht hW => ⟨⟨_, ((z.1, (z.2.1.1, z.2.1.2.1, z.2.1.2.2), (z.2.2.1, z.2.2.2.1, z.2.2.2.2)), ho, en, us), rfl, ⟨zc (by unfold vThing; rw [if_pos (by omega), hsw]; rfl), trivial⟩, by show va_P D vwCl _ _; rw [ht]; exact hP⟩, hS.F ht⟩) hS.2.2 dX9_thing_106
      · refine lv_tableIn (off := 85) (tgt := 97) hx hb dX9_thing_12 (by rw [zI_toInt (by omega)]; omega) (by rw [zI_toInt (by omega)]; omega) (by rw [zI_toInt (by omega), hsw]; decide) (by decide) ?_
        refine lv_aload_n hx hb dX9_thing_97 rfl (lv_at hl 0 rfl) ?_
        refine va_get (D := D) (ci := 9) (v := .ref h0) (C := RX9) (T := TX9) (N := 10) hx hb hts hinX9 hown hK.1 hP 0 rfl rfl 0 (by decide) fl10 (fun _ h9 => h9) rfl dX9_thing_98 ?_
        refine lv_iload_n hx hb dX9_thing_101 rfl (lv_at hl 1 rfl) ?_
        refine lv_iload_n hx hb dX9_thing_102 rfl (lv_at hl 2 rfl) ?_
        refine roV (n := 2) (As := [.int (zI ((x1.toNat : Nat) : Int)), .int (zI ((x2.toNat : Nat) : Int))]) (rest := []) hSf (c_field l D k h0 c0 f x1.toNat x2.toNat (by omega) (by omega)) gX9_thing_X7_field rfl (by decide +kernel) ⟨Nat.le_of_ble_eq_true rfl, Nat.le_of_ble_eq_true rfl⟩ hK hP [1, 2] rfl 0 rfl rfl rfl hl.1 (by rw [show zI x1 = zI ((x1.toNat : Nat) : Int) from zc (by omega)]; rw [show zI x2 = zI ((x2.toNat : Nat) : Int) from zc (by omega)]; rfl) (Nat.le_of_ble_eq_true rfl) dX9_thing_103 ⟨Nat.zero_le _, Nat.zero_le _⟩ (fun r_103 h_103 => ?_)
        subst h_103
        exact W.iret hx hb hr (fun t ht hW => ⟨⟨_, ((z.1, (z.2.1.1, z.2.1.2.1, z.2.1.2.2), (z.2.2.1, z.2.2.2.1, z.2.2.2.2)), ho, en, us), rfl, ⟨zc (by unfold vThing; rw [if_pos (by omega), hsw]; rfl), trivial⟩, by show va_P D vwCl _ _; rw [ht]; exact hP⟩, hS.F ht⟩) hS.2.2 dX9_thing_106
      · refine lv_tableIn (off := 85) (tgt := 97) hx hb dX9_thing_12 (by rw [zI_toInt (by omega)]; omega) (by rw [zI_toInt (by omega)]; omega) (by rw [zI_toInt (by omega), hsw]; decide) (by decide) ?_
        refine lv_aload_n hx hb dX9_thing_97 rfl (lv_at hl 0 rfl) ?_
        refine va_get (D := D) (ci := 9) (v := .ref h0) (C := RX9) (T := TX9) (N := 10) hx hb hts hinX9 hown hK.1 hP 0 rfl rfl 0 (by decide) fl10 (fun _ h9 => h9) rfl dX9_thing_98 ?_
        refine lv_iload_n hx hb dX9_thing_101 rfl (lv_at hl 1 rfl) ?_
        refine lv_iload_n hx hb dX9_thing_102 rfl (lv_at hl 2 rfl) ?_
        refine roV (n := 2) (As := [.int (zI ((x1.toNat : Nat) : Int)), .int (zI ((x2.toNat : Nat) : Int))]) (rest := []) hSf (c_field l D k h0 c0 f x1.toNat x2.toNat (by omega) (by omega)) gX9_thing_X7_field rfl (by decide +kernel) ⟨Nat.le_of_ble_eq_true rfl, Nat.le_of_ble_eq_true rfl⟩ hK hP [1, 2] rfl 0 rfl rfl rfl hl.1 (by rw [show zI x1 = zI ((x1.toNat : Nat) : Int) from zc (by omega)]; rw [show zI x2 = zI ((x2.toNat : Nat) : Int) from zc (by omega)]; rfl) (Nat.le_of_ble_eq_true rfl) dX9_thing_103 ⟨Nat.zero_le _, Nat.zero_le _⟩ (fun r_103 h_103 => ?_)
        subst h_103
        exact W.iret hx hb hr (fun t ht hW => ⟨⟨_, ((z.1, (z.2.1.1, z.2.1.2.1, z.2.1.2.2), (z.2.2.1, z.2.2.2.1, z.2.2.2.2)), ho, en, us), rfl, ⟨zc (by unfold vThing; rw [if_pos (by omega), hsw]; rfl), trivial⟩, by show va_P D vwCl _ _; rw [ht]; exact hP⟩, hS.F ht⟩) hS.2.2 dX9_thing_106
      · refine lv_tableIn (off := 72) (tgt := 84) hx hb dX9_thing_12 (by rw [zI_toInt (by omega)]; omega) (by rw [zI_toInt (by omega)]; omega) (by rw [zI_toInt (by omega), hsw]; decide) (by decide) ?_
        refine lv_aload_n hx hb dX9_thing_84 rfl (lv_at hl 0 rfl) ?_
        refine va_get (D := D) (ci := 9) (v := .ref h0) (C := RX9) (T := TX9) (N := 10) hx hb hts hinX9 hown hK.1 hP 0 rfl rfl 0 (by decide) fl10 (fun _ h9 => h9) rfl dX9_thing_85 ?_
        refine lv_iload_n hx hb dX9_thing_88 rfl (lv_at hl 1 rfl) ?_
        refine lv_iload_n hx hb dX9_thing_89 rfl (lv_at hl 2 rfl) ?_
        refine roV (n := 2) (As := [.int (zI ((x1.toNat : Nat) : Int)), .int (zI ((x2.toNat : Nat) : Int))]) (rest := []) hSf (c_field l D k h0 c0 f x1.toNat x2.toNat (by omega) (by omega)) gX9_thing_X7_field rfl (by decide +kernel) ⟨Nat.le_of_ble_eq_true rfl, Nat.le_of_ble_eq_true rfl⟩ hK hP [1, 2] rfl 0 rfl rfl rfl hl.1 (by rw [show zI x1 = zI ((x1.toNat : Nat) : Int) from zc (by omega)]; rw [show zI x2 = zI ((x2.toNat : Nat) : Int) from zc (by omega)]; rfl) (Nat.le_of_ble_eq_true rfl) dX9_thing_90 ⟨Nat.zero_le _, Nat.zero_le _⟩ (fun r_90 h_90 => ?_)
        subst h_90
        refine z_bipush hx hb dX9_thing_93 (by decide +kernel) ?_
        refine z_iadd hx hb dX9_thing_95 ?_
        exact W.iret hx hb hr (fun t ht hW => ⟨⟨_, ((z.1, (z.2.1.1, z.2.1.2.1, z.2.1.2.2), (z.2.2.1, z.2.2.2.1, z.2.2.2.2)), ho, en, us), rfl, ⟨zc (by unfold vThing; rw [if_pos (by omega), hsw]; rfl), trivial⟩, by show va_P D vwCl _ _; rw [ht]; exact hP⟩, hS.F ht⟩) hS.2.2 dX9_thing_96
      · refine lv_tableIn (off := 72) (tgt := 84) hx hb dX9_thing_12 (by rw [zI_toInt (by omega)]; omega) (by rw [zI_toInt (by omega)]; omega) (by rw [zI_toInt (by omega), hsw]; decide) (by decide) ?_
        refine lv_aload_n hx hb dX9_thing_84 rfl (lv_at hl 0 rfl) ?_
        refine va_get (D := D) (ci := 9) (v := .ref h0) (C := RX9) (T := TX9) (N := 10) hx hb hts hinX9 hown hK.1 hP 0 rfl rfl 0 (by decide) fl10 (fun _ h9 => h9) rfl dX9_thing_85 ?_
        refine lv_iload_n hx hb dX9_thing_88 rfl (lv_at hl 1 rfl) ?_
        refine lv_iload_n hx hb dX9_thing_89 rfl (lv_at hl 2 rfl) ?_
        refine roV (n := 2) (As := [.int (zI ((x1.toNat : Nat) : Int)), .int (zI ((x2.toNat : Nat) : Int))]) (rest := []) hSf (c_field l D k h0 c0 f x1.toNat x2.toNat (by omega) (by omega)) gX9_thing_X7_field rfl (by decide +kernel) ⟨Nat.le_of_ble_eq_true rfl, Nat.le_of_ble_eq_true rfl⟩ hK hP [1, 2] rfl 0 rfl rfl rfl hl.1 (by rw [show zI x1 = zI ((x1.toNat : Nat) : Int) from zc (by omega)]; rw [show zI x2 = zI ((x2.toNat : Nat) : Int) from zc (by omega)]; rfl) (Nat.le_of_ble_eq_true rfl) dX9_thing_90 ⟨Nat.zero_le _, Nat.zero_le _⟩ (fun r_90 h_90 => ?_)
        subst h_90
        refine z_bipush hx hb dX9_thing_93 (by decide +kernel) ?_
        refine z_iadd hx hb dX9_thing_95 ?_
        exact W.iret hx hb hr (fun t ht hW => ⟨⟨_, ((z.1, (z.2.1.1, z.2.1.2.1, z.2.1.2.2), (z.2.2.1, z.2.2.2.1, z.2.2.2.2)), ho, en, us), rfl, ⟨zc (by unfold vThing; rw [if_pos (by omega), hsw]; rfl), trivial⟩, by show va_P D vwCl _ _; rw [ht]; exact hP⟩, hS.F ht⟩) hS.2.2 dX9_thing_96
      · refine lv_tableIn (off := 95) (tgt := 107) hx hb dX9_thing_12 (by rw [zI_toInt (by omega)]; omega) (by rw [zI_toInt (by omega)]; omega) (by rw [zI_toInt (by omega), hsw]; decide) (by decide) ?_
        refine lv_aload_n hx hb dX9_thing_107 rfl (lv_at hl 0 rfl) ?_
        refine va_get (D := D) (ci := 9) (v := .ref h8) (C := RX9) (T := TX9) (N := 10) hx hb hts hinX9 hown hK.1 hP 0 rfl rfl 1 (by decide) fl19 (fun _ h9 => h9) rfl dX9_thing_108 ?_
        refine lv_aload_n hx hb dX9_thing_111 rfl (lv_at hl 0 rfl) ?_
        refine va_get (D := D) (ci := 9) (v := .ref h0) (C := RX9) (T := TX9) (N := 10) hx hb hts hinX9 hown hK.1 hP 0 rfl rfl 0 (by decide) fl10 (fun _ h9 => h9) rfl dX9_thing_112 ?_
        refine lv_iload_n hx hb dX9_thing_115 rfl (lv_at hl 1 rfl) ?_
        refine miV (n := 2) (As := [.ref h0, .int (zI ((x1.toNat : Nat) : Int))]) (rest := []) hSf (c_seenDots l D k h0 c0 f B hV h8 h5 a5 h6 s6 p6 h9 s9 p9 (z.1, (z.2.1.1, z.2.1.2.1, z.2.1.2.2), (z.2.2.1, z.2.2.2.1, z.2.2.2.2)) hB x1.toNat (by omega)) gX9_thing_X8_seenDots rfl (by decide +kernel) ⟨Nat.le_of_ble_eq_true rfl, Nat.le_of_ble_eq_true rfl⟩ hK hP hD hS [1, 2, 3, 4, 5, 6, 7, 8, 9, 10, 11] rfl rfl (by decide) (fun _ => rfl) (fun _ => rfl) 2 rfl rfl rfl hl.1 (by rw [show zI x1 = zI ((x1.toNat : Nat) : Int) from zc (by omega)]; rfl) (Nat.le_of_ble_eq_true rfl) dX9_thing_116 ⟨Nat.zero_le _, Nat.zero_le _⟩ (fun r_116 u_116 H locs h_116 hP hD hS => ?_)
        have hP : va_P D vwCl [(x9, .inr (9, [.ref h0, .ref h8, .ref h4, .ref h2, .ref hh, .ref h3, .ref h1, .ref im, .ref sd, .ref kp])), (h0, .inr (7, [.ref c0])), (c0, .inl (k.1, 132, .inl (zF f))), (h8, .inr (8, [.ref h5, .ref h6, .ref h9])), (h5, .inr (5, [.ref a5])), (a5, .inl (k.1, 12, .inl (zF u_116.1))), (h6, .inr (6, [.ref s6, .ref p6, .int (zI ((u_116.2.1.2.2 : Nat) : Int))])), (s6, .inl (k.1, 12, .inl (zF (nF u_116.2.1.1)))), (p6, .inl (k.1, 3, .inl (zF (nF u_116.2.1.2.1)))), (h9, .inr (6, [.ref s9, .ref p9, .int (zI ((u_116.2.2.2.2 : Nat) : Int))])), (s9, .inl (k.1, 12, .inl (zF (nF u_116.2.2.1)))), (p9, .inl (k.1, 3, .inl (zF (nF u_116.2.2.2.1)))), (h4, .inr (4, [.ref b4, .ref e4, .int (zI ((us : Nat) : Int))])), (b4, .inl (k.1, 12, .inl (zF ho))), (e4, .inl (k.1, 12, .inl (zF en)))] H := hP
        have hD : va_D A [(x9, .inr (9, [.ref h0, .ref h8, .ref h4, .ref h2, .ref hh, .ref h3, .ref h1, .ref im, .ref sd, .ref kp])), (h0, .inr (7, [.ref c0])), (c0, .inl (k.1, 132, .inl (zF f))), (h8, .inr (8, [.ref h5, .ref h6, .ref h9])), (h5, .inr (5, [.ref a5])), (a5, .inl (k.1, 12, .inl (zF u_116.1))), (h6, .inr (6, [.ref s6, .ref p6, .int (zI ((u_116.2.1.2.2 : Nat) : Int))])), (s6, .inl (k.1, 12, .inl (zF (nF u_116.2.1.1)))), (p6, .inl (k.1, 3, .inl (zF (nF u_116.2.1.2.1)))), (h9, .inr (6, [.ref s9, .ref p9, .int (zI ((u_116.2.2.2.2 : Nat) : Int))])), (s9, .inl (k.1, 12, .inl (zF (nF u_116.2.2.1)))), (p9, .inl (k.1, 3, .inl (zF (nF u_116.2.2.2.1)))), (h4, .inr (4, [.ref b4, .ref e4, .int (zI ((us : Nat) : Int))])), (b4, .inl (k.1, 12, .inl (zF ho))), (e4, .inl (k.1, 12, .inl (zF en)))] := hD
        obtain ⟨he_116, h_116⟩ := h_116
        subst he_116
        exact W.iret hx hb hr (fun t ht hW => ⟨⟨_, ((u_116.1, (u_116.2.1.1, u_116.2.1.2.1, u_116.2.1.2.2), (u_116.2.2.1, u_116.2.2.2.1, u_116.2.2.2.2)), ho, en, us), rfl, ⟨zc (by unfold vThing; rw [if_pos (by omega), hsw]; rfl), trivial⟩, by show va_P D vwCl _ _; rw [ht]; exact hP⟩, hS.F ht⟩) hS.2.2 dX9_thing_119
      · refine lv_tableIn (off := 108) (tgt := 120) hx hb dX9_thing_12 (by rw [zI_toInt (by omega)]; omega) (by rw [zI_toInt (by omega)]; omega) (by rw [zI_toInt (by omega), hsw]; decide) (by decide) ?_
        refine lv_aload_n hx hb dX9_thing_120 rfl (lv_at hl 0 rfl) ?_
        refine va_get (D := D) (ci := 9) (v := .ref h8) (C := RX9) (T := TX9) (N := 10) hx hb hts hinX9 hown hK.1 hP 0 rfl rfl 1 (by decide) fl19 (fun _ h9 => h9) rfl dX9_thing_121 ?_
        refine lv_aload_n hx hb dX9_thing_124 rfl (lv_at hl 0 rfl) ?_
        refine va_get (D := D) (ci := 9) (v := .ref h0) (C := RX9) (T := TX9) (N := 10) hx hb hts hinX9 hown hK.1 hP 0 rfl rfl 0 (by decide) fl10 (fun _ h9 => h9) rfl dX9_thing_125 ?_
        refine lv_iload_n hx hb dX9_thing_128 rfl (lv_at hl 1 rfl) ?_
        refine miV (n := 2) (As := [.ref h0, .int (zI ((x1.toNat : Nat) : Int))]) (rest := []) hSf (c_coveredDots l D k h0 c0 f B hV h8 h5 a5 h6 s6 p6 h9 s9 p9 (z.1, (z.2.1.1, z.2.1.2.1, z.2.1.2.2), (z.2.2.1, z.2.2.2.1, z.2.2.2.2)) hB x1.toNat (by omega)) gX9_thing_X8_coveredDots rfl (by decide +kernel) ⟨Nat.le_of_ble_eq_true rfl, Nat.le_of_ble_eq_true rfl⟩ hK hP hD hS [1, 2, 3, 4, 5, 6, 7, 8, 9, 10, 11] rfl rfl (by decide) (fun _ => rfl) (fun _ => rfl) 2 rfl rfl rfl hl.1 (by rw [show zI x1 = zI ((x1.toNat : Nat) : Int) from zc (by omega)]; rfl) (Nat.le_of_ble_eq_true rfl) dX9_thing_129 ⟨Nat.zero_le _, Nat.zero_le _⟩ (fun r_129 u_129 H locs h_129 hP hD hS => ?_)
        have hP : va_P D vwCl [(x9, .inr (9, [.ref h0, .ref h8, .ref h4, .ref h2, .ref hh, .ref h3, .ref h1, .ref im, .ref sd, .ref kp])), (h0, .inr (7, [.ref c0])), (c0, .inl (k.1, 132, .inl (zF f))), (h8, .inr (8, [.ref h5, .ref h6, .ref h9])), (h5, .inr (5, [.ref a5])), (a5, .inl (k.1, 12, .inl (zF u_129.1))), (h6, .inr (6, [.ref s6, .ref p6, .int (zI ((u_129.2.1.2.2 : Nat) : Int))])), (s6, .inl (k.1, 12, .inl (zF (nF u_129.2.1.1)))), (p6, .inl (k.1, 3, .inl (zF (nF u_129.2.1.2.1)))), (h9, .inr (6, [.ref s9, .ref p9, .int (zI ((u_129.2.2.2.2 : Nat) : Int))])), (s9, .inl (k.1, 12, .inl (zF (nF u_129.2.2.1)))), (p9, .inl (k.1, 3, .inl (zF (nF u_129.2.2.2.1)))), (h4, .inr (4, [.ref b4, .ref e4, .int (zI ((us : Nat) : Int))])), (b4, .inl (k.1, 12, .inl (zF ho))), (e4, .inl (k.1, 12, .inl (zF en)))] H := hP
        have hD : va_D A [(x9, .inr (9, [.ref h0, .ref h8, .ref h4, .ref h2, .ref hh, .ref h3, .ref h1, .ref im, .ref sd, .ref kp])), (h0, .inr (7, [.ref c0])), (c0, .inl (k.1, 132, .inl (zF f))), (h8, .inr (8, [.ref h5, .ref h6, .ref h9])), (h5, .inr (5, [.ref a5])), (a5, .inl (k.1, 12, .inl (zF u_129.1))), (h6, .inr (6, [.ref s6, .ref p6, .int (zI ((u_129.2.1.2.2 : Nat) : Int))])), (s6, .inl (k.1, 12, .inl (zF (nF u_129.2.1.1)))), (p6, .inl (k.1, 3, .inl (zF (nF u_129.2.1.2.1)))), (h9, .inr (6, [.ref s9, .ref p9, .int (zI ((u_129.2.2.2.2 : Nat) : Int))])), (s9, .inl (k.1, 12, .inl (zF (nF u_129.2.2.1)))), (p9, .inl (k.1, 3, .inl (zF (nF u_129.2.2.2.1)))), (h4, .inr (4, [.ref b4, .ref e4, .int (zI ((us : Nat) : Int))])), (b4, .inl (k.1, 12, .inl (zF ho))), (e4, .inl (k.1, 12, .inl (zF en)))] := hD
        obtain ⟨he_129, h_129⟩ := h_129
        subst he_129
        exact W.iret hx hb hr (fun t ht hW => ⟨⟨_, ((u_129.1, (u_129.2.1.1, u_129.2.1.2.1, u_129.2.1.2.2), (u_129.2.2.1, u_129.2.2.2.1, u_129.2.2.2.2)), ho, en, us), rfl, ⟨zc (by unfold vThing; rw [if_pos (by omega), hsw]; rfl), trivial⟩, by show va_P D vwCl _ _; rw [ht]; exact hP⟩, hS.F ht⟩) hS.2.2 dX9_thing_132
      · refine lv_tableIn (off := 121) (tgt := 133) hx hb dX9_thing_12 (by rw [zI_toInt (by omega)]; omega) (by rw [zI_toInt (by omega)]; omega) (by rw [zI_toInt (by omega), hsw]; decide) (by decide) ?_
        refine lv_aload_n hx hb dX9_thing_133 rfl (lv_at hl 0 rfl) ?_
        refine va_get (D := D) (ci := 9) (v := .ref h8) (C := RX9) (T := TX9) (N := 10) hx hb hts hinX9 hown hK.1 hP 0 rfl rfl 1 (by decide) fl19 (fun _ h9 => h9) rfl dX9_thing_134 ?_
        refine lv_aload_n hx hb dX9_thing_137 rfl (lv_at hl 0 rfl) ?_
        refine va_get (D := D) (ci := 9) (v := .ref h0) (C := RX9) (T := TX9) (N := 10) hx hb hts hinX9 hown hK.1 hP 0 rfl rfl 0 (by decide) fl10 (fun _ h9 => h9) rfl dX9_thing_138 ?_
        refine lv_iload_n hx hb dX9_thing_141 rfl (lv_at hl 1 rfl) ?_
        refine miV (n := 2) (As := [.ref h0, .int (zI ((x1.toNat : Nat) : Int))]) (rest := []) hSf (c_droppedLines l D k h0 c0 f B hV h8 h5 a5 h6 s6 p6 h9 s9 p9 (z.1, (z.2.1.1, z.2.1.2.1, z.2.1.2.2), (z.2.2.1, z.2.2.2.1, z.2.2.2.2)) hB x1.toNat (by omega)) gX9_thing_X8_droppedLines rfl (by decide +kernel) ⟨Nat.le_of_ble_eq_true rfl, Nat.le_of_ble_eq_true rfl⟩ hK hP hD hS [1, 2, 3, 4, 5, 6, 7, 8, 9, 10, 11] rfl rfl (by decide) (fun _ => rfl) (fun _ => rfl) 2 rfl rfl rfl hl.1 (by rw [show zI x1 = zI ((x1.toNat : Nat) : Int) from zc (by omega)]; rfl) (Nat.le_of_ble_eq_true rfl) dX9_thing_142 ⟨Nat.zero_le _, Nat.zero_le _⟩ (fun r_142 u_142 H locs h_142 hP hD hS => ?_)
        have hP : va_P D vwCl [(x9, .inr (9, [.ref h0, .ref h8, .ref h4, .ref h2, .ref hh, .ref h3, .ref h1, .ref im, .ref sd, .ref kp])), (h0, .inr (7, [.ref c0])), (c0, .inl (k.1, 132, .inl (zF f))), (h8, .inr (8, [.ref h5, .ref h6, .ref h9])), (h5, .inr (5, [.ref a5])), (a5, .inl (k.1, 12, .inl (zF u_142.1))), (h6, .inr (6, [.ref s6, .ref p6, .int (zI ((u_142.2.1.2.2 : Nat) : Int))])), (s6, .inl (k.1, 12, .inl (zF (nF u_142.2.1.1)))), (p6, .inl (k.1, 3, .inl (zF (nF u_142.2.1.2.1)))), (h9, .inr (6, [.ref s9, .ref p9, .int (zI ((u_142.2.2.2.2 : Nat) : Int))])), (s9, .inl (k.1, 12, .inl (zF (nF u_142.2.2.1)))), (p9, .inl (k.1, 3, .inl (zF (nF u_142.2.2.2.1)))), (h4, .inr (4, [.ref b4, .ref e4, .int (zI ((us : Nat) : Int))])), (b4, .inl (k.1, 12, .inl (zF ho))), (e4, .inl (k.1, 12, .inl (zF en)))] H := hP
        have hD : va_D A [(x9, .inr (9, [.ref h0, .ref h8, .ref h4, .ref h2, .ref hh, .ref h3, .ref h1, .ref im, .ref sd, .ref kp])), (h0, .inr (7, [.ref c0])), (c0, .inl (k.1, 132, .inl (zF f))), (h8, .inr (8, [.ref h5, .ref h6, .ref h9])), (h5, .inr (5, [.ref a5])), (a5, .inl (k.1, 12, .inl (zF u_142.1))), (h6, .inr (6, [.ref s6, .ref p6, .int (zI ((u_142.2.1.2.2 : Nat) : Int))])), (s6, .inl (k.1, 12, .inl (zF (nF u_142.2.1.1)))), (p6, .inl (k.1, 3, .inl (zF (nF u_142.2.1.2.1)))), (h9, .inr (6, [.ref s9, .ref p9, .int (zI ((u_142.2.2.2.2 : Nat) : Int))])), (s9, .inl (k.1, 12, .inl (zF (nF u_142.2.2.1)))), (p9, .inl (k.1, 3, .inl (zF (nF u_142.2.2.2.1)))), (h4, .inr (4, [.ref b4, .ref e4, .int (zI ((us : Nat) : Int))])), (b4, .inl (k.1, 12, .inl (zF ho))), (e4, .inl (k.1, 12, .inl (zF en)))] := hD
        obtain ⟨he_142, h_142⟩ := h_142
        subst he_142
        exact W.iret hx hb hr (fun t ht hW => ⟨⟨_, ((u_142.1, (u_142.2.1.1, u_142.2.1.2.1, u_142.2.1.2.2), (u_142.2.2.1, u_142.2.2.2.1, u_142.2.2.2.2)), ho, en, us), rfl, ⟨zc (by unfold vThing; rw [if_pos (by omega), hsw]; rfl), trivial⟩, by show va_P D vwCl _ _; rw [ht]; exact hP⟩, hS.F ht⟩) hS.2.2 dX9_thing_145
      · refine lv_tableIn (off := 134) (tgt := 146) hx hb dX9_thing_12 (by rw [zI_toInt (by omega)]; omega) (by rw [zI_toInt (by omega)]; omega) (by rw [zI_toInt (by omega), hsw]; decide) (by decide) ?_
        refine lv_aload_n hx hb dX9_thing_146 rfl (lv_at hl 0 rfl) ?_
        refine lv_iload_n hx hb dX9_thing_147 rfl (lv_at hl 1 rfl) ?_
        refine miV (n := 1) (As := [.int (zI ((x1.toNat : Nat) : Int))]) (rest := []) hSf (c_xholderOf l D k x9 h0 c0 h8 h4 h2 hh h3 h1 im sd kp f B hV b4 e4 ho en us x1.toNat (by omega)) gX9_thing_X9_holderOf rfl (by decide +kernel) ⟨Nat.le_of_ble_eq_true rfl, Nat.le_of_ble_eq_true rfl⟩ hK hP hD hS [0, 1, 2, 12, 13, 14] rfl rfl (by decide) (fun _ => rfl) (fun _ => rfl) 0 rfl rfl rfl hl.1 (by rw [show zI x1 = zI ((x1.toNat : Nat) : Int) from zc (by omega)]; rfl) (Nat.le_of_ble_eq_true rfl) dX9_thing_148 ⟨Nat.zero_le _, Nat.zero_le _⟩ (fun r_148 u_148 H locs h_148 hP hD hS => ?_)
        have hP : va_P D vwCl [(x9, .inr (9, [.ref h0, .ref h8, .ref h4, .ref h2, .ref hh, .ref h3, .ref h1, .ref im, .ref sd, .ref kp])), (h0, .inr (7, [.ref c0])), (c0, .inl (k.1, 132, .inl (zF f))), (h8, .inr (8, [.ref h5, .ref h6, .ref h9])), (h5, .inr (5, [.ref a5])), (a5, .inl (k.1, 12, .inl (zF z.1))), (h6, .inr (6, [.ref s6, .ref p6, .int (zI ((z.2.1.2.2 : Nat) : Int))])), (s6, .inl (k.1, 12, .inl (zF (nF z.2.1.1)))), (p6, .inl (k.1, 3, .inl (zF (nF z.2.1.2.1)))), (h9, .inr (6, [.ref s9, .ref p9, .int (zI ((z.2.2.2.2 : Nat) : Int))])), (s9, .inl (k.1, 12, .inl (zF (nF z.2.2.1)))), (p9, .inl (k.1, 3, .inl (zF (nF z.2.2.2.1)))), (h4, .inr (4, [.ref b4, .ref e4, .int (zI (((hsF f).1 : Nat) : Int))])), (b4, .inl (k.1, 12, .inl (zF u_148.1))), (e4, .inl (k.1, 12, .inl (zF u_148.2)))] H := hP
        have hD : va_D A [(x9, .inr (9, [.ref h0, .ref h8, .ref h4, .ref h2, .ref hh, .ref h3, .ref h1, .ref im, .ref sd, .ref kp])), (h0, .inr (7, [.ref c0])), (c0, .inl (k.1, 132, .inl (zF f))), (h8, .inr (8, [.ref h5, .ref h6, .ref h9])), (h5, .inr (5, [.ref a5])), (a5, .inl (k.1, 12, .inl (zF z.1))), (h6, .inr (6, [.ref s6, .ref p6, .int (zI ((z.2.1.2.2 : Nat) : Int))])), (s6, .inl (k.1, 12, .inl (zF (nF z.2.1.1)))), (p6, .inl (k.1, 3, .inl (zF (nF z.2.1.2.1)))), (h9, .inr (6, [.ref s9, .ref p9, .int (zI ((z.2.2.2.2 : Nat) : Int))])), (s9, .inl (k.1, 12, .inl (zF (nF z.2.2.1)))), (p9, .inl (k.1, 3, .inl (zF (nF z.2.2.2.1)))), (h4, .inr (4, [.ref b4, .ref e4, .int (zI (((hsF f).1 : Nat) : Int))])), (b4, .inl (k.1, 12, .inl (zF u_148.1))), (e4, .inl (k.1, 12, .inl (zF u_148.2)))] := hD
        obtain ⟨he_148, h_148⟩ := h_148
        subst he_148
        exact W.iret hx hb hr (fun t ht hW => ⟨⟨_, ((z.1, (z.2.1.1, z.2.1.2.1, z.2.1.2.2), (z.2.2.1, z.2.2.2.1, z.2.2.2.2)), u_148.1, u_148.2, (hsF f).1), rfl, ⟨zc (by unfold vThing; rw [if_pos (by omega), hsw]; rfl), trivial⟩, by show va_P D vwCl _ _; rw [ht]; exact hP⟩, hS.F ht⟩) hS.2.2 dX9_thing_151
      · refine lv_tableIn (off := 140) (tgt := 152) hx hb dX9_thing_12 (by rw [zI_toInt (by omega)]; omega) (by rw [zI_toInt (by omega)]; omega) (by rw [zI_toInt (by omega), hsw]; decide) (by decide) ?_
        refine lv_aload_n hx hb dX9_thing_152 rfl (lv_at hl 0 rfl) ?_
        refine va_get (D := D) (ci := 9) (v := .ref h8) (C := RX9) (T := TX9) (N := 10) hx hb hts hinX9 hown hK.1 hP 0 rfl rfl 1 (by decide) fl19 (fun _ h9 => h9) rfl dX9_thing_153 ?_
        refine lv_aload_n hx hb dX9_thing_156 rfl (lv_at hl 0 rfl) ?_
        refine va_get (D := D) (ci := 9) (v := .ref h0) (C := RX9) (T := TX9) (N := 10) hx hb hts hinX9 hown hK.1 hP 0 rfl rfl 0 (by decide) fl10 (fun _ h9 => h9) rfl dX9_thing_157 ?_
        refine lv_iload_n hx hb dX9_thing_160 rfl (lv_at hl 1 rfl) ?_
        refine miV (n := 2) (As := [.ref h0, .int (zI ((x1.toNat : Nat) : Int))]) (rest := []) hSf (c_met l D k h0 c0 f B hV h8 h5 a5 h6 s6 p6 h9 s9 p9 (z.1, (z.2.1.1, z.2.1.2.1, z.2.1.2.2), (z.2.2.1, z.2.2.2.1, z.2.2.2.2)) hB x1.toNat (by omega)) gX9_thing_X8_met rfl (by decide +kernel) ⟨Nat.le_of_ble_eq_true rfl, Nat.le_of_ble_eq_true rfl⟩ hK hP hD hS [1, 2, 3, 4, 5, 6, 7, 8, 9, 10, 11] rfl rfl (by decide) (fun _ => rfl) (fun _ => rfl) 2 rfl rfl rfl hl.1 (by rw [show zI x1 = zI ((x1.toNat : Nat) : Int) from zc (by omega)]; rfl) (Nat.le_of_ble_eq_true rfl) dX9_thing_161 ⟨Nat.zero_le _, Nat.zero_le _⟩ (fun r_161 u_161 H locs h_161 hP hD hS => ?_)
        have hP : va_P D vwCl [(x9, .inr (9, [.ref h0, .ref h8, .ref h4, .ref h2, .ref hh, .ref h3, .ref h1, .ref im, .ref sd, .ref kp])), (h0, .inr (7, [.ref c0])), (c0, .inl (k.1, 132, .inl (zF f))), (h8, .inr (8, [.ref h5, .ref h6, .ref h9])), (h5, .inr (5, [.ref a5])), (a5, .inl (k.1, 12, .inl (zF u_161.1))), (h6, .inr (6, [.ref s6, .ref p6, .int (zI ((u_161.2.1.2.2 : Nat) : Int))])), (s6, .inl (k.1, 12, .inl (zF (nF u_161.2.1.1)))), (p6, .inl (k.1, 3, .inl (zF (nF u_161.2.1.2.1)))), (h9, .inr (6, [.ref s9, .ref p9, .int (zI ((u_161.2.2.2.2 : Nat) : Int))])), (s9, .inl (k.1, 12, .inl (zF (nF u_161.2.2.1)))), (p9, .inl (k.1, 3, .inl (zF (nF u_161.2.2.2.1)))), (h4, .inr (4, [.ref b4, .ref e4, .int (zI ((us : Nat) : Int))])), (b4, .inl (k.1, 12, .inl (zF ho))), (e4, .inl (k.1, 12, .inl (zF en)))] H := hP
        have hD : va_D A [(x9, .inr (9, [.ref h0, .ref h8, .ref h4, .ref h2, .ref hh, .ref h3, .ref h1, .ref im, .ref sd, .ref kp])), (h0, .inr (7, [.ref c0])), (c0, .inl (k.1, 132, .inl (zF f))), (h8, .inr (8, [.ref h5, .ref h6, .ref h9])), (h5, .inr (5, [.ref a5])), (a5, .inl (k.1, 12, .inl (zF u_161.1))), (h6, .inr (6, [.ref s6, .ref p6, .int (zI ((u_161.2.1.2.2 : Nat) : Int))])), (s6, .inl (k.1, 12, .inl (zF (nF u_161.2.1.1)))), (p6, .inl (k.1, 3, .inl (zF (nF u_161.2.1.2.1)))), (h9, .inr (6, [.ref s9, .ref p9, .int (zI ((u_161.2.2.2.2 : Nat) : Int))])), (s9, .inl (k.1, 12, .inl (zF (nF u_161.2.2.1)))), (p9, .inl (k.1, 3, .inl (zF (nF u_161.2.2.2.1)))), (h4, .inr (4, [.ref b4, .ref e4, .int (zI ((us : Nat) : Int))])), (b4, .inl (k.1, 12, .inl (zF ho))), (e4, .inl (k.1, 12, .inl (zF en)))] := hD
        obtain ⟨he_161, h_161⟩ := h_161
        subst he_161
        exact W.iret hx hb hr (fun t ht hW => ⟨⟨_, ((u_161.1, (u_161.2.1.1, u_161.2.1.2.1, u_161.2.1.2.2), (u_161.2.2.1, u_161.2.2.2.1, u_161.2.2.2.2)), ho, en, us), rfl, ⟨zc (by unfold vThing; rw [if_pos (by omega), hsw]; rfl), trivial⟩, by show va_P D vwCl _ _; rw [ht]; exact hP⟩, hS.F ht⟩) hS.2.2 dX9_thing_164
      · refine lv_tableIn (off := 153) (tgt := 165) hx hb dX9_thing_12 (by rw [zI_toInt (by omega)]; omega) (by rw [zI_toInt (by omega)]; omega) (by rw [zI_toInt (by omega), hsw]; decide) (by decide) ?_
        refine lv_aload_n hx hb dX9_thing_165 rfl (lv_at hl 0 rfl) ?_
        refine va_get (D := D) (ci := 9) (v := .ref h8) (C := RX9) (T := TX9) (N := 10) hx hb hts hinX9 hown hK.1 hP 0 rfl rfl 1 (by decide) fl19 (fun _ h9 => h9) rfl dX9_thing_166 ?_
        refine lv_aload_n hx hb dX9_thing_169 rfl (lv_at hl 0 rfl) ?_
        refine va_get (D := D) (ci := 9) (v := .ref h0) (C := RX9) (T := TX9) (N := 10) hx hb hts hinX9 hown hK.1 hP 0 rfl rfl 0 (by decide) fl10 (fun _ h9 => h9) rfl dX9_thing_170 ?_
        refine lv_iload_n hx hb dX9_thing_173 rfl (lv_at hl 1 rfl) ?_
        refine roV (n := 2) (As := [.ref h0, .int (zI ((x1.toNat : Nat) : Int))]) (rest := []) hSf (c_wouldMeet l D k h0 c0 f B hV h8 h5 h6 h9 x1.toNat (by omega)) gX9_thing_X8_wouldMeet rfl (by decide +kernel) ⟨Nat.le_of_ble_eq_true rfl, Nat.le_of_ble_eq_true rfl⟩ hK hP [1, 2, 3] rfl 2 rfl rfl rfl hl.1 (by rw [show zI x1 = zI ((x1.toNat : Nat) : Int) from zc (by omega)]; rfl) (Nat.le_of_ble_eq_true rfl) dX9_thing_174 ⟨Nat.zero_le _, Nat.zero_le _⟩ (fun r_174 h_174 => ?_)
        subst h_174
        exact W.iret hx hb hr (fun t ht hW => ⟨⟨_, ((z.1, (z.2.1.1, z.2.1.2.1, z.2.1.2.2), (z.2.2.1, z.2.2.2.1, z.2.2.2.2)), ho, en, us), rfl, ⟨zc (by unfold vThing; rw [if_pos (by omega), hsw]; rfl), trivial⟩, by show va_P D vwCl _ _; rw [ht]; exact hP⟩, hS.F ht⟩) hS.2.2 dX9_thing_177
  · simp only [Bool.and_eq_false_iff, decide_eq_false_iff_not] at c_5
    refine lv_ldc hx hb hown (hts (.constant RX9 104 (-1000000001)) (by decide +kernel)) dX9_thing_8 ?_
    refine te (show (-1000000001 : Int32) = zI (-1000000001) from by decide +kernel) ?_
    exact W.iret hx hb hr (fun t ht hW => ⟨⟨_, ((z.1, (z.2.1.1, z.2.1.2.1, z.2.1.2.2), (z.2.2.1, z.2.2.2.1, z.2.2.2.2)), ho, en, us), rfl, ⟨zc (by unfold vThing; rw [if_neg (by omega)]), trivial⟩, by show va_P D vwCl _ _; rw [ht]; exact hP⟩, hS.F ht⟩) hS.2.2 dX9_thing_10
set_option maxHeartbeats 4000000 in
set_option maxRecDepth 100000 in
theorem c_dot (l : Launch) (D : va_G) (k : Kt) (x9 : Nat) (h0 : Nat) (c0 : Nat) (h8 : Nat) (h4 : Nat) (h2 : Nat) (hh : Nat) (h3 : Nat) (h1 : Nat) (im : Nat) (sd : Nat) (kp : Nat) (f : St) (B : Int) (hV : Va B f) (h5 : Nat) (a5 : Nat) (h6 : Nat) (s6 : Nat) (p6 : Nat) (h9 : Nat) (s9 : Nat) (p9 : Nat) (z : (Nat → Int) × ((Nat → Nat) × (Nat → Nat) × Nat) × ((Nat → Nat) × (Nat → Nat) × Nat)) (hB : B < 1000000) (x1 : Int) (x2 : Int) (x3 : Int) (hx1 : -2147483648 ≤ x1 ∧ x1 < 2147483648) (hx2 : -2147483648 ≤ x2 ∧ x2 < 2147483648) (hx3 : -2147483648 ≤ x3 ∧ x3 < 2147483648) : MI l D k yX9_dot wsX9_dot 5 117 [.ref x9, .int (zI x1), .int (zI x2), .int (zI x3)] [(x9, .inr (9, [.ref h0, .ref h8, .ref h4, .ref h2, .ref hh, .ref h3, .ref h1, .ref im, .ref sd, .ref kp])), (h0, .inr (7, [.ref c0])), (c0, .inl (k.1, 132, .inl (zF f))), (h8, .inr (8, [.ref h5, .ref h6, .ref h9])), (h5, .inr (5, [.ref a5])), (a5, .inl (k.1, 12, .inl (zF z.1))), (h6, .inr (6, [.ref s6, .ref p6, .int (zI ((z.2.1.2.2 : Nat) : Int))])), (s6, .inl (k.1, 12, .inl (zF (nF z.2.1.1)))), (p6, .inl (k.1, 3, .inl (zF (nF z.2.1.2.1)))), (h9, .inr (6, [.ref s9, .ref p9, .int (zI ((z.2.2.2.2 : Nat) : Int))])), (s9, .inl (k.1, 12, .inl (zF (nF z.2.2.1)))), (p9, .inl (k.1, 3, .inl (zF (nF z.2.2.2.1))))] (fun (r : Int32) (u : (Nat → Int) × ((Nat → Nat) × (Nat → Nat) × Nat) × ((Nat → Nat) × (Nat → Nat) × Nat)) => r = zI (vDot f x1 x2 x3) ∧ True) (fun u => [(x9, .inr (9, [.ref h0, .ref h8, .ref h4, .ref h2, .ref hh, .ref h3, .ref h1, .ref im, .ref sd, .ref kp])), (h0, .inr (7, [.ref c0])), (c0, .inl (k.1, 132, .inl (zF f))), (h8, .inr (8, [.ref h5, .ref h6, .ref h9])), (h5, .inr (5, [.ref a5])), (a5, .inl (k.1, 12, .inl (zF u.1))), (h6, .inr (6, [.ref s6, .ref p6, .int (zI ((u.2.1.2.2 : Nat) : Int))])), (s6, .inl (k.1, 12, .inl (zF (nF u.2.1.1)))), (p6, .inl (k.1, 3, .inl (zF (nF u.2.1.2.1)))), (h9, .inr (6, [.ref s9, .ref p9, .int (zI ((u.2.2.2.2 : Nat) : Int))])), (s9, .inl (k.1, 12, .inl (zF (nF u.2.2.1)))), (p9, .inl (k.1, 3, .inl (zF (nF u.2.2.2.1))))]) := by
  refine Met.ofW (cc := cX9_dot) (maxL := 4) (ret := (some .int)) (by decide) rfl ?_
  intro p e s m args below meth c s₁ Bd hml hv
  obtain ⟨rfl, hP, hK, hD0⟩ := hv
  have hx := Bd.exec
  have hb := Bd.bytes
  have hr := Bd.returns
  have hts := atoms_spec (ws := wsX9_dot) Bd.pre
  have hown : s.vm.findClass RX9 = some m.cls := findClass_of_methodNamed Bd.named
  have hlocks := Bd.notSynchronized
  have hSf : CallFix p m c cX9_dot 4 s ([.ref x9, .int (zI x1), .int (zI x2), .int (zI x3)] : List Value).toArray wsX9_dot RX9 := ⟨hx, hb, hml, hown, hts⟩
  have hD := fA_D hD0
  have hS : va_S (fA [(x9, .inr (9, [.ref h0, .ref h8, .ref h4, .ref h2, .ref hh, .ref h3, .ref h1, .ref im, .ref sd, .ref kp])), (h0, .inr (7, [.ref c0])), (c0, .inl (k.1, 132, .inl (zF f))), (h8, .inr (8, [.ref h5, .ref h6, .ref h9])), (h5, .inr (5, [.ref a5])), (a5, .inl (k.1, 12, .inl (zF z.1))), (h6, .inr (6, [.ref s6, .ref p6, .int (zI ((z.2.1.2.2 : Nat) : Int))])), (s6, .inl (k.1, 12, .inl (zF (nF z.2.1.1)))), (p6, .inl (k.1, 3, .inl (zF (nF z.2.1.2.1)))), (h9, .inr (6, [.ref s9, .ref p9, .int (zI ((z.2.2.2.2 : Nat) : Int))])), (s9, .inl (k.1, 12, .inl (zF (nF z.2.2.1)))), (p9, .inl (k.1, 3, .inl (zF (nF z.2.2.2.1))))]) s.heap s.heap [] := va_S.rf
  generalize hAe : fA [(x9, .inr (9, [.ref h0, .ref h8, .ref h4, .ref h2, .ref hh, .ref h3, .ref h1, .ref im, .ref sd, .ref kp])), (h0, .inr (7, [.ref c0])), (c0, .inl (k.1, 132, .inl (zF f))), (h8, .inr (8, [.ref h5, .ref h6, .ref h9])), (h5, .inr (5, [.ref a5])), (a5, .inl (k.1, 12, .inl (zF z.1))), (h6, .inr (6, [.ref s6, .ref p6, .int (zI ((z.2.1.2.2 : Nat) : Int))])), (s6, .inl (k.1, 12, .inl (zF (nF z.2.1.1)))), (p6, .inl (k.1, 3, .inl (zF (nF z.2.1.2.1)))), (h9, .inr (6, [.ref s9, .ref p9, .int (zI ((z.2.2.2.2 : Nat) : Int))])), (s9, .inl (k.1, 12, .inl (zF (nF z.2.2.1)))), (p9, .inl (k.1, 3, .inl (zF (nF z.2.2.2.1))))] = A at hD hS ⊢
  have hP : va_P D vwCl [(x9, .inr (9, [.ref h0, .ref h8, .ref h4, .ref h2, .ref hh, .ref h3, .ref h1, .ref im, .ref sd, .ref kp])), (h0, .inr (7, [.ref c0])), (c0, .inl (k.1, 132, .inl (zF f))), (h8, .inr (8, [.ref h5, .ref h6, .ref h9])), (h5, .inr (5, [.ref a5])), (a5, .inl (k.1, 12, .inl (zF z.1))), (h6, .inr (6, [.ref s6, .ref p6, .int (zI ((z.2.1.2.2 : Nat) : Int))])), (s6, .inl (k.1, 12, .inl (zF (nF z.2.1.1)))), (p6, .inl (k.1, 3, .inl (zF (nF z.2.1.2.1)))), (h9, .inr (6, [.ref s9, .ref p9, .int (zI ((z.2.2.2.2 : Nat) : Int))])), (s9, .inl (k.1, 12, .inl (zF (nF z.2.2.1)))), (p9, .inl (k.1, 3, .inl (zF (nF z.2.2.2.1))))] s.heap := hP
  have hinX9 : ∀ w ∈ u_ws RX9 TX9 10, w ∈ wsX9_dot := by decide +kernel
  have fl19 := hts (.fieldLink RX9 19 "DotObjects" "screen" "LDotObjects$Screen;") (by decide +kernel)
  have fl10 := hts (.fieldLink RX9 10 "DotObjects" "scene" "LDotObjects$Scene;") (by decide +kernel)
  have hl := lv_entry ([.ref x9, .int (zI x1), .int (zI x2), .int (zI x3)]) (n := 4) (Nat.le_of_ble_eq_true rfl)
  rw [lg_entry_eq]
  generalize (lg_sl ([.ref x9, .int (zI x1), .int (zI x2), .int (zI x3)]) ++ List.replicate (4 - (lg_sl ([.ref x9, .int (zI x1), .int (zI x2), .int (zI x3)])).length) Slot.unset).toArray = ls at hl ⊢
  have hl : lv_has ls 4 [(0, .ref x9), (1, .int (zI x1)), (2, .int (zI x2)), (3, .int (zI x3))] := hl
  refine lv_iload_n hx hb dX9_dot_0 rfl (lv_at hl 1 rfl) ?_
  refine lv_iload_n hx hb dX9_dot_1 rfl (lv_at hl 2 rfl) ?_
  refine roS (n := 2) (As := [.int (zI x1), .int (zI x2)]) (rest := []) hSf (c_isDot l D k x1 x2 (by omega) (by omega)) gX9_dot_X9_isDot rfl (by decide +kernel) ⟨Nat.le_of_ble_eq_true rfl, Nat.le_of_ble_eq_true rfl⟩ hK hP [] rfl rfl hl.1 rfl (Nat.le_of_ble_eq_true rfl) dX9_dot_2 ⟨Nat.zero_le _, Nat.zero_le _⟩ (fun r_2 h_2 => ?_)
  subst h_2
  refine z_if_neb (tgt := 11) hx hb dX9_dot_5 (by decide) (fun c_5 => ?_) (fun c_5 => ?_)
  · simp only [Bool.and_eq_true, decide_eq_true_eq] at c_5
    refine lv_iload_n hx hb dX9_dot_11 rfl (lv_at hl 3 rfl) ?_
    rcases sw_cases (x := x3) (lo := 0) (hi := 2) with hsw | hsw
    · refine lv_tableOut (tgt := 99) hx hb dX9_dot_12 (by rw [zI_toInt (by omega)]; omega) (by decide) ?_
      refine lv_ldc hx hb hown (hts (.constant RX9 99 (-1000000002)) (by decide +kernel)) dX9_dot_99 ?_
      refine te (show (-1000000002 : Int32) = zI (-1000000002) from by decide +kernel) ?_
      exact W.iret hx hb hr (fun t ht hW => ⟨⟨_, (z.1, (z.2.1.1, z.2.1.2.1, z.2.1.2.2), (z.2.2.1, z.2.2.2.1, z.2.2.2.2)), rfl, ⟨zc (by unfold vDot; rw [if_pos (by omega), if_neg (by omega), if_neg (by omega), if_neg (by omega)]), trivial⟩, by show va_P D vwCl _ _; rw [ht]; exact hP⟩, hS.F ht⟩) hS.2.2 dX9_dot_101
    · rcases (show x3 = 0 ∨ x3 = 1 ∨ x3 = 2 from by omega) with hsw | hsw | hsw
      · refine lv_tableIn (off := 28) (tgt := 40) hx hb dX9_dot_12 (by rw [zI_toInt (by omega)]; omega) (by rw [zI_toInt (by omega)]; omega) (by rw [zI_toInt (by omega), hsw]; decide) (by decide) ?_
        refine lv_aload_n hx hb dX9_dot_40 rfl (lv_at hl 0 rfl) ?_
        refine va_get (D := D) (ci := 9) (v := .ref h8) (C := RX9) (T := TX9) (N := 10) hx hb hts hinX9 hown hK.1 hP 0 rfl rfl 1 (by decide) fl19 (fun _ h9 => h9) rfl dX9_dot_41 ?_
        refine lv_aload_n hx hb dX9_dot_44 rfl (lv_at hl 0 rfl) ?_
        refine va_get (D := D) (ci := 9) (v := .ref h0) (C := RX9) (T := TX9) (N := 10) hx hb hts hinX9 hown hK.1 hP 0 rfl rfl 0 (by decide) fl10 (fun _ h9 => h9) rfl dX9_dot_45 ?_
        refine lv_iload_n hx hb dX9_dot_48 rfl (lv_at hl 1 rfl) ?_
        refine mrV (n := 2) (As := [.ref h0, .int (zI ((x1.toNat : Nat) : Int))]) (rest := []) hSf (c_paintNow l D k h0 c0 f B hV h8 h5 a5 h6 s6 p6 h9 s9 p9 (z.1, (z.2.1.1, z.2.1.2.1, z.2.1.2.2), (z.2.2.1, z.2.2.2.1, z.2.2.2.2)) hB x1.toNat (by omega)) gX9_dot_X8_paintNow rfl (by decide +kernel) ⟨Nat.le_of_ble_eq_true rfl, Nat.le_of_ble_eq_true rfl⟩ hK hP hD hS [1, 2, 3, 4, 5, 6, 7, 8, 9, 10, 11] rfl rfl (by decide) (fun _ => rfl) (fun _ => rfl) 2 rfl rfl rfl hl.1 (by rw [show zI x1 = zI ((x1.toNat : Nat) : Int) from zc (by omega)]; rfl) (Nat.le_of_ble_eq_true rfl) dX9_dot_49 ⟨Nat.zero_le _, Nat.zero_le _⟩ (fun u_49 H locs h_49 hP hD hS => ?_)
        have hP : va_P D vwCl [(x9, .inr (9, [.ref h0, .ref h8, .ref h4, .ref h2, .ref hh, .ref h3, .ref h1, .ref im, .ref sd, .ref kp])), (h0, .inr (7, [.ref c0])), (c0, .inl (k.1, 132, .inl (zF f))), (h8, .inr (8, [.ref h5, .ref h6, .ref h9])), (h5, .inr (5, [.ref a5])), (a5, .inl (k.1, 12, .inl (zF u_49.1))), (h6, .inr (6, [.ref s6, .ref p6, .int (zI ((u_49.2.1.2.2 : Nat) : Int))])), (s6, .inl (k.1, 12, .inl (zF (nF u_49.2.1.1)))), (p6, .inl (k.1, 3, .inl (zF (nF u_49.2.1.2.1)))), (h9, .inr (6, [.ref s9, .ref p9, .int (zI ((u_49.2.2.2.2 : Nat) : Int))])), (s9, .inl (k.1, 12, .inl (zF (nF u_49.2.2.1)))), (p9, .inl (k.1, 3, .inl (zF (nF u_49.2.2.2.1))))] H := hP
        have hD : va_D A [(x9, .inr (9, [.ref h0, .ref h8, .ref h4, .ref h2, .ref hh, .ref h3, .ref h1, .ref im, .ref sd, .ref kp])), (h0, .inr (7, [.ref c0])), (c0, .inl (k.1, 132, .inl (zF f))), (h8, .inr (8, [.ref h5, .ref h6, .ref h9])), (h5, .inr (5, [.ref a5])), (a5, .inl (k.1, 12, .inl (zF u_49.1))), (h6, .inr (6, [.ref s6, .ref p6, .int (zI ((u_49.2.1.2.2 : Nat) : Int))])), (s6, .inl (k.1, 12, .inl (zF (nF u_49.2.1.1)))), (p6, .inl (k.1, 3, .inl (zF (nF u_49.2.1.2.1)))), (h9, .inr (6, [.ref s9, .ref p9, .int (zI ((u_49.2.2.2.2 : Nat) : Int))])), (s9, .inl (k.1, 12, .inl (zF (nF u_49.2.2.1)))), (p9, .inl (k.1, 3, .inl (zF (nF u_49.2.2.2.1))))] := hD
        refine lv_aload_n hx hb dX9_dot_52 rfl (lv_at hl 0 rfl) ?_
        refine va_get (D := D) (ci := 9) (v := .ref h0) (C := RX9) (T := TX9) (N := 10) hx hb hts hinX9 hown hK.1 hP 0 rfl rfl 0 (by decide) fl10 (fun _ h9 => h9) rfl dX9_dot_53 ?_
        refine lv_iload_n hx hb dX9_dot_56 rfl (lv_at hl 2 rfl) ?_
        refine roV (n := 2) (As := [.ref h0, .int (zI ((x2.toNat : Nat) : Int))]) (rest := []) hSf (c_colourAt l D k h0 c0 f B hV h6 s6 p6 u_49.2.1.1 u_49.2.1.2.1 u_49.2.1.2.2 x1.toNat (dN f x1.toNat) h_49 x2.toNat (by omega)) gX9_dot_X6_colourAt rfl (by decide +kernel) ⟨Nat.le_of_ble_eq_true rfl, Nat.le_of_ble_eq_true rfl⟩ hK hP [1, 2, 6, 7, 8] rfl 2 rfl rfl rfl hl.1 (by rw [show zI x2 = zI ((x2.toNat : Nat) : Int) from zc (by omega)]; rfl) (Nat.le_of_ble_eq_true rfl) dX9_dot_57 ⟨Nat.zero_le _, Nat.zero_le _⟩ (fun r_57 h_57 => ?_)
        subst h_57
        exact W.iret hx hb hr (fun t ht hW => ⟨⟨_, (u_49.1, (u_49.2.1.1, u_49.2.1.2.1, u_49.2.1.2.2), (u_49.2.2.1, u_49.2.2.2.1, u_49.2.2.2.2)), rfl, ⟨zc (by unfold vDot; rw [if_pos (by omega), hsw]; rfl), trivial⟩, by show va_P D vwCl _ _; rw [ht]; exact hP⟩, hS.F ht⟩) hS.2.2 dX9_dot_60
      · refine lv_tableIn (off := 49) (tgt := 61) hx hb dX9_dot_12 (by rw [zI_toInt (by omega)]; omega) (by rw [zI_toInt (by omega)]; omega) (by rw [zI_toInt (by omega), hsw]; decide) (by decide) ?_
        refine lv_aload_n hx hb dX9_dot_61 rfl (lv_at hl 0 rfl) ?_
        refine va_get (D := D) (ci := 9) (v := .ref h8) (C := RX9) (T := TX9) (N := 10) hx hb hts hinX9 hown hK.1 hP 0 rfl rfl 1 (by decide) fl19 (fun _ h9 => h9) rfl dX9_dot_62 ?_
        refine lv_aload_n hx hb dX9_dot_65 rfl (lv_at hl 0 rfl) ?_
        refine va_get (D := D) (ci := 9) (v := .ref h0) (C := RX9) (T := TX9) (N := 10) hx hb hts hinX9 hown hK.1 hP 0 rfl rfl 0 (by decide) fl10 (fun _ h9 => h9) rfl dX9_dot_66 ?_
        refine lv_iload_n hx hb dX9_dot_69 rfl (lv_at hl 1 rfl) ?_
        refine mrV (n := 2) (As := [.ref h0, .int (zI ((x1.toNat : Nat) : Int))]) (rest := []) hSf (c_paintNow l D k h0 c0 f B hV h8 h5 a5 h6 s6 p6 h9 s9 p9 (z.1, (z.2.1.1, z.2.1.2.1, z.2.1.2.2), (z.2.2.1, z.2.2.2.1, z.2.2.2.2)) hB x1.toNat (by omega)) gX9_dot_X8_paintNow rfl (by decide +kernel) ⟨Nat.le_of_ble_eq_true rfl, Nat.le_of_ble_eq_true rfl⟩ hK hP hD hS [1, 2, 3, 4, 5, 6, 7, 8, 9, 10, 11] rfl rfl (by decide) (fun _ => rfl) (fun _ => rfl) 2 rfl rfl rfl hl.1 (by rw [show zI x1 = zI ((x1.toNat : Nat) : Int) from zc (by omega)]; rfl) (Nat.le_of_ble_eq_true rfl) dX9_dot_70 ⟨Nat.zero_le _, Nat.zero_le _⟩ (fun u_70 H locs h_70 hP hD hS => ?_)
        have hP : va_P D vwCl [(x9, .inr (9, [.ref h0, .ref h8, .ref h4, .ref h2, .ref hh, .ref h3, .ref h1, .ref im, .ref sd, .ref kp])), (h0, .inr (7, [.ref c0])), (c0, .inl (k.1, 132, .inl (zF f))), (h8, .inr (8, [.ref h5, .ref h6, .ref h9])), (h5, .inr (5, [.ref a5])), (a5, .inl (k.1, 12, .inl (zF u_70.1))), (h6, .inr (6, [.ref s6, .ref p6, .int (zI ((u_70.2.1.2.2 : Nat) : Int))])), (s6, .inl (k.1, 12, .inl (zF (nF u_70.2.1.1)))), (p6, .inl (k.1, 3, .inl (zF (nF u_70.2.1.2.1)))), (h9, .inr (6, [.ref s9, .ref p9, .int (zI ((u_70.2.2.2.2 : Nat) : Int))])), (s9, .inl (k.1, 12, .inl (zF (nF u_70.2.2.1)))), (p9, .inl (k.1, 3, .inl (zF (nF u_70.2.2.2.1))))] H := hP
        have hD : va_D A [(x9, .inr (9, [.ref h0, .ref h8, .ref h4, .ref h2, .ref hh, .ref h3, .ref h1, .ref im, .ref sd, .ref kp])), (h0, .inr (7, [.ref c0])), (c0, .inl (k.1, 132, .inl (zF f))), (h8, .inr (8, [.ref h5, .ref h6, .ref h9])), (h5, .inr (5, [.ref a5])), (a5, .inl (k.1, 12, .inl (zF u_70.1))), (h6, .inr (6, [.ref s6, .ref p6, .int (zI ((u_70.2.1.2.2 : Nat) : Int))])), (s6, .inl (k.1, 12, .inl (zF (nF u_70.2.1.1)))), (p6, .inl (k.1, 3, .inl (zF (nF u_70.2.1.2.1)))), (h9, .inr (6, [.ref s9, .ref p9, .int (zI ((u_70.2.2.2.2 : Nat) : Int))])), (s9, .inl (k.1, 12, .inl (zF (nF u_70.2.2.1)))), (p9, .inl (k.1, 3, .inl (zF (nF u_70.2.2.2.1))))] := hD
        refine lv_iload_n hx hb dX9_dot_73 rfl (lv_at hl 2 rfl) ?_
        refine roV (n := 1) (As := [.int (zI ((x2.toNat : Nat) : Int))]) (rest := []) hSf (c_thingAt l D k f B hV h6 s6 p6 u_70.2.1.1 u_70.2.1.2.1 u_70.2.1.2.2 x1.toNat (dN f x1.toNat) h_70 x2.toNat (by omega)) gX9_dot_X6_thingAt rfl (by decide +kernel) ⟨Nat.le_of_ble_eq_true rfl, Nat.le_of_ble_eq_true rfl⟩ hK hP [6, 7, 8] rfl 0 rfl rfl rfl hl.1 (by rw [show zI x2 = zI ((x2.toNat : Nat) : Int) from zc (by omega)]; rfl) (Nat.le_of_ble_eq_true rfl) dX9_dot_74 ⟨Nat.zero_le _, Nat.zero_le _⟩ (fun r_74 h_74 => ?_)
        subst h_74
        exact W.iret hx hb hr (fun t ht hW => ⟨⟨_, (u_70.1, (u_70.2.1.1, u_70.2.1.2.1, u_70.2.1.2.2), (u_70.2.2.1, u_70.2.2.2.1, u_70.2.2.2.2)), rfl, ⟨zc (by unfold vDot; rw [if_pos (by omega), hsw]; rfl), trivial⟩, by show va_P D vwCl _ _; rw [ht]; exact hP⟩, hS.F ht⟩) hS.2.2 dX9_dot_77
      · refine lv_tableIn (off := 66) (tgt := 78) hx hb dX9_dot_12 (by rw [zI_toInt (by omega)]; omega) (by rw [zI_toInt (by omega)]; omega) (by rw [zI_toInt (by omega), hsw]; decide) (by decide) ?_
        refine lv_aload_n hx hb dX9_dot_78 rfl (lv_at hl 0 rfl) ?_
        refine va_get (D := D) (ci := 9) (v := .ref h8) (C := RX9) (T := TX9) (N := 10) hx hb hts hinX9 hown hK.1 hP 0 rfl rfl 1 (by decide) fl19 (fun _ h9 => h9) rfl dX9_dot_79 ?_
        refine lv_aload_n hx hb dX9_dot_82 rfl (lv_at hl 0 rfl) ?_
        refine va_get (D := D) (ci := 9) (v := .ref h0) (C := RX9) (T := TX9) (N := 10) hx hb hts hinX9 hown hK.1 hP 0 rfl rfl 0 (by decide) fl10 (fun _ h9 => h9) rfl dX9_dot_83 ?_
        refine lv_iload_n hx hb dX9_dot_86 rfl (lv_at hl 1 rfl) ?_
        refine mrV (n := 2) (As := [.ref h0, .int (zI ((x1.toNat : Nat) : Int))]) (rest := []) hSf (c_paintWhole l D k h0 c0 f B hV h8 h5 a5 h6 s6 p6 h9 s9 p9 (z.1, (z.2.1.1, z.2.1.2.1, z.2.1.2.2), (z.2.2.1, z.2.2.2.1, z.2.2.2.2)) hB x1.toNat (by omega)) gX9_dot_X8_paintWhole rfl (by decide +kernel) ⟨Nat.le_of_ble_eq_true rfl, Nat.le_of_ble_eq_true rfl⟩ hK hP hD hS [1, 2, 3, 4, 5, 6, 7, 8, 9, 10, 11] rfl rfl (by decide) (fun _ => rfl) (fun _ => rfl) 2 rfl rfl rfl hl.1 (by rw [show zI x1 = zI ((x1.toNat : Nat) : Int) from zc (by omega)]; rfl) (Nat.le_of_ble_eq_true rfl) dX9_dot_87 ⟨Nat.zero_le _, Nat.zero_le _⟩ (fun u_87 H locs h_87 hP hD hS => ?_)
        have hP : va_P D vwCl [(x9, .inr (9, [.ref h0, .ref h8, .ref h4, .ref h2, .ref hh, .ref h3, .ref h1, .ref im, .ref sd, .ref kp])), (h0, .inr (7, [.ref c0])), (c0, .inl (k.1, 132, .inl (zF f))), (h8, .inr (8, [.ref h5, .ref h6, .ref h9])), (h5, .inr (5, [.ref a5])), (a5, .inl (k.1, 12, .inl (zF u_87.1))), (h6, .inr (6, [.ref s6, .ref p6, .int (zI ((u_87.2.1.2.2 : Nat) : Int))])), (s6, .inl (k.1, 12, .inl (zF (nF u_87.2.1.1)))), (p6, .inl (k.1, 3, .inl (zF (nF u_87.2.1.2.1)))), (h9, .inr (6, [.ref s9, .ref p9, .int (zI ((u_87.2.2.2.2 : Nat) : Int))])), (s9, .inl (k.1, 12, .inl (zF (nF u_87.2.2.1)))), (p9, .inl (k.1, 3, .inl (zF (nF u_87.2.2.2.1))))] H := hP
        have hD : va_D A [(x9, .inr (9, [.ref h0, .ref h8, .ref h4, .ref h2, .ref hh, .ref h3, .ref h1, .ref im, .ref sd, .ref kp])), (h0, .inr (7, [.ref c0])), (c0, .inl (k.1, 132, .inl (zF f))), (h8, .inr (8, [.ref h5, .ref h6, .ref h9])), (h5, .inr (5, [.ref a5])), (a5, .inl (k.1, 12, .inl (zF u_87.1))), (h6, .inr (6, [.ref s6, .ref p6, .int (zI ((u_87.2.1.2.2 : Nat) : Int))])), (s6, .inl (k.1, 12, .inl (zF (nF u_87.2.1.1)))), (p6, .inl (k.1, 3, .inl (zF (nF u_87.2.1.2.1)))), (h9, .inr (6, [.ref s9, .ref p9, .int (zI ((u_87.2.2.2.2 : Nat) : Int))])), (s9, .inl (k.1, 12, .inl (zF (nF u_87.2.2.1)))), (p9, .inl (k.1, 3, .inl (zF (nF u_87.2.2.2.1))))] := hD
        refine lv_aload_n hx hb dX9_dot_90 rfl (lv_at hl 0 rfl) ?_
        refine va_get (D := D) (ci := 9) (v := .ref h0) (C := RX9) (T := TX9) (N := 10) hx hb hts hinX9 hown hK.1 hP 0 rfl rfl 0 (by decide) fl10 (fun _ h9 => h9) rfl dX9_dot_91 ?_
        refine lv_iload_n hx hb dX9_dot_94 rfl (lv_at hl 2 rfl) ?_
        refine roV (n := 2) (As := [.ref h0, .int (zI ((x2.toNat : Nat) : Int))]) (rest := []) hSf (c_colourAt l D k h0 c0 f B hV h9 s9 p9 u_87.2.2.1 u_87.2.2.2.1 u_87.2.2.2.2 x1.toNat (onS f x1.toNat) h_87 x2.toNat (by omega)) gX9_dot_X6_colourAt rfl (by decide +kernel) ⟨Nat.le_of_ble_eq_true rfl, Nat.le_of_ble_eq_true rfl⟩ hK hP [1, 2, 9, 10, 11] rfl 2 rfl rfl rfl hl.1 (by rw [show zI x2 = zI ((x2.toNat : Nat) : Int) from zc (by omega)]; rfl) (Nat.le_of_ble_eq_true rfl) dX9_dot_95 ⟨Nat.zero_le _, Nat.zero_le _⟩ (fun r_95 h_95 => ?_)
        subst h_95
        exact W.iret hx hb hr (fun t ht hW => ⟨⟨_, (u_87.1, (u_87.2.1.1, u_87.2.1.2.1, u_87.2.1.2.2), (u_87.2.2.1, u_87.2.2.2.1, u_87.2.2.2.2)), rfl, ⟨zc (by unfold vDot; rw [if_pos (by omega), hsw]; rfl), trivial⟩, by show va_P D vwCl _ _; rw [ht]; exact hP⟩, hS.F ht⟩) hS.2.2 dX9_dot_98
  · simp only [Bool.and_eq_false_iff, decide_eq_false_iff_not] at c_5
    refine lv_ldc hx hb hown (hts (.constant RX9 99 (-1000000002)) (by decide +kernel)) dX9_dot_8 ?_
    refine te (show (-1000000002 : Int32) = zI (-1000000002) from by decide +kernel) ?_
    exact W.iret hx hb hr (fun t ht hW => ⟨⟨_, (z.1, (z.2.1.1, z.2.1.2.1, z.2.1.2.2), (z.2.2.1, z.2.2.2.1, z.2.2.2.2)), rfl, ⟨zc (by unfold vDot; rw [if_neg (by omega)]), trivial⟩, by show va_P D vwCl _ _; rw [ht]; exact hP⟩, hS.F ht⟩) hS.2.2 dX9_dot_10
set_option maxHeartbeats 4000000 in
set_option maxRecDepth 100000 in
theorem c_line (l : Launch) (D : va_G) (k : Kt) (x9 : Nat) (h0 : Nat) (c0 : Nat) (h8 : Nat) (h4 : Nat) (h2 : Nat) (hh : Nat) (h3 : Nat) (h1 : Nat) (im : Nat) (sd : Nat) (kp : Nat) (f : St) (B : Int) (hV : Va B f) (h5 : Nat) (a5 : Nat) (h6 : Nat) (s6 : Nat) (p6 : Nat) (h9 : Nat) (s9 : Nat) (p9 : Nat) (z : (Nat → Int) × ((Nat → Nat) × (Nat → Nat) × Nat) × ((Nat → Nat) × (Nat → Nat) × Nat)) (hB : B < 1000000) (x1 : Int) (x2 : Int) (hx1 : -2147483648 ≤ x1 ∧ x1 < 2147483648) (hx2 : -2147483648 ≤ x2 ∧ x2 < 2147483648) : ML l D k yX9_line wsX9_line 5 117 [.ref x9, .int (zI x1), .int (zI x2)] [(x9, .inr (9, [.ref h0, .ref h8, .ref h4, .ref h2, .ref hh, .ref h3, .ref h1, .ref im, .ref sd, .ref kp])), (h0, .inr (7, [.ref c0])), (c0, .inl (k.1, 132, .inl (zF f))), (h8, .inr (8, [.ref h5, .ref h6, .ref h9])), (h5, .inr (5, [.ref a5])), (a5, .inl (k.1, 12, .inl (zF z.1))), (h6, .inr (6, [.ref s6, .ref p6, .int (zI ((z.2.1.2.2 : Nat) : Int))])), (s6, .inl (k.1, 12, .inl (zF (nF z.2.1.1)))), (p6, .inl (k.1, 3, .inl (zF (nF z.2.1.2.1)))), (h9, .inr (6, [.ref s9, .ref p9, .int (zI ((z.2.2.2.2 : Nat) : Int))])), (s9, .inl (k.1, 12, .inl (zF (nF z.2.2.1)))), (p9, .inl (k.1, 3, .inl (zF (nF z.2.2.2.1))))] (fun (r : Int64) (u : (Nat → Int) × ((Nat → Nat) × (Nat → Nat) × Nat) × ((Nat → Nat) × (Nat → Nat) × Nat)) => r = zL (vLine f x1 x2) ∧ True) (fun u => [(x9, .inr (9, [.ref h0, .ref h8, .ref h4, .ref h2, .ref hh, .ref h3, .ref h1, .ref im, .ref sd, .ref kp])), (h0, .inr (7, [.ref c0])), (c0, .inl (k.1, 132, .inl (zF f))), (h8, .inr (8, [.ref h5, .ref h6, .ref h9])), (h5, .inr (5, [.ref a5])), (a5, .inl (k.1, 12, .inl (zF u.1))), (h6, .inr (6, [.ref s6, .ref p6, .int (zI ((u.2.1.2.2 : Nat) : Int))])), (s6, .inl (k.1, 12, .inl (zF (nF u.2.1.1)))), (p6, .inl (k.1, 3, .inl (zF (nF u.2.1.2.1)))), (h9, .inr (6, [.ref s9, .ref p9, .int (zI ((u.2.2.2.2 : Nat) : Int))])), (s9, .inl (k.1, 12, .inl (zF (nF u.2.2.1)))), (p9, .inl (k.1, 3, .inl (zF (nF u.2.2.2.1))))]) := by
  refine Met.ofW (cc := cX9_line) (maxL := 7) (ret := (some .long)) (by decide) rfl ?_
  intro p e s m args below meth c s₁ Bd hml hv
  obtain ⟨rfl, hP, hK, hD0⟩ := hv
  have hx := Bd.exec
  have hb := Bd.bytes
  have hr := Bd.returns
  have hts := atoms_spec (ws := wsX9_line) Bd.pre
  have hown : s.vm.findClass RX9 = some m.cls := findClass_of_methodNamed Bd.named
  have hlocks := Bd.notSynchronized
  have hSf : CallFix p m c cX9_line 7 s ([.ref x9, .int (zI x1), .int (zI x2)] : List Value).toArray wsX9_line RX9 := ⟨hx, hb, hml, hown, hts⟩
  have hD := fA_D hD0
  have hS : va_S (fA [(x9, .inr (9, [.ref h0, .ref h8, .ref h4, .ref h2, .ref hh, .ref h3, .ref h1, .ref im, .ref sd, .ref kp])), (h0, .inr (7, [.ref c0])), (c0, .inl (k.1, 132, .inl (zF f))), (h8, .inr (8, [.ref h5, .ref h6, .ref h9])), (h5, .inr (5, [.ref a5])), (a5, .inl (k.1, 12, .inl (zF z.1))), (h6, .inr (6, [.ref s6, .ref p6, .int (zI ((z.2.1.2.2 : Nat) : Int))])), (s6, .inl (k.1, 12, .inl (zF (nF z.2.1.1)))), (p6, .inl (k.1, 3, .inl (zF (nF z.2.1.2.1)))), (h9, .inr (6, [.ref s9, .ref p9, .int (zI ((z.2.2.2.2 : Nat) : Int))])), (s9, .inl (k.1, 12, .inl (zF (nF z.2.2.1)))), (p9, .inl (k.1, 3, .inl (zF (nF z.2.2.2.1))))]) s.heap s.heap [] := va_S.rf
  generalize hAe : fA [(x9, .inr (9, [.ref h0, .ref h8, .ref h4, .ref h2, .ref hh, .ref h3, .ref h1, .ref im, .ref sd, .ref kp])), (h0, .inr (7, [.ref c0])), (c0, .inl (k.1, 132, .inl (zF f))), (h8, .inr (8, [.ref h5, .ref h6, .ref h9])), (h5, .inr (5, [.ref a5])), (a5, .inl (k.1, 12, .inl (zF z.1))), (h6, .inr (6, [.ref s6, .ref p6, .int (zI ((z.2.1.2.2 : Nat) : Int))])), (s6, .inl (k.1, 12, .inl (zF (nF z.2.1.1)))), (p6, .inl (k.1, 3, .inl (zF (nF z.2.1.2.1)))), (h9, .inr (6, [.ref s9, .ref p9, .int (zI ((z.2.2.2.2 : Nat) : Int))])), (s9, .inl (k.1, 12, .inl (zF (nF z.2.2.1)))), (p9, .inl (k.1, 3, .inl (zF (nF z.2.2.2.1))))] = A at hD hS ⊢
  have hP : va_P D vwCl [(x9, .inr (9, [.ref h0, .ref h8, .ref h4, .ref h2, .ref hh, .ref h3, .ref h1, .ref im, .ref sd, .ref kp])), (h0, .inr (7, [.ref c0])), (c0, .inl (k.1, 132, .inl (zF f))), (h8, .inr (8, [.ref h5, .ref h6, .ref h9])), (h5, .inr (5, [.ref a5])), (a5, .inl (k.1, 12, .inl (zF z.1))), (h6, .inr (6, [.ref s6, .ref p6, .int (zI ((z.2.1.2.2 : Nat) : Int))])), (s6, .inl (k.1, 12, .inl (zF (nF z.2.1.1)))), (p6, .inl (k.1, 3, .inl (zF (nF z.2.1.2.1)))), (h9, .inr (6, [.ref s9, .ref p9, .int (zI ((z.2.2.2.2 : Nat) : Int))])), (s9, .inl (k.1, 12, .inl (zF (nF z.2.2.1)))), (p9, .inl (k.1, 3, .inl (zF (nF z.2.2.2.1))))] s.heap := hP
  have hinX9 : ∀ w ∈ u_ws RX9 TX9 10, w ∈ wsX9_line := by decide +kernel
  have fl19 := hts (.fieldLink RX9 19 "DotObjects" "screen" "LDotObjects$Screen;") (by decide +kernel)
  have fl10 := hts (.fieldLink RX9 10 "DotObjects" "scene" "LDotObjects$Scene;") (by decide +kernel)
  have hl := lv_entry ([.ref x9, .int (zI x1), .int (zI x2)]) (n := 7) (Nat.le_of_ble_eq_true rfl)
  rw [lg_entry_eq]
  generalize (lg_sl ([.ref x9, .int (zI x1), .int (zI x2)]) ++ List.replicate (7 - (lg_sl ([.ref x9, .int (zI x1), .int (zI x2)])).length) Slot.unset).toArray = ls at hl ⊢
  have hl : lv_has ls 7 [(0, .ref x9), (1, .int (zI x1)), (2, .int (zI x2))] := hl
  refine lv_iload_n hx hb dX9_line_0 rfl (lv_at hl 1 rfl) ?_
  refine z_iconst hx hb dX9_line_1 ?_
  refine z_bipush hx hb dX9_line_2 (by decide +kernel) ?_
  refine roS (n := 3) (As := [.int (zI x1), .int (zI 0), .int (zI 23)]) (rest := []) hSf (c_isWithin l D k x1 0 23 (by omega) (by omega) (by omega)) gX9_line_X9_isWithin rfl (by decide +kernel) ⟨Nat.le_of_ble_eq_true rfl, Nat.le_of_ble_eq_true rfl⟩ hK hP [] rfl rfl hl.1 rfl (Nat.le_of_ble_eq_true rfl) dX9_line_4 ⟨Nat.zero_le _, Nat.zero_le _⟩ (fun r_4 h_4 => ?_)
  subst h_4
  refine z_if_eqb (tgt := 19) hx hb dX9_line_7 (by decide) (fun c_7 => ?_) (fun c_7 => ?_)
  · simp only [Bool.and_eq_false_iff, decide_eq_false_iff_not] at c_7
    refine lv_ldc2 hx hb hown (hts (.constantLong RX9 151 (-1)) (by decide +kernel)) dX9_line_19 ?_
    refine tel (show (-1 : Int64) = zL (-1) from by decide +kernel) ?_
    exact W.lret hx hb hr (fun t ht hW => ⟨⟨_, (z.1, (z.2.1.1, z.2.1.2.1, z.2.1.2.2), (z.2.2.1, z.2.2.2.1, z.2.2.2.2)), rfl, ⟨zcl (by unfold vLine; rw [if_neg (by omega)]), trivial⟩, by show va_P D vwCl _ _; rw [ht]; exact hP⟩, hS.F ht⟩) hS.2.2 dX9_line_22
  · simp only [Bool.and_eq_true, decide_eq_true_eq] at c_7
    refine lv_iload_n hx hb dX9_line_10 rfl (lv_at hl 2 rfl) ?_
    refine z_iconst hx hb dX9_line_11 ?_
    refine z_iconst hx hb dX9_line_12 ?_
    refine roS (n := 3) (As := [.int (zI x2), .int (zI 0), .int (zI 3)]) (rest := []) hSf (c_isWithin l D k x2 0 3 (by omega) (by omega) (by omega)) gX9_line_X9_isWithin rfl (by decide +kernel) ⟨Nat.le_of_ble_eq_true rfl, Nat.le_of_ble_eq_true rfl⟩ hK hP [] rfl rfl hl.1 rfl (Nat.le_of_ble_eq_true rfl) dX9_line_13 ⟨Nat.zero_le _, Nat.zero_le _⟩ (fun r_13 h_13 => ?_)
    subst h_13
    refine z_if_neb (tgt := 23) hx hb dX9_line_16 (by decide) (fun c_16 => ?_) (fun c_16 => ?_)
    · simp only [Bool.and_eq_true, decide_eq_true_eq] at c_16
      refine lv_aload_n hx hb dX9_line_23 rfl (lv_at hl 0 rfl) ?_
      refine va_get (D := D) (ci := 9) (v := .ref h8) (C := RX9) (T := TX9) (N := 10) hx hb hts hinX9 hown hK.1 hP 0 rfl rfl 1 (by decide) fl19 (fun _ h9 => h9) rfl dX9_line_24 ?_
      refine lv_aload_n hx hb dX9_line_27 rfl (lv_at hl 0 rfl) ?_
      refine va_get (D := D) (ci := 9) (v := .ref h0) (C := RX9) (T := TX9) (N := 10) hx hb hts hinX9 hown hK.1 hP 0 rfl rfl 0 (by decide) fl10 (fun _ h9 => h9) rfl dX9_line_28 ?_
      refine lv_iload_n hx hb dX9_line_31 rfl (lv_at hl 1 rfl) ?_
      refine mrV (n := 2) (As := [.ref h0, .int (zI ((x1.toNat : Nat) : Int))]) (rest := []) hSf (c_paintNow l D k h0 c0 f B hV h8 h5 a5 h6 s6 p6 h9 s9 p9 (z.1, (z.2.1.1, z.2.1.2.1, z.2.1.2.2), (z.2.2.1, z.2.2.2.1, z.2.2.2.2)) hB x1.toNat (by omega)) gX9_line_X8_paintNow rfl (by decide +kernel) ⟨Nat.le_of_ble_eq_true rfl, Nat.le_of_ble_eq_true rfl⟩ hK hP hD hS [1, 2, 3, 4, 5, 6, 7, 8, 9, 10, 11] rfl rfl (by decide) (fun _ => rfl) (fun _ => rfl) 2 rfl rfl rfl hl.1 (by rw [show zI x1 = zI ((x1.toNat : Nat) : Int) from zc (by omega)]; rfl) (Nat.le_of_ble_eq_true rfl) dX9_line_32 ⟨Nat.zero_le _, Nat.zero_le _⟩ (fun u_32 H locs h_32 hP hD hS => ?_)
      have hP : va_P D vwCl [(x9, .inr (9, [.ref h0, .ref h8, .ref h4, .ref h2, .ref hh, .ref h3, .ref h1, .ref im, .ref sd, .ref kp])), (h0, .inr (7, [.ref c0])), (c0, .inl (k.1, 132, .inl (zF f))), (h8, .inr (8, [.ref h5, .ref h6, .ref h9])), (h5, .inr (5, [.ref a5])), (a5, .inl (k.1, 12, .inl (zF u_32.1))), (h6, .inr (6, [.ref s6, .ref p6, .int (zI ((u_32.2.1.2.2 : Nat) : Int))])), (s6, .inl (k.1, 12, .inl (zF (nF u_32.2.1.1)))), (p6, .inl (k.1, 3, .inl (zF (nF u_32.2.1.2.1)))), (h9, .inr (6, [.ref s9, .ref p9, .int (zI ((u_32.2.2.2.2 : Nat) : Int))])), (s9, .inl (k.1, 12, .inl (zF (nF u_32.2.2.1)))), (p9, .inl (k.1, 3, .inl (zF (nF u_32.2.2.2.1))))] H := hP
      have hD : va_D A [(x9, .inr (9, [.ref h0, .ref h8, .ref h4, .ref h2, .ref hh, .ref h3, .ref h1, .ref im, .ref sd, .ref kp])), (h0, .inr (7, [.ref c0])), (c0, .inl (k.1, 132, .inl (zF f))), (h8, .inr (8, [.ref h5, .ref h6, .ref h9])), (h5, .inr (5, [.ref a5])), (a5, .inl (k.1, 12, .inl (zF u_32.1))), (h6, .inr (6, [.ref s6, .ref p6, .int (zI ((u_32.2.1.2.2 : Nat) : Int))])), (s6, .inl (k.1, 12, .inl (zF (nF u_32.2.1.1)))), (p6, .inl (k.1, 3, .inl (zF (nF u_32.2.1.2.1)))), (h9, .inr (6, [.ref s9, .ref p9, .int (zI ((u_32.2.2.2.2 : Nat) : Int))])), (s9, .inl (k.1, 12, .inl (zF (nF u_32.2.2.1)))), (p9, .inl (k.1, 3, .inl (zF (nF u_32.2.2.2.1))))] := hD
      refine lv_astore_n (lv' := [(3, .ref h6), (0, .ref x9), (1, .int (zI x1)), (2, .int (zI x2))]) hx hb dX9_line_35 rfl hl (by decide) rfl (fun ls hl => ?_)
      refine lv_lconst (v := zL 0) hx hb dX9_line_36 (by decide +kernel) ?_
      refine lv_lstore (lv' := [(4, .long (zL 0)), (3, .ref h6), (0, .ref x9), (1, .int (zI x1)), (2, .int (zI x2))]) hx hb dX9_line_37 hl (by decide) rfl (fun ls hl => ?_)
      refine z_iconst hx hb dX9_line_39 ?_
      refine lv_istore (lv' := [(6, .int (zI 0)), (4, .long (zL 0)), (3, .ref h6), (0, .ref x9), (1, .int (zI x1)), (2, .int (zI x2))]) hx hb dX9_line_40 hl (by decide) rfl (fun ls hl => ?_)
      have L42 : ∀ (NN42 : Nat), ∀ (jj : Nat), (jj ≤ 8) → 8 - jj < NN42 → ∀ (H : Heap) (locs : List Loc), va_P D vwCl [(x9, .inr (9, [.ref h0, .ref h8, .ref h4, .ref h2, .ref hh, .ref h3, .ref h1, .ref im, .ref sd, .ref kp])), (h0, .inr (7, [.ref c0])), (c0, .inl (k.1, 132, .inl (zF f))), (h8, .inr (8, [.ref h5, .ref h6, .ref h9])), (h5, .inr (5, [.ref a5])), (a5, .inl (k.1, 12, .inl (zF u_32.1))), (h6, .inr (6, [.ref s6, .ref p6, .int (zI ((u_32.2.1.2.2 : Nat) : Int))])), (s6, .inl (k.1, 12, .inl (zF (nF u_32.2.1.1)))), (p6, .inl (k.1, 3, .inl (zF (nF u_32.2.1.2.1)))), (h9, .inr (6, [.ref s9, .ref p9, .int (zI ((u_32.2.2.2.2 : Nat) : Int))])), (s9, .inl (k.1, 12, .inl (zF (nF u_32.2.2.1)))), (p9, .inl (k.1, 3, .inl (zF (nF u_32.2.2.2.1))))] H → va_D A [(x9, .inr (9, [.ref h0, .ref h8, .ref h4, .ref h2, .ref hh, .ref h3, .ref h1, .ref im, .ref sd, .ref kp])), (h0, .inr (7, [.ref c0])), (c0, .inl (k.1, 132, .inl (zF f))), (h8, .inr (8, [.ref h5, .ref h6, .ref h9])), (h5, .inr (5, [.ref a5])), (a5, .inl (k.1, 12, .inl (zF u_32.1))), (h6, .inr (6, [.ref s6, .ref p6, .int (zI ((u_32.2.1.2.2 : Nat) : Int))])), (s6, .inl (k.1, 12, .inl (zF (nF u_32.2.1.1)))), (p6, .inl (k.1, 3, .inl (zF (nF u_32.2.1.2.1)))), (h9, .inr (6, [.ref s9, .ref p9, .int (zI ((u_32.2.2.2.2 : Nat) : Int))])), (s9, .inl (k.1, 12, .inl (zF (nF u_32.2.2.1)))), (p9, .inl (k.1, 3, .inl (zF (nF u_32.2.2.2.1))))] → va_S A s.heap H locs → ∀ (ls : Array Slot), lv_has ls 7 [(0, .ref x9), (1, .int (zI x1)), (2, .int (zI x2)), (3, .ref h6), (4, .long (zL (liN f x1.toNat x2.toNat jj))), (6, .int (zI ((jj : Nat) : Int)))] → W p l e (headSpec wsX9_line { frames := 5, cells := 0, slots := 0, locals := 117 }).room s m ([.ref x9, .int (zI x1), .int (zI x2)] : List Value).toArray below meth c H locs 0 0 (MQ below (va_Ql (fun (r : Int64) (u : (Nat → Int) × ((Nat → Nat) × (Nat → Nat) × Nat) × ((Nat → Nat) × (Nat → Nat) × Nat)) => r = zL (vLine f x1 x2) ∧ True) (fun (u : (Nat → Int) × ((Nat → Nat) × (Nat → Nat) × Nat) × ((Nat → Nat) × (Nat → Nat) × Nat)) t => va_P D vwCl [(x9, .inr (9, [.ref h0, .ref h8, .ref h4, .ref h2, .ref hh, .ref h3, .ref h1, .ref im, .ref sd, .ref kp])), (h0, .inr (7, [.ref c0])), (c0, .inl (k.1, 132, .inl (zF f))), (h8, .inr (8, [.ref h5, .ref h6, .ref h9])), (h5, .inr (5, [.ref a5])), (a5, .inl (k.1, 12, .inl (zF u.1))), (h6, .inr (6, [.ref s6, .ref p6, .int (zI ((u.2.1.2.2 : Nat) : Int))])), (s6, .inl (k.1, 12, .inl (zF (nF u.2.1.1)))), (p6, .inl (k.1, 3, .inl (zF (nF u.2.1.2.1)))), (h9, .inr (6, [.ref s9, .ref p9, .int (zI ((u.2.2.2.2 : Nat) : Int))])), (s9, .inl (k.1, 12, .inl (zF (nF u.2.2.1)))), (p9, .inl (k.1, 3, .inl (zF (nF u.2.2.2.1))))] t.heap) A) ([.ref x9, .int (zI x1), .int (zI x2)] : List Value).toArray s 0 0 A) (F0 m 42 ls []) := by
        intro NN42
        induction NN42 with
        | zero => intro jj _ hN; exact absurd hN (Nat.not_lt_zero _)
        | succ NN42 ih42 =>
          intro jj hjj hN H locs hP hD hS ls hl
          refine lv_iload hx hb dX9_line_42 (lv_at hl 5 rfl) ?_
          refine z_bipush hx hb dX9_line_44 (by decide +kernel) ?_
          refine z_icmp_ge (tgt := 80) hx hb dX9_line_46 (by decide) (by omega) (by omega) (fun c_46 => ?_) (fun c_46 => ?_)
          · obtain rfl : jj = 8 := by omega
            refine lv_lload hx hb dX9_line_80 (lv_at hl 4 rfl) ?_
            exact W.lret hx hb hr (fun t ht hW => ⟨⟨_, (u_32.1, (u_32.2.1.1, u_32.2.1.2.1, u_32.2.1.2.2), (u_32.2.2.1, u_32.2.2.2.1, u_32.2.2.2.2)), rfl, ⟨zcl (by unfold vLine; rw [if_pos (by omega)]), trivial⟩, by show va_P D vwCl _ _; rw [ht]; exact hP⟩, hS.F ht⟩) hS.2.2 dX9_line_82
          · have hcr := colA_rg hV (dN f x1.toNat) x1.toNat (8 * x2.toNat + jj)
            refine lv_lload hx hb dX9_line_49 (lv_at hl 4 rfl) ?_
            refine lv_ldc2 hx hb hown (hts (.constantLong RX9 153 (8)) (by decide +kernel)) dX9_line_51 ?_
            refine tel (show (8 : Int64) = zL (8) from by decide +kernel) ?_
            refine lv_lmul hx hb dX9_line_54 (tel (zL_mul _ _) ?_)
            refine lv_aload_n hx hb dX9_line_55 rfl (lv_at hl 3 rfl) ?_
            refine lv_aload_n hx hb dX9_line_56 rfl (lv_at hl 0 rfl) ?_
            refine va_get (D := D) (ci := 9) (v := .ref h0) (C := RX9) (T := TX9) (N := 10) hx hb hts hinX9 hown hK.1 hP 0 rfl rfl 0 (by decide) fl10 (fun _ h9 => h9) rfl dX9_line_57 ?_
            refine lv_iload_n hx hb dX9_line_60 rfl (lv_at hl 2 rfl) ?_
            refine z_bipush hx hb dX9_line_61 (by decide +kernel) ?_
            refine z_imul hx hb dX9_line_63 ?_
            refine lv_iload hx hb dX9_line_64 (lv_at hl 5 rfl) ?_
            refine z_iadd hx hb dX9_line_66 ?_
            refine roV (n := 2) (As := [.ref h0, .int (zI (((8 * x2.toNat + jj) : Nat) : Int))]) (rest := [.long (zL ((liN f x1.toNat x2.toNat jj) * 8))]) hSf (c_colourAt l D k h0 c0 f B hV h6 s6 p6 u_32.2.1.1 u_32.2.1.2.1 u_32.2.1.2.2 x1.toNat (dN f x1.toNat) h_32 (8 * x2.toNat + jj) (by omega)) gX9_line_X6_colourAt rfl (by decide +kernel) ⟨Nat.le_of_ble_eq_true rfl, Nat.le_of_ble_eq_true rfl⟩ hK hP [1, 2, 6, 7, 8] rfl 2 rfl rfl rfl hl.1 (by rw [show zI ((x2 * 8) + ((jj : Nat) : Int)) = zI (((8 * x2.toNat + jj) : Nat) : Int) from zc (by omega)]; rfl) (Nat.le_of_ble_eq_true rfl) dX9_line_67 ⟨Nat.zero_le _, Nat.zero_le _⟩ (fun r_67 h_67 => ?_)
            subst h_67
            refine lv_i2l (v := zL (colA f (dN f x1.toNat) x1.toNat (8 * x2.toNat + jj))) hx hb dX9_line_70 (zI_l (by omega)) ?_
            refine lv_ladd hx hb dX9_line_71 (tel (zL_add _ _) ?_)
            refine tel (zcl (show ((liN f x1.toNat x2.toNat jj) * 8) + (colA f (dN f x1.toNat) x1.toNat (8 * x2.toNat + jj)) = liN f x1.toNat x2.toNat (jj + 1) from rfl)) ?_
            refine lv_lstore (lv' := [(4, .long (zL (liN f x1.toNat x2.toNat (jj + 1)))), (0, .ref x9), (1, .int (zI x1)), (2, .int (zI x2)), (3, .ref h6), (6, .int (zI ((jj : Nat) : Int)))]) hx hb dX9_line_72 hl (by decide) rfl (fun ls hl => ?_)
            refine lv_iinc (v := zI (((jj : Nat) : Int) + 1)) (lv' := [(6, .int (zI (((jj : Nat) : Int) + 1))), (4, .long (zL (liN f x1.toNat x2.toNat (jj + 1)))), (0, .ref x9), (1, .int (zI x1)), (2, .int (zI x2)), (3, .ref h6)]) hx hb dX9_line_74 hl (k := 5) rfl (zI_add _ _) (by decide) rfl (fun ls hl => ?_)
            refine lv_goto (tgt := 42) hx hb dX9_line_77 (by decide) ?_
            have hl : lv_has ls 7 [(6, .int (zI (((jj + 1) : Nat) : Int))), (4, .long (zL (liN f x1.toNat x2.toNat (jj + 1)))), (0, .ref x9), (1, .int (zI x1)), (2, .int (zI x2)), (3, .ref h6)] := lv_c (l1 := []) (l2 := [(4, .long (zL (liN f x1.toNat x2.toNat (jj + 1)))), (0, .ref x9), (1, .int (zI x1)), (2, .int (zI x2)), (3, .ref h6)]) hl (show ((jj : Nat) : Int) + 1 = (((jj + 1) : Nat) : Int) from by omega)
            exact ih42 (jj + 1) (by omega) (by omega) _ _ hP hD hS ls (lv_sub hl [2, 3, 4, 5, 1, 0] rfl)
      have hl : lv_has ls 7 [(6, .int (zI ((0 : Nat) : Int))), (4, .long (zL 0)), (3, .ref h6), (0, .ref x9), (1, .int (zI x1)), (2, .int (zI x2))] := lv_c (l1 := []) (l2 := [(4, .long (zL 0)), (3, .ref h6), (0, .ref x9), (1, .int (zI x1)), (2, .int (zI x2))]) hl (show 0 = ((0 : Nat) : Int) from rfl)
      exact L42 _ 0 (by decide) (Nat.lt_succ_self _) _ _ hP hD hS ls (lv_sub hl [3, 4, 5, 2, 1, 0] rfl)
    · simp only [Bool.and_eq_false_iff, decide_eq_false_iff_not] at c_16
      refine lv_ldc2 hx hb hown (hts (.constantLong RX9 151 (-1)) (by decide +kernel)) dX9_line_19 ?_
      refine tel (show (-1 : Int64) = zL (-1) from by decide +kernel) ?_
      exact W.lret hx hb hr (fun t ht hW => ⟨⟨_, (z.1, (z.2.1.1, z.2.1.2.1, z.2.1.2.2), (z.2.2.1, z.2.2.2.1, z.2.2.2.2)), rfl, ⟨zcl (by unfold vLine; rw [if_neg (by omega)]), trivial⟩, by show va_P D vwCl _ _; rw [ht]; exact hP⟩, hS.F ht⟩) hS.2.2 dX9_line_22
set_option maxHeartbeats 4000000 in
set_option maxRecDepth 100000 in
theorem c_drawn (l : Launch) (D : va_G) (k : Kt) (x9 : Nat) (h0 : Nat) (c0 : Nat) (h8 : Nat) (h4 : Nat) (h2 : Nat) (hh : Nat) (h3 : Nat) (h1 : Nat) (im : Nat) (sd : Nat) (kp : Nat) (f : St) (B : Int) (hV : Va B f) (h5 : Nat) (a5 : Nat) (h6 : Nat) (s6 : Nat) (p6 : Nat) (h9 : Nat) (s9 : Nat) (p9 : Nat) (z : (Nat → Int) × ((Nat → Nat) × (Nat → Nat) × Nat) × ((Nat → Nat) × (Nat → Nat) × Nat)) (hB : B < 1000000) (x1 : Int) (x2 : Int) (hx1 : -2147483648 ≤ x1 ∧ x1 < 2147483648) (hx2 : -2147483648 ≤ x2 ∧ x2 < 2147483648) : MI l D k yX9_drawn wsX9_drawn 4 95 [.ref x9, .int (zI x1), .int (zI x2)] [(x9, .inr (9, [.ref h0, .ref h8, .ref h4, .ref h2, .ref hh, .ref h3, .ref h1, .ref im, .ref sd, .ref kp])), (h0, .inr (7, [.ref c0])), (c0, .inl (k.1, 132, .inl (zF f))), (h8, .inr (8, [.ref h5, .ref h6, .ref h9])), (h5, .inr (5, [.ref a5])), (a5, .inl (k.1, 12, .inl (zF z.1))), (h6, .inr (6, [.ref s6, .ref p6, .int (zI ((z.2.1.2.2 : Nat) : Int))])), (s6, .inl (k.1, 12, .inl (zF (nF z.2.1.1)))), (p6, .inl (k.1, 3, .inl (zF (nF z.2.1.2.1)))), (h9, .inr (6, [.ref s9, .ref p9, .int (zI ((z.2.2.2.2 : Nat) : Int))])), (s9, .inl (k.1, 12, .inl (zF (nF z.2.2.1)))), (p9, .inl (k.1, 3, .inl (zF (nF z.2.2.2.1))))] (fun (r : Int32) (u : (Nat → Int) × ((Nat → Nat) × (Nat → Nat) × Nat) × ((Nat → Nat) × (Nat → Nat) × Nat)) => r = zI (vDrawn f x1 x2) ∧ True) (fun u => [(x9, .inr (9, [.ref h0, .ref h8, .ref h4, .ref h2, .ref hh, .ref h3, .ref h1, .ref im, .ref sd, .ref kp])), (h0, .inr (7, [.ref c0])), (c0, .inl (k.1, 132, .inl (zF f))), (h8, .inr (8, [.ref h5, .ref h6, .ref h9])), (h5, .inr (5, [.ref a5])), (a5, .inl (k.1, 12, .inl (zF u.1))), (h6, .inr (6, [.ref s6, .ref p6, .int (zI ((u.2.1.2.2 : Nat) : Int))])), (s6, .inl (k.1, 12, .inl (zF (nF u.2.1.1)))), (p6, .inl (k.1, 3, .inl (zF (nF u.2.1.2.1)))), (h9, .inr (6, [.ref s9, .ref p9, .int (zI ((u.2.2.2.2 : Nat) : Int))])), (s9, .inl (k.1, 12, .inl (zF (nF u.2.2.1)))), (p9, .inl (k.1, 3, .inl (zF (nF u.2.2.2.1))))]) := by
  refine Met.ofW (cc := cX9_drawn) (maxL := 4) (ret := (some .int)) (by decide) rfl ?_
  intro p e s m args below meth c s₁ Bd hml hv
  obtain ⟨rfl, hP, hK, hD0⟩ := hv
  have hx := Bd.exec
  have hb := Bd.bytes
  have hr := Bd.returns
  have hts := atoms_spec (ws := wsX9_drawn) Bd.pre
  have hown : s.vm.findClass RX9 = some m.cls := findClass_of_methodNamed Bd.named
  have hlocks := Bd.notSynchronized
  have hSf : CallFix p m c cX9_drawn 4 s ([.ref x9, .int (zI x1), .int (zI x2)] : List Value).toArray wsX9_drawn RX9 := ⟨hx, hb, hml, hown, hts⟩
  have hD := fA_D hD0
  have hS : va_S (fA [(x9, .inr (9, [.ref h0, .ref h8, .ref h4, .ref h2, .ref hh, .ref h3, .ref h1, .ref im, .ref sd, .ref kp])), (h0, .inr (7, [.ref c0])), (c0, .inl (k.1, 132, .inl (zF f))), (h8, .inr (8, [.ref h5, .ref h6, .ref h9])), (h5, .inr (5, [.ref a5])), (a5, .inl (k.1, 12, .inl (zF z.1))), (h6, .inr (6, [.ref s6, .ref p6, .int (zI ((z.2.1.2.2 : Nat) : Int))])), (s6, .inl (k.1, 12, .inl (zF (nF z.2.1.1)))), (p6, .inl (k.1, 3, .inl (zF (nF z.2.1.2.1)))), (h9, .inr (6, [.ref s9, .ref p9, .int (zI ((z.2.2.2.2 : Nat) : Int))])), (s9, .inl (k.1, 12, .inl (zF (nF z.2.2.1)))), (p9, .inl (k.1, 3, .inl (zF (nF z.2.2.2.1))))]) s.heap s.heap [] := va_S.rf
  generalize hAe : fA [(x9, .inr (9, [.ref h0, .ref h8, .ref h4, .ref h2, .ref hh, .ref h3, .ref h1, .ref im, .ref sd, .ref kp])), (h0, .inr (7, [.ref c0])), (c0, .inl (k.1, 132, .inl (zF f))), (h8, .inr (8, [.ref h5, .ref h6, .ref h9])), (h5, .inr (5, [.ref a5])), (a5, .inl (k.1, 12, .inl (zF z.1))), (h6, .inr (6, [.ref s6, .ref p6, .int (zI ((z.2.1.2.2 : Nat) : Int))])), (s6, .inl (k.1, 12, .inl (zF (nF z.2.1.1)))), (p6, .inl (k.1, 3, .inl (zF (nF z.2.1.2.1)))), (h9, .inr (6, [.ref s9, .ref p9, .int (zI ((z.2.2.2.2 : Nat) : Int))])), (s9, .inl (k.1, 12, .inl (zF (nF z.2.2.1)))), (p9, .inl (k.1, 3, .inl (zF (nF z.2.2.2.1))))] = A at hD hS ⊢
  have hP : va_P D vwCl [(x9, .inr (9, [.ref h0, .ref h8, .ref h4, .ref h2, .ref hh, .ref h3, .ref h1, .ref im, .ref sd, .ref kp])), (h0, .inr (7, [.ref c0])), (c0, .inl (k.1, 132, .inl (zF f))), (h8, .inr (8, [.ref h5, .ref h6, .ref h9])), (h5, .inr (5, [.ref a5])), (a5, .inl (k.1, 12, .inl (zF z.1))), (h6, .inr (6, [.ref s6, .ref p6, .int (zI ((z.2.1.2.2 : Nat) : Int))])), (s6, .inl (k.1, 12, .inl (zF (nF z.2.1.1)))), (p6, .inl (k.1, 3, .inl (zF (nF z.2.1.2.1)))), (h9, .inr (6, [.ref s9, .ref p9, .int (zI ((z.2.2.2.2 : Nat) : Int))])), (s9, .inl (k.1, 12, .inl (zF (nF z.2.2.1)))), (p9, .inl (k.1, 3, .inl (zF (nF z.2.2.2.1))))] s.heap := hP
  have hinX9 : ∀ w ∈ u_ws RX9 TX9 10, w ∈ wsX9_drawn := by decide +kernel
  have fl19 := hts (.fieldLink RX9 19 "DotObjects" "screen" "LDotObjects$Screen;") (by decide +kernel)
  have fl10 := hts (.fieldLink RX9 10 "DotObjects" "scene" "LDotObjects$Scene;") (by decide +kernel)
  have hl := lv_entry ([.ref x9, .int (zI x1), .int (zI x2)]) (n := 4) (Nat.le_of_ble_eq_true rfl)
  rw [lg_entry_eq]
  generalize (lg_sl ([.ref x9, .int (zI x1), .int (zI x2)]) ++ List.replicate (4 - (lg_sl ([.ref x9, .int (zI x1), .int (zI x2)])).length) Slot.unset).toArray = ls at hl ⊢
  have hl : lv_has ls 4 [(0, .ref x9), (1, .int (zI x1)), (2, .int (zI x2))] := hl
  refine lv_iload_n hx hb dX9_drawn_0 rfl (lv_at hl 1 rfl) ?_
  refine z_iconst hx hb dX9_drawn_1 ?_
  refine z_bipush hx hb dX9_drawn_2 (by decide +kernel) ?_
  refine roS (n := 3) (As := [.int (zI x1), .int (zI 0), .int (zI 23)]) (rest := []) hSf (c_isWithin l D k x1 0 23 (by omega) (by omega) (by omega)) gX9_drawn_X9_isWithin rfl (by decide +kernel) ⟨Nat.le_of_ble_eq_true rfl, Nat.le_of_ble_eq_true rfl⟩ hK hP [] rfl rfl hl.1 rfl (Nat.le_of_ble_eq_true rfl) dX9_drawn_4 ⟨Nat.zero_le _, Nat.zero_le _⟩ (fun r_4 h_4 => ?_)
  subst h_4
  refine z_if_eqb (tgt := 19) hx hb dX9_drawn_7 (by decide) (fun c_7 => ?_) (fun c_7 => ?_)
  · simp only [Bool.and_eq_false_iff, decide_eq_false_iff_not] at c_7
    refine lv_ldc hx hb hown (hts (.constant RX9 99 (-1000000002)) (by decide +kernel)) dX9_drawn_19 ?_
    refine te (show (-1000000002 : Int32) = zI (-1000000002) from by decide +kernel) ?_
    exact W.iret hx hb hr (fun t ht hW => ⟨⟨_, (z.1, (z.2.1.1, z.2.1.2.1, z.2.1.2.2), (z.2.2.1, z.2.2.2.1, z.2.2.2.2)), rfl, ⟨zc (by unfold vDrawn; rw [if_neg (by omega)]), trivial⟩, by show va_P D vwCl _ _; rw [ht]; exact hP⟩, hS.F ht⟩) hS.2.2 dX9_drawn_21
  · simp only [Bool.and_eq_true, decide_eq_true_eq] at c_7
    refine lv_iload_n hx hb dX9_drawn_10 rfl (lv_at hl 2 rfl) ?_
    refine z_iconst hx hb dX9_drawn_11 ?_
    refine z_iconst hx hb dX9_drawn_12 ?_
    refine roS (n := 3) (As := [.int (zI x2), .int (zI 0), .int (zI 1)]) (rest := []) hSf (c_isWithin l D k x2 0 1 (by omega) (by omega) (by omega)) gX9_drawn_X9_isWithin rfl (by decide +kernel) ⟨Nat.le_of_ble_eq_true rfl, Nat.le_of_ble_eq_true rfl⟩ hK hP [] rfl rfl hl.1 rfl (Nat.le_of_ble_eq_true rfl) dX9_drawn_13 ⟨Nat.zero_le _, Nat.zero_le _⟩ (fun r_13 h_13 => ?_)
    subst h_13
    refine z_if_neb (tgt := 22) hx hb dX9_drawn_16 (by decide) (fun c_16 => ?_) (fun c_16 => ?_)
    · simp only [Bool.and_eq_true, decide_eq_true_eq] at c_16
      refine lv_aload_n hx hb dX9_drawn_22 rfl (lv_at hl 0 rfl) ?_
      refine va_get (D := D) (ci := 9) (v := .ref h8) (C := RX9) (T := TX9) (N := 10) hx hb hts hinX9 hown hK.1 hP 0 rfl rfl 1 (by decide) fl19 (fun _ h9 => h9) rfl dX9_drawn_23 ?_
      refine lv_aload_n hx hb dX9_drawn_26 rfl (lv_at hl 0 rfl) ?_
      refine va_get (D := D) (ci := 9) (v := .ref h0) (C := RX9) (T := TX9) (N := 10) hx hb hts hinX9 hown hK.1 hP 0 rfl rfl 0 (by decide) fl10 (fun _ h9 => h9) rfl dX9_drawn_27 ?_
      refine lv_iload_n hx hb dX9_drawn_30 rfl (lv_at hl 1 rfl) ?_
      refine miV (n := 2) (As := [.ref h0, .int (zI ((x1.toNat : Nat) : Int))]) (rest := []) hSf (c_drawnSet l D k h0 c0 f B hV h8 h5 a5 h6 s6 p6 h9 s9 p9 (z.1, (z.2.1.1, z.2.1.2.1, z.2.1.2.2), (z.2.2.1, z.2.2.2.1, z.2.2.2.2)) hB x1.toNat (by omega)) gX9_drawn_X8_drawnSet rfl (by decide +kernel) ⟨Nat.le_of_ble_eq_true rfl, Nat.le_of_ble_eq_true rfl⟩ hK hP hD hS [1, 2, 3, 4, 5, 6, 7, 8, 9, 10, 11] rfl rfl (by decide) (fun _ => rfl) (fun _ => rfl) 2 rfl rfl rfl hl.1 (by rw [show zI x1 = zI ((x1.toNat : Nat) : Int) from zc (by omega)]; rfl) (Nat.le_of_ble_eq_true rfl) dX9_drawn_31 ⟨Nat.zero_le _, Nat.zero_le _⟩ (fun r_31 u_31 H locs h_31 hP hD hS => ?_)
      have hP : va_P D vwCl [(x9, .inr (9, [.ref h0, .ref h8, .ref h4, .ref h2, .ref hh, .ref h3, .ref h1, .ref im, .ref sd, .ref kp])), (h0, .inr (7, [.ref c0])), (c0, .inl (k.1, 132, .inl (zF f))), (h8, .inr (8, [.ref h5, .ref h6, .ref h9])), (h5, .inr (5, [.ref a5])), (a5, .inl (k.1, 12, .inl (zF u_31.1))), (h6, .inr (6, [.ref s6, .ref p6, .int (zI ((u_31.2.1.2.2 : Nat) : Int))])), (s6, .inl (k.1, 12, .inl (zF (nF u_31.2.1.1)))), (p6, .inl (k.1, 3, .inl (zF (nF u_31.2.1.2.1)))), (h9, .inr (6, [.ref s9, .ref p9, .int (zI ((u_31.2.2.2.2 : Nat) : Int))])), (s9, .inl (k.1, 12, .inl (zF (nF u_31.2.2.1)))), (p9, .inl (k.1, 3, .inl (zF (nF u_31.2.2.2.1))))] H := hP
      have hD : va_D A [(x9, .inr (9, [.ref h0, .ref h8, .ref h4, .ref h2, .ref hh, .ref h3, .ref h1, .ref im, .ref sd, .ref kp])), (h0, .inr (7, [.ref c0])), (c0, .inl (k.1, 132, .inl (zF f))), (h8, .inr (8, [.ref h5, .ref h6, .ref h9])), (h5, .inr (5, [.ref a5])), (a5, .inl (k.1, 12, .inl (zF u_31.1))), (h6, .inr (6, [.ref s6, .ref p6, .int (zI ((u_31.2.1.2.2 : Nat) : Int))])), (s6, .inl (k.1, 12, .inl (zF (nF u_31.2.1.1)))), (p6, .inl (k.1, 3, .inl (zF (nF u_31.2.1.2.1)))), (h9, .inr (6, [.ref s9, .ref p9, .int (zI ((u_31.2.2.2.2 : Nat) : Int))])), (s9, .inl (k.1, 12, .inl (zF (nF u_31.2.2.1)))), (p9, .inl (k.1, 3, .inl (zF (nF u_31.2.2.2.1))))] := hD
      obtain ⟨he_31, h_31⟩ := h_31
      subst he_31
      refine lv_istore_n (lv' := [(3, .int (zI ((dN f x1.toNat : Nat) : Int))), (0, .ref x9), (1, .int (zI x1)), (2, .int (zI x2))]) hx hb dX9_drawn_34 rfl hl (by decide) rfl (fun ls hl => ?_)
      refine lv_iload_n hx hb dX9_drawn_35 rfl (lv_at hl 3 rfl) ?_
      refine z_if_ne (tgt := 43) hx hb dX9_drawn_36 (by decide) (by omega) (fun c_36 => ?_) (fun c_36 => ?_)
      · refine lv_aload_n hx hb dX9_drawn_43 rfl (lv_at hl 1 rfl) ?_
        refine va_get (D := D) (ci := 9) (v := .ref h0) (C := RX9) (T := TX9) (N := 10) hx hb hts hinX9 hown hK.1 hP 0 rfl rfl 0 (by decide) fl10 (fun _ h9 => h9) rfl dX9_drawn_44 ?_
        refine lv_iload_n hx hb dX9_drawn_47 rfl (lv_at hl 2 rfl) ?_
        refine roV (n := 1) (As := [.int (zI ((x1.toNat : Nat) : Int))]) (rest := []) hSf (c_setOn l D k h0 c0 f B hV x1.toNat (by omega)) gX9_drawn_X7_setOn rfl (by decide +kernel) ⟨Nat.le_of_ble_eq_true rfl, Nat.le_of_ble_eq_true rfl⟩ hK hP [1, 2] rfl 0 rfl rfl rfl hl.1 (by rw [show zI x1 = zI ((x1.toNat : Nat) : Int) from zc (by omega)]; rfl) (Nat.le_of_ble_eq_true rfl) dX9_drawn_48 ⟨Nat.zero_le _, Nat.zero_le _⟩ (fun r_48 h_48 => ?_)
        subst h_48
        refine lv_iload_n hx hb dX9_drawn_51 rfl (lv_at hl 0 rfl) ?_
        refine z_iconst hx hb dX9_drawn_52 ?_
        refine z_not hx hb dX9_drawn_53 (dN f x1.toNat) (by omega) (Nat.lt_trans (dN_lt hV x1.toNat) (by decide)) ?_
        refine z_iand hx hb dX9_drawn_54 (onS f x1.toNat) (2 ^ 32 - ((dN f x1.toNat) + 1)) (by omega) (by omega) ?_
        exact W.iret hx hb hr (fun t ht hW => ⟨⟨_, (u_31.1, (u_31.2.1.1, u_31.2.1.2.1, u_31.2.1.2.2), (u_31.2.2.1, u_31.2.2.2.1, u_31.2.2.2.2)), rfl, ⟨zc (by unfold vDrawn; rw [if_pos (by omega), if_neg (by omega)]), trivial⟩, by show va_P D vwCl _ _; rw [ht]; exact hP⟩, hS.F ht⟩) hS.2.2 dX9_drawn_55
      · refine lv_iload_n hx hb dX9_drawn_39 rfl (lv_at hl 0 rfl) ?_
        refine lv_goto (tgt := 55) hx hb dX9_drawn_40 (by decide) ?_
        exact W.iret hx hb hr (fun t ht hW => ⟨⟨_, (u_31.1, (u_31.2.1.1, u_31.2.1.2.1, u_31.2.1.2.2), (u_31.2.2.1, u_31.2.2.2.1, u_31.2.2.2.2)), rfl, ⟨zc (by unfold vDrawn; rw [if_pos (by omega), if_pos (by omega)]), trivial⟩, by show va_P D vwCl _ _; rw [ht]; exact hP⟩, hS.F ht⟩) hS.2.2 dX9_drawn_55
    · simp only [Bool.and_eq_false_iff, decide_eq_false_iff_not] at c_16
      refine lv_ldc hx hb hown (hts (.constant RX9 99 (-1000000002)) (by decide +kernel)) dX9_drawn_19 ?_
      refine te (show (-1000000002 : Int32) = zI (-1000000002) from by decide +kernel) ?_
      exact W.iret hx hb hr (fun t ht hW => ⟨⟨_, (z.1, (z.2.1.1, z.2.1.2.1, z.2.1.2.2), (z.2.2.1, z.2.2.2.1, z.2.2.2.2)), rfl, ⟨zc (by unfold vDrawn; rw [if_neg (by omega)]), trivial⟩, by show va_P D vwCl _ _; rw [ht]; exact hP⟩, hS.F ht⟩) hS.2.2 dX9_drawn_21
set_option maxHeartbeats 4000000 in
set_option maxRecDepth 100000 in
theorem c_pictureRow (l : Launch) (D : va_G) (k : Kt) (x9 : Nat) (h0 : Nat) (c0 : Nat) (h8 : Nat) (h4 : Nat) (h2 : Nat) (hh : Nat) (h3 : Nat) (h1 : Nat) (im : Nat) (sd : Nat) (kp : Nat) (f : St) (B : Int) (hV : Va B f) (x1 : Int) (x2 : Int) (hx1 : -2147483648 ≤ x1 ∧ x1 < 2147483648) (hx2 : -2147483648 ≤ x2 ∧ x2 < 2147483648) : RO l D k yX9_pictureRow wsX9_pictureRow 2 42 [.ref x9, .int (zI x1), .int (zI x2)] [(x9, .inr (9, [.ref h0, .ref h8, .ref h4, .ref h2, .ref hh, .ref h3, .ref h1, .ref im, .ref sd, .ref kp])), (h0, .inr (7, [.ref c0])), (c0, .inl (k.1, 132, .inl (zF f)))] (fun r => r = zI (vPic f x1 x2)) := by
  refine Met.ofW (cc := cX9_pictureRow) (maxL := 3) (ret := (some .int)) (by decide) rfl ?_
  intro p e s m args below meth c s₁ Bd hml hv
  obtain ⟨rfl, hP, hK⟩ := hv
  have hx := Bd.exec
  have hb := Bd.bytes
  have hr := Bd.returns
  have hts := atoms_spec (ws := wsX9_pictureRow) Bd.pre
  have hown : s.vm.findClass RX9 = some m.cls := findClass_of_methodNamed Bd.named
  have hlocks := Bd.notSynchronized
  have hSf : CallFix p m c cX9_pictureRow 3 s ([.ref x9, .int (zI x1), .int (zI x2)] : List Value).toArray wsX9_pictureRow RX9 := ⟨hx, hb, hml, hown, hts⟩
  have hinX9 : ∀ w ∈ u_ws RX9 TX9 10, w ∈ wsX9_pictureRow := by decide +kernel
  have fl10 := hts (.fieldLink RX9 10 "DotObjects" "scene" "LDotObjects$Scene;") (by decide +kernel)
  have hl := lv_entry ([.ref x9, .int (zI x1), .int (zI x2)]) (n := 3) (Nat.le_of_ble_eq_true rfl)
  rw [lg_entry_eq]
  generalize (lg_sl ([.ref x9, .int (zI x1), .int (zI x2)]) ++ List.replicate (3 - (lg_sl ([.ref x9, .int (zI x1), .int (zI x2)])).length) Slot.unset).toArray = ls at hl ⊢
  have hl : lv_has ls 3 [(0, .ref x9), (1, .int (zI x1)), (2, .int (zI x2))] := hl
  refine lv_iload_n hx hb dX9_pictureRow_0 rfl (lv_at hl 1 rfl) ?_
  refine roS (n := 1) (As := [.int (zI x1)]) (rest := []) hSf (c_isPicture l D k x1 (by omega)) gX9_pictureRow_X9_isPicture rfl (by decide +kernel) ⟨Nat.le_of_ble_eq_true rfl, Nat.le_of_ble_eq_true rfl⟩ hK hP [] rfl rfl hl.1 rfl (Nat.le_of_ble_eq_true rfl) dX9_pictureRow_1 ⟨Nat.zero_le _, Nat.zero_le _⟩ (fun r_1 h_1 => ?_)
  subst h_1
  refine z_if_neb (tgt := 10) hx hb dX9_pictureRow_4 (by decide) (fun c_4 => ?_) (fun c_4 => ?_)
  · simp only [Bool.and_eq_true, decide_eq_true_eq] at c_4
    refine lv_iload_n hx hb dX9_pictureRow_10 rfl (lv_at hl 2 rfl) ?_
    refine z_iconst hx hb dX9_pictureRow_11 ?_
    refine z_bipush hx hb dX9_pictureRow_12 (by decide +kernel) ?_
    refine roS (n := 3) (As := [.int (zI x2), .int (zI 0), .int (zI 7)]) (rest := []) hSf (c_isWithin l D k x2 0 7 (by omega) (by omega) (by omega)) gX9_pictureRow_X9_isWithin rfl (by decide +kernel) ⟨Nat.le_of_ble_eq_true rfl, Nat.le_of_ble_eq_true rfl⟩ hK hP [] rfl rfl hl.1 rfl (Nat.le_of_ble_eq_true rfl) dX9_pictureRow_14 ⟨Nat.zero_le _, Nat.zero_le _⟩ (fun r_14 h_14 => ?_)
    subst h_14
    refine z_if_neb (tgt := 23) hx hb dX9_pictureRow_17 (by decide) (fun c_17 => ?_) (fun c_17 => ?_)
    · simp only [Bool.and_eq_true, decide_eq_true_eq] at c_17
      refine lv_aload_n hx hb dX9_pictureRow_23 rfl (lv_at hl 0 rfl) ?_
      refine va_get (D := D) (ci := 9) (v := .ref h0) (C := RX9) (T := TX9) (N := 10) hx hb hts hinX9 hown hK.1 hP 0 rfl rfl 0 (by decide) fl10 (fun _ h9 => h9) rfl dX9_pictureRow_24 ?_
      refine lv_iload_n hx hb dX9_pictureRow_27 rfl (lv_at hl 1 rfl) ?_
      refine lv_iload_n hx hb dX9_pictureRow_28 rfl (lv_at hl 2 rfl) ?_
      refine roV (n := 2) (As := [.int (zI ((x1.toNat : Nat) : Int)), .int (zI ((x2.toNat : Nat) : Int))]) (rest := []) hSf (c_bits l D k h0 c0 f x1.toNat x2.toNat (by omega) (by omega)) gX9_pictureRow_X7_bits rfl (by decide +kernel) ⟨Nat.le_of_ble_eq_true rfl, Nat.le_of_ble_eq_true rfl⟩ hK hP [1, 2] rfl 0 rfl rfl rfl hl.1 (by rw [show zI x1 = zI ((x1.toNat : Nat) : Int) from zc (by omega)]; rw [show zI x2 = zI ((x2.toNat : Nat) : Int) from zc (by omega)]; rfl) (Nat.le_of_ble_eq_true rfl) dX9_pictureRow_29 ⟨Nat.zero_le _, Nat.zero_le _⟩ (fun r_29 h_29 => ?_)
      subst h_29
      exact W.iret hx hb hr (fun t ht hW => ⟨_, rfl, zc (by unfold vPic; rw [if_pos (by omega), if_pos (by omega)]), ht⟩) (fun q hq => by cases hq) dX9_pictureRow_32
    · simp only [Bool.and_eq_false_iff, decide_eq_false_iff_not] at c_17
      refine lv_ldc hx hb hown (hts (.constant RX9 99 (-1000000002)) (by decide +kernel)) dX9_pictureRow_20 ?_
      refine te (show (-1000000002 : Int32) = zI (-1000000002) from by decide +kernel) ?_
      exact W.iret hx hb hr (fun t ht hW => ⟨_, rfl, zc (by unfold vPic; rw [if_pos (by omega), if_neg (by omega)]), ht⟩) (fun q hq => by cases hq) dX9_pictureRow_22
  · simp only [Bool.and_eq_false_iff, decide_eq_false_iff_not] at c_4
    refine lv_ldc hx hb hown (hts (.constant RX9 104 (-1000000001)) (by decide +kernel)) dX9_pictureRow_7 ?_
    refine te (show (-1000000001 : Int32) = zI (-1000000001) from by decide +kernel) ?_
    exact W.iret hx hb hr (fun t ht hW => ⟨_, rfl, zc (by unfold vPic; rw [if_neg (by omega)]), ht⟩) (fun q hq => by cases hq) dX9_pictureRow_9
