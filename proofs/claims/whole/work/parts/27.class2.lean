set_option maxHeartbeats 4000000 in
set_option maxRecDepth 100000 in
theorem c_row (l : Launch) (D : va_G) (k : Kt) (x9 : Nat) (h0 : Nat) (c0 : Nat) (h8 : Nat) (h4 : Nat) (h2 : Nat) (hh : Nat) (h3 : Nat) (h1 : Nat) (im : Nat) (sd : Nat) (kp : Nat) (f : St) (B : Int) (hV : Va B f) (eo : Nat) (r : Nat → Nat) (h : HT) (hh1 : h.1 < 20) (hh2 : h.2.1 ≤ 20) (x1 : Int) (x2 : Int) (x3 : Int) (hx1 : -2147483648 ≤ x1 ∧ x1 < 2147483648) (hx2 : -2147483648 ≤ x2 ∧ x2 < 2147483648) (hx3 : -2147483648 ≤ x3 ∧ x3 < 2147483648) : MI l D k yX9_row wsX9_row 3 82 [.ref x9, .int (zI x1), .int (zI x2), .int (zI x3)] ([(x9, .inr (9, [.ref h0, .ref h8, .ref h4, .ref h2, .ref hh, .ref h3, .ref h1, .ref im, .ref sd, .ref kp])), (h0, .inr (7, [.ref c0])), (c0, .inl (k.1, 132, .inl (zF f))), (hh, .inr (3, [.ref eo, .int (zI ((h.1 : Nat) : Int)), .int (zI ((h.2.1 : Nat) : Int))])), (eo, .inl (k.2.2.2, 20, .inr (.inr (.inr (.inr (eoF r))))))] ++ rowsW k r h.2.2) (fun (r : Int32) (u : St × HT) => r = zI (if 0 ≤ x1 ∧ x1 ≤ 3 then (if (0 ≤ x2 ∧ x2 ≤ 7) ∧ (0 ≤ x3 ∧ x3 ≤ 255) then f (4 + 8 * x1.toNat + x2.toNat) else -1000000002) else -1000000001) ∧ u = if (0 ≤ x1 ∧ x1 ≤ 3) ∧ (0 ≤ x2 ∧ x2 ≤ 7) ∧ (0 ≤ x3 ∧ x3 ≤ 255) then (upZ f (4 + 8 * x1.toNat + x2.toNat) x3, rmH f h) else (f, h)) (fun u => ([(x9, .inr (9, [.ref h0, .ref h8, .ref h4, .ref h2, .ref hh, .ref h3, .ref h1, .ref im, .ref sd, .ref kp])), (h0, .inr (7, [.ref c0])), (c0, .inl (k.1, 132, .inl (zF u.1))), (hh, .inr (3, [.ref eo, .int (zI ((u.2.1 : Nat) : Int)), .int (zI ((u.2.2.1 : Nat) : Int))])), (eo, .inl (k.2.2.2, 20, .inr (.inr (.inr (.inr (eoF r))))))] ++ rowsW k r u.2.2.2)) := by
  refine Met.ofW (cc := cX9_row) (maxL := 5) (ret := (some .int)) (by decide) rfl ?_
  intro p e s m args below meth c s₁ Bd hml hv
  obtain ⟨rfl, hP, hK, hD0⟩ := hv
  have hx := Bd.exec
  have hb := Bd.bytes
  have hr := Bd.returns
  have hts := atoms_spec (ws := wsX9_row) Bd.pre
  have hown : s.vm.findClass RX9 = some m.cls := findClass_of_methodNamed Bd.named
  have hlocks := Bd.notSynchronized
  have hSf : CallFix p m c cX9_row 5 s ([.ref x9, .int (zI x1), .int (zI x2), .int (zI x3)] : List Value).toArray wsX9_row RX9 := ⟨hx, hb, hml, hown, hts⟩
  have hD := fA_D hD0
  have hS : va_S (fA ([(x9, .inr (9, [.ref h0, .ref h8, .ref h4, .ref h2, .ref hh, .ref h3, .ref h1, .ref im, .ref sd, .ref kp])), (h0, .inr (7, [.ref c0])), (c0, .inl (k.1, 132, .inl (zF f))), (hh, .inr (3, [.ref eo, .int (zI ((h.1 : Nat) : Int)), .int (zI ((h.2.1 : Nat) : Int))])), (eo, .inl (k.2.2.2, 20, .inr (.inr (.inr (.inr (eoF r))))))] ++ rowsW k r h.2.2)) s.heap s.heap [] := va_S.rf
  generalize hAe : fA ([(x9, .inr (9, [.ref h0, .ref h8, .ref h4, .ref h2, .ref hh, .ref h3, .ref h1, .ref im, .ref sd, .ref kp])), (h0, .inr (7, [.ref c0])), (c0, .inl (k.1, 132, .inl (zF f))), (hh, .inr (3, [.ref eo, .int (zI ((h.1 : Nat) : Int)), .int (zI ((h.2.1 : Nat) : Int))])), (eo, .inl (k.2.2.2, 20, .inr (.inr (.inr (.inr (eoF r))))))] ++ rowsW k r h.2.2) = A at hD hS ⊢
  have hP : va_P D vwCl ([(x9, .inr (9, [.ref h0, .ref h8, .ref h4, .ref h2, .ref hh, .ref h3, .ref h1, .ref im, .ref sd, .ref kp])), (h0, .inr (7, [.ref c0])), (c0, .inl (k.1, 132, .inl (zF f))), (hh, .inr (3, [.ref eo, .int (zI ((h.1 : Nat) : Int)), .int (zI ((h.2.1 : Nat) : Int))])), (eo, .inl (k.2.2.2, 20, .inr (.inr (.inr (.inr (eoF r))))))] ++ rowsW k r h.2.2) s.heap := hP
  have hinX9 : ∀ w ∈ u_ws RX9 TX9 10, w ∈ wsX9_row := by decide +kernel
  have fl10 := hts (.fieldLink RX9 10 "DotObjects" "scene" "LDotObjects$Scene;") (by decide +kernel)
  have fl40 := hts (.fieldLink RX9 40 "DotObjects" "history" "LDotObjects$History;") (by decide +kernel)
  have hl := lv_entry ([.ref x9, .int (zI x1), .int (zI x2), .int (zI x3)]) (n := 5) (Nat.le_of_ble_eq_true rfl)
  rw [lg_entry_eq]
  generalize (lg_sl ([.ref x9, .int (zI x1), .int (zI x2), .int (zI x3)]) ++ List.replicate (5 - (lg_sl ([.ref x9, .int (zI x1), .int (zI x2), .int (zI x3)])).length) Slot.unset).toArray = ls at hl ⊢
  have hl : lv_has ls 5 [(0, .ref x9), (1, .int (zI x1)), (2, .int (zI x2)), (3, .int (zI x3))] := hl
  refine lv_iload_n hx hb dX9_row_0 rfl (lv_at hl 1 rfl) ?_
  refine roS (n := 1) (As := [.int (zI x1)]) (rest := []) hSf (c_isPicture l D k x1 (by omega)) gX9_row_X9_isPicture rfl (by decide +kernel) ⟨Nat.le_of_ble_eq_true rfl, Nat.le_of_ble_eq_true rfl⟩ hK hP [] rfl rfl hl.1 rfl (Nat.le_of_ble_eq_true rfl) dX9_row_1 ⟨Nat.zero_le _, Nat.zero_le _⟩ (fun r_1 h_1 => ?_)
  subst h_1
  refine z_if_neb (tgt := 10) hx hb dX9_row_4 (by decide) (fun c_4 => ?_) (fun c_4 => ?_)
  · simp only [Bool.and_eq_true, decide_eq_true_eq] at c_4
    refine lv_iload_n hx hb dX9_row_10 rfl (lv_at hl 2 rfl) ?_
    refine z_iconst hx hb dX9_row_11 ?_
    refine z_bipush hx hb dX9_row_12 (by decide +kernel) ?_
    refine roS (n := 3) (As := [.int (zI x2), .int (zI 0), .int (zI 7)]) (rest := []) hSf (c_isWithin l D k x2 0 7 (by omega) (by omega) (by omega)) gX9_row_X9_isWithin rfl (by decide +kernel) ⟨Nat.le_of_ble_eq_true rfl, Nat.le_of_ble_eq_true rfl⟩ hK hP [] rfl rfl hl.1 rfl (Nat.le_of_ble_eq_true rfl) dX9_row_14 ⟨Nat.zero_le _, Nat.zero_le _⟩ (fun r_14 h_14 => ?_)
    subst h_14
    refine z_if_eqb (tgt := 31) hx hb dX9_row_17 (by decide) (fun c_17 => ?_) (fun c_17 => ?_)
    · simp only [Bool.and_eq_false_iff, decide_eq_false_iff_not] at c_17
      refine lv_ldc hx hb hown (hts (.constant RX9 99 (-1000000002)) (by decide +kernel)) dX9_row_31 ?_
      refine te (show (-1000000002 : Int32) = zI (-1000000002) from by decide +kernel) ?_
      exact W.iret hx hb hr (fun t ht hW => ⟨⟨_, (f, h), rfl, ⟨zc (by rw [if_pos (by omega), if_neg (by omega)]), by rw [if_neg (by omega)]⟩, by show va_P D vwCl _ _; rw [ht]; exact hP⟩, hS.F ht⟩) hS.2.2 dX9_row_33
    · simp only [Bool.and_eq_true, decide_eq_true_eq] at c_17
      refine lv_iload_n hx hb dX9_row_20 rfl (lv_at hl 3 rfl) ?_
      refine z_iconst hx hb dX9_row_21 ?_
      refine z_sipush hx hb dX9_row_22 (by decide +kernel) ?_
      refine roS (n := 3) (As := [.int (zI x3), .int (zI 0), .int (zI 255)]) (rest := []) hSf (c_isWithin l D k x3 0 255 (by omega) (by omega) (by omega)) gX9_row_X9_isWithin rfl (by decide +kernel) ⟨Nat.le_of_ble_eq_true rfl, Nat.le_of_ble_eq_true rfl⟩ hK hP [] rfl rfl hl.1 rfl (Nat.le_of_ble_eq_true rfl) dX9_row_25 ⟨Nat.zero_le _, Nat.zero_le _⟩ (fun r_25 h_25 => ?_)
      subst h_25
      refine z_if_neb (tgt := 34) hx hb dX9_row_28 (by decide) (fun c_28 => ?_) (fun c_28 => ?_)
      · simp only [Bool.and_eq_true, decide_eq_true_eq] at c_28
        refine lv_aload_n hx hb dX9_row_34 rfl (lv_at hl 0 rfl) ?_
        refine va_get (D := D) (ci := 9) (v := .ref h0) (C := RX9) (T := TX9) (N := 10) hx hb hts hinX9 hown hK.1 hP 0 rfl rfl 0 (by decide) fl10 (fun _ h9 => h9) rfl dX9_row_35 ?_
        refine lv_iload_n hx hb dX9_row_38 rfl (lv_at hl 1 rfl) ?_
        refine lv_iload_n hx hb dX9_row_39 rfl (lv_at hl 2 rfl) ?_
        refine roV (n := 2) (As := [.int (zI ((x1.toNat : Nat) : Int)), .int (zI ((x2.toNat : Nat) : Int))]) (rest := []) hSf (c_bits l D k h0 c0 f x1.toNat x2.toNat (by omega) (by omega)) gX9_row_X7_bits rfl (by decide +kernel) ⟨Nat.le_of_ble_eq_true rfl, Nat.le_of_ble_eq_true rfl⟩ hK hP [1, 2] rfl 0 rfl rfl rfl hl.1 (by rw [show zI x1 = zI ((x1.toNat : Nat) : Int) from zc (by omega)]; rw [show zI x2 = zI ((x2.toNat : Nat) : Int) from zc (by omega)]; rfl) (Nat.le_of_ble_eq_true rfl) dX9_row_40 ⟨Nat.zero_le _, Nat.zero_le _⟩ (fun r_40 h_40 => ?_)
        subst h_40
        refine lv_istore (lv' := [(4, .int (zI (f (4 + 8 * x1.toNat + x2.toNat)))), (0, .ref x9), (1, .int (zI x1)), (2, .int (zI x2)), (3, .int (zI x3))]) hx hb dX9_row_43 hl (by decide) rfl (fun ls hl => ?_)
        refine lv_aload_n hx hb dX9_row_45 rfl (lv_at hl 1 rfl) ?_
        refine va_get (D := D) (ci := 9) (v := .ref hh) (C := RX9) (T := TX9) (N := 10) hx hb hts hinX9 hown hK.1 hP 0 rfl rfl 4 (by decide) fl40 (fun _ h9 => h9) rfl dX9_row_46 ?_
        refine lv_aload_n hx hb dX9_row_49 rfl (lv_at hl 1 rfl) ?_
        refine va_get (D := D) (ci := 9) (v := .ref h0) (C := RX9) (T := TX9) (N := 10) hx hb hts hinX9 hown hK.1 hP 0 rfl rfl 0 (by decide) fl10 (fun _ h9 => h9) rfl dX9_row_50 ?_
        refine muVR (base := [(x9, .inr (9, [.ref h0, .ref h8, .ref h4, .ref h2, .ref hh, .ref h3, .ref h1, .ref im, .ref sd, .ref kp])), (h0, .inr (7, [.ref c0])), (c0, .inl (k.1, 132, .inl (zF f))), (hh, .inr (3, [.ref eo, .int (zI ((h.1 : Nat) : Int)), .int (zI ((h.2.1 : Nat) : Int))])), (eo, .inl (k.2.2.2, 20, .inr (.inr (.inr (.inr (eoF r))))))]) (wcb := [(h0, .inr (7, [.ref c0])), (c0, .inl (k.1, 132, .inl (zF f))), (hh, .inr (3, [.ref eo, .int (zI ((h.1 : Nat) : Int)), .int (zI ((h.2.1 : Nat) : Int))])), (eo, .inl (k.2.2.2, 20, .inr (.inr (.inr (.inr (eoF r))))))]) (rows := rowsW k r h.2.2) (w' := fun (u : Unit) => [(h0, .inr (7, [.ref c0])), (c0, .inl (k.1, 132, .inl (zF f))), (hh, .inr (3, [.ref eo, .int (zI (((h.1 + 1) % 20 : Nat) : Int)), .int (zI ((min (h.2.1 + 1) 20 : Nat) : Int))])), (eo, .inl (k.2.2.2, 20, .inr (.inr (.inr (.inr (eoF r))))))]) (rw' := fun (u : Unit) => rowsW k r (upE h.2.2 h.1 (cpZ f (h.2.2 h.1) 0 0 132))) (n := 1) (As := [.ref h0]) (rest := []) hSf (c_remember l D k h0 c0 f hh eo r h.1 h.2.1 h.2.2 hh1 hh2) gX9_row_X3_remember rfl (by decide +kernel) ⟨Nat.le_of_ble_eq_true rfl, Nat.le_of_ble_eq_true rfl⟩ hK hP hD hS [1, 2, 3, 4] rfl (by decide) (fun _ => rfl) (fun _ => rfl) (fun _ => rowsW_fst _ _ _ _) 2 rfl rfl rfl hl.1 rfl (Nat.le_of_ble_eq_true rfl) dX9_row_53 ⟨Nat.zero_le _, Nat.zero_le _⟩ (fun u_53 H locs h_53 hP hD hS => ?_)
        have hP : va_P D vwCl ([(x9, .inr (9, [.ref h0, .ref h8, .ref h4, .ref h2, .ref hh, .ref h3, .ref h1, .ref im, .ref sd, .ref kp])), (h0, .inr (7, [.ref c0])), (c0, .inl (k.1, 132, .inl (zF f))), (hh, .inr (3, [.ref eo, .int (zI (((h.1 + 1) % 20 : Nat) : Int)), .int (zI ((min (h.2.1 + 1) 20 : Nat) : Int))])), (eo, .inl (k.2.2.2, 20, .inr (.inr (.inr (.inr (eoF r))))))] ++ rowsW k r (upE h.2.2 h.1 (cpZ f (h.2.2 h.1) 0 0 132))) H := hP
        have hD : va_D A ([(x9, .inr (9, [.ref h0, .ref h8, .ref h4, .ref h2, .ref hh, .ref h3, .ref h1, .ref im, .ref sd, .ref kp])), (h0, .inr (7, [.ref c0])), (c0, .inl (k.1, 132, .inl (zF f))), (hh, .inr (3, [.ref eo, .int (zI (((h.1 + 1) % 20 : Nat) : Int)), .int (zI ((min (h.2.1 + 1) 20 : Nat) : Int))])), (eo, .inl (k.2.2.2, 20, .inr (.inr (.inr (.inr (eoF r))))))] ++ rowsW k r (upE h.2.2 h.1 (cpZ f (h.2.2 h.1) 0 0 132))) := hD
        refine lv_aload_n hx hb dX9_row_56 rfl (lv_at hl 1 rfl) ?_
        refine va_get (D := D) (ci := 9) (v := .ref h0) (C := RX9) (T := TX9) (N := 10) hx hb hts hinX9 hown hK.1 hP 0 rfl rfl 0 (by decide) fl10 (fun _ h9 => h9) rfl dX9_row_57 ?_
        refine lv_iload_n hx hb dX9_row_60 rfl (lv_at hl 2 rfl) ?_
        refine lv_iload_n hx hb dX9_row_61 rfl (lv_at hl 3 rfl) ?_
        refine lv_iload_n hx hb dX9_row_62 rfl (lv_at hl 4 rfl) ?_
        refine muV (n := 3) (As := [.int (zI ((x1.toNat : Nat) : Int)), .int (zI ((x2.toNat : Nat) : Int)), .int (zI x3)]) (rest := []) hSf (c_setBits l D k h0 c0 f x1.toNat x2.toNat x3 (by omega) (by omega)) gX9_row_X7_setBits rfl (by decide +kernel) ⟨Nat.le_of_ble_eq_true rfl, Nat.le_of_ble_eq_true rfl⟩ hK hP hD hS [1, 2] rfl rfl (by decide) (fun _ => rfl) (fun _ => rfl) 0 rfl rfl rfl hl.1 (by rw [show zI x1 = zI ((x1.toNat : Nat) : Int) from zc (by omega)]; rw [show zI x2 = zI ((x2.toNat : Nat) : Int) from zc (by omega)]; rfl) (Nat.le_of_ble_eq_true rfl) dX9_row_63 ⟨Nat.zero_le _, Nat.zero_le _⟩ (fun u_63 H locs h_63 hP hD hS => ?_)
        have hP : va_P D vwCl ([(x9, .inr (9, [.ref h0, .ref h8, .ref h4, .ref h2, .ref hh, .ref h3, .ref h1, .ref im, .ref sd, .ref kp])), (h0, .inr (7, [.ref c0])), (c0, .inl (k.1, 132, .inl (zF (upZ f (4 + 8 * x1.toNat + x2.toNat) x3)))), (hh, .inr (3, [.ref eo, .int (zI (((h.1 + 1) % 20 : Nat) : Int)), .int (zI ((min (h.2.1 + 1) 20 : Nat) : Int))])), (eo, .inl (k.2.2.2, 20, .inr (.inr (.inr (.inr (eoF r))))))] ++ rowsW k r (upE h.2.2 h.1 (cpZ f (h.2.2 h.1) 0 0 132))) H := hP
        have hD : va_D A ([(x9, .inr (9, [.ref h0, .ref h8, .ref h4, .ref h2, .ref hh, .ref h3, .ref h1, .ref im, .ref sd, .ref kp])), (h0, .inr (7, [.ref c0])), (c0, .inl (k.1, 132, .inl (zF (upZ f (4 + 8 * x1.toNat + x2.toNat) x3)))), (hh, .inr (3, [.ref eo, .int (zI (((h.1 + 1) % 20 : Nat) : Int)), .int (zI ((min (h.2.1 + 1) 20 : Nat) : Int))])), (eo, .inl (k.2.2.2, 20, .inr (.inr (.inr (.inr (eoF r))))))] ++ rowsW k r (upE h.2.2 h.1 (cpZ f (h.2.2 h.1) 0 0 132))) := hD
        refine lv_iload hx hb dX9_row_66 (lv_at hl 0 rfl) ?_
        exact W.iret hx hb hr (fun t ht hW => ⟨⟨_, (upZ f (4 + 8 * x1.toNat + x2.toNat) x3, rmH f h), rfl, ⟨zc (by rw [if_pos (by omega), if_pos (by omega)]), by rw [if_pos (by omega)]⟩, by show va_P D vwCl _ _; rw [ht]; exact hP⟩, hS.F ht⟩) hS.2.2 dX9_row_68
      · simp only [Bool.and_eq_false_iff, decide_eq_false_iff_not] at c_28
        refine lv_ldc hx hb hown (hts (.constant RX9 99 (-1000000002)) (by decide +kernel)) dX9_row_31 ?_
        refine te (show (-1000000002 : Int32) = zI (-1000000002) from by decide +kernel) ?_
        exact W.iret hx hb hr (fun t ht hW => ⟨⟨_, (f, h), rfl, ⟨zc (by rw [if_pos (by omega), if_neg (by omega)]), by rw [if_neg (by omega)]⟩, by show va_P D vwCl _ _; rw [ht]; exact hP⟩, hS.F ht⟩) hS.2.2 dX9_row_33
  · simp only [Bool.and_eq_false_iff, decide_eq_false_iff_not] at c_4
    refine lv_ldc hx hb hown (hts (.constant RX9 104 (-1000000001)) (by decide +kernel)) dX9_row_7 ?_
    refine te (show (-1000000001 : Int32) = zI (-1000000001) from by decide +kernel) ?_
    exact W.iret hx hb hr (fun t ht hW => ⟨⟨_, (f, h), rfl, ⟨zc (by rw [if_neg (by omega)]), by rw [if_neg (by omega)]⟩, by show va_P D vwCl _ _; rw [ht]; exact hP⟩, hS.F ht⟩) hS.2.2 dX9_row_9
set_option maxHeartbeats 4000000 in
set_option maxRecDepth 100000 in
theorem c_put (l : Launch) (D : va_G) (k : Kt) (x9 : Nat) (h0 : Nat) (c0 : Nat) (h8 : Nat) (h4 : Nat) (h2 : Nat) (hh : Nat) (h3 : Nat) (h1 : Nat) (im : Nat) (sd : Nat) (kp : Nat) (f : St) (B : Int) (hV : Va B f) (eo : Nat) (r : Nat → Nat) (h : HT) (hh1 : h.1 < 20) (hh2 : h.2.1 ≤ 20) (x1 : Int) (x2 : Int) (x3 : Int) (x4 : Int) (x5 : Int) (x6 : Int) (hx1 : -2147483648 ≤ x1 ∧ x1 < 2147483648) (hx2 : -2147483648 ≤ x2 ∧ x2 < 2147483648) (hx3 : -2147483648 ≤ x3 ∧ x3 < 2147483648) (hx4 : -2147483648 ≤ x4 ∧ x4 < 2147483648) (hx5 : -2147483648 ≤ x5 ∧ x5 < 2147483648) (hx6 : -2147483648 ≤ x6 ∧ x6 < 2147483648) : MI l D k yX9_put wsX9_put 3 82 [.ref x9, .int (zI x1), .int (zI x2), .int (zI x3), .int (zI x4), .int (zI x5), .int (zI x6)] ([(x9, .inr (9, [.ref h0, .ref h8, .ref h4, .ref h2, .ref hh, .ref h3, .ref h1, .ref im, .ref sd, .ref kp])), (h0, .inr (7, [.ref c0])), (c0, .inl (k.1, 132, .inl (zF f))), (hh, .inr (3, [.ref eo, .int (zI ((h.1 : Nat) : Int)), .int (zI ((h.2.1 : Nat) : Int))])), (eo, .inl (k.2.2.2, 20, .inr (.inr (.inr (.inr (eoF r))))))] ++ rowsW k r h.2.2) (fun (r : Int32) (u : St × HT) => r = zI (if 0 ≤ x3 ∧ x3 ≤ 3 then (if ((-8 ≤ x1 ∧ x1 ≤ 31) ∧ (-8 ≤ x2 ∧ x2 ≤ 23)) ∧ ((0 ≤ x4 ∧ x4 ≤ 3) ∧ (0 ≤ x5 ∧ x5 ≤ 3)) ∧ (1 ≤ x6 ∧ x6 ≤ 7) then (if 12 ≤ nT f then -1000000004 else f 0) else -1000000002) else -1000000001) ∧ u = if (0 ≤ x3 ∧ x3 ≤ 3) ∧ (((-8 ≤ x1 ∧ x1 ≤ 31) ∧ (-8 ≤ x2 ∧ x2 ≤ 23)) ∧ ((0 ≤ x4 ∧ x4 ≤ 3) ∧ (0 ≤ x5 ∧ x5 ≤ 3)) ∧ (1 ≤ x6 ∧ x6 ≤ 7)) ∧ nT f < 12 then (addZ f x1 x2 x3 x4 x5 x6, rmH f h) else (f, h)) (fun u => ([(x9, .inr (9, [.ref h0, .ref h8, .ref h4, .ref h2, .ref hh, .ref h3, .ref h1, .ref im, .ref sd, .ref kp])), (h0, .inr (7, [.ref c0])), (c0, .inl (k.1, 132, .inl (zF u.1))), (hh, .inr (3, [.ref eo, .int (zI ((u.2.1 : Nat) : Int)), .int (zI ((u.2.2.1 : Nat) : Int))])), (eo, .inl (k.2.2.2, 20, .inr (.inr (.inr (.inr (eoF r))))))] ++ rowsW k r u.2.2.2)) := by
  refine Met.ofW (cc := cX9_put) (maxL := 7) (ret := (some .int)) (by decide) rfl ?_
  intro p e s m args below meth c s₁ Bd hml hv
  obtain ⟨rfl, hP, hK, hD0⟩ := hv
  have hx := Bd.exec
  have hb := Bd.bytes
  have hr := Bd.returns
  have hts := atoms_spec (ws := wsX9_put) Bd.pre
  have hown : s.vm.findClass RX9 = some m.cls := findClass_of_methodNamed Bd.named
  have hlocks := Bd.notSynchronized
  have hSf : CallFix p m c cX9_put 7 s ([.ref x9, .int (zI x1), .int (zI x2), .int (zI x3), .int (zI x4), .int (zI x5), .int (zI x6)] : List Value).toArray wsX9_put RX9 := ⟨hx, hb, hml, hown, hts⟩
  have hD := fA_D hD0
  have hS : va_S (fA ([(x9, .inr (9, [.ref h0, .ref h8, .ref h4, .ref h2, .ref hh, .ref h3, .ref h1, .ref im, .ref sd, .ref kp])), (h0, .inr (7, [.ref c0])), (c0, .inl (k.1, 132, .inl (zF f))), (hh, .inr (3, [.ref eo, .int (zI ((h.1 : Nat) : Int)), .int (zI ((h.2.1 : Nat) : Int))])), (eo, .inl (k.2.2.2, 20, .inr (.inr (.inr (.inr (eoF r))))))] ++ rowsW k r h.2.2)) s.heap s.heap [] := va_S.rf
  generalize hAe : fA ([(x9, .inr (9, [.ref h0, .ref h8, .ref h4, .ref h2, .ref hh, .ref h3, .ref h1, .ref im, .ref sd, .ref kp])), (h0, .inr (7, [.ref c0])), (c0, .inl (k.1, 132, .inl (zF f))), (hh, .inr (3, [.ref eo, .int (zI ((h.1 : Nat) : Int)), .int (zI ((h.2.1 : Nat) : Int))])), (eo, .inl (k.2.2.2, 20, .inr (.inr (.inr (.inr (eoF r))))))] ++ rowsW k r h.2.2) = A at hD hS ⊢
  have hP : va_P D vwCl ([(x9, .inr (9, [.ref h0, .ref h8, .ref h4, .ref h2, .ref hh, .ref h3, .ref h1, .ref im, .ref sd, .ref kp])), (h0, .inr (7, [.ref c0])), (c0, .inl (k.1, 132, .inl (zF f))), (hh, .inr (3, [.ref eo, .int (zI ((h.1 : Nat) : Int)), .int (zI ((h.2.1 : Nat) : Int))])), (eo, .inl (k.2.2.2, 20, .inr (.inr (.inr (.inr (eoF r))))))] ++ rowsW k r h.2.2) s.heap := hP
  have hinX9 : ∀ w ∈ u_ws RX9 TX9 10, w ∈ wsX9_put := by decide +kernel
  have fl10 := hts (.fieldLink RX9 10 "DotObjects" "scene" "LDotObjects$Scene;") (by decide +kernel)
  have fl40 := hts (.fieldLink RX9 40 "DotObjects" "history" "LDotObjects$History;") (by decide +kernel)
  have hl := lv_entry ([.ref x9, .int (zI x1), .int (zI x2), .int (zI x3), .int (zI x4), .int (zI x5), .int (zI x6)]) (n := 7) (Nat.le_of_ble_eq_true rfl)
  rw [lg_entry_eq]
  generalize (lg_sl ([.ref x9, .int (zI x1), .int (zI x2), .int (zI x3), .int (zI x4), .int (zI x5), .int (zI x6)]) ++ List.replicate (7 - (lg_sl ([.ref x9, .int (zI x1), .int (zI x2), .int (zI x3), .int (zI x4), .int (zI x5), .int (zI x6)])).length) Slot.unset).toArray = ls at hl ⊢
  have hl : lv_has ls 7 [(0, .ref x9), (1, .int (zI x1)), (2, .int (zI x2)), (3, .int (zI x3)), (4, .int (zI x4)), (5, .int (zI x5)), (6, .int (zI x6))] := hl
  have hn := hV.n
  refine lv_iload_n hx hb dX9_put_0 rfl (lv_at hl 3 rfl) ?_
  refine roS (n := 1) (As := [.int (zI x3)]) (rest := []) hSf (c_isPicture l D k x3 (by omega)) gX9_put_X9_isPicture rfl (by decide +kernel) ⟨Nat.le_of_ble_eq_true rfl, Nat.le_of_ble_eq_true rfl⟩ hK hP [] rfl rfl hl.1 rfl (Nat.le_of_ble_eq_true rfl) dX9_put_1 ⟨Nat.zero_le _, Nat.zero_le _⟩ (fun r_1 h_1 => ?_)
  subst h_1
  refine z_if_neb (tgt := 10) hx hb dX9_put_4 (by decide) (fun c_4 => ?_) (fun c_4 => ?_)
  · simp only [Bool.and_eq_true, decide_eq_true_eq] at c_4
    refine lv_iload_n hx hb dX9_put_10 rfl (lv_at hl 1 rfl) ?_
    refine lv_iload_n hx hb dX9_put_11 rfl (lv_at hl 2 rfl) ?_
    refine roS (n := 2) (As := [.int (zI x1), .int (zI x2)]) (rest := []) hSf (c_isPlace l D k x1 x2 (by omega) (by omega)) gX9_put_X9_isPlace rfl (by decide +kernel) ⟨Nat.le_of_ble_eq_true rfl, Nat.le_of_ble_eq_true rfl⟩ hK hP [] rfl rfl hl.1 rfl (Nat.le_of_ble_eq_true rfl) dX9_put_12 ⟨Nat.zero_le _, Nat.zero_le _⟩ (fun r_12 h_12 => ?_)
    subst h_12
    refine z_if_eqb (tgt := 39) hx hb dX9_put_15 (by decide) (fun c_15 => ?_) (fun c_15 => ?_)
    · simp only [Bool.and_eq_false_iff, decide_eq_false_iff_not] at c_15
      refine lv_ldc hx hb hown (hts (.constant RX9 99 (-1000000002)) (by decide +kernel)) dX9_put_39 ?_
      refine te (show (-1000000002 : Int32) = zI (-1000000002) from by decide +kernel) ?_
      exact W.iret hx hb hr (fun t ht hW => ⟨⟨_, (f, h), rfl, ⟨zc (by rw [if_pos (by omega), if_neg (by omega)]), by rw [if_neg (by omega)]⟩, by show va_P D vwCl _ _; rw [ht]; exact hP⟩, hS.F ht⟩) hS.2.2 dX9_put_41
    · simp only [Bool.and_eq_true, decide_eq_true_eq] at c_15
      refine lv_iload hx hb dX9_put_18 (lv_at hl 4 rfl) ?_
      refine lv_iload hx hb dX9_put_20 (lv_at hl 5 rfl) ?_
      refine roS (n := 2) (As := [.int (zI x4), .int (zI x5)]) (rest := []) hSf (c_isManner l D k x4 x5 (by omega) (by omega)) gX9_put_X9_isManner rfl (by decide +kernel) ⟨Nat.le_of_ble_eq_true rfl, Nat.le_of_ble_eq_true rfl⟩ hK hP [] rfl rfl hl.1 rfl (Nat.le_of_ble_eq_true rfl) dX9_put_22 ⟨Nat.zero_le _, Nat.zero_le _⟩ (fun r_22 h_22 => ?_)
      subst h_22
      refine z_if_eqb (tgt := 39) hx hb dX9_put_25 (by decide) (fun c_25 => ?_) (fun c_25 => ?_)
      · simp only [Bool.and_eq_false_iff, decide_eq_false_iff_not] at c_25
        refine lv_ldc hx hb hown (hts (.constant RX9 99 (-1000000002)) (by decide +kernel)) dX9_put_39 ?_
        refine te (show (-1000000002 : Int32) = zI (-1000000002) from by decide +kernel) ?_
        exact W.iret hx hb hr (fun t ht hW => ⟨⟨_, (f, h), rfl, ⟨zc (by rw [if_pos (by omega), if_neg (by omega)]), by rw [if_neg (by omega)]⟩, by show va_P D vwCl _ _; rw [ht]; exact hP⟩, hS.F ht⟩) hS.2.2 dX9_put_41
      · simp only [Bool.and_eq_true, decide_eq_true_eq] at c_25
        refine lv_iload hx hb dX9_put_28 (lv_at hl 6 rfl) ?_
        refine z_iconst hx hb dX9_put_30 ?_
        refine z_bipush hx hb dX9_put_31 (by decide +kernel) ?_
        refine roS (n := 3) (As := [.int (zI x6), .int (zI 1), .int (zI 7)]) (rest := []) hSf (c_isWithin l D k x6 1 7 (by omega) (by omega) (by omega)) gX9_put_X9_isWithin rfl (by decide +kernel) ⟨Nat.le_of_ble_eq_true rfl, Nat.le_of_ble_eq_true rfl⟩ hK hP [] rfl rfl hl.1 rfl (Nat.le_of_ble_eq_true rfl) dX9_put_33 ⟨Nat.zero_le _, Nat.zero_le _⟩ (fun r_33 h_33 => ?_)
        subst h_33
        refine z_if_neb (tgt := 42) hx hb dX9_put_36 (by decide) (fun c_36 => ?_) (fun c_36 => ?_)
        · simp only [Bool.and_eq_true, decide_eq_true_eq] at c_36
          refine lv_aload_n hx hb dX9_put_42 rfl (lv_at hl 0 rfl) ?_
          refine va_get (D := D) (ci := 9) (v := .ref h0) (C := RX9) (T := TX9) (N := 10) hx hb hts hinX9 hown hK.1 hP 0 rfl rfl 0 (by decide) fl10 (fun _ h9 => h9) rfl dX9_put_43 ?_
          refine roV (n := 0) (As := []) (rest := []) hSf (c_isFull l D k h0 c0 f B hV) gX9_put_X7_isFull rfl (by decide +kernel) ⟨Nat.le_of_ble_eq_true rfl, Nat.le_of_ble_eq_true rfl⟩ hK hP [1, 2] rfl 0 rfl rfl rfl hl.1 rfl (Nat.le_of_ble_eq_true rfl) dX9_put_46 ⟨Nat.zero_le _, Nat.zero_le _⟩ (fun r_46 h_46 => ?_)
          subst h_46
          refine z_if_eqb (tgt := 55) hx hb dX9_put_49 (by decide) (fun c_49 => ?_) (fun c_49 => ?_)
          · simp only [decide_eq_false_iff_not] at c_49
            refine lv_aload_n hx hb dX9_put_55 rfl (lv_at hl 0 rfl) ?_
            refine va_get (D := D) (ci := 9) (v := .ref hh) (C := RX9) (T := TX9) (N := 10) hx hb hts hinX9 hown hK.1 hP 0 rfl rfl 4 (by decide) fl40 (fun _ h9 => h9) rfl dX9_put_56 ?_
            refine lv_aload_n hx hb dX9_put_59 rfl (lv_at hl 0 rfl) ?_
            refine va_get (D := D) (ci := 9) (v := .ref h0) (C := RX9) (T := TX9) (N := 10) hx hb hts hinX9 hown hK.1 hP 0 rfl rfl 0 (by decide) fl10 (fun _ h9 => h9) rfl dX9_put_60 ?_
            refine muVR (base := [(x9, .inr (9, [.ref h0, .ref h8, .ref h4, .ref h2, .ref hh, .ref h3, .ref h1, .ref im, .ref sd, .ref kp])), (h0, .inr (7, [.ref c0])), (c0, .inl (k.1, 132, .inl (zF f))), (hh, .inr (3, [.ref eo, .int (zI ((h.1 : Nat) : Int)), .int (zI ((h.2.1 : Nat) : Int))])), (eo, .inl (k.2.2.2, 20, .inr (.inr (.inr (.inr (eoF r))))))]) (wcb := [(h0, .inr (7, [.ref c0])), (c0, .inl (k.1, 132, .inl (zF f))), (hh, .inr (3, [.ref eo, .int (zI ((h.1 : Nat) : Int)), .int (zI ((h.2.1 : Nat) : Int))])), (eo, .inl (k.2.2.2, 20, .inr (.inr (.inr (.inr (eoF r))))))]) (rows := rowsW k r h.2.2) (w' := fun (u : Unit) => [(h0, .inr (7, [.ref c0])), (c0, .inl (k.1, 132, .inl (zF f))), (hh, .inr (3, [.ref eo, .int (zI (((h.1 + 1) % 20 : Nat) : Int)), .int (zI ((min (h.2.1 + 1) 20 : Nat) : Int))])), (eo, .inl (k.2.2.2, 20, .inr (.inr (.inr (.inr (eoF r))))))]) (rw' := fun (u : Unit) => rowsW k r (upE h.2.2 h.1 (cpZ f (h.2.2 h.1) 0 0 132))) (n := 1) (As := [.ref h0]) (rest := []) hSf (c_remember l D k h0 c0 f hh eo r h.1 h.2.1 h.2.2 hh1 hh2) gX9_put_X3_remember rfl (by decide +kernel) ⟨Nat.le_of_ble_eq_true rfl, Nat.le_of_ble_eq_true rfl⟩ hK hP hD hS [1, 2, 3, 4] rfl (by decide) (fun _ => rfl) (fun _ => rfl) (fun _ => rowsW_fst _ _ _ _) 2 rfl rfl rfl hl.1 rfl (Nat.le_of_ble_eq_true rfl) dX9_put_63 ⟨Nat.zero_le _, Nat.zero_le _⟩ (fun u_63 H locs h_63 hP hD hS => ?_)
            have hP : va_P D vwCl ([(x9, .inr (9, [.ref h0, .ref h8, .ref h4, .ref h2, .ref hh, .ref h3, .ref h1, .ref im, .ref sd, .ref kp])), (h0, .inr (7, [.ref c0])), (c0, .inl (k.1, 132, .inl (zF f))), (hh, .inr (3, [.ref eo, .int (zI (((h.1 + 1) % 20 : Nat) : Int)), .int (zI ((min (h.2.1 + 1) 20 : Nat) : Int))])), (eo, .inl (k.2.2.2, 20, .inr (.inr (.inr (.inr (eoF r))))))] ++ rowsW k r (upE h.2.2 h.1 (cpZ f (h.2.2 h.1) 0 0 132))) H := hP
            have hD : va_D A ([(x9, .inr (9, [.ref h0, .ref h8, .ref h4, .ref h2, .ref hh, .ref h3, .ref h1, .ref im, .ref sd, .ref kp])), (h0, .inr (7, [.ref c0])), (c0, .inl (k.1, 132, .inl (zF f))), (hh, .inr (3, [.ref eo, .int (zI (((h.1 + 1) % 20 : Nat) : Int)), .int (zI ((min (h.2.1 + 1) 20 : Nat) : Int))])), (eo, .inl (k.2.2.2, 20, .inr (.inr (.inr (.inr (eoF r))))))] ++ rowsW k r (upE h.2.2 h.1 (cpZ f (h.2.2 h.1) 0 0 132))) := hD
            refine lv_aload_n hx hb dX9_put_66 rfl (lv_at hl 0 rfl) ?_
            refine va_get (D := D) (ci := 9) (v := .ref h0) (C := RX9) (T := TX9) (N := 10) hx hb hts hinX9 hown hK.1 hP 0 rfl rfl 0 (by decide) fl10 (fun _ h9 => h9) rfl dX9_put_67 ?_
            refine lv_iload_n hx hb dX9_put_70 rfl (lv_at hl 1 rfl) ?_
            refine lv_iload_n hx hb dX9_put_71 rfl (lv_at hl 2 rfl) ?_
            refine lv_iload_n hx hb dX9_put_72 rfl (lv_at hl 3 rfl) ?_
            refine lv_iload hx hb dX9_put_73 (lv_at hl 4 rfl) ?_
            refine lv_iload hx hb dX9_put_75 (lv_at hl 5 rfl) ?_
            refine lv_iload hx hb dX9_put_77 (lv_at hl 6 rfl) ?_
            refine miV (n := 6) (As := [.int (zI x1), .int (zI x2), .int (zI x3), .int (zI x4), .int (zI x5), .int (zI x6)]) (rest := []) hSf (c_add l D k h0 c0 f B hV x1 x2 x3 x4 x5 x6 (by omega)) gX9_put_X7_add rfl (by decide +kernel) ⟨Nat.le_of_ble_eq_true rfl, Nat.le_of_ble_eq_true rfl⟩ hK hP hD hS [1, 2] rfl rfl (by decide) (fun _ => rfl) (fun _ => rfl) 0 rfl rfl rfl hl.1 rfl (Nat.le_of_ble_eq_true rfl) dX9_put_79 ⟨Nat.zero_le _, Nat.zero_le _⟩ (fun r_79 u_79 H locs h_79 hP hD hS => ?_)
            have hP : va_P D vwCl ([(x9, .inr (9, [.ref h0, .ref h8, .ref h4, .ref h2, .ref hh, .ref h3, .ref h1, .ref im, .ref sd, .ref kp])), (h0, .inr (7, [.ref c0])), (c0, .inl (k.1, 132, .inl (zF (addZ f x1 x2 x3 x4 x5 x6)))), (hh, .inr (3, [.ref eo, .int (zI (((h.1 + 1) % 20 : Nat) : Int)), .int (zI ((min (h.2.1 + 1) 20 : Nat) : Int))])), (eo, .inl (k.2.2.2, 20, .inr (.inr (.inr (.inr (eoF r))))))] ++ rowsW k r (upE h.2.2 h.1 (cpZ f (h.2.2 h.1) 0 0 132))) H := hP
            have hD : va_D A ([(x9, .inr (9, [.ref h0, .ref h8, .ref h4, .ref h2, .ref hh, .ref h3, .ref h1, .ref im, .ref sd, .ref kp])), (h0, .inr (7, [.ref c0])), (c0, .inl (k.1, 132, .inl (zF (addZ f x1 x2 x3 x4 x5 x6)))), (hh, .inr (3, [.ref eo, .int (zI (((h.1 + 1) % 20 : Nat) : Int)), .int (zI ((min (h.2.1 + 1) 20 : Nat) : Int))])), (eo, .inl (k.2.2.2, 20, .inr (.inr (.inr (.inr (eoF r))))))] ++ rowsW k r (upE h.2.2 h.1 (cpZ f (h.2.2 h.1) 0 0 132))) := hD
            obtain ⟨he_79, h_79⟩ := h_79
            subst he_79
            exact W.iret hx hb hr (fun t ht hW => ⟨⟨_, (addZ f x1 x2 x3 x4 x5 x6, rmH f h), rfl, ⟨zc (by rw [if_pos (by omega), if_pos (by omega), if_neg (by omega)]), by rw [if_pos (by omega)]⟩, by show va_P D vwCl _ _; rw [ht]; exact hP⟩, hS.F ht⟩) hS.2.2 dX9_put_82
          · simp only [decide_eq_true_eq] at c_49
            refine lv_ldc hx hb hown (hts (.constant RX9 185 (-1000000004)) (by decide +kernel)) dX9_put_52 ?_
            refine te (show (-1000000004 : Int32) = zI (-1000000004) from by decide +kernel) ?_
            exact W.iret hx hb hr (fun t ht hW => ⟨⟨_, (f, h), rfl, ⟨zc (by rw [if_pos (by omega), if_pos (by omega), if_pos (by omega)]), by rw [if_neg (by omega)]⟩, by show va_P D vwCl _ _; rw [ht]; exact hP⟩, hS.F ht⟩) hS.2.2 dX9_put_54
        · simp only [Bool.and_eq_false_iff, decide_eq_false_iff_not] at c_36
          refine lv_ldc hx hb hown (hts (.constant RX9 99 (-1000000002)) (by decide +kernel)) dX9_put_39 ?_
          refine te (show (-1000000002 : Int32) = zI (-1000000002) from by decide +kernel) ?_
          exact W.iret hx hb hr (fun t ht hW => ⟨⟨_, (f, h), rfl, ⟨zc (by rw [if_pos (by omega), if_neg (by omega)]), by rw [if_neg (by omega)]⟩, by show va_P D vwCl _ _; rw [ht]; exact hP⟩, hS.F ht⟩) hS.2.2 dX9_put_41
  · simp only [Bool.and_eq_false_iff, decide_eq_false_iff_not] at c_4
    refine lv_ldc hx hb hown (hts (.constant RX9 104 (-1000000001)) (by decide +kernel)) dX9_put_7 ?_
    refine te (show (-1000000001 : Int32) = zI (-1000000001) from by decide +kernel) ?_
    exact W.iret hx hb hr (fun t ht hW => ⟨⟨_, (f, h), rfl, ⟨zc (by rw [if_neg (by omega)]), by rw [if_neg (by omega)]⟩, by show va_P D vwCl _ _; rw [ht]; exact hP⟩, hS.F ht⟩) hS.2.2 dX9_put_9
set_option maxHeartbeats 4000000 in
set_option maxRecDepth 100000 in
theorem c_move (l : Launch) (D : va_G) (k : Kt) (x9 : Nat) (h0 : Nat) (c0 : Nat) (h8 : Nat) (h4 : Nat) (h2 : Nat) (hh : Nat) (h3 : Nat) (h1 : Nat) (im : Nat) (sd : Nat) (kp : Nat) (f : St) (B : Int) (hV : Va B f) (eo : Nat) (r : Nat → Nat) (h : HT) (hh1 : h.1 < 20) (hh2 : h.2.1 ≤ 20) (x1 : Int) (x2 : Int) (x3 : Int) (hx1 : -2147483648 ≤ x1 ∧ x1 < 2147483648) (hx2 : -2147483648 ≤ x2 ∧ x2 < 2147483648) (hx3 : -2147483648 ≤ x3 ∧ x3 < 2147483648) : MI l D k yX9_move wsX9_move 3 82 [.ref x9, .int (zI x1), .int (zI x2), .int (zI x3)] ([(x9, .inr (9, [.ref h0, .ref h8, .ref h4, .ref h2, .ref hh, .ref h3, .ref h1, .ref im, .ref sd, .ref kp])), (h0, .inr (7, [.ref c0])), (c0, .inl (k.1, 132, .inl (zF f))), (hh, .inr (3, [.ref eo, .int (zI ((h.1 : Nat) : Int)), .int (zI ((h.2.1 : Nat) : Int))])), (eo, .inl (k.2.2.2, 20, .inr (.inr (.inr (.inr (eoF r))))))] ++ rowsW k r h.2.2) (fun (r : Int32) (u : St × HT) => r = zI (if 0 ≤ x1 ∧ x1 ≤ f 0 - 1 then (if (-8 ≤ x2 ∧ x2 ≤ 31) ∧ (-8 ≤ x3 ∧ x3 ≤ 23) then max (min (x3 + 8) 24 - max x3 0) 0 else -1000000002) else -1000000001) ∧ u = if (0 ≤ x1 ∧ x1 ≤ f 0 - 1) ∧ (-8 ≤ x2 ∧ x2 ≤ 31) ∧ (-8 ≤ x3 ∧ x3 ≤ 23) then (mvZ f x1.toNat x2 x3, rmH f h) else (f, h)) (fun u => ([(x9, .inr (9, [.ref h0, .ref h8, .ref h4, .ref h2, .ref hh, .ref h3, .ref h1, .ref im, .ref sd, .ref kp])), (h0, .inr (7, [.ref c0])), (c0, .inl (k.1, 132, .inl (zF u.1))), (hh, .inr (3, [.ref eo, .int (zI ((u.2.1 : Nat) : Int)), .int (zI ((u.2.2.1 : Nat) : Int))])), (eo, .inl (k.2.2.2, 20, .inr (.inr (.inr (.inr (eoF r))))))] ++ rowsW k r u.2.2.2)) := by
  refine Met.ofW (cc := cX9_move) (maxL := 4) (ret := (some .int)) (by decide) rfl ?_
  intro p e s m args below meth c s₁ Bd hml hv
  obtain ⟨rfl, hP, hK, hD0⟩ := hv
  have hx := Bd.exec
  have hb := Bd.bytes
  have hr := Bd.returns
  have hts := atoms_spec (ws := wsX9_move) Bd.pre
  have hown : s.vm.findClass RX9 = some m.cls := findClass_of_methodNamed Bd.named
  have hlocks := Bd.notSynchronized
  have hSf : CallFix p m c cX9_move 4 s ([.ref x9, .int (zI x1), .int (zI x2), .int (zI x3)] : List Value).toArray wsX9_move RX9 := ⟨hx, hb, hml, hown, hts⟩
  have hD := fA_D hD0
  have hS : va_S (fA ([(x9, .inr (9, [.ref h0, .ref h8, .ref h4, .ref h2, .ref hh, .ref h3, .ref h1, .ref im, .ref sd, .ref kp])), (h0, .inr (7, [.ref c0])), (c0, .inl (k.1, 132, .inl (zF f))), (hh, .inr (3, [.ref eo, .int (zI ((h.1 : Nat) : Int)), .int (zI ((h.2.1 : Nat) : Int))])), (eo, .inl (k.2.2.2, 20, .inr (.inr (.inr (.inr (eoF r))))))] ++ rowsW k r h.2.2)) s.heap s.heap [] := va_S.rf
  generalize hAe : fA ([(x9, .inr (9, [.ref h0, .ref h8, .ref h4, .ref h2, .ref hh, .ref h3, .ref h1, .ref im, .ref sd, .ref kp])), (h0, .inr (7, [.ref c0])), (c0, .inl (k.1, 132, .inl (zF f))), (hh, .inr (3, [.ref eo, .int (zI ((h.1 : Nat) : Int)), .int (zI ((h.2.1 : Nat) : Int))])), (eo, .inl (k.2.2.2, 20, .inr (.inr (.inr (.inr (eoF r))))))] ++ rowsW k r h.2.2) = A at hD hS ⊢
  have hP : va_P D vwCl ([(x9, .inr (9, [.ref h0, .ref h8, .ref h4, .ref h2, .ref hh, .ref h3, .ref h1, .ref im, .ref sd, .ref kp])), (h0, .inr (7, [.ref c0])), (c0, .inl (k.1, 132, .inl (zF f))), (hh, .inr (3, [.ref eo, .int (zI ((h.1 : Nat) : Int)), .int (zI ((h.2.1 : Nat) : Int))])), (eo, .inl (k.2.2.2, 20, .inr (.inr (.inr (.inr (eoF r))))))] ++ rowsW k r h.2.2) s.heap := hP
  have hinX9 : ∀ w ∈ u_ws RX9 TX9 10, w ∈ wsX9_move := by decide +kernel
  have fl40 := hts (.fieldLink RX9 40 "DotObjects" "history" "LDotObjects$History;") (by decide +kernel)
  have fl10 := hts (.fieldLink RX9 10 "DotObjects" "scene" "LDotObjects$Scene;") (by decide +kernel)
  have hl := lv_entry ([.ref x9, .int (zI x1), .int (zI x2), .int (zI x3)]) (n := 4) (Nat.le_of_ble_eq_true rfl)
  rw [lg_entry_eq]
  generalize (lg_sl ([.ref x9, .int (zI x1), .int (zI x2), .int (zI x3)]) ++ List.replicate (4 - (lg_sl ([.ref x9, .int (zI x1), .int (zI x2), .int (zI x3)])).length) Slot.unset).toArray = ls at hl ⊢
  have hl : lv_has ls 4 [(0, .ref x9), (1, .int (zI x1)), (2, .int (zI x2)), (3, .int (zI x3))] := hl
  have hn := hV.n
  refine lv_aload_n hx hb dX9_move_0 rfl (lv_at hl 0 rfl) ?_
  refine lv_iload_n hx hb dX9_move_1 rfl (lv_at hl 1 rfl) ?_
  refine roV (n := 1) (As := [.int (zI x1)]) (rest := []) hSf (c_isThing l D k x9 h0 c0 h8 h4 h2 hh h3 h1 im sd kp f B hV x1 (by omega)) gX9_move_X9_isThing rfl (by decide +kernel) ⟨Nat.le_of_ble_eq_true rfl, Nat.le_of_ble_eq_true rfl⟩ hK hP [0, 1, 2] rfl 0 rfl rfl rfl hl.1 rfl (Nat.le_of_ble_eq_true rfl) dX9_move_2 ⟨Nat.zero_le _, Nat.zero_le _⟩ (fun r_2 h_2 => ?_)
  subst h_2
  refine z_if_neb (tgt := 11) hx hb dX9_move_5 (by decide) (fun c_5 => ?_) (fun c_5 => ?_)
  · simp only [Bool.and_eq_true, decide_eq_true_eq] at c_5
    refine lv_iload_n hx hb dX9_move_11 rfl (lv_at hl 2 rfl) ?_
    refine lv_iload_n hx hb dX9_move_12 rfl (lv_at hl 3 rfl) ?_
    refine roS (n := 2) (As := [.int (zI x2), .int (zI x3)]) (rest := []) hSf (c_isPlace l D k x2 x3 (by omega) (by omega)) gX9_move_X9_isPlace rfl (by decide +kernel) ⟨Nat.le_of_ble_eq_true rfl, Nat.le_of_ble_eq_true rfl⟩ hK hP [] rfl rfl hl.1 rfl (Nat.le_of_ble_eq_true rfl) dX9_move_13 ⟨Nat.zero_le _, Nat.zero_le _⟩ (fun r_13 h_13 => ?_)
    subst h_13
    refine z_if_neb (tgt := 22) hx hb dX9_move_16 (by decide) (fun c_16 => ?_) (fun c_16 => ?_)
    · simp only [Bool.and_eq_true, decide_eq_true_eq] at c_16
      refine lv_aload_n hx hb dX9_move_22 rfl (lv_at hl 0 rfl) ?_
      refine va_get (D := D) (ci := 9) (v := .ref hh) (C := RX9) (T := TX9) (N := 10) hx hb hts hinX9 hown hK.1 hP 0 rfl rfl 4 (by decide) fl40 (fun _ h9 => h9) rfl dX9_move_23 ?_
      refine lv_aload_n hx hb dX9_move_26 rfl (lv_at hl 0 rfl) ?_
      refine va_get (D := D) (ci := 9) (v := .ref h0) (C := RX9) (T := TX9) (N := 10) hx hb hts hinX9 hown hK.1 hP 0 rfl rfl 0 (by decide) fl10 (fun _ h9 => h9) rfl dX9_move_27 ?_
      refine muVR (base := [(x9, .inr (9, [.ref h0, .ref h8, .ref h4, .ref h2, .ref hh, .ref h3, .ref h1, .ref im, .ref sd, .ref kp])), (h0, .inr (7, [.ref c0])), (c0, .inl (k.1, 132, .inl (zF f))), (hh, .inr (3, [.ref eo, .int (zI ((h.1 : Nat) : Int)), .int (zI ((h.2.1 : Nat) : Int))])), (eo, .inl (k.2.2.2, 20, .inr (.inr (.inr (.inr (eoF r))))))]) (wcb := [(h0, .inr (7, [.ref c0])), (c0, .inl (k.1, 132, .inl (zF f))), (hh, .inr (3, [.ref eo, .int (zI ((h.1 : Nat) : Int)), .int (zI ((h.2.1 : Nat) : Int))])), (eo, .inl (k.2.2.2, 20, .inr (.inr (.inr (.inr (eoF r))))))]) (rows := rowsW k r h.2.2) (w' := fun (u : Unit) => [(h0, .inr (7, [.ref c0])), (c0, .inl (k.1, 132, .inl (zF f))), (hh, .inr (3, [.ref eo, .int (zI (((h.1 + 1) % 20 : Nat) : Int)), .int (zI ((min (h.2.1 + 1) 20 : Nat) : Int))])), (eo, .inl (k.2.2.2, 20, .inr (.inr (.inr (.inr (eoF r))))))]) (rw' := fun (u : Unit) => rowsW k r (upE h.2.2 h.1 (cpZ f (h.2.2 h.1) 0 0 132))) (n := 1) (As := [.ref h0]) (rest := []) hSf (c_remember l D k h0 c0 f hh eo r h.1 h.2.1 h.2.2 hh1 hh2) gX9_move_X3_remember rfl (by decide +kernel) ⟨Nat.le_of_ble_eq_true rfl, Nat.le_of_ble_eq_true rfl⟩ hK hP hD hS [1, 2, 3, 4] rfl (by decide) (fun _ => rfl) (fun _ => rfl) (fun _ => rowsW_fst _ _ _ _) 2 rfl rfl rfl hl.1 rfl (Nat.le_of_ble_eq_true rfl) dX9_move_30 ⟨Nat.zero_le _, Nat.zero_le _⟩ (fun u_30 H locs h_30 hP hD hS => ?_)
      have hP : va_P D vwCl ([(x9, .inr (9, [.ref h0, .ref h8, .ref h4, .ref h2, .ref hh, .ref h3, .ref h1, .ref im, .ref sd, .ref kp])), (h0, .inr (7, [.ref c0])), (c0, .inl (k.1, 132, .inl (zF f))), (hh, .inr (3, [.ref eo, .int (zI (((h.1 + 1) % 20 : Nat) : Int)), .int (zI ((min (h.2.1 + 1) 20 : Nat) : Int))])), (eo, .inl (k.2.2.2, 20, .inr (.inr (.inr (.inr (eoF r))))))] ++ rowsW k r (upE h.2.2 h.1 (cpZ f (h.2.2 h.1) 0 0 132))) H := hP
      have hD : va_D A ([(x9, .inr (9, [.ref h0, .ref h8, .ref h4, .ref h2, .ref hh, .ref h3, .ref h1, .ref im, .ref sd, .ref kp])), (h0, .inr (7, [.ref c0])), (c0, .inl (k.1, 132, .inl (zF f))), (hh, .inr (3, [.ref eo, .int (zI (((h.1 + 1) % 20 : Nat) : Int)), .int (zI ((min (h.2.1 + 1) 20 : Nat) : Int))])), (eo, .inl (k.2.2.2, 20, .inr (.inr (.inr (.inr (eoF r))))))] ++ rowsW k r (upE h.2.2 h.1 (cpZ f (h.2.2 h.1) 0 0 132))) := hD
      refine lv_aload_n hx hb dX9_move_33 rfl (lv_at hl 0 rfl) ?_
      refine va_get (D := D) (ci := 9) (v := .ref h0) (C := RX9) (T := TX9) (N := 10) hx hb hts hinX9 hown hK.1 hP 0 rfl rfl 0 (by decide) fl10 (fun _ h9 => h9) rfl dX9_move_34 ?_
      refine lv_iload_n hx hb dX9_move_37 rfl (lv_at hl 1 rfl) ?_
      refine z_iconst hx hb dX9_move_38 ?_
      refine lv_iload_n hx hb dX9_move_39 rfl (lv_at hl 2 rfl) ?_
      refine muV (n := 3) (As := [.int (zI ((x1.toNat : Nat) : Int)), .int (zI ((0 : Nat) : Int)), .int (zI x2)]) (rest := []) hSf (c_setField l D k h0 c0 f x1.toNat 0 x2 (by omega) (by omega)) gX9_move_X7_setField rfl (by decide +kernel) ⟨Nat.le_of_ble_eq_true rfl, Nat.le_of_ble_eq_true rfl⟩ hK hP hD hS [1, 2] rfl rfl (by decide) (fun _ => rfl) (fun _ => rfl) 0 rfl rfl rfl hl.1 (by rw [show zI x1 = zI ((x1.toNat : Nat) : Int) from zc (by omega)]; rw [show zI 0 = zI ((0 : Nat) : Int) from zc (by omega)]; rfl) (Nat.le_of_ble_eq_true rfl) dX9_move_40 ⟨Nat.zero_le _, Nat.zero_le _⟩ (fun u_40 H locs h_40 hP hD hS => ?_)
      have hP : va_P D vwCl ([(x9, .inr (9, [.ref h0, .ref h8, .ref h4, .ref h2, .ref hh, .ref h3, .ref h1, .ref im, .ref sd, .ref kp])), (h0, .inr (7, [.ref c0])), (c0, .inl (k.1, 132, .inl (zF (upZ f (36 + 8 * x1.toNat + 0) x2)))), (hh, .inr (3, [.ref eo, .int (zI (((h.1 + 1) % 20 : Nat) : Int)), .int (zI ((min (h.2.1 + 1) 20 : Nat) : Int))])), (eo, .inl (k.2.2.2, 20, .inr (.inr (.inr (.inr (eoF r))))))] ++ rowsW k r (upE h.2.2 h.1 (cpZ f (h.2.2 h.1) 0 0 132))) H := hP
      have hD : va_D A ([(x9, .inr (9, [.ref h0, .ref h8, .ref h4, .ref h2, .ref hh, .ref h3, .ref h1, .ref im, .ref sd, .ref kp])), (h0, .inr (7, [.ref c0])), (c0, .inl (k.1, 132, .inl (zF (upZ f (36 + 8 * x1.toNat + 0) x2)))), (hh, .inr (3, [.ref eo, .int (zI (((h.1 + 1) % 20 : Nat) : Int)), .int (zI ((min (h.2.1 + 1) 20 : Nat) : Int))])), (eo, .inl (k.2.2.2, 20, .inr (.inr (.inr (.inr (eoF r))))))] ++ rowsW k r (upE h.2.2 h.1 (cpZ f (h.2.2 h.1) 0 0 132))) := hD
      refine lv_aload_n hx hb dX9_move_43 rfl (lv_at hl 0 rfl) ?_
      refine va_get (D := D) (ci := 9) (v := .ref h0) (C := RX9) (T := TX9) (N := 10) hx hb hts hinX9 hown hK.1 hP 0 rfl rfl 0 (by decide) fl10 (fun _ h9 => h9) rfl dX9_move_44 ?_
      refine lv_iload_n hx hb dX9_move_47 rfl (lv_at hl 1 rfl) ?_
      refine z_iconst hx hb dX9_move_48 ?_
      refine lv_iload_n hx hb dX9_move_49 rfl (lv_at hl 3 rfl) ?_
      refine muV (n := 3) (As := [.int (zI ((x1.toNat : Nat) : Int)), .int (zI ((1 : Nat) : Int)), .int (zI x3)]) (rest := []) hSf (c_setField l D k h0 c0 (upZ f (36 + 8 * x1.toNat + 0) x2) x1.toNat 1 x3 (by omega) (by omega)) gX9_move_X7_setField rfl (by decide +kernel) ⟨Nat.le_of_ble_eq_true rfl, Nat.le_of_ble_eq_true rfl⟩ hK hP hD hS [1, 2] rfl rfl (by decide) (fun _ => rfl) (fun _ => rfl) 0 rfl rfl rfl hl.1 (by rw [show zI x1 = zI ((x1.toNat : Nat) : Int) from zc (by omega)]; rw [show zI 1 = zI ((1 : Nat) : Int) from zc (by omega)]; rfl) (Nat.le_of_ble_eq_true rfl) dX9_move_50 ⟨Nat.zero_le _, Nat.zero_le _⟩ (fun u_50 H locs h_50 hP hD hS => ?_)
      have hP : va_P D vwCl ([(x9, .inr (9, [.ref h0, .ref h8, .ref h4, .ref h2, .ref hh, .ref h3, .ref h1, .ref im, .ref sd, .ref kp])), (h0, .inr (7, [.ref c0])), (c0, .inl (k.1, 132, .inl (zF (upZ (upZ f (36 + 8 * x1.toNat + 0) x2) (36 + 8 * x1.toNat + 1) x3)))), (hh, .inr (3, [.ref eo, .int (zI (((h.1 + 1) % 20 : Nat) : Int)), .int (zI ((min (h.2.1 + 1) 20 : Nat) : Int))])), (eo, .inl (k.2.2.2, 20, .inr (.inr (.inr (.inr (eoF r))))))] ++ rowsW k r (upE h.2.2 h.1 (cpZ f (h.2.2 h.1) 0 0 132))) H := hP
      have hD : va_D A ([(x9, .inr (9, [.ref h0, .ref h8, .ref h4, .ref h2, .ref hh, .ref h3, .ref h1, .ref im, .ref sd, .ref kp])), (h0, .inr (7, [.ref c0])), (c0, .inl (k.1, 132, .inl (zF (upZ (upZ f (36 + 8 * x1.toNat + 0) x2) (36 + 8 * x1.toNat + 1) x3)))), (hh, .inr (3, [.ref eo, .int (zI (((h.1 + 1) % 20 : Nat) : Int)), .int (zI ((min (h.2.1 + 1) 20 : Nat) : Int))])), (eo, .inl (k.2.2.2, 20, .inr (.inr (.inr (.inr (eoF r))))))] ++ rowsW k r (upE h.2.2 h.1 (cpZ f (h.2.2 h.1) 0 0 132))) := hD
      refine lv_aload_n hx hb dX9_move_53 rfl (lv_at hl 0 rfl) ?_
      refine va_get (D := D) (ci := 9) (v := .ref h0) (C := RX9) (T := TX9) (N := 10) hx hb hts hinX9 hown hK.1 hP 0 rfl rfl 0 (by decide) fl10 (fun _ h9 => h9) rfl dX9_move_54 ?_
      refine lv_iload_n hx hb dX9_move_57 rfl (lv_at hl 1 rfl) ?_
      refine roV (n := 1) (As := [.int (zI ((x1.toNat : Nat) : Int))]) (rest := []) hSf (c_linesOf l D k h0 c0 (mvZ f x1.toNat x2 x3) B (Va_mv hV (by omega) (by omega)) x1.toNat (by rw [nT_mv]; omega)) gX9_move_X7_linesOf rfl (by decide +kernel) ⟨Nat.le_of_ble_eq_true rfl, Nat.le_of_ble_eq_true rfl⟩ hK hP [1, 2] rfl 0 rfl rfl rfl hl.1 (by rw [show zI x1 = zI ((x1.toNat : Nat) : Int) from zc (by omega)]; rfl) (Nat.le_of_ble_eq_true rfl) dX9_move_58 ⟨Nat.zero_le _, Nat.zero_le _⟩ (fun r_58 h_58 => ?_)
      subst h_58
      rw [show th (mvZ f x1.toNat x2 x3) x1.toNat 1 = x3 from th_up_s]
      exact W.iret hx hb hr (fun t ht hW => ⟨⟨_, (mvZ f x1.toNat x2 x3, rmH f h), rfl, ⟨zc (by rw [if_pos (by omega), if_pos (by omega)]), by rw [if_pos (by omega)]⟩, by show va_P D vwCl _ _; rw [ht]; exact hP⟩, hS.F ht⟩) hS.2.2 dX9_move_61
    · simp only [Bool.and_eq_false_iff, decide_eq_false_iff_not] at c_16
      refine lv_ldc hx hb hown (hts (.constant RX9 99 (-1000000002)) (by decide +kernel)) dX9_move_19 ?_
      refine te (show (-1000000002 : Int32) = zI (-1000000002) from by decide +kernel) ?_
      exact W.iret hx hb hr (fun t ht hW => ⟨⟨_, (f, h), rfl, ⟨zc (by rw [if_pos (by omega), if_neg (by omega)]), by rw [if_neg (by omega)]⟩, by show va_P D vwCl _ _; rw [ht]; exact hP⟩, hS.F ht⟩) hS.2.2 dX9_move_21
  · simp only [Bool.and_eq_false_iff, decide_eq_false_iff_not] at c_5
    refine lv_ldc hx hb hown (hts (.constant RX9 104 (-1000000001)) (by decide +kernel)) dX9_move_8 ?_
    refine te (show (-1000000001 : Int32) = zI (-1000000001) from by decide +kernel) ?_
    exact W.iret hx hb hr (fun t ht hW => ⟨⟨_, (f, h), rfl, ⟨zc (by rw [if_neg (by omega)]), by rw [if_neg (by omega)]⟩, by show va_P D vwCl _ _; rw [ht]; exact hP⟩, hS.F ht⟩) hS.2.2 dX9_move_10
set_option maxHeartbeats 4000000 in
set_option maxRecDepth 100000 in
theorem c_turn (l : Launch) (D : va_G) (k : Kt) (x9 : Nat) (h0 : Nat) (c0 : Nat) (h8 : Nat) (h4 : Nat) (h2 : Nat) (hh : Nat) (h3 : Nat) (h1 : Nat) (im : Nat) (sd : Nat) (kp : Nat) (f : St) (B : Int) (hV : Va B f) (h5 : Nat) (a5 : Nat) (h6 : Nat) (s6 : Nat) (p6 : Nat) (h9 : Nat) (s9 : Nat) (p9 : Nat) (z : (Nat → Int) × ((Nat → Nat) × (Nat → Nat) × Nat) × ((Nat → Nat) × (Nat → Nat) × Nat)) (hB : B < 1000000) (eo : Nat) (r : Nat → Nat) (h : HT) (hh1 : h.1 < 20) (hh2 : h.2.1 ≤ 20) (x1 : Int) (x2 : Int) (x3 : Int) (hx1 : -2147483648 ≤ x1 ∧ x1 < 2147483648) (hx2 : -2147483648 ≤ x2 ∧ x2 < 2147483648) (hx3 : -2147483648 ≤ x3 ∧ x3 < 2147483648) : MI l D k yX9_turn wsX9_turn 6 141 [.ref x9, .int (zI x1), .int (zI x2), .int (zI x3)] ([(x9, .inr (9, [.ref h0, .ref h8, .ref h4, .ref h2, .ref hh, .ref h3, .ref h1, .ref im, .ref sd, .ref kp])), (h0, .inr (7, [.ref c0])), (c0, .inl (k.1, 132, .inl (zF f))), (h8, .inr (8, [.ref h5, .ref h6, .ref h9])), (h5, .inr (5, [.ref a5])), (a5, .inl (k.1, 12, .inl (zF z.1))), (h6, .inr (6, [.ref s6, .ref p6, .int (zI ((z.2.1.2.2 : Nat) : Int))])), (s6, .inl (k.1, 12, .inl (zF (nF z.2.1.1)))), (p6, .inl (k.1, 3, .inl (zF (nF z.2.1.2.1)))), (h9, .inr (6, [.ref s9, .ref p9, .int (zI ((z.2.2.2.2 : Nat) : Int))])), (s9, .inl (k.1, 12, .inl (zF (nF z.2.2.1)))), (p9, .inl (k.1, 3, .inl (zF (nF z.2.2.2.1)))), (hh, .inr (3, [.ref eo, .int (zI ((h.1 : Nat) : Int)), .int (zI ((h.2.1 : Nat) : Int))])), (eo, .inl (k.2.2.2, 20, .inr (.inr (.inr (.inr (eoF r))))))] ++ rowsW k r h.2.2) (fun (r : Int32) (u : ((Nat → Int) × ((Nat → Nat) × (Nat → Nat) × Nat) × ((Nat → Nat) × (Nat → Nat) × Nat)) × St × HT) => r = zI (if 0 ≤ x1 ∧ x1 ≤ f 0 - 1 then (if (0 ≤ x2 ∧ x2 ≤ 3) ∧ (0 ≤ x3 ∧ x3 ≤ 3) then ((sm (fun q => seeL (tuZ f x1.toNat x2 x3) x1.toNat q) 24 : Nat) : Int) else -1000000002) else -1000000001) ∧ u.2 = if (0 ≤ x1 ∧ x1 ≤ f 0 - 1) ∧ (0 ≤ x2 ∧ x2 ≤ 3) ∧ (0 ≤ x3 ∧ x3 ≤ 3) then (tuZ f x1.toNat x2 x3, rmH f h) else (f, h)) (fun u => ([(x9, .inr (9, [.ref h0, .ref h8, .ref h4, .ref h2, .ref hh, .ref h3, .ref h1, .ref im, .ref sd, .ref kp])), (h0, .inr (7, [.ref c0])), (c0, .inl (k.1, 132, .inl (zF u.2.1))), (h8, .inr (8, [.ref h5, .ref h6, .ref h9])), (h5, .inr (5, [.ref a5])), (a5, .inl (k.1, 12, .inl (zF u.1.1))), (h6, .inr (6, [.ref s6, .ref p6, .int (zI ((u.1.2.1.2.2 : Nat) : Int))])), (s6, .inl (k.1, 12, .inl (zF (nF u.1.2.1.1)))), (p6, .inl (k.1, 3, .inl (zF (nF u.1.2.1.2.1)))), (h9, .inr (6, [.ref s9, .ref p9, .int (zI ((u.1.2.2.2.2 : Nat) : Int))])), (s9, .inl (k.1, 12, .inl (zF (nF u.1.2.2.1)))), (p9, .inl (k.1, 3, .inl (zF (nF u.1.2.2.2.1)))), (hh, .inr (3, [.ref eo, .int (zI ((u.2.2.1 : Nat) : Int)), .int (zI ((u.2.2.2.1 : Nat) : Int))])), (eo, .inl (k.2.2.2, 20, .inr (.inr (.inr (.inr (eoF r))))))] ++ rowsW k r u.2.2.2.2)) := by
  refine Met.ofW (cc := cX9_turn) (maxL := 4) (ret := (some .int)) (by decide) rfl ?_
  intro p e s m args below meth c s₁ Bd hml hv
  obtain ⟨rfl, hP, hK, hD0⟩ := hv
  have hx := Bd.exec
  have hb := Bd.bytes
  have hr := Bd.returns
  have hts := atoms_spec (ws := wsX9_turn) Bd.pre
  have hown : s.vm.findClass RX9 = some m.cls := findClass_of_methodNamed Bd.named
  have hlocks := Bd.notSynchronized
  have hSf : CallFix p m c cX9_turn 4 s ([.ref x9, .int (zI x1), .int (zI x2), .int (zI x3)] : List Value).toArray wsX9_turn RX9 := ⟨hx, hb, hml, hown, hts⟩
  have hD := fA_D hD0
  have hS : va_S (fA ([(x9, .inr (9, [.ref h0, .ref h8, .ref h4, .ref h2, .ref hh, .ref h3, .ref h1, .ref im, .ref sd, .ref kp])), (h0, .inr (7, [.ref c0])), (c0, .inl (k.1, 132, .inl (zF f))), (h8, .inr (8, [.ref h5, .ref h6, .ref h9])), (h5, .inr (5, [.ref a5])), (a5, .inl (k.1, 12, .inl (zF z.1))), (h6, .inr (6, [.ref s6, .ref p6, .int (zI ((z.2.1.2.2 : Nat) : Int))])), (s6, .inl (k.1, 12, .inl (zF (nF z.2.1.1)))), (p6, .inl (k.1, 3, .inl (zF (nF z.2.1.2.1)))), (h9, .inr (6, [.ref s9, .ref p9, .int (zI ((z.2.2.2.2 : Nat) : Int))])), (s9, .inl (k.1, 12, .inl (zF (nF z.2.2.1)))), (p9, .inl (k.1, 3, .inl (zF (nF z.2.2.2.1)))), (hh, .inr (3, [.ref eo, .int (zI ((h.1 : Nat) : Int)), .int (zI ((h.2.1 : Nat) : Int))])), (eo, .inl (k.2.2.2, 20, .inr (.inr (.inr (.inr (eoF r))))))] ++ rowsW k r h.2.2)) s.heap s.heap [] := va_S.rf
  generalize hAe : fA ([(x9, .inr (9, [.ref h0, .ref h8, .ref h4, .ref h2, .ref hh, .ref h3, .ref h1, .ref im, .ref sd, .ref kp])), (h0, .inr (7, [.ref c0])), (c0, .inl (k.1, 132, .inl (zF f))), (h8, .inr (8, [.ref h5, .ref h6, .ref h9])), (h5, .inr (5, [.ref a5])), (a5, .inl (k.1, 12, .inl (zF z.1))), (h6, .inr (6, [.ref s6, .ref p6, .int (zI ((z.2.1.2.2 : Nat) : Int))])), (s6, .inl (k.1, 12, .inl (zF (nF z.2.1.1)))), (p6, .inl (k.1, 3, .inl (zF (nF z.2.1.2.1)))), (h9, .inr (6, [.ref s9, .ref p9, .int (zI ((z.2.2.2.2 : Nat) : Int))])), (s9, .inl (k.1, 12, .inl (zF (nF z.2.2.1)))), (p9, .inl (k.1, 3, .inl (zF (nF z.2.2.2.1)))), (hh, .inr (3, [.ref eo, .int (zI ((h.1 : Nat) : Int)), .int (zI ((h.2.1 : Nat) : Int))])), (eo, .inl (k.2.2.2, 20, .inr (.inr (.inr (.inr (eoF r))))))] ++ rowsW k r h.2.2) = A at hD hS ⊢
  have hP : va_P D vwCl ([(x9, .inr (9, [.ref h0, .ref h8, .ref h4, .ref h2, .ref hh, .ref h3, .ref h1, .ref im, .ref sd, .ref kp])), (h0, .inr (7, [.ref c0])), (c0, .inl (k.1, 132, .inl (zF f))), (h8, .inr (8, [.ref h5, .ref h6, .ref h9])), (h5, .inr (5, [.ref a5])), (a5, .inl (k.1, 12, .inl (zF z.1))), (h6, .inr (6, [.ref s6, .ref p6, .int (zI ((z.2.1.2.2 : Nat) : Int))])), (s6, .inl (k.1, 12, .inl (zF (nF z.2.1.1)))), (p6, .inl (k.1, 3, .inl (zF (nF z.2.1.2.1)))), (h9, .inr (6, [.ref s9, .ref p9, .int (zI ((z.2.2.2.2 : Nat) : Int))])), (s9, .inl (k.1, 12, .inl (zF (nF z.2.2.1)))), (p9, .inl (k.1, 3, .inl (zF (nF z.2.2.2.1)))), (hh, .inr (3, [.ref eo, .int (zI ((h.1 : Nat) : Int)), .int (zI ((h.2.1 : Nat) : Int))])), (eo, .inl (k.2.2.2, 20, .inr (.inr (.inr (.inr (eoF r))))))] ++ rowsW k r h.2.2) s.heap := hP
  have hinX9 : ∀ w ∈ u_ws RX9 TX9 10, w ∈ wsX9_turn := by decide +kernel
  have fl40 := hts (.fieldLink RX9 40 "DotObjects" "history" "LDotObjects$History;") (by decide +kernel)
  have fl10 := hts (.fieldLink RX9 10 "DotObjects" "scene" "LDotObjects$Scene;") (by decide +kernel)
  have fl19 := hts (.fieldLink RX9 19 "DotObjects" "screen" "LDotObjects$Screen;") (by decide +kernel)
  have hl := lv_entry ([.ref x9, .int (zI x1), .int (zI x2), .int (zI x3)]) (n := 4) (Nat.le_of_ble_eq_true rfl)
  rw [lg_entry_eq]
  generalize (lg_sl ([.ref x9, .int (zI x1), .int (zI x2), .int (zI x3)]) ++ List.replicate (4 - (lg_sl ([.ref x9, .int (zI x1), .int (zI x2), .int (zI x3)])).length) Slot.unset).toArray = ls at hl ⊢
  have hl : lv_has ls 4 [(0, .ref x9), (1, .int (zI x1)), (2, .int (zI x2)), (3, .int (zI x3))] := hl
  have hn := hV.n
  refine lv_aload_n hx hb dX9_turn_0 rfl (lv_at hl 0 rfl) ?_
  refine lv_iload_n hx hb dX9_turn_1 rfl (lv_at hl 1 rfl) ?_
  refine roV (n := 1) (As := [.int (zI x1)]) (rest := []) hSf (c_isThing l D k x9 h0 c0 h8 h4 h2 hh h3 h1 im sd kp f B hV x1 (by omega)) gX9_turn_X9_isThing rfl (by decide +kernel) ⟨Nat.le_of_ble_eq_true rfl, Nat.le_of_ble_eq_true rfl⟩ hK hP [0, 1, 2] rfl 0 rfl rfl rfl hl.1 rfl (Nat.le_of_ble_eq_true rfl) dX9_turn_2 ⟨Nat.zero_le _, Nat.zero_le _⟩ (fun r_2 h_2 => ?_)
  subst h_2
  refine z_if_neb (tgt := 11) hx hb dX9_turn_5 (by decide) (fun c_5 => ?_) (fun c_5 => ?_)
  · simp only [Bool.and_eq_true, decide_eq_true_eq] at c_5
    refine lv_iload_n hx hb dX9_turn_11 rfl (lv_at hl 2 rfl) ?_
    refine lv_iload_n hx hb dX9_turn_12 rfl (lv_at hl 3 rfl) ?_
    refine roS (n := 2) (As := [.int (zI x2), .int (zI x3)]) (rest := []) hSf (c_isManner l D k x2 x3 (by omega) (by omega)) gX9_turn_X9_isManner rfl (by decide +kernel) ⟨Nat.le_of_ble_eq_true rfl, Nat.le_of_ble_eq_true rfl⟩ hK hP [] rfl rfl hl.1 rfl (Nat.le_of_ble_eq_true rfl) dX9_turn_13 ⟨Nat.zero_le _, Nat.zero_le _⟩ (fun r_13 h_13 => ?_)
    subst h_13
    refine z_if_neb (tgt := 22) hx hb dX9_turn_16 (by decide) (fun c_16 => ?_) (fun c_16 => ?_)
    · simp only [Bool.and_eq_true, decide_eq_true_eq] at c_16
      refine lv_aload_n hx hb dX9_turn_22 rfl (lv_at hl 0 rfl) ?_
      refine va_get (D := D) (ci := 9) (v := .ref hh) (C := RX9) (T := TX9) (N := 10) hx hb hts hinX9 hown hK.1 hP 0 rfl rfl 4 (by decide) fl40 (fun _ h9 => h9) rfl dX9_turn_23 ?_
      refine lv_aload_n hx hb dX9_turn_26 rfl (lv_at hl 0 rfl) ?_
      refine va_get (D := D) (ci := 9) (v := .ref h0) (C := RX9) (T := TX9) (N := 10) hx hb hts hinX9 hown hK.1 hP 0 rfl rfl 0 (by decide) fl10 (fun _ h9 => h9) rfl dX9_turn_27 ?_
      refine muVR (base := [(x9, .inr (9, [.ref h0, .ref h8, .ref h4, .ref h2, .ref hh, .ref h3, .ref h1, .ref im, .ref sd, .ref kp])), (h0, .inr (7, [.ref c0])), (c0, .inl (k.1, 132, .inl (zF f))), (h8, .inr (8, [.ref h5, .ref h6, .ref h9])), (h5, .inr (5, [.ref a5])), (a5, .inl (k.1, 12, .inl (zF z.1))), (h6, .inr (6, [.ref s6, .ref p6, .int (zI ((z.2.1.2.2 : Nat) : Int))])), (s6, .inl (k.1, 12, .inl (zF (nF z.2.1.1)))), (p6, .inl (k.1, 3, .inl (zF (nF z.2.1.2.1)))), (h9, .inr (6, [.ref s9, .ref p9, .int (zI ((z.2.2.2.2 : Nat) : Int))])), (s9, .inl (k.1, 12, .inl (zF (nF z.2.2.1)))), (p9, .inl (k.1, 3, .inl (zF (nF z.2.2.2.1)))), (hh, .inr (3, [.ref eo, .int (zI ((h.1 : Nat) : Int)), .int (zI ((h.2.1 : Nat) : Int))])), (eo, .inl (k.2.2.2, 20, .inr (.inr (.inr (.inr (eoF r))))))]) (wcb := [(h0, .inr (7, [.ref c0])), (c0, .inl (k.1, 132, .inl (zF f))), (hh, .inr (3, [.ref eo, .int (zI ((h.1 : Nat) : Int)), .int (zI ((h.2.1 : Nat) : Int))])), (eo, .inl (k.2.2.2, 20, .inr (.inr (.inr (.inr (eoF r))))))]) (rows := rowsW k r h.2.2) (w' := fun (u : Unit) => [(h0, .inr (7, [.ref c0])), (c0, .inl (k.1, 132, .inl (zF f))), (hh, .inr (3, [.ref eo, .int (zI (((h.1 + 1) % 20 : Nat) : Int)), .int (zI ((min (h.2.1 + 1) 20 : Nat) : Int))])), (eo, .inl (k.2.2.2, 20, .inr (.inr (.inr (.inr (eoF r))))))]) (rw' := fun (u : Unit) => rowsW k r (upE h.2.2 h.1 (cpZ f (h.2.2 h.1) 0 0 132))) (n := 1) (As := [.ref h0]) (rest := []) hSf (c_remember l D k h0 c0 f hh eo r h.1 h.2.1 h.2.2 hh1 hh2) gX9_turn_X3_remember rfl (by decide +kernel) ⟨Nat.le_of_ble_eq_true rfl, Nat.le_of_ble_eq_true rfl⟩ hK hP hD hS [1, 2, 12, 13] rfl (by decide) (fun _ => rfl) (fun _ => rfl) (fun _ => rowsW_fst _ _ _ _) 2 rfl rfl rfl hl.1 rfl (Nat.le_of_ble_eq_true rfl) dX9_turn_30 ⟨Nat.zero_le _, Nat.zero_le _⟩ (fun u_30 H locs h_30 hP hD hS => ?_)
      have hP : va_P D vwCl ([(x9, .inr (9, [.ref h0, .ref h8, .ref h4, .ref h2, .ref hh, .ref h3, .ref h1, .ref im, .ref sd, .ref kp])), (h0, .inr (7, [.ref c0])), (c0, .inl (k.1, 132, .inl (zF f))), (h8, .inr (8, [.ref h5, .ref h6, .ref h9])), (h5, .inr (5, [.ref a5])), (a5, .inl (k.1, 12, .inl (zF z.1))), (h6, .inr (6, [.ref s6, .ref p6, .int (zI ((z.2.1.2.2 : Nat) : Int))])), (s6, .inl (k.1, 12, .inl (zF (nF z.2.1.1)))), (p6, .inl (k.1, 3, .inl (zF (nF z.2.1.2.1)))), (h9, .inr (6, [.ref s9, .ref p9, .int (zI ((z.2.2.2.2 : Nat) : Int))])), (s9, .inl (k.1, 12, .inl (zF (nF z.2.2.1)))), (p9, .inl (k.1, 3, .inl (zF (nF z.2.2.2.1)))), (hh, .inr (3, [.ref eo, .int (zI (((h.1 + 1) % 20 : Nat) : Int)), .int (zI ((min (h.2.1 + 1) 20 : Nat) : Int))])), (eo, .inl (k.2.2.2, 20, .inr (.inr (.inr (.inr (eoF r))))))] ++ rowsW k r (upE h.2.2 h.1 (cpZ f (h.2.2 h.1) 0 0 132))) H := hP
      have hD : va_D A ([(x9, .inr (9, [.ref h0, .ref h8, .ref h4, .ref h2, .ref hh, .ref h3, .ref h1, .ref im, .ref sd, .ref kp])), (h0, .inr (7, [.ref c0])), (c0, .inl (k.1, 132, .inl (zF f))), (h8, .inr (8, [.ref h5, .ref h6, .ref h9])), (h5, .inr (5, [.ref a5])), (a5, .inl (k.1, 12, .inl (zF z.1))), (h6, .inr (6, [.ref s6, .ref p6, .int (zI ((z.2.1.2.2 : Nat) : Int))])), (s6, .inl (k.1, 12, .inl (zF (nF z.2.1.1)))), (p6, .inl (k.1, 3, .inl (zF (nF z.2.1.2.1)))), (h9, .inr (6, [.ref s9, .ref p9, .int (zI ((z.2.2.2.2 : Nat) : Int))])), (s9, .inl (k.1, 12, .inl (zF (nF z.2.2.1)))), (p9, .inl (k.1, 3, .inl (zF (nF z.2.2.2.1)))), (hh, .inr (3, [.ref eo, .int (zI (((h.1 + 1) % 20 : Nat) : Int)), .int (zI ((min (h.2.1 + 1) 20 : Nat) : Int))])), (eo, .inl (k.2.2.2, 20, .inr (.inr (.inr (.inr (eoF r))))))] ++ rowsW k r (upE h.2.2 h.1 (cpZ f (h.2.2 h.1) 0 0 132))) := hD
      refine lv_aload_n hx hb dX9_turn_33 rfl (lv_at hl 0 rfl) ?_
      refine va_get (D := D) (ci := 9) (v := .ref h0) (C := RX9) (T := TX9) (N := 10) hx hb hts hinX9 hown hK.1 hP 0 rfl rfl 0 (by decide) fl10 (fun _ h9 => h9) rfl dX9_turn_34 ?_
      refine lv_iload_n hx hb dX9_turn_37 rfl (lv_at hl 1 rfl) ?_
      refine z_iconst hx hb dX9_turn_38 ?_
      refine lv_iload_n hx hb dX9_turn_39 rfl (lv_at hl 2 rfl) ?_
      refine muV (n := 3) (As := [.int (zI ((x1.toNat : Nat) : Int)), .int (zI ((3 : Nat) : Int)), .int (zI x2)]) (rest := []) hSf (c_setField l D k h0 c0 f x1.toNat 3 x2 (by omega) (by omega)) gX9_turn_X7_setField rfl (by decide +kernel) ⟨Nat.le_of_ble_eq_true rfl, Nat.le_of_ble_eq_true rfl⟩ hK hP hD hS [1, 2] rfl rfl (by decide) (fun _ => rfl) (fun _ => rfl) 0 rfl rfl rfl hl.1 (by rw [show zI x1 = zI ((x1.toNat : Nat) : Int) from zc (by omega)]; rw [show zI 3 = zI ((3 : Nat) : Int) from zc (by omega)]; rfl) (Nat.le_of_ble_eq_true rfl) dX9_turn_40 ⟨Nat.zero_le _, Nat.zero_le _⟩ (fun u_40 H locs h_40 hP hD hS => ?_)
      have hP : va_P D vwCl ([(x9, .inr (9, [.ref h0, .ref h8, .ref h4, .ref h2, .ref hh, .ref h3, .ref h1, .ref im, .ref sd, .ref kp])), (h0, .inr (7, [.ref c0])), (c0, .inl (k.1, 132, .inl (zF (upZ f (36 + 8 * x1.toNat + 3) x2)))), (h8, .inr (8, [.ref h5, .ref h6, .ref h9])), (h5, .inr (5, [.ref a5])), (a5, .inl (k.1, 12, .inl (zF z.1))), (h6, .inr (6, [.ref s6, .ref p6, .int (zI ((z.2.1.2.2 : Nat) : Int))])), (s6, .inl (k.1, 12, .inl (zF (nF z.2.1.1)))), (p6, .inl (k.1, 3, .inl (zF (nF z.2.1.2.1)))), (h9, .inr (6, [.ref s9, .ref p9, .int (zI ((z.2.2.2.2 : Nat) : Int))])), (s9, .inl (k.1, 12, .inl (zF (nF z.2.2.1)))), (p9, .inl (k.1, 3, .inl (zF (nF z.2.2.2.1)))), (hh, .inr (3, [.ref eo, .int (zI (((h.1 + 1) % 20 : Nat) : Int)), .int (zI ((min (h.2.1 + 1) 20 : Nat) : Int))])), (eo, .inl (k.2.2.2, 20, .inr (.inr (.inr (.inr (eoF r))))))] ++ rowsW k r (upE h.2.2 h.1 (cpZ f (h.2.2 h.1) 0 0 132))) H := hP
      have hD : va_D A ([(x9, .inr (9, [.ref h0, .ref h8, .ref h4, .ref h2, .ref hh, .ref h3, .ref h1, .ref im, .ref sd, .ref kp])), (h0, .inr (7, [.ref c0])), (c0, .inl (k.1, 132, .inl (zF (upZ f (36 + 8 * x1.toNat + 3) x2)))), (h8, .inr (8, [.ref h5, .ref h6, .ref h9])), (h5, .inr (5, [.ref a5])), (a5, .inl (k.1, 12, .inl (zF z.1))), (h6, .inr (6, [.ref s6, .ref p6, .int (zI ((z.2.1.2.2 : Nat) : Int))])), (s6, .inl (k.1, 12, .inl (zF (nF z.2.1.1)))), (p6, .inl (k.1, 3, .inl (zF (nF z.2.1.2.1)))), (h9, .inr (6, [.ref s9, .ref p9, .int (zI ((z.2.2.2.2 : Nat) : Int))])), (s9, .inl (k.1, 12, .inl (zF (nF z.2.2.1)))), (p9, .inl (k.1, 3, .inl (zF (nF z.2.2.2.1)))), (hh, .inr (3, [.ref eo, .int (zI (((h.1 + 1) % 20 : Nat) : Int)), .int (zI ((min (h.2.1 + 1) 20 : Nat) : Int))])), (eo, .inl (k.2.2.2, 20, .inr (.inr (.inr (.inr (eoF r))))))] ++ rowsW k r (upE h.2.2 h.1 (cpZ f (h.2.2 h.1) 0 0 132))) := hD
      refine lv_aload_n hx hb dX9_turn_43 rfl (lv_at hl 0 rfl) ?_
      refine va_get (D := D) (ci := 9) (v := .ref h0) (C := RX9) (T := TX9) (N := 10) hx hb hts hinX9 hown hK.1 hP 0 rfl rfl 0 (by decide) fl10 (fun _ h9 => h9) rfl dX9_turn_44 ?_
      refine lv_iload_n hx hb dX9_turn_47 rfl (lv_at hl 1 rfl) ?_
      refine z_iconst hx hb dX9_turn_48 ?_
      refine lv_iload_n hx hb dX9_turn_49 rfl (lv_at hl 3 rfl) ?_
      refine muV (n := 3) (As := [.int (zI ((x1.toNat : Nat) : Int)), .int (zI ((4 : Nat) : Int)), .int (zI x3)]) (rest := []) hSf (c_setField l D k h0 c0 (upZ f (36 + 8 * x1.toNat + 3) x2) x1.toNat 4 x3 (by omega) (by omega)) gX9_turn_X7_setField rfl (by decide +kernel) ⟨Nat.le_of_ble_eq_true rfl, Nat.le_of_ble_eq_true rfl⟩ hK hP hD hS [1, 2] rfl rfl (by decide) (fun _ => rfl) (fun _ => rfl) 0 rfl rfl rfl hl.1 (by rw [show zI x1 = zI ((x1.toNat : Nat) : Int) from zc (by omega)]; rw [show zI 4 = zI ((4 : Nat) : Int) from zc (by omega)]; rfl) (Nat.le_of_ble_eq_true rfl) dX9_turn_50 ⟨Nat.zero_le _, Nat.zero_le _⟩ (fun u_50 H locs h_50 hP hD hS => ?_)
      have hP : va_P D vwCl ([(x9, .inr (9, [.ref h0, .ref h8, .ref h4, .ref h2, .ref hh, .ref h3, .ref h1, .ref im, .ref sd, .ref kp])), (h0, .inr (7, [.ref c0])), (c0, .inl (k.1, 132, .inl (zF (upZ (upZ f (36 + 8 * x1.toNat + 3) x2) (36 + 8 * x1.toNat + 4) x3)))), (h8, .inr (8, [.ref h5, .ref h6, .ref h9])), (h5, .inr (5, [.ref a5])), (a5, .inl (k.1, 12, .inl (zF z.1))), (h6, .inr (6, [.ref s6, .ref p6, .int (zI ((z.2.1.2.2 : Nat) : Int))])), (s6, .inl (k.1, 12, .inl (zF (nF z.2.1.1)))), (p6, .inl (k.1, 3, .inl (zF (nF z.2.1.2.1)))), (h9, .inr (6, [.ref s9, .ref p9, .int (zI ((z.2.2.2.2 : Nat) : Int))])), (s9, .inl (k.1, 12, .inl (zF (nF z.2.2.1)))), (p9, .inl (k.1, 3, .inl (zF (nF z.2.2.2.1)))), (hh, .inr (3, [.ref eo, .int (zI (((h.1 + 1) % 20 : Nat) : Int)), .int (zI ((min (h.2.1 + 1) 20 : Nat) : Int))])), (eo, .inl (k.2.2.2, 20, .inr (.inr (.inr (.inr (eoF r))))))] ++ rowsW k r (upE h.2.2 h.1 (cpZ f (h.2.2 h.1) 0 0 132))) H := hP
      have hD : va_D A ([(x9, .inr (9, [.ref h0, .ref h8, .ref h4, .ref h2, .ref hh, .ref h3, .ref h1, .ref im, .ref sd, .ref kp])), (h0, .inr (7, [.ref c0])), (c0, .inl (k.1, 132, .inl (zF (upZ (upZ f (36 + 8 * x1.toNat + 3) x2) (36 + 8 * x1.toNat + 4) x3)))), (h8, .inr (8, [.ref h5, .ref h6, .ref h9])), (h5, .inr (5, [.ref a5])), (a5, .inl (k.1, 12, .inl (zF z.1))), (h6, .inr (6, [.ref s6, .ref p6, .int (zI ((z.2.1.2.2 : Nat) : Int))])), (s6, .inl (k.1, 12, .inl (zF (nF z.2.1.1)))), (p6, .inl (k.1, 3, .inl (zF (nF z.2.1.2.1)))), (h9, .inr (6, [.ref s9, .ref p9, .int (zI ((z.2.2.2.2 : Nat) : Int))])), (s9, .inl (k.1, 12, .inl (zF (nF z.2.2.1)))), (p9, .inl (k.1, 3, .inl (zF (nF z.2.2.2.1)))), (hh, .inr (3, [.ref eo, .int (zI (((h.1 + 1) % 20 : Nat) : Int)), .int (zI ((min (h.2.1 + 1) 20 : Nat) : Int))])), (eo, .inl (k.2.2.2, 20, .inr (.inr (.inr (.inr (eoF r))))))] ++ rowsW k r (upE h.2.2 h.1 (cpZ f (h.2.2 h.1) 0 0 132))) := hD
      refine lv_aload_n hx hb dX9_turn_53 rfl (lv_at hl 0 rfl) ?_
      refine va_get (D := D) (ci := 9) (v := .ref h8) (C := RX9) (T := TX9) (N := 10) hx hb hts hinX9 hown hK.1 hP 0 rfl rfl 1 (by decide) fl19 (fun _ h9 => h9) rfl dX9_turn_54 ?_
      refine lv_aload_n hx hb dX9_turn_57 rfl (lv_at hl 0 rfl) ?_
      refine va_get (D := D) (ci := 9) (v := .ref h0) (C := RX9) (T := TX9) (N := 10) hx hb hts hinX9 hown hK.1 hP 0 rfl rfl 0 (by decide) fl10 (fun _ h9 => h9) rfl dX9_turn_58 ?_
      refine lv_iload_n hx hb dX9_turn_61 rfl (lv_at hl 1 rfl) ?_
      refine miV (n := 2) (As := [.ref h0, .int (zI ((x1.toNat : Nat) : Int))]) (rest := []) hSf (c_seenDots l D k h0 c0 (tuZ f x1.toNat x2 x3) B (Va_tu hV (by omega) (by omega)) h8 h5 a5 h6 s6 p6 h9 s9 p9 (z.1, (z.2.1.1, z.2.1.2.1, z.2.1.2.2), (z.2.2.1, z.2.2.2.1, z.2.2.2.2)) hB x1.toNat (by rw [nT_tu]; omega)) gX9_turn_X8_seenDots rfl (by decide +kernel) ⟨Nat.le_of_ble_eq_true rfl, Nat.le_of_ble_eq_true rfl⟩ hK hP hD hS [1, 2, 3, 4, 5, 6, 7, 8, 9, 10, 11] rfl rfl (by decide) (fun _ => rfl) (fun _ => rfl) 2 rfl rfl rfl hl.1 (by rw [show zI x1 = zI ((x1.toNat : Nat) : Int) from zc (by omega)]; rfl) (Nat.le_of_ble_eq_true rfl) dX9_turn_62 ⟨Nat.zero_le _, Nat.zero_le _⟩ (fun r_62 u_62 H locs h_62 hP hD hS => ?_)
      have hP : va_P D vwCl ([(x9, .inr (9, [.ref h0, .ref h8, .ref h4, .ref h2, .ref hh, .ref h3, .ref h1, .ref im, .ref sd, .ref kp])), (h0, .inr (7, [.ref c0])), (c0, .inl (k.1, 132, .inl (zF (tuZ f x1.toNat x2 x3)))), (h8, .inr (8, [.ref h5, .ref h6, .ref h9])), (h5, .inr (5, [.ref a5])), (a5, .inl (k.1, 12, .inl (zF u_62.1))), (h6, .inr (6, [.ref s6, .ref p6, .int (zI ((u_62.2.1.2.2 : Nat) : Int))])), (s6, .inl (k.1, 12, .inl (zF (nF u_62.2.1.1)))), (p6, .inl (k.1, 3, .inl (zF (nF u_62.2.1.2.1)))), (h9, .inr (6, [.ref s9, .ref p9, .int (zI ((u_62.2.2.2.2 : Nat) : Int))])), (s9, .inl (k.1, 12, .inl (zF (nF u_62.2.2.1)))), (p9, .inl (k.1, 3, .inl (zF (nF u_62.2.2.2.1)))), (hh, .inr (3, [.ref eo, .int (zI (((h.1 + 1) % 20 : Nat) : Int)), .int (zI ((min (h.2.1 + 1) 20 : Nat) : Int))])), (eo, .inl (k.2.2.2, 20, .inr (.inr (.inr (.inr (eoF r))))))] ++ rowsW k r (upE h.2.2 h.1 (cpZ f (h.2.2 h.1) 0 0 132))) H := hP
      have hD : va_D A ([(x9, .inr (9, [.ref h0, .ref h8, .ref h4, .ref h2, .ref hh, .ref h3, .ref h1, .ref im, .ref sd, .ref kp])), (h0, .inr (7, [.ref c0])), (c0, .inl (k.1, 132, .inl (zF (tuZ f x1.toNat x2 x3)))), (h8, .inr (8, [.ref h5, .ref h6, .ref h9])), (h5, .inr (5, [.ref a5])), (a5, .inl (k.1, 12, .inl (zF u_62.1))), (h6, .inr (6, [.ref s6, .ref p6, .int (zI ((u_62.2.1.2.2 : Nat) : Int))])), (s6, .inl (k.1, 12, .inl (zF (nF u_62.2.1.1)))), (p6, .inl (k.1, 3, .inl (zF (nF u_62.2.1.2.1)))), (h9, .inr (6, [.ref s9, .ref p9, .int (zI ((u_62.2.2.2.2 : Nat) : Int))])), (s9, .inl (k.1, 12, .inl (zF (nF u_62.2.2.1)))), (p9, .inl (k.1, 3, .inl (zF (nF u_62.2.2.2.1)))), (hh, .inr (3, [.ref eo, .int (zI (((h.1 + 1) % 20 : Nat) : Int)), .int (zI ((min (h.2.1 + 1) 20 : Nat) : Int))])), (eo, .inl (k.2.2.2, 20, .inr (.inr (.inr (.inr (eoF r))))))] ++ rowsW k r (upE h.2.2 h.1 (cpZ f (h.2.2 h.1) 0 0 132))) := hD
      obtain ⟨he_62, h_62⟩ := h_62
      subst he_62
      exact W.iret hx hb hr (fun t ht hW => ⟨⟨_, ((u_62.1, (u_62.2.1.1, u_62.2.1.2.1, u_62.2.1.2.2), (u_62.2.2.1, u_62.2.2.2.1, u_62.2.2.2.2)), tuZ f x1.toNat x2 x3, rmH f h), rfl, ⟨zc (by rw [if_pos (by omega), if_pos (by omega)]), by rw [if_pos (by omega)]⟩, by show va_P D vwCl _ _; rw [ht]; exact hP⟩, hS.F ht⟩) hS.2.2 dX9_turn_65
    · simp only [Bool.and_eq_false_iff, decide_eq_false_iff_not] at c_16
      refine lv_ldc hx hb hown (hts (.constant RX9 99 (-1000000002)) (by decide +kernel)) dX9_turn_19 ?_
      refine te (show (-1000000002 : Int32) = zI (-1000000002) from by decide +kernel) ?_
      exact W.iret hx hb hr (fun t ht hW => ⟨⟨_, ((z.1, (z.2.1.1, z.2.1.2.1, z.2.1.2.2), (z.2.2.1, z.2.2.2.1, z.2.2.2.2)), f, h), rfl, ⟨zc (by rw [if_pos (by omega), if_neg (by omega)]), by rw [if_neg (by omega)]⟩, by show va_P D vwCl _ _; rw [ht]; exact hP⟩, hS.F ht⟩) hS.2.2 dX9_turn_21
  · simp only [Bool.and_eq_false_iff, decide_eq_false_iff_not] at c_5
    refine lv_ldc hx hb hown (hts (.constant RX9 104 (-1000000001)) (by decide +kernel)) dX9_turn_8 ?_
    refine te (show (-1000000001 : Int32) = zI (-1000000001) from by decide +kernel) ?_
    exact W.iret hx hb hr (fun t ht hW => ⟨⟨_, ((z.1, (z.2.1.1, z.2.1.2.1, z.2.1.2.2), (z.2.2.1, z.2.2.2.1, z.2.2.2.2)), f, h), rfl, ⟨zc (by rw [if_neg (by omega)]), by rw [if_neg (by omega)]⟩, by show va_P D vwCl _ _; rw [ht]; exact hP⟩, hS.F ht⟩) hS.2.2 dX9_turn_10
set_option maxHeartbeats 4000000 in
set_option maxRecDepth 100000 in
theorem c_speed (l : Launch) (D : va_G) (k : Kt) (x9 : Nat) (h0 : Nat) (c0 : Nat) (h8 : Nat) (h4 : Nat) (h2 : Nat) (hh : Nat) (h3 : Nat) (h1 : Nat) (im : Nat) (sd : Nat) (kp : Nat) (f : St) (B : Int) (hV : Va B f) (eo : Nat) (r : Nat → Nat) (h : HT) (hh1 : h.1 < 20) (hh2 : h.2.1 ≤ 20) (x1 : Int) (x2 : Int) (x3 : Int) (hx1 : -2147483648 ≤ x1 ∧ x1 < 2147483648) (hx2 : -2147483648 ≤ x2 ∧ x2 < 2147483648) (hx3 : -2147483648 ≤ x3 ∧ x3 < 2147483648) : MI l D k yX9_speed wsX9_speed 3 82 [.ref x9, .int (zI x1), .int (zI x2), .int (zI x3)] ([(x9, .inr (9, [.ref h0, .ref h8, .ref h4, .ref h2, .ref hh, .ref h3, .ref h1, .ref im, .ref sd, .ref kp])), (h0, .inr (7, [.ref c0])), (c0, .inl (k.1, 132, .inl (zF f))), (hh, .inr (3, [.ref eo, .int (zI ((h.1 : Nat) : Int)), .int (zI ((h.2.1 : Nat) : Int))])), (eo, .inl (k.2.2.2, 20, .inr (.inr (.inr (.inr (eoF r))))))] ++ rowsW k r h.2.2) (fun (r : Int32) (u : St × HT) => r = zI (if 0 ≤ x1 ∧ x1 ≤ f 0 - 1 then (if (-8 ≤ x2 ∧ x2 ≤ 8) ∧ (-8 ≤ x3 ∧ x3 ≤ 8) then 1 else -1000000002) else -1000000001) ∧ u = if (0 ≤ x1 ∧ x1 ≤ f 0 - 1) ∧ (-8 ≤ x2 ∧ x2 ≤ 8) ∧ (-8 ≤ x3 ∧ x3 ≤ 8) then (spZ f x1.toNat x2 x3, rmH f h) else (f, h)) (fun u => ([(x9, .inr (9, [.ref h0, .ref h8, .ref h4, .ref h2, .ref hh, .ref h3, .ref h1, .ref im, .ref sd, .ref kp])), (h0, .inr (7, [.ref c0])), (c0, .inl (k.1, 132, .inl (zF u.1))), (hh, .inr (3, [.ref eo, .int (zI ((u.2.1 : Nat) : Int)), .int (zI ((u.2.2.1 : Nat) : Int))])), (eo, .inl (k.2.2.2, 20, .inr (.inr (.inr (.inr (eoF r))))))] ++ rowsW k r u.2.2.2)) := by
  refine Met.ofW (cc := cX9_speed) (maxL := 4) (ret := (some .int)) (by decide) rfl ?_
  intro p e s m args below meth c s₁ Bd hml hv
  obtain ⟨rfl, hP, hK, hD0⟩ := hv
  have hx := Bd.exec
  have hb := Bd.bytes
  have hr := Bd.returns
  have hts := atoms_spec (ws := wsX9_speed) Bd.pre
  have hown : s.vm.findClass RX9 = some m.cls := findClass_of_methodNamed Bd.named
  have hlocks := Bd.notSynchronized
  have hSf : CallFix p m c cX9_speed 4 s ([.ref x9, .int (zI x1), .int (zI x2), .int (zI x3)] : List Value).toArray wsX9_speed RX9 := ⟨hx, hb, hml, hown, hts⟩
  have hD := fA_D hD0
  have hS : va_S (fA ([(x9, .inr (9, [.ref h0, .ref h8, .ref h4, .ref h2, .ref hh, .ref h3, .ref h1, .ref im, .ref sd, .ref kp])), (h0, .inr (7, [.ref c0])), (c0, .inl (k.1, 132, .inl (zF f))), (hh, .inr (3, [.ref eo, .int (zI ((h.1 : Nat) : Int)), .int (zI ((h.2.1 : Nat) : Int))])), (eo, .inl (k.2.2.2, 20, .inr (.inr (.inr (.inr (eoF r))))))] ++ rowsW k r h.2.2)) s.heap s.heap [] := va_S.rf
  generalize hAe : fA ([(x9, .inr (9, [.ref h0, .ref h8, .ref h4, .ref h2, .ref hh, .ref h3, .ref h1, .ref im, .ref sd, .ref kp])), (h0, .inr (7, [.ref c0])), (c0, .inl (k.1, 132, .inl (zF f))), (hh, .inr (3, [.ref eo, .int (zI ((h.1 : Nat) : Int)), .int (zI ((h.2.1 : Nat) : Int))])), (eo, .inl (k.2.2.2, 20, .inr (.inr (.inr (.inr (eoF r))))))] ++ rowsW k r h.2.2) = A at hD hS ⊢
  have hP : va_P D vwCl ([(x9, .inr (9, [.ref h0, .ref h8, .ref h4, .ref h2, .ref hh, .ref h3, .ref h1, .ref im, .ref sd, .ref kp])), (h0, .inr (7, [.ref c0])), (c0, .inl (k.1, 132, .inl (zF f))), (hh, .inr (3, [.ref eo, .int (zI ((h.1 : Nat) : Int)), .int (zI ((h.2.1 : Nat) : Int))])), (eo, .inl (k.2.2.2, 20, .inr (.inr (.inr (.inr (eoF r))))))] ++ rowsW k r h.2.2) s.heap := hP
  have hinX9 : ∀ w ∈ u_ws RX9 TX9 10, w ∈ wsX9_speed := by decide +kernel
  have fl40 := hts (.fieldLink RX9 40 "DotObjects" "history" "LDotObjects$History;") (by decide +kernel)
  have fl10 := hts (.fieldLink RX9 10 "DotObjects" "scene" "LDotObjects$Scene;") (by decide +kernel)
  have hl := lv_entry ([.ref x9, .int (zI x1), .int (zI x2), .int (zI x3)]) (n := 4) (Nat.le_of_ble_eq_true rfl)
  rw [lg_entry_eq]
  generalize (lg_sl ([.ref x9, .int (zI x1), .int (zI x2), .int (zI x3)]) ++ List.replicate (4 - (lg_sl ([.ref x9, .int (zI x1), .int (zI x2), .int (zI x3)])).length) Slot.unset).toArray = ls at hl ⊢
  have hl : lv_has ls 4 [(0, .ref x9), (1, .int (zI x1)), (2, .int (zI x2)), (3, .int (zI x3))] := hl
  have hn := hV.n
  refine lv_aload_n hx hb dX9_speed_0 rfl (lv_at hl 0 rfl) ?_
  refine lv_iload_n hx hb dX9_speed_1 rfl (lv_at hl 1 rfl) ?_
  refine roV (n := 1) (As := [.int (zI x1)]) (rest := []) hSf (c_isThing l D k x9 h0 c0 h8 h4 h2 hh h3 h1 im sd kp f B hV x1 (by omega)) gX9_speed_X9_isThing rfl (by decide +kernel) ⟨Nat.le_of_ble_eq_true rfl, Nat.le_of_ble_eq_true rfl⟩ hK hP [0, 1, 2] rfl 0 rfl rfl rfl hl.1 rfl (Nat.le_of_ble_eq_true rfl) dX9_speed_2 ⟨Nat.zero_le _, Nat.zero_le _⟩ (fun r_2 h_2 => ?_)
  subst h_2
  refine z_if_neb (tgt := 11) hx hb dX9_speed_5 (by decide) (fun c_5 => ?_) (fun c_5 => ?_)
  · simp only [Bool.and_eq_true, decide_eq_true_eq] at c_5
    refine lv_iload_n hx hb dX9_speed_11 rfl (lv_at hl 2 rfl) ?_
    refine z_bipush hx hb dX9_speed_12 (by decide +kernel) ?_
    refine z_bipush hx hb dX9_speed_14 (by decide +kernel) ?_
    refine roS (n := 3) (As := [.int (zI x2), .int (zI (-8)), .int (zI 8)]) (rest := []) hSf (c_isWithin l D k x2 (-8) 8 (by omega) (by omega) (by omega)) gX9_speed_X9_isWithin rfl (by decide +kernel) ⟨Nat.le_of_ble_eq_true rfl, Nat.le_of_ble_eq_true rfl⟩ hK hP [] rfl rfl hl.1 rfl (Nat.le_of_ble_eq_true rfl) dX9_speed_16 ⟨Nat.zero_le _, Nat.zero_le _⟩ (fun r_16 h_16 => ?_)
    subst h_16
    refine z_if_eqb (tgt := 33) hx hb dX9_speed_19 (by decide) (fun c_19 => ?_) (fun c_19 => ?_)
    · simp only [Bool.and_eq_false_iff, decide_eq_false_iff_not] at c_19
      refine lv_ldc hx hb hown (hts (.constant RX9 99 (-1000000002)) (by decide +kernel)) dX9_speed_33 ?_
      refine te (show (-1000000002 : Int32) = zI (-1000000002) from by decide +kernel) ?_
      exact W.iret hx hb hr (fun t ht hW => ⟨⟨_, (f, h), rfl, ⟨zc (by rw [if_pos (by omega), if_neg (by omega)]), by rw [if_neg (by omega)]⟩, by show va_P D vwCl _ _; rw [ht]; exact hP⟩, hS.F ht⟩) hS.2.2 dX9_speed_35
    · simp only [Bool.and_eq_true, decide_eq_true_eq] at c_19
      refine lv_iload_n hx hb dX9_speed_22 rfl (lv_at hl 3 rfl) ?_
      refine z_bipush hx hb dX9_speed_23 (by decide +kernel) ?_
      refine z_bipush hx hb dX9_speed_25 (by decide +kernel) ?_
      refine roS (n := 3) (As := [.int (zI x3), .int (zI (-8)), .int (zI 8)]) (rest := []) hSf (c_isWithin l D k x3 (-8) 8 (by omega) (by omega) (by omega)) gX9_speed_X9_isWithin rfl (by decide +kernel) ⟨Nat.le_of_ble_eq_true rfl, Nat.le_of_ble_eq_true rfl⟩ hK hP [] rfl rfl hl.1 rfl (Nat.le_of_ble_eq_true rfl) dX9_speed_27 ⟨Nat.zero_le _, Nat.zero_le _⟩ (fun r_27 h_27 => ?_)
      subst h_27
      refine z_if_neb (tgt := 36) hx hb dX9_speed_30 (by decide) (fun c_30 => ?_) (fun c_30 => ?_)
      · simp only [Bool.and_eq_true, decide_eq_true_eq] at c_30
        refine lv_aload_n hx hb dX9_speed_36 rfl (lv_at hl 0 rfl) ?_
        refine va_get (D := D) (ci := 9) (v := .ref hh) (C := RX9) (T := TX9) (N := 10) hx hb hts hinX9 hown hK.1 hP 0 rfl rfl 4 (by decide) fl40 (fun _ h9 => h9) rfl dX9_speed_37 ?_
        refine lv_aload_n hx hb dX9_speed_40 rfl (lv_at hl 0 rfl) ?_
        refine va_get (D := D) (ci := 9) (v := .ref h0) (C := RX9) (T := TX9) (N := 10) hx hb hts hinX9 hown hK.1 hP 0 rfl rfl 0 (by decide) fl10 (fun _ h9 => h9) rfl dX9_speed_41 ?_
        refine muVR (base := [(x9, .inr (9, [.ref h0, .ref h8, .ref h4, .ref h2, .ref hh, .ref h3, .ref h1, .ref im, .ref sd, .ref kp])), (h0, .inr (7, [.ref c0])), (c0, .inl (k.1, 132, .inl (zF f))), (hh, .inr (3, [.ref eo, .int (zI ((h.1 : Nat) : Int)), .int (zI ((h.2.1 : Nat) : Int))])), (eo, .inl (k.2.2.2, 20, .inr (.inr (.inr (.inr (eoF r))))))]) (wcb := [(h0, .inr (7, [.ref c0])), (c0, .inl (k.1, 132, .inl (zF f))), (hh, .inr (3, [.ref eo, .int (zI ((h.1 : Nat) : Int)), .int (zI ((h.2.1 : Nat) : Int))])), (eo, .inl (k.2.2.2, 20, .inr (.inr (.inr (.inr (eoF r))))))]) (rows := rowsW k r h.2.2) (w' := fun (u : Unit) => [(h0, .inr (7, [.ref c0])), (c0, .inl (k.1, 132, .inl (zF f))), (hh, .inr (3, [.ref eo, .int (zI (((h.1 + 1) % 20 : Nat) : Int)), .int (zI ((min (h.2.1 + 1) 20 : Nat) : Int))])), (eo, .inl (k.2.2.2, 20, .inr (.inr (.inr (.inr (eoF r))))))]) (rw' := fun (u : Unit) => rowsW k r (upE h.2.2 h.1 (cpZ f (h.2.2 h.1) 0 0 132))) (n := 1) (As := [.ref h0]) (rest := []) hSf (c_remember l D k h0 c0 f hh eo r h.1 h.2.1 h.2.2 hh1 hh2) gX9_speed_X3_remember rfl (by decide +kernel) ⟨Nat.le_of_ble_eq_true rfl, Nat.le_of_ble_eq_true rfl⟩ hK hP hD hS [1, 2, 3, 4] rfl (by decide) (fun _ => rfl) (fun _ => rfl) (fun _ => rowsW_fst _ _ _ _) 2 rfl rfl rfl hl.1 rfl (Nat.le_of_ble_eq_true rfl) dX9_speed_44 ⟨Nat.zero_le _, Nat.zero_le _⟩ (fun u_44 H locs h_44 hP hD hS => ?_)
        have hP : va_P D vwCl ([(x9, .inr (9, [.ref h0, .ref h8, .ref h4, .ref h2, .ref hh, .ref h3, .ref h1, .ref im, .ref sd, .ref kp])), (h0, .inr (7, [.ref c0])), (c0, .inl (k.1, 132, .inl (zF f))), (hh, .inr (3, [.ref eo, .int (zI (((h.1 + 1) % 20 : Nat) : Int)), .int (zI ((min (h.2.1 + 1) 20 : Nat) : Int))])), (eo, .inl (k.2.2.2, 20, .inr (.inr (.inr (.inr (eoF r))))))] ++ rowsW k r (upE h.2.2 h.1 (cpZ f (h.2.2 h.1) 0 0 132))) H := hP
        have hD : va_D A ([(x9, .inr (9, [.ref h0, .ref h8, .ref h4, .ref h2, .ref hh, .ref h3, .ref h1, .ref im, .ref sd, .ref kp])), (h0, .inr (7, [.ref c0])), (c0, .inl (k.1, 132, .inl (zF f))), (hh, .inr (3, [.ref eo, .int (zI (((h.1 + 1) % 20 : Nat) : Int)), .int (zI ((min (h.2.1 + 1) 20 : Nat) : Int))])), (eo, .inl (k.2.2.2, 20, .inr (.inr (.inr (.inr (eoF r))))))] ++ rowsW k r (upE h.2.2 h.1 (cpZ f (h.2.2 h.1) 0 0 132))) := hD
        refine lv_aload_n hx hb dX9_speed_47 rfl (lv_at hl 0 rfl) ?_
        refine va_get (D := D) (ci := 9) (v := .ref h0) (C := RX9) (T := TX9) (N := 10) hx hb hts hinX9 hown hK.1 hP 0 rfl rfl 0 (by decide) fl10 (fun _ h9 => h9) rfl dX9_speed_48 ?_
        refine lv_iload_n hx hb dX9_speed_51 rfl (lv_at hl 1 rfl) ?_
        refine z_bipush hx hb dX9_speed_52 (by decide +kernel) ?_
        refine lv_iload_n hx hb dX9_speed_54 rfl (lv_at hl 2 rfl) ?_
        refine muV (n := 3) (As := [.int (zI ((x1.toNat : Nat) : Int)), .int (zI ((6 : Nat) : Int)), .int (zI x2)]) (rest := []) hSf (c_setField l D k h0 c0 f x1.toNat 6 x2 (by omega) (by omega)) gX9_speed_X7_setField rfl (by decide +kernel) ⟨Nat.le_of_ble_eq_true rfl, Nat.le_of_ble_eq_true rfl⟩ hK hP hD hS [1, 2] rfl rfl (by decide) (fun _ => rfl) (fun _ => rfl) 0 rfl rfl rfl hl.1 (by rw [show zI x1 = zI ((x1.toNat : Nat) : Int) from zc (by omega)]; rw [show zI 6 = zI ((6 : Nat) : Int) from zc (by omega)]; rfl) (Nat.le_of_ble_eq_true rfl) dX9_speed_55 ⟨Nat.zero_le _, Nat.zero_le _⟩ (fun u_55 H locs h_55 hP hD hS => ?_)
        have hP : va_P D vwCl ([(x9, .inr (9, [.ref h0, .ref h8, .ref h4, .ref h2, .ref hh, .ref h3, .ref h1, .ref im, .ref sd, .ref kp])), (h0, .inr (7, [.ref c0])), (c0, .inl (k.1, 132, .inl (zF (upZ f (36 + 8 * x1.toNat + 6) x2)))), (hh, .inr (3, [.ref eo, .int (zI (((h.1 + 1) % 20 : Nat) : Int)), .int (zI ((min (h.2.1 + 1) 20 : Nat) : Int))])), (eo, .inl (k.2.2.2, 20, .inr (.inr (.inr (.inr (eoF r))))))] ++ rowsW k r (upE h.2.2 h.1 (cpZ f (h.2.2 h.1) 0 0 132))) H := hP
        have hD : va_D A ([(x9, .inr (9, [.ref h0, .ref h8, .ref h4, .ref h2, .ref hh, .ref h3, .ref h1, .ref im, .ref sd, .ref kp])), (h0, .inr (7, [.ref c0])), (c0, .inl (k.1, 132, .inl (zF (upZ f (36 + 8 * x1.toNat + 6) x2)))), (hh, .inr (3, [.ref eo, .int (zI (((h.1 + 1) % 20 : Nat) : Int)), .int (zI ((min (h.2.1 + 1) 20 : Nat) : Int))])), (eo, .inl (k.2.2.2, 20, .inr (.inr (.inr (.inr (eoF r))))))] ++ rowsW k r (upE h.2.2 h.1 (cpZ f (h.2.2 h.1) 0 0 132))) := hD
        refine lv_aload_n hx hb dX9_speed_58 rfl (lv_at hl 0 rfl) ?_
        refine va_get (D := D) (ci := 9) (v := .ref h0) (C := RX9) (T := TX9) (N := 10) hx hb hts hinX9 hown hK.1 hP 0 rfl rfl 0 (by decide) fl10 (fun _ h9 => h9) rfl dX9_speed_59 ?_
        refine lv_iload_n hx hb dX9_speed_62 rfl (lv_at hl 1 rfl) ?_
        refine z_bipush hx hb dX9_speed_63 (by decide +kernel) ?_
        refine lv_iload_n hx hb dX9_speed_65 rfl (lv_at hl 3 rfl) ?_
        refine muV (n := 3) (As := [.int (zI ((x1.toNat : Nat) : Int)), .int (zI ((7 : Nat) : Int)), .int (zI x3)]) (rest := []) hSf (c_setField l D k h0 c0 (upZ f (36 + 8 * x1.toNat + 6) x2) x1.toNat 7 x3 (by omega) (by omega)) gX9_speed_X7_setField rfl (by decide +kernel) ⟨Nat.le_of_ble_eq_true rfl, Nat.le_of_ble_eq_true rfl⟩ hK hP hD hS [1, 2] rfl rfl (by decide) (fun _ => rfl) (fun _ => rfl) 0 rfl rfl rfl hl.1 (by rw [show zI x1 = zI ((x1.toNat : Nat) : Int) from zc (by omega)]; rw [show zI 7 = zI ((7 : Nat) : Int) from zc (by omega)]; rfl) (Nat.le_of_ble_eq_true rfl) dX9_speed_66 ⟨Nat.zero_le _, Nat.zero_le _⟩ (fun u_66 H locs h_66 hP hD hS => ?_)
        have hP : va_P D vwCl ([(x9, .inr (9, [.ref h0, .ref h8, .ref h4, .ref h2, .ref hh, .ref h3, .ref h1, .ref im, .ref sd, .ref kp])), (h0, .inr (7, [.ref c0])), (c0, .inl (k.1, 132, .inl (zF (upZ (upZ f (36 + 8 * x1.toNat + 6) x2) (36 + 8 * x1.toNat + 7) x3)))), (hh, .inr (3, [.ref eo, .int (zI (((h.1 + 1) % 20 : Nat) : Int)), .int (zI ((min (h.2.1 + 1) 20 : Nat) : Int))])), (eo, .inl (k.2.2.2, 20, .inr (.inr (.inr (.inr (eoF r))))))] ++ rowsW k r (upE h.2.2 h.1 (cpZ f (h.2.2 h.1) 0 0 132))) H := hP
        have hD : va_D A ([(x9, .inr (9, [.ref h0, .ref h8, .ref h4, .ref h2, .ref hh, .ref h3, .ref h1, .ref im, .ref sd, .ref kp])), (h0, .inr (7, [.ref c0])), (c0, .inl (k.1, 132, .inl (zF (upZ (upZ f (36 + 8 * x1.toNat + 6) x2) (36 + 8 * x1.toNat + 7) x3)))), (hh, .inr (3, [.ref eo, .int (zI (((h.1 + 1) % 20 : Nat) : Int)), .int (zI ((min (h.2.1 + 1) 20 : Nat) : Int))])), (eo, .inl (k.2.2.2, 20, .inr (.inr (.inr (.inr (eoF r))))))] ++ rowsW k r (upE h.2.2 h.1 (cpZ f (h.2.2 h.1) 0 0 132))) := hD
        refine z_iconst hx hb dX9_speed_69 ?_
        exact W.iret hx hb hr (fun t ht hW => ⟨⟨_, (spZ f x1.toNat x2 x3, rmH f h), rfl, ⟨zc (by rw [if_pos (by omega), if_pos (by omega)]), by rw [if_pos (by omega)]⟩, by show va_P D vwCl _ _; rw [ht]; exact hP⟩, hS.F ht⟩) hS.2.2 dX9_speed_70
      · simp only [Bool.and_eq_false_iff, decide_eq_false_iff_not] at c_30
        refine lv_ldc hx hb hown (hts (.constant RX9 99 (-1000000002)) (by decide +kernel)) dX9_speed_33 ?_
        refine te (show (-1000000002 : Int32) = zI (-1000000002) from by decide +kernel) ?_
        exact W.iret hx hb hr (fun t ht hW => ⟨⟨_, (f, h), rfl, ⟨zc (by rw [if_pos (by omega), if_neg (by omega)]), by rw [if_neg (by omega)]⟩, by show va_P D vwCl _ _; rw [ht]; exact hP⟩, hS.F ht⟩) hS.2.2 dX9_speed_35
  · simp only [Bool.and_eq_false_iff, decide_eq_false_iff_not] at c_5
    refine lv_ldc hx hb hown (hts (.constant RX9 104 (-1000000001)) (by decide +kernel)) dX9_speed_8 ?_
    refine te (show (-1000000001 : Int32) = zI (-1000000001) from by decide +kernel) ?_
    exact W.iret hx hb hr (fun t ht hW => ⟨⟨_, (f, h), rfl, ⟨zc (by rw [if_neg (by omega)]), by rw [if_neg (by omega)]⟩, by show va_P D vwCl _ _; rw [ht]; exact hP⟩, hS.F ht⟩) hS.2.2 dX9_speed_10
set_option maxHeartbeats 4000000 in
set_option maxRecDepth 100000 in
theorem c_take (l : Launch) (D : va_G) (k : Kt) (x9 : Nat) (h0 : Nat) (c0 : Nat) (h8 : Nat) (h4 : Nat) (h2 : Nat) (hh : Nat) (h3 : Nat) (h1 : Nat) (im : Nat) (sd : Nat) (kp : Nat) (f : St) (B : Int) (hV : Va B f) (eo : Nat) (r : Nat → Nat) (h : HT) (hh1 : h.1 < 20) (hh2 : h.2.1 ≤ 20) (x1 : Int) (hx1 : -2147483648 ≤ x1 ∧ x1 < 2147483648) : MI l D k yX9_take wsX9_take 3 82 [.ref x9, .int (zI x1)] ([(x9, .inr (9, [.ref h0, .ref h8, .ref h4, .ref h2, .ref hh, .ref h3, .ref h1, .ref im, .ref sd, .ref kp])), (h0, .inr (7, [.ref c0])), (c0, .inl (k.1, 132, .inl (zF f))), (hh, .inr (3, [.ref eo, .int (zI ((h.1 : Nat) : Int)), .int (zI ((h.2.1 : Nat) : Int))])), (eo, .inl (k.2.2.2, 20, .inr (.inr (.inr (.inr (eoF r))))))] ++ rowsW k r h.2.2) (fun (r : Int32) (u : St × HT) => r = zI (if 0 ≤ x1 ∧ x1 ≤ f 0 - 1 then f 0 - 1 else -1000000001) ∧ u = if 0 ≤ x1 ∧ x1 ≤ f 0 - 1 then (takeC f x1.toNat, rmH f h) else (f, h)) (fun u => ([(x9, .inr (9, [.ref h0, .ref h8, .ref h4, .ref h2, .ref hh, .ref h3, .ref h1, .ref im, .ref sd, .ref kp])), (h0, .inr (7, [.ref c0])), (c0, .inl (k.1, 132, .inl (zF u.1))), (hh, .inr (3, [.ref eo, .int (zI ((u.2.1 : Nat) : Int)), .int (zI ((u.2.2.1 : Nat) : Int))])), (eo, .inl (k.2.2.2, 20, .inr (.inr (.inr (.inr (eoF r))))))] ++ rowsW k r u.2.2.2)) := by
  refine Met.ofW (cc := cX9_take) (maxL := 2) (ret := (some .int)) (by decide) rfl ?_
  intro p e s m args below meth c s₁ Bd hml hv
  obtain ⟨rfl, hP, hK, hD0⟩ := hv
  have hx := Bd.exec
  have hb := Bd.bytes
  have hr := Bd.returns
  have hts := atoms_spec (ws := wsX9_take) Bd.pre
  have hown : s.vm.findClass RX9 = some m.cls := findClass_of_methodNamed Bd.named
  have hlocks := Bd.notSynchronized
  have hSf : CallFix p m c cX9_take 2 s ([.ref x9, .int (zI x1)] : List Value).toArray wsX9_take RX9 := ⟨hx, hb, hml, hown, hts⟩
  have hD := fA_D hD0
  have hS : va_S (fA ([(x9, .inr (9, [.ref h0, .ref h8, .ref h4, .ref h2, .ref hh, .ref h3, .ref h1, .ref im, .ref sd, .ref kp])), (h0, .inr (7, [.ref c0])), (c0, .inl (k.1, 132, .inl (zF f))), (hh, .inr (3, [.ref eo, .int (zI ((h.1 : Nat) : Int)), .int (zI ((h.2.1 : Nat) : Int))])), (eo, .inl (k.2.2.2, 20, .inr (.inr (.inr (.inr (eoF r))))))] ++ rowsW k r h.2.2)) s.heap s.heap [] := va_S.rf
  generalize hAe : fA ([(x9, .inr (9, [.ref h0, .ref h8, .ref h4, .ref h2, .ref hh, .ref h3, .ref h1, .ref im, .ref sd, .ref kp])), (h0, .inr (7, [.ref c0])), (c0, .inl (k.1, 132, .inl (zF f))), (hh, .inr (3, [.ref eo, .int (zI ((h.1 : Nat) : Int)), .int (zI ((h.2.1 : Nat) : Int))])), (eo, .inl (k.2.2.2, 20, .inr (.inr (.inr (.inr (eoF r))))))] ++ rowsW k r h.2.2) = A at hD hS ⊢
  have hP : va_P D vwCl ([(x9, .inr (9, [.ref h0, .ref h8, .ref h4, .ref h2, .ref hh, .ref h3, .ref h1, .ref im, .ref sd, .ref kp])), (h0, .inr (7, [.ref c0])), (c0, .inl (k.1, 132, .inl (zF f))), (hh, .inr (3, [.ref eo, .int (zI ((h.1 : Nat) : Int)), .int (zI ((h.2.1 : Nat) : Int))])), (eo, .inl (k.2.2.2, 20, .inr (.inr (.inr (.inr (eoF r))))))] ++ rowsW k r h.2.2) s.heap := hP
  have hinX9 : ∀ w ∈ u_ws RX9 TX9 10, w ∈ wsX9_take := by decide +kernel
  have fl40 := hts (.fieldLink RX9 40 "DotObjects" "history" "LDotObjects$History;") (by decide +kernel)
  have fl10 := hts (.fieldLink RX9 10 "DotObjects" "scene" "LDotObjects$Scene;") (by decide +kernel)
  have hl := lv_entry ([.ref x9, .int (zI x1)]) (n := 2) (Nat.le_of_ble_eq_true rfl)
  rw [lg_entry_eq]
  generalize (lg_sl ([.ref x9, .int (zI x1)]) ++ List.replicate (2 - (lg_sl ([.ref x9, .int (zI x1)])).length) Slot.unset).toArray = ls at hl ⊢
  have hl : lv_has ls 2 [(0, .ref x9), (1, .int (zI x1))] := hl
  have hn := hV.n
  refine lv_aload_n hx hb dX9_take_0 rfl (lv_at hl 0 rfl) ?_
  refine lv_iload_n hx hb dX9_take_1 rfl (lv_at hl 1 rfl) ?_
  refine roV (n := 1) (As := [.int (zI x1)]) (rest := []) hSf (c_isThing l D k x9 h0 c0 h8 h4 h2 hh h3 h1 im sd kp f B hV x1 (by omega)) gX9_take_X9_isThing rfl (by decide +kernel) ⟨Nat.le_of_ble_eq_true rfl, Nat.le_of_ble_eq_true rfl⟩ hK hP [0, 1, 2] rfl 0 rfl rfl rfl hl.1 rfl (Nat.le_of_ble_eq_true rfl) dX9_take_2 ⟨Nat.zero_le _, Nat.zero_le _⟩ (fun r_2 h_2 => ?_)
  subst h_2
  refine z_if_neb (tgt := 11) hx hb dX9_take_5 (by decide) (fun c_5 => ?_) (fun c_5 => ?_)
  · simp only [Bool.and_eq_true, decide_eq_true_eq] at c_5
    refine lv_aload_n hx hb dX9_take_11 rfl (lv_at hl 0 rfl) ?_
    refine va_get (D := D) (ci := 9) (v := .ref hh) (C := RX9) (T := TX9) (N := 10) hx hb hts hinX9 hown hK.1 hP 0 rfl rfl 4 (by decide) fl40 (fun _ h9 => h9) rfl dX9_take_12 ?_
    refine lv_aload_n hx hb dX9_take_15 rfl (lv_at hl 0 rfl) ?_
    refine va_get (D := D) (ci := 9) (v := .ref h0) (C := RX9) (T := TX9) (N := 10) hx hb hts hinX9 hown hK.1 hP 0 rfl rfl 0 (by decide) fl10 (fun _ h9 => h9) rfl dX9_take_16 ?_
    refine muVR (base := [(x9, .inr (9, [.ref h0, .ref h8, .ref h4, .ref h2, .ref hh, .ref h3, .ref h1, .ref im, .ref sd, .ref kp])), (h0, .inr (7, [.ref c0])), (c0, .inl (k.1, 132, .inl (zF f))), (hh, .inr (3, [.ref eo, .int (zI ((h.1 : Nat) : Int)), .int (zI ((h.2.1 : Nat) : Int))])), (eo, .inl (k.2.2.2, 20, .inr (.inr (.inr (.inr (eoF r))))))]) (wcb := [(h0, .inr (7, [.ref c0])), (c0, .inl (k.1, 132, .inl (zF f))), (hh, .inr (3, [.ref eo, .int (zI ((h.1 : Nat) : Int)), .int (zI ((h.2.1 : Nat) : Int))])), (eo, .inl (k.2.2.2, 20, .inr (.inr (.inr (.inr (eoF r))))))]) (rows := rowsW k r h.2.2) (w' := fun (u : Unit) => [(h0, .inr (7, [.ref c0])), (c0, .inl (k.1, 132, .inl (zF f))), (hh, .inr (3, [.ref eo, .int (zI (((h.1 + 1) % 20 : Nat) : Int)), .int (zI ((min (h.2.1 + 1) 20 : Nat) : Int))])), (eo, .inl (k.2.2.2, 20, .inr (.inr (.inr (.inr (eoF r))))))]) (rw' := fun (u : Unit) => rowsW k r (upE h.2.2 h.1 (cpZ f (h.2.2 h.1) 0 0 132))) (n := 1) (As := [.ref h0]) (rest := []) hSf (c_remember l D k h0 c0 f hh eo r h.1 h.2.1 h.2.2 hh1 hh2) gX9_take_X3_remember rfl (by decide +kernel) ⟨Nat.le_of_ble_eq_true rfl, Nat.le_of_ble_eq_true rfl⟩ hK hP hD hS [1, 2, 3, 4] rfl (by decide) (fun _ => rfl) (fun _ => rfl) (fun _ => rowsW_fst _ _ _ _) 2 rfl rfl rfl hl.1 rfl (Nat.le_of_ble_eq_true rfl) dX9_take_19 ⟨Nat.zero_le _, Nat.zero_le _⟩ (fun u_19 H locs h_19 hP hD hS => ?_)
    have hP : va_P D vwCl ([(x9, .inr (9, [.ref h0, .ref h8, .ref h4, .ref h2, .ref hh, .ref h3, .ref h1, .ref im, .ref sd, .ref kp])), (h0, .inr (7, [.ref c0])), (c0, .inl (k.1, 132, .inl (zF f))), (hh, .inr (3, [.ref eo, .int (zI (((h.1 + 1) % 20 : Nat) : Int)), .int (zI ((min (h.2.1 + 1) 20 : Nat) : Int))])), (eo, .inl (k.2.2.2, 20, .inr (.inr (.inr (.inr (eoF r))))))] ++ rowsW k r (upE h.2.2 h.1 (cpZ f (h.2.2 h.1) 0 0 132))) H := hP
    have hD : va_D A ([(x9, .inr (9, [.ref h0, .ref h8, .ref h4, .ref h2, .ref hh, .ref h3, .ref h1, .ref im, .ref sd, .ref kp])), (h0, .inr (7, [.ref c0])), (c0, .inl (k.1, 132, .inl (zF f))), (hh, .inr (3, [.ref eo, .int (zI (((h.1 + 1) % 20 : Nat) : Int)), .int (zI ((min (h.2.1 + 1) 20 : Nat) : Int))])), (eo, .inl (k.2.2.2, 20, .inr (.inr (.inr (.inr (eoF r))))))] ++ rowsW k r (upE h.2.2 h.1 (cpZ f (h.2.2 h.1) 0 0 132))) := hD
    refine lv_aload_n hx hb dX9_take_22 rfl (lv_at hl 0 rfl) ?_
    refine va_get (D := D) (ci := 9) (v := .ref h0) (C := RX9) (T := TX9) (N := 10) hx hb hts hinX9 hown hK.1 hP 0 rfl rfl 0 (by decide) fl10 (fun _ h9 => h9) rfl dX9_take_23 ?_
    refine lv_iload_n hx hb dX9_take_26 rfl (lv_at hl 1 rfl) ?_
    refine muV (n := 1) (As := [.int (zI ((x1.toNat : Nat) : Int))]) (rest := []) hSf (c_removeThing l D k h0 c0 f B hV x1.toNat (by omega)) gX9_take_X7_removeThing rfl (by decide +kernel) ⟨Nat.le_of_ble_eq_true rfl, Nat.le_of_ble_eq_true rfl⟩ hK hP hD hS [1, 2] rfl rfl (by decide) (fun _ => rfl) (fun _ => rfl) 0 rfl rfl rfl hl.1 (by rw [show zI x1 = zI ((x1.toNat : Nat) : Int) from zc (by omega)]; rfl) (Nat.le_of_ble_eq_true rfl) dX9_take_27 ⟨Nat.zero_le _, Nat.zero_le _⟩ (fun u_27 H locs h_27 hP hD hS => ?_)
    have hP : va_P D vwCl ([(x9, .inr (9, [.ref h0, .ref h8, .ref h4, .ref h2, .ref hh, .ref h3, .ref h1, .ref im, .ref sd, .ref kp])), (h0, .inr (7, [.ref c0])), (c0, .inl (k.1, 132, .inl (zF (takeC f x1.toNat)))), (hh, .inr (3, [.ref eo, .int (zI (((h.1 + 1) % 20 : Nat) : Int)), .int (zI ((min (h.2.1 + 1) 20 : Nat) : Int))])), (eo, .inl (k.2.2.2, 20, .inr (.inr (.inr (.inr (eoF r))))))] ++ rowsW k r (upE h.2.2 h.1 (cpZ f (h.2.2 h.1) 0 0 132))) H := hP
    have hD : va_D A ([(x9, .inr (9, [.ref h0, .ref h8, .ref h4, .ref h2, .ref hh, .ref h3, .ref h1, .ref im, .ref sd, .ref kp])), (h0, .inr (7, [.ref c0])), (c0, .inl (k.1, 132, .inl (zF (takeC f x1.toNat)))), (hh, .inr (3, [.ref eo, .int (zI (((h.1 + 1) % 20 : Nat) : Int)), .int (zI ((min (h.2.1 + 1) 20 : Nat) : Int))])), (eo, .inl (k.2.2.2, 20, .inr (.inr (.inr (.inr (eoF r))))))] ++ rowsW k r (upE h.2.2 h.1 (cpZ f (h.2.2 h.1) 0 0 132))) := hD
    refine lv_aload_n hx hb dX9_take_30 rfl (lv_at hl 0 rfl) ?_
    refine va_get (D := D) (ci := 9) (v := .ref h0) (C := RX9) (T := TX9) (N := 10) hx hb hts hinX9 hown hK.1 hP 0 rfl rfl 0 (by decide) fl10 (fun _ h9 => h9) rfl dX9_take_31 ?_
    refine z_iconst hx hb dX9_take_34 ?_
    refine roV (n := 1) (As := [.int (zI ((0 : Nat) : Int))]) (rest := []) hSf (c_cell l D k h0 c0 (takeC f x1.toNat) 0 (by omega)) gX9_take_X7_cell rfl (by decide +kernel) ⟨Nat.le_of_ble_eq_true rfl, Nat.le_of_ble_eq_true rfl⟩ hK hP [1, 2] rfl 0 rfl rfl rfl hl.1 (by rw [show zI 0 = zI ((0 : Nat) : Int) from zc (by omega)]; rfl) (Nat.le_of_ble_eq_true rfl) dX9_take_35 ⟨Nat.zero_le _, Nat.zero_le _⟩ (fun r_35 h_35 => ?_)
    subst h_35
    refine te (zc (show (takeC f x1.toNat) 0 = f 0 - 1 from upZ_s)) ?_
    exact W.iret hx hb hr (fun t ht hW => ⟨⟨_, (takeC f x1.toNat, rmH f h), rfl, ⟨zc (by rw [if_pos (by omega)]), by rw [if_pos (by omega)]⟩, by show va_P D vwCl _ _; rw [ht]; exact hP⟩, hS.F ht⟩) hS.2.2 dX9_take_38
  · simp only [Bool.and_eq_false_iff, decide_eq_false_iff_not] at c_5
    refine lv_ldc hx hb hown (hts (.constant RX9 104 (-1000000001)) (by decide +kernel)) dX9_take_8 ?_
    refine te (show (-1000000001 : Int32) = zI (-1000000001) from by decide +kernel) ?_
    exact W.iret hx hb hr (fun t ht hW => ⟨⟨_, (f, h), rfl, ⟨zc (by rw [if_neg (by omega)]), by rw [if_neg (by omega)]⟩, by show va_P D vwCl _ _; rw [ht]; exact hP⟩, hS.F ht⟩) hS.2.2 dX9_take_10
