set_option maxHeartbeats 4000000 in
set_option maxRecDepth 100000 in
theorem c_limit (l : Launch) (D : va_G) (k : Kt) (x9 : Nat) (h0 : Nat) (c0 : Nat) (h8 : Nat) (h4 : Nat) (h2 : Nat) (hh : Nat) (h3 : Nat) (h1 : Nat) (im : Nat) (sd : Nat) (kp : Nat) (f : St) (B : Int) (hV : Va B f) (h5 : Nat) (a5 : Nat) (h6 : Nat) (s6 : Nat) (p6 : Nat) (h9 : Nat) (s9 : Nat) (p9 : Nat) (z : (Nat → Int) × ((Nat → Nat) × (Nat → Nat) × Nat) × ((Nat → Nat) × (Nat → Nat) × Nat)) (hB : B < 1000000) (eo : Nat) (r : Nat → Nat) (h : HT) (hh1 : h.1 < 20) (hh2 : h.2.1 ≤ 20) (x1 : Int) (hx1 : -2147483648 ≤ x1 ∧ x1 < 2147483648) : MI l D k yX9_limit wsX9_limit 5 119 [.ref x9, .int (zI x1)] ([(x9, .inr (9, [.ref h0, .ref h8, .ref h4, .ref h2, .ref hh, .ref h3, .ref h1, .ref im, .ref sd, .ref kp])), (h0, .inr (7, [.ref c0])), (c0, .inl (k.1, 132, .inl (zF f))), (h8, .inr (8, [.ref h5, .ref h6, .ref h9])), (h5, .inr (5, [.ref a5])), (a5, .inl (k.1, 12, .inl (zF z.1))), (h6, .inr (6, [.ref s6, .ref p6, .int (zI ((z.2.1.2.2 : Nat) : Int))])), (s6, .inl (k.1, 12, .inl (zF (nF z.2.1.1)))), (p6, .inl (k.1, 3, .inl (zF (nF z.2.1.2.1)))), (h9, .inr (6, [.ref s9, .ref p9, .int (zI ((z.2.2.2.2 : Nat) : Int))])), (s9, .inl (k.1, 12, .inl (zF (nF z.2.2.1)))), (p9, .inl (k.1, 3, .inl (zF (nF z.2.2.2.1)))), (hh, .inr (3, [.ref eo, .int (zI ((h.1 : Nat) : Int)), .int (zI ((h.2.1 : Nat) : Int))])), (eo, .inl (k.2.2.2, 20, .inr (.inr (.inr (.inr (eoF r))))))] ++ rowsW k r h.2.2) (fun (r : Int32) (u : ((Nat → Int) × ((Nat → Nat) × (Nat → Nat) × Nat) × ((Nat → Nat) × (Nat → Nat) × Nat)) × St × HT) => r = zI (if 1 ≤ x1 ∧ x1 ≤ 8 then ((misF (upZ f 1 x1) ((upZ f 1 x1) 2) : Nat) : Int) else -1000000002) ∧ u.2 = if 1 ≤ x1 ∧ x1 ≤ 8 then (upZ f 1 x1, rmH f h) else (f, h)) (fun u => ([(x9, .inr (9, [.ref h0, .ref h8, .ref h4, .ref h2, .ref hh, .ref h3, .ref h1, .ref im, .ref sd, .ref kp])), (h0, .inr (7, [.ref c0])), (c0, .inl (k.1, 132, .inl (zF u.2.1))), (h8, .inr (8, [.ref h5, .ref h6, .ref h9])), (h5, .inr (5, [.ref a5])), (a5, .inl (k.1, 12, .inl (zF u.1.1))), (h6, .inr (6, [.ref s6, .ref p6, .int (zI ((u.1.2.1.2.2 : Nat) : Int))])), (s6, .inl (k.1, 12, .inl (zF (nF u.1.2.1.1)))), (p6, .inl (k.1, 3, .inl (zF (nF u.1.2.1.2.1)))), (h9, .inr (6, [.ref s9, .ref p9, .int (zI ((u.1.2.2.2.2 : Nat) : Int))])), (s9, .inl (k.1, 12, .inl (zF (nF u.1.2.2.1)))), (p9, .inl (k.1, 3, .inl (zF (nF u.1.2.2.2.1)))), (hh, .inr (3, [.ref eo, .int (zI ((u.2.2.1 : Nat) : Int)), .int (zI ((u.2.2.2.1 : Nat) : Int))])), (eo, .inl (k.2.2.2, 20, .inr (.inr (.inr (.inr (eoF r))))))] ++ rowsW k r u.2.2.2.2)) := by
  refine Met.ofW (cc := cX9_limit) (maxL := 2) (ret := (some .int)) (by decide) rfl ?_
  intro p e s m args below meth c s₁ Bd hml hv
  obtain ⟨rfl, hP, hK, hD0⟩ := hv
  have hx := Bd.exec
  have hb := Bd.bytes
  have hr := Bd.returns
  have hts := atoms_spec (ws := wsX9_limit) Bd.pre
  have hown : s.vm.findClass RX9 = some m.cls := findClass_of_methodNamed Bd.named
  have hlocks := Bd.notSynchronized
  have hSf : CallFix p m c cX9_limit 2 s ([.ref x9, .int (zI x1)] : List Value).toArray wsX9_limit RX9 := ⟨hx, hb, hml, hown, hts⟩
  have hD := fA_D hD0
  have hS : va_S (fA ([(x9, .inr (9, [.ref h0, .ref h8, .ref h4, .ref h2, .ref hh, .ref h3, .ref h1, .ref im, .ref sd, .ref kp])), (h0, .inr (7, [.ref c0])), (c0, .inl (k.1, 132, .inl (zF f))), (h8, .inr (8, [.ref h5, .ref h6, .ref h9])), (h5, .inr (5, [.ref a5])), (a5, .inl (k.1, 12, .inl (zF z.1))), (h6, .inr (6, [.ref s6, .ref p6, .int (zI ((z.2.1.2.2 : Nat) : Int))])), (s6, .inl (k.1, 12, .inl (zF (nF z.2.1.1)))), (p6, .inl (k.1, 3, .inl (zF (nF z.2.1.2.1)))), (h9, .inr (6, [.ref s9, .ref p9, .int (zI ((z.2.2.2.2 : Nat) : Int))])), (s9, .inl (k.1, 12, .inl (zF (nF z.2.2.1)))), (p9, .inl (k.1, 3, .inl (zF (nF z.2.2.2.1)))), (hh, .inr (3, [.ref eo, .int (zI ((h.1 : Nat) : Int)), .int (zI ((h.2.1 : Nat) : Int))])), (eo, .inl (k.2.2.2, 20, .inr (.inr (.inr (.inr (eoF r))))))] ++ rowsW k r h.2.2)) s.heap s.heap [] := va_S.rf
  generalize hAe : fA ([(x9, .inr (9, [.ref h0, .ref h8, .ref h4, .ref h2, .ref hh, .ref h3, .ref h1, .ref im, .ref sd, .ref kp])), (h0, .inr (7, [.ref c0])), (c0, .inl (k.1, 132, .inl (zF f))), (h8, .inr (8, [.ref h5, .ref h6, .ref h9])), (h5, .inr (5, [.ref a5])), (a5, .inl (k.1, 12, .inl (zF z.1))), (h6, .inr (6, [.ref s6, .ref p6, .int (zI ((z.2.1.2.2 : Nat) : Int))])), (s6, .inl (k.1, 12, .inl (zF (nF z.2.1.1)))), (p6, .inl (k.1, 3, .inl (zF (nF z.2.1.2.1)))), (h9, .inr (6, [.ref s9, .ref p9, .int (zI ((z.2.2.2.2 : Nat) : Int))])), (s9, .inl (k.1, 12, .inl (zF (nF z.2.2.1)))), (p9, .inl (k.1, 3, .inl (zF (nF z.2.2.2.1)))), (hh, .inr (3, [.ref eo, .int (zI ((h.1 : Nat) : Int)), .int (zI ((h.2.1 : Nat) : Int))])), (eo, .inl (k.2.2.2, 20, .inr (.inr (.inr (.inr (eoF r))))))] ++ rowsW k r h.2.2) = A at hD hS ⊢
  have hP : va_P D vwCl ([(x9, .inr (9, [.ref h0, .ref h8, .ref h4, .ref h2, .ref hh, .ref h3, .ref h1, .ref im, .ref sd, .ref kp])), (h0, .inr (7, [.ref c0])), (c0, .inl (k.1, 132, .inl (zF f))), (h8, .inr (8, [.ref h5, .ref h6, .ref h9])), (h5, .inr (5, [.ref a5])), (a5, .inl (k.1, 12, .inl (zF z.1))), (h6, .inr (6, [.ref s6, .ref p6, .int (zI ((z.2.1.2.2 : Nat) : Int))])), (s6, .inl (k.1, 12, .inl (zF (nF z.2.1.1)))), (p6, .inl (k.1, 3, .inl (zF (nF z.2.1.2.1)))), (h9, .inr (6, [.ref s9, .ref p9, .int (zI ((z.2.2.2.2 : Nat) : Int))])), (s9, .inl (k.1, 12, .inl (zF (nF z.2.2.1)))), (p9, .inl (k.1, 3, .inl (zF (nF z.2.2.2.1)))), (hh, .inr (3, [.ref eo, .int (zI ((h.1 : Nat) : Int)), .int (zI ((h.2.1 : Nat) : Int))])), (eo, .inl (k.2.2.2, 20, .inr (.inr (.inr (.inr (eoF r))))))] ++ rowsW k r h.2.2) s.heap := hP
  have hinX9 : ∀ w ∈ u_ws RX9 TX9 10, w ∈ wsX9_limit := by decide +kernel
  have fl40 := hts (.fieldLink RX9 40 "DotObjects" "history" "LDotObjects$History;") (by decide +kernel)
  have fl10 := hts (.fieldLink RX9 10 "DotObjects" "scene" "LDotObjects$Scene;") (by decide +kernel)
  have hl := lv_entry ([.ref x9, .int (zI x1)]) (n := 2) (Nat.le_of_ble_eq_true rfl)
  rw [lg_entry_eq]
  generalize (lg_sl ([.ref x9, .int (zI x1)]) ++ List.replicate (2 - (lg_sl ([.ref x9, .int (zI x1)])).length) Slot.unset).toArray = ls at hl ⊢
  have hl : lv_has ls 2 [(0, .ref x9), (1, .int (zI x1))] := hl
  refine lv_iload_n hx hb dX9_limit_0 rfl (lv_at hl 1 rfl) ?_
  refine z_iconst hx hb dX9_limit_1 ?_
  refine z_bipush hx hb dX9_limit_2 (by decide +kernel) ?_
  refine roS (n := 3) (As := [.int (zI x1), .int (zI 1), .int (zI 8)]) (rest := []) hSf (c_isWithin l D k x1 1 8 (by omega) (by omega) (by omega)) gX9_limit_X9_isWithin rfl (by decide +kernel) ⟨Nat.le_of_ble_eq_true rfl, Nat.le_of_ble_eq_true rfl⟩ hK hP [] rfl rfl hl.1 rfl (Nat.le_of_ble_eq_true rfl) dX9_limit_4 ⟨Nat.zero_le _, Nat.zero_le _⟩ (fun r_4 h_4 => ?_)
  subst h_4
  refine z_if_neb (tgt := 13) hx hb dX9_limit_7 (by decide) (fun c_7 => ?_) (fun c_7 => ?_)
  · simp only [Bool.and_eq_true, decide_eq_true_eq] at c_7
    refine lv_aload_n hx hb dX9_limit_13 rfl (lv_at hl 0 rfl) ?_
    refine va_get (D := D) (ci := 9) (v := .ref hh) (C := RX9) (T := TX9) (N := 10) hx hb hts hinX9 hown hK.1 hP 0 rfl rfl 4 (by decide) fl40 (fun _ h9 => h9) rfl dX9_limit_14 ?_
    refine lv_aload_n hx hb dX9_limit_17 rfl (lv_at hl 0 rfl) ?_
    refine va_get (D := D) (ci := 9) (v := .ref h0) (C := RX9) (T := TX9) (N := 10) hx hb hts hinX9 hown hK.1 hP 0 rfl rfl 0 (by decide) fl10 (fun _ h9 => h9) rfl dX9_limit_18 ?_
    refine muVR (base := [(x9, .inr (9, [.ref h0, .ref h8, .ref h4, .ref h2, .ref hh, .ref h3, .ref h1, .ref im, .ref sd, .ref kp])), (h0, .inr (7, [.ref c0])), (c0, .inl (k.1, 132, .inl (zF f))), (h8, .inr (8, [.ref h5, .ref h6, .ref h9])), (h5, .inr (5, [.ref a5])), (a5, .inl (k.1, 12, .inl (zF z.1))), (h6, .inr (6, [.ref s6, .ref p6, .int (zI ((z.2.1.2.2 : Nat) : Int))])), (s6, .inl (k.1, 12, .inl (zF (nF z.2.1.1)))), (p6, .inl (k.1, 3, .inl (zF (nF z.2.1.2.1)))), (h9, .inr (6, [.ref s9, .ref p9, .int (zI ((z.2.2.2.2 : Nat) : Int))])), (s9, .inl (k.1, 12, .inl (zF (nF z.2.2.1)))), (p9, .inl (k.1, 3, .inl (zF (nF z.2.2.2.1)))), (hh, .inr (3, [.ref eo, .int (zI ((h.1 : Nat) : Int)), .int (zI ((h.2.1 : Nat) : Int))])), (eo, .inl (k.2.2.2, 20, .inr (.inr (.inr (.inr (eoF r))))))]) (wcb := [(h0, .inr (7, [.ref c0])), (c0, .inl (k.1, 132, .inl (zF f))), (hh, .inr (3, [.ref eo, .int (zI ((h.1 : Nat) : Int)), .int (zI ((h.2.1 : Nat) : Int))])), (eo, .inl (k.2.2.2, 20, .inr (.inr (.inr (.inr (eoF r))))))]) (rows := rowsW k r h.2.2) (w' := fun (u : Unit) => [(h0, .inr (7, [.ref c0])), (c0, .inl (k.1, 132, .inl (zF f))), (hh, .inr (3, [.ref eo, .int (zI (((h.1 + 1) % 20 : Nat) : Int)), .int (zI ((min (h.2.1 + 1) 20 : Nat) : Int))])), (eo, .inl (k.2.2.2, 20, .inr (.inr (.inr (.inr (eoF r))))))]) (rw' := fun (u : Unit) => rowsW k r (upE h.2.2 h.1 (cpZ f (h.2.2 h.1) 0 0 132))) (n := 1) (As := [.ref h0]) (rest := []) hSf (c_remember l D k h0 c0 f hh eo r h.1 h.2.1 h.2.2 hh1 hh2) gX9_limit_X3_remember rfl (by decide +kernel) ⟨Nat.le_of_ble_eq_true rfl, Nat.le_of_ble_eq_true rfl⟩ hK hP hD hS [1, 2, 12, 13] rfl (by decide) (fun _ => rfl) (fun _ => rfl) (fun _ => rowsW_fst _ _ _ _) 2 rfl rfl rfl hl.1 rfl (Nat.le_of_ble_eq_true rfl) dX9_limit_21 ⟨Nat.zero_le _, Nat.zero_le _⟩ (fun u_21 H locs h_21 hP hD hS => ?_)
    have hP : va_P D vwCl ([(x9, .inr (9, [.ref h0, .ref h8, .ref h4, .ref h2, .ref hh, .ref h3, .ref h1, .ref im, .ref sd, .ref kp])), (h0, .inr (7, [.ref c0])), (c0, .inl (k.1, 132, .inl (zF f))), (h8, .inr (8, [.ref h5, .ref h6, .ref h9])), (h5, .inr (5, [.ref a5])), (a5, .inl (k.1, 12, .inl (zF z.1))), (h6, .inr (6, [.ref s6, .ref p6, .int (zI ((z.2.1.2.2 : Nat) : Int))])), (s6, .inl (k.1, 12, .inl (zF (nF z.2.1.1)))), (p6, .inl (k.1, 3, .inl (zF (nF z.2.1.2.1)))), (h9, .inr (6, [.ref s9, .ref p9, .int (zI ((z.2.2.2.2 : Nat) : Int))])), (s9, .inl (k.1, 12, .inl (zF (nF z.2.2.1)))), (p9, .inl (k.1, 3, .inl (zF (nF z.2.2.2.1)))), (hh, .inr (3, [.ref eo, .int (zI (((h.1 + 1) % 20 : Nat) : Int)), .int (zI ((min (h.2.1 + 1) 20 : Nat) : Int))])), (eo, .inl (k.2.2.2, 20, .inr (.inr (.inr (.inr (eoF r))))))] ++ rowsW k r (upE h.2.2 h.1 (cpZ f (h.2.2 h.1) 0 0 132))) H := hP
    have hD : va_D A ([(x9, .inr (9, [.ref h0, .ref h8, .ref h4, .ref h2, .ref hh, .ref h3, .ref h1, .ref im, .ref sd, .ref kp])), (h0, .inr (7, [.ref c0])), (c0, .inl (k.1, 132, .inl (zF f))), (h8, .inr (8, [.ref h5, .ref h6, .ref h9])), (h5, .inr (5, [.ref a5])), (a5, .inl (k.1, 12, .inl (zF z.1))), (h6, .inr (6, [.ref s6, .ref p6, .int (zI ((z.2.1.2.2 : Nat) : Int))])), (s6, .inl (k.1, 12, .inl (zF (nF z.2.1.1)))), (p6, .inl (k.1, 3, .inl (zF (nF z.2.1.2.1)))), (h9, .inr (6, [.ref s9, .ref p9, .int (zI ((z.2.2.2.2 : Nat) : Int))])), (s9, .inl (k.1, 12, .inl (zF (nF z.2.2.1)))), (p9, .inl (k.1, 3, .inl (zF (nF z.2.2.2.1)))), (hh, .inr (3, [.ref eo, .int (zI (((h.1 + 1) % 20 : Nat) : Int)), .int (zI ((min (h.2.1 + 1) 20 : Nat) : Int))])), (eo, .inl (k.2.2.2, 20, .inr (.inr (.inr (.inr (eoF r))))))] ++ rowsW k r (upE h.2.2 h.1 (cpZ f (h.2.2 h.1) 0 0 132))) := hD
    refine lv_aload_n hx hb dX9_limit_24 rfl (lv_at hl 0 rfl) ?_
    refine va_get (D := D) (ci := 9) (v := .ref h0) (C := RX9) (T := TX9) (N := 10) hx hb hts hinX9 hown hK.1 hP 0 rfl rfl 0 (by decide) fl10 (fun _ h9 => h9) rfl dX9_limit_25 ?_
    refine z_iconst hx hb dX9_limit_28 ?_
    refine lv_iload_n hx hb dX9_limit_29 rfl (lv_at hl 1 rfl) ?_
    refine muV (n := 2) (As := [.int (zI ((1 : Nat) : Int)), .int (zI x1)]) (rest := []) hSf (c_setCell l D k h0 c0 f 1 x1 (by omega)) gX9_limit_X7_setCell rfl (by decide +kernel) ⟨Nat.le_of_ble_eq_true rfl, Nat.le_of_ble_eq_true rfl⟩ hK hP hD hS [1, 2] rfl rfl (by decide) (fun _ => rfl) (fun _ => rfl) 0 rfl rfl rfl hl.1 (by rw [show zI 1 = zI ((1 : Nat) : Int) from zc (by omega)]; rfl) (Nat.le_of_ble_eq_true rfl) dX9_limit_30 ⟨Nat.zero_le _, Nat.zero_le _⟩ (fun u_30 H locs h_30 hP hD hS => ?_)
    have hP : va_P D vwCl ([(x9, .inr (9, [.ref h0, .ref h8, .ref h4, .ref h2, .ref hh, .ref h3, .ref h1, .ref im, .ref sd, .ref kp])), (h0, .inr (7, [.ref c0])), (c0, .inl (k.1, 132, .inl (zF (upZ f 1 x1)))), (h8, .inr (8, [.ref h5, .ref h6, .ref h9])), (h5, .inr (5, [.ref a5])), (a5, .inl (k.1, 12, .inl (zF z.1))), (h6, .inr (6, [.ref s6, .ref p6, .int (zI ((z.2.1.2.2 : Nat) : Int))])), (s6, .inl (k.1, 12, .inl (zF (nF z.2.1.1)))), (p6, .inl (k.1, 3, .inl (zF (nF z.2.1.2.1)))), (h9, .inr (6, [.ref s9, .ref p9, .int (zI ((z.2.2.2.2 : Nat) : Int))])), (s9, .inl (k.1, 12, .inl (zF (nF z.2.2.1)))), (p9, .inl (k.1, 3, .inl (zF (nF z.2.2.2.1)))), (hh, .inr (3, [.ref eo, .int (zI (((h.1 + 1) % 20 : Nat) : Int)), .int (zI ((min (h.2.1 + 1) 20 : Nat) : Int))])), (eo, .inl (k.2.2.2, 20, .inr (.inr (.inr (.inr (eoF r))))))] ++ rowsW k r (upE h.2.2 h.1 (cpZ f (h.2.2 h.1) 0 0 132))) H := hP
    have hD : va_D A ([(x9, .inr (9, [.ref h0, .ref h8, .ref h4, .ref h2, .ref hh, .ref h3, .ref h1, .ref im, .ref sd, .ref kp])), (h0, .inr (7, [.ref c0])), (c0, .inl (k.1, 132, .inl (zF (upZ f 1 x1)))), (h8, .inr (8, [.ref h5, .ref h6, .ref h9])), (h5, .inr (5, [.ref a5])), (a5, .inl (k.1, 12, .inl (zF z.1))), (h6, .inr (6, [.ref s6, .ref p6, .int (zI ((z.2.1.2.2 : Nat) : Int))])), (s6, .inl (k.1, 12, .inl (zF (nF z.2.1.1)))), (p6, .inl (k.1, 3, .inl (zF (nF z.2.1.2.1)))), (h9, .inr (6, [.ref s9, .ref p9, .int (zI ((z.2.2.2.2 : Nat) : Int))])), (s9, .inl (k.1, 12, .inl (zF (nF z.2.2.1)))), (p9, .inl (k.1, 3, .inl (zF (nF z.2.2.2.1)))), (hh, .inr (3, [.ref eo, .int (zI (((h.1 + 1) % 20 : Nat) : Int)), .int (zI ((min (h.2.1 + 1) 20 : Nat) : Int))])), (eo, .inl (k.2.2.2, 20, .inr (.inr (.inr (.inr (eoF r))))))] ++ rowsW k r (upE h.2.2 h.1 (cpZ f (h.2.2 h.1) 0 0 132))) := hD
    refine lv_aload_n hx hb dX9_limit_33 rfl (lv_at hl 0 rfl) ?_
    refine miV (n := 0) (As := []) (rest := []) hSf (c_missingNow l D k x9 h0 c0 h8 h4 h2 hh h3 h1 im sd kp (upZ f 1 x1) B (Va_low hV (by decide) (by decide) (by omega) (by omega) (by decide) (by omega)) h5 a5 h6 s6 p6 h9 s9 p9 (z.1, (z.2.1.1, z.2.1.2.1, z.2.1.2.2), (z.2.2.1, z.2.2.2.1, z.2.2.2.2)) hB) gX9_limit_X9_missingNow rfl (by decide +kernel) ⟨Nat.le_of_ble_eq_true rfl, Nat.le_of_ble_eq_true rfl⟩ hK hP hD hS [0, 1, 2, 3, 4, 5, 6, 7, 8, 9, 10, 11] rfl rfl (by decide) (fun _ => rfl) (fun _ => rfl) 0 rfl rfl rfl hl.1 rfl (Nat.le_of_ble_eq_true rfl) dX9_limit_34 ⟨Nat.zero_le _, Nat.zero_le _⟩ (fun r_34 u_34 H locs h_34 hP hD hS => ?_)
    have hP : va_P D vwCl ([(x9, .inr (9, [.ref h0, .ref h8, .ref h4, .ref h2, .ref hh, .ref h3, .ref h1, .ref im, .ref sd, .ref kp])), (h0, .inr (7, [.ref c0])), (c0, .inl (k.1, 132, .inl (zF (upZ f 1 x1)))), (h8, .inr (8, [.ref h5, .ref h6, .ref h9])), (h5, .inr (5, [.ref a5])), (a5, .inl (k.1, 12, .inl (zF u_34.1))), (h6, .inr (6, [.ref s6, .ref p6, .int (zI ((u_34.2.1.2.2 : Nat) : Int))])), (s6, .inl (k.1, 12, .inl (zF (nF u_34.2.1.1)))), (p6, .inl (k.1, 3, .inl (zF (nF u_34.2.1.2.1)))), (h9, .inr (6, [.ref s9, .ref p9, .int (zI ((u_34.2.2.2.2 : Nat) : Int))])), (s9, .inl (k.1, 12, .inl (zF (nF u_34.2.2.1)))), (p9, .inl (k.1, 3, .inl (zF (nF u_34.2.2.2.1)))), (hh, .inr (3, [.ref eo, .int (zI (((h.1 + 1) % 20 : Nat) : Int)), .int (zI ((min (h.2.1 + 1) 20 : Nat) : Int))])), (eo, .inl (k.2.2.2, 20, .inr (.inr (.inr (.inr (eoF r))))))] ++ rowsW k r (upE h.2.2 h.1 (cpZ f (h.2.2 h.1) 0 0 132))) H := hP
    have hD : va_D A ([(x9, .inr (9, [.ref h0, .ref h8, .ref h4, .ref h2, .ref hh, .ref h3, .ref h1, .ref im, .ref sd, .ref kp])), (h0, .inr (7, [.ref c0])), (c0, .inl (k.1, 132, .inl (zF (upZ f 1 x1)))), (h8, .inr (8, [.ref h5, .ref h6, .ref h9])), (h5, .inr (5, [.ref a5])), (a5, .inl (k.1, 12, .inl (zF u_34.1))), (h6, .inr (6, [.ref s6, .ref p6, .int (zI ((u_34.2.1.2.2 : Nat) : Int))])), (s6, .inl (k.1, 12, .inl (zF (nF u_34.2.1.1)))), (p6, .inl (k.1, 3, .inl (zF (nF u_34.2.1.2.1)))), (h9, .inr (6, [.ref s9, .ref p9, .int (zI ((u_34.2.2.2.2 : Nat) : Int))])), (s9, .inl (k.1, 12, .inl (zF (nF u_34.2.2.1)))), (p9, .inl (k.1, 3, .inl (zF (nF u_34.2.2.2.1)))), (hh, .inr (3, [.ref eo, .int (zI (((h.1 + 1) % 20 : Nat) : Int)), .int (zI ((min (h.2.1 + 1) 20 : Nat) : Int))])), (eo, .inl (k.2.2.2, 20, .inr (.inr (.inr (.inr (eoF r))))))] ++ rowsW k r (upE h.2.2 h.1 (cpZ f (h.2.2 h.1) 0 0 132))) := hD
    obtain ⟨he_34, h_34⟩ := h_34
    subst he_34
    exact W.iret hx hb hr (fun t ht hW => ⟨⟨_, ((u_34.1, (u_34.2.1.1, u_34.2.1.2.1, u_34.2.1.2.2), (u_34.2.2.1, u_34.2.2.2.1, u_34.2.2.2.2)), upZ f 1 x1, rmH f h), rfl, ⟨zc (by rw [if_pos (by omega)]), by rw [if_pos (by omega)]⟩, by show va_P D vwCl _ _; rw [ht]; exact hP⟩, hS.F ht⟩) hS.2.2 dX9_limit_37
  · simp only [Bool.and_eq_false_iff, decide_eq_false_iff_not] at c_7
    refine lv_ldc hx hb hown (hts (.constant RX9 99 (-1000000002)) (by decide +kernel)) dX9_limit_10 ?_
    refine te (show (-1000000002 : Int32) = zI (-1000000002) from by decide +kernel) ?_
    exact W.iret hx hb hr (fun t ht hW => ⟨⟨_, ((z.1, (z.2.1.1, z.2.1.2.1, z.2.1.2.2), (z.2.2.1, z.2.2.2.1, z.2.2.2.2)), f, h), rfl, ⟨zc (by rw [if_neg (by omega)]), by rw [if_neg (by omega)]⟩, by show va_P D vwCl _ _; rw [ht]; exact hP⟩, hS.F ht⟩) hS.2.2 dX9_limit_12
set_option maxHeartbeats 4000000 in
set_option maxRecDepth 100000 in
theorem c_rule (l : Launch) (D : va_G) (k : Kt) (x9 : Nat) (h0 : Nat) (c0 : Nat) (h8 : Nat) (h4 : Nat) (h2 : Nat) (hh : Nat) (h3 : Nat) (h1 : Nat) (im : Nat) (sd : Nat) (kp : Nat) (f : St) (B : Int) (hV : Va B f) (h5 : Nat) (a5 : Nat) (h6 : Nat) (s6 : Nat) (p6 : Nat) (h9 : Nat) (s9 : Nat) (p9 : Nat) (z : (Nat → Int) × ((Nat → Nat) × (Nat → Nat) × Nat) × ((Nat → Nat) × (Nat → Nat) × Nat)) (hB : B < 1000000) (eo : Nat) (r : Nat → Nat) (h : HT) (hh1 : h.1 < 20) (hh2 : h.2.1 ≤ 20) (x1 : Int) (hx1 : -2147483648 ≤ x1 ∧ x1 < 2147483648) : MI l D k yX9_rule wsX9_rule 5 119 [.ref x9, .int (zI x1)] ([(x9, .inr (9, [.ref h0, .ref h8, .ref h4, .ref h2, .ref hh, .ref h3, .ref h1, .ref im, .ref sd, .ref kp])), (h0, .inr (7, [.ref c0])), (c0, .inl (k.1, 132, .inl (zF f))), (h8, .inr (8, [.ref h5, .ref h6, .ref h9])), (h5, .inr (5, [.ref a5])), (a5, .inl (k.1, 12, .inl (zF z.1))), (h6, .inr (6, [.ref s6, .ref p6, .int (zI ((z.2.1.2.2 : Nat) : Int))])), (s6, .inl (k.1, 12, .inl (zF (nF z.2.1.1)))), (p6, .inl (k.1, 3, .inl (zF (nF z.2.1.2.1)))), (h9, .inr (6, [.ref s9, .ref p9, .int (zI ((z.2.2.2.2 : Nat) : Int))])), (s9, .inl (k.1, 12, .inl (zF (nF z.2.2.1)))), (p9, .inl (k.1, 3, .inl (zF (nF z.2.2.2.1)))), (hh, .inr (3, [.ref eo, .int (zI ((h.1 : Nat) : Int)), .int (zI ((h.2.1 : Nat) : Int))])), (eo, .inl (k.2.2.2, 20, .inr (.inr (.inr (.inr (eoF r))))))] ++ rowsW k r h.2.2) (fun (r : Int32) (u : ((Nat → Int) × ((Nat → Nat) × (Nat → Nat) × Nat) × ((Nat → Nat) × (Nat → Nat) × Nat)) × St × HT) => r = zI (if 0 ≤ x1 ∧ x1 ≤ 3 then ((misF (upZ f 2 x1) ((upZ f 2 x1) 2) : Nat) : Int) else -1000000002) ∧ u.2 = if 0 ≤ x1 ∧ x1 ≤ 3 then (upZ f 2 x1, rmH f h) else (f, h)) (fun u => ([(x9, .inr (9, [.ref h0, .ref h8, .ref h4, .ref h2, .ref hh, .ref h3, .ref h1, .ref im, .ref sd, .ref kp])), (h0, .inr (7, [.ref c0])), (c0, .inl (k.1, 132, .inl (zF u.2.1))), (h8, .inr (8, [.ref h5, .ref h6, .ref h9])), (h5, .inr (5, [.ref a5])), (a5, .inl (k.1, 12, .inl (zF u.1.1))), (h6, .inr (6, [.ref s6, .ref p6, .int (zI ((u.1.2.1.2.2 : Nat) : Int))])), (s6, .inl (k.1, 12, .inl (zF (nF u.1.2.1.1)))), (p6, .inl (k.1, 3, .inl (zF (nF u.1.2.1.2.1)))), (h9, .inr (6, [.ref s9, .ref p9, .int (zI ((u.1.2.2.2.2 : Nat) : Int))])), (s9, .inl (k.1, 12, .inl (zF (nF u.1.2.2.1)))), (p9, .inl (k.1, 3, .inl (zF (nF u.1.2.2.2.1)))), (hh, .inr (3, [.ref eo, .int (zI ((u.2.2.1 : Nat) : Int)), .int (zI ((u.2.2.2.1 : Nat) : Int))])), (eo, .inl (k.2.2.2, 20, .inr (.inr (.inr (.inr (eoF r))))))] ++ rowsW k r u.2.2.2.2)) := by
  refine Met.ofW (cc := cX9_rule) (maxL := 2) (ret := (some .int)) (by decide) rfl ?_
  intro p e s m args below meth c s₁ Bd hml hv
  obtain ⟨rfl, hP, hK, hD0⟩ := hv
  have hx := Bd.exec
  have hb := Bd.bytes
  have hr := Bd.returns
  have hts := atoms_spec (ws := wsX9_rule) Bd.pre
  have hown : s.vm.findClass RX9 = some m.cls := findClass_of_methodNamed Bd.named
  have hlocks := Bd.notSynchronized
  have hSf : CallFix p m c cX9_rule 2 s ([.ref x9, .int (zI x1)] : List Value).toArray wsX9_rule RX9 := ⟨hx, hb, hml, hown, hts⟩
  have hD := fA_D hD0
  have hS : va_S (fA ([(x9, .inr (9, [.ref h0, .ref h8, .ref h4, .ref h2, .ref hh, .ref h3, .ref h1, .ref im, .ref sd, .ref kp])), (h0, .inr (7, [.ref c0])), (c0, .inl (k.1, 132, .inl (zF f))), (h8, .inr (8, [.ref h5, .ref h6, .ref h9])), (h5, .inr (5, [.ref a5])), (a5, .inl (k.1, 12, .inl (zF z.1))), (h6, .inr (6, [.ref s6, .ref p6, .int (zI ((z.2.1.2.2 : Nat) : Int))])), (s6, .inl (k.1, 12, .inl (zF (nF z.2.1.1)))), (p6, .inl (k.1, 3, .inl (zF (nF z.2.1.2.1)))), (h9, .inr (6, [.ref s9, .ref p9, .int (zI ((z.2.2.2.2 : Nat) : Int))])), (s9, .inl (k.1, 12, .inl (zF (nF z.2.2.1)))), (p9, .inl (k.1, 3, .inl (zF (nF z.2.2.2.1)))), (hh, .inr (3, [.ref eo, .int (zI ((h.1 : Nat) : Int)), .int (zI ((h.2.1 : Nat) : Int))])), (eo, .inl (k.2.2.2, 20, .inr (.inr (.inr (.inr (eoF r))))))] ++ rowsW k r h.2.2)) s.heap s.heap [] := va_S.rf
  generalize hAe : fA ([(x9, .inr (9, [.ref h0, .ref h8, .ref h4, .ref h2, .ref hh, .ref h3, .ref h1, .ref im, .ref sd, .ref kp])), (h0, .inr (7, [.ref c0])), (c0, .inl (k.1, 132, .inl (zF f))), (h8, .inr (8, [.ref h5, .ref h6, .ref h9])), (h5, .inr (5, [.ref a5])), (a5, .inl (k.1, 12, .inl (zF z.1))), (h6, .inr (6, [.ref s6, .ref p6, .int (zI ((z.2.1.2.2 : Nat) : Int))])), (s6, .inl (k.1, 12, .inl (zF (nF z.2.1.1)))), (p6, .inl (k.1, 3, .inl (zF (nF z.2.1.2.1)))), (h9, .inr (6, [.ref s9, .ref p9, .int (zI ((z.2.2.2.2 : Nat) : Int))])), (s9, .inl (k.1, 12, .inl (zF (nF z.2.2.1)))), (p9, .inl (k.1, 3, .inl (zF (nF z.2.2.2.1)))), (hh, .inr (3, [.ref eo, .int (zI ((h.1 : Nat) : Int)), .int (zI ((h.2.1 : Nat) : Int))])), (eo, .inl (k.2.2.2, 20, .inr (.inr (.inr (.inr (eoF r))))))] ++ rowsW k r h.2.2) = A at hD hS ⊢
  have hP : va_P D vwCl ([(x9, .inr (9, [.ref h0, .ref h8, .ref h4, .ref h2, .ref hh, .ref h3, .ref h1, .ref im, .ref sd, .ref kp])), (h0, .inr (7, [.ref c0])), (c0, .inl (k.1, 132, .inl (zF f))), (h8, .inr (8, [.ref h5, .ref h6, .ref h9])), (h5, .inr (5, [.ref a5])), (a5, .inl (k.1, 12, .inl (zF z.1))), (h6, .inr (6, [.ref s6, .ref p6, .int (zI ((z.2.1.2.2 : Nat) : Int))])), (s6, .inl (k.1, 12, .inl (zF (nF z.2.1.1)))), (p6, .inl (k.1, 3, .inl (zF (nF z.2.1.2.1)))), (h9, .inr (6, [.ref s9, .ref p9, .int (zI ((z.2.2.2.2 : Nat) : Int))])), (s9, .inl (k.1, 12, .inl (zF (nF z.2.2.1)))), (p9, .inl (k.1, 3, .inl (zF (nF z.2.2.2.1)))), (hh, .inr (3, [.ref eo, .int (zI ((h.1 : Nat) : Int)), .int (zI ((h.2.1 : Nat) : Int))])), (eo, .inl (k.2.2.2, 20, .inr (.inr (.inr (.inr (eoF r))))))] ++ rowsW k r h.2.2) s.heap := hP
  have hinX9 : ∀ w ∈ u_ws RX9 TX9 10, w ∈ wsX9_rule := by decide +kernel
  have fl40 := hts (.fieldLink RX9 40 "DotObjects" "history" "LDotObjects$History;") (by decide +kernel)
  have fl10 := hts (.fieldLink RX9 10 "DotObjects" "scene" "LDotObjects$Scene;") (by decide +kernel)
  have hl := lv_entry ([.ref x9, .int (zI x1)]) (n := 2) (Nat.le_of_ble_eq_true rfl)
  rw [lg_entry_eq]
  generalize (lg_sl ([.ref x9, .int (zI x1)]) ++ List.replicate (2 - (lg_sl ([.ref x9, .int (zI x1)])).length) Slot.unset).toArray = ls at hl ⊢
  have hl : lv_has ls 2 [(0, .ref x9), (1, .int (zI x1))] := hl
  refine lv_iload_n hx hb dX9_rule_0 rfl (lv_at hl 1 rfl) ?_
  refine z_iconst hx hb dX9_rule_1 ?_
  refine z_iconst hx hb dX9_rule_2 ?_
  refine roS (n := 3) (As := [.int (zI x1), .int (zI 0), .int (zI 3)]) (rest := []) hSf (c_isWithin l D k x1 0 3 (by omega) (by omega) (by omega)) gX9_rule_X9_isWithin rfl (by decide +kernel) ⟨Nat.le_of_ble_eq_true rfl, Nat.le_of_ble_eq_true rfl⟩ hK hP [] rfl rfl hl.1 rfl (Nat.le_of_ble_eq_true rfl) dX9_rule_3 ⟨Nat.zero_le _, Nat.zero_le _⟩ (fun r_3 h_3 => ?_)
  subst h_3
  refine z_if_neb (tgt := 12) hx hb dX9_rule_6 (by decide) (fun c_6 => ?_) (fun c_6 => ?_)
  · simp only [Bool.and_eq_true, decide_eq_true_eq] at c_6
    refine lv_aload_n hx hb dX9_rule_12 rfl (lv_at hl 0 rfl) ?_
    refine va_get (D := D) (ci := 9) (v := .ref hh) (C := RX9) (T := TX9) (N := 10) hx hb hts hinX9 hown hK.1 hP 0 rfl rfl 4 (by decide) fl40 (fun _ h9 => h9) rfl dX9_rule_13 ?_
    refine lv_aload_n hx hb dX9_rule_16 rfl (lv_at hl 0 rfl) ?_
    refine va_get (D := D) (ci := 9) (v := .ref h0) (C := RX9) (T := TX9) (N := 10) hx hb hts hinX9 hown hK.1 hP 0 rfl rfl 0 (by decide) fl10 (fun _ h9 => h9) rfl dX9_rule_17 ?_
    refine muVR (base := [(x9, .inr (9, [.ref h0, .ref h8, .ref h4, .ref h2, .ref hh, .ref h3, .ref h1, .ref im, .ref sd, .ref kp])), (h0, .inr (7, [.ref c0])), (c0, .inl (k.1, 132, .inl (zF f))), (h8, .inr (8, [.ref h5, .ref h6, .ref h9])), (h5, .inr (5, [.ref a5])), (a5, .inl (k.1, 12, .inl (zF z.1))), (h6, .inr (6, [.ref s6, .ref p6, .int (zI ((z.2.1.2.2 : Nat) : Int))])), (s6, .inl (k.1, 12, .inl (zF (nF z.2.1.1)))), (p6, .inl (k.1, 3, .inl (zF (nF z.2.1.2.1)))), (h9, .inr (6, [.ref s9, .ref p9, .int (zI ((z.2.2.2.2 : Nat) : Int))])), (s9, .inl (k.1, 12, .inl (zF (nF z.2.2.1)))), (p9, .inl (k.1, 3, .inl (zF (nF z.2.2.2.1)))), (hh, .inr (3, [.ref eo, .int (zI ((h.1 : Nat) : Int)), .int (zI ((h.2.1 : Nat) : Int))])), (eo, .inl (k.2.2.2, 20, .inr (.inr (.inr (.inr (eoF r))))))]) (wcb := [(h0, .inr (7, [.ref c0])), (c0, .inl (k.1, 132, .inl (zF f))), (hh, .inr (3, [.ref eo, .int (zI ((h.1 : Nat) : Int)), .int (zI ((h.2.1 : Nat) : Int))])), (eo, .inl (k.2.2.2, 20, .inr (.inr (.inr (.inr (eoF r))))))]) (rows := rowsW k r h.2.2) (w' := fun (u : Unit) => [(h0, .inr (7, [.ref c0])), (c0, .inl (k.1, 132, .inl (zF f))), (hh, .inr (3, [.ref eo, .int (zI (((h.1 + 1) % 20 : Nat) : Int)), .int (zI ((min (h.2.1 + 1) 20 : Nat) : Int))])), (eo, .inl (k.2.2.2, 20, .inr (.inr (.inr (.inr (eoF r))))))]) (rw' := fun (u : Unit) => rowsW k r (upE h.2.2 h.1 (cpZ f (h.2.2 h.1) 0 0 132))) (n := 1) (As := [.ref h0]) (rest := []) hSf (c_remember l D k h0 c0 f hh eo r h.1 h.2.1 h.2.2 hh1 hh2) gX9_rule_X3_remember rfl (by decide +kernel) ⟨Nat.le_of_ble_eq_true rfl, Nat.le_of_ble_eq_true rfl⟩ hK hP hD hS [1, 2, 12, 13] rfl (by decide) (fun _ => rfl) (fun _ => rfl) (fun _ => rowsW_fst _ _ _ _) 2 rfl rfl rfl hl.1 rfl (Nat.le_of_ble_eq_true rfl) dX9_rule_20 ⟨Nat.zero_le _, Nat.zero_le _⟩ (fun u_20 H locs h_20 hP hD hS => ?_)
    have hP : va_P D vwCl ([(x9, .inr (9, [.ref h0, .ref h8, .ref h4, .ref h2, .ref hh, .ref h3, .ref h1, .ref im, .ref sd, .ref kp])), (h0, .inr (7, [.ref c0])), (c0, .inl (k.1, 132, .inl (zF f))), (h8, .inr (8, [.ref h5, .ref h6, .ref h9])), (h5, .inr (5, [.ref a5])), (a5, .inl (k.1, 12, .inl (zF z.1))), (h6, .inr (6, [.ref s6, .ref p6, .int (zI ((z.2.1.2.2 : Nat) : Int))])), (s6, .inl (k.1, 12, .inl (zF (nF z.2.1.1)))), (p6, .inl (k.1, 3, .inl (zF (nF z.2.1.2.1)))), (h9, .inr (6, [.ref s9, .ref p9, .int (zI ((z.2.2.2.2 : Nat) : Int))])), (s9, .inl (k.1, 12, .inl (zF (nF z.2.2.1)))), (p9, .inl (k.1, 3, .inl (zF (nF z.2.2.2.1)))), (hh, .inr (3, [.ref eo, .int (zI (((h.1 + 1) % 20 : Nat) : Int)), .int (zI ((min (h.2.1 + 1) 20 : Nat) : Int))])), (eo, .inl (k.2.2.2, 20, .inr (.inr (.inr (.inr (eoF r))))))] ++ rowsW k r (upE h.2.2 h.1 (cpZ f (h.2.2 h.1) 0 0 132))) H := hP
    have hD : va_D A ([(x9, .inr (9, [.ref h0, .ref h8, .ref h4, .ref h2, .ref hh, .ref h3, .ref h1, .ref im, .ref sd, .ref kp])), (h0, .inr (7, [.ref c0])), (c0, .inl (k.1, 132, .inl (zF f))), (h8, .inr (8, [.ref h5, .ref h6, .ref h9])), (h5, .inr (5, [.ref a5])), (a5, .inl (k.1, 12, .inl (zF z.1))), (h6, .inr (6, [.ref s6, .ref p6, .int (zI ((z.2.1.2.2 : Nat) : Int))])), (s6, .inl (k.1, 12, .inl (zF (nF z.2.1.1)))), (p6, .inl (k.1, 3, .inl (zF (nF z.2.1.2.1)))), (h9, .inr (6, [.ref s9, .ref p9, .int (zI ((z.2.2.2.2 : Nat) : Int))])), (s9, .inl (k.1, 12, .inl (zF (nF z.2.2.1)))), (p9, .inl (k.1, 3, .inl (zF (nF z.2.2.2.1)))), (hh, .inr (3, [.ref eo, .int (zI (((h.1 + 1) % 20 : Nat) : Int)), .int (zI ((min (h.2.1 + 1) 20 : Nat) : Int))])), (eo, .inl (k.2.2.2, 20, .inr (.inr (.inr (.inr (eoF r))))))] ++ rowsW k r (upE h.2.2 h.1 (cpZ f (h.2.2 h.1) 0 0 132))) := hD
    refine lv_aload_n hx hb dX9_rule_23 rfl (lv_at hl 0 rfl) ?_
    refine va_get (D := D) (ci := 9) (v := .ref h0) (C := RX9) (T := TX9) (N := 10) hx hb hts hinX9 hown hK.1 hP 0 rfl rfl 0 (by decide) fl10 (fun _ h9 => h9) rfl dX9_rule_24 ?_
    refine z_iconst hx hb dX9_rule_27 ?_
    refine lv_iload_n hx hb dX9_rule_28 rfl (lv_at hl 1 rfl) ?_
    refine muV (n := 2) (As := [.int (zI ((2 : Nat) : Int)), .int (zI x1)]) (rest := []) hSf (c_setCell l D k h0 c0 f 2 x1 (by omega)) gX9_rule_X7_setCell rfl (by decide +kernel) ⟨Nat.le_of_ble_eq_true rfl, Nat.le_of_ble_eq_true rfl⟩ hK hP hD hS [1, 2] rfl rfl (by decide) (fun _ => rfl) (fun _ => rfl) 0 rfl rfl rfl hl.1 (by rw [show zI 2 = zI ((2 : Nat) : Int) from zc (by omega)]; rfl) (Nat.le_of_ble_eq_true rfl) dX9_rule_29 ⟨Nat.zero_le _, Nat.zero_le _⟩ (fun u_29 H locs h_29 hP hD hS => ?_)
    have hP : va_P D vwCl ([(x9, .inr (9, [.ref h0, .ref h8, .ref h4, .ref h2, .ref hh, .ref h3, .ref h1, .ref im, .ref sd, .ref kp])), (h0, .inr (7, [.ref c0])), (c0, .inl (k.1, 132, .inl (zF (upZ f 2 x1)))), (h8, .inr (8, [.ref h5, .ref h6, .ref h9])), (h5, .inr (5, [.ref a5])), (a5, .inl (k.1, 12, .inl (zF z.1))), (h6, .inr (6, [.ref s6, .ref p6, .int (zI ((z.2.1.2.2 : Nat) : Int))])), (s6, .inl (k.1, 12, .inl (zF (nF z.2.1.1)))), (p6, .inl (k.1, 3, .inl (zF (nF z.2.1.2.1)))), (h9, .inr (6, [.ref s9, .ref p9, .int (zI ((z.2.2.2.2 : Nat) : Int))])), (s9, .inl (k.1, 12, .inl (zF (nF z.2.2.1)))), (p9, .inl (k.1, 3, .inl (zF (nF z.2.2.2.1)))), (hh, .inr (3, [.ref eo, .int (zI (((h.1 + 1) % 20 : Nat) : Int)), .int (zI ((min (h.2.1 + 1) 20 : Nat) : Int))])), (eo, .inl (k.2.2.2, 20, .inr (.inr (.inr (.inr (eoF r))))))] ++ rowsW k r (upE h.2.2 h.1 (cpZ f (h.2.2 h.1) 0 0 132))) H := hP
    have hD : va_D A ([(x9, .inr (9, [.ref h0, .ref h8, .ref h4, .ref h2, .ref hh, .ref h3, .ref h1, .ref im, .ref sd, .ref kp])), (h0, .inr (7, [.ref c0])), (c0, .inl (k.1, 132, .inl (zF (upZ f 2 x1)))), (h8, .inr (8, [.ref h5, .ref h6, .ref h9])), (h5, .inr (5, [.ref a5])), (a5, .inl (k.1, 12, .inl (zF z.1))), (h6, .inr (6, [.ref s6, .ref p6, .int (zI ((z.2.1.2.2 : Nat) : Int))])), (s6, .inl (k.1, 12, .inl (zF (nF z.2.1.1)))), (p6, .inl (k.1, 3, .inl (zF (nF z.2.1.2.1)))), (h9, .inr (6, [.ref s9, .ref p9, .int (zI ((z.2.2.2.2 : Nat) : Int))])), (s9, .inl (k.1, 12, .inl (zF (nF z.2.2.1)))), (p9, .inl (k.1, 3, .inl (zF (nF z.2.2.2.1)))), (hh, .inr (3, [.ref eo, .int (zI (((h.1 + 1) % 20 : Nat) : Int)), .int (zI ((min (h.2.1 + 1) 20 : Nat) : Int))])), (eo, .inl (k.2.2.2, 20, .inr (.inr (.inr (.inr (eoF r))))))] ++ rowsW k r (upE h.2.2 h.1 (cpZ f (h.2.2 h.1) 0 0 132))) := hD
    refine lv_aload_n hx hb dX9_rule_32 rfl (lv_at hl 0 rfl) ?_
    refine miV (n := 0) (As := []) (rest := []) hSf (c_missingNow l D k x9 h0 c0 h8 h4 h2 hh h3 h1 im sd kp (upZ f 2 x1) B (Va_low hV (by decide) (by decide) (by omega) (by omega) (by decide) (by omega)) h5 a5 h6 s6 p6 h9 s9 p9 (z.1, (z.2.1.1, z.2.1.2.1, z.2.1.2.2), (z.2.2.1, z.2.2.2.1, z.2.2.2.2)) hB) gX9_rule_X9_missingNow rfl (by decide +kernel) ⟨Nat.le_of_ble_eq_true rfl, Nat.le_of_ble_eq_true rfl⟩ hK hP hD hS [0, 1, 2, 3, 4, 5, 6, 7, 8, 9, 10, 11] rfl rfl (by decide) (fun _ => rfl) (fun _ => rfl) 0 rfl rfl rfl hl.1 rfl (Nat.le_of_ble_eq_true rfl) dX9_rule_33 ⟨Nat.zero_le _, Nat.zero_le _⟩ (fun r_33 u_33 H locs h_33 hP hD hS => ?_)
    have hP : va_P D vwCl ([(x9, .inr (9, [.ref h0, .ref h8, .ref h4, .ref h2, .ref hh, .ref h3, .ref h1, .ref im, .ref sd, .ref kp])), (h0, .inr (7, [.ref c0])), (c0, .inl (k.1, 132, .inl (zF (upZ f 2 x1)))), (h8, .inr (8, [.ref h5, .ref h6, .ref h9])), (h5, .inr (5, [.ref a5])), (a5, .inl (k.1, 12, .inl (zF u_33.1))), (h6, .inr (6, [.ref s6, .ref p6, .int (zI ((u_33.2.1.2.2 : Nat) : Int))])), (s6, .inl (k.1, 12, .inl (zF (nF u_33.2.1.1)))), (p6, .inl (k.1, 3, .inl (zF (nF u_33.2.1.2.1)))), (h9, .inr (6, [.ref s9, .ref p9, .int (zI ((u_33.2.2.2.2 : Nat) : Int))])), (s9, .inl (k.1, 12, .inl (zF (nF u_33.2.2.1)))), (p9, .inl (k.1, 3, .inl (zF (nF u_33.2.2.2.1)))), (hh, .inr (3, [.ref eo, .int (zI (((h.1 + 1) % 20 : Nat) : Int)), .int (zI ((min (h.2.1 + 1) 20 : Nat) : Int))])), (eo, .inl (k.2.2.2, 20, .inr (.inr (.inr (.inr (eoF r))))))] ++ rowsW k r (upE h.2.2 h.1 (cpZ f (h.2.2 h.1) 0 0 132))) H := hP
    have hD : va_D A ([(x9, .inr (9, [.ref h0, .ref h8, .ref h4, .ref h2, .ref hh, .ref h3, .ref h1, .ref im, .ref sd, .ref kp])), (h0, .inr (7, [.ref c0])), (c0, .inl (k.1, 132, .inl (zF (upZ f 2 x1)))), (h8, .inr (8, [.ref h5, .ref h6, .ref h9])), (h5, .inr (5, [.ref a5])), (a5, .inl (k.1, 12, .inl (zF u_33.1))), (h6, .inr (6, [.ref s6, .ref p6, .int (zI ((u_33.2.1.2.2 : Nat) : Int))])), (s6, .inl (k.1, 12, .inl (zF (nF u_33.2.1.1)))), (p6, .inl (k.1, 3, .inl (zF (nF u_33.2.1.2.1)))), (h9, .inr (6, [.ref s9, .ref p9, .int (zI ((u_33.2.2.2.2 : Nat) : Int))])), (s9, .inl (k.1, 12, .inl (zF (nF u_33.2.2.1)))), (p9, .inl (k.1, 3, .inl (zF (nF u_33.2.2.2.1)))), (hh, .inr (3, [.ref eo, .int (zI (((h.1 + 1) % 20 : Nat) : Int)), .int (zI ((min (h.2.1 + 1) 20 : Nat) : Int))])), (eo, .inl (k.2.2.2, 20, .inr (.inr (.inr (.inr (eoF r))))))] ++ rowsW k r (upE h.2.2 h.1 (cpZ f (h.2.2 h.1) 0 0 132))) := hD
    obtain ⟨he_33, h_33⟩ := h_33
    subst he_33
    exact W.iret hx hb hr (fun t ht hW => ⟨⟨_, ((u_33.1, (u_33.2.1.1, u_33.2.1.2.1, u_33.2.1.2.2), (u_33.2.2.1, u_33.2.2.2.1, u_33.2.2.2.2)), upZ f 2 x1, rmH f h), rfl, ⟨zc (by rw [if_pos (by omega)]), by rw [if_pos (by omega)]⟩, by show va_P D vwCl _ _; rw [ht]; exact hP⟩, hS.F ht⟩) hS.2.2 dX9_rule_36
  · simp only [Bool.and_eq_false_iff, decide_eq_false_iff_not] at c_6
    refine lv_ldc hx hb hown (hts (.constant RX9 99 (-1000000002)) (by decide +kernel)) dX9_rule_9 ?_
    refine te (show (-1000000002 : Int32) = zI (-1000000002) from by decide +kernel) ?_
    exact W.iret hx hb hr (fun t ht hW => ⟨⟨_, ((z.1, (z.2.1.1, z.2.1.2.1, z.2.1.2.2), (z.2.2.1, z.2.2.2.1, z.2.2.2.2)), f, h), rfl, ⟨zc (by rw [if_neg (by omega)]), by rw [if_neg (by omega)]⟩, by show va_P D vwCl _ _; rw [ht]; exact hP⟩, hS.F ht⟩) hS.2.2 dX9_rule_11
set_option maxHeartbeats 4000000 in
set_option maxRecDepth 100000 in
theorem c_frame (l : Launch) (D : va_G) (k : Kt) (x9 : Nat) (h0 : Nat) (c0 : Nat) (h8 : Nat) (h4 : Nat) (h2 : Nat) (hh : Nat) (h3 : Nat) (h1 : Nat) (im : Nat) (sd : Nat) (kp : Nat) (f : St) (B : Int) (hV : Va B f) (eo : Nat) (r : Nat → Nat) (h : HT) (hh1 : h.1 < 20) (hh2 : h.2.1 ≤ 20) (x1 : Int) (hx1 : -2147483648 ≤ x1 ∧ x1 < 2147483648) (hB : B < 900000) : MI l D k yX9_frame wsX9_frame 3 82 [.ref x9, .int (zI x1)] ([(x9, .inr (9, [.ref h0, .ref h8, .ref h4, .ref h2, .ref hh, .ref h3, .ref h1, .ref im, .ref sd, .ref kp])), (h0, .inr (7, [.ref c0])), (c0, .inl (k.1, 132, .inl (zF f))), (hh, .inr (3, [.ref eo, .int (zI ((h.1 : Nat) : Int)), .int (zI ((h.2.1 : Nat) : Int))])), (eo, .inl (k.2.2.2, 20, .inr (.inr (.inr (.inr (eoF r))))))] ++ rowsW k r h.2.2) (fun (r : Int32) (u : St × HT) => r = zI (if 1 ≤ x1 ∧ x1 ≤ 40 then itZ f x1.toNat 3 else -1000000002) ∧ u = if 1 ≤ x1 ∧ x1 ≤ 40 then (itZ f x1.toNat, rmH f h) else (f, h)) (fun u => ([(x9, .inr (9, [.ref h0, .ref h8, .ref h4, .ref h2, .ref hh, .ref h3, .ref h1, .ref im, .ref sd, .ref kp])), (h0, .inr (7, [.ref c0])), (c0, .inl (k.1, 132, .inl (zF u.1))), (hh, .inr (3, [.ref eo, .int (zI ((u.2.1 : Nat) : Int)), .int (zI ((u.2.2.1 : Nat) : Int))])), (eo, .inl (k.2.2.2, 20, .inr (.inr (.inr (.inr (eoF r))))))] ++ rowsW k r u.2.2.2)) := by
  refine Met.ofW (cc := cX9_frame) (maxL := 3) (ret := (some .int)) (by decide) rfl ?_
  intro p e s m args below meth c s₁ Bd hml hv
  obtain ⟨rfl, hP, hK, hD0⟩ := hv
  have hx := Bd.exec
  have hb := Bd.bytes
  have hr := Bd.returns
  have hts := atoms_spec (ws := wsX9_frame) Bd.pre
  have hown : s.vm.findClass RX9 = some m.cls := findClass_of_methodNamed Bd.named
  have hlocks := Bd.notSynchronized
  have hSf : CallFix p m c cX9_frame 3 s ([.ref x9, .int (zI x1)] : List Value).toArray wsX9_frame RX9 := ⟨hx, hb, hml, hown, hts⟩
  have hD := fA_D hD0
  have hS : va_S (fA ([(x9, .inr (9, [.ref h0, .ref h8, .ref h4, .ref h2, .ref hh, .ref h3, .ref h1, .ref im, .ref sd, .ref kp])), (h0, .inr (7, [.ref c0])), (c0, .inl (k.1, 132, .inl (zF f))), (hh, .inr (3, [.ref eo, .int (zI ((h.1 : Nat) : Int)), .int (zI ((h.2.1 : Nat) : Int))])), (eo, .inl (k.2.2.2, 20, .inr (.inr (.inr (.inr (eoF r))))))] ++ rowsW k r h.2.2)) s.heap s.heap [] := va_S.rf
  generalize hAe : fA ([(x9, .inr (9, [.ref h0, .ref h8, .ref h4, .ref h2, .ref hh, .ref h3, .ref h1, .ref im, .ref sd, .ref kp])), (h0, .inr (7, [.ref c0])), (c0, .inl (k.1, 132, .inl (zF f))), (hh, .inr (3, [.ref eo, .int (zI ((h.1 : Nat) : Int)), .int (zI ((h.2.1 : Nat) : Int))])), (eo, .inl (k.2.2.2, 20, .inr (.inr (.inr (.inr (eoF r))))))] ++ rowsW k r h.2.2) = A at hD hS ⊢
  have hP : va_P D vwCl ([(x9, .inr (9, [.ref h0, .ref h8, .ref h4, .ref h2, .ref hh, .ref h3, .ref h1, .ref im, .ref sd, .ref kp])), (h0, .inr (7, [.ref c0])), (c0, .inl (k.1, 132, .inl (zF f))), (hh, .inr (3, [.ref eo, .int (zI ((h.1 : Nat) : Int)), .int (zI ((h.2.1 : Nat) : Int))])), (eo, .inl (k.2.2.2, 20, .inr (.inr (.inr (.inr (eoF r))))))] ++ rowsW k r h.2.2) s.heap := hP
  have hinX9 : ∀ w ∈ u_ws RX9 TX9 10, w ∈ wsX9_frame := by decide +kernel
  have fl40 := hts (.fieldLink RX9 40 "DotObjects" "history" "LDotObjects$History;") (by decide +kernel)
  have fl10 := hts (.fieldLink RX9 10 "DotObjects" "scene" "LDotObjects$Scene;") (by decide +kernel)
  have hl := lv_entry ([.ref x9, .int (zI x1)]) (n := 3) (Nat.le_of_ble_eq_true rfl)
  rw [lg_entry_eq]
  generalize (lg_sl ([.ref x9, .int (zI x1)]) ++ List.replicate (3 - (lg_sl ([.ref x9, .int (zI x1)])).length) Slot.unset).toArray = ls at hl ⊢
  have hl : lv_has ls 3 [(0, .ref x9), (1, .int (zI x1))] := hl
  refine lv_iload_n hx hb dX9_frame_0 rfl (lv_at hl 1 rfl) ?_
  refine z_iconst hx hb dX9_frame_1 ?_
  refine z_bipush hx hb dX9_frame_2 (by decide +kernel) ?_
  refine roS (n := 3) (As := [.int (zI x1), .int (zI 1), .int (zI 40)]) (rest := []) hSf (c_isWithin l D k x1 1 40 (by omega) (by omega) (by omega)) gX9_frame_X9_isWithin rfl (by decide +kernel) ⟨Nat.le_of_ble_eq_true rfl, Nat.le_of_ble_eq_true rfl⟩ hK hP [] rfl rfl hl.1 rfl (Nat.le_of_ble_eq_true rfl) dX9_frame_4 ⟨Nat.zero_le _, Nat.zero_le _⟩ (fun r_4 h_4 => ?_)
  subst h_4
  refine z_if_neb (tgt := 13) hx hb dX9_frame_7 (by decide) (fun c_7 => ?_) (fun c_7 => ?_)
  · simp only [Bool.and_eq_true, decide_eq_true_eq] at c_7
    refine lv_aload_n hx hb dX9_frame_13 rfl (lv_at hl 0 rfl) ?_
    refine va_get (D := D) (ci := 9) (v := .ref hh) (C := RX9) (T := TX9) (N := 10) hx hb hts hinX9 hown hK.1 hP 0 rfl rfl 4 (by decide) fl40 (fun _ h9 => h9) rfl dX9_frame_14 ?_
    refine lv_aload_n hx hb dX9_frame_17 rfl (lv_at hl 0 rfl) ?_
    refine va_get (D := D) (ci := 9) (v := .ref h0) (C := RX9) (T := TX9) (N := 10) hx hb hts hinX9 hown hK.1 hP 0 rfl rfl 0 (by decide) fl10 (fun _ h9 => h9) rfl dX9_frame_18 ?_
    refine muVR (base := [(x9, .inr (9, [.ref h0, .ref h8, .ref h4, .ref h2, .ref hh, .ref h3, .ref h1, .ref im, .ref sd, .ref kp])), (h0, .inr (7, [.ref c0])), (c0, .inl (k.1, 132, .inl (zF f))), (hh, .inr (3, [.ref eo, .int (zI ((h.1 : Nat) : Int)), .int (zI ((h.2.1 : Nat) : Int))])), (eo, .inl (k.2.2.2, 20, .inr (.inr (.inr (.inr (eoF r))))))]) (wcb := [(h0, .inr (7, [.ref c0])), (c0, .inl (k.1, 132, .inl (zF f))), (hh, .inr (3, [.ref eo, .int (zI ((h.1 : Nat) : Int)), .int (zI ((h.2.1 : Nat) : Int))])), (eo, .inl (k.2.2.2, 20, .inr (.inr (.inr (.inr (eoF r))))))]) (rows := rowsW k r h.2.2) (w' := fun (u : Unit) => [(h0, .inr (7, [.ref c0])), (c0, .inl (k.1, 132, .inl (zF f))), (hh, .inr (3, [.ref eo, .int (zI (((h.1 + 1) % 20 : Nat) : Int)), .int (zI ((min (h.2.1 + 1) 20 : Nat) : Int))])), (eo, .inl (k.2.2.2, 20, .inr (.inr (.inr (.inr (eoF r))))))]) (rw' := fun (u : Unit) => rowsW k r (upE h.2.2 h.1 (cpZ f (h.2.2 h.1) 0 0 132))) (n := 1) (As := [.ref h0]) (rest := []) hSf (c_remember l D k h0 c0 f hh eo r h.1 h.2.1 h.2.2 hh1 hh2) gX9_frame_X3_remember rfl (by decide +kernel) ⟨Nat.le_of_ble_eq_true rfl, Nat.le_of_ble_eq_true rfl⟩ hK hP hD hS [1, 2, 3, 4] rfl (by decide) (fun _ => rfl) (fun _ => rfl) (fun _ => rowsW_fst _ _ _ _) 2 rfl rfl rfl hl.1 rfl (Nat.le_of_ble_eq_true rfl) dX9_frame_21 ⟨Nat.zero_le _, Nat.zero_le _⟩ (fun u_21 H locs h_21 hP hD hS => ?_)
    have hP : va_P D vwCl ([(x9, .inr (9, [.ref h0, .ref h8, .ref h4, .ref h2, .ref hh, .ref h3, .ref h1, .ref im, .ref sd, .ref kp])), (h0, .inr (7, [.ref c0])), (c0, .inl (k.1, 132, .inl (zF f))), (hh, .inr (3, [.ref eo, .int (zI (((h.1 + 1) % 20 : Nat) : Int)), .int (zI ((min (h.2.1 + 1) 20 : Nat) : Int))])), (eo, .inl (k.2.2.2, 20, .inr (.inr (.inr (.inr (eoF r))))))] ++ rowsW k r (upE h.2.2 h.1 (cpZ f (h.2.2 h.1) 0 0 132))) H := hP
    have hD : va_D A ([(x9, .inr (9, [.ref h0, .ref h8, .ref h4, .ref h2, .ref hh, .ref h3, .ref h1, .ref im, .ref sd, .ref kp])), (h0, .inr (7, [.ref c0])), (c0, .inl (k.1, 132, .inl (zF f))), (hh, .inr (3, [.ref eo, .int (zI (((h.1 + 1) % 20 : Nat) : Int)), .int (zI ((min (h.2.1 + 1) 20 : Nat) : Int))])), (eo, .inl (k.2.2.2, 20, .inr (.inr (.inr (.inr (eoF r))))))] ++ rowsW k r (upE h.2.2 h.1 (cpZ f (h.2.2 h.1) 0 0 132))) := hD
    refine z_iconst hx hb dX9_frame_24 ?_
    refine lv_istore_n (lv' := [(2, .int (zI 0)), (0, .ref x9), (1, .int (zI x1))]) hx hb dX9_frame_25 rfl hl (by decide) rfl (fun ls hl => ?_)
    have L26 : ∀ (NN26 : Nat), ∀ (jj : Nat), ((jj : Int) ≤ x1) → x1.toNat - jj < NN26 → ∀ (H : Heap) (locs : List Loc), va_P D vwCl ([(x9, .inr (9, [.ref h0, .ref h8, .ref h4, .ref h2, .ref hh, .ref h3, .ref h1, .ref im, .ref sd, .ref kp])), (h0, .inr (7, [.ref c0])), (c0, .inl (k.1, 132, .inl (zF (itZ f jj)))), (hh, .inr (3, [.ref eo, .int (zI (((rmH f h).1 : Nat) : Int)), .int (zI (((rmH f h).2.1 : Nat) : Int))])), (eo, .inl (k.2.2.2, 20, .inr (.inr (.inr (.inr (eoF r))))))] ++ rowsW k r ((rmH f h).2.2)) H → va_D A ([(x9, .inr (9, [.ref h0, .ref h8, .ref h4, .ref h2, .ref hh, .ref h3, .ref h1, .ref im, .ref sd, .ref kp])), (h0, .inr (7, [.ref c0])), (c0, .inl (k.1, 132, .inl (zF (itZ f jj)))), (hh, .inr (3, [.ref eo, .int (zI (((rmH f h).1 : Nat) : Int)), .int (zI (((rmH f h).2.1 : Nat) : Int))])), (eo, .inl (k.2.2.2, 20, .inr (.inr (.inr (.inr (eoF r))))))] ++ rowsW k r ((rmH f h).2.2)) → va_S A s.heap H locs → ∀ (ls : Array Slot), lv_has ls 3 [(0, .ref x9), (1, .int (zI x1)), (2, .int (zI ((jj : Nat) : Int)))] → W p l e (headSpec wsX9_frame { frames := 3, cells := 0, slots := 0, locals := 82 }).room s m ([.ref x9, .int (zI x1)] : List Value).toArray below meth c H locs 0 0 (MQ below (va_Qi (fun (r : Int32) (u : St × HT) => r = zI (if 1 ≤ x1 ∧ x1 ≤ 40 then itZ f x1.toNat 3 else -1000000002) ∧ u = if 1 ≤ x1 ∧ x1 ≤ 40 then (itZ f x1.toNat, rmH f h) else (f, h)) (fun (u : St × HT) t => va_P D vwCl ([(x9, .inr (9, [.ref h0, .ref h8, .ref h4, .ref h2, .ref hh, .ref h3, .ref h1, .ref im, .ref sd, .ref kp])), (h0, .inr (7, [.ref c0])), (c0, .inl (k.1, 132, .inl (zF u.1))), (hh, .inr (3, [.ref eo, .int (zI ((u.2.1 : Nat) : Int)), .int (zI ((u.2.2.1 : Nat) : Int))])), (eo, .inl (k.2.2.2, 20, .inr (.inr (.inr (.inr (eoF r))))))] ++ rowsW k r u.2.2.2) t.heap) A) ([.ref x9, .int (zI x1)] : List Value).toArray s 0 0 A) (F0 m 26 ls []) := by
      intro NN26
      induction NN26 with
      | zero => intro jj _ hN; exact absurd hN (Nat.not_lt_zero _)
      | succ NN26 ih26 =>
        intro jj hjj hN H locs hP hD hS ls hl
        refine lv_iload_n hx hb dX9_frame_26 rfl (lv_at hl 2 rfl) ?_
        refine lv_iload_n hx hb dX9_frame_27 rfl (lv_at hl 1 rfl) ?_
        refine z_icmp_ge (tgt := 44) hx hb dX9_frame_28 (by decide) (by omega) (by omega) (fun c_28 => ?_) (fun c_28 => ?_)
        · have hjx : jj = x1.toNat := by omega
          refine lv_aload_n hx hb dX9_frame_44 rfl (lv_at hl 0 rfl) ?_
          refine va_get (D := D) (ci := 9) (v := .ref h0) (C := RX9) (T := TX9) (N := 10) hx hb hts hinX9 hown hK.1 hP 0 rfl rfl 0 (by decide) fl10 (fun _ h9 => h9) rfl dX9_frame_45 ?_
          refine z_iconst hx hb dX9_frame_48 ?_
          refine roV (n := 1) (As := [.int (zI ((3 : Nat) : Int))]) (rest := []) hSf (c_cell l D k h0 c0 (itZ f jj) 3 (by omega)) gX9_frame_X7_cell rfl (by decide +kernel) ⟨Nat.le_of_ble_eq_true rfl, Nat.le_of_ble_eq_true rfl⟩ hK hP [1, 2] rfl 0 rfl rfl rfl hl.1 (by rw [show zI 3 = zI ((3 : Nat) : Int) from zc (by omega)]; rfl) (Nat.le_of_ble_eq_true rfl) dX9_frame_49 ⟨Nat.zero_le _, Nat.zero_le _⟩ (fun r_49 h_49 => ?_)
          subst h_49
          rw [hjx] at hP
          exact W.iret hx hb hr (fun t ht hW => ⟨⟨_, (itZ f x1.toNat, rmH f h), rfl, ⟨zc (by rw [if_pos (by omega), hjx]), by rw [if_pos (by omega)]⟩, by show va_P D vwCl _ _; rw [ht]; exact hP⟩, hS.F ht⟩) hS.2.2 dX9_frame_52
        · refine lv_aload_n hx hb dX9_frame_31 rfl (lv_at hl 0 rfl) ?_
          refine va_get (D := D) (ci := 9) (v := .ref h0) (C := RX9) (T := TX9) (N := 10) hx hb hts hinX9 hown hK.1 hP 0 rfl rfl 0 (by decide) fl10 (fun _ h9 => h9) rfl dX9_frame_32 ?_
          refine muV (n := 0) (As := []) (rest := []) hSf (c_goNextFrame l D k h0 c0 (itZ f jj) (B + ((jj : Nat) : Int)) (itZ_va hV jj) (by omega)) gX9_frame_X7_goNextFrame rfl (by decide +kernel) ⟨Nat.le_of_ble_eq_true rfl, Nat.le_of_ble_eq_true rfl⟩ hK hP hD hS [1, 2] rfl rfl (by decide) (fun _ => rfl) (fun _ => rfl) 0 rfl rfl rfl hl.1 rfl (Nat.le_of_ble_eq_true rfl) dX9_frame_35 ⟨Nat.zero_le _, Nat.zero_le _⟩ (fun u_35 H locs h_35 hP hD hS => ?_)
          have hP : va_P D vwCl ([(x9, .inr (9, [.ref h0, .ref h8, .ref h4, .ref h2, .ref hh, .ref h3, .ref h1, .ref im, .ref sd, .ref kp])), (h0, .inr (7, [.ref c0])), (c0, .inl (k.1, 132, .inl (zF (nextZ (itZ f jj))))), (hh, .inr (3, [.ref eo, .int (zI (((rmH f h).1 : Nat) : Int)), .int (zI (((rmH f h).2.1 : Nat) : Int))])), (eo, .inl (k.2.2.2, 20, .inr (.inr (.inr (.inr (eoF r))))))] ++ rowsW k r ((rmH f h).2.2)) H := hP
          have hD : va_D A ([(x9, .inr (9, [.ref h0, .ref h8, .ref h4, .ref h2, .ref hh, .ref h3, .ref h1, .ref im, .ref sd, .ref kp])), (h0, .inr (7, [.ref c0])), (c0, .inl (k.1, 132, .inl (zF (nextZ (itZ f jj))))), (hh, .inr (3, [.ref eo, .int (zI (((rmH f h).1 : Nat) : Int)), .int (zI (((rmH f h).2.1 : Nat) : Int))])), (eo, .inl (k.2.2.2, 20, .inr (.inr (.inr (.inr (eoF r))))))] ++ rowsW k r ((rmH f h).2.2)) := hD
          refine lv_iinc (v := zI (((jj : Nat) : Int) + 1)) (lv' := [(2, .int (zI (((jj : Nat) : Int) + 1))), (0, .ref x9), (1, .int (zI x1))]) hx hb dX9_frame_38 hl (k := 2) rfl (zI_add _ _) (by decide) rfl (fun ls hl => ?_)
          refine lv_goto (tgt := 26) hx hb dX9_frame_41 (by decide) ?_
          have hl : lv_has ls 3 [(2, .int (zI (((jj + 1) : Nat) : Int))), (0, .ref x9), (1, .int (zI x1))] := lv_c (l1 := []) (l2 := [(0, .ref x9), (1, .int (zI x1))]) hl (show ((jj : Nat) : Int) + 1 = (((jj + 1) : Nat) : Int) from by omega)
          exact ih26 (jj + 1) (by omega) (by omega) _ _ hP hD hS ls (lv_sub hl [1, 2, 0] rfl)
    have hl : lv_has ls 3 [(2, .int (zI ((0 : Nat) : Int))), (0, .ref x9), (1, .int (zI x1))] := lv_c (l1 := []) (l2 := [(0, .ref x9), (1, .int (zI x1))]) hl (show 0 = ((0 : Nat) : Int) from rfl)
    exact L26 _ 0 (by omega) (Nat.lt_succ_self _) _ _ hP hD hS ls (lv_sub hl [1, 2, 0] rfl)
  · simp only [Bool.and_eq_false_iff, decide_eq_false_iff_not] at c_7
    refine lv_ldc hx hb hown (hts (.constant RX9 99 (-1000000002)) (by decide +kernel)) dX9_frame_10 ?_
    refine te (show (-1000000002 : Int32) = zI (-1000000002) from by decide +kernel) ?_
    exact W.iret hx hb hr (fun t ht hW => ⟨⟨_, (f, h), rfl, ⟨zc (by rw [if_neg (by omega)]), by rw [if_neg (by omega)]⟩, by show va_P D vwCl _ _; rw [ht]; exact hP⟩, hS.F ht⟩) hS.2.2 dX9_frame_12
set_option maxHeartbeats 4000000 in
set_option maxRecDepth 100000 in
theorem c_drift (l : Launch) (D : va_G) (k : Kt) (x9 : Nat) (h0 : Nat) (c0 : Nat) (h8 : Nat) (h4 : Nat) (h2 : Nat) (hh : Nat) (h3 : Nat) (h1 : Nat) (im : Nat) (sd : Nat) (kp : Nat) (f : St) (B : Int) (hV : Va B f) (eo : Nat) (r : Nat → Nat) (h : HT) (hh1 : h.1 < 20) (hh2 : h.2.1 ≤ 20) (vd : Int) (hvd : 0 ≤ vd ∧ vd < 2147483648) (x1 : Int) (hx1 : -2147483648 ≤ x1 ∧ x1 < 2147483648) : MI l D k yX9_drift wsX9_drift 3 82 [.ref x9, .int (zI x1)] ([(x9, .inr (9, [.ref h0, .ref h8, .ref h4, .ref h2, .ref hh, .ref h3, .ref h1, .ref im, .ref sd, .ref kp])), (h0, .inr (7, [.ref c0])), (c0, .inl (k.1, 132, .inl (zF f))), (h1, .inr (1, [.int (zI vd)])), (hh, .inr (3, [.ref eo, .int (zI ((h.1 : Nat) : Int)), .int (zI ((h.2.1 : Nat) : Int))])), (eo, .inl (k.2.2.2, 20, .inr (.inr (.inr (.inr (eoF r))))))] ++ rowsW k r h.2.2) (fun (r : Int32) (u : Int × St × HT) => r = zI (if 1 ≤ x1 ∧ x1 ≤ 12 then (dri f vd x1.toNat).1 0 else -1000000002) ∧ u = if 1 ≤ x1 ∧ x1 ≤ 12 then ((dri f vd x1.toNat).2.1, (dri f vd x1.toNat).1, drH f vd h x1.toNat) else (vd, f, h)) (fun u => ([(x9, .inr (9, [.ref h0, .ref h8, .ref h4, .ref h2, .ref hh, .ref h3, .ref h1, .ref im, .ref sd, .ref kp])), (h0, .inr (7, [.ref c0])), (c0, .inl (k.1, 132, .inl (zF u.2.1))), (h1, .inr (1, [.int (zI u.1)])), (hh, .inr (3, [.ref eo, .int (zI ((u.2.2.1 : Nat) : Int)), .int (zI ((u.2.2.2.1 : Nat) : Int))])), (eo, .inl (k.2.2.2, 20, .inr (.inr (.inr (.inr (eoF r))))))] ++ rowsW k r u.2.2.2.2)) := by
  refine Met.ofW (cc := cX9_drift) (maxL := 3) (ret := (some .int)) (by decide) rfl ?_
  intro p e s m args below meth c s₁ Bd hml hv
  obtain ⟨rfl, hP, hK, hD0⟩ := hv
  have hx := Bd.exec
  have hb := Bd.bytes
  have hr := Bd.returns
  have hts := atoms_spec (ws := wsX9_drift) Bd.pre
  have hown : s.vm.findClass RX9 = some m.cls := findClass_of_methodNamed Bd.named
  have hlocks := Bd.notSynchronized
  have hSf : CallFix p m c cX9_drift 3 s ([.ref x9, .int (zI x1)] : List Value).toArray wsX9_drift RX9 := ⟨hx, hb, hml, hown, hts⟩
  have hD := fA_D hD0
  have hS : va_S (fA ([(x9, .inr (9, [.ref h0, .ref h8, .ref h4, .ref h2, .ref hh, .ref h3, .ref h1, .ref im, .ref sd, .ref kp])), (h0, .inr (7, [.ref c0])), (c0, .inl (k.1, 132, .inl (zF f))), (h1, .inr (1, [.int (zI vd)])), (hh, .inr (3, [.ref eo, .int (zI ((h.1 : Nat) : Int)), .int (zI ((h.2.1 : Nat) : Int))])), (eo, .inl (k.2.2.2, 20, .inr (.inr (.inr (.inr (eoF r))))))] ++ rowsW k r h.2.2)) s.heap s.heap [] := va_S.rf
  generalize hAe : fA ([(x9, .inr (9, [.ref h0, .ref h8, .ref h4, .ref h2, .ref hh, .ref h3, .ref h1, .ref im, .ref sd, .ref kp])), (h0, .inr (7, [.ref c0])), (c0, .inl (k.1, 132, .inl (zF f))), (h1, .inr (1, [.int (zI vd)])), (hh, .inr (3, [.ref eo, .int (zI ((h.1 : Nat) : Int)), .int (zI ((h.2.1 : Nat) : Int))])), (eo, .inl (k.2.2.2, 20, .inr (.inr (.inr (.inr (eoF r))))))] ++ rowsW k r h.2.2) = A at hD hS ⊢
  have hP : va_P D vwCl ([(x9, .inr (9, [.ref h0, .ref h8, .ref h4, .ref h2, .ref hh, .ref h3, .ref h1, .ref im, .ref sd, .ref kp])), (h0, .inr (7, [.ref c0])), (c0, .inl (k.1, 132, .inl (zF f))), (h1, .inr (1, [.int (zI vd)])), (hh, .inr (3, [.ref eo, .int (zI ((h.1 : Nat) : Int)), .int (zI ((h.2.1 : Nat) : Int))])), (eo, .inl (k.2.2.2, 20, .inr (.inr (.inr (.inr (eoF r))))))] ++ rowsW k r h.2.2) s.heap := hP
  have hinX9 : ∀ w ∈ u_ws RX9 TX9 10, w ∈ wsX9_drift := by decide +kernel
  have fl10 := hts (.fieldLink RX9 10 "DotObjects" "scene" "LDotObjects$Scene;") (by decide +kernel)
  have fl40 := hts (.fieldLink RX9 40 "DotObjects" "history" "LDotObjects$History;") (by decide +kernel)
  have fl54 := hts (.fieldLink RX9 54 "DotObjects" "draws" "LDotObjects$Draws;") (by decide +kernel)
  have hl := lv_entry ([.ref x9, .int (zI x1)]) (n := 3) (Nat.le_of_ble_eq_true rfl)
  rw [lg_entry_eq]
  generalize (lg_sl ([.ref x9, .int (zI x1)]) ++ List.replicate (3 - (lg_sl ([.ref x9, .int (zI x1)])).length) Slot.unset).toArray = ls at hl ⊢
  have hl : lv_has ls 3 [(0, .ref x9), (1, .int (zI x1))] := hl
  refine lv_iload_n hx hb dX9_drift_0 rfl (lv_at hl 1 rfl) ?_
  refine z_iconst hx hb dX9_drift_1 ?_
  refine z_bipush hx hb dX9_drift_2 (by decide +kernel) ?_
  refine roS (n := 3) (As := [.int (zI x1), .int (zI 1), .int (zI 12)]) (rest := []) hSf (c_isWithin l D k x1 1 12 (by omega) (by omega) (by omega)) gX9_drift_X9_isWithin rfl (by decide +kernel) ⟨Nat.le_of_ble_eq_true rfl, Nat.le_of_ble_eq_true rfl⟩ hK hP [] rfl rfl hl.1 rfl (Nat.le_of_ble_eq_true rfl) dX9_drift_4 ⟨Nat.zero_le _, Nat.zero_le _⟩ (fun r_4 h_4 => ?_)
  subst h_4
  refine z_if_neb (tgt := 13) hx hb dX9_drift_7 (by decide) (fun c_7 => ?_) (fun c_7 => ?_)
  · simp only [Bool.and_eq_true, decide_eq_true_eq] at c_7
    refine z_iconst hx hb dX9_drift_13 ?_
    refine lv_istore_n (lv' := [(2, .int (zI 0)), (0, .ref x9), (1, .int (zI x1))]) hx hb dX9_drift_14 rfl hl (by decide) rfl (fun ls hl => ?_)
    have L15 : ∀ (NN15 : Nat), ∀ (jj : Nat), ((jj : Int) ≤ x1) → x1.toNat - jj < NN15 → ∀ (H : Heap) (locs : List Loc), va_P D vwCl ([(x9, .inr (9, [.ref h0, .ref h8, .ref h4, .ref h2, .ref hh, .ref h3, .ref h1, .ref im, .ref sd, .ref kp])), (h0, .inr (7, [.ref c0])), (c0, .inl (k.1, 132, .inl (zF ((dri f vd jj).1)))), (h1, .inr (1, [.int (zI ((dri f vd jj).2.1))])), (hh, .inr (3, [.ref eo, .int (zI (((drH f vd h jj).1 : Nat) : Int)), .int (zI (((drH f vd h jj).2.1 : Nat) : Int))])), (eo, .inl (k.2.2.2, 20, .inr (.inr (.inr (.inr (eoF r))))))] ++ rowsW k r ((drH f vd h jj).2.2)) H → va_D A ([(x9, .inr (9, [.ref h0, .ref h8, .ref h4, .ref h2, .ref hh, .ref h3, .ref h1, .ref im, .ref sd, .ref kp])), (h0, .inr (7, [.ref c0])), (c0, .inl (k.1, 132, .inl (zF ((dri f vd jj).1)))), (h1, .inr (1, [.int (zI ((dri f vd jj).2.1))])), (hh, .inr (3, [.ref eo, .int (zI (((drH f vd h jj).1 : Nat) : Int)), .int (zI (((drH f vd h jj).2.1 : Nat) : Int))])), (eo, .inl (k.2.2.2, 20, .inr (.inr (.inr (.inr (eoF r))))))] ++ rowsW k r ((drH f vd h jj).2.2)) → va_S A s.heap H locs → ∀ (ls : Array Slot), lv_has ls 3 [(0, .ref x9), (1, .int (zI x1)), (2, .int (zI ((jj : Nat) : Int)))] → W p l e (headSpec wsX9_drift { frames := 3, cells := 0, slots := 0, locals := 82 }).room s m ([.ref x9, .int (zI x1)] : List Value).toArray below meth c H locs 0 0 (MQ below (va_Qi (fun (r : Int32) (u : Int × St × HT) => r = zI (if 1 ≤ x1 ∧ x1 ≤ 12 then (dri f vd x1.toNat).1 0 else -1000000002) ∧ u = if 1 ≤ x1 ∧ x1 ≤ 12 then ((dri f vd x1.toNat).2.1, (dri f vd x1.toNat).1, drH f vd h x1.toNat) else (vd, f, h)) (fun (u : Int × St × HT) t => va_P D vwCl ([(x9, .inr (9, [.ref h0, .ref h8, .ref h4, .ref h2, .ref hh, .ref h3, .ref h1, .ref im, .ref sd, .ref kp])), (h0, .inr (7, [.ref c0])), (c0, .inl (k.1, 132, .inl (zF u.2.1))), (h1, .inr (1, [.int (zI u.1)])), (hh, .inr (3, [.ref eo, .int (zI ((u.2.2.1 : Nat) : Int)), .int (zI ((u.2.2.2.1 : Nat) : Int))])), (eo, .inl (k.2.2.2, 20, .inr (.inr (.inr (.inr (eoF r))))))] ++ rowsW k r u.2.2.2.2) t.heap) A) ([.ref x9, .int (zI x1)] : List Value).toArray s 0 0 A) (F0 m 15 ls []) := by
      intro NN15
      induction NN15 with
      | zero => intro jj _ hN; exact absurd hN (Nat.not_lt_zero _)
      | succ NN15 ih15 =>
        intro jj hjj hN H locs hP hD hS ls hl
        refine lv_iload_n hx hb dX9_drift_15 rfl (lv_at hl 2 rfl) ?_
        refine lv_iload_n hx hb dX9_drift_16 rfl (lv_at hl 1 rfl) ?_
        refine z_icmp_ge (tgt := 58) hx hb dX9_drift_17 (by decide) (by omega) (by omega) (fun c_17 => ?_) (fun c_17 => ?_)
        · have hjx : jj = x1.toNat := by omega
          refine lv_aload_n hx hb dX9_drift_58 rfl (lv_at hl 0 rfl) ?_
          refine va_get (D := D) (ci := 9) (v := .ref h0) (C := RX9) (T := TX9) (N := 10) hx hb hts hinX9 hown hK.1 hP 0 rfl rfl 0 (by decide) fl10 (fun _ h9 => h9) rfl dX9_drift_59 ?_
          refine z_iconst hx hb dX9_drift_62 ?_
          refine roV (n := 1) (As := [.int (zI ((0 : Nat) : Int))]) (rest := []) hSf (c_cell l D k h0 c0 ((dri f vd jj).1) 0 (by omega)) gX9_drift_X7_cell rfl (by decide +kernel) ⟨Nat.le_of_ble_eq_true rfl, Nat.le_of_ble_eq_true rfl⟩ hK hP [1, 2] rfl 0 rfl rfl rfl hl.1 (by rw [show zI 0 = zI ((0 : Nat) : Int) from zc (by omega)]; rfl) (Nat.le_of_ble_eq_true rfl) dX9_drift_63 ⟨Nat.zero_le _, Nat.zero_le _⟩ (fun r_63 h_63 => ?_)
          subst h_63
          rw [hjx] at hP
          exact W.iret hx hb hr (fun t ht hW => ⟨⟨_, ((dri f vd x1.toNat).2.1, (dri f vd x1.toNat).1, drH f vd h x1.toNat), rfl, ⟨zc (by rw [if_pos (by omega), hjx]), by rw [if_pos (by omega)]⟩, by show va_P D vwCl _ _; rw [ht]; exact hP⟩, hS.F ht⟩) hS.2.2 dX9_drift_66
        · refine lv_aload_n hx hb dX9_drift_20 rfl (lv_at hl 0 rfl) ?_
          refine va_get (D := D) (ci := 9) (v := .ref h0) (C := RX9) (T := TX9) (N := 10) hx hb hts hinX9 hown hK.1 hP 0 rfl rfl 0 (by decide) fl10 (fun _ h9 => h9) rfl dX9_drift_21 ?_
          refine roV (n := 0) (As := []) (rest := []) hSf (c_isFull l D k h0 c0 ((dri f vd jj).1) B ((Va_dri hV hvd jj).1)) gX9_drift_X7_isFull rfl (by decide +kernel) ⟨Nat.le_of_ble_eq_true rfl, Nat.le_of_ble_eq_true rfl⟩ hK hP [1, 2] rfl 0 rfl rfl rfl hl.1 rfl (Nat.le_of_ble_eq_true rfl) dX9_drift_24 ⟨Nat.zero_le _, Nat.zero_le _⟩ (fun r_24 h_24 => ?_)
          subst h_24
          refine z_if_neb (tgt := 58) hx hb dX9_drift_27 (by decide) (fun c_27 => ?_) (fun c_27 => ?_)
          · simp only [decide_eq_true_eq] at c_27
            obtain ⟨hf1, hf2⟩ := dri_full (h0 := h) (show ¬ nT (dri f vd jj).1 < 12 by omega) (x1.toNat - jj)
            rw [show jj + (x1.toNat - jj) = x1.toNat by omega] at hf1 hf2
            refine lv_aload_n hx hb dX9_drift_58 rfl (lv_at hl 0 rfl) ?_
            refine va_get (D := D) (ci := 9) (v := .ref h0) (C := RX9) (T := TX9) (N := 10) hx hb hts hinX9 hown hK.1 hP 0 rfl rfl 0 (by decide) fl10 (fun _ h9 => h9) rfl dX9_drift_59 ?_
            refine z_iconst hx hb dX9_drift_62 ?_
            refine roV (n := 1) (As := [.int (zI ((0 : Nat) : Int))]) (rest := []) hSf (c_cell l D k h0 c0 ((dri f vd jj).1) 0 (by omega)) gX9_drift_X7_cell rfl (by decide +kernel) ⟨Nat.le_of_ble_eq_true rfl, Nat.le_of_ble_eq_true rfl⟩ hK hP [1, 2] rfl 0 rfl rfl rfl hl.1 (by rw [show zI 0 = zI ((0 : Nat) : Int) from zc (by omega)]; rfl) (Nat.le_of_ble_eq_true rfl) dX9_drift_63 ⟨Nat.zero_le _, Nat.zero_le _⟩ (fun r_63 h_63 => ?_)
            subst h_63
            rw [← hf1, ← hf2] at hP
            exact W.iret hx hb hr (fun t ht hW => ⟨⟨_, ((dri f vd x1.toNat).2.1, (dri f vd x1.toNat).1, drH f vd h x1.toNat), rfl, ⟨zc (by rw [if_pos (by omega), hf1]), by rw [if_pos (by omega)]⟩, by show va_P D vwCl _ _; rw [ht]; exact hP⟩, hS.F ht⟩) hS.2.2 dX9_drift_66
          · simp only [decide_eq_false_iff_not, Nat.not_le] at c_27
            refine lv_aload_n hx hb dX9_drift_30 rfl (lv_at hl 0 rfl) ?_
            refine va_get (D := D) (ci := 9) (v := .ref hh) (C := RX9) (T := TX9) (N := 10) hx hb hts hinX9 hown hK.1 hP 0 rfl rfl 4 (by decide) fl40 (fun _ h9 => h9) rfl dX9_drift_31 ?_
            refine lv_aload_n hx hb dX9_drift_34 rfl (lv_at hl 0 rfl) ?_
            refine va_get (D := D) (ci := 9) (v := .ref h0) (C := RX9) (T := TX9) (N := 10) hx hb hts hinX9 hown hK.1 hP 0 rfl rfl 0 (by decide) fl10 (fun _ h9 => h9) rfl dX9_drift_35 ?_
            refine muVR (base := [(x9, .inr (9, [.ref h0, .ref h8, .ref h4, .ref h2, .ref hh, .ref h3, .ref h1, .ref im, .ref sd, .ref kp])), (h0, .inr (7, [.ref c0])), (c0, .inl (k.1, 132, .inl (zF ((dri f vd jj).1)))), (h1, .inr (1, [.int (zI ((dri f vd jj).2.1))])), (hh, .inr (3, [.ref eo, .int (zI (((drH f vd h jj).1 : Nat) : Int)), .int (zI (((drH f vd h jj).2.1 : Nat) : Int))])), (eo, .inl (k.2.2.2, 20, .inr (.inr (.inr (.inr (eoF r))))))]) (wcb := [(h0, .inr (7, [.ref c0])), (c0, .inl (k.1, 132, .inl (zF ((dri f vd jj).1)))), (hh, .inr (3, [.ref eo, .int (zI ((((drH f vd h jj).1) : Nat) : Int)), .int (zI ((((drH f vd h jj).2.1) : Nat) : Int))])), (eo, .inl (k.2.2.2, 20, .inr (.inr (.inr (.inr (eoF r))))))]) (rows := rowsW k r ((drH f vd h jj).2.2)) (w' := fun (u : Unit) => [(h0, .inr (7, [.ref c0])), (c0, .inl (k.1, 132, .inl (zF ((dri f vd jj).1)))), (hh, .inr (3, [.ref eo, .int (zI (((((drH f vd h jj).1) + 1) % 20 : Nat) : Int)), .int (zI ((min (((drH f vd h jj).2.1) + 1) 20 : Nat) : Int))])), (eo, .inl (k.2.2.2, 20, .inr (.inr (.inr (.inr (eoF r))))))]) (rw' := fun (u : Unit) => rowsW k r (upE ((drH f vd h jj).2.2) ((drH f vd h jj).1) (cpZ ((dri f vd jj).1) (((drH f vd h jj).2.2) ((drH f vd h jj).1)) 0 0 132))) (n := 1) (As := [.ref h0]) (rest := []) hSf (c_remember l D k h0 c0 ((dri f vd jj).1) hh eo r ((drH f vd h jj).1) ((drH f vd h jj).2.1) ((drH f vd h jj).2.2) ((drH_ok ⟨hh1, hh2⟩ jj).1) ((drH_ok ⟨hh1, hh2⟩ jj).2)) gX9_drift_X3_remember rfl (by decide +kernel) ⟨Nat.le_of_ble_eq_true rfl, Nat.le_of_ble_eq_true rfl⟩ hK hP hD hS [1, 2, 4, 5] rfl (by decide) (fun _ => rfl) (fun _ => rfl) (fun _ => rowsW_fst _ _ _ _) 2 rfl rfl rfl hl.1 rfl (Nat.le_of_ble_eq_true rfl) dX9_drift_38 ⟨Nat.zero_le _, Nat.zero_le _⟩ (fun u_38 H locs h_38 hP hD hS => ?_)
            have hP : va_P D vwCl ([(x9, .inr (9, [.ref h0, .ref h8, .ref h4, .ref h2, .ref hh, .ref h3, .ref h1, .ref im, .ref sd, .ref kp])), (h0, .inr (7, [.ref c0])), (c0, .inl (k.1, 132, .inl (zF ((dri f vd jj).1)))), (h1, .inr (1, [.int (zI ((dri f vd jj).2.1))])), (hh, .inr (3, [.ref eo, .int (zI (((((drH f vd h jj).1) + 1) % 20 : Nat) : Int)), .int (zI ((min (((drH f vd h jj).2.1) + 1) 20 : Nat) : Int))])), (eo, .inl (k.2.2.2, 20, .inr (.inr (.inr (.inr (eoF r))))))] ++ rowsW k r (upE ((drH f vd h jj).2.2) ((drH f vd h jj).1) (cpZ ((dri f vd jj).1) (((drH f vd h jj).2.2) ((drH f vd h jj).1)) 0 0 132))) H := hP
            have hD : va_D A ([(x9, .inr (9, [.ref h0, .ref h8, .ref h4, .ref h2, .ref hh, .ref h3, .ref h1, .ref im, .ref sd, .ref kp])), (h0, .inr (7, [.ref c0])), (c0, .inl (k.1, 132, .inl (zF ((dri f vd jj).1)))), (h1, .inr (1, [.int (zI ((dri f vd jj).2.1))])), (hh, .inr (3, [.ref eo, .int (zI (((((drH f vd h jj).1) + 1) % 20 : Nat) : Int)), .int (zI ((min (((drH f vd h jj).2.1) + 1) 20 : Nat) : Int))])), (eo, .inl (k.2.2.2, 20, .inr (.inr (.inr (.inr (eoF r))))))] ++ rowsW k r (upE ((drH f vd h jj).2.2) ((drH f vd h jj).1) (cpZ ((dri f vd jj).1) (((drH f vd h jj).2.2) ((drH f vd h jj).1)) 0 0 132))) := hD
            refine lv_aload_n hx hb dX9_drift_41 rfl (lv_at hl 0 rfl) ?_
            refine va_get (D := D) (ci := 9) (v := .ref h1) (C := RX9) (T := TX9) (N := 10) hx hb hts hinX9 hown hK.1 hP 0 rfl rfl 6 (by decide) fl54 (fun _ h9 => h9) rfl dX9_drift_42 ?_
            refine lv_aload_n hx hb dX9_drift_45 rfl (lv_at hl 0 rfl) ?_
            refine va_get (D := D) (ci := 9) (v := .ref h0) (C := RX9) (T := TX9) (N := 10) hx hb hts hinX9 hown hK.1 hP 0 rfl rfl 0 (by decide) fl10 (fun _ h9 => h9) rfl dX9_drift_46 ?_
            refine muV (n := 1) (As := [.ref h0]) (rest := []) hSf (c_addThing l D k h0 c0 ((dri f vd jj).1) B ((Va_dri hV hvd jj).1) h1 ((dri f vd jj).2.1) ((Va_dri hV hvd jj).2) (by omega)) gX9_drift_X1_addThing rfl (by decide +kernel) ⟨Nat.le_of_ble_eq_true rfl, Nat.le_of_ble_eq_true rfl⟩ hK hP hD hS [1, 2, 3] rfl rfl (by decide) (fun _ => rfl) (fun _ => rfl) 2 rfl rfl rfl hl.1 rfl (Nat.le_of_ble_eq_true rfl) dX9_drift_49 ⟨Nat.zero_le _, Nat.zero_le _⟩ (fun u_49 H locs h_49 hP hD hS => ?_)
            have hP : va_P D vwCl ([(x9, .inr (9, [.ref h0, .ref h8, .ref h4, .ref h2, .ref hh, .ref h3, .ref h1, .ref im, .ref sd, .ref kp])), (h0, .inr (7, [.ref c0])), (c0, .inl (k.1, 132, .inl (zF (dfZ ((dri f vd jj).1) ((dri f vd jj).2.1))))), (h1, .inr (1, [.int (zI (nxI ((dri f vd jj).2.1) 6))])), (hh, .inr (3, [.ref eo, .int (zI (((((drH f vd h jj).1) + 1) % 20 : Nat) : Int)), .int (zI ((min (((drH f vd h jj).2.1) + 1) 20 : Nat) : Int))])), (eo, .inl (k.2.2.2, 20, .inr (.inr (.inr (.inr (eoF r))))))] ++ rowsW k r (upE ((drH f vd h jj).2.2) ((drH f vd h jj).1) (cpZ ((dri f vd jj).1) (((drH f vd h jj).2.2) ((drH f vd h jj).1)) 0 0 132))) H := hP
            have hD : va_D A ([(x9, .inr (9, [.ref h0, .ref h8, .ref h4, .ref h2, .ref hh, .ref h3, .ref h1, .ref im, .ref sd, .ref kp])), (h0, .inr (7, [.ref c0])), (c0, .inl (k.1, 132, .inl (zF (dfZ ((dri f vd jj).1) ((dri f vd jj).2.1))))), (h1, .inr (1, [.int (zI (nxI ((dri f vd jj).2.1) 6))])), (hh, .inr (3, [.ref eo, .int (zI (((((drH f vd h jj).1) + 1) % 20 : Nat) : Int)), .int (zI ((min (((drH f vd h jj).2.1) + 1) 20 : Nat) : Int))])), (eo, .inl (k.2.2.2, 20, .inr (.inr (.inr (.inr (eoF r))))))] ++ rowsW k r (upE ((drH f vd h jj).2.2) ((drH f vd h jj).1) (cpZ ((dri f vd jj).1) (((drH f vd h jj).2.2) ((drH f vd h jj).1)) 0 0 132))) := hD
            refine lv_iinc (v := zI (((jj : Nat) : Int) + 1)) (lv' := [(2, .int (zI (((jj : Nat) : Int) + 1))), (0, .ref x9), (1, .int (zI x1))]) hx hb dX9_drift_52 hl (k := 2) rfl (zI_add _ _) (by decide) rfl (fun ls hl => ?_)
            refine lv_goto (tgt := 15) hx hb dX9_drift_55 (by decide) ?_
            have hl : lv_has ls 3 [(2, .int (zI (((jj + 1) : Nat) : Int))), (0, .ref x9), (1, .int (zI x1))] := lv_c (l1 := []) (l2 := [(0, .ref x9), (1, .int (zI x1))]) hl (show ((jj : Nat) : Int) + 1 = (((jj + 1) : Nat) : Int) from by omega)
            exact ih15 (jj + 1) (by omega) (by omega) _ _ (by rw [dri_t c_27, drH_t c_27]; exact hP) (by rw [dri_t c_27, drH_t c_27]; exact hD) hS ls (lv_sub hl [1, 2, 0] rfl)
    have hl : lv_has ls 3 [(2, .int (zI ((0 : Nat) : Int))), (0, .ref x9), (1, .int (zI x1))] := lv_c (l1 := []) (l2 := [(0, .ref x9), (1, .int (zI x1))]) hl (show 0 = ((0 : Nat) : Int) from rfl)
    exact L15 _ 0 (by omega) (Nat.lt_succ_self _) _ _ hP hD hS ls (lv_sub hl [1, 2, 0] rfl)
  · simp only [Bool.and_eq_false_iff, decide_eq_false_iff_not] at c_7
    refine lv_ldc hx hb hown (hts (.constant RX9 99 (-1000000002)) (by decide +kernel)) dX9_drift_10 ?_
    refine te (show (-1000000002 : Int32) = zI (-1000000002) from by decide +kernel) ?_
    exact W.iret hx hb hr (fun t ht hW => ⟨⟨_, (vd, f, h), rfl, ⟨zc (by rw [if_neg (by omega)]), by rw [if_neg (by omega)]⟩, by show va_P D vwCl _ _; rw [ht]; exact hP⟩, hS.F ht⟩) hS.2.2 dX9_drift_12
set_option maxHeartbeats 4000000 in
set_option maxRecDepth 100000 in
theorem c_undo (l : Launch) (D : va_G) (k : Kt) (x9 : Nat) (h0 : Nat) (c0 : Nat) (h8 : Nat) (h4 : Nat) (h2 : Nat) (hh : Nat) (h3 : Nat) (h1 : Nat) (im : Nat) (sd : Nat) (kp : Nat) (f : St) (B : Int) (hV : Va B f) (eo : Nat) (r : Nat → Nat) (h : HT) (hh1 : h.1 < 20) (hh2 : h.2.1 ≤ 20) (x1 : Int) (hx1 : -2147483648 ≤ x1 ∧ x1 < 2147483648) : MI l D k yX9_undo wsX9_undo 3 83 [.ref x9, .int (zI x1)] ([(x9, .inr (9, [.ref h0, .ref h8, .ref h4, .ref h2, .ref hh, .ref h3, .ref h1, .ref im, .ref sd, .ref kp])), (h0, .inr (7, [.ref c0])), (c0, .inl (k.1, 132, .inl (zF f))), (hh, .inr (3, [.ref eo, .int (zI ((h.1 : Nat) : Int)), .int (zI ((h.2.1 : Nat) : Int))])), (eo, .inl (k.2.2.2, 20, .inr (.inr (.inr (.inr (eoF r))))))] ++ rowsW k r h.2.2) (fun (r : Int32) (u : St × HT) => r = zI (if 1 ≤ x1 ∧ x1 ≤ 20 then (if x1 ≤ (h.2.1 : Int) then h.2.2 ((h.1 + 20 - x1.toNat) % 20) 0 else -1000000003) else -1000000002) ∧ u = if (1 ≤ x1 ∧ x1 ≤ 20) ∧ x1 ≤ (h.2.1 : Int) then (cpZ (h.2.2 ((h.1 + 20 - x1.toNat) % 20)) f 0 0 132, ((h.1 + 20 - x1.toNat) % 20), h.2.1 - x1.toNat, h.2.2) else (f, h)) (fun u => ([(x9, .inr (9, [.ref h0, .ref h8, .ref h4, .ref h2, .ref hh, .ref h3, .ref h1, .ref im, .ref sd, .ref kp])), (h0, .inr (7, [.ref c0])), (c0, .inl (k.1, 132, .inl (zF u.1))), (hh, .inr (3, [.ref eo, .int (zI ((u.2.1 : Nat) : Int)), .int (zI ((u.2.2.1 : Nat) : Int))])), (eo, .inl (k.2.2.2, 20, .inr (.inr (.inr (.inr (eoF r))))))] ++ rowsW k r u.2.2.2)) := by
  refine Met.ofW (cc := cX9_undo) (maxL := 2) (ret := (some .int)) (by decide) rfl ?_
  intro p e s m args below meth c s₁ Bd hml hv
  obtain ⟨rfl, hP, hK, hD0⟩ := hv
  have hx := Bd.exec
  have hb := Bd.bytes
  have hr := Bd.returns
  have hts := atoms_spec (ws := wsX9_undo) Bd.pre
  have hown : s.vm.findClass RX9 = some m.cls := findClass_of_methodNamed Bd.named
  have hlocks := Bd.notSynchronized
  have hSf : CallFix p m c cX9_undo 2 s ([.ref x9, .int (zI x1)] : List Value).toArray wsX9_undo RX9 := ⟨hx, hb, hml, hown, hts⟩
  have hD := fA_D hD0
  have hS : va_S (fA ([(x9, .inr (9, [.ref h0, .ref h8, .ref h4, .ref h2, .ref hh, .ref h3, .ref h1, .ref im, .ref sd, .ref kp])), (h0, .inr (7, [.ref c0])), (c0, .inl (k.1, 132, .inl (zF f))), (hh, .inr (3, [.ref eo, .int (zI ((h.1 : Nat) : Int)), .int (zI ((h.2.1 : Nat) : Int))])), (eo, .inl (k.2.2.2, 20, .inr (.inr (.inr (.inr (eoF r))))))] ++ rowsW k r h.2.2)) s.heap s.heap [] := va_S.rf
  generalize hAe : fA ([(x9, .inr (9, [.ref h0, .ref h8, .ref h4, .ref h2, .ref hh, .ref h3, .ref h1, .ref im, .ref sd, .ref kp])), (h0, .inr (7, [.ref c0])), (c0, .inl (k.1, 132, .inl (zF f))), (hh, .inr (3, [.ref eo, .int (zI ((h.1 : Nat) : Int)), .int (zI ((h.2.1 : Nat) : Int))])), (eo, .inl (k.2.2.2, 20, .inr (.inr (.inr (.inr (eoF r))))))] ++ rowsW k r h.2.2) = A at hD hS ⊢
  have hP : va_P D vwCl ([(x9, .inr (9, [.ref h0, .ref h8, .ref h4, .ref h2, .ref hh, .ref h3, .ref h1, .ref im, .ref sd, .ref kp])), (h0, .inr (7, [.ref c0])), (c0, .inl (k.1, 132, .inl (zF f))), (hh, .inr (3, [.ref eo, .int (zI ((h.1 : Nat) : Int)), .int (zI ((h.2.1 : Nat) : Int))])), (eo, .inl (k.2.2.2, 20, .inr (.inr (.inr (.inr (eoF r))))))] ++ rowsW k r h.2.2) s.heap := hP
  have hinX9 : ∀ w ∈ u_ws RX9 TX9 10, w ∈ wsX9_undo := by decide +kernel
  have fl40 := hts (.fieldLink RX9 40 "DotObjects" "history" "LDotObjects$History;") (by decide +kernel)
  have fl10 := hts (.fieldLink RX9 10 "DotObjects" "scene" "LDotObjects$Scene;") (by decide +kernel)
  have hl := lv_entry ([.ref x9, .int (zI x1)]) (n := 2) (Nat.le_of_ble_eq_true rfl)
  rw [lg_entry_eq]
  generalize (lg_sl ([.ref x9, .int (zI x1)]) ++ List.replicate (2 - (lg_sl ([.ref x9, .int (zI x1)])).length) Slot.unset).toArray = ls at hl ⊢
  have hl : lv_has ls 2 [(0, .ref x9), (1, .int (zI x1))] := hl
  refine lv_iload_n hx hb dX9_undo_0 rfl (lv_at hl 1 rfl) ?_
  refine z_iconst hx hb dX9_undo_1 ?_
  refine z_bipush hx hb dX9_undo_2 (by decide +kernel) ?_
  refine roS (n := 3) (As := [.int (zI x1), .int (zI 1), .int (zI 20)]) (rest := []) hSf (c_isWithin l D k x1 1 20 (by omega) (by omega) (by omega)) gX9_undo_X9_isWithin rfl (by decide +kernel) ⟨Nat.le_of_ble_eq_true rfl, Nat.le_of_ble_eq_true rfl⟩ hK hP [] rfl rfl hl.1 rfl (Nat.le_of_ble_eq_true rfl) dX9_undo_4 ⟨Nat.zero_le _, Nat.zero_le _⟩ (fun r_4 h_4 => ?_)
  subst h_4
  refine z_if_neb (tgt := 13) hx hb dX9_undo_7 (by decide) (fun c_7 => ?_) (fun c_7 => ?_)
  · simp only [Bool.and_eq_true, decide_eq_true_eq] at c_7
    refine lv_iload_n hx hb dX9_undo_13 rfl (lv_at hl 1 rfl) ?_
    refine lv_aload_n hx hb dX9_undo_14 rfl (lv_at hl 0 rfl) ?_
    refine va_get (D := D) (ci := 9) (v := .ref hh) (C := RX9) (T := TX9) (N := 10) hx hb hts hinX9 hown hK.1 hP 0 rfl rfl 4 (by decide) fl40 (fun _ h9 => h9) rfl dX9_undo_15 ?_
    refine roV (n := 0) (As := []) (rest := [.int (zI x1)]) hSf (c_hsize l D k hh eo h.1 h.2.1) gX9_undo_X3_size rfl (by decide +kernel) ⟨Nat.le_of_ble_eq_true rfl, Nat.le_of_ble_eq_true rfl⟩ hK hP [3] rfl 0 rfl rfl rfl hl.1 rfl (Nat.le_of_ble_eq_true rfl) dX9_undo_18 ⟨Nat.zero_le _, Nat.zero_le _⟩ (fun r_18 h_18 => ?_)
    subst h_18
    refine z_icmp_le (tgt := 27) hx hb dX9_undo_21 (by decide) (by omega) (by omega) (fun c_21 => ?_) (fun c_21 => ?_)
    · refine lv_aload_n hx hb dX9_undo_27 rfl (lv_at hl 0 rfl) ?_
      refine va_get (D := D) (ci := 9) (v := .ref hh) (C := RX9) (T := TX9) (N := 10) hx hb hts hinX9 hown hK.1 hP 0 rfl rfl 4 (by decide) fl40 (fun _ h9 => h9) rfl dX9_undo_28 ?_
      refine lv_aload_n hx hb dX9_undo_31 rfl (lv_at hl 0 rfl) ?_
      refine va_get (D := D) (ci := 9) (v := .ref h0) (C := RX9) (T := TX9) (N := 10) hx hb hts hinX9 hown hK.1 hP 0 rfl rfl 0 (by decide) fl10 (fun _ h9 => h9) rfl dX9_undo_32 ?_
      refine lv_iload_n hx hb dX9_undo_35 rfl (lv_at hl 1 rfl) ?_
      refine muVR (base := [(x9, .inr (9, [.ref h0, .ref h8, .ref h4, .ref h2, .ref hh, .ref h3, .ref h1, .ref im, .ref sd, .ref kp])), (h0, .inr (7, [.ref c0])), (c0, .inl (k.1, 132, .inl (zF f))), (hh, .inr (3, [.ref eo, .int (zI ((h.1 : Nat) : Int)), .int (zI ((h.2.1 : Nat) : Int))])), (eo, .inl (k.2.2.2, 20, .inr (.inr (.inr (.inr (eoF r))))))]) (wcb := [(h0, .inr (7, [.ref c0])), (c0, .inl (k.1, 132, .inl (zF f))), (hh, .inr (3, [.ref eo, .int (zI ((h.1 : Nat) : Int)), .int (zI ((h.2.1 : Nat) : Int))])), (eo, .inl (k.2.2.2, 20, .inr (.inr (.inr (.inr (eoF r))))))]) (rows := rowsW k r h.2.2) (w' := fun (u : Unit) => [(h0, .inr (7, [.ref c0])), (c0, .inl (k.1, 132, .inl (zF (cpZ (h.2.2 ((h.1 + 20 - x1.toNat) % 20)) f 0 0 132)))), (hh, .inr (3, [.ref eo, .int (zI (((h.1 + 20 - x1.toNat) % 20 : Nat) : Int)), .int (zI ((h.2.1 - x1.toNat : Nat) : Int))])), (eo, .inl (k.2.2.2, 20, .inr (.inr (.inr (.inr (eoF r))))))]) (rw' := fun (u : Unit) => rowsW k r h.2.2) (n := 2) (As := [.ref h0, .int (zI ((x1.toNat : Nat) : Int))]) (rest := []) hSf (c_bringBack l D k h0 c0 f hh eo r h.1 h.2.1 h.2.2 x1.toNat hh1 hh2 (by omega)) gX9_undo_X3_bringBack rfl (by decide +kernel) ⟨Nat.le_of_ble_eq_true rfl, Nat.le_of_ble_eq_true rfl⟩ hK hP hD hS [1, 2, 3, 4] rfl (by decide) (fun _ => rfl) (fun _ => rfl) (fun _ => rowsW_fst _ _ _ _) 2 rfl rfl rfl hl.1 (by rw [show zI x1 = zI ((x1.toNat : Nat) : Int) from zc (by omega)]; rfl) (Nat.le_of_ble_eq_true rfl) dX9_undo_36 ⟨Nat.zero_le _, Nat.zero_le _⟩ (fun u_36 H locs h_36 hP hD hS => ?_)
      have hP : va_P D vwCl ([(x9, .inr (9, [.ref h0, .ref h8, .ref h4, .ref h2, .ref hh, .ref h3, .ref h1, .ref im, .ref sd, .ref kp])), (h0, .inr (7, [.ref c0])), (c0, .inl (k.1, 132, .inl (zF (cpZ (h.2.2 ((h.1 + 20 - x1.toNat) % 20)) f 0 0 132)))), (hh, .inr (3, [.ref eo, .int (zI (((h.1 + 20 - x1.toNat) % 20 : Nat) : Int)), .int (zI ((h.2.1 - x1.toNat : Nat) : Int))])), (eo, .inl (k.2.2.2, 20, .inr (.inr (.inr (.inr (eoF r))))))] ++ rowsW k r h.2.2) H := hP
      have hD : va_D A ([(x9, .inr (9, [.ref h0, .ref h8, .ref h4, .ref h2, .ref hh, .ref h3, .ref h1, .ref im, .ref sd, .ref kp])), (h0, .inr (7, [.ref c0])), (c0, .inl (k.1, 132, .inl (zF (cpZ (h.2.2 ((h.1 + 20 - x1.toNat) % 20)) f 0 0 132)))), (hh, .inr (3, [.ref eo, .int (zI (((h.1 + 20 - x1.toNat) % 20 : Nat) : Int)), .int (zI ((h.2.1 - x1.toNat : Nat) : Int))])), (eo, .inl (k.2.2.2, 20, .inr (.inr (.inr (.inr (eoF r))))))] ++ rowsW k r h.2.2) := hD
      refine lv_aload_n hx hb dX9_undo_39 rfl (lv_at hl 0 rfl) ?_
      refine va_get (D := D) (ci := 9) (v := .ref h0) (C := RX9) (T := TX9) (N := 10) hx hb hts hinX9 hown hK.1 hP 0 rfl rfl 0 (by decide) fl10 (fun _ h9 => h9) rfl dX9_undo_40 ?_
      refine z_iconst hx hb dX9_undo_43 ?_
      refine roV (n := 1) (As := [.int (zI ((0 : Nat) : Int))]) (rest := []) hSf (c_cell l D k h0 c0 (cpZ (h.2.2 ((h.1 + 20 - x1.toNat) % 20)) f 0 0 132) 0 (by omega)) gX9_undo_X7_cell rfl (by decide +kernel) ⟨Nat.le_of_ble_eq_true rfl, Nat.le_of_ble_eq_true rfl⟩ hK hP [1, 2] rfl 0 rfl rfl rfl hl.1 (by rw [show zI 0 = zI ((0 : Nat) : Int) from zc (by omega)]; rfl) (Nat.le_of_ble_eq_true rfl) dX9_undo_44 ⟨Nat.zero_le _, Nat.zero_le _⟩ (fun r_44 h_44 => ?_)
      subst h_44
      refine te (zc (show (cpZ (h.2.2 ((h.1 + 20 - x1.toNat) % 20)) f 0 0 132) 0 = h.2.2 ((h.1 + 20 - x1.toNat) % 20) 0 from by rw [cpZ_in (by omega) (by omega)])) ?_
      exact W.iret hx hb hr (fun t ht hW => ⟨⟨_, (cpZ (h.2.2 ((h.1 + 20 - x1.toNat) % 20)) f 0 0 132, ((h.1 + 20 - x1.toNat) % 20), h.2.1 - x1.toNat, h.2.2), rfl, ⟨zc (by rw [if_pos (by omega), if_pos (by omega)]), by rw [if_pos (by omega)]⟩, by show va_P D vwCl _ _; rw [ht]; exact hP⟩, hS.F ht⟩) hS.2.2 dX9_undo_47
    · refine lv_ldc hx hb hown (hts (.constant RX9 210 (-1000000003)) (by decide +kernel)) dX9_undo_24 ?_
      refine te (show (-1000000003 : Int32) = zI (-1000000003) from by decide +kernel) ?_
      exact W.iret hx hb hr (fun t ht hW => ⟨⟨_, (f, h), rfl, ⟨zc (by rw [if_pos (by omega), if_neg (by omega)]), by rw [if_neg (by omega)]⟩, by show va_P D vwCl _ _; rw [ht]; exact hP⟩, hS.F ht⟩) hS.2.2 dX9_undo_26
  · simp only [Bool.and_eq_false_iff, decide_eq_false_iff_not] at c_7
    refine lv_ldc hx hb hown (hts (.constant RX9 99 (-1000000002)) (by decide +kernel)) dX9_undo_10 ?_
    refine te (show (-1000000002 : Int32) = zI (-1000000002) from by decide +kernel) ?_
    exact W.iret hx hb hr (fun t ht hW => ⟨⟨_, (f, h), rfl, ⟨zc (by rw [if_neg (by omega)]), by rw [if_neg (by omega)]⟩, by show va_P D vwCl _ _; rw [ht]; exact hP⟩, hS.F ht⟩) hS.2.2 dX9_undo_12
set_option maxHeartbeats 4000000 in
set_option maxRecDepth 100000 in
theorem c_leftOut (l : Launch) (D : va_G) (k : Kt) (x9 : Nat) (h0 : Nat) (c0 : Nat) (h8 : Nat) (h4 : Nat) (h2 : Nat) (hh : Nat) (h3 : Nat) (h1 : Nat) (im : Nat) (sd : Nat) (kp : Nat) (f : St) (B : Int) (hV : Va B f) (h7 : Nat) (c7 : Nat) (hq : Nat) (aq : Nat) (d2 : Nat) (g : St) (oq : Nat → Int) (dr : Nat → Int) (hB : B < 900000) (x1 : Int) (x2 : Int) (hx1 : -2147483648 ≤ x1 ∧ x1 < 2147483648) (hx2 : -2147483648 ≤ x2 ∧ x2 < 2147483648) : MI l D k yX9_leftOut wsX9_leftOut 5 119 [.ref x9, .int (zI x1), .int (zI x2)] [(x9, .inr (9, [.ref h0, .ref h8, .ref h4, .ref h2, .ref hh, .ref h3, .ref h1, .ref im, .ref sd, .ref kp])), (h0, .inr (7, [.ref c0])), (c0, .inl (k.1, 132, .inl (zF f))), (h2, .inr (2, [.ref h7, .ref hq, .ref d2])), (h7, .inr (7, [.ref c7])), (c7, .inl (k.1, 132, .inl (zF g))), (hq, .inr (5, [.ref aq])), (aq, .inl (k.1, 12, .inl (zF oq))), (d2, .inl (k.1, 12, .inl (zF dr)))] (fun (r : Int32) (u : St × (Nat → Int) × (Nat → Int)) => r = zI (if 0 ≤ x1 ∧ x1 ≤ f 0 - 1 then (if 1 ≤ x2 ∧ x2 ≤ 40 then ((lefN f x2.toNat x1.toNat : Nat) : Int) else -1000000002) else -1000000001) ∧ True) (fun u => [(x9, .inr (9, [.ref h0, .ref h8, .ref h4, .ref h2, .ref hh, .ref h3, .ref h1, .ref im, .ref sd, .ref kp])), (h0, .inr (7, [.ref c0])), (c0, .inl (k.1, 132, .inl (zF f))), (h2, .inr (2, [.ref h7, .ref hq, .ref d2])), (h7, .inr (7, [.ref c7])), (c7, .inl (k.1, 132, .inl (zF u.1))), (hq, .inr (5, [.ref aq])), (aq, .inl (k.1, 12, .inl (zF u.2.1))), (d2, .inl (k.1, 12, .inl (zF u.2.2)))]) := by
  refine Met.ofW (cc := cX9_leftOut) (maxL := 3) (ret := (some .int)) (by decide) rfl ?_
  intro p e s m args below meth c s₁ Bd hml hv
  obtain ⟨rfl, hP, hK, hD0⟩ := hv
  have hx := Bd.exec
  have hb := Bd.bytes
  have hr := Bd.returns
  have hts := atoms_spec (ws := wsX9_leftOut) Bd.pre
  have hown : s.vm.findClass RX9 = some m.cls := findClass_of_methodNamed Bd.named
  have hlocks := Bd.notSynchronized
  have hSf : CallFix p m c cX9_leftOut 3 s ([.ref x9, .int (zI x1), .int (zI x2)] : List Value).toArray wsX9_leftOut RX9 := ⟨hx, hb, hml, hown, hts⟩
  have hD := fA_D hD0
  have hS : va_S (fA [(x9, .inr (9, [.ref h0, .ref h8, .ref h4, .ref h2, .ref hh, .ref h3, .ref h1, .ref im, .ref sd, .ref kp])), (h0, .inr (7, [.ref c0])), (c0, .inl (k.1, 132, .inl (zF f))), (h2, .inr (2, [.ref h7, .ref hq, .ref d2])), (h7, .inr (7, [.ref c7])), (c7, .inl (k.1, 132, .inl (zF g))), (hq, .inr (5, [.ref aq])), (aq, .inl (k.1, 12, .inl (zF oq))), (d2, .inl (k.1, 12, .inl (zF dr)))]) s.heap s.heap [] := va_S.rf
  generalize hAe : fA [(x9, .inr (9, [.ref h0, .ref h8, .ref h4, .ref h2, .ref hh, .ref h3, .ref h1, .ref im, .ref sd, .ref kp])), (h0, .inr (7, [.ref c0])), (c0, .inl (k.1, 132, .inl (zF f))), (h2, .inr (2, [.ref h7, .ref hq, .ref d2])), (h7, .inr (7, [.ref c7])), (c7, .inl (k.1, 132, .inl (zF g))), (hq, .inr (5, [.ref aq])), (aq, .inl (k.1, 12, .inl (zF oq))), (d2, .inl (k.1, 12, .inl (zF dr)))] = A at hD hS ⊢
  have hP : va_P D vwCl [(x9, .inr (9, [.ref h0, .ref h8, .ref h4, .ref h2, .ref hh, .ref h3, .ref h1, .ref im, .ref sd, .ref kp])), (h0, .inr (7, [.ref c0])), (c0, .inl (k.1, 132, .inl (zF f))), (h2, .inr (2, [.ref h7, .ref hq, .ref d2])), (h7, .inr (7, [.ref c7])), (c7, .inl (k.1, 132, .inl (zF g))), (hq, .inr (5, [.ref aq])), (aq, .inl (k.1, 12, .inl (zF oq))), (d2, .inl (k.1, 12, .inl (zF dr)))] s.heap := hP
  have hinX9 : ∀ w ∈ u_ws RX9 TX9 10, w ∈ wsX9_leftOut := by decide +kernel
  have fl33 := hts (.fieldLink RX9 33 "DotObjects" "forecast" "LDotObjects$Forecast;") (by decide +kernel)
  have fl10 := hts (.fieldLink RX9 10 "DotObjects" "scene" "LDotObjects$Scene;") (by decide +kernel)
  have hl := lv_entry ([.ref x9, .int (zI x1), .int (zI x2)]) (n := 3) (Nat.le_of_ble_eq_true rfl)
  rw [lg_entry_eq]
  generalize (lg_sl ([.ref x9, .int (zI x1), .int (zI x2)]) ++ List.replicate (3 - (lg_sl ([.ref x9, .int (zI x1), .int (zI x2)])).length) Slot.unset).toArray = ls at hl ⊢
  have hl : lv_has ls 3 [(0, .ref x9), (1, .int (zI x1)), (2, .int (zI x2))] := hl
  have hn := hV.n
  refine lv_aload_n hx hb dX9_leftOut_0 rfl (lv_at hl 0 rfl) ?_
  refine lv_iload_n hx hb dX9_leftOut_1 rfl (lv_at hl 1 rfl) ?_
  refine roV (n := 1) (As := [.int (zI x1)]) (rest := []) hSf (c_isThing l D k x9 h0 c0 h8 h4 h2 hh h3 h1 im sd kp f B hV x1 (by omega)) gX9_leftOut_X9_isThing rfl (by decide +kernel) ⟨Nat.le_of_ble_eq_true rfl, Nat.le_of_ble_eq_true rfl⟩ hK hP [0, 1, 2] rfl 0 rfl rfl rfl hl.1 rfl (Nat.le_of_ble_eq_true rfl) dX9_leftOut_2 ⟨Nat.zero_le _, Nat.zero_le _⟩ (fun r_2 h_2 => ?_)
  subst h_2
  refine z_if_neb (tgt := 11) hx hb dX9_leftOut_5 (by decide) (fun c_5 => ?_) (fun c_5 => ?_)
  · simp only [Bool.and_eq_true, decide_eq_true_eq] at c_5
    refine lv_iload_n hx hb dX9_leftOut_11 rfl (lv_at hl 2 rfl) ?_
    refine z_iconst hx hb dX9_leftOut_12 ?_
    refine z_bipush hx hb dX9_leftOut_13 (by decide +kernel) ?_
    refine roS (n := 3) (As := [.int (zI x2), .int (zI 1), .int (zI 40)]) (rest := []) hSf (c_isWithin l D k x2 1 40 (by omega) (by omega) (by omega)) gX9_leftOut_X9_isWithin rfl (by decide +kernel) ⟨Nat.le_of_ble_eq_true rfl, Nat.le_of_ble_eq_true rfl⟩ hK hP [] rfl rfl hl.1 rfl (Nat.le_of_ble_eq_true rfl) dX9_leftOut_15 ⟨Nat.zero_le _, Nat.zero_le _⟩ (fun r_15 h_15 => ?_)
    subst h_15
    refine z_if_neb (tgt := 24) hx hb dX9_leftOut_18 (by decide) (fun c_18 => ?_) (fun c_18 => ?_)
    · simp only [Bool.and_eq_true, decide_eq_true_eq] at c_18
      refine lv_aload_n hx hb dX9_leftOut_24 rfl (lv_at hl 0 rfl) ?_
      refine va_get (D := D) (ci := 9) (v := .ref h2) (C := RX9) (T := TX9) (N := 10) hx hb hts hinX9 hown hK.1 hP 0 rfl rfl 3 (by decide) fl33 (fun _ h9 => h9) rfl dX9_leftOut_25 ?_
      refine lv_aload_n hx hb dX9_leftOut_28 rfl (lv_at hl 0 rfl) ?_
      refine va_get (D := D) (ci := 9) (v := .ref h0) (C := RX9) (T := TX9) (N := 10) hx hb hts hinX9 hown hK.1 hP 0 rfl rfl 0 (by decide) fl10 (fun _ h9 => h9) rfl dX9_leftOut_29 ?_
      refine lv_iload_n hx hb dX9_leftOut_32 rfl (lv_at hl 2 rfl) ?_
      refine muV (n := 2) (As := [.ref h0, .int (zI ((x2.toNat : Nat) : Int))]) (rest := []) hSf (c_run l D k h0 c0 f B hV h2 h7 c7 hq aq d2 g oq dr x2.toNat (by omega) hB) gX9_leftOut_X2_run rfl (by decide +kernel) ⟨Nat.le_of_ble_eq_true rfl, Nat.le_of_ble_eq_true rfl⟩ hK hP hD hS [1, 2, 3, 4, 5, 6, 7, 8] rfl rfl (by decide) (fun _ => rfl) (fun _ => rfl) 2 rfl rfl rfl hl.1 (by rw [show zI x2 = zI ((x2.toNat : Nat) : Int) from zc (by omega)]; rfl) (Nat.le_of_ble_eq_true rfl) dX9_leftOut_33 ⟨Nat.zero_le _, Nat.zero_le _⟩ (fun u_33 H locs h_33 hP hD hS => ?_)
      have hP : va_P D vwCl [(x9, .inr (9, [.ref h0, .ref h8, .ref h4, .ref h2, .ref hh, .ref h3, .ref h1, .ref im, .ref sd, .ref kp])), (h0, .inr (7, [.ref c0])), (c0, .inl (k.1, 132, .inl (zF f))), (h2, .inr (2, [.ref h7, .ref hq, .ref d2])), (h7, .inr (7, [.ref c7])), (c7, .inl (k.1, 132, .inl (zF u_33.1))), (hq, .inr (5, [.ref aq])), (aq, .inl (k.1, 12, .inl (zF u_33.2.1))), (d2, .inl (k.1, 12, .inl (zF u_33.2.2)))] H := hP
      have hD : va_D A [(x9, .inr (9, [.ref h0, .ref h8, .ref h4, .ref h2, .ref hh, .ref h3, .ref h1, .ref im, .ref sd, .ref kp])), (h0, .inr (7, [.ref c0])), (c0, .inl (k.1, 132, .inl (zF f))), (h2, .inr (2, [.ref h7, .ref hq, .ref d2])), (h7, .inr (7, [.ref c7])), (c7, .inl (k.1, 132, .inl (zF u_33.1))), (hq, .inr (5, [.ref aq])), (aq, .inl (k.1, 12, .inl (zF u_33.2.1))), (d2, .inl (k.1, 12, .inl (zF u_33.2.2)))] := hD
      refine lv_aload_n hx hb dX9_leftOut_36 rfl (lv_at hl 0 rfl) ?_
      refine va_get (D := D) (ci := 9) (v := .ref h2) (C := RX9) (T := TX9) (N := 10) hx hb hts hinX9 hown hK.1 hP 0 rfl rfl 3 (by decide) fl33 (fun _ h9 => h9) rfl dX9_leftOut_37 ?_
      refine lv_iload_n hx hb dX9_leftOut_40 rfl (lv_at hl 1 rfl) ?_
      refine roV (n := 1) (As := [.int (zI ((x1.toNat : Nat) : Int))]) (rest := []) hSf (c_dropsOf l D k h2 h7 c7 hq aq d2 u_33.2.2 x1.toNat (by omega)) gX9_leftOut_X2_dropsOf rfl (by decide +kernel) ⟨Nat.le_of_ble_eq_true rfl, Nat.le_of_ble_eq_true rfl⟩ hK hP [3, 8] rfl 0 rfl rfl rfl hl.1 (by rw [show zI x1 = zI ((x1.toNat : Nat) : Int) from zc (by omega)]; rfl) (Nat.le_of_ble_eq_true rfl) dX9_leftOut_41 ⟨Nat.zero_le _, Nat.zero_le _⟩ (fun r_41 h_41 => ?_)
      subst h_41
      exact W.iret hx hb hr (fun t ht hW => ⟨⟨_, u_33, rfl, ⟨zc (by rw [if_pos (by omega), if_pos (by omega)]; exact h_33 _ (by omega)), trivial⟩, by show va_P D vwCl _ _; rw [ht]; exact hP⟩, hS.F ht⟩) hS.2.2 dX9_leftOut_44
    · simp only [Bool.and_eq_false_iff, decide_eq_false_iff_not] at c_18
      refine lv_ldc hx hb hown (hts (.constant RX9 99 (-1000000002)) (by decide +kernel)) dX9_leftOut_21 ?_
      refine te (show (-1000000002 : Int32) = zI (-1000000002) from by decide +kernel) ?_
      exact W.iret hx hb hr (fun t ht hW => ⟨⟨_, (g, oq, dr), rfl, ⟨zc (by rw [if_pos (by omega), if_neg (by omega)]), trivial⟩, by show va_P D vwCl _ _; rw [ht]; exact hP⟩, hS.F ht⟩) hS.2.2 dX9_leftOut_23
  · simp only [Bool.and_eq_false_iff, decide_eq_false_iff_not] at c_5
    refine lv_ldc hx hb hown (hts (.constant RX9 104 (-1000000001)) (by decide +kernel)) dX9_leftOut_8 ?_
    refine te (show (-1000000001 : Int32) = zI (-1000000001) from by decide +kernel) ?_
    exact W.iret hx hb hr (fun t ht hW => ⟨⟨_, (g, oq, dr), rfl, ⟨zc (by rw [if_neg (by omega)]), trivial⟩, by show va_P D vwCl _ _; rw [ht]; exact hP⟩, hS.F ht⟩) hS.2.2 dX9_leftOut_10
set_option maxHeartbeats 4000000 in
set_option maxRecDepth 100000 in
theorem c_worst (l : Launch) (D : va_G) (k : Kt) (x9 : Nat) (h0 : Nat) (c0 : Nat) (h8 : Nat) (h4 : Nat) (h2 : Nat) (hh : Nat) (h3 : Nat) (h1 : Nat) (im : Nat) (sd : Nat) (kp : Nat) (f : St) (B : Int) (hV : Va B f) (h7 : Nat) (c7 : Nat) (hq : Nat) (aq : Nat) (d2 : Nat) (g : St) (oq : Nat → Int) (dr : Nat → Int) (hB : B < 900000) (x1 : Int) (hx1 : -2147483648 ≤ x1 ∧ x1 < 2147483648) : MI l D k yX9_worst wsX9_worst 5 119 [.ref x9, .int (zI x1)] [(x9, .inr (9, [.ref h0, .ref h8, .ref h4, .ref h2, .ref hh, .ref h3, .ref h1, .ref im, .ref sd, .ref kp])), (h0, .inr (7, [.ref c0])), (c0, .inl (k.1, 132, .inl (zF f))), (h2, .inr (2, [.ref h7, .ref hq, .ref d2])), (h7, .inr (7, [.ref c7])), (c7, .inl (k.1, 132, .inl (zF g))), (hq, .inr (5, [.ref aq])), (aq, .inl (k.1, 12, .inl (zF oq))), (d2, .inl (k.1, 12, .inl (zF dr)))] (fun (r : Int32) (u : St × (Nat → Int) × (Nat → Int)) => r = zI (if 1 ≤ x1 ∧ x1 ≤ 40 then (wsT (lefN f x1.toNat) 12).1 else -1000000002) ∧ True) (fun u => [(x9, .inr (9, [.ref h0, .ref h8, .ref h4, .ref h2, .ref hh, .ref h3, .ref h1, .ref im, .ref sd, .ref kp])), (h0, .inr (7, [.ref c0])), (c0, .inl (k.1, 132, .inl (zF f))), (h2, .inr (2, [.ref h7, .ref hq, .ref d2])), (h7, .inr (7, [.ref c7])), (c7, .inl (k.1, 132, .inl (zF u.1))), (hq, .inr (5, [.ref aq])), (aq, .inl (k.1, 12, .inl (zF u.2.1))), (d2, .inl (k.1, 12, .inl (zF u.2.2)))]) := by
  refine Met.ofW (cc := cX9_worst) (maxL := 2) (ret := (some .int)) (by decide) rfl ?_
  intro p e s m args below meth c s₁ Bd hml hv
  obtain ⟨rfl, hP, hK, hD0⟩ := hv
  have hx := Bd.exec
  have hb := Bd.bytes
  have hr := Bd.returns
  have hts := atoms_spec (ws := wsX9_worst) Bd.pre
  have hown : s.vm.findClass RX9 = some m.cls := findClass_of_methodNamed Bd.named
  have hlocks := Bd.notSynchronized
  have hSf : CallFix p m c cX9_worst 2 s ([.ref x9, .int (zI x1)] : List Value).toArray wsX9_worst RX9 := ⟨hx, hb, hml, hown, hts⟩
  have hD := fA_D hD0
  have hS : va_S (fA [(x9, .inr (9, [.ref h0, .ref h8, .ref h4, .ref h2, .ref hh, .ref h3, .ref h1, .ref im, .ref sd, .ref kp])), (h0, .inr (7, [.ref c0])), (c0, .inl (k.1, 132, .inl (zF f))), (h2, .inr (2, [.ref h7, .ref hq, .ref d2])), (h7, .inr (7, [.ref c7])), (c7, .inl (k.1, 132, .inl (zF g))), (hq, .inr (5, [.ref aq])), (aq, .inl (k.1, 12, .inl (zF oq))), (d2, .inl (k.1, 12, .inl (zF dr)))]) s.heap s.heap [] := va_S.rf
  generalize hAe : fA [(x9, .inr (9, [.ref h0, .ref h8, .ref h4, .ref h2, .ref hh, .ref h3, .ref h1, .ref im, .ref sd, .ref kp])), (h0, .inr (7, [.ref c0])), (c0, .inl (k.1, 132, .inl (zF f))), (h2, .inr (2, [.ref h7, .ref hq, .ref d2])), (h7, .inr (7, [.ref c7])), (c7, .inl (k.1, 132, .inl (zF g))), (hq, .inr (5, [.ref aq])), (aq, .inl (k.1, 12, .inl (zF oq))), (d2, .inl (k.1, 12, .inl (zF dr)))] = A at hD hS ⊢
  have hP : va_P D vwCl [(x9, .inr (9, [.ref h0, .ref h8, .ref h4, .ref h2, .ref hh, .ref h3, .ref h1, .ref im, .ref sd, .ref kp])), (h0, .inr (7, [.ref c0])), (c0, .inl (k.1, 132, .inl (zF f))), (h2, .inr (2, [.ref h7, .ref hq, .ref d2])), (h7, .inr (7, [.ref c7])), (c7, .inl (k.1, 132, .inl (zF g))), (hq, .inr (5, [.ref aq])), (aq, .inl (k.1, 12, .inl (zF oq))), (d2, .inl (k.1, 12, .inl (zF dr)))] s.heap := hP
  have hinX9 : ∀ w ∈ u_ws RX9 TX9 10, w ∈ wsX9_worst := by decide +kernel
  have fl33 := hts (.fieldLink RX9 33 "DotObjects" "forecast" "LDotObjects$Forecast;") (by decide +kernel)
  have fl10 := hts (.fieldLink RX9 10 "DotObjects" "scene" "LDotObjects$Scene;") (by decide +kernel)
  have hl := lv_entry ([.ref x9, .int (zI x1)]) (n := 2) (Nat.le_of_ble_eq_true rfl)
  rw [lg_entry_eq]
  generalize (lg_sl ([.ref x9, .int (zI x1)]) ++ List.replicate (2 - (lg_sl ([.ref x9, .int (zI x1)])).length) Slot.unset).toArray = ls at hl ⊢
  have hl : lv_has ls 2 [(0, .ref x9), (1, .int (zI x1))] := hl
  refine lv_iload_n hx hb dX9_worst_0 rfl (lv_at hl 1 rfl) ?_
  refine z_iconst hx hb dX9_worst_1 ?_
  refine z_bipush hx hb dX9_worst_2 (by decide +kernel) ?_
  refine roS (n := 3) (As := [.int (zI x1), .int (zI 1), .int (zI 40)]) (rest := []) hSf (c_isWithin l D k x1 1 40 (by omega) (by omega) (by omega)) gX9_worst_X9_isWithin rfl (by decide +kernel) ⟨Nat.le_of_ble_eq_true rfl, Nat.le_of_ble_eq_true rfl⟩ hK hP [] rfl rfl hl.1 rfl (Nat.le_of_ble_eq_true rfl) dX9_worst_4 ⟨Nat.zero_le _, Nat.zero_le _⟩ (fun r_4 h_4 => ?_)
  subst h_4
  refine z_if_neb (tgt := 13) hx hb dX9_worst_7 (by decide) (fun c_7 => ?_) (fun c_7 => ?_)
  · simp only [Bool.and_eq_true, decide_eq_true_eq] at c_7
    refine lv_aload_n hx hb dX9_worst_13 rfl (lv_at hl 0 rfl) ?_
    refine va_get (D := D) (ci := 9) (v := .ref h2) (C := RX9) (T := TX9) (N := 10) hx hb hts hinX9 hown hK.1 hP 0 rfl rfl 3 (by decide) fl33 (fun _ h9 => h9) rfl dX9_worst_14 ?_
    refine lv_aload_n hx hb dX9_worst_17 rfl (lv_at hl 0 rfl) ?_
    refine va_get (D := D) (ci := 9) (v := .ref h0) (C := RX9) (T := TX9) (N := 10) hx hb hts hinX9 hown hK.1 hP 0 rfl rfl 0 (by decide) fl10 (fun _ h9 => h9) rfl dX9_worst_18 ?_
    refine lv_iload_n hx hb dX9_worst_21 rfl (lv_at hl 1 rfl) ?_
    refine muV (n := 2) (As := [.ref h0, .int (zI ((x1.toNat : Nat) : Int))]) (rest := []) hSf (c_run l D k h0 c0 f B hV h2 h7 c7 hq aq d2 g oq dr x1.toNat (by omega) hB) gX9_worst_X2_run rfl (by decide +kernel) ⟨Nat.le_of_ble_eq_true rfl, Nat.le_of_ble_eq_true rfl⟩ hK hP hD hS [1, 2, 3, 4, 5, 6, 7, 8] rfl rfl (by decide) (fun _ => rfl) (fun _ => rfl) 2 rfl rfl rfl hl.1 (by rw [show zI x1 = zI ((x1.toNat : Nat) : Int) from zc (by omega)]; rfl) (Nat.le_of_ble_eq_true rfl) dX9_worst_22 ⟨Nat.zero_le _, Nat.zero_le _⟩ (fun u_22 H locs h_22 hP hD hS => ?_)
    have hP : va_P D vwCl [(x9, .inr (9, [.ref h0, .ref h8, .ref h4, .ref h2, .ref hh, .ref h3, .ref h1, .ref im, .ref sd, .ref kp])), (h0, .inr (7, [.ref c0])), (c0, .inl (k.1, 132, .inl (zF f))), (h2, .inr (2, [.ref h7, .ref hq, .ref d2])), (h7, .inr (7, [.ref c7])), (c7, .inl (k.1, 132, .inl (zF u_22.1))), (hq, .inr (5, [.ref aq])), (aq, .inl (k.1, 12, .inl (zF u_22.2.1))), (d2, .inl (k.1, 12, .inl (zF u_22.2.2)))] H := hP
    have hD : va_D A [(x9, .inr (9, [.ref h0, .ref h8, .ref h4, .ref h2, .ref hh, .ref h3, .ref h1, .ref im, .ref sd, .ref kp])), (h0, .inr (7, [.ref c0])), (c0, .inl (k.1, 132, .inl (zF f))), (h2, .inr (2, [.ref h7, .ref hq, .ref d2])), (h7, .inr (7, [.ref c7])), (c7, .inl (k.1, 132, .inl (zF u_22.1))), (hq, .inr (5, [.ref aq])), (aq, .inl (k.1, 12, .inl (zF u_22.2.1))), (d2, .inl (k.1, 12, .inl (zF u_22.2.2)))] := hD
    refine lv_aload_n hx hb dX9_worst_25 rfl (lv_at hl 0 rfl) ?_
    refine va_get (D := D) (ci := 9) (v := .ref h2) (C := RX9) (T := TX9) (N := 10) hx hb hts hinX9 hown hK.1 hP 0 rfl rfl 3 (by decide) fl33 (fun _ h9 => h9) rfl dX9_worst_26 ?_
    refine roV (n := 0) (As := []) (rest := []) hSf (c_mostDropped l D k h2 h7 c7 hq aq d2 u_22.2.2 (lefN f x1.toNat) h_22 (fun t => by have := lefN_le f x1.toNat t; omega)) gX9_worst_X2_mostDropped rfl (by decide +kernel) ⟨Nat.le_of_ble_eq_true rfl, Nat.le_of_ble_eq_true rfl⟩ hK hP [3, 8] rfl 0 rfl rfl rfl hl.1 rfl (Nat.le_of_ble_eq_true rfl) dX9_worst_29 ⟨Nat.zero_le _, Nat.zero_le _⟩ (fun r_29 h_29 => ?_)
    subst h_29
    exact W.iret hx hb hr (fun t ht hW => ⟨⟨_, u_22, rfl, ⟨zc (by rw [if_pos (by omega)]), trivial⟩, by show va_P D vwCl _ _; rw [ht]; exact hP⟩, hS.F ht⟩) hS.2.2 dX9_worst_32
  · simp only [Bool.and_eq_false_iff, decide_eq_false_iff_not] at c_7
    refine lv_ldc hx hb hown (hts (.constant RX9 99 (-1000000002)) (by decide +kernel)) dX9_worst_10 ?_
    refine te (show (-1000000002 : Int32) = zI (-1000000002) from by decide +kernel) ?_
    exact W.iret hx hb hr (fun t ht hW => ⟨⟨_, (g, oq, dr), rfl, ⟨zc (by rw [if_neg (by omega)]), trivial⟩, by show va_P D vwCl _ _; rw [ht]; exact hP⟩, hS.F ht⟩) hS.2.2 dX9_worst_12
set_option maxHeartbeats 4000000 in
set_option maxRecDepth 100000 in
theorem c_write (l : Launch) (D : va_G) (k : Kt) (x9 : Nat) (h0 : Nat) (c0 : Nat) (h8 : Nat) (h4 : Nat) (h2 : Nat) (hh : Nat) (h3 : Nat) (h1 : Nat) (im : Nat) (sd : Nat) (kp : Nat) (i3 : Nat) (j3 : Nat) (k3 : Nat) (ba : Nat → Int) (bb : Nat → Int) (bd : Nat → Int) (bn : Nat) (hbn : bn ≤ 20) (x1 : Int) (x2 : Int) (x3 : Int) (hx1 : -2147483648 ≤ x1 ∧ x1 < 2147483648) (hx2 : -2147483648 ≤ x2 ∧ x2 < 2147483648) (hx3 : -2147483648 ≤ x3 ∧ x3 < 2147483648) : MI l D k yX9_write wsX9_write 2 43 [.ref x9, .int (zI x1), .int (zI x2), .int (zI x3)] [(x9, .inr (9, [.ref h0, .ref h8, .ref h4, .ref h2, .ref hh, .ref h3, .ref h1, .ref im, .ref sd, .ref kp])), (h3, .inr (0, [.ref i3, .ref j3, .ref k3, .int (zI ((bn : Nat) : Int))])), (i3, .inl (k.1, 20, .inl (zF ba))), (j3, .inl (k.1, 20, .inl (zF bb))), (k3, .inl (k.1, 20, .inl (zF bd)))] (fun (r : Int32) (u : (Nat → Int) × (Nat → Int) × (Nat → Int) × Nat) => r = zI (if ((0 ≤ x1 ∧ x1 ≤ 23) ∧ (0 ≤ x2 ∧ x2 ≤ 31)) ∧ (0 ≤ x3 ∧ x3 ≤ 7) then (if 20 ≤ bn then -1000000004 else ((bn + 1 : Nat) : Int)) else -1000000002) ∧ u = if (((0 ≤ x1 ∧ x1 ≤ 23) ∧ (0 ≤ x2 ∧ x2 ≤ 31)) ∧ (0 ≤ x3 ∧ x3 ≤ 7)) ∧ bn < 20 then (upZ ba bn x1, upZ bb bn x2, upZ bd bn x3, bn + 1) else (ba, bb, bd, bn)) (fun u => [(x9, .inr (9, [.ref h0, .ref h8, .ref h4, .ref h2, .ref hh, .ref h3, .ref h1, .ref im, .ref sd, .ref kp])), (h3, .inr (0, [.ref i3, .ref j3, .ref k3, .int (zI ((u.2.2.2 : Nat) : Int))])), (i3, .inl (k.1, 20, .inl (zF u.1))), (j3, .inl (k.1, 20, .inl (zF u.2.1))), (k3, .inl (k.1, 20, .inl (zF u.2.2.1)))]) := by
  refine Met.ofW (cc := cX9_write) (maxL := 4) (ret := (some .int)) (by decide) rfl ?_
  intro p e s m args below meth c s₁ Bd hml hv
  obtain ⟨rfl, hP, hK, hD0⟩ := hv
  have hx := Bd.exec
  have hb := Bd.bytes
  have hr := Bd.returns
  have hts := atoms_spec (ws := wsX9_write) Bd.pre
  have hown : s.vm.findClass RX9 = some m.cls := findClass_of_methodNamed Bd.named
  have hlocks := Bd.notSynchronized
  have hSf : CallFix p m c cX9_write 4 s ([.ref x9, .int (zI x1), .int (zI x2), .int (zI x3)] : List Value).toArray wsX9_write RX9 := ⟨hx, hb, hml, hown, hts⟩
  have hD := fA_D hD0
  have hS : va_S (fA [(x9, .inr (9, [.ref h0, .ref h8, .ref h4, .ref h2, .ref hh, .ref h3, .ref h1, .ref im, .ref sd, .ref kp])), (h3, .inr (0, [.ref i3, .ref j3, .ref k3, .int (zI ((bn : Nat) : Int))])), (i3, .inl (k.1, 20, .inl (zF ba))), (j3, .inl (k.1, 20, .inl (zF bb))), (k3, .inl (k.1, 20, .inl (zF bd)))]) s.heap s.heap [] := va_S.rf
  generalize hAe : fA [(x9, .inr (9, [.ref h0, .ref h8, .ref h4, .ref h2, .ref hh, .ref h3, .ref h1, .ref im, .ref sd, .ref kp])), (h3, .inr (0, [.ref i3, .ref j3, .ref k3, .int (zI ((bn : Nat) : Int))])), (i3, .inl (k.1, 20, .inl (zF ba))), (j3, .inl (k.1, 20, .inl (zF bb))), (k3, .inl (k.1, 20, .inl (zF bd)))] = A at hD hS ⊢
  have hP : va_P D vwCl [(x9, .inr (9, [.ref h0, .ref h8, .ref h4, .ref h2, .ref hh, .ref h3, .ref h1, .ref im, .ref sd, .ref kp])), (h3, .inr (0, [.ref i3, .ref j3, .ref k3, .int (zI ((bn : Nat) : Int))])), (i3, .inl (k.1, 20, .inl (zF ba))), (j3, .inl (k.1, 20, .inl (zF bb))), (k3, .inl (k.1, 20, .inl (zF bd)))] s.heap := hP
  have hinX9 : ∀ w ∈ u_ws RX9 TX9 10, w ∈ wsX9_write := by decide +kernel
  have fl47 := hts (.fieldLink RX9 47 "DotObjects" "book" "LDotObjects$Book;") (by decide +kernel)
  have hl := lv_entry ([.ref x9, .int (zI x1), .int (zI x2), .int (zI x3)]) (n := 4) (Nat.le_of_ble_eq_true rfl)
  rw [lg_entry_eq]
  generalize (lg_sl ([.ref x9, .int (zI x1), .int (zI x2), .int (zI x3)]) ++ List.replicate (4 - (lg_sl ([.ref x9, .int (zI x1), .int (zI x2), .int (zI x3)])).length) Slot.unset).toArray = ls at hl ⊢
  have hl : lv_has ls 4 [(0, .ref x9), (1, .int (zI x1)), (2, .int (zI x2)), (3, .int (zI x3))] := hl
  refine lv_iload_n hx hb dX9_write_0 rfl (lv_at hl 1 rfl) ?_
  refine lv_iload_n hx hb dX9_write_1 rfl (lv_at hl 2 rfl) ?_
  refine roS (n := 2) (As := [.int (zI x1), .int (zI x2)]) (rest := []) hSf (c_isDot l D k x1 x2 (by omega) (by omega)) gX9_write_X9_isDot rfl (by decide +kernel) ⟨Nat.le_of_ble_eq_true rfl, Nat.le_of_ble_eq_true rfl⟩ hK hP [] rfl rfl hl.1 rfl (Nat.le_of_ble_eq_true rfl) dX9_write_2 ⟨Nat.zero_le _, Nat.zero_le _⟩ (fun r_2 h_2 => ?_)
  subst h_2
  refine z_if_eqb (tgt := 18) hx hb dX9_write_5 (by decide) (fun c_5 => ?_) (fun c_5 => ?_)
  · simp only [Bool.and_eq_false_iff, decide_eq_false_iff_not] at c_5
    refine lv_ldc hx hb hown (hts (.constant RX9 99 (-1000000002)) (by decide +kernel)) dX9_write_18 ?_
    refine te (show (-1000000002 : Int32) = zI (-1000000002) from by decide +kernel) ?_
    exact W.iret hx hb hr (fun t ht hW => ⟨⟨_, (ba, bb, bd, bn), rfl, ⟨zc (by rw [if_neg (by omega)]), by rw [if_neg (by omega)]⟩, by show va_P D vwCl _ _; rw [ht]; exact hP⟩, hS.F ht⟩) hS.2.2 dX9_write_20
  · simp only [Bool.and_eq_true, decide_eq_true_eq] at c_5
    refine lv_iload_n hx hb dX9_write_8 rfl (lv_at hl 3 rfl) ?_
    refine z_iconst hx hb dX9_write_9 ?_
    refine z_bipush hx hb dX9_write_10 (by decide +kernel) ?_
    refine roS (n := 3) (As := [.int (zI x3), .int (zI 0), .int (zI 7)]) (rest := []) hSf (c_isWithin l D k x3 0 7 (by omega) (by omega) (by omega)) gX9_write_X9_isWithin rfl (by decide +kernel) ⟨Nat.le_of_ble_eq_true rfl, Nat.le_of_ble_eq_true rfl⟩ hK hP [] rfl rfl hl.1 rfl (Nat.le_of_ble_eq_true rfl) dX9_write_12 ⟨Nat.zero_le _, Nat.zero_le _⟩ (fun r_12 h_12 => ?_)
    subst h_12
    refine z_if_neb (tgt := 21) hx hb dX9_write_15 (by decide) (fun c_15 => ?_) (fun c_15 => ?_)
    · simp only [Bool.and_eq_true, decide_eq_true_eq] at c_15
      refine lv_aload_n hx hb dX9_write_21 rfl (lv_at hl 0 rfl) ?_
      refine va_get (D := D) (ci := 9) (v := .ref h3) (C := RX9) (T := TX9) (N := 10) hx hb hts hinX9 hown hK.1 hP 0 rfl rfl 5 (by decide) fl47 (fun _ h9 => h9) rfl dX9_write_22 ?_
      refine roV (n := 0) (As := []) (rest := []) hSf (c_bisFull l D k h3 i3 j3 k3 ba bb bd bn hbn) gX9_write_X0_isFull rfl (by decide +kernel) ⟨Nat.le_of_ble_eq_true rfl, Nat.le_of_ble_eq_true rfl⟩ hK hP [1, 2, 3, 4] rfl 0 rfl rfl rfl hl.1 rfl (Nat.le_of_ble_eq_true rfl) dX9_write_25 ⟨Nat.zero_le _, Nat.zero_le _⟩ (fun r_25 h_25 => ?_)
      subst h_25
      refine z_if_eqb (tgt := 34) hx hb dX9_write_28 (by decide) (fun c_28 => ?_) (fun c_28 => ?_)
      · simp only [decide_eq_false_iff_not] at c_28
        refine lv_aload_n hx hb dX9_write_34 rfl (lv_at hl 0 rfl) ?_
        refine va_get (D := D) (ci := 9) (v := .ref h3) (C := RX9) (T := TX9) (N := 10) hx hb hts hinX9 hown hK.1 hP 0 rfl rfl 5 (by decide) fl47 (fun _ h9 => h9) rfl dX9_write_35 ?_
        refine lv_iload_n hx hb dX9_write_38 rfl (lv_at hl 1 rfl) ?_
        refine lv_iload_n hx hb dX9_write_39 rfl (lv_at hl 2 rfl) ?_
        refine lv_iload_n hx hb dX9_write_40 rfl (lv_at hl 3 rfl) ?_
        refine miV (n := 3) (As := [.int (zI x1), .int (zI x2), .int (zI x3)]) (rest := []) hSf (c_badd l D k h3 i3 j3 k3 ba bb bd bn x1 x2 x3 (by omega)) gX9_write_X0_add rfl (by decide +kernel) ⟨Nat.le_of_ble_eq_true rfl, Nat.le_of_ble_eq_true rfl⟩ hK hP hD hS [1, 2, 3, 4] rfl rfl (by decide) (fun _ => rfl) (fun _ => rfl) 0 rfl rfl rfl hl.1 rfl (Nat.le_of_ble_eq_true rfl) dX9_write_41 ⟨Nat.zero_le _, Nat.zero_le _⟩ (fun r_41 u_41 H locs h_41 hP hD hS => ?_)
        have hP : va_P D vwCl [(x9, .inr (9, [.ref h0, .ref h8, .ref h4, .ref h2, .ref hh, .ref h3, .ref h1, .ref im, .ref sd, .ref kp])), (h3, .inr (0, [.ref i3, .ref j3, .ref k3, .int (zI ((bn + 1 : Nat) : Int))])), (i3, .inl (k.1, 20, .inl (zF (upZ ba bn x1)))), (j3, .inl (k.1, 20, .inl (zF (upZ bb bn x2)))), (k3, .inl (k.1, 20, .inl (zF (upZ bd bn x3))))] H := hP
        have hD : va_D A [(x9, .inr (9, [.ref h0, .ref h8, .ref h4, .ref h2, .ref hh, .ref h3, .ref h1, .ref im, .ref sd, .ref kp])), (h3, .inr (0, [.ref i3, .ref j3, .ref k3, .int (zI ((bn + 1 : Nat) : Int))])), (i3, .inl (k.1, 20, .inl (zF (upZ ba bn x1)))), (j3, .inl (k.1, 20, .inl (zF (upZ bb bn x2)))), (k3, .inl (k.1, 20, .inl (zF (upZ bd bn x3))))] := hD
        obtain ⟨he_41, h_41⟩ := h_41
        subst he_41
        exact W.iret hx hb hr (fun t ht hW => ⟨⟨_, (upZ ba bn x1, upZ bb bn x2, upZ bd bn x3, bn + 1), rfl, ⟨zc (by rw [if_pos (by omega), if_neg (by omega)]), by rw [if_pos (by omega)]⟩, by show va_P D vwCl _ _; rw [ht]; exact hP⟩, hS.F ht⟩) hS.2.2 dX9_write_44
      · simp only [decide_eq_true_eq] at c_28
        refine lv_ldc hx hb hown (hts (.constant RX9 185 (-1000000004)) (by decide +kernel)) dX9_write_31 ?_
        refine te (show (-1000000004 : Int32) = zI (-1000000004) from by decide +kernel) ?_
        exact W.iret hx hb hr (fun t ht hW => ⟨⟨_, (ba, bb, bd, bn), rfl, ⟨zc (by rw [if_pos (by omega), if_pos (by omega)]), by rw [if_neg (by omega)]⟩, by show va_P D vwCl _ _; rw [ht]; exact hP⟩, hS.F ht⟩) hS.2.2 dX9_write_33
    · simp only [Bool.and_eq_false_iff, decide_eq_false_iff_not] at c_15
      refine lv_ldc hx hb hown (hts (.constant RX9 99 (-1000000002)) (by decide +kernel)) dX9_write_18 ?_
      refine te (show (-1000000002 : Int32) = zI (-1000000002) from by decide +kernel) ?_
      exact W.iret hx hb hr (fun t ht hW => ⟨⟨_, (ba, bb, bd, bn), rfl, ⟨zc (by rw [if_neg (by omega)]), by rw [if_neg (by omega)]⟩, by show va_P D vwCl _ _; rw [ht]; exact hP⟩, hS.F ht⟩) hS.2.2 dX9_write_20
set_option maxHeartbeats 4000000 in
set_option maxRecDepth 100000 in
theorem c_tear (l : Launch) (D : va_G) (k : Kt) (x9 : Nat) (h0 : Nat) (c0 : Nat) (h8 : Nat) (h4 : Nat) (h2 : Nat) (hh : Nat) (h3 : Nat) (h1 : Nat) (im : Nat) (sd : Nat) (kp : Nat) (i3 : Nat) (j3 : Nat) (k3 : Nat) (ba : Nat → Int) (bb : Nat → Int) (bd : Nat → Int) (bn : Nat) : MI l D k yX9_tear wsX9_tear 1 20 [.ref x9] [(x9, .inr (9, [.ref h0, .ref h8, .ref h4, .ref h2, .ref hh, .ref h3, .ref h1, .ref im, .ref sd, .ref kp])), (h3, .inr (0, [.ref i3, .ref j3, .ref k3, .int (zI ((bn : Nat) : Int))])), (i3, .inl (k.1, 20, .inl (zF ba))), (j3, .inl (k.1, 20, .inl (zF bb))), (k3, .inl (k.1, 20, .inl (zF bd)))] (fun (r : Int32) (u : Unit) => r = zI ((bn : Nat) : Int) ∧ True) (fun u => [(x9, .inr (9, [.ref h0, .ref h8, .ref h4, .ref h2, .ref hh, .ref h3, .ref h1, .ref im, .ref sd, .ref kp])), (h3, .inr (0, [.ref i3, .ref j3, .ref k3, .int (zI 0)])), (i3, .inl (k.1, 20, .inl (zF ba))), (j3, .inl (k.1, 20, .inl (zF bb))), (k3, .inl (k.1, 20, .inl (zF bd)))]) := by
  refine Met.ofW (cc := cX9_tear) (maxL := 2) (ret := (some .int)) (by decide) rfl ?_
  intro p e s m args below meth c s₁ Bd hml hv
  obtain ⟨rfl, hP, hK, hD0⟩ := hv
  have hx := Bd.exec
  have hb := Bd.bytes
  have hr := Bd.returns
  have hts := atoms_spec (ws := wsX9_tear) Bd.pre
  have hown : s.vm.findClass RX9 = some m.cls := findClass_of_methodNamed Bd.named
  have hlocks := Bd.notSynchronized
  have hSf : CallFix p m c cX9_tear 2 s ([.ref x9] : List Value).toArray wsX9_tear RX9 := ⟨hx, hb, hml, hown, hts⟩
  have hD := fA_D hD0
  have hS : va_S (fA [(x9, .inr (9, [.ref h0, .ref h8, .ref h4, .ref h2, .ref hh, .ref h3, .ref h1, .ref im, .ref sd, .ref kp])), (h3, .inr (0, [.ref i3, .ref j3, .ref k3, .int (zI ((bn : Nat) : Int))])), (i3, .inl (k.1, 20, .inl (zF ba))), (j3, .inl (k.1, 20, .inl (zF bb))), (k3, .inl (k.1, 20, .inl (zF bd)))]) s.heap s.heap [] := va_S.rf
  generalize hAe : fA [(x9, .inr (9, [.ref h0, .ref h8, .ref h4, .ref h2, .ref hh, .ref h3, .ref h1, .ref im, .ref sd, .ref kp])), (h3, .inr (0, [.ref i3, .ref j3, .ref k3, .int (zI ((bn : Nat) : Int))])), (i3, .inl (k.1, 20, .inl (zF ba))), (j3, .inl (k.1, 20, .inl (zF bb))), (k3, .inl (k.1, 20, .inl (zF bd)))] = A at hD hS ⊢
  have hP : va_P D vwCl [(x9, .inr (9, [.ref h0, .ref h8, .ref h4, .ref h2, .ref hh, .ref h3, .ref h1, .ref im, .ref sd, .ref kp])), (h3, .inr (0, [.ref i3, .ref j3, .ref k3, .int (zI ((bn : Nat) : Int))])), (i3, .inl (k.1, 20, .inl (zF ba))), (j3, .inl (k.1, 20, .inl (zF bb))), (k3, .inl (k.1, 20, .inl (zF bd)))] s.heap := hP
  have hinX9 : ∀ w ∈ u_ws RX9 TX9 10, w ∈ wsX9_tear := by decide +kernel
  have fl47 := hts (.fieldLink RX9 47 "DotObjects" "book" "LDotObjects$Book;") (by decide +kernel)
  have hl := lv_entry ([.ref x9]) (n := 2) (Nat.le_of_ble_eq_true rfl)
  rw [lg_entry_eq]
  generalize (lg_sl ([.ref x9]) ++ List.replicate (2 - (lg_sl ([.ref x9])).length) Slot.unset).toArray = ls at hl ⊢
  have hl : lv_has ls 2 [(0, .ref x9)] := hl
  refine lv_aload_n hx hb dX9_tear_0 rfl (lv_at hl 0 rfl) ?_
  refine va_get (D := D) (ci := 9) (v := .ref h3) (C := RX9) (T := TX9) (N := 10) hx hb hts hinX9 hown hK.1 hP 0 rfl rfl 5 (by decide) fl47 (fun _ h9 => h9) rfl dX9_tear_1 ?_
  refine roV (n := 0) (As := []) (rest := []) hSf (c_bsize l D k h3 i3 j3 k3 ba bb bd bn) gX9_tear_X0_size rfl (by decide +kernel) ⟨Nat.le_of_ble_eq_true rfl, Nat.le_of_ble_eq_true rfl⟩ hK hP [1, 2, 3, 4] rfl 0 rfl rfl rfl hl.1 rfl (Nat.le_of_ble_eq_true rfl) dX9_tear_4 ⟨Nat.zero_le _, Nat.zero_le _⟩ (fun r_4 h_4 => ?_)
  subst h_4
  refine lv_istore_n (lv' := [(1, .int (zI ((bn : Nat) : Int))), (0, .ref x9)]) hx hb dX9_tear_7 rfl hl (by decide) rfl (fun ls hl => ?_)
  refine lv_aload_n hx hb dX9_tear_8 rfl (lv_at hl 1 rfl) ?_
  refine va_get (D := D) (ci := 9) (v := .ref h3) (C := RX9) (T := TX9) (N := 10) hx hb hts hinX9 hown hK.1 hP 0 rfl rfl 5 (by decide) fl47 (fun _ h9 => h9) rfl dX9_tear_9 ?_
  refine muV (n := 0) (As := []) (rest := []) hSf (c_bclear l D k h3 i3 j3 k3 ba bb bd bn) gX9_tear_X0_clear rfl (by decide +kernel) ⟨Nat.le_of_ble_eq_true rfl, Nat.le_of_ble_eq_true rfl⟩ hK hP hD hS [1, 2, 3, 4] rfl rfl (by decide) (fun _ => rfl) (fun _ => rfl) 0 rfl rfl rfl hl.1 rfl (Nat.le_of_ble_eq_true rfl) dX9_tear_12 ⟨Nat.zero_le _, Nat.zero_le _⟩ (fun u_12 H locs h_12 hP hD hS => ?_)
  have hP : va_P D vwCl [(x9, .inr (9, [.ref h0, .ref h8, .ref h4, .ref h2, .ref hh, .ref h3, .ref h1, .ref im, .ref sd, .ref kp])), (h3, .inr (0, [.ref i3, .ref j3, .ref k3, .int (zI 0)])), (i3, .inl (k.1, 20, .inl (zF ba))), (j3, .inl (k.1, 20, .inl (zF bb))), (k3, .inl (k.1, 20, .inl (zF bd)))] H := hP
  have hD : va_D A [(x9, .inr (9, [.ref h0, .ref h8, .ref h4, .ref h2, .ref hh, .ref h3, .ref h1, .ref im, .ref sd, .ref kp])), (h3, .inr (0, [.ref i3, .ref j3, .ref k3, .int (zI 0)])), (i3, .inl (k.1, 20, .inl (zF ba))), (j3, .inl (k.1, 20, .inl (zF bb))), (k3, .inl (k.1, 20, .inl (zF bd)))] := hD
  refine lv_iload_n hx hb dX9_tear_15 rfl (lv_at hl 0 rfl) ?_
  exact W.iret hx hb hr (fun t ht hW => ⟨⟨_, (), rfl, ⟨rfl, trivial⟩, by show va_P D vwCl _ _; rw [ht]; exact hP⟩, hS.F ht⟩) hS.2.2 dX9_tear_16
set_option maxHeartbeats 4000000 in
set_option maxRecDepth 100000 in
theorem c_seed (l : Launch) (D : va_G) (k : Kt) (x9 : Nat) (h0 : Nat) (c0 : Nat) (h8 : Nat) (h4 : Nat) (h2 : Nat) (hh : Nat) (h3 : Nat) (h1 : Nat) (im : Nat) (sd : Nat) (kp : Nat) (vd : Int) (x1 : Int) (hx1 : -2147483648 ≤ x1 ∧ x1 < 2147483648) : MI l D k yX9_seed wsX9_seed 1 21 [.ref x9, .int (zI x1)] [(x9, .inr (9, [.ref h0, .ref h8, .ref h4, .ref h2, .ref hh, .ref h3, .ref h1, .ref im, .ref sd, .ref kp])), (h1, .inr (1, [.int (zI vd)]))] (fun (r : Int32) (u : Int) => r = zI (if 0 ≤ x1 then vd else -1000000002) ∧ u = if 0 ≤ x1 then x1 else vd) (fun u => [(x9, .inr (9, [.ref h0, .ref h8, .ref h4, .ref h2, .ref hh, .ref h3, .ref h1, .ref im, .ref sd, .ref kp])), (h1, .inr (1, [.int (zI u)]))]) := by
  refine Met.ofW (cc := cX9_seed) (maxL := 3) (ret := (some .int)) (by decide) rfl ?_
  intro p e s m args below meth c s₁ Bd hml hv
  obtain ⟨rfl, hP, hK, hD0⟩ := hv
  have hx := Bd.exec
  have hb := Bd.bytes
  have hr := Bd.returns
  have hts := atoms_spec (ws := wsX9_seed) Bd.pre
  have hown : s.vm.findClass RX9 = some m.cls := findClass_of_methodNamed Bd.named
  have hlocks := Bd.notSynchronized
  have hSf : CallFix p m c cX9_seed 3 s ([.ref x9, .int (zI x1)] : List Value).toArray wsX9_seed RX9 := ⟨hx, hb, hml, hown, hts⟩
  have hD := fA_D hD0
  have hS : va_S (fA [(x9, .inr (9, [.ref h0, .ref h8, .ref h4, .ref h2, .ref hh, .ref h3, .ref h1, .ref im, .ref sd, .ref kp])), (h1, .inr (1, [.int (zI vd)]))]) s.heap s.heap [] := va_S.rf
  generalize hAe : fA [(x9, .inr (9, [.ref h0, .ref h8, .ref h4, .ref h2, .ref hh, .ref h3, .ref h1, .ref im, .ref sd, .ref kp])), (h1, .inr (1, [.int (zI vd)]))] = A at hD hS ⊢
  have hP : va_P D vwCl [(x9, .inr (9, [.ref h0, .ref h8, .ref h4, .ref h2, .ref hh, .ref h3, .ref h1, .ref im, .ref sd, .ref kp])), (h1, .inr (1, [.int (zI vd)]))] s.heap := hP
  have hinX9 : ∀ w ∈ u_ws RX9 TX9 10, w ∈ wsX9_seed := by decide +kernel
  have fl54 := hts (.fieldLink RX9 54 "DotObjects" "draws" "LDotObjects$Draws;") (by decide +kernel)
  have hl := lv_entry ([.ref x9, .int (zI x1)]) (n := 3) (Nat.le_of_ble_eq_true rfl)
  rw [lg_entry_eq]
  generalize (lg_sl ([.ref x9, .int (zI x1)]) ++ List.replicate (3 - (lg_sl ([.ref x9, .int (zI x1)])).length) Slot.unset).toArray = ls at hl ⊢
  have hl : lv_has ls 3 [(0, .ref x9), (1, .int (zI x1))] := hl
  refine lv_iload_n hx hb dX9_seed_0 rfl (lv_at hl 1 rfl) ?_
  refine z_if_ge (tgt := 7) hx hb dX9_seed_1 (by decide) (by omega) (fun c_1 => ?_) (fun c_1 => ?_)
  · refine lv_aload_n hx hb dX9_seed_7 rfl (lv_at hl 0 rfl) ?_
    refine va_get (D := D) (ci := 9) (v := .ref h1) (C := RX9) (T := TX9) (N := 10) hx hb hts hinX9 hown hK.1 hP 0 rfl rfl 6 (by decide) fl54 (fun _ h9 => h9) rfl dX9_seed_8 ?_
    refine roV (n := 0) (As := []) (rest := []) hSf (c_value l D k h1 vd) gX9_seed_X1_value rfl (by decide +kernel) ⟨Nat.le_of_ble_eq_true rfl, Nat.le_of_ble_eq_true rfl⟩ hK hP [1] rfl 0 rfl rfl rfl hl.1 rfl (Nat.le_of_ble_eq_true rfl) dX9_seed_11 ⟨Nat.zero_le _, Nat.zero_le _⟩ (fun r_11 h_11 => ?_)
    subst h_11
    refine lv_istore_n (lv' := [(2, .int (zI vd)), (0, .ref x9), (1, .int (zI x1))]) hx hb dX9_seed_14 rfl hl (by decide) rfl (fun ls hl => ?_)
    refine lv_aload_n hx hb dX9_seed_15 rfl (lv_at hl 1 rfl) ?_
    refine va_get (D := D) (ci := 9) (v := .ref h1) (C := RX9) (T := TX9) (N := 10) hx hb hts hinX9 hown hK.1 hP 0 rfl rfl 6 (by decide) fl54 (fun _ h9 => h9) rfl dX9_seed_16 ?_
    refine lv_iload_n hx hb dX9_seed_19 rfl (lv_at hl 2 rfl) ?_
    refine muV (n := 1) (As := [.int (zI x1)]) (rest := []) hSf (c_start l D k h1 vd x1) gX9_seed_X1_start rfl (by decide +kernel) ⟨Nat.le_of_ble_eq_true rfl, Nat.le_of_ble_eq_true rfl⟩ hK hP hD hS [1] rfl rfl (by decide) (fun _ => rfl) (fun _ => rfl) 0 rfl rfl rfl hl.1 rfl (Nat.le_of_ble_eq_true rfl) dX9_seed_20 ⟨Nat.zero_le _, Nat.zero_le _⟩ (fun u_20 H locs h_20 hP hD hS => ?_)
    have hP : va_P D vwCl [(x9, .inr (9, [.ref h0, .ref h8, .ref h4, .ref h2, .ref hh, .ref h3, .ref h1, .ref im, .ref sd, .ref kp])), (h1, .inr (1, [.int (zI x1)]))] H := hP
    have hD : va_D A [(x9, .inr (9, [.ref h0, .ref h8, .ref h4, .ref h2, .ref hh, .ref h3, .ref h1, .ref im, .ref sd, .ref kp])), (h1, .inr (1, [.int (zI x1)]))] := hD
    refine lv_iload_n hx hb dX9_seed_23 rfl (lv_at hl 0 rfl) ?_
    exact W.iret hx hb hr (fun t ht hW => ⟨⟨_, x1, rfl, ⟨zc (by rw [if_pos (by omega)]), by rw [if_pos (by omega)]⟩, by show va_P D vwCl _ _; rw [ht]; exact hP⟩, hS.F ht⟩) hS.2.2 dX9_seed_24
  · refine lv_ldc hx hb hown (hts (.constant RX9 99 (-1000000002)) (by decide +kernel)) dX9_seed_4 ?_
    refine te (show (-1000000002 : Int32) = zI (-1000000002) from by decide +kernel) ?_
    exact W.iret hx hb hr (fun t ht hW => ⟨⟨_, vd, rfl, ⟨zc (by rw [if_neg (by omega)]), by rw [if_neg (by omega)]⟩, by show va_P D vwCl _ _; rw [ht]; exact hP⟩, hS.F ht⟩) hS.2.2 dX9_seed_6
set_option maxHeartbeats 4000000 in
set_option maxRecDepth 100000 in
theorem c_keep (l : Launch) (D : va_G) (k : Kt) (x9 : Nat) (h0 : Nat) (c0 : Nat) (h8 : Nat) (h4 : Nat) (h2 : Nat) (hh : Nat) (h3 : Nat) (h1 : Nat) (im : Nat) (sd : Nat) (kp : Nat) (f : St) (m0 : Nat) (m1 : Nat) (mm : Nat → St) (ms : Nat → Int) (mk : Nat → Int) (eo : Nat) (nx : Nat) (sz : Nat) (vd : Int) (x1 : Int) (hx1 : -2147483648 ≤ x1 ∧ x1 < 2147483648) : MI l D k yX9_keep wsX9_keep 2 61 [.ref x9, .int (zI x1)] [(x9, .inr (9, [.ref h0, .ref h8, .ref h4, .ref h2, .ref hh, .ref h3, .ref h1, .ref im, .ref sd, .ref kp])), (h0, .inr (7, [.ref c0])), (c0, .inl (k.1, 132, .inl (zF f))), (h1, .inr (1, [.int (zI vd)])), (hh, .inr (3, [.ref eo, .int (zI ((nx : Nat) : Int)), .int (zI ((sz : Nat) : Int))])), (im, .inl (k.2.2.2, 2, .inr (.inr (.inr (.inr (imF m0 m1)))))), (m0, .inl (k.1, 132, .inl (zF (mm 0)))), (m1, .inl (k.1, 132, .inl (zF (mm 1)))), (sd, .inl (k.1, 2, .inl (zF ms))), (kp, .inl (k.2.1, 2, .inl (zF mk)))] (fun (r : Int32) (u : (Nat → St) × (Nat → Int) × (Nat → Int) × Nat) => r = zI (if 0 ≤ x1 ∧ x1 ≤ 1 then 1 else -1000000001) ∧ u = if 0 ≤ x1 ∧ x1 ≤ 1 then (upE mm x1.toNat (cpZ f (mm x1.toNat) 0 0 132), upZ ms x1.toNat vd, upZ mk x1.toNat 1, 0) else (mm, ms, mk, sz)) (fun u => [(x9, .inr (9, [.ref h0, .ref h8, .ref h4, .ref h2, .ref hh, .ref h3, .ref h1, .ref im, .ref sd, .ref kp])), (h0, .inr (7, [.ref c0])), (c0, .inl (k.1, 132, .inl (zF f))), (h1, .inr (1, [.int (zI vd)])), (hh, .inr (3, [.ref eo, .int (zI ((nx : Nat) : Int)), .int (zI ((u.2.2.2 : Nat) : Int))])), (im, .inl (k.2.2.2, 2, .inr (.inr (.inr (.inr (imF m0 m1)))))), (m0, .inl (k.1, 132, .inl (zF (u.1 0)))), (m1, .inl (k.1, 132, .inl (zF (u.1 1)))), (sd, .inl (k.1, 2, .inl (zF u.2.1))), (kp, .inl (k.2.1, 2, .inl (zF u.2.2.1)))]) := by
  refine Met.ofW (cc := cX9_keep) (maxL := 2) (ret := (some .int)) (by decide) rfl ?_
  intro p e s m args below meth c s₁ Bd hml hv
  obtain ⟨rfl, hP, hK, hD0⟩ := hv
  have hx := Bd.exec
  have hb := Bd.bytes
  have hr := Bd.returns
  have hts := atoms_spec (ws := wsX9_keep) Bd.pre
  have hown : s.vm.findClass RX9 = some m.cls := findClass_of_methodNamed Bd.named
  have hlocks := Bd.notSynchronized
  have hSf : CallFix p m c cX9_keep 2 s ([.ref x9, .int (zI x1)] : List Value).toArray wsX9_keep RX9 := ⟨hx, hb, hml, hown, hts⟩
  have hD := fA_D hD0
  have hS : va_S (fA [(x9, .inr (9, [.ref h0, .ref h8, .ref h4, .ref h2, .ref hh, .ref h3, .ref h1, .ref im, .ref sd, .ref kp])), (h0, .inr (7, [.ref c0])), (c0, .inl (k.1, 132, .inl (zF f))), (h1, .inr (1, [.int (zI vd)])), (hh, .inr (3, [.ref eo, .int (zI ((nx : Nat) : Int)), .int (zI ((sz : Nat) : Int))])), (im, .inl (k.2.2.2, 2, .inr (.inr (.inr (.inr (imF m0 m1)))))), (m0, .inl (k.1, 132, .inl (zF (mm 0)))), (m1, .inl (k.1, 132, .inl (zF (mm 1)))), (sd, .inl (k.1, 2, .inl (zF ms))), (kp, .inl (k.2.1, 2, .inl (zF mk)))]) s.heap s.heap [] := va_S.rf
  generalize hAe : fA [(x9, .inr (9, [.ref h0, .ref h8, .ref h4, .ref h2, .ref hh, .ref h3, .ref h1, .ref im, .ref sd, .ref kp])), (h0, .inr (7, [.ref c0])), (c0, .inl (k.1, 132, .inl (zF f))), (h1, .inr (1, [.int (zI vd)])), (hh, .inr (3, [.ref eo, .int (zI ((nx : Nat) : Int)), .int (zI ((sz : Nat) : Int))])), (im, .inl (k.2.2.2, 2, .inr (.inr (.inr (.inr (imF m0 m1)))))), (m0, .inl (k.1, 132, .inl (zF (mm 0)))), (m1, .inl (k.1, 132, .inl (zF (mm 1)))), (sd, .inl (k.1, 2, .inl (zF ms))), (kp, .inl (k.2.1, 2, .inl (zF mk)))] = A at hD hS ⊢
  have hP : va_P D vwCl [(x9, .inr (9, [.ref h0, .ref h8, .ref h4, .ref h2, .ref hh, .ref h3, .ref h1, .ref im, .ref sd, .ref kp])), (h0, .inr (7, [.ref c0])), (c0, .inl (k.1, 132, .inl (zF f))), (h1, .inr (1, [.int (zI vd)])), (hh, .inr (3, [.ref eo, .int (zI ((nx : Nat) : Int)), .int (zI ((sz : Nat) : Int))])), (im, .inl (k.2.2.2, 2, .inr (.inr (.inr (.inr (imF m0 m1)))))), (m0, .inl (k.1, 132, .inl (zF (mm 0)))), (m1, .inl (k.1, 132, .inl (zF (mm 1)))), (sd, .inl (k.1, 2, .inl (zF ms))), (kp, .inl (k.2.1, 2, .inl (zF mk)))] s.heap := hP
  have hinX9 : ∀ w ∈ u_ws RX9 TX9 10, w ∈ wsX9_keep := by decide +kernel
  have fl10 := hts (.fieldLink RX9 10 "DotObjects" "scene" "LDotObjects$Scene;") (by decide +kernel)
  have fl60 := hts (.fieldLink RX9 60 "DotObjects" "images" "[[I") (by decide +kernel)
  have fl63 := hts (.fieldLink RX9 63 "DotObjects" "imageSeeds" "[I") (by decide +kernel)
  have fl54 := hts (.fieldLink RX9 54 "DotObjects" "draws" "LDotObjects$Draws;") (by decide +kernel)
  have fl67 := hts (.fieldLink RX9 67 "DotObjects" "kept" "[Z") (by decide +kernel)
  have fl40 := hts (.fieldLink RX9 40 "DotObjects" "history" "LDotObjects$History;") (by decide +kernel)
  have hl := lv_entry ([.ref x9, .int (zI x1)]) (n := 2) (Nat.le_of_ble_eq_true rfl)
  rw [lg_entry_eq]
  generalize (lg_sl ([.ref x9, .int (zI x1)]) ++ List.replicate (2 - (lg_sl ([.ref x9, .int (zI x1)])).length) Slot.unset).toArray = ls at hl ⊢
  have hl : lv_has ls 2 [(0, .ref x9), (1, .int (zI x1))] := hl
  refine lv_iload_n hx hb dX9_keep_0 rfl (lv_at hl 1 rfl) ?_
  refine roS (n := 1) (As := [.int (zI x1)]) (rest := []) hSf (c_isImage l D k x1 (by omega)) gX9_keep_X9_isImage rfl (by decide +kernel) ⟨Nat.le_of_ble_eq_true rfl, Nat.le_of_ble_eq_true rfl⟩ hK hP [] rfl rfl hl.1 rfl (Nat.le_of_ble_eq_true rfl) dX9_keep_1 ⟨Nat.zero_le _, Nat.zero_le _⟩ (fun r_1 h_1 => ?_)
  subst h_1
  refine z_if_neb (tgt := 10) hx hb dX9_keep_4 (by decide) (fun c_4 => ?_) (fun c_4 => ?_)
  · simp only [Bool.and_eq_true, decide_eq_true_eq] at c_4
    refine lv_aload_n hx hb dX9_keep_10 rfl (lv_at hl 0 rfl) ?_
    refine va_get (D := D) (ci := 9) (v := .ref h0) (C := RX9) (T := TX9) (N := 10) hx hb hts hinX9 hown hK.1 hP 0 rfl rfl 0 (by decide) fl10 (fun _ h9 => h9) rfl dX9_keep_11 ?_
    refine lv_aload_n hx hb dX9_keep_14 rfl (lv_at hl 0 rfl) ?_
    refine va_get (D := D) (ci := 9) (v := .ref im) (C := RX9) (T := TX9) (N := 10) hx hb hts hinX9 hown hK.1 hP 0 rfl rfl 7 (by decide) fl60 (fun _ h9 => h9) rfl dX9_keep_15 ?_
    refine lv_iload_n hx hb dX9_keep_18 rfl (lv_at hl 1 rfl) ?_
    rcases (show x1 = 0 ∨ x1 = 1 by omega) with hxv | hxv
    · refine z_aald hx hb hK hP 5 rfl (0) (by omega) (by decide) (Nat.le_of_ble_eq_true rfl) rfl dX9_keep_19 ?_
      refine muV (n := 1) (As := [.ref m0]) (rest := []) hSf (c_saveTo l D k h0 c0 f m0 (mm 0)) gX9_keep_X7_saveTo rfl (by decide +kernel) ⟨Nat.le_of_ble_eq_true rfl, Nat.le_of_ble_eq_true rfl⟩ hK hP hD hS [1, 2, 6] rfl rfl (by decide) (fun _ => rfl) (fun _ => rfl) 0 rfl rfl rfl hl.1 rfl (Nat.le_of_ble_eq_true rfl) dX9_keep_20 ⟨Nat.zero_le _, Nat.zero_le _⟩ (fun u_20 H locs h_20 hP hD hS => ?_)
      have hP : va_P D vwCl [(x9, .inr (9, [.ref h0, .ref h8, .ref h4, .ref h2, .ref hh, .ref h3, .ref h1, .ref im, .ref sd, .ref kp])), (h0, .inr (7, [.ref c0])), (c0, .inl (k.1, 132, .inl (zF f))), (h1, .inr (1, [.int (zI vd)])), (hh, .inr (3, [.ref eo, .int (zI ((nx : Nat) : Int)), .int (zI ((sz : Nat) : Int))])), (im, .inl (k.2.2.2, 2, .inr (.inr (.inr (.inr (imF m0 m1)))))), (m0, .inl (k.1, 132, .inl (zF (cpZ f (mm 0) 0 0 132)))), (m1, .inl (k.1, 132, .inl (zF (mm 1)))), (sd, .inl (k.1, 2, .inl (zF ms))), (kp, .inl (k.2.1, 2, .inl (zF mk)))] H := hP
      have hD : va_D A [(x9, .inr (9, [.ref h0, .ref h8, .ref h4, .ref h2, .ref hh, .ref h3, .ref h1, .ref im, .ref sd, .ref kp])), (h0, .inr (7, [.ref c0])), (c0, .inl (k.1, 132, .inl (zF f))), (h1, .inr (1, [.int (zI vd)])), (hh, .inr (3, [.ref eo, .int (zI ((nx : Nat) : Int)), .int (zI ((sz : Nat) : Int))])), (im, .inl (k.2.2.2, 2, .inr (.inr (.inr (.inr (imF m0 m1)))))), (m0, .inl (k.1, 132, .inl (zF (cpZ f (mm 0) 0 0 132)))), (m1, .inl (k.1, 132, .inl (zF (mm 1)))), (sd, .inl (k.1, 2, .inl (zF ms))), (kp, .inl (k.2.1, 2, .inl (zF mk)))] := hD
      refine lv_aload_n hx hb dX9_keep_23 rfl (lv_at hl 0 rfl) ?_
      refine va_get (D := D) (ci := 9) (v := .ref sd) (C := RX9) (T := TX9) (N := 10) hx hb hts hinX9 hown hK.1 hP 0 rfl rfl 8 (by decide) fl63 (fun _ h9 => h9) rfl dX9_keep_24 ?_
      refine lv_iload_n hx hb dX9_keep_27 rfl (lv_at hl 1 rfl) ?_
      refine lv_aload_n hx hb dX9_keep_28 rfl (lv_at hl 0 rfl) ?_
      refine va_get (D := D) (ci := 9) (v := .ref h1) (C := RX9) (T := TX9) (N := 10) hx hb hts hinX9 hown hK.1 hP 0 rfl rfl 6 (by decide) fl54 (fun _ h9 => h9) rfl dX9_keep_29 ?_
      refine roV (n := 0) (As := []) (rest := [.int (zI x1), .ref sd]) hSf (c_value l D k h1 vd) gX9_keep_X1_value rfl (by decide +kernel) ⟨Nat.le_of_ble_eq_true rfl, Nat.le_of_ble_eq_true rfl⟩ hK hP [3] rfl 0 rfl rfl rfl hl.1 rfl (Nat.le_of_ble_eq_true rfl) dX9_keep_32 ⟨Nat.zero_le _, Nat.zero_le _⟩ (fun r_32 h_32 => ?_)
      subst h_32
      refine z_ast hx hb hK hP hD hS 8 rfl (x1.toNat) (by omega) (by omega) (Nat.le_of_ble_eq_true rfl) dX9_keep_35 (fun H locs hP hD hS => ?_)
      have hP : va_P D vwCl [(x9, .inr (9, [.ref h0, .ref h8, .ref h4, .ref h2, .ref hh, .ref h3, .ref h1, .ref im, .ref sd, .ref kp])), (h0, .inr (7, [.ref c0])), (c0, .inl (k.1, 132, .inl (zF f))), (h1, .inr (1, [.int (zI vd)])), (hh, .inr (3, [.ref eo, .int (zI ((nx : Nat) : Int)), .int (zI ((sz : Nat) : Int))])), (im, .inl (k.2.2.2, 2, .inr (.inr (.inr (.inr (imF m0 m1)))))), (m0, .inl (k.1, 132, .inl (zF (cpZ f (mm 0) 0 0 132)))), (m1, .inl (k.1, 132, .inl (zF (mm 1)))), (sd, .inl (k.1, 2, .inl (zF (upZ ms x1.toNat vd)))), (kp, .inl (k.2.1, 2, .inl (zF mk)))] H := hP
      have hD : va_D A [(x9, .inr (9, [.ref h0, .ref h8, .ref h4, .ref h2, .ref hh, .ref h3, .ref h1, .ref im, .ref sd, .ref kp])), (h0, .inr (7, [.ref c0])), (c0, .inl (k.1, 132, .inl (zF f))), (h1, .inr (1, [.int (zI vd)])), (hh, .inr (3, [.ref eo, .int (zI ((nx : Nat) : Int)), .int (zI ((sz : Nat) : Int))])), (im, .inl (k.2.2.2, 2, .inr (.inr (.inr (.inr (imF m0 m1)))))), (m0, .inl (k.1, 132, .inl (zF (cpZ f (mm 0) 0 0 132)))), (m1, .inl (k.1, 132, .inl (zF (mm 1)))), (sd, .inl (k.1, 2, .inl (zF (upZ ms x1.toNat vd)))), (kp, .inl (k.2.1, 2, .inl (zF mk)))] := hD
      refine lv_aload_n hx hb dX9_keep_36 rfl (lv_at hl 0 rfl) ?_
      refine va_get (D := D) (ci := 9) (v := .ref kp) (C := RX9) (T := TX9) (N := 10) hx hb hts hinX9 hown hK.1 hP 0 rfl rfl 9 (by decide) fl67 (fun _ h9 => h9) rfl dX9_keep_37 ?_
      refine lv_iload_n hx hb dX9_keep_40 rfl (lv_at hl 1 rfl) ?_
      refine z_iconst hx hb dX9_keep_41 ?_
      refine z_zast hx hb hK hP hD hS 9 rfl (x1.toNat) (by omega) (by omega) (Nat.le_of_ble_eq_true rfl) dX9_keep_42 (fun H locs hP hD hS => ?_)
      have hP : va_P D vwCl [(x9, .inr (9, [.ref h0, .ref h8, .ref h4, .ref h2, .ref hh, .ref h3, .ref h1, .ref im, .ref sd, .ref kp])), (h0, .inr (7, [.ref c0])), (c0, .inl (k.1, 132, .inl (zF f))), (h1, .inr (1, [.int (zI vd)])), (hh, .inr (3, [.ref eo, .int (zI ((nx : Nat) : Int)), .int (zI ((sz : Nat) : Int))])), (im, .inl (k.2.2.2, 2, .inr (.inr (.inr (.inr (imF m0 m1)))))), (m0, .inl (k.1, 132, .inl (zF (cpZ f (mm 0) 0 0 132)))), (m1, .inl (k.1, 132, .inl (zF (mm 1)))), (sd, .inl (k.1, 2, .inl (zF (upZ ms x1.toNat vd)))), (kp, .inl (k.2.1, 2, .inl (zF (upZ mk x1.toNat 1))))] H := hP
      have hD : va_D A [(x9, .inr (9, [.ref h0, .ref h8, .ref h4, .ref h2, .ref hh, .ref h3, .ref h1, .ref im, .ref sd, .ref kp])), (h0, .inr (7, [.ref c0])), (c0, .inl (k.1, 132, .inl (zF f))), (h1, .inr (1, [.int (zI vd)])), (hh, .inr (3, [.ref eo, .int (zI ((nx : Nat) : Int)), .int (zI ((sz : Nat) : Int))])), (im, .inl (k.2.2.2, 2, .inr (.inr (.inr (.inr (imF m0 m1)))))), (m0, .inl (k.1, 132, .inl (zF (cpZ f (mm 0) 0 0 132)))), (m1, .inl (k.1, 132, .inl (zF (mm 1)))), (sd, .inl (k.1, 2, .inl (zF (upZ ms x1.toNat vd)))), (kp, .inl (k.2.1, 2, .inl (zF (upZ mk x1.toNat 1))))] := hD
      refine lv_aload_n hx hb dX9_keep_43 rfl (lv_at hl 0 rfl) ?_
      refine va_get (D := D) (ci := 9) (v := .ref hh) (C := RX9) (T := TX9) (N := 10) hx hb hts hinX9 hown hK.1 hP 0 rfl rfl 4 (by decide) fl40 (fun _ h9 => h9) rfl dX9_keep_44 ?_
      refine muV (n := 0) (As := []) (rest := []) hSf (c_hclear l D k hh eo nx sz) gX9_keep_X3_clear rfl (by decide +kernel) ⟨Nat.le_of_ble_eq_true rfl, Nat.le_of_ble_eq_true rfl⟩ hK hP hD hS [4] rfl rfl (by decide) (fun _ => rfl) (fun _ => rfl) 0 rfl rfl rfl hl.1 rfl (Nat.le_of_ble_eq_true rfl) dX9_keep_47 ⟨Nat.zero_le _, Nat.zero_le _⟩ (fun u_47 H locs h_47 hP hD hS => ?_)
      have hP : va_P D vwCl [(x9, .inr (9, [.ref h0, .ref h8, .ref h4, .ref h2, .ref hh, .ref h3, .ref h1, .ref im, .ref sd, .ref kp])), (h0, .inr (7, [.ref c0])), (c0, .inl (k.1, 132, .inl (zF f))), (h1, .inr (1, [.int (zI vd)])), (hh, .inr (3, [.ref eo, .int (zI ((nx : Nat) : Int)), .int (zI 0)])), (im, .inl (k.2.2.2, 2, .inr (.inr (.inr (.inr (imF m0 m1)))))), (m0, .inl (k.1, 132, .inl (zF (cpZ f (mm 0) 0 0 132)))), (m1, .inl (k.1, 132, .inl (zF (mm 1)))), (sd, .inl (k.1, 2, .inl (zF (upZ ms x1.toNat vd)))), (kp, .inl (k.2.1, 2, .inl (zF (upZ mk x1.toNat 1))))] H := hP
      have hD : va_D A [(x9, .inr (9, [.ref h0, .ref h8, .ref h4, .ref h2, .ref hh, .ref h3, .ref h1, .ref im, .ref sd, .ref kp])), (h0, .inr (7, [.ref c0])), (c0, .inl (k.1, 132, .inl (zF f))), (h1, .inr (1, [.int (zI vd)])), (hh, .inr (3, [.ref eo, .int (zI ((nx : Nat) : Int)), .int (zI 0)])), (im, .inl (k.2.2.2, 2, .inr (.inr (.inr (.inr (imF m0 m1)))))), (m0, .inl (k.1, 132, .inl (zF (cpZ f (mm 0) 0 0 132)))), (m1, .inl (k.1, 132, .inl (zF (mm 1)))), (sd, .inl (k.1, 2, .inl (zF (upZ ms x1.toNat vd)))), (kp, .inl (k.2.1, 2, .inl (zF (upZ mk x1.toNat 1))))] := hD
      refine z_iconst hx hb dX9_keep_50 ?_
      rw [show x1.toNat = 0 by omega] at hP
      exact W.iret hx hb hr (fun t ht hW => ⟨⟨_, (upE mm 0 (cpZ f (mm 0) 0 0 132), upZ ms 0 vd, upZ mk 0 1, 0), rfl, ⟨zc (by rw [if_pos (by omega)]), by rw [if_pos (by omega), show x1.toNat = 0 by omega]⟩, by show va_P D vwCl _ _; rw [ht]; exact hP⟩, hS.F ht⟩) hS.2.2 dX9_keep_51
    · refine z_aald hx hb hK hP 5 rfl (1) (by omega) (by decide) (Nat.le_of_ble_eq_true rfl) rfl dX9_keep_19 ?_
      refine muV (n := 1) (As := [.ref m1]) (rest := []) hSf (c_saveTo l D k h0 c0 f m1 (mm 1)) gX9_keep_X7_saveTo rfl (by decide +kernel) ⟨Nat.le_of_ble_eq_true rfl, Nat.le_of_ble_eq_true rfl⟩ hK hP hD hS [1, 2, 7] rfl rfl (by decide) (fun _ => rfl) (fun _ => rfl) 0 rfl rfl rfl hl.1 rfl (Nat.le_of_ble_eq_true rfl) dX9_keep_20 ⟨Nat.zero_le _, Nat.zero_le _⟩ (fun u_20 H locs h_20 hP hD hS => ?_)
      have hP : va_P D vwCl [(x9, .inr (9, [.ref h0, .ref h8, .ref h4, .ref h2, .ref hh, .ref h3, .ref h1, .ref im, .ref sd, .ref kp])), (h0, .inr (7, [.ref c0])), (c0, .inl (k.1, 132, .inl (zF f))), (h1, .inr (1, [.int (zI vd)])), (hh, .inr (3, [.ref eo, .int (zI ((nx : Nat) : Int)), .int (zI ((sz : Nat) : Int))])), (im, .inl (k.2.2.2, 2, .inr (.inr (.inr (.inr (imF m0 m1)))))), (m0, .inl (k.1, 132, .inl (zF (mm 0)))), (m1, .inl (k.1, 132, .inl (zF (cpZ f (mm 1) 0 0 132)))), (sd, .inl (k.1, 2, .inl (zF ms))), (kp, .inl (k.2.1, 2, .inl (zF mk)))] H := hP
      have hD : va_D A [(x9, .inr (9, [.ref h0, .ref h8, .ref h4, .ref h2, .ref hh, .ref h3, .ref h1, .ref im, .ref sd, .ref kp])), (h0, .inr (7, [.ref c0])), (c0, .inl (k.1, 132, .inl (zF f))), (h1, .inr (1, [.int (zI vd)])), (hh, .inr (3, [.ref eo, .int (zI ((nx : Nat) : Int)), .int (zI ((sz : Nat) : Int))])), (im, .inl (k.2.2.2, 2, .inr (.inr (.inr (.inr (imF m0 m1)))))), (m0, .inl (k.1, 132, .inl (zF (mm 0)))), (m1, .inl (k.1, 132, .inl (zF (cpZ f (mm 1) 0 0 132)))), (sd, .inl (k.1, 2, .inl (zF ms))), (kp, .inl (k.2.1, 2, .inl (zF mk)))] := hD
      refine lv_aload_n hx hb dX9_keep_23 rfl (lv_at hl 0 rfl) ?_
      refine va_get (D := D) (ci := 9) (v := .ref sd) (C := RX9) (T := TX9) (N := 10) hx hb hts hinX9 hown hK.1 hP 0 rfl rfl 8 (by decide) fl63 (fun _ h9 => h9) rfl dX9_keep_24 ?_
      refine lv_iload_n hx hb dX9_keep_27 rfl (lv_at hl 1 rfl) ?_
      refine lv_aload_n hx hb dX9_keep_28 rfl (lv_at hl 0 rfl) ?_
      refine va_get (D := D) (ci := 9) (v := .ref h1) (C := RX9) (T := TX9) (N := 10) hx hb hts hinX9 hown hK.1 hP 0 rfl rfl 6 (by decide) fl54 (fun _ h9 => h9) rfl dX9_keep_29 ?_
      refine roV (n := 0) (As := []) (rest := [.int (zI x1), .ref sd]) hSf (c_value l D k h1 vd) gX9_keep_X1_value rfl (by decide +kernel) ⟨Nat.le_of_ble_eq_true rfl, Nat.le_of_ble_eq_true rfl⟩ hK hP [3] rfl 0 rfl rfl rfl hl.1 rfl (Nat.le_of_ble_eq_true rfl) dX9_keep_32 ⟨Nat.zero_le _, Nat.zero_le _⟩ (fun r_32 h_32 => ?_)
      subst h_32
      refine z_ast hx hb hK hP hD hS 8 rfl (x1.toNat) (by omega) (by omega) (Nat.le_of_ble_eq_true rfl) dX9_keep_35 (fun H locs hP hD hS => ?_)
      have hP : va_P D vwCl [(x9, .inr (9, [.ref h0, .ref h8, .ref h4, .ref h2, .ref hh, .ref h3, .ref h1, .ref im, .ref sd, .ref kp])), (h0, .inr (7, [.ref c0])), (c0, .inl (k.1, 132, .inl (zF f))), (h1, .inr (1, [.int (zI vd)])), (hh, .inr (3, [.ref eo, .int (zI ((nx : Nat) : Int)), .int (zI ((sz : Nat) : Int))])), (im, .inl (k.2.2.2, 2, .inr (.inr (.inr (.inr (imF m0 m1)))))), (m0, .inl (k.1, 132, .inl (zF (mm 0)))), (m1, .inl (k.1, 132, .inl (zF (cpZ f (mm 1) 0 0 132)))), (sd, .inl (k.1, 2, .inl (zF (upZ ms x1.toNat vd)))), (kp, .inl (k.2.1, 2, .inl (zF mk)))] H := hP
      have hD : va_D A [(x9, .inr (9, [.ref h0, .ref h8, .ref h4, .ref h2, .ref hh, .ref h3, .ref h1, .ref im, .ref sd, .ref kp])), (h0, .inr (7, [.ref c0])), (c0, .inl (k.1, 132, .inl (zF f))), (h1, .inr (1, [.int (zI vd)])), (hh, .inr (3, [.ref eo, .int (zI ((nx : Nat) : Int)), .int (zI ((sz : Nat) : Int))])), (im, .inl (k.2.2.2, 2, .inr (.inr (.inr (.inr (imF m0 m1)))))), (m0, .inl (k.1, 132, .inl (zF (mm 0)))), (m1, .inl (k.1, 132, .inl (zF (cpZ f (mm 1) 0 0 132)))), (sd, .inl (k.1, 2, .inl (zF (upZ ms x1.toNat vd)))), (kp, .inl (k.2.1, 2, .inl (zF mk)))] := hD
      refine lv_aload_n hx hb dX9_keep_36 rfl (lv_at hl 0 rfl) ?_
      refine va_get (D := D) (ci := 9) (v := .ref kp) (C := RX9) (T := TX9) (N := 10) hx hb hts hinX9 hown hK.1 hP 0 rfl rfl 9 (by decide) fl67 (fun _ h9 => h9) rfl dX9_keep_37 ?_
      refine lv_iload_n hx hb dX9_keep_40 rfl (lv_at hl 1 rfl) ?_
      refine z_iconst hx hb dX9_keep_41 ?_
      refine z_zast hx hb hK hP hD hS 9 rfl (x1.toNat) (by omega) (by omega) (Nat.le_of_ble_eq_true rfl) dX9_keep_42 (fun H locs hP hD hS => ?_)
      have hP : va_P D vwCl [(x9, .inr (9, [.ref h0, .ref h8, .ref h4, .ref h2, .ref hh, .ref h3, .ref h1, .ref im, .ref sd, .ref kp])), (h0, .inr (7, [.ref c0])), (c0, .inl (k.1, 132, .inl (zF f))), (h1, .inr (1, [.int (zI vd)])), (hh, .inr (3, [.ref eo, .int (zI ((nx : Nat) : Int)), .int (zI ((sz : Nat) : Int))])), (im, .inl (k.2.2.2, 2, .inr (.inr (.inr (.inr (imF m0 m1)))))), (m0, .inl (k.1, 132, .inl (zF (mm 0)))), (m1, .inl (k.1, 132, .inl (zF (cpZ f (mm 1) 0 0 132)))), (sd, .inl (k.1, 2, .inl (zF (upZ ms x1.toNat vd)))), (kp, .inl (k.2.1, 2, .inl (zF (upZ mk x1.toNat 1))))] H := hP
      have hD : va_D A [(x9, .inr (9, [.ref h0, .ref h8, .ref h4, .ref h2, .ref hh, .ref h3, .ref h1, .ref im, .ref sd, .ref kp])), (h0, .inr (7, [.ref c0])), (c0, .inl (k.1, 132, .inl (zF f))), (h1, .inr (1, [.int (zI vd)])), (hh, .inr (3, [.ref eo, .int (zI ((nx : Nat) : Int)), .int (zI ((sz : Nat) : Int))])), (im, .inl (k.2.2.2, 2, .inr (.inr (.inr (.inr (imF m0 m1)))))), (m0, .inl (k.1, 132, .inl (zF (mm 0)))), (m1, .inl (k.1, 132, .inl (zF (cpZ f (mm 1) 0 0 132)))), (sd, .inl (k.1, 2, .inl (zF (upZ ms x1.toNat vd)))), (kp, .inl (k.2.1, 2, .inl (zF (upZ mk x1.toNat 1))))] := hD
      refine lv_aload_n hx hb dX9_keep_43 rfl (lv_at hl 0 rfl) ?_
      refine va_get (D := D) (ci := 9) (v := .ref hh) (C := RX9) (T := TX9) (N := 10) hx hb hts hinX9 hown hK.1 hP 0 rfl rfl 4 (by decide) fl40 (fun _ h9 => h9) rfl dX9_keep_44 ?_
      refine muV (n := 0) (As := []) (rest := []) hSf (c_hclear l D k hh eo nx sz) gX9_keep_X3_clear rfl (by decide +kernel) ⟨Nat.le_of_ble_eq_true rfl, Nat.le_of_ble_eq_true rfl⟩ hK hP hD hS [4] rfl rfl (by decide) (fun _ => rfl) (fun _ => rfl) 0 rfl rfl rfl hl.1 rfl (Nat.le_of_ble_eq_true rfl) dX9_keep_47 ⟨Nat.zero_le _, Nat.zero_le _⟩ (fun u_47 H locs h_47 hP hD hS => ?_)
      have hP : va_P D vwCl [(x9, .inr (9, [.ref h0, .ref h8, .ref h4, .ref h2, .ref hh, .ref h3, .ref h1, .ref im, .ref sd, .ref kp])), (h0, .inr (7, [.ref c0])), (c0, .inl (k.1, 132, .inl (zF f))), (h1, .inr (1, [.int (zI vd)])), (hh, .inr (3, [.ref eo, .int (zI ((nx : Nat) : Int)), .int (zI 0)])), (im, .inl (k.2.2.2, 2, .inr (.inr (.inr (.inr (imF m0 m1)))))), (m0, .inl (k.1, 132, .inl (zF (mm 0)))), (m1, .inl (k.1, 132, .inl (zF (cpZ f (mm 1) 0 0 132)))), (sd, .inl (k.1, 2, .inl (zF (upZ ms x1.toNat vd)))), (kp, .inl (k.2.1, 2, .inl (zF (upZ mk x1.toNat 1))))] H := hP
      have hD : va_D A [(x9, .inr (9, [.ref h0, .ref h8, .ref h4, .ref h2, .ref hh, .ref h3, .ref h1, .ref im, .ref sd, .ref kp])), (h0, .inr (7, [.ref c0])), (c0, .inl (k.1, 132, .inl (zF f))), (h1, .inr (1, [.int (zI vd)])), (hh, .inr (3, [.ref eo, .int (zI ((nx : Nat) : Int)), .int (zI 0)])), (im, .inl (k.2.2.2, 2, .inr (.inr (.inr (.inr (imF m0 m1)))))), (m0, .inl (k.1, 132, .inl (zF (mm 0)))), (m1, .inl (k.1, 132, .inl (zF (cpZ f (mm 1) 0 0 132)))), (sd, .inl (k.1, 2, .inl (zF (upZ ms x1.toNat vd)))), (kp, .inl (k.2.1, 2, .inl (zF (upZ mk x1.toNat 1))))] := hD
      refine z_iconst hx hb dX9_keep_50 ?_
      rw [show x1.toNat = 1 by omega] at hP
      exact W.iret hx hb hr (fun t ht hW => ⟨⟨_, (upE mm 1 (cpZ f (mm 1) 0 0 132), upZ ms 1 vd, upZ mk 1 1, 0), rfl, ⟨zc (by rw [if_pos (by omega)]), by rw [if_pos (by omega), show x1.toNat = 1 by omega]⟩, by show va_P D vwCl _ _; rw [ht]; exact hP⟩, hS.F ht⟩) hS.2.2 dX9_keep_51
  · simp only [Bool.and_eq_false_iff, decide_eq_false_iff_not] at c_4
    refine lv_ldc hx hb hown (hts (.constant RX9 104 (-1000000001)) (by decide +kernel)) dX9_keep_7 ?_
    refine te (show (-1000000001 : Int32) = zI (-1000000001) from by decide +kernel) ?_
    exact W.iret hx hb hr (fun t ht hW => ⟨⟨_, (mm, ms, mk, sz), rfl, ⟨zc (by rw [if_neg (by omega)]), by rw [if_neg (by omega)]⟩, by show va_P D vwCl _ _; rw [ht]; exact hP⟩, hS.F ht⟩) hS.2.2 dX9_keep_9
set_option maxHeartbeats 4000000 in
set_option maxRecDepth 100000 in
theorem c_goBack (l : Launch) (D : va_G) (k : Kt) (x9 : Nat) (h0 : Nat) (c0 : Nat) (h8 : Nat) (h4 : Nat) (h2 : Nat) (hh : Nat) (h3 : Nat) (h1 : Nat) (im : Nat) (sd : Nat) (kp : Nat) (f : St) (m0 : Nat) (m1 : Nat) (mm : Nat → St) (ms : Nat → Int) (mk : Nat → Int) (eo : Nat) (nx : Nat) (sz : Nat) (vd : Int) (x1 : Int) (hx1 : -2147483648 ≤ x1 ∧ x1 < 2147483648) (hmk : ∀ i, i < 2 → 0 ≤ mk i ∧ mk i ≤ 1) : MI l D k yX9_goBack wsX9_goBack 2 61 [.ref x9, .int (zI x1)] [(x9, .inr (9, [.ref h0, .ref h8, .ref h4, .ref h2, .ref hh, .ref h3, .ref h1, .ref im, .ref sd, .ref kp])), (h0, .inr (7, [.ref c0])), (c0, .inl (k.1, 132, .inl (zF f))), (h1, .inr (1, [.int (zI vd)])), (hh, .inr (3, [.ref eo, .int (zI ((nx : Nat) : Int)), .int (zI ((sz : Nat) : Int))])), (im, .inl (k.2.2.2, 2, .inr (.inr (.inr (.inr (imF m0 m1)))))), (m0, .inl (k.1, 132, .inl (zF (mm 0)))), (m1, .inl (k.1, 132, .inl (zF (mm 1)))), (sd, .inl (k.1, 2, .inl (zF ms))), (kp, .inl (k.2.1, 2, .inl (zF mk)))] (fun (r : Int32) (u : St × Int × Nat) => r = zI (if 0 ≤ x1 ∧ x1 ≤ 1 then (if mk x1.toNat ≠ 0 then 1 else -1000000003) else -1000000001) ∧ u = if (0 ≤ x1 ∧ x1 ≤ 1) ∧ mk x1.toNat ≠ 0 then (cpZ (mm x1.toNat) f 0 0 132, ms x1.toNat, 0) else (f, vd, sz)) (fun u => [(x9, .inr (9, [.ref h0, .ref h8, .ref h4, .ref h2, .ref hh, .ref h3, .ref h1, .ref im, .ref sd, .ref kp])), (h0, .inr (7, [.ref c0])), (c0, .inl (k.1, 132, .inl (zF u.1))), (h1, .inr (1, [.int (zI u.2.1)])), (hh, .inr (3, [.ref eo, .int (zI ((nx : Nat) : Int)), .int (zI ((u.2.2 : Nat) : Int))])), (im, .inl (k.2.2.2, 2, .inr (.inr (.inr (.inr (imF m0 m1)))))), (m0, .inl (k.1, 132, .inl (zF (mm 0)))), (m1, .inl (k.1, 132, .inl (zF (mm 1)))), (sd, .inl (k.1, 2, .inl (zF ms))), (kp, .inl (k.2.1, 2, .inl (zF mk)))]) := by
  refine Met.ofW (cc := cX9_goBack) (maxL := 2) (ret := (some .int)) (by decide) rfl ?_
  intro p e s m args below meth c s₁ Bd hml hv
  obtain ⟨rfl, hP, hK, hD0⟩ := hv
  have hx := Bd.exec
  have hb := Bd.bytes
  have hr := Bd.returns
  have hts := atoms_spec (ws := wsX9_goBack) Bd.pre
  have hown : s.vm.findClass RX9 = some m.cls := findClass_of_methodNamed Bd.named
  have hlocks := Bd.notSynchronized
  have hSf : CallFix p m c cX9_goBack 2 s ([.ref x9, .int (zI x1)] : List Value).toArray wsX9_goBack RX9 := ⟨hx, hb, hml, hown, hts⟩
  have hD := fA_D hD0
  have hS : va_S (fA [(x9, .inr (9, [.ref h0, .ref h8, .ref h4, .ref h2, .ref hh, .ref h3, .ref h1, .ref im, .ref sd, .ref kp])), (h0, .inr (7, [.ref c0])), (c0, .inl (k.1, 132, .inl (zF f))), (h1, .inr (1, [.int (zI vd)])), (hh, .inr (3, [.ref eo, .int (zI ((nx : Nat) : Int)), .int (zI ((sz : Nat) : Int))])), (im, .inl (k.2.2.2, 2, .inr (.inr (.inr (.inr (imF m0 m1)))))), (m0, .inl (k.1, 132, .inl (zF (mm 0)))), (m1, .inl (k.1, 132, .inl (zF (mm 1)))), (sd, .inl (k.1, 2, .inl (zF ms))), (kp, .inl (k.2.1, 2, .inl (zF mk)))]) s.heap s.heap [] := va_S.rf
  generalize hAe : fA [(x9, .inr (9, [.ref h0, .ref h8, .ref h4, .ref h2, .ref hh, .ref h3, .ref h1, .ref im, .ref sd, .ref kp])), (h0, .inr (7, [.ref c0])), (c0, .inl (k.1, 132, .inl (zF f))), (h1, .inr (1, [.int (zI vd)])), (hh, .inr (3, [.ref eo, .int (zI ((nx : Nat) : Int)), .int (zI ((sz : Nat) : Int))])), (im, .inl (k.2.2.2, 2, .inr (.inr (.inr (.inr (imF m0 m1)))))), (m0, .inl (k.1, 132, .inl (zF (mm 0)))), (m1, .inl (k.1, 132, .inl (zF (mm 1)))), (sd, .inl (k.1, 2, .inl (zF ms))), (kp, .inl (k.2.1, 2, .inl (zF mk)))] = A at hD hS ⊢
  have hP : va_P D vwCl [(x9, .inr (9, [.ref h0, .ref h8, .ref h4, .ref h2, .ref hh, .ref h3, .ref h1, .ref im, .ref sd, .ref kp])), (h0, .inr (7, [.ref c0])), (c0, .inl (k.1, 132, .inl (zF f))), (h1, .inr (1, [.int (zI vd)])), (hh, .inr (3, [.ref eo, .int (zI ((nx : Nat) : Int)), .int (zI ((sz : Nat) : Int))])), (im, .inl (k.2.2.2, 2, .inr (.inr (.inr (.inr (imF m0 m1)))))), (m0, .inl (k.1, 132, .inl (zF (mm 0)))), (m1, .inl (k.1, 132, .inl (zF (mm 1)))), (sd, .inl (k.1, 2, .inl (zF ms))), (kp, .inl (k.2.1, 2, .inl (zF mk)))] s.heap := hP
  have hinX9 : ∀ w ∈ u_ws RX9 TX9 10, w ∈ wsX9_goBack := by decide +kernel
  have fl67 := hts (.fieldLink RX9 67 "DotObjects" "kept" "[Z") (by decide +kernel)
  have fl10 := hts (.fieldLink RX9 10 "DotObjects" "scene" "LDotObjects$Scene;") (by decide +kernel)
  have fl60 := hts (.fieldLink RX9 60 "DotObjects" "images" "[[I") (by decide +kernel)
  have fl54 := hts (.fieldLink RX9 54 "DotObjects" "draws" "LDotObjects$Draws;") (by decide +kernel)
  have fl63 := hts (.fieldLink RX9 63 "DotObjects" "imageSeeds" "[I") (by decide +kernel)
  have fl40 := hts (.fieldLink RX9 40 "DotObjects" "history" "LDotObjects$History;") (by decide +kernel)
  have hl := lv_entry ([.ref x9, .int (zI x1)]) (n := 2) (Nat.le_of_ble_eq_true rfl)
  rw [lg_entry_eq]
  generalize (lg_sl ([.ref x9, .int (zI x1)]) ++ List.replicate (2 - (lg_sl ([.ref x9, .int (zI x1)])).length) Slot.unset).toArray = ls at hl ⊢
  have hl : lv_has ls 2 [(0, .ref x9), (1, .int (zI x1))] := hl
  refine lv_iload_n hx hb dX9_goBack_0 rfl (lv_at hl 1 rfl) ?_
  refine roS (n := 1) (As := [.int (zI x1)]) (rest := []) hSf (c_isImage l D k x1 (by omega)) gX9_goBack_X9_isImage rfl (by decide +kernel) ⟨Nat.le_of_ble_eq_true rfl, Nat.le_of_ble_eq_true rfl⟩ hK hP [] rfl rfl hl.1 rfl (Nat.le_of_ble_eq_true rfl) dX9_goBack_1 ⟨Nat.zero_le _, Nat.zero_le _⟩ (fun r_1 h_1 => ?_)
  subst h_1
  refine z_if_neb (tgt := 10) hx hb dX9_goBack_4 (by decide) (fun c_4 => ?_) (fun c_4 => ?_)
  · simp only [Bool.and_eq_true, decide_eq_true_eq] at c_4
    have hmk1 := hmk x1.toNat (by omega)
    refine lv_aload_n hx hb dX9_goBack_10 rfl (lv_at hl 0 rfl) ?_
    refine va_get (D := D) (ci := 9) (v := .ref kp) (C := RX9) (T := TX9) (N := 10) hx hb hts hinX9 hown hK.1 hP 0 rfl rfl 9 (by decide) fl67 (fun _ h9 => h9) rfl dX9_goBack_11 ?_
    refine lv_iload_n hx hb dX9_goBack_14 rfl (lv_at hl 1 rfl) ?_
    refine z_zald hx hb hK hP 9 rfl (x1.toNat) (by omega) (by omega) (Nat.le_of_ble_eq_true rfl) dX9_goBack_15 ?_
    refine z_if_ne (tgt := 22) hx hb dX9_goBack_16 (by decide) (by omega) (fun c_16 => ?_) (fun c_16 => ?_)
    · refine lv_aload_n hx hb dX9_goBack_22 rfl (lv_at hl 0 rfl) ?_
      refine va_get (D := D) (ci := 9) (v := .ref h0) (C := RX9) (T := TX9) (N := 10) hx hb hts hinX9 hown hK.1 hP 0 rfl rfl 0 (by decide) fl10 (fun _ h9 => h9) rfl dX9_goBack_23 ?_
      refine lv_aload_n hx hb dX9_goBack_26 rfl (lv_at hl 0 rfl) ?_
      refine va_get (D := D) (ci := 9) (v := .ref im) (C := RX9) (T := TX9) (N := 10) hx hb hts hinX9 hown hK.1 hP 0 rfl rfl 7 (by decide) fl60 (fun _ h9 => h9) rfl dX9_goBack_27 ?_
      refine lv_iload_n hx hb dX9_goBack_30 rfl (lv_at hl 1 rfl) ?_
      rcases (show x1 = 0 ∨ x1 = 1 by omega) with hxv | hxv
      · refine z_aald hx hb hK hP 5 rfl (0) (by omega) (by decide) (Nat.le_of_ble_eq_true rfl) rfl dX9_goBack_31 ?_
        refine muV (n := 1) (As := [.ref m0]) (rest := []) hSf (c_loadFrom l D k h0 c0 f m0 (mm 0)) gX9_goBack_X7_loadFrom rfl (by decide +kernel) ⟨Nat.le_of_ble_eq_true rfl, Nat.le_of_ble_eq_true rfl⟩ hK hP hD hS [1, 2, 6] rfl rfl (by decide) (fun _ => rfl) (fun _ => rfl) 0 rfl rfl rfl hl.1 rfl (Nat.le_of_ble_eq_true rfl) dX9_goBack_32 ⟨Nat.zero_le _, Nat.zero_le _⟩ (fun u_32 H locs h_32 hP hD hS => ?_)
        have hP : va_P D vwCl [(x9, .inr (9, [.ref h0, .ref h8, .ref h4, .ref h2, .ref hh, .ref h3, .ref h1, .ref im, .ref sd, .ref kp])), (h0, .inr (7, [.ref c0])), (c0, .inl (k.1, 132, .inl (zF (cpZ (mm 0) f 0 0 132)))), (h1, .inr (1, [.int (zI vd)])), (hh, .inr (3, [.ref eo, .int (zI ((nx : Nat) : Int)), .int (zI ((sz : Nat) : Int))])), (im, .inl (k.2.2.2, 2, .inr (.inr (.inr (.inr (imF m0 m1)))))), (m0, .inl (k.1, 132, .inl (zF (mm 0)))), (m1, .inl (k.1, 132, .inl (zF (mm 1)))), (sd, .inl (k.1, 2, .inl (zF ms))), (kp, .inl (k.2.1, 2, .inl (zF mk)))] H := hP
        have hD : va_D A [(x9, .inr (9, [.ref h0, .ref h8, .ref h4, .ref h2, .ref hh, .ref h3, .ref h1, .ref im, .ref sd, .ref kp])), (h0, .inr (7, [.ref c0])), (c0, .inl (k.1, 132, .inl (zF (cpZ (mm 0) f 0 0 132)))), (h1, .inr (1, [.int (zI vd)])), (hh, .inr (3, [.ref eo, .int (zI ((nx : Nat) : Int)), .int (zI ((sz : Nat) : Int))])), (im, .inl (k.2.2.2, 2, .inr (.inr (.inr (.inr (imF m0 m1)))))), (m0, .inl (k.1, 132, .inl (zF (mm 0)))), (m1, .inl (k.1, 132, .inl (zF (mm 1)))), (sd, .inl (k.1, 2, .inl (zF ms))), (kp, .inl (k.2.1, 2, .inl (zF mk)))] := hD
        refine lv_aload_n hx hb dX9_goBack_35 rfl (lv_at hl 0 rfl) ?_
        refine va_get (D := D) (ci := 9) (v := .ref h1) (C := RX9) (T := TX9) (N := 10) hx hb hts hinX9 hown hK.1 hP 0 rfl rfl 6 (by decide) fl54 (fun _ h9 => h9) rfl dX9_goBack_36 ?_
        refine lv_aload_n hx hb dX9_goBack_39 rfl (lv_at hl 0 rfl) ?_
        refine va_get (D := D) (ci := 9) (v := .ref sd) (C := RX9) (T := TX9) (N := 10) hx hb hts hinX9 hown hK.1 hP 0 rfl rfl 8 (by decide) fl63 (fun _ h9 => h9) rfl dX9_goBack_40 ?_
        refine lv_iload_n hx hb dX9_goBack_43 rfl (lv_at hl 1 rfl) ?_
        refine z_ald hx hb hK hP 8 rfl (x1.toNat) (by omega) (by omega) (Nat.le_of_ble_eq_true rfl) dX9_goBack_44 ?_
        refine muV (n := 1) (As := [.int (zI (ms x1.toNat))]) (rest := []) hSf (c_start l D k h1 vd (ms x1.toNat)) gX9_goBack_X1_start rfl (by decide +kernel) ⟨Nat.le_of_ble_eq_true rfl, Nat.le_of_ble_eq_true rfl⟩ hK hP hD hS [3] rfl rfl (by decide) (fun _ => rfl) (fun _ => rfl) 0 rfl rfl rfl hl.1 rfl (Nat.le_of_ble_eq_true rfl) dX9_goBack_45 ⟨Nat.zero_le _, Nat.zero_le _⟩ (fun u_45 H locs h_45 hP hD hS => ?_)
        have hP : va_P D vwCl [(x9, .inr (9, [.ref h0, .ref h8, .ref h4, .ref h2, .ref hh, .ref h3, .ref h1, .ref im, .ref sd, .ref kp])), (h0, .inr (7, [.ref c0])), (c0, .inl (k.1, 132, .inl (zF (cpZ (mm 0) f 0 0 132)))), (h1, .inr (1, [.int (zI (ms x1.toNat))])), (hh, .inr (3, [.ref eo, .int (zI ((nx : Nat) : Int)), .int (zI ((sz : Nat) : Int))])), (im, .inl (k.2.2.2, 2, .inr (.inr (.inr (.inr (imF m0 m1)))))), (m0, .inl (k.1, 132, .inl (zF (mm 0)))), (m1, .inl (k.1, 132, .inl (zF (mm 1)))), (sd, .inl (k.1, 2, .inl (zF ms))), (kp, .inl (k.2.1, 2, .inl (zF mk)))] H := hP
        have hD : va_D A [(x9, .inr (9, [.ref h0, .ref h8, .ref h4, .ref h2, .ref hh, .ref h3, .ref h1, .ref im, .ref sd, .ref kp])), (h0, .inr (7, [.ref c0])), (c0, .inl (k.1, 132, .inl (zF (cpZ (mm 0) f 0 0 132)))), (h1, .inr (1, [.int (zI (ms x1.toNat))])), (hh, .inr (3, [.ref eo, .int (zI ((nx : Nat) : Int)), .int (zI ((sz : Nat) : Int))])), (im, .inl (k.2.2.2, 2, .inr (.inr (.inr (.inr (imF m0 m1)))))), (m0, .inl (k.1, 132, .inl (zF (mm 0)))), (m1, .inl (k.1, 132, .inl (zF (mm 1)))), (sd, .inl (k.1, 2, .inl (zF ms))), (kp, .inl (k.2.1, 2, .inl (zF mk)))] := hD
        refine lv_aload_n hx hb dX9_goBack_48 rfl (lv_at hl 0 rfl) ?_
        refine va_get (D := D) (ci := 9) (v := .ref hh) (C := RX9) (T := TX9) (N := 10) hx hb hts hinX9 hown hK.1 hP 0 rfl rfl 4 (by decide) fl40 (fun _ h9 => h9) rfl dX9_goBack_49 ?_
        refine muV (n := 0) (As := []) (rest := []) hSf (c_hclear l D k hh eo nx sz) gX9_goBack_X3_clear rfl (by decide +kernel) ⟨Nat.le_of_ble_eq_true rfl, Nat.le_of_ble_eq_true rfl⟩ hK hP hD hS [4] rfl rfl (by decide) (fun _ => rfl) (fun _ => rfl) 0 rfl rfl rfl hl.1 rfl (Nat.le_of_ble_eq_true rfl) dX9_goBack_52 ⟨Nat.zero_le _, Nat.zero_le _⟩ (fun u_52 H locs h_52 hP hD hS => ?_)
        have hP : va_P D vwCl [(x9, .inr (9, [.ref h0, .ref h8, .ref h4, .ref h2, .ref hh, .ref h3, .ref h1, .ref im, .ref sd, .ref kp])), (h0, .inr (7, [.ref c0])), (c0, .inl (k.1, 132, .inl (zF (cpZ (mm 0) f 0 0 132)))), (h1, .inr (1, [.int (zI (ms x1.toNat))])), (hh, .inr (3, [.ref eo, .int (zI ((nx : Nat) : Int)), .int (zI 0)])), (im, .inl (k.2.2.2, 2, .inr (.inr (.inr (.inr (imF m0 m1)))))), (m0, .inl (k.1, 132, .inl (zF (mm 0)))), (m1, .inl (k.1, 132, .inl (zF (mm 1)))), (sd, .inl (k.1, 2, .inl (zF ms))), (kp, .inl (k.2.1, 2, .inl (zF mk)))] H := hP
        have hD : va_D A [(x9, .inr (9, [.ref h0, .ref h8, .ref h4, .ref h2, .ref hh, .ref h3, .ref h1, .ref im, .ref sd, .ref kp])), (h0, .inr (7, [.ref c0])), (c0, .inl (k.1, 132, .inl (zF (cpZ (mm 0) f 0 0 132)))), (h1, .inr (1, [.int (zI (ms x1.toNat))])), (hh, .inr (3, [.ref eo, .int (zI ((nx : Nat) : Int)), .int (zI 0)])), (im, .inl (k.2.2.2, 2, .inr (.inr (.inr (.inr (imF m0 m1)))))), (m0, .inl (k.1, 132, .inl (zF (mm 0)))), (m1, .inl (k.1, 132, .inl (zF (mm 1)))), (sd, .inl (k.1, 2, .inl (zF ms))), (kp, .inl (k.2.1, 2, .inl (zF mk)))] := hD
        refine z_iconst hx hb dX9_goBack_55 ?_
        rw [show x1.toNat = 0 by omega] at hP
        exact W.iret hx hb hr (fun t ht hW => ⟨⟨_, (cpZ (mm 0) f 0 0 132, ms 0, 0), rfl, ⟨zc (by rw [if_pos (by omega), if_pos (by omega)]), by rw [if_pos (by omega), show x1.toNat = 0 by omega]⟩, by show va_P D vwCl _ _; rw [ht]; exact hP⟩, hS.F ht⟩) hS.2.2 dX9_goBack_56
      · refine z_aald hx hb hK hP 5 rfl (1) (by omega) (by decide) (Nat.le_of_ble_eq_true rfl) rfl dX9_goBack_31 ?_
        refine muV (n := 1) (As := [.ref m1]) (rest := []) hSf (c_loadFrom l D k h0 c0 f m1 (mm 1)) gX9_goBack_X7_loadFrom rfl (by decide +kernel) ⟨Nat.le_of_ble_eq_true rfl, Nat.le_of_ble_eq_true rfl⟩ hK hP hD hS [1, 2, 7] rfl rfl (by decide) (fun _ => rfl) (fun _ => rfl) 0 rfl rfl rfl hl.1 rfl (Nat.le_of_ble_eq_true rfl) dX9_goBack_32 ⟨Nat.zero_le _, Nat.zero_le _⟩ (fun u_32 H locs h_32 hP hD hS => ?_)
        have hP : va_P D vwCl [(x9, .inr (9, [.ref h0, .ref h8, .ref h4, .ref h2, .ref hh, .ref h3, .ref h1, .ref im, .ref sd, .ref kp])), (h0, .inr (7, [.ref c0])), (c0, .inl (k.1, 132, .inl (zF (cpZ (mm 1) f 0 0 132)))), (h1, .inr (1, [.int (zI vd)])), (hh, .inr (3, [.ref eo, .int (zI ((nx : Nat) : Int)), .int (zI ((sz : Nat) : Int))])), (im, .inl (k.2.2.2, 2, .inr (.inr (.inr (.inr (imF m0 m1)))))), (m0, .inl (k.1, 132, .inl (zF (mm 0)))), (m1, .inl (k.1, 132, .inl (zF (mm 1)))), (sd, .inl (k.1, 2, .inl (zF ms))), (kp, .inl (k.2.1, 2, .inl (zF mk)))] H := hP
        have hD : va_D A [(x9, .inr (9, [.ref h0, .ref h8, .ref h4, .ref h2, .ref hh, .ref h3, .ref h1, .ref im, .ref sd, .ref kp])), (h0, .inr (7, [.ref c0])), (c0, .inl (k.1, 132, .inl (zF (cpZ (mm 1) f 0 0 132)))), (h1, .inr (1, [.int (zI vd)])), (hh, .inr (3, [.ref eo, .int (zI ((nx : Nat) : Int)), .int (zI ((sz : Nat) : Int))])), (im, .inl (k.2.2.2, 2, .inr (.inr (.inr (.inr (imF m0 m1)))))), (m0, .inl (k.1, 132, .inl (zF (mm 0)))), (m1, .inl (k.1, 132, .inl (zF (mm 1)))), (sd, .inl (k.1, 2, .inl (zF ms))), (kp, .inl (k.2.1, 2, .inl (zF mk)))] := hD
        refine lv_aload_n hx hb dX9_goBack_35 rfl (lv_at hl 0 rfl) ?_
        refine va_get (D := D) (ci := 9) (v := .ref h1) (C := RX9) (T := TX9) (N := 10) hx hb hts hinX9 hown hK.1 hP 0 rfl rfl 6 (by decide) fl54 (fun _ h9 => h9) rfl dX9_goBack_36 ?_
        refine lv_aload_n hx hb dX9_goBack_39 rfl (lv_at hl 0 rfl) ?_
        refine va_get (D := D) (ci := 9) (v := .ref sd) (C := RX9) (T := TX9) (N := 10) hx hb hts hinX9 hown hK.1 hP 0 rfl rfl 8 (by decide) fl63 (fun _ h9 => h9) rfl dX9_goBack_40 ?_
        refine lv_iload_n hx hb dX9_goBack_43 rfl (lv_at hl 1 rfl) ?_
        refine z_ald hx hb hK hP 8 rfl (x1.toNat) (by omega) (by omega) (Nat.le_of_ble_eq_true rfl) dX9_goBack_44 ?_
        refine muV (n := 1) (As := [.int (zI (ms x1.toNat))]) (rest := []) hSf (c_start l D k h1 vd (ms x1.toNat)) gX9_goBack_X1_start rfl (by decide +kernel) ⟨Nat.le_of_ble_eq_true rfl, Nat.le_of_ble_eq_true rfl⟩ hK hP hD hS [3] rfl rfl (by decide) (fun _ => rfl) (fun _ => rfl) 0 rfl rfl rfl hl.1 rfl (Nat.le_of_ble_eq_true rfl) dX9_goBack_45 ⟨Nat.zero_le _, Nat.zero_le _⟩ (fun u_45 H locs h_45 hP hD hS => ?_)
        have hP : va_P D vwCl [(x9, .inr (9, [.ref h0, .ref h8, .ref h4, .ref h2, .ref hh, .ref h3, .ref h1, .ref im, .ref sd, .ref kp])), (h0, .inr (7, [.ref c0])), (c0, .inl (k.1, 132, .inl (zF (cpZ (mm 1) f 0 0 132)))), (h1, .inr (1, [.int (zI (ms x1.toNat))])), (hh, .inr (3, [.ref eo, .int (zI ((nx : Nat) : Int)), .int (zI ((sz : Nat) : Int))])), (im, .inl (k.2.2.2, 2, .inr (.inr (.inr (.inr (imF m0 m1)))))), (m0, .inl (k.1, 132, .inl (zF (mm 0)))), (m1, .inl (k.1, 132, .inl (zF (mm 1)))), (sd, .inl (k.1, 2, .inl (zF ms))), (kp, .inl (k.2.1, 2, .inl (zF mk)))] H := hP
        have hD : va_D A [(x9, .inr (9, [.ref h0, .ref h8, .ref h4, .ref h2, .ref hh, .ref h3, .ref h1, .ref im, .ref sd, .ref kp])), (h0, .inr (7, [.ref c0])), (c0, .inl (k.1, 132, .inl (zF (cpZ (mm 1) f 0 0 132)))), (h1, .inr (1, [.int (zI (ms x1.toNat))])), (hh, .inr (3, [.ref eo, .int (zI ((nx : Nat) : Int)), .int (zI ((sz : Nat) : Int))])), (im, .inl (k.2.2.2, 2, .inr (.inr (.inr (.inr (imF m0 m1)))))), (m0, .inl (k.1, 132, .inl (zF (mm 0)))), (m1, .inl (k.1, 132, .inl (zF (mm 1)))), (sd, .inl (k.1, 2, .inl (zF ms))), (kp, .inl (k.2.1, 2, .inl (zF mk)))] := hD
        refine lv_aload_n hx hb dX9_goBack_48 rfl (lv_at hl 0 rfl) ?_
        refine va_get (D := D) (ci := 9) (v := .ref hh) (C := RX9) (T := TX9) (N := 10) hx hb hts hinX9 hown hK.1 hP 0 rfl rfl 4 (by decide) fl40 (fun _ h9 => h9) rfl dX9_goBack_49 ?_
        refine muV (n := 0) (As := []) (rest := []) hSf (c_hclear l D k hh eo nx sz) gX9_goBack_X3_clear rfl (by decide +kernel) ⟨Nat.le_of_ble_eq_true rfl, Nat.le_of_ble_eq_true rfl⟩ hK hP hD hS [4] rfl rfl (by decide) (fun _ => rfl) (fun _ => rfl) 0 rfl rfl rfl hl.1 rfl (Nat.le_of_ble_eq_true rfl) dX9_goBack_52 ⟨Nat.zero_le _, Nat.zero_le _⟩ (fun u_52 H locs h_52 hP hD hS => ?_)
        have hP : va_P D vwCl [(x9, .inr (9, [.ref h0, .ref h8, .ref h4, .ref h2, .ref hh, .ref h3, .ref h1, .ref im, .ref sd, .ref kp])), (h0, .inr (7, [.ref c0])), (c0, .inl (k.1, 132, .inl (zF (cpZ (mm 1) f 0 0 132)))), (h1, .inr (1, [.int (zI (ms x1.toNat))])), (hh, .inr (3, [.ref eo, .int (zI ((nx : Nat) : Int)), .int (zI 0)])), (im, .inl (k.2.2.2, 2, .inr (.inr (.inr (.inr (imF m0 m1)))))), (m0, .inl (k.1, 132, .inl (zF (mm 0)))), (m1, .inl (k.1, 132, .inl (zF (mm 1)))), (sd, .inl (k.1, 2, .inl (zF ms))), (kp, .inl (k.2.1, 2, .inl (zF mk)))] H := hP
        have hD : va_D A [(x9, .inr (9, [.ref h0, .ref h8, .ref h4, .ref h2, .ref hh, .ref h3, .ref h1, .ref im, .ref sd, .ref kp])), (h0, .inr (7, [.ref c0])), (c0, .inl (k.1, 132, .inl (zF (cpZ (mm 1) f 0 0 132)))), (h1, .inr (1, [.int (zI (ms x1.toNat))])), (hh, .inr (3, [.ref eo, .int (zI ((nx : Nat) : Int)), .int (zI 0)])), (im, .inl (k.2.2.2, 2, .inr (.inr (.inr (.inr (imF m0 m1)))))), (m0, .inl (k.1, 132, .inl (zF (mm 0)))), (m1, .inl (k.1, 132, .inl (zF (mm 1)))), (sd, .inl (k.1, 2, .inl (zF ms))), (kp, .inl (k.2.1, 2, .inl (zF mk)))] := hD
        refine z_iconst hx hb dX9_goBack_55 ?_
        rw [show x1.toNat = 1 by omega] at hP
        exact W.iret hx hb hr (fun t ht hW => ⟨⟨_, (cpZ (mm 1) f 0 0 132, ms 1, 0), rfl, ⟨zc (by rw [if_pos (by omega), if_pos (by omega)]), by rw [if_pos (by omega), show x1.toNat = 1 by omega]⟩, by show va_P D vwCl _ _; rw [ht]; exact hP⟩, hS.F ht⟩) hS.2.2 dX9_goBack_56
    · refine lv_ldc hx hb hown (hts (.constant RX9 210 (-1000000003)) (by decide +kernel)) dX9_goBack_19 ?_
      refine te (show (-1000000003 : Int32) = zI (-1000000003) from by decide +kernel) ?_
      exact W.iret hx hb hr (fun t ht hW => ⟨⟨_, (f, vd, sz), rfl, ⟨zc (by rw [if_pos (by omega), if_neg (by omega)]), by rw [if_neg (by omega)]⟩, by show va_P D vwCl _ _; rw [ht]; exact hP⟩, hS.F ht⟩) hS.2.2 dX9_goBack_21
  · simp only [Bool.and_eq_false_iff, decide_eq_false_iff_not] at c_4
    refine lv_ldc hx hb hown (hts (.constant RX9 104 (-1000000001)) (by decide +kernel)) dX9_goBack_7 ?_
    refine te (show (-1000000001 : Int32) = zI (-1000000001) from by decide +kernel) ?_
    exact W.iret hx hb hr (fun t ht hW => ⟨⟨_, (f, vd, sz), rfl, ⟨zc (by rw [if_neg (by omega)]), by rw [if_neg (by omega)]⟩, by show va_P D vwCl _ _; rw [ht]; exact hP⟩, hS.F ht⟩) hS.2.2 dX9_goBack_9
