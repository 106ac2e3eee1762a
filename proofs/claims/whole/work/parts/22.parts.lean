set_option maxHeartbeats 4000000 in
set_option maxRecDepth 100000 in
theorem c_occupy (l : Launch) (D : va_G) (k : Kt) (h4 : Nat) (b4 : Nat) (e4 : Nat) (ho : Nat → Int) (en : Nat → Int) (us : Nat) (y1 : Int) (hus : us < 12) (hen : ∀ i, i < us → 0 ≤ en i ∧ en i ≤ 31) (hy1 : -8 ≤ y1 ∧ y1 ≤ 23) : MI l D k yX4_occupy wsX4_occupy 1 21 [.ref h4, .int (zI y1)] [(h4, .inr (4, [.ref b4, .ref e4, .int (zI ((us : Nat) : Int))])), (b4, .inl (k.1, 12, .inl (zF ho))), (e4, .inl (k.1, 12, .inl (zF en)))] (fun (r : Int32) (u : Unit) => r = zI ((fhN us en y1 : Nat) : Int) ∧ True) (fun u => [(h4, .inr (4, [.ref b4, .ref e4, .int (zI ((max us (fhN us en y1 + 1) : Nat) : Int))])), (b4, .inl (k.1, 12, .inl (zF ho))), (e4, .inl (k.1, 12, .inl (zF (upZ en (fhN us en y1) (y1 + 8)))))]) := by
  refine Met.ofW (cc := cX4_occupy) (maxL := 3) (ret := (some .int)) (by decide) rfl ?_
  intro p e s m args below meth c s₁ Bd hml hv
  obtain ⟨rfl, hP, hK, hD0⟩ := hv
  have hx := Bd.exec
  have hb := Bd.bytes
  have hr := Bd.returns
  have hts := atoms_spec (ws := wsX4_occupy) Bd.pre
  have hown : s.vm.findClass RX4 = some m.cls := findClass_of_methodNamed Bd.named
  have hlocks := Bd.notSynchronized
  have hSf : CallFix p m c cX4_occupy 3 s ([.ref h4, .int (zI y1)] : List Value).toArray wsX4_occupy RX4 := ⟨hx, hb, hml, hown, hts⟩
  have hD := fA_D hD0
  have hS : va_S (fA [(h4, .inr (4, [.ref b4, .ref e4, .int (zI ((us : Nat) : Int))])), (b4, .inl (k.1, 12, .inl (zF ho))), (e4, .inl (k.1, 12, .inl (zF en)))]) s.heap s.heap [] := va_S.rf
  generalize hAe : fA [(h4, .inr (4, [.ref b4, .ref e4, .int (zI ((us : Nat) : Int))])), (b4, .inl (k.1, 12, .inl (zF ho))), (e4, .inl (k.1, 12, .inl (zF en)))] = A at hD hS ⊢
  have hP : va_P D vwCl [(h4, .inr (4, [.ref b4, .ref e4, .int (zI ((us : Nat) : Int))])), (b4, .inl (k.1, 12, .inl (zF ho))), (e4, .inl (k.1, 12, .inl (zF en)))] s.heap := hP
  have hinX4 : ∀ w ∈ u_ws RX4 TX4 3, w ∈ wsX4_occupy := by decide +kernel
  have fl18 := hts (.fieldLink RX4 18 "DotObjects$Holders" "used" "I") (by decide +kernel)
  have fl15 := hts (.fieldLink RX4 15 "DotObjects$Holders" "ends" "[I") (by decide +kernel)
  have hmmax := And.intro (hts (.methodLink RX4 35 Lib.Math.max.name) (by decide +kernel)) (And.intro (hts (.static Lib.Math.max.name) (by decide +kernel)) (And.intro (hts (.initialized "java/lang/Math") (by decide +kernel)) (hts (.code Lib.Math.max.name Lib.Math.max.code 2 (some .int)) (by decide +kernel))))
  have hl := lv_entry ([.ref h4, .int (zI y1)]) (n := 3) (Nat.le_of_ble_eq_true rfl)
  rw [lg_entry_eq]
  generalize (lg_sl ([.ref h4, .int (zI y1)]) ++ List.replicate (3 - (lg_sl ([.ref h4, .int (zI y1)])).length) Slot.unset).toArray = ls at hl ⊢
  have hl : lv_has ls 3 [(0, .ref h4), (1, .int (zI y1))] := hl
  refine z_iconst hx hb dX4_occupy_0 ?_
  refine lv_istore_n (lv' := [(2, .int (zI 0)), (0, .ref h4), (1, .int (zI y1))]) hx hb dX4_occupy_1 rfl hl (by decide) rfl (fun ls hl => ?_)
  have L2 : ∀ (NN2 : Nat), ∀ (hh : Nat), (hh ≤ us) → (∀ i, i < hh → decide (en i ≤ y1) = false) → us - hh < NN2 → ∀ (H : Heap) (locs : List Loc), va_P D vwCl [(h4, .inr (4, [.ref b4, .ref e4, .int (zI ((us : Nat) : Int))])), (b4, .inl (k.1, 12, .inl (zF ho))), (e4, .inl (k.1, 12, .inl (zF en)))] H → va_D A [(h4, .inr (4, [.ref b4, .ref e4, .int (zI ((us : Nat) : Int))])), (b4, .inl (k.1, 12, .inl (zF ho))), (e4, .inl (k.1, 12, .inl (zF en)))] → va_S A s.heap H locs → ∀ (ls : Array Slot), lv_has ls 3 [(0, .ref h4), (1, .int (zI y1)), (2, .int (zI ((hh : Nat) : Int)))] → W p l e (headSpec wsX4_occupy { frames := 1, cells := 0, slots := 0, locals := 21 }).room s m ([.ref h4, .int (zI y1)] : List Value).toArray below meth c H locs 0 0 (MQ below (va_Qi (fun (r : Int32) (u : Unit) => r = zI ((fhN us en y1 : Nat) : Int) ∧ True) (fun (u : Unit) t => va_P D vwCl [(h4, .inr (4, [.ref b4, .ref e4, .int (zI ((max us (fhN us en y1 + 1) : Nat) : Int))])), (b4, .inl (k.1, 12, .inl (zF ho))), (e4, .inl (k.1, 12, .inl (zF (upZ en (fhN us en y1) (y1 + 8)))))] t.heap) A) ([.ref h4, .int (zI y1)] : List Value).toArray s 0 0 A) (F0 m 2 ls []) := by
    intro NN2
    induction NN2 with
    | zero => intro hh _ _ hN; exact absurd hN (Nat.not_lt_zero _)
    | succ NN2 ih2 =>
      intro hh hhh hno hN H locs hP hD hS ls hl
      refine lv_iload_n hx hb dX4_occupy_2 rfl (lv_at hl 2 rfl) ?_
      refine lv_aload_n hx hb dX4_occupy_3 rfl (lv_at hl 0 rfl) ?_
      refine va_get (D := D) (ci := 4) (v := .int (zI ((us : Nat) : Int))) (C := RX4) (T := TX4) (N := 3) hx hb hts hinX4 hown hK.1 hP 0 rfl rfl 2 (by decide) fl18 (fun _ h9 => h9) rfl dX4_occupy_4 ?_
      refine z_icmp_ge (tgt := 26) hx hb dX4_occupy_7 (by decide) (by omega) (by omega) (fun c_7 => ?_) (fun c_7 => ?_)
      · have hE : hh = fhN us en y1 := fsN_eq hno hhh (Or.inl (by omega))
        refine lv_iload_n hx hb dX4_occupy_26 rfl (lv_at hl 2 rfl) ?_
        refine z_bipush hx hb dX4_occupy_27 (by decide +kernel) ?_
        refine z_icmp_ge (tgt := 56) hx hb dX4_occupy_29 (by decide) (by omega) (by omega) (fun c_29 => ?_) (fun c_29 => ?_)
        · exact absurd c_29 (by omega)
        · refine lv_aload_n hx hb dX4_occupy_32 rfl (lv_at hl 0 rfl) ?_
          refine va_get (D := D) (ci := 4) (v := .ref e4) (C := RX4) (T := TX4) (N := 3) hx hb hts hinX4 hown hK.1 hP 0 rfl rfl 1 (by decide) fl15 (fun _ h9 => h9) rfl dX4_occupy_33 ?_
          refine lv_iload_n hx hb dX4_occupy_36 rfl (lv_at hl 2 rfl) ?_
          refine lv_iload_n hx hb dX4_occupy_37 rfl (lv_at hl 1 rfl) ?_
          refine z_bipush hx hb dX4_occupy_38 (by decide +kernel) ?_
          refine z_iadd hx hb dX4_occupy_40 ?_
          refine z_ast hx hb hK hP hD hS 2 rfl (hh) (by omega) (by omega) (Nat.le_of_ble_eq_true rfl) dX4_occupy_41 (fun H locs hP hD hS => ?_)
          have hP : va_P D vwCl [(h4, .inr (4, [.ref b4, .ref e4, .int (zI ((us : Nat) : Int))])), (b4, .inl (k.1, 12, .inl (zF ho))), (e4, .inl (k.1, 12, .inl (zF (upZ en hh (y1 + 8)))))] H := hP
          have hD : va_D A [(h4, .inr (4, [.ref b4, .ref e4, .int (zI ((us : Nat) : Int))])), (b4, .inl (k.1, 12, .inl (zF ho))), (e4, .inl (k.1, 12, .inl (zF (upZ en hh (y1 + 8)))))] := hD
          refine lv_aload_n hx hb dX4_occupy_42 rfl (lv_at hl 0 rfl) ?_
          refine lv_aload_n hx hb dX4_occupy_43 rfl (lv_at hl 0 rfl) ?_
          refine va_get (D := D) (ci := 4) (v := .int (zI ((us : Nat) : Int))) (C := RX4) (T := TX4) (N := 3) hx hb hts hinX4 hown hK.1 hP 0 rfl rfl 2 (by decide) fl18 (fun _ h9 => h9) rfl dX4_occupy_44 ?_
          refine lv_iload_n hx hb dX4_occupy_47 rfl (lv_at hl 2 rfl) ?_
          refine z_iconst hx hb dX4_occupy_48 ?_
          refine z_iadd hx hb dX4_occupy_49 ?_
          refine va_mmax hx hb (hml.trans hl.1.symm) hown hmmax.1 hmmax.2.1 hmmax.2.2.1 hmmax.2.2.2 (Nat.le_of_ble_eq_true rfl) (Nat.le_of_ble_eq_true rfl) (Nat.zero_le _) (Nat.zero_le _) dX4_occupy_50 ?_
          refine te (zI_max (by omega) (by omega)) ?_
          refine te (zc (show max ((us : Nat) : Int) (((hh : Nat) : Int) + 1) = ((max us (hh + 1) : Nat) : Int) from by omega)) ?_
          refine va_put (D := D) (ci := 4) (v := .int (zI ((max us (hh + 1) : Nat) : Int))) (ty := .int) (C := RX4) (T := TX4) (N := 3) hx hb hts hinX4 tyX4 tyX4_ok nmX4 hown hK.1 hP hD hS 0 rfl rfl 2 (by decide) fl18 (fun _ h9 => h9) rfl (by decide +kernel) rfl rfl (Nat.le_of_ble_eq_true rfl) dX4_occupy_53 (fun H locs hP hD hS => ?_)
          have hP : va_P D vwCl [(h4, .inr (4, [.ref b4, .ref e4, .int (zI ((max us (hh + 1) : Nat) : Int))])), (b4, .inl (k.1, 12, .inl (zF ho))), (e4, .inl (k.1, 12, .inl (zF (upZ en hh (y1 + 8)))))] H := hP
          have hD : va_D A [(h4, .inr (4, [.ref b4, .ref e4, .int (zI ((max us (hh + 1) : Nat) : Int))])), (b4, .inl (k.1, 12, .inl (zF ho))), (e4, .inl (k.1, 12, .inl (zF (upZ en hh (y1 + 8)))))] := hD
          refine lv_iload_n hx hb dX4_occupy_56 rfl (lv_at hl 2 rfl) ?_
          rw [hE] at hP
          exact W.iret hx hb hr (fun t ht hW => ⟨⟨_, (), rfl, ⟨by rw [← hE], trivial⟩, by show va_P D vwCl _ _; rw [ht]; exact hP⟩, hS.F ht⟩) hS.2.2 dX4_occupy_57
      · have hen1 := hen hh (by omega)
        refine lv_aload_n hx hb dX4_occupy_10 rfl (lv_at hl 0 rfl) ?_
        refine va_get (D := D) (ci := 4) (v := .ref e4) (C := RX4) (T := TX4) (N := 3) hx hb hts hinX4 hown hK.1 hP 0 rfl rfl 1 (by decide) fl15 (fun _ h9 => h9) rfl dX4_occupy_11 ?_
        refine lv_iload_n hx hb dX4_occupy_14 rfl (lv_at hl 2 rfl) ?_
        refine z_ald hx hb hK hP 2 rfl (hh) (by omega) (by omega) (Nat.le_of_ble_eq_true rfl) dX4_occupy_15 ?_
        refine lv_iload_n hx hb dX4_occupy_16 rfl (lv_at hl 1 rfl) ?_
        refine z_icmp_le (tgt := 26) hx hb dX4_occupy_17 (by decide) (by omega) (by omega) (fun c_17 => ?_) (fun c_17 => ?_)
        · have hE : hh = fhN us en y1 := fsN_eq hno hhh (Or.inr (decide_eq_true c_17))
          refine lv_iload_n hx hb dX4_occupy_26 rfl (lv_at hl 2 rfl) ?_
          refine z_bipush hx hb dX4_occupy_27 (by decide +kernel) ?_
          refine z_icmp_ge (tgt := 56) hx hb dX4_occupy_29 (by decide) (by omega) (by omega) (fun c_29 => ?_) (fun c_29 => ?_)
          · exact absurd c_29 (by omega)
          · refine lv_aload_n hx hb dX4_occupy_32 rfl (lv_at hl 0 rfl) ?_
            refine va_get (D := D) (ci := 4) (v := .ref e4) (C := RX4) (T := TX4) (N := 3) hx hb hts hinX4 hown hK.1 hP 0 rfl rfl 1 (by decide) fl15 (fun _ h9 => h9) rfl dX4_occupy_33 ?_
            refine lv_iload_n hx hb dX4_occupy_36 rfl (lv_at hl 2 rfl) ?_
            refine lv_iload_n hx hb dX4_occupy_37 rfl (lv_at hl 1 rfl) ?_
            refine z_bipush hx hb dX4_occupy_38 (by decide +kernel) ?_
            refine z_iadd hx hb dX4_occupy_40 ?_
            refine z_ast hx hb hK hP hD hS 2 rfl (hh) (by omega) (by omega) (Nat.le_of_ble_eq_true rfl) dX4_occupy_41 (fun H locs hP hD hS => ?_)
            have hP : va_P D vwCl [(h4, .inr (4, [.ref b4, .ref e4, .int (zI ((us : Nat) : Int))])), (b4, .inl (k.1, 12, .inl (zF ho))), (e4, .inl (k.1, 12, .inl (zF (upZ en hh (y1 + 8)))))] H := hP
            have hD : va_D A [(h4, .inr (4, [.ref b4, .ref e4, .int (zI ((us : Nat) : Int))])), (b4, .inl (k.1, 12, .inl (zF ho))), (e4, .inl (k.1, 12, .inl (zF (upZ en hh (y1 + 8)))))] := hD
            refine lv_aload_n hx hb dX4_occupy_42 rfl (lv_at hl 0 rfl) ?_
            refine lv_aload_n hx hb dX4_occupy_43 rfl (lv_at hl 0 rfl) ?_
            refine va_get (D := D) (ci := 4) (v := .int (zI ((us : Nat) : Int))) (C := RX4) (T := TX4) (N := 3) hx hb hts hinX4 hown hK.1 hP 0 rfl rfl 2 (by decide) fl18 (fun _ h9 => h9) rfl dX4_occupy_44 ?_
            refine lv_iload_n hx hb dX4_occupy_47 rfl (lv_at hl 2 rfl) ?_
            refine z_iconst hx hb dX4_occupy_48 ?_
            refine z_iadd hx hb dX4_occupy_49 ?_
            refine va_mmax hx hb (hml.trans hl.1.symm) hown hmmax.1 hmmax.2.1 hmmax.2.2.1 hmmax.2.2.2 (Nat.le_of_ble_eq_true rfl) (Nat.le_of_ble_eq_true rfl) (Nat.zero_le _) (Nat.zero_le _) dX4_occupy_50 ?_
            refine te (zI_max (by omega) (by omega)) ?_
            refine te (zc (show max ((us : Nat) : Int) (((hh : Nat) : Int) + 1) = ((max us (hh + 1) : Nat) : Int) from by omega)) ?_
            refine va_put (D := D) (ci := 4) (v := .int (zI ((max us (hh + 1) : Nat) : Int))) (ty := .int) (C := RX4) (T := TX4) (N := 3) hx hb hts hinX4 tyX4 tyX4_ok nmX4 hown hK.1 hP hD hS 0 rfl rfl 2 (by decide) fl18 (fun _ h9 => h9) rfl (by decide +kernel) rfl rfl (Nat.le_of_ble_eq_true rfl) dX4_occupy_53 (fun H locs hP hD hS => ?_)
            have hP : va_P D vwCl [(h4, .inr (4, [.ref b4, .ref e4, .int (zI ((max us (hh + 1) : Nat) : Int))])), (b4, .inl (k.1, 12, .inl (zF ho))), (e4, .inl (k.1, 12, .inl (zF (upZ en hh (y1 + 8)))))] H := hP
            have hD : va_D A [(h4, .inr (4, [.ref b4, .ref e4, .int (zI ((max us (hh + 1) : Nat) : Int))])), (b4, .inl (k.1, 12, .inl (zF ho))), (e4, .inl (k.1, 12, .inl (zF (upZ en hh (y1 + 8)))))] := hD
            refine lv_iload_n hx hb dX4_occupy_56 rfl (lv_at hl 2 rfl) ?_
            rw [hE] at hP
            exact W.iret hx hb hr (fun t ht hW => ⟨⟨_, (), rfl, ⟨by rw [← hE], trivial⟩, by show va_P D vwCl _ _; rw [ht]; exact hP⟩, hS.F ht⟩) hS.2.2 dX4_occupy_57
        · refine lv_iinc (v := zI (((hh : Nat) : Int) + 1)) (lv' := [(2, .int (zI (((hh : Nat) : Int) + 1))), (0, .ref h4), (1, .int (zI y1))]) hx hb dX4_occupy_20 hl (k := 2) rfl (zI_add _ _) (by decide) rfl (fun ls hl => ?_)
          refine lv_goto (tgt := 2) hx hb dX4_occupy_23 (by decide) ?_
          have hl : lv_has ls 3 [(2, .int (zI (((hh + 1) : Nat) : Int))), (0, .ref h4), (1, .int (zI y1))] := lv_c (l1 := []) (l2 := [(0, .ref h4), (1, .int (zI y1))]) hl (show ((hh : Nat) : Int) + 1 = (((hh + 1) : Nat) : Int) from by omega)
          exact ih2 (hh + 1) (by omega) (lt_s hno (decide_eq_false (by omega))) (by omega) _ _ hP hD hS ls (lv_sub hl [1, 2, 0] rfl)
  have hl : lv_has ls 3 [(2, .int (zI ((0 : Nat) : Int))), (0, .ref h4), (1, .int (zI y1))] := lv_c (l1 := []) (l2 := [(0, .ref h4), (1, .int (zI y1))]) hl (show 0 = ((0 : Nat) : Int) from rfl)
  exact L2 _ 0 (Nat.zero_le _) (fun i hi => absurd hi (Nat.not_lt_zero _)) (Nat.lt_succ_self _) _ _ hP hD hS ls (lv_sub hl [1, 2, 0] rfl)
set_option maxHeartbeats 4000000 in
set_option maxRecDepth 100000 in
theorem c_assign (l : Launch) (D : va_G) (k : Kt) (h0 : Nat) (c0 : Nat) (f : St) (B : Int) (hV : Va B f) (h4 : Nat) (b4 : Nat) (e4 : Nat) (ho : Nat → Int) (en : Nat → Int) (us : Nat) : MI l D k yX4_assign wsX4_assign 2 43 [.ref h4, .ref h0] [(h0, .inr (7, [.ref c0])), (c0, .inl (k.1, 132, .inl (zF f))), (h4, .inr (4, [.ref b4, .ref e4, .int (zI ((us : Nat) : Int))])), (b4, .inl (k.1, 12, .inl (zF ho))), (e4, .inl (k.1, 12, .inl (zF en)))] (fun (r : Int32) (u : (Nat → Int) × (Nat → Int)) => r = zI (((hsF f).1 : Nat) : Int) ∧ ∀ t, t < nT f → u.1 t = (hsF f).2.2 t) (fun u => [(h0, .inr (7, [.ref c0])), (c0, .inl (k.1, 132, .inl (zF f))), (h4, .inr (4, [.ref b4, .ref e4, .int (zI (((hsF f).1 : Nat) : Int))])), (b4, .inl (k.1, 12, .inl (zF u.1))), (e4, .inl (k.1, 12, .inl (zF u.2)))]) := by
  refine Met.ofW (cc := cX4_assign) (maxL := 4) (ret := (some .int)) (by decide) rfl ?_
  intro p e s m args below meth c s₁ Bd hml hv
  obtain ⟨rfl, hP, hK, hD0⟩ := hv
  have hx := Bd.exec
  have hb := Bd.bytes
  have hr := Bd.returns
  have hts := atoms_spec (ws := wsX4_assign) Bd.pre
  have hown : s.vm.findClass RX4 = some m.cls := findClass_of_methodNamed Bd.named
  have hlocks := Bd.notSynchronized
  have hSf : CallFix p m c cX4_assign 4 s ([.ref h4, .ref h0] : List Value).toArray wsX4_assign RX4 := ⟨hx, hb, hml, hown, hts⟩
  have hD := fA_D hD0
  have hS : va_S (fA [(h0, .inr (7, [.ref c0])), (c0, .inl (k.1, 132, .inl (zF f))), (h4, .inr (4, [.ref b4, .ref e4, .int (zI ((us : Nat) : Int))])), (b4, .inl (k.1, 12, .inl (zF ho))), (e4, .inl (k.1, 12, .inl (zF en)))]) s.heap s.heap [] := va_S.rf
  generalize hAe : fA [(h0, .inr (7, [.ref c0])), (c0, .inl (k.1, 132, .inl (zF f))), (h4, .inr (4, [.ref b4, .ref e4, .int (zI ((us : Nat) : Int))])), (b4, .inl (k.1, 12, .inl (zF ho))), (e4, .inl (k.1, 12, .inl (zF en)))] = A at hD hS ⊢
  have hP : va_P D vwCl [(h0, .inr (7, [.ref c0])), (c0, .inl (k.1, 132, .inl (zF f))), (h4, .inr (4, [.ref b4, .ref e4, .int (zI ((us : Nat) : Int))])), (b4, .inl (k.1, 12, .inl (zF ho))), (e4, .inl (k.1, 12, .inl (zF en)))] s.heap := hP
  have hinX4 : ∀ w ∈ u_ws RX4 TX4 3, w ∈ wsX4_assign := by decide +kernel
  have fl18 := hts (.fieldLink RX4 18 "DotObjects$Holders" "used" "I") (by decide +kernel)
  have fl9 := hts (.fieldLink RX4 9 "DotObjects$Holders" "holders" "[I") (by decide +kernel)
  have hl := lv_entry ([.ref h4, .ref h0]) (n := 4) (Nat.le_of_ble_eq_true rfl)
  rw [lg_entry_eq]
  generalize (lg_sl ([.ref h4, .ref h0]) ++ List.replicate (4 - (lg_sl ([.ref h4, .ref h0])).length) Slot.unset).toArray = ls at hl ⊢
  have hl : lv_has ls 4 [(0, .ref h4), (1, .ref h0)] := hl
  have hn := hV.n
  have hv0 := hV.1
  refine lv_aload_n hx hb dX4_assign_0 rfl (lv_at hl 0 rfl) ?_
  refine z_iconst hx hb dX4_assign_1 ?_
  refine va_put (D := D) (ci := 4) (v := .int (zI 0)) (ty := .int) (C := RX4) (T := TX4) (N := 3) hx hb hts hinX4 tyX4 tyX4_ok nmX4 hown hK.1 hP hD hS 2 rfl rfl 2 (by decide) fl18 (fun _ h9 => h9) rfl (by decide +kernel) rfl rfl (Nat.le_of_ble_eq_true rfl) dX4_assign_2 (fun H locs hP hD hS => ?_)
  have hP : va_P D vwCl [(h0, .inr (7, [.ref c0])), (c0, .inl (k.1, 132, .inl (zF f))), (h4, .inr (4, [.ref b4, .ref e4, .int (zI 0)])), (b4, .inl (k.1, 12, .inl (zF ho))), (e4, .inl (k.1, 12, .inl (zF en)))] H := hP
  have hD : va_D A [(h0, .inr (7, [.ref c0])), (c0, .inl (k.1, 132, .inl (zF f))), (h4, .inr (4, [.ref b4, .ref e4, .int (zI 0)])), (b4, .inl (k.1, 12, .inl (zF ho))), (e4, .inl (k.1, 12, .inl (zF en)))] := hD
  refine z_bipush hx hb dX4_assign_5 (by decide +kernel) ?_
  refine lv_istore_n (lv' := [(2, .int (zI (-8))), (0, .ref h4), (1, .ref h0)]) hx hb dX4_assign_7 rfl hl (by decide) rfl (fun ls hl => ?_)
  have L8 : ∀ (NN8 : Nat), ∀ (jj : Nat) (xu : Nat) (xe : Nat → Int) (xh : Nat → Int), (jj ≤ 32) → (hoI f jj 0 xu xe xh) → 32 - jj < NN8 → ∀ (H : Heap) (locs : List Loc), va_P D vwCl [(h0, .inr (7, [.ref c0])), (c0, .inl (k.1, 132, .inl (zF f))), (h4, .inr (4, [.ref b4, .ref e4, .int (zI ((xu : Nat) : Int))])), (b4, .inl (k.1, 12, .inl (zF xh))), (e4, .inl (k.1, 12, .inl (zF xe)))] H → va_D A [(h0, .inr (7, [.ref c0])), (c0, .inl (k.1, 132, .inl (zF f))), (h4, .inr (4, [.ref b4, .ref e4, .int (zI ((xu : Nat) : Int))])), (b4, .inl (k.1, 12, .inl (zF xh))), (e4, .inl (k.1, 12, .inl (zF xe)))] → va_S A s.heap H locs → ∀ (ls : Array Slot), lv_has ls 4 [(0, .ref h4), (1, .ref h0), (2, .int (zI (((jj : Nat) : Int) - 8)))] → W p l e (headSpec wsX4_assign { frames := 2, cells := 0, slots := 0, locals := 43 }).room s m ([.ref h4, .ref h0] : List Value).toArray below meth c H locs 0 0 (MQ below (va_Qi (fun (r : Int32) (u : (Nat → Int) × (Nat → Int)) => r = zI (((hsF f).1 : Nat) : Int) ∧ ∀ t, t < nT f → u.1 t = (hsF f).2.2 t) (fun (u : (Nat → Int) × (Nat → Int)) t => va_P D vwCl [(h0, .inr (7, [.ref c0])), (c0, .inl (k.1, 132, .inl (zF f))), (h4, .inr (4, [.ref b4, .ref e4, .int (zI (((hsF f).1 : Nat) : Int))])), (b4, .inl (k.1, 12, .inl (zF u.1))), (e4, .inl (k.1, 12, .inl (zF u.2)))] t.heap) A) ([.ref h4, .ref h0] : List Value).toArray s 0 0 A) (F0 m 8 ls []) := by
    intro NN8
    induction NN8 with
    | zero => intro jj xu xe xh _ _ hN; exact absurd hN (Nat.not_lt_zero _)
    | succ NN8 ih8 =>
      intro jj xu xe xh hjj hI hN H locs hP hD hS ls hl
      refine lv_iload_n hx hb dX4_assign_8 rfl (lv_at hl 2 rfl) ?_
      refine z_bipush hx hb dX4_assign_9 (by decide +kernel) ?_
      refine z_icmp_ge (tgt := 58) hx hb dX4_assign_11 (by decide) (by omega) (by omega) (fun c_11 => ?_) (fun c_11 => ?_)
      · obtain rfl : jj = 32 := by omega
        obtain ⟨hE1, hE2⟩ := hoI_end hV hI
        refine lv_aload_n hx hb dX4_assign_58 rfl (lv_at hl 0 rfl) ?_
        refine va_get (D := D) (ci := 4) (v := .int (zI ((xu : Nat) : Int))) (C := RX4) (T := TX4) (N := 3) hx hb hts hinX4 hown hK.1 hP 2 rfl rfl 2 (by decide) fl18 (fun _ h9 => h9) rfl dX4_assign_59 ?_
        rw [hE1] at hP
        exact W.iret hx hb hr (fun t ht hW => ⟨⟨_, (xh, xe), rfl, ⟨by rw [← hE1], hE2⟩, by show va_P D vwCl _ _; rw [ht]; exact hP⟩, hS.F ht⟩) hS.2.2 dX4_assign_62
      · refine z_iconst hx hb dX4_assign_14 ?_
        refine lv_istore_n (lv' := [(3, .int (zI 0)), (0, .ref h4), (1, .ref h0), (2, .int (zI (((jj : Nat) : Int) - 8)))]) hx hb dX4_assign_15 rfl hl (by decide) rfl (fun ls hl => ?_)
        have L16 : ∀ (NN16 : Nat), ∀ (tt : Nat) (xu : Nat) (xe : Nat → Int) (xh : Nat → Int), (tt ≤ nT f) → (hoI f jj tt xu xe xh) → nT f - tt < NN16 → ∀ (H : Heap) (locs : List Loc), va_P D vwCl [(h0, .inr (7, [.ref c0])), (c0, .inl (k.1, 132, .inl (zF f))), (h4, .inr (4, [.ref b4, .ref e4, .int (zI ((xu : Nat) : Int))])), (b4, .inl (k.1, 12, .inl (zF xh))), (e4, .inl (k.1, 12, .inl (zF xe)))] H → va_D A [(h0, .inr (7, [.ref c0])), (c0, .inl (k.1, 132, .inl (zF f))), (h4, .inr (4, [.ref b4, .ref e4, .int (zI ((xu : Nat) : Int))])), (b4, .inl (k.1, 12, .inl (zF xh))), (e4, .inl (k.1, 12, .inl (zF xe)))] → va_S A s.heap H locs → ∀ (ls : Array Slot), lv_has ls 4 [(0, .ref h4), (1, .ref h0), (2, .int (zI (((jj : Nat) : Int) - 8))), (3, .int (zI ((tt : Nat) : Int)))] → W p l e (headSpec wsX4_assign { frames := 2, cells := 0, slots := 0, locals := 43 }).room s m ([.ref h4, .ref h0] : List Value).toArray below meth c H locs 0 0 (MQ below (va_Qi (fun (r : Int32) (u : (Nat → Int) × (Nat → Int)) => r = zI (((hsF f).1 : Nat) : Int) ∧ ∀ t, t < nT f → u.1 t = (hsF f).2.2 t) (fun (u : (Nat → Int) × (Nat → Int)) t => va_P D vwCl [(h0, .inr (7, [.ref c0])), (c0, .inl (k.1, 132, .inl (zF f))), (h4, .inr (4, [.ref b4, .ref e4, .int (zI (((hsF f).1 : Nat) : Int))])), (b4, .inl (k.1, 12, .inl (zF u.1))), (e4, .inl (k.1, 12, .inl (zF u.2)))] t.heap) A) ([.ref h4, .ref h0] : List Value).toArray s 0 0 A) (F0 m 16 ls []) := by
          intro NN16
          induction NN16 with
          | zero => intro tt xu xe xh _ _ hN; exact absurd hN (Nat.not_lt_zero _)
          | succ NN16 ih16 =>
            intro tt xu xe xh htt hI hN H locs hP hD hS ls hl
            refine lv_iload_n hx hb dX4_assign_16 rfl (lv_at hl 3 rfl) ?_
            refine lv_aload_n hx hb dX4_assign_17 rfl (lv_at hl 1 rfl) ?_
            refine z_iconst hx hb dX4_assign_18 ?_
            refine roV (n := 1) (As := [.int (zI ((0 : Nat) : Int))]) (rest := [.int (zI ((tt : Nat) : Int))]) hSf (c_cell l D k h0 c0 f 0 (by omega)) gX4_assign_X7_cell rfl (by decide +kernel) ⟨Nat.le_of_ble_eq_true rfl, Nat.le_of_ble_eq_true rfl⟩ hK hP [0, 1] rfl 0 rfl rfl rfl hl.1 (by rw [show zI 0 = zI ((0 : Nat) : Int) from zc (by omega)]; rfl) (Nat.le_of_ble_eq_true rfl) dX4_assign_19 ⟨Nat.zero_le _, Nat.zero_le _⟩ (fun r_19 h_19 => ?_)
            subst h_19
            refine z_icmp_ge (tgt := 52) hx hb dX4_assign_22 (by decide) (by omega) (by omega) (fun c_22 => ?_) (fun c_22 => ?_)
            · have htt2 : tt = nT f := by omega
              refine lv_iinc (v := zI ((((jj : Nat) : Int) - 8) + 1)) (lv' := [(2, .int (zI ((((jj : Nat) : Int) - 8) + 1))), (0, .ref h4), (1, .ref h0), (3, .int (zI ((tt : Nat) : Int)))]) hx hb dX4_assign_52 hl (k := 2) rfl (zI_add _ _) (by decide) rfl (fun ls hl => ?_)
              refine lv_goto (tgt := 8) hx hb dX4_assign_55 (by decide) ?_
              have hl : lv_has ls 4 [(2, .int (zI ((((jj + 1) : Nat) : Int) - 8))), (0, .ref h4), (1, .ref h0), (3, .int (zI ((tt : Nat) : Int)))] := lv_c (l1 := []) (l2 := [(0, .ref h4), (1, .ref h0), (3, .int (zI ((tt : Nat) : Int)))]) hl (show (((jj : Nat) : Int) - 8) + 1 = (((jj + 1) : Nat) : Int) - 8 from by omega)
              exact ih8 (jj + 1) xu xe xh (by omega) (hoI_nx (by rw [← htt2]; exact hI)) (by omega) _ _ hP hD hS ls (lv_sub hl [1, 2, 0] rfl)
            · have hv := hV.t (t := tt) (by omega)
              refine lv_aload_n hx hb dX4_assign_25 rfl (lv_at hl 1 rfl) ?_
              refine lv_iload_n hx hb dX4_assign_26 rfl (lv_at hl 3 rfl) ?_
              refine z_iconst hx hb dX4_assign_27 ?_
              refine roV (n := 2) (As := [.int (zI ((tt : Nat) : Int)), .int (zI ((1 : Nat) : Int))]) (rest := []) hSf (c_field l D k h0 c0 f tt 1 (by omega) (by omega)) gX4_assign_X7_field rfl (by decide +kernel) ⟨Nat.le_of_ble_eq_true rfl, Nat.le_of_ble_eq_true rfl⟩ hK hP [0, 1] rfl 0 rfl rfl rfl hl.1 (by rw [show zI 1 = zI ((1 : Nat) : Int) from zc (by omega)]; rfl) (Nat.le_of_ble_eq_true rfl) dX4_assign_28 ⟨Nat.zero_le _, Nat.zero_le _⟩ (fun r_28 h_28 => ?_)
              subst h_28
              refine lv_iload_n hx hb dX4_assign_31 rfl (lv_at hl 2 rfl) ?_
              refine z_icmp_ne (tgt := 46) hx hb dX4_assign_32 (by decide) (by omega) (by omega) (fun c_32 => ?_) (fun c_32 => ?_)
              · refine lv_iinc (v := zI (((tt : Nat) : Int) + 1)) (lv' := [(3, .int (zI (((tt : Nat) : Int) + 1))), (0, .ref h4), (1, .ref h0), (2, .int (zI (((jj : Nat) : Int) - 8)))]) hx hb dX4_assign_46 hl (k := 3) rfl (zI_add _ _) (by decide) rfl (fun ls hl => ?_)
                refine lv_goto (tgt := 16) hx hb dX4_assign_49 (by decide) ?_
                have hl : lv_has ls 4 [(3, .int (zI (((tt + 1) : Nat) : Int))), (0, .ref h4), (1, .ref h0), (2, .int (zI (((jj : Nat) : Int) - 8)))] := lv_c (l1 := []) (l2 := [(0, .ref h4), (1, .ref h0), (2, .int (zI (((jj : Nat) : Int) - 8)))]) hl (show ((tt : Nat) : Int) + 1 = (((tt + 1) : Nat) : Int) from by omega)
                exact ih16 (tt + 1) xu xe xh (by omega) (hoI_sk hI (by omega) c_32) (by omega) _ _ hP hD hS ls (lv_sub hl [1, 2, 3, 0] rfl)
              · refine lv_aload_n hx hb dX4_assign_35 rfl (lv_at hl 0 rfl) ?_
                refine va_get (D := D) (ci := 4) (v := .ref b4) (C := RX4) (T := TX4) (N := 3) hx hb hts hinX4 hown hK.1 hP 2 rfl rfl 0 (by decide) fl9 (fun _ h9 => h9) rfl dX4_assign_36 ?_
                refine lv_iload_n hx hb dX4_assign_39 rfl (lv_at hl 3 rfl) ?_
                refine lv_aload_n hx hb dX4_assign_40 rfl (lv_at hl 0 rfl) ?_
                refine lv_iload_n hx hb dX4_assign_41 rfl (lv_at hl 2 rfl) ?_
                refine miV (n := 1) (As := [.int (zI (((jj : Nat) : Int) - 8))]) (rest := [.int (zI ((tt : Nat) : Int)), .ref b4]) hSf (c_occupy l D k h4 b4 e4 xh xe xu (((jj : Nat) : Int) - 8) (by have := hoI_lt hI (by omega) c_32; omega) (fun i hi => (hI.2.1 i hi).2) (by omega)) gX4_assign_X4_occupy rfl (by decide +kernel) ⟨Nat.le_of_ble_eq_true rfl, Nat.le_of_ble_eq_true rfl⟩ hK hP hD hS [2, 3, 4] rfl rfl (by decide) (fun _ => rfl) (fun _ => rfl) 0 rfl rfl rfl hl.1 rfl (Nat.le_of_ble_eq_true rfl) dX4_assign_42 ⟨Nat.zero_le _, Nat.zero_le _⟩ (fun r_42 u_42 H locs h_42 hP hD hS => ?_)
                have hP : va_P D vwCl [(h0, .inr (7, [.ref c0])), (c0, .inl (k.1, 132, .inl (zF f))), (h4, .inr (4, [.ref b4, .ref e4, .int (zI ((max xu (fhN xu xe (((jj : Nat) : Int) - 8) + 1) : Nat) : Int))])), (b4, .inl (k.1, 12, .inl (zF xh))), (e4, .inl (k.1, 12, .inl (zF (upZ xe (fhN xu xe (((jj : Nat) : Int) - 8)) ((((jj : Nat) : Int) - 8) + 8)))))] H := hP
                have hD : va_D A [(h0, .inr (7, [.ref c0])), (c0, .inl (k.1, 132, .inl (zF f))), (h4, .inr (4, [.ref b4, .ref e4, .int (zI ((max xu (fhN xu xe (((jj : Nat) : Int) - 8) + 1) : Nat) : Int))])), (b4, .inl (k.1, 12, .inl (zF xh))), (e4, .inl (k.1, 12, .inl (zF (upZ xe (fhN xu xe (((jj : Nat) : Int) - 8)) ((((jj : Nat) : Int) - 8) + 8)))))] := hD
                obtain ⟨he_42, h_42⟩ := h_42
                subst he_42
                refine z_ast hx hb hK hP hD hS 3 rfl (tt) (by omega) (by omega) (Nat.le_of_ble_eq_true rfl) dX4_assign_45 (fun H locs hP hD hS => ?_)
                have hP : va_P D vwCl [(h0, .inr (7, [.ref c0])), (c0, .inl (k.1, 132, .inl (zF f))), (h4, .inr (4, [.ref b4, .ref e4, .int (zI ((max xu (fhN xu xe (((jj : Nat) : Int) - 8) + 1) : Nat) : Int))])), (b4, .inl (k.1, 12, .inl (zF (upZ xh tt ((fhN xu xe (((jj : Nat) : Int) - 8) : Nat) : Int))))), (e4, .inl (k.1, 12, .inl (zF (upZ xe (fhN xu xe (((jj : Nat) : Int) - 8)) ((((jj : Nat) : Int) - 8) + 8)))))] H := hP
                have hD : va_D A [(h0, .inr (7, [.ref c0])), (c0, .inl (k.1, 132, .inl (zF f))), (h4, .inr (4, [.ref b4, .ref e4, .int (zI ((max xu (fhN xu xe (((jj : Nat) : Int) - 8) + 1) : Nat) : Int))])), (b4, .inl (k.1, 12, .inl (zF (upZ xh tt ((fhN xu xe (((jj : Nat) : Int) - 8) : Nat) : Int))))), (e4, .inl (k.1, 12, .inl (zF (upZ xe (fhN xu xe (((jj : Nat) : Int) - 8)) ((((jj : Nat) : Int) - 8) + 8)))))] := hD
                refine lv_iinc (v := zI (((tt : Nat) : Int) + 1)) (lv' := [(3, .int (zI (((tt : Nat) : Int) + 1))), (0, .ref h4), (1, .ref h0), (2, .int (zI (((jj : Nat) : Int) - 8)))]) hx hb dX4_assign_46 hl (k := 3) rfl (zI_add _ _) (by decide) rfl (fun ls hl => ?_)
                refine lv_goto (tgt := 16) hx hb dX4_assign_49 (by decide) ?_
                have hl : lv_has ls 4 [(3, .int (zI (((tt + 1) : Nat) : Int))), (0, .ref h4), (1, .ref h0), (2, .int (zI (((jj : Nat) : Int) - 8)))] := lv_c (l1 := []) (l2 := [(0, .ref h4), (1, .ref h0), (2, .int (zI (((jj : Nat) : Int) - 8)))]) hl (show ((tt : Nat) : Int) + 1 = (((tt + 1) : Nat) : Int) from by omega)
                exact ih16 (tt + 1) (max xu (fhN xu xe (((jj : Nat) : Int) - 8) + 1)) (upZ xe (fhN xu xe (((jj : Nat) : Int) - 8)) ((((jj : Nat) : Int) - 8) + 8)) (upZ xh tt ((fhN xu xe (((jj : Nat) : Int) - 8) : Nat) : Int)) (by omega) (hoI_put hI (by omega) c_32 (by omega)) (by omega) _ _ hP hD hS ls (lv_sub hl [1, 2, 3, 0] rfl)
        have hl : lv_has ls 4 [(3, .int (zI ((0 : Nat) : Int))), (0, .ref h4), (1, .ref h0), (2, .int (zI (((jj : Nat) : Int) - 8)))] := lv_c (l1 := []) (l2 := [(0, .ref h4), (1, .ref h0), (2, .int (zI (((jj : Nat) : Int) - 8)))]) hl (show 0 = ((0 : Nat) : Int) from rfl)
        exact L16 _ 0 xu xe xh (Nat.zero_le _) hI (Nat.lt_succ_self _) _ _ hP hD hS ls (lv_sub hl [1, 2, 3, 0] rfl)
  have hl : lv_has ls 4 [(2, .int (zI (((0 : Nat) : Int) - 8))), (0, .ref h4), (1, .ref h0)] := lv_c (l1 := []) (l2 := [(0, .ref h4), (1, .ref h0)]) hl (show -8 = ((0 : Nat) : Int) - 8 from rfl)
  exact L8 _ 0 0 en ho (by decide) (hoI_0 hV en ho) (Nat.lt_succ_self _) _ _ hP hD hS ls (lv_sub hl [1, 2, 0] rfl)
set_option maxHeartbeats 4000000 in
set_option maxRecDepth 100000 in
theorem c_holderOf (l : Launch) (D : va_G) (k : Kt) (h4 : Nat) (b4 : Nat) (e4 : Nat) (ho : Nat → Int) (en : Nat → Int) (us : Nat) (t1 : Nat) (ht1 : t1 < 12) : RO l D k yX4_holderOf wsX4_holderOf 0 0 [.ref h4, .int (zI ((t1 : Nat) : Int))] [(h4, .inr (4, [.ref b4, .ref e4, .int (zI ((us : Nat) : Int))])), (b4, .inl (k.1, 12, .inl (zF ho))), (e4, .inl (k.1, 12, .inl (zF en)))] (fun r => r = zI (ho t1)) := by
  refine Met.ofW (cc := cX4_holderOf) (maxL := 2) (ret := (some .int)) (by decide) rfl ?_
  intro p e s m args below meth c s₁ Bd hml hv
  obtain ⟨rfl, hP, hK⟩ := hv
  have hx := Bd.exec
  have hb := Bd.bytes
  have hr := Bd.returns
  have hts := atoms_spec (ws := wsX4_holderOf) Bd.pre
  have hown : s.vm.findClass RX4 = some m.cls := findClass_of_methodNamed Bd.named
  have hlocks := Bd.notSynchronized
  have hSf : CallFix p m c cX4_holderOf 2 s ([.ref h4, .int (zI ((t1 : Nat) : Int))] : List Value).toArray wsX4_holderOf RX4 := ⟨hx, hb, hml, hown, hts⟩
  have hinX4 : ∀ w ∈ u_ws RX4 TX4 3, w ∈ wsX4_holderOf := by decide +kernel
  have fl9 := hts (.fieldLink RX4 9 "DotObjects$Holders" "holders" "[I") (by decide +kernel)
  have hl := lv_entry ([.ref h4, .int (zI ((t1 : Nat) : Int))]) (n := 2) (Nat.le_of_ble_eq_true rfl)
  rw [lg_entry_eq]
  generalize (lg_sl ([.ref h4, .int (zI ((t1 : Nat) : Int))]) ++ List.replicate (2 - (lg_sl ([.ref h4, .int (zI ((t1 : Nat) : Int))])).length) Slot.unset).toArray = ls at hl ⊢
  have hl : lv_has ls 2 [(0, .ref h4), (1, .int (zI ((t1 : Nat) : Int)))] := hl
  refine lv_aload_n hx hb dX4_holderOf_0 rfl (lv_at hl 0 rfl) ?_
  refine va_get (D := D) (ci := 4) (v := .ref b4) (C := RX4) (T := TX4) (N := 3) hx hb hts hinX4 hown hK.1 hP 0 rfl rfl 0 (by decide) fl9 (fun _ h9 => h9) rfl dX4_holderOf_1 ?_
  refine lv_iload_n hx hb dX4_holderOf_4 rfl (lv_at hl 1 rfl) ?_
  refine z_ald hx hb hK hP 1 rfl (t1) (by omega) (by omega) (Nat.le_of_ble_eq_true rfl) dX4_holderOf_5 ?_
  exact W.iret hx hb hr (fun t ht hW => ⟨_, rfl, rfl, ht⟩) (fun q hq => by cases hq) dX4_holderOf_6
theorem dp_bit {f : St} {B : Int} (hV : Va B f) {L t : Nat} (ht : t < 12) : (onS f L &&& (2 ^ 32 - (dN f L + 1))).testBit t = dpB f L t := by
  have := dN_lt hV L
  rw [Nat.testBit_and, not_bit (by omega), decide_eq_true (show t < 32 by omega), Bool.true_and]
  rfl
def drI (f : St) (dr : Nat → Int) (j tt : Nat) (d : Nat → Int) : Prop := ∀ t, t < 12 → d t = dr t + ((ct (fun q => dpB f q t) (if t < tt then j + 1 else j) : Nat) : Int)
theorem drI_0 (f : St) (dr : Nat → Int) : drI f dr 0 0 dr := fun t ht => by rw [if_neg (by omega)]; show dr t = dr t + ((0 : Nat) : Int); omega
theorem drI_nx {f : St} {dr d : Nat → Int} {j : Nat} (h : drI f dr j 12 d) : drI f dr (j + 1) 0 d := fun t ht => by rw [h t ht, if_pos ht, if_neg (by omega)]
theorem drI_s {f : St} {dr d : Nat → Int} {j tt : Nat} (h : drI f dr j tt d) (ht : tt < 12) : drI f dr j (tt + 1) (upZ d tt (d tt + (((dpB f j tt).toNat : Nat) : Int))) := fun t h1 => by
  by_cases q : t = tt
  · subst q
    rw [upZ_s, h t h1, if_neg (by omega), if_pos (by omega), ct]
    omega
  · rw [upZ_n q, h t h1]
    have : (t < tt) ↔ (t < tt + 1) := by omega
    simp only [this]
theorem drI_e {f : St} {dr d : Nat → Int} (h : drI f dr 24 0 d) : ∀ t, t < 12 → d t = dr t + ((cdN f t : Nat) : Int) := fun t ht => by rw [h t ht, if_neg (by omega)]; rfl
set_option maxHeartbeats 4000000 in
set_option maxRecDepth 100000 in
theorem c_countFrame (l : Launch) (D : va_G) (k : Kt) (h2 : Nat) (h7 : Nat) (c7 : Nat) (h5 : Nat) (a5 : Nat) (d2 : Nat) (g : St) (B : Int) (hV : Va B g) (o : Nat → Int) (dr : Nat → Int) (hB : B < 1000000) : MU l D k yX2_countFrame wsX2_countFrame 3 73 [.ref h2] [(h2, .inr (2, [.ref h7, .ref h5, .ref d2])), (h7, .inr (7, [.ref c7])), (c7, .inl (k.1, 132, .inl (zF g))), (h5, .inr (5, [.ref a5])), (a5, .inl (k.1, 12, .inl (zF o))), (d2, .inl (k.1, 12, .inl (zF dr)))] (fun (u : (Nat → Int) × (Nat → Int)) => ∀ t, t < 12 → u.2 t = dr t + ((cdN g t : Nat) : Int)) (fun u => [(h2, .inr (2, [.ref h7, .ref h5, .ref d2])), (h7, .inr (7, [.ref c7])), (c7, .inl (k.1, 132, .inl (zF g))), (h5, .inr (5, [.ref a5])), (a5, .inl (k.1, 12, .inl (zF u.1))), (d2, .inl (k.1, 12, .inl (zF u.2)))]) := by
  refine Met.ofW (cc := cX2_countFrame) (maxL := 4) (ret := none) (by decide) rfl ?_
  intro p e s m args below meth c s₁ Bd hml hv
  obtain ⟨rfl, hP, hK, hD0⟩ := hv
  have hx := Bd.exec
  have hb := Bd.bytes
  have hr := Bd.returns
  have hts := atoms_spec (ws := wsX2_countFrame) Bd.pre
  have hown : s.vm.findClass RX2 = some m.cls := findClass_of_methodNamed Bd.named
  have hlocks := Bd.notSynchronized
  have hSf : CallFix p m c cX2_countFrame 4 s ([.ref h2] : List Value).toArray wsX2_countFrame RX2 := ⟨hx, hb, hml, hown, hts⟩
  have hD := fA_D hD0
  have hS : va_S (fA [(h2, .inr (2, [.ref h7, .ref h5, .ref d2])), (h7, .inr (7, [.ref c7])), (c7, .inl (k.1, 132, .inl (zF g))), (h5, .inr (5, [.ref a5])), (a5, .inl (k.1, 12, .inl (zF o))), (d2, .inl (k.1, 12, .inl (zF dr)))]) s.heap s.heap [] := va_S.rf
  generalize hAe : fA [(h2, .inr (2, [.ref h7, .ref h5, .ref d2])), (h7, .inr (7, [.ref c7])), (c7, .inl (k.1, 132, .inl (zF g))), (h5, .inr (5, [.ref a5])), (a5, .inl (k.1, 12, .inl (zF o))), (d2, .inl (k.1, 12, .inl (zF dr)))] = A at hD hS ⊢
  have hP : va_P D vwCl [(h2, .inr (2, [.ref h7, .ref h5, .ref d2])), (h7, .inr (7, [.ref c7])), (c7, .inl (k.1, 132, .inl (zF g))), (h5, .inr (5, [.ref a5])), (a5, .inl (k.1, 12, .inl (zF o))), (d2, .inl (k.1, 12, .inl (zF dr)))] s.heap := hP
  have hinX2 : ∀ w ∈ u_ws RX2 TX2 3, w ∈ wsX2_countFrame := by decide +kernel
  have fl21 := hts (.fieldLink RX2 21 "DotObjects$Forecast" "order" "LDotObjects$Order;") (by decide +kernel)
  have fl12 := hts (.fieldLink RX2 12 "DotObjects$Forecast" "ahead" "LDotObjects$Scene;") (by decide +kernel)
  have fl25 := hts (.fieldLink RX2 25 "DotObjects$Forecast" "drops" "[I") (by decide +kernel)
  have hl := lv_entry ([.ref h2]) (n := 4) (Nat.le_of_ble_eq_true rfl)
  rw [lg_entry_eq]
  generalize (lg_sl ([.ref h2]) ++ List.replicate (4 - (lg_sl ([.ref h2])).length) Slot.unset).toArray = ls at hl ⊢
  have hl : lv_has ls 4 [(0, .ref h2)] := hl
  have hv2 := hV.2.2.1
  refine lv_aload_n hx hb dX2_countFrame_0 rfl (lv_at hl 0 rfl) ?_
  refine va_get (D := D) (ci := 2) (v := .ref h5) (C := RX2) (T := TX2) (N := 3) hx hb hts hinX2 hown hK.1 hP 0 rfl rfl 1 (by decide) fl21 (fun _ h9 => h9) rfl dX2_countFrame_1 ?_
  refine lv_aload_n hx hb dX2_countFrame_4 rfl (lv_at hl 0 rfl) ?_
  refine va_get (D := D) (ci := 2) (v := .ref h7) (C := RX2) (T := TX2) (N := 3) hx hb hts hinX2 hown hK.1 hP 0 rfl rfl 0 (by decide) fl12 (fun _ h9 => h9) rfl dX2_countFrame_5 ?_
  refine lv_aload_n hx hb dX2_countFrame_8 rfl (lv_at hl 0 rfl) ?_
  refine va_get (D := D) (ci := 2) (v := .ref h7) (C := RX2) (T := TX2) (N := 3) hx hb hts hinX2 hown hK.1 hP 0 rfl rfl 0 (by decide) fl12 (fun _ h9 => h9) rfl dX2_countFrame_9 ?_
  refine z_iconst hx hb dX2_countFrame_12 ?_
  refine roV (n := 1) (As := [.int (zI ((2 : Nat) : Int))]) (rest := [.ref h7, .ref h5]) hSf (c_cell l D k h7 c7 g 2 (by omega)) gX2_countFrame_X7_cell rfl (by decide +kernel) ⟨Nat.le_of_ble_eq_true rfl, Nat.le_of_ble_eq_true rfl⟩ hK hP [1, 2] rfl 0 rfl rfl rfl hl.1 (by rw [show zI 2 = zI ((2 : Nat) : Int) from zc (by omega)]; rfl) (Nat.le_of_ble_eq_true rfl) dX2_countFrame_13 ⟨Nat.zero_le _, Nat.zero_le _⟩ (fun r_13 h_13 => ?_)
  subst h_13
  refine muV (n := 2) (As := [.ref h7, .int (zI (g 2))]) (rest := []) hSf (c_arrange l D k h7 c7 g B hV h5 a5 o (g 2) hv2 hB) gX2_countFrame_X5_arrange rfl (by decide +kernel) ⟨Nat.le_of_ble_eq_true rfl, Nat.le_of_ble_eq_true rfl⟩ hK hP hD hS [1, 2, 3, 4] rfl rfl (by decide) (fun _ => rfl) (fun _ => rfl) 2 rfl rfl rfl hl.1 rfl (Nat.le_of_ble_eq_true rfl) dX2_countFrame_16 ⟨Nat.zero_le _, Nat.zero_le _⟩ (fun u_16 H locs h_16 hP hD hS => ?_)
  have hP : va_P D vwCl [(h2, .inr (2, [.ref h7, .ref h5, .ref d2])), (h7, .inr (7, [.ref c7])), (c7, .inl (k.1, 132, .inl (zF g))), (h5, .inr (5, [.ref a5])), (a5, .inl (k.1, 12, .inl (zF u_16))), (d2, .inl (k.1, 12, .inl (zF dr)))] H := hP
  have hD : va_D A [(h2, .inr (2, [.ref h7, .ref h5, .ref d2])), (h7, .inr (7, [.ref c7])), (c7, .inl (k.1, 132, .inl (zF g))), (h5, .inr (5, [.ref a5])), (a5, .inl (k.1, 12, .inl (zF u_16))), (d2, .inl (k.1, 12, .inl (zF dr)))] := hD
  refine z_iconst hx hb dX2_countFrame_19 ?_
  refine lv_istore_n (lv' := [(1, .int (zI 0)), (0, .ref h2)]) hx hb dX2_countFrame_20 rfl hl (by decide) rfl (fun ls hl => ?_)
  have L21 : ∀ (NN21 : Nat), ∀ (jj : Nat) (dd : Nat → Int), (jj ≤ 24) → (drI g dr jj 0 dd) → 24 - jj < NN21 → ∀ (H : Heap) (locs : List Loc), va_P D vwCl [(h2, .inr (2, [.ref h7, .ref h5, .ref d2])), (h7, .inr (7, [.ref c7])), (c7, .inl (k.1, 132, .inl (zF g))), (h5, .inr (5, [.ref a5])), (a5, .inl (k.1, 12, .inl (zF u_16))), (d2, .inl (k.1, 12, .inl (zF dd)))] H → va_D A [(h2, .inr (2, [.ref h7, .ref h5, .ref d2])), (h7, .inr (7, [.ref c7])), (c7, .inl (k.1, 132, .inl (zF g))), (h5, .inr (5, [.ref a5])), (a5, .inl (k.1, 12, .inl (zF u_16))), (d2, .inl (k.1, 12, .inl (zF dd)))] → va_S A s.heap H locs → ∀ (ls : Array Slot), lv_has ls 4 [(0, .ref h2), (1, .int (zI ((jj : Nat) : Int)))] → W p l e (headSpec wsX2_countFrame { frames := 3, cells := 0, slots := 0, locals := 73 }).room s m ([.ref h2] : List Value).toArray below meth c H locs 0 0 (MQ below (va_Qv (fun (u : (Nat → Int) × (Nat → Int)) => ∀ t, t < 12 → u.2 t = dr t + ((cdN g t : Nat) : Int)) (fun (u : (Nat → Int) × (Nat → Int)) t => va_P D vwCl [(h2, .inr (2, [.ref h7, .ref h5, .ref d2])), (h7, .inr (7, [.ref c7])), (c7, .inl (k.1, 132, .inl (zF g))), (h5, .inr (5, [.ref a5])), (a5, .inl (k.1, 12, .inl (zF u.1))), (d2, .inl (k.1, 12, .inl (zF u.2)))] t.heap) A) ([.ref h2] : List Value).toArray s 0 0 A) (F0 m 21 ls []) := by
    intro NN21
    induction NN21 with
    | zero => intro jj dd _ _ hN; exact absurd hN (Nat.not_lt_zero _)
    | succ NN21 ih21 =>
      intro jj dd hjj hI hN H locs hP hD hS ls hl
      refine lv_iload_n hx hb dX2_countFrame_21 rfl (lv_at hl 1 rfl) ?_
      refine z_bipush hx hb dX2_countFrame_22 (by decide +kernel) ?_
      refine z_icmp_ge (tgt := 85) hx hb dX2_countFrame_24 (by decide) (by omega) (by omega) (fun c_24 => ?_) (fun c_24 => ?_)
      · obtain rfl : jj = 24 := by omega
        exact W.vret hx hb hr (fun t ht hW => ⟨⟨(u_16, dd), rfl, drI_e hI, by show va_P D vwCl _ _; rw [ht]; exact hP⟩, hS.F ht⟩) hS.2.2 dX2_countFrame_85
      · refine lv_aload_n hx hb dX2_countFrame_27 rfl (lv_at hl 0 rfl) ?_
        refine va_get (D := D) (ci := 2) (v := .ref h7) (C := RX2) (T := TX2) (N := 3) hx hb hts hinX2 hown hK.1 hP 0 rfl rfl 0 (by decide) fl12 (fun _ h9 => h9) rfl dX2_countFrame_28 ?_
        refine lv_iload_n hx hb dX2_countFrame_31 rfl (lv_at hl 1 rfl) ?_
        refine roV (n := 1) (As := [.int (zI ((jj : Nat) : Int))]) (rest := []) hSf (c_setOn l D k h7 c7 g B hV jj (by omega)) gX2_countFrame_X7_setOn rfl (by decide +kernel) ⟨Nat.le_of_ble_eq_true rfl, Nat.le_of_ble_eq_true rfl⟩ hK hP [1, 2] rfl 0 rfl rfl rfl hl.1 rfl (Nat.le_of_ble_eq_true rfl) dX2_countFrame_32 ⟨Nat.zero_le _, Nat.zero_le _⟩ (fun r_32 h_32 => ?_)
        subst h_32
        refine lv_aload_n hx hb dX2_countFrame_35 rfl (lv_at hl 0 rfl) ?_
        refine va_get (D := D) (ci := 2) (v := .ref h5) (C := RX2) (T := TX2) (N := 3) hx hb hts hinX2 hown hK.1 hP 0 rfl rfl 1 (by decide) fl21 (fun _ h9 => h9) rfl dX2_countFrame_36 ?_
        refine lv_aload_n hx hb dX2_countFrame_39 rfl (lv_at hl 0 rfl) ?_
        refine va_get (D := D) (ci := 2) (v := .ref h7) (C := RX2) (T := TX2) (N := 3) hx hb hts hinX2 hown hK.1 hP 0 rfl rfl 0 (by decide) fl12 (fun _ h9 => h9) rfl dX2_countFrame_40 ?_
        refine lv_iload_n hx hb dX2_countFrame_43 rfl (lv_at hl 1 rfl) ?_
        refine roV (n := 2) (As := [.ref h7, .int (zI ((jj : Nat) : Int))]) (rest := [.int (zI ((onS g jj : Nat) : Int))]) hSf (c_chosen l D k h7 c7 g B hV h5 a5 u_16 (g 2) h_16 jj (by omega)) gX2_countFrame_X5_chosen rfl (by decide +kernel) ⟨Nat.le_of_ble_eq_true rfl, Nat.le_of_ble_eq_true rfl⟩ hK hP [1, 2, 3, 4] rfl 2 rfl rfl rfl hl.1 rfl (Nat.le_of_ble_eq_true rfl) dX2_countFrame_44 ⟨Nat.zero_le _, Nat.zero_le _⟩ (fun r_44 h_44 => ?_)
        subst h_44
        refine te (zc (show ((drS g (g 2) (g 1) jj : Nat) : Int) = ((dN g jj : Nat) : Int) from rfl)) ?_
        refine z_iconst hx hb dX2_countFrame_47 ?_
        refine z_not hx hb dX2_countFrame_48 (dN g jj) (by omega) (Nat.lt_trans (dN_lt hV jj) (by decide)) ?_
        refine z_iand hx hb dX2_countFrame_49 (onS g jj) (2 ^ 32 - ((dN g jj) + 1)) (by omega) (by omega) ?_
        refine lv_istore_n (lv' := [(2, .int (zI (((onS g jj) &&& (2 ^ 32 - ((dN g jj) + 1)) : Nat) : Int))), (0, .ref h2), (1, .int (zI ((jj : Nat) : Int)))]) hx hb dX2_countFrame_50 rfl hl (by decide) rfl (fun ls hl => ?_)
        refine z_iconst hx hb dX2_countFrame_51 ?_
        refine lv_istore_n (lv' := [(3, .int (zI 0)), (2, .int (zI (((onS g jj) &&& (2 ^ 32 - ((dN g jj) + 1)) : Nat) : Int))), (0, .ref h2), (1, .int (zI ((jj : Nat) : Int)))]) hx hb dX2_countFrame_52 rfl hl (by decide) rfl (fun ls hl => ?_)
        have L53 : ∀ (NN53 : Nat), ∀ (tt : Nat) (dd : Nat → Int), (tt ≤ 12) → (drI g dr jj tt dd) → 12 - tt < NN53 → ∀ (H : Heap) (locs : List Loc), va_P D vwCl [(h2, .inr (2, [.ref h7, .ref h5, .ref d2])), (h7, .inr (7, [.ref c7])), (c7, .inl (k.1, 132, .inl (zF g))), (h5, .inr (5, [.ref a5])), (a5, .inl (k.1, 12, .inl (zF u_16))), (d2, .inl (k.1, 12, .inl (zF dd)))] H → va_D A [(h2, .inr (2, [.ref h7, .ref h5, .ref d2])), (h7, .inr (7, [.ref c7])), (c7, .inl (k.1, 132, .inl (zF g))), (h5, .inr (5, [.ref a5])), (a5, .inl (k.1, 12, .inl (zF u_16))), (d2, .inl (k.1, 12, .inl (zF dd)))] → va_S A s.heap H locs → ∀ (ls : Array Slot), lv_has ls 4 [(0, .ref h2), (1, .int (zI ((jj : Nat) : Int))), (2, .int (zI (((onS g jj &&& (2 ^ 32 - (dN g jj + 1))) : Nat) : Int))), (3, .int (zI ((tt : Nat) : Int)))] → W p l e (headSpec wsX2_countFrame { frames := 3, cells := 0, slots := 0, locals := 73 }).room s m ([.ref h2] : List Value).toArray below meth c H locs 0 0 (MQ below (va_Qv (fun (u : (Nat → Int) × (Nat → Int)) => ∀ t, t < 12 → u.2 t = dr t + ((cdN g t : Nat) : Int)) (fun (u : (Nat → Int) × (Nat → Int)) t => va_P D vwCl [(h2, .inr (2, [.ref h7, .ref h5, .ref d2])), (h7, .inr (7, [.ref c7])), (c7, .inl (k.1, 132, .inl (zF g))), (h5, .inr (5, [.ref a5])), (a5, .inl (k.1, 12, .inl (zF u.1))), (d2, .inl (k.1, 12, .inl (zF u.2)))] t.heap) A) ([.ref h2] : List Value).toArray s 0 0 A) (F0 m 53 ls []) := by
          intro NN53
          induction NN53 with
          | zero => intro tt dd _ _ hN; exact absurd hN (Nat.not_lt_zero _)
          | succ NN53 ih53 =>
            intro tt dd htt hI hN H locs hP hD hS ls hl
            refine lv_iload_n hx hb dX2_countFrame_53 rfl (lv_at hl 3 rfl) ?_
            refine z_bipush hx hb dX2_countFrame_54 (by decide +kernel) ?_
            refine z_icmp_ge (tgt := 79) hx hb dX2_countFrame_56 (by decide) (by omega) (by omega) (fun c_56 => ?_) (fun c_56 => ?_)
            · have htt2 : tt = 12 := by omega
              refine lv_iinc (v := zI (((jj : Nat) : Int) + 1)) (lv' := [(1, .int (zI (((jj : Nat) : Int) + 1))), (0, .ref h2), (2, .int (zI (((onS g jj &&& (2 ^ 32 - (dN g jj + 1))) : Nat) : Int))), (3, .int (zI ((tt : Nat) : Int)))]) hx hb dX2_countFrame_79 hl (k := 1) rfl (zI_add _ _) (by decide) rfl (fun ls hl => ?_)
              refine lv_goto (tgt := 21) hx hb dX2_countFrame_82 (by decide) ?_
              have hl : lv_has ls 4 [(1, .int (zI (((jj + 1) : Nat) : Int))), (0, .ref h2), (2, .int (zI (((onS g jj &&& (2 ^ 32 - (dN g jj + 1))) : Nat) : Int))), (3, .int (zI ((tt : Nat) : Int)))] := lv_c (l1 := []) (l2 := [(0, .ref h2), (2, .int (zI (((onS g jj &&& (2 ^ 32 - (dN g jj + 1))) : Nat) : Int))), (3, .int (zI ((tt : Nat) : Int)))]) hl (show ((jj : Nat) : Int) + 1 = (((jj + 1) : Nat) : Int) from by omega)
              exact ih21 (jj + 1) dd (by omega) (drI_nx (by rw [← htt2]; exact hI)) (by omega) _ _ hP hD hS ls (lv_sub hl [1, 0] rfl)
            · refine lv_aload_n hx hb dX2_countFrame_59 rfl (lv_at hl 0 rfl) ?_
              refine va_get (D := D) (ci := 2) (v := .ref d2) (C := RX2) (T := TX2) (N := 3) hx hb hts hinX2 hown hK.1 hP 0 rfl rfl 2 (by decide) fl25 (fun _ h9 => h9) rfl dX2_countFrame_60 ?_
              refine lv_iload_n hx hb dX2_countFrame_63 rfl (lv_at hl 3 rfl) ?_
              refine lv_dup2_11 hx hb dX2_countFrame_64 rfl rfl ?_
              refine z_ald hx hb hK hP 5 rfl (tt) (by omega) (by omega) (Nat.le_of_ble_eq_true rfl) dX2_countFrame_65 ?_
              refine lv_iload_n hx hb dX2_countFrame_66 rfl (lv_at hl 2 rfl) ?_
              refine lv_iload_n hx hb dX2_countFrame_67 rfl (lv_at hl 3 rfl) ?_
              refine z_iushr hx hb dX2_countFrame_68 ((onS g jj &&& (2 ^ 32 - (dN g jj + 1)))) (tt) (by omega) (by omega) (by omega) (and_m _ _ (Nat.lt_trans (onS_lt hV jj) (by decide))) ?_
              refine z_iconst hx hb dX2_countFrame_69 ?_
              refine z_iand hx hb dX2_countFrame_70 ((onS g jj &&& (2 ^ 32 - (dN g jj + 1))) >>> tt) (1) (by omega) (by omega) ?_
              refine te (zc (show ((((onS g jj &&& (2 ^ 32 - (dN g jj + 1))) >>> tt) &&& 1 : Nat) : Int) = (((dpB g jj tt).toNat : Nat) : Int) from by rw [bit1, dp_bit hV (by omega)])) ?_
              refine z_iadd hx hb dX2_countFrame_71 ?_
              refine z_ast hx hb hK hP hD hS 5 rfl (tt) (by omega) (by omega) (Nat.le_of_ble_eq_true rfl) dX2_countFrame_72 (fun H locs hP hD hS => ?_)
              have hP : va_P D vwCl [(h2, .inr (2, [.ref h7, .ref h5, .ref d2])), (h7, .inr (7, [.ref c7])), (c7, .inl (k.1, 132, .inl (zF g))), (h5, .inr (5, [.ref a5])), (a5, .inl (k.1, 12, .inl (zF u_16))), (d2, .inl (k.1, 12, .inl (zF (upZ dd tt ((dd tt) + (((dpB g jj tt).toNat : Nat) : Int))))))] H := hP
              have hD : va_D A [(h2, .inr (2, [.ref h7, .ref h5, .ref d2])), (h7, .inr (7, [.ref c7])), (c7, .inl (k.1, 132, .inl (zF g))), (h5, .inr (5, [.ref a5])), (a5, .inl (k.1, 12, .inl (zF u_16))), (d2, .inl (k.1, 12, .inl (zF (upZ dd tt ((dd tt) + (((dpB g jj tt).toNat : Nat) : Int))))))] := hD
              refine lv_iinc (v := zI (((tt : Nat) : Int) + 1)) (lv' := [(3, .int (zI (((tt : Nat) : Int) + 1))), (0, .ref h2), (1, .int (zI ((jj : Nat) : Int))), (2, .int (zI (((onS g jj &&& (2 ^ 32 - (dN g jj + 1))) : Nat) : Int)))]) hx hb dX2_countFrame_73 hl (k := 3) rfl (zI_add _ _) (by decide) rfl (fun ls hl => ?_)
              refine lv_goto (tgt := 53) hx hb dX2_countFrame_76 (by decide) ?_
              have hl : lv_has ls 4 [(3, .int (zI (((tt + 1) : Nat) : Int))), (0, .ref h2), (1, .int (zI ((jj : Nat) : Int))), (2, .int (zI (((onS g jj &&& (2 ^ 32 - (dN g jj + 1))) : Nat) : Int)))] := lv_c (l1 := []) (l2 := [(0, .ref h2), (1, .int (zI ((jj : Nat) : Int))), (2, .int (zI (((onS g jj &&& (2 ^ 32 - (dN g jj + 1))) : Nat) : Int)))]) hl (show ((tt : Nat) : Int) + 1 = (((tt + 1) : Nat) : Int) from by omega)
              exact ih53 (tt + 1) (upZ dd tt (dd tt + (((dpB g jj tt).toNat : Nat) : Int))) (by omega) (drI_s hI (by omega)) (by omega) _ _ hP hD hS ls (lv_sub hl [1, 2, 3, 0] rfl)
        have hl : lv_has ls 4 [(3, .int (zI ((0 : Nat) : Int))), (2, .int (zI (((onS g jj) &&& (2 ^ 32 - ((dN g jj) + 1)) : Nat) : Int))), (0, .ref h2), (1, .int (zI ((jj : Nat) : Int)))] := lv_c (l1 := []) (l2 := [(2, .int (zI (((onS g jj) &&& (2 ^ 32 - ((dN g jj) + 1)) : Nat) : Int))), (0, .ref h2), (1, .int (zI ((jj : Nat) : Int)))]) hl (show 0 = ((0 : Nat) : Int) from rfl)
        exact L53 _ 0 dd (by decide) hI (Nat.lt_succ_self _) _ _ hP hD hS ls (lv_sub hl [2, 3, 1, 0] rfl)
  have hl : lv_has ls 4 [(1, .int (zI ((0 : Nat) : Int))), (0, .ref h2)] := lv_c (l1 := []) (l2 := [(0, .ref h2)]) hl (show 0 = ((0 : Nat) : Int) from rfl)
  exact L21 _ 0 dr (by decide) (drI_0 g dr) (Nat.lt_succ_self _) _ _ hP hD hS ls (lv_sub hl [1, 0] rfl)
set_option maxHeartbeats 4000000 in
set_option maxRecDepth 100000 in
theorem c_run (l : Launch) (D : va_G) (k : Kt) (h0 : Nat) (c0 : Nat) (f : St) (B : Int) (hV : Va B f) (h2 : Nat) (h7 : Nat) (c7 : Nat) (h5 : Nat) (a5 : Nat) (d2 : Nat) (g : St) (o : Nat → Int) (dr : Nat → Int) (n1 : Nat) (hn1 : n1 ≤ 40) (hB : B < 900000) : MU l D k yX2_run wsX2_run 4 96 [.ref h2, .ref h0, .int (zI ((n1 : Nat) : Int))] [(h0, .inr (7, [.ref c0])), (c0, .inl (k.1, 132, .inl (zF f))), (h2, .inr (2, [.ref h7, .ref h5, .ref d2])), (h7, .inr (7, [.ref c7])), (c7, .inl (k.1, 132, .inl (zF g))), (h5, .inr (5, [.ref a5])), (a5, .inl (k.1, 12, .inl (zF o))), (d2, .inl (k.1, 12, .inl (zF dr)))] (fun (u : St × (Nat → Int) × (Nat → Int)) => ∀ t, t < 12 → u.2.2 t = ((lefN f n1 t : Nat) : Int)) (fun u => [(h0, .inr (7, [.ref c0])), (c0, .inl (k.1, 132, .inl (zF f))), (h2, .inr (2, [.ref h7, .ref h5, .ref d2])), (h7, .inr (7, [.ref c7])), (c7, .inl (k.1, 132, .inl (zF u.1))), (h5, .inr (5, [.ref a5])), (a5, .inl (k.1, 12, .inl (zF u.2.1))), (d2, .inl (k.1, 12, .inl (zF u.2.2)))]) := by
  refine Met.ofW (cc := cX2_run) (maxL := 4) (ret := none) (by decide) rfl ?_
  intro p e s m args below meth c s₁ Bd hml hv
  obtain ⟨rfl, hP, hK, hD0⟩ := hv
  have hx := Bd.exec
  have hb := Bd.bytes
  have hr := Bd.returns
  have hts := atoms_spec (ws := wsX2_run) Bd.pre
  have hown : s.vm.findClass RX2 = some m.cls := findClass_of_methodNamed Bd.named
  have hlocks := Bd.notSynchronized
  have hSf : CallFix p m c cX2_run 4 s ([.ref h2, .ref h0, .int (zI ((n1 : Nat) : Int))] : List Value).toArray wsX2_run RX2 := ⟨hx, hb, hml, hown, hts⟩
  have hD := fA_D hD0
  have hS : va_S (fA [(h0, .inr (7, [.ref c0])), (c0, .inl (k.1, 132, .inl (zF f))), (h2, .inr (2, [.ref h7, .ref h5, .ref d2])), (h7, .inr (7, [.ref c7])), (c7, .inl (k.1, 132, .inl (zF g))), (h5, .inr (5, [.ref a5])), (a5, .inl (k.1, 12, .inl (zF o))), (d2, .inl (k.1, 12, .inl (zF dr)))]) s.heap s.heap [] := va_S.rf
  generalize hAe : fA [(h0, .inr (7, [.ref c0])), (c0, .inl (k.1, 132, .inl (zF f))), (h2, .inr (2, [.ref h7, .ref h5, .ref d2])), (h7, .inr (7, [.ref c7])), (c7, .inl (k.1, 132, .inl (zF g))), (h5, .inr (5, [.ref a5])), (a5, .inl (k.1, 12, .inl (zF o))), (d2, .inl (k.1, 12, .inl (zF dr)))] = A at hD hS ⊢
  have hP : va_P D vwCl [(h0, .inr (7, [.ref c0])), (c0, .inl (k.1, 132, .inl (zF f))), (h2, .inr (2, [.ref h7, .ref h5, .ref d2])), (h7, .inr (7, [.ref c7])), (c7, .inl (k.1, 132, .inl (zF g))), (h5, .inr (5, [.ref a5])), (a5, .inl (k.1, 12, .inl (zF o))), (d2, .inl (k.1, 12, .inl (zF dr)))] s.heap := hP
  have hinX2 : ∀ w ∈ u_ws RX2 TX2 3, w ∈ wsX2_run := by decide +kernel
  have fl12 := hts (.fieldLink RX2 12 "DotObjects$Forecast" "ahead" "LDotObjects$Scene;") (by decide +kernel)
  have fl25 := hts (.fieldLink RX2 25 "DotObjects$Forecast" "drops" "[I") (by decide +kernel)
  have hl := lv_entry ([.ref h2, .ref h0, .int (zI ((n1 : Nat) : Int))]) (n := 4) (Nat.le_of_ble_eq_true rfl)
  rw [lg_entry_eq]
  generalize (lg_sl ([.ref h2, .ref h0, .int (zI ((n1 : Nat) : Int))]) ++ List.replicate (4 - (lg_sl ([.ref h2, .ref h0, .int (zI ((n1 : Nat) : Int))])).length) Slot.unset).toArray = ls at hl ⊢
  have hl : lv_has ls 4 [(0, .ref h2), (1, .ref h0), (2, .int (zI ((n1 : Nat) : Int)))] := hl
  have hag := cpZ_ag (g := g) hV
  have hV2 := hV.ag hag
  refine lv_aload_n hx hb dX2_run_0 rfl (lv_at hl 0 rfl) ?_
  refine va_get (D := D) (ci := 2) (v := .ref h7) (C := RX2) (T := TX2) (N := 3) hx hb hts hinX2 hown hK.1 hP 2 rfl rfl 0 (by decide) fl12 (fun _ h9 => h9) rfl dX2_run_1 ?_
  refine lv_aload_n hx hb dX2_run_4 rfl (lv_at hl 1 rfl) ?_
  refine muV (n := 1) (As := [.ref h0]) (rest := []) hSf (c_copyFrom l D k h7 c7 g h0 c0 f) gX2_run_X7_copyFrom rfl (by decide +kernel) ⟨Nat.le_of_ble_eq_true rfl, Nat.le_of_ble_eq_true rfl⟩ hK hP hD hS [3, 4, 0, 1] rfl rfl (by decide) (fun _ => rfl) (fun _ => rfl) 0 rfl rfl rfl hl.1 rfl (Nat.le_of_ble_eq_true rfl) dX2_run_5 ⟨Nat.zero_le _, Nat.zero_le _⟩ (fun u_5 H locs h_5 hP hD hS => ?_)
  have hP : va_P D vwCl [(h0, .inr (7, [.ref c0])), (c0, .inl (k.1, 132, .inl (zF f))), (h2, .inr (2, [.ref h7, .ref h5, .ref d2])), (h7, .inr (7, [.ref c7])), (c7, .inl (k.1, 132, .inl (zF (cpZ f g 0 0 132)))), (h5, .inr (5, [.ref a5])), (a5, .inl (k.1, 12, .inl (zF o))), (d2, .inl (k.1, 12, .inl (zF dr)))] H := hP
  have hD : va_D A [(h0, .inr (7, [.ref c0])), (c0, .inl (k.1, 132, .inl (zF f))), (h2, .inr (2, [.ref h7, .ref h5, .ref d2])), (h7, .inr (7, [.ref c7])), (c7, .inl (k.1, 132, .inl (zF (cpZ f g 0 0 132)))), (h5, .inr (5, [.ref a5])), (a5, .inl (k.1, 12, .inl (zF o))), (d2, .inl (k.1, 12, .inl (zF dr)))] := hD
  refine lv_aload_n hx hb dX2_run_8 rfl (lv_at hl 0 rfl) ?_
  refine va_get (D := D) (ci := 2) (v := .ref d2) (C := RX2) (T := TX2) (N := 3) hx hb hts hinX2 hown hK.1 hP 2 rfl rfl 2 (by decide) fl25 (fun _ h9 => h9) rfl dX2_run_9 ?_
  refine z_iconst hx hb dX2_run_12 ?_
  refine muS (n := 2) (As := [.ref d2, .int (zI 0)]) (rest := []) hSf (c_fill l D k d2 12 dr 0 (by decide)) gX2_run_J7_fill_53178 rfl (by decide +kernel) ⟨Nat.le_of_ble_eq_true rfl, Nat.le_of_ble_eq_true rfl⟩ hK hP hD hS [7] rfl rfl (by decide) (fun _ => rfl) (fun _ => rfl) rfl hl.1 rfl (Nat.le_of_ble_eq_true rfl) dX2_run_13 ⟨Nat.zero_le _, Nat.zero_le _⟩ (fun u_13 H locs h_13 hP hD hS => ?_)
  have hP : va_P D vwCl [(h0, .inr (7, [.ref c0])), (c0, .inl (k.1, 132, .inl (zF f))), (h2, .inr (2, [.ref h7, .ref h5, .ref d2])), (h7, .inr (7, [.ref c7])), (c7, .inl (k.1, 132, .inl (zF (cpZ f g 0 0 132)))), (h5, .inr (5, [.ref a5])), (a5, .inl (k.1, 12, .inl (zF o))), (d2, .inl (k.1, 12, .inl (zF (fillZ dr 12 0))))] H := hP
  have hD : va_D A [(h0, .inr (7, [.ref c0])), (c0, .inl (k.1, 132, .inl (zF f))), (h2, .inr (2, [.ref h7, .ref h5, .ref d2])), (h7, .inr (7, [.ref c7])), (c7, .inl (k.1, 132, .inl (zF (cpZ f g 0 0 132)))), (h5, .inr (5, [.ref a5])), (a5, .inl (k.1, 12, .inl (zF o))), (d2, .inl (k.1, 12, .inl (zF (fillZ dr 12 0))))] := hD
  refine z_iconst hx hb dX2_run_16 ?_
  refine lv_istore_n (lv' := [(3, .int (zI 0)), (0, .ref h2), (1, .ref h0), (2, .int (zI ((n1 : Nat) : Int)))]) hx hb dX2_run_17 rfl hl (by decide) rfl (fun ls hl => ?_)
  have L18 : ∀ (NN18 : Nat), ∀ (ii : Nat) (oo : Nat → Int) (dd : Nat → Int), (ii ≤ n1) → (∀ t, t < 12 → dd t = ((lefN f ii t : Nat) : Int)) → n1 - ii < NN18 → ∀ (H : Heap) (locs : List Loc), va_P D vwCl [(h0, .inr (7, [.ref c0])), (c0, .inl (k.1, 132, .inl (zF f))), (h2, .inr (2, [.ref h7, .ref h5, .ref d2])), (h7, .inr (7, [.ref c7])), (c7, .inl (k.1, 132, .inl (zF (itZ (cpZ f g 0 0 132) ii)))), (h5, .inr (5, [.ref a5])), (a5, .inl (k.1, 12, .inl (zF oo))), (d2, .inl (k.1, 12, .inl (zF dd)))] H → va_D A [(h0, .inr (7, [.ref c0])), (c0, .inl (k.1, 132, .inl (zF f))), (h2, .inr (2, [.ref h7, .ref h5, .ref d2])), (h7, .inr (7, [.ref c7])), (c7, .inl (k.1, 132, .inl (zF (itZ (cpZ f g 0 0 132) ii)))), (h5, .inr (5, [.ref a5])), (a5, .inl (k.1, 12, .inl (zF oo))), (d2, .inl (k.1, 12, .inl (zF dd)))] → va_S A s.heap H locs → ∀ (ls : Array Slot), lv_has ls 4 [(0, .ref h2), (1, .ref h0), (2, .int (zI ((n1 : Nat) : Int))), (3, .int (zI ((ii : Nat) : Int)))] → W p l e (headSpec wsX2_run { frames := 4, cells := 0, slots := 0, locals := 96 }).room s m ([.ref h2, .ref h0, .int (zI ((n1 : Nat) : Int))] : List Value).toArray below meth c H locs 0 0 (MQ below (va_Qv (fun (u : St × (Nat → Int) × (Nat → Int)) => ∀ t, t < 12 → u.2.2 t = ((lefN f n1 t : Nat) : Int)) (fun (u : St × (Nat → Int) × (Nat → Int)) t => va_P D vwCl [(h0, .inr (7, [.ref c0])), (c0, .inl (k.1, 132, .inl (zF f))), (h2, .inr (2, [.ref h7, .ref h5, .ref d2])), (h7, .inr (7, [.ref c7])), (c7, .inl (k.1, 132, .inl (zF u.1))), (h5, .inr (5, [.ref a5])), (a5, .inl (k.1, 12, .inl (zF u.2.1))), (d2, .inl (k.1, 12, .inl (zF u.2.2)))] t.heap) A) ([.ref h2, .ref h0, .int (zI ((n1 : Nat) : Int))] : List Value).toArray s 0 0 A) (F0 m 18 ls []) := by
    intro NN18
    induction NN18 with
    | zero => intro ii oo dd _ _ hN; exact absurd hN (Nat.not_lt_zero _)
    | succ NN18 ih18 =>
      intro ii oo dd hii hI hN H locs hP hD hS ls hl
      refine lv_iload_n hx hb dX2_run_18 rfl (lv_at hl 3 rfl) ?_
      refine lv_iload_n hx hb dX2_run_19 rfl (lv_at hl 2 rfl) ?_
      refine z_icmp_ge (tgt := 40) hx hb dX2_run_20 (by decide) (by omega) (by omega) (fun c_20 => ?_) (fun c_20 => ?_)
      · obtain rfl : ii = n1 := by omega
        exact W.vret hx hb hr (fun t ht hW => ⟨⟨(itZ (cpZ f g 0 0 132) ii, oo, dd), rfl, hI, by show va_P D vwCl _ _; rw [ht]; exact hP⟩, hS.F ht⟩) hS.2.2 dX2_run_40
      · refine lv_aload_n hx hb dX2_run_23 rfl (lv_at hl 0 rfl) ?_
        refine muV (n := 0) (As := []) (rest := []) hSf (c_countFrame l D k h2 h7 c7 h5 a5 d2 (itZ (cpZ f g 0 0 132) ii) (B + ((ii : Nat) : Int)) (itZ_va hV2 ii) oo dd (by omega)) gX2_run_X2_countFrame rfl (by decide +kernel) ⟨Nat.le_of_ble_eq_true rfl, Nat.le_of_ble_eq_true rfl⟩ hK hP hD hS [2, 3, 4, 5, 6, 7] rfl rfl (by decide) (fun _ => rfl) (fun _ => rfl) 0 rfl rfl rfl hl.1 rfl (Nat.le_of_ble_eq_true rfl) dX2_run_24 ⟨Nat.zero_le _, Nat.zero_le _⟩ (fun u_24 H locs h_24 hP hD hS => ?_)
        have hP : va_P D vwCl [(h0, .inr (7, [.ref c0])), (c0, .inl (k.1, 132, .inl (zF f))), (h2, .inr (2, [.ref h7, .ref h5, .ref d2])), (h7, .inr (7, [.ref c7])), (c7, .inl (k.1, 132, .inl (zF (itZ (cpZ f g 0 0 132) ii)))), (h5, .inr (5, [.ref a5])), (a5, .inl (k.1, 12, .inl (zF u_24.1))), (d2, .inl (k.1, 12, .inl (zF u_24.2)))] H := hP
        have hD : va_D A [(h0, .inr (7, [.ref c0])), (c0, .inl (k.1, 132, .inl (zF f))), (h2, .inr (2, [.ref h7, .ref h5, .ref d2])), (h7, .inr (7, [.ref c7])), (c7, .inl (k.1, 132, .inl (zF (itZ (cpZ f g 0 0 132) ii)))), (h5, .inr (5, [.ref a5])), (a5, .inl (k.1, 12, .inl (zF u_24.1))), (d2, .inl (k.1, 12, .inl (zF u_24.2)))] := hD
        refine lv_aload_n hx hb dX2_run_27 rfl (lv_at hl 0 rfl) ?_
        refine va_get (D := D) (ci := 2) (v := .ref h7) (C := RX2) (T := TX2) (N := 3) hx hb hts hinX2 hown hK.1 hP 2 rfl rfl 0 (by decide) fl12 (fun _ h9 => h9) rfl dX2_run_28 ?_
        refine muV (n := 0) (As := []) (rest := []) hSf (c_goNextFrame l D k h7 c7 (itZ (cpZ f g 0 0 132) ii) (B + ((ii : Nat) : Int)) (itZ_va hV2 ii) (by omega)) gX2_run_X7_goNextFrame rfl (by decide +kernel) ⟨Nat.le_of_ble_eq_true rfl, Nat.le_of_ble_eq_true rfl⟩ hK hP hD hS [3, 4] rfl rfl (by decide) (fun _ => rfl) (fun _ => rfl) 0 rfl rfl rfl hl.1 rfl (Nat.le_of_ble_eq_true rfl) dX2_run_31 ⟨Nat.zero_le _, Nat.zero_le _⟩ (fun u_31 H locs h_31 hP hD hS => ?_)
        have hP : va_P D vwCl [(h0, .inr (7, [.ref c0])), (c0, .inl (k.1, 132, .inl (zF f))), (h2, .inr (2, [.ref h7, .ref h5, .ref d2])), (h7, .inr (7, [.ref c7])), (c7, .inl (k.1, 132, .inl (zF (nextZ (itZ (cpZ f g 0 0 132) ii))))), (h5, .inr (5, [.ref a5])), (a5, .inl (k.1, 12, .inl (zF u_24.1))), (d2, .inl (k.1, 12, .inl (zF u_24.2)))] H := hP
        have hD : va_D A [(h0, .inr (7, [.ref c0])), (c0, .inl (k.1, 132, .inl (zF f))), (h2, .inr (2, [.ref h7, .ref h5, .ref d2])), (h7, .inr (7, [.ref c7])), (c7, .inl (k.1, 132, .inl (zF (nextZ (itZ (cpZ f g 0 0 132) ii))))), (h5, .inr (5, [.ref a5])), (a5, .inl (k.1, 12, .inl (zF u_24.1))), (d2, .inl (k.1, 12, .inl (zF u_24.2)))] := hD
        refine lv_iinc (v := zI (((ii : Nat) : Int) + 1)) (lv' := [(3, .int (zI (((ii : Nat) : Int) + 1))), (0, .ref h2), (1, .ref h0), (2, .int (zI ((n1 : Nat) : Int)))]) hx hb dX2_run_34 hl (k := 3) rfl (zI_add _ _) (by decide) rfl (fun ls hl => ?_)
        refine lv_goto (tgt := 18) hx hb dX2_run_37 (by decide) ?_
        have hl : lv_has ls 4 [(3, .int (zI (((ii + 1) : Nat) : Int))), (0, .ref h2), (1, .ref h0), (2, .int (zI ((n1 : Nat) : Int)))] := lv_c (l1 := []) (l2 := [(0, .ref h2), (1, .ref h0), (2, .int (zI ((n1 : Nat) : Int)))]) hl (show ((ii : Nat) : Int) + 1 = (((ii + 1) : Nat) : Int) from by omega)
        exact ih18 (ii + 1) u_24.1 u_24.2 (by omega) (fun t ht => by rw [h_24 t ht, hI t ht, show lefN f (ii + 1) t = lefN f ii t + cdN (itZ f ii) t from rfl, ← cdN_ag (itZ_ag hag ii)]; omega) (by omega) _ _ hP hD hS ls (lv_sub hl [1, 2, 3, 0] rfl)
  have hl : lv_has ls 4 [(3, .int (zI ((0 : Nat) : Int))), (0, .ref h2), (1, .ref h0), (2, .int (zI ((n1 : Nat) : Int)))] := lv_c (l1 := []) (l2 := [(0, .ref h2), (1, .ref h0), (2, .int (zI ((n1 : Nat) : Int)))]) hl (show 0 = ((0 : Nat) : Int) from rfl)
  exact L18 _ 0 o (fillZ dr 12 0) (Nat.zero_le _) (fun t ht => fillZ_in ht) (Nat.lt_succ_self _) _ _ hP hD hS ls (lv_sub hl [1, 2, 3, 0] rfl)
set_option maxHeartbeats 4000000 in
set_option maxRecDepth 100000 in
theorem c_dropsOf (l : Launch) (D : va_G) (k : Kt) (h2 : Nat) (h7 : Nat) (c7 : Nat) (h5 : Nat) (a5 : Nat) (d2 : Nat) (dr : Nat → Int) (t1 : Nat) (ht1 : t1 < 12) : RO l D k yX2_dropsOf wsX2_dropsOf 0 0 [.ref h2, .int (zI ((t1 : Nat) : Int))] [(h2, .inr (2, [.ref h7, .ref h5, .ref d2])), (d2, .inl (k.1, 12, .inl (zF dr)))] (fun r => r = zI (dr t1)) := by
  refine Met.ofW (cc := cX2_dropsOf) (maxL := 2) (ret := (some .int)) (by decide) rfl ?_
  intro p e s m args below meth c s₁ Bd hml hv
  obtain ⟨rfl, hP, hK⟩ := hv
  have hx := Bd.exec
  have hb := Bd.bytes
  have hr := Bd.returns
  have hts := atoms_spec (ws := wsX2_dropsOf) Bd.pre
  have hown : s.vm.findClass RX2 = some m.cls := findClass_of_methodNamed Bd.named
  have hlocks := Bd.notSynchronized
  have hSf : CallFix p m c cX2_dropsOf 2 s ([.ref h2, .int (zI ((t1 : Nat) : Int))] : List Value).toArray wsX2_dropsOf RX2 := ⟨hx, hb, hml, hown, hts⟩
  have hinX2 : ∀ w ∈ u_ws RX2 TX2 3, w ∈ wsX2_dropsOf := by decide +kernel
  have fl25 := hts (.fieldLink RX2 25 "DotObjects$Forecast" "drops" "[I") (by decide +kernel)
  have hl := lv_entry ([.ref h2, .int (zI ((t1 : Nat) : Int))]) (n := 2) (Nat.le_of_ble_eq_true rfl)
  rw [lg_entry_eq]
  generalize (lg_sl ([.ref h2, .int (zI ((t1 : Nat) : Int))]) ++ List.replicate (2 - (lg_sl ([.ref h2, .int (zI ((t1 : Nat) : Int))])).length) Slot.unset).toArray = ls at hl ⊢
  have hl : lv_has ls 2 [(0, .ref h2), (1, .int (zI ((t1 : Nat) : Int)))] := hl
  refine lv_aload_n hx hb dX2_dropsOf_0 rfl (lv_at hl 0 rfl) ?_
  refine va_get (D := D) (ci := 2) (v := .ref d2) (C := RX2) (T := TX2) (N := 3) hx hb hts hinX2 hown hK.1 hP 0 rfl rfl 2 (by decide) fl25 (fun _ h9 => h9) rfl dX2_dropsOf_1 ?_
  refine lv_iload_n hx hb dX2_dropsOf_4 rfl (lv_at hl 1 rfl) ?_
  refine z_ald hx hb hK hP 1 rfl (t1) (by omega) (by omega) (Nat.le_of_ble_eq_true rfl) dX2_dropsOf_5 ?_
  exact W.iret hx hb hr (fun t ht hW => ⟨_, rfl, rfl, ht⟩) (fun q hq => by cases hq) dX2_dropsOf_6
set_option maxHeartbeats 4000000 in
set_option maxRecDepth 100000 in
theorem c_mostDropped (l : Launch) (D : va_G) (k : Kt) (h2 : Nat) (h7 : Nat) (c7 : Nat) (h5 : Nat) (a5 : Nat) (d2 : Nat) (dr : Nat → Int) (F : Nat → Nat) (hF : ∀ t, t < 12 → dr t = ((F t : Nat) : Int)) (hF2 : ∀ t, F t ≤ 1000) : RO l D k yX2_mostDropped wsX2_mostDropped 0 0 [.ref h2] [(h2, .inr (2, [.ref h7, .ref h5, .ref d2])), (d2, .inl (k.1, 12, .inl (zF dr)))] (fun r => r = zI ((wsT F 12).1)) := by
  refine Met.ofW (cc := cX2_mostDropped) (maxL := 4) (ret := (some .int)) (by decide) rfl ?_
  intro p e s m args below meth c s₁ Bd hml hv
  obtain ⟨rfl, hP, hK⟩ := hv
  have hx := Bd.exec
  have hb := Bd.bytes
  have hr := Bd.returns
  have hts := atoms_spec (ws := wsX2_mostDropped) Bd.pre
  have hown : s.vm.findClass RX2 = some m.cls := findClass_of_methodNamed Bd.named
  have hlocks := Bd.notSynchronized
  have hSf : CallFix p m c cX2_mostDropped 4 s ([.ref h2] : List Value).toArray wsX2_mostDropped RX2 := ⟨hx, hb, hml, hown, hts⟩
  have hinX2 : ∀ w ∈ u_ws RX2 TX2 3, w ∈ wsX2_mostDropped := by decide +kernel
  have fl25 := hts (.fieldLink RX2 25 "DotObjects$Forecast" "drops" "[I") (by decide +kernel)
  have hl := lv_entry ([.ref h2]) (n := 4) (Nat.le_of_ble_eq_true rfl)
  rw [lg_entry_eq]
  generalize (lg_sl ([.ref h2]) ++ List.replicate (4 - (lg_sl ([.ref h2])).length) Slot.unset).toArray = ls at hl ⊢
  have hl : lv_has ls 4 [(0, .ref h2)] := hl
  refine z_iconst hx hb dX2_mostDropped_0 ?_
  refine lv_istore_n (lv' := [(1, .int (zI (-1))), (0, .ref h2)]) hx hb dX2_mostDropped_1 rfl hl (by decide) rfl (fun ls hl => ?_)
  refine z_iconst hx hb dX2_mostDropped_2 ?_
  refine lv_istore_n (lv' := [(2, .int (zI 0)), (1, .int (zI (-1))), (0, .ref h2)]) hx hb dX2_mostDropped_3 rfl hl (by decide) rfl (fun ls hl => ?_)
  refine z_iconst hx hb dX2_mostDropped_4 ?_
  refine lv_istore_n (lv' := [(3, .int (zI 0)), (2, .int (zI 0)), (1, .int (zI (-1))), (0, .ref h2)]) hx hb dX2_mostDropped_5 rfl hl (by decide) rfl (fun ls hl => ?_)
  have L6 : ∀ (NN6 : Nat), ∀ (tt : Nat), (tt ≤ 12) → 12 - tt < NN6 → ∀ (ls : Array Slot), lv_has ls 4 [(0, .ref h2), (1, .int (zI ((wsT F tt).1))), (2, .int (zI (((wsT F tt).2 : Nat) : Int))), (3, .int (zI ((tt : Nat) : Int)))] → W p l e (headSpec wsX2_mostDropped { frames := 0, cells := 0, slots := 0, locals := 0 }).room s m ([.ref h2] : List Value).toArray below meth c s.heap [] 0 0 (MQ below (vp_Si (fun r => r = zI ((wsT F 12).1))) ([.ref h2] : List Value).toArray s 0 0 (fun _ => False)) (F0 m 6 ls []) := by
    intro NN6
    induction NN6 with
    | zero => intro tt _ hN; exact absurd hN (Nat.not_lt_zero _)
    | succ NN6 ih6 =>
      intro tt htt hN ls hl
      refine lv_iload_n hx hb dX2_mostDropped_6 rfl (lv_at hl 3 rfl) ?_
      refine z_bipush hx hb dX2_mostDropped_7 (by decide +kernel) ?_
      refine z_icmp_ge (tgt := 37) hx hb dX2_mostDropped_9 (by decide) (by omega) (by omega) (fun c_9 => ?_) (fun c_9 => ?_)
      · obtain rfl : tt = 12 := by omega
        refine lv_iload_n hx hb dX2_mostDropped_37 rfl (lv_at hl 1 rfl) ?_
        exact W.iret hx hb hr (fun t ht hW => ⟨_, rfl, rfl, ht⟩) (fun q hq => by cases hq) dX2_mostDropped_38
      · have hw1 := wsT_le hF2 tt
        have hw2 := hF2 tt
        refine lv_aload_n hx hb dX2_mostDropped_12 rfl (lv_at hl 0 rfl) ?_
        refine va_get (D := D) (ci := 2) (v := .ref d2) (C := RX2) (T := TX2) (N := 3) hx hb hts hinX2 hown hK.1 hP 0 rfl rfl 2 (by decide) fl25 (fun _ h9 => h9) rfl dX2_mostDropped_13 ?_
        refine lv_iload_n hx hb dX2_mostDropped_16 rfl (lv_at hl 3 rfl) ?_
        refine z_ald hx hb hK hP 1 rfl (tt) (by omega) (by omega) (Nat.le_of_ble_eq_true rfl) dX2_mostDropped_17 ?_
        refine te (zc (show dr tt = ((F tt : Nat) : Int) from hF tt (by omega))) ?_
        refine lv_iload_n hx hb dX2_mostDropped_18 rfl (lv_at hl 2 rfl) ?_
        refine z_icmp_le (tgt := 31) hx hb dX2_mostDropped_19 (by decide) (by omega) (by omega) (fun c_19 => ?_) (fun c_19 => ?_)
        · refine lv_iinc (v := zI (((tt : Nat) : Int) + 1)) (lv' := [(3, .int (zI (((tt : Nat) : Int) + 1))), (0, .ref h2), (1, .int (zI ((wsT F tt).1))), (2, .int (zI (((wsT F tt).2 : Nat) : Int)))]) hx hb dX2_mostDropped_31 hl (k := 3) rfl (zI_add _ _) (by decide) rfl (fun ls hl => ?_)
          refine lv_goto (tgt := 6) hx hb dX2_mostDropped_34 (by decide) ?_
          have hl : lv_has ls 4 [(3, .int (zI (((tt : Nat) : Int) + 1))), (0, .ref h2), (1, .int (zI ((wsT F (tt + 1)).1))), (2, .int (zI (((wsT F tt).2 : Nat) : Int)))] := lv_c (l1 := [(3, .int (zI (((tt : Nat) : Int) + 1))), (0, .ref h2)]) (l2 := [(2, .int (zI (((wsT F tt).2 : Nat) : Int)))]) hl (show (wsT F tt).1 = (wsT F (tt + 1)).1 from by rw [wsT_f (by omega)])
          have hl : lv_has ls 4 [(3, .int (zI (((tt : Nat) : Int) + 1))), (0, .ref h2), (1, .int (zI ((wsT F (tt + 1)).1))), (2, .int (zI (((wsT F (tt + 1)).2 : Nat) : Int)))] := lv_c (l1 := [(3, .int (zI (((tt : Nat) : Int) + 1))), (0, .ref h2), (1, .int (zI ((wsT F (tt + 1)).1)))]) (l2 := []) hl (show (((wsT F tt).2 : Nat) : Int) = (((wsT F (tt + 1)).2 : Nat) : Int) from by rw [wsT_f (by omega)])
          have hl : lv_has ls 4 [(3, .int (zI (((tt + 1) : Nat) : Int))), (0, .ref h2), (1, .int (zI ((wsT F (tt + 1)).1))), (2, .int (zI (((wsT F (tt + 1)).2 : Nat) : Int)))] := lv_c (l1 := []) (l2 := [(0, .ref h2), (1, .int (zI ((wsT F (tt + 1)).1))), (2, .int (zI (((wsT F (tt + 1)).2 : Nat) : Int)))]) hl (show ((tt : Nat) : Int) + 1 = (((tt + 1) : Nat) : Int) from by omega)
          exact ih6 (tt + 1) (by omega) (by omega) ls (lv_sub hl [1, 2, 3, 0] rfl)
        · refine lv_iload_n hx hb dX2_mostDropped_22 rfl (lv_at hl 3 rfl) ?_
          refine lv_istore_n (lv' := [(1, .int (zI ((tt : Nat) : Int))), (0, .ref h2), (2, .int (zI (((wsT F tt).2 : Nat) : Int))), (3, .int (zI ((tt : Nat) : Int)))]) hx hb dX2_mostDropped_23 rfl hl (by decide) rfl (fun ls hl => ?_)
          refine lv_aload_n hx hb dX2_mostDropped_24 rfl (lv_at hl 1 rfl) ?_
          refine va_get (D := D) (ci := 2) (v := .ref d2) (C := RX2) (T := TX2) (N := 3) hx hb hts hinX2 hown hK.1 hP 0 rfl rfl 2 (by decide) fl25 (fun _ h9 => h9) rfl dX2_mostDropped_25 ?_
          refine lv_iload_n hx hb dX2_mostDropped_28 rfl (lv_at hl 3 rfl) ?_
          refine z_ald hx hb hK hP 1 rfl (tt) (by omega) (by omega) (Nat.le_of_ble_eq_true rfl) dX2_mostDropped_29 ?_
          refine te (zc (show dr tt = ((F tt : Nat) : Int) from hF tt (by omega))) ?_
          refine lv_istore_n (lv' := [(2, .int (zI ((F tt : Nat) : Int))), (1, .int (zI ((tt : Nat) : Int))), (0, .ref h2), (3, .int (zI ((tt : Nat) : Int)))]) hx hb dX2_mostDropped_30 rfl hl (by decide) rfl (fun ls hl => ?_)
          refine lv_iinc (v := zI (((tt : Nat) : Int) + 1)) (lv' := [(3, .int (zI (((tt : Nat) : Int) + 1))), (2, .int (zI ((F tt : Nat) : Int))), (1, .int (zI ((tt : Nat) : Int))), (0, .ref h2)]) hx hb dX2_mostDropped_31 hl (k := 3) rfl (zI_add _ _) (by decide) rfl (fun ls hl => ?_)
          refine lv_goto (tgt := 6) hx hb dX2_mostDropped_34 (by decide) ?_
          have hl : lv_has ls 4 [(3, .int (zI (((tt : Nat) : Int) + 1))), (2, .int (zI ((F tt : Nat) : Int))), (1, .int (zI ((wsT F (tt + 1)).1))), (0, .ref h2)] := lv_c (l1 := [(3, .int (zI (((tt : Nat) : Int) + 1))), (2, .int (zI ((F tt : Nat) : Int)))]) (l2 := [(0, .ref h2)]) hl (show ((tt : Nat) : Int) = (wsT F (tt + 1)).1 from by rw [wsT_t (by omega)])
          have hl : lv_has ls 4 [(3, .int (zI (((tt : Nat) : Int) + 1))), (2, .int (zI (((wsT F (tt + 1)).2 : Nat) : Int))), (1, .int (zI ((wsT F (tt + 1)).1))), (0, .ref h2)] := lv_c (l1 := [(3, .int (zI (((tt : Nat) : Int) + 1)))]) (l2 := [(1, .int (zI ((wsT F (tt + 1)).1))), (0, .ref h2)]) hl (show ((F tt : Nat) : Int) = (((wsT F (tt + 1)).2 : Nat) : Int) from by rw [wsT_t (by omega)])
          have hl : lv_has ls 4 [(3, .int (zI (((tt + 1) : Nat) : Int))), (2, .int (zI (((wsT F (tt + 1)).2 : Nat) : Int))), (1, .int (zI ((wsT F (tt + 1)).1))), (0, .ref h2)] := lv_c (l1 := []) (l2 := [(2, .int (zI (((wsT F (tt + 1)).2 : Nat) : Int))), (1, .int (zI ((wsT F (tt + 1)).1))), (0, .ref h2)]) hl (show ((tt : Nat) : Int) + 1 = (((tt + 1) : Nat) : Int) from by omega)
          exact ih6 (tt + 1) (by omega) (by omega) ls (lv_sub hl [3, 2, 1, 0] rfl)
  have hl : lv_has ls 4 [(3, .int (zI 0)), (2, .int (zI 0)), (1, .int (zI ((wsT F 0).1))), (0, .ref h2)] := lv_c (l1 := [(3, .int (zI 0)), (2, .int (zI 0))]) (l2 := [(0, .ref h2)]) hl (show -1 = (wsT F 0).1 from rfl)
  have hl : lv_has ls 4 [(3, .int (zI 0)), (2, .int (zI (((wsT F 0).2 : Nat) : Int))), (1, .int (zI ((wsT F 0).1))), (0, .ref h2)] := lv_c (l1 := [(3, .int (zI 0))]) (l2 := [(1, .int (zI ((wsT F 0).1))), (0, .ref h2)]) hl (show 0 = (((wsT F 0).2 : Nat) : Int) from rfl)
  have hl : lv_has ls 4 [(3, .int (zI ((0 : Nat) : Int))), (2, .int (zI (((wsT F 0).2 : Nat) : Int))), (1, .int (zI ((wsT F 0).1))), (0, .ref h2)] := lv_c (l1 := []) (l2 := [(2, .int (zI (((wsT F 0).2 : Nat) : Int))), (1, .int (zI ((wsT F 0).1))), (0, .ref h2)]) hl (show 0 = ((0 : Nat) : Int) from rfl)
  exact L6 _ 0 (by decide) (Nat.lt_succ_self _) ls (lv_sub hl [3, 2, 1, 0] rfl)
set_option maxHeartbeats 4000000 in
set_option maxRecDepth 100000 in
theorem c_bsize (l : Launch) (D : va_G) (k : Kt) (h3 : Nat) (i3 : Nat) (j3 : Nat) (k3 : Nat) (ba : Nat → Int) (bb : Nat → Int) (bd : Nat → Int) (bn : Nat) : RO l D k yX0_size wsX0_size 0 0 [.ref h3] [(h3, .inr (0, [.ref i3, .ref j3, .ref k3, .int (zI ((bn : Nat) : Int))])), (i3, .inl (k.1, 20, .inl (zF ba))), (j3, .inl (k.1, 20, .inl (zF bb))), (k3, .inl (k.1, 20, .inl (zF bd)))] (fun r => r = zI ((bn : Nat) : Int)) := by
  refine Met.ofW (cc := cX0_size) (maxL := 1) (ret := (some .int)) (by decide) rfl ?_
  intro p e s m args below meth c s₁ Bd hml hv
  obtain ⟨rfl, hP, hK⟩ := hv
  have hx := Bd.exec
  have hb := Bd.bytes
  have hr := Bd.returns
  have hts := atoms_spec (ws := wsX0_size) Bd.pre
  have hown : s.vm.findClass RX0 = some m.cls := findClass_of_methodNamed Bd.named
  have hlocks := Bd.notSynchronized
  have hSf : CallFix p m c cX0_size 1 s ([.ref h3] : List Value).toArray wsX0_size RX0 := ⟨hx, hb, hml, hown, hts⟩
  have hinX0 : ∀ w ∈ u_ws RX0 TX0 4, w ∈ wsX0_size := by decide +kernel
  have fl21 := hts (.fieldLink RX0 21 "DotObjects$Book" "size" "I") (by decide +kernel)
  have hl := lv_entry ([.ref h3]) (n := 1) (Nat.le_of_ble_eq_true rfl)
  rw [lg_entry_eq]
  generalize (lg_sl ([.ref h3]) ++ List.replicate (1 - (lg_sl ([.ref h3])).length) Slot.unset).toArray = ls at hl ⊢
  have hl : lv_has ls 1 [(0, .ref h3)] := hl
  refine lv_aload_n hx hb dX0_size_0 rfl (lv_at hl 0 rfl) ?_
  refine va_get (D := D) (ci := 0) (v := .int (zI ((bn : Nat) : Int))) (C := RX0) (T := TX0) (N := 4) hx hb hts hinX0 hown hK.1 hP 0 rfl rfl 3 (by decide) fl21 (fun _ h9 => h9) rfl dX0_size_1 ?_
  exact W.iret hx hb hr (fun t ht hW => ⟨_, rfl, rfl, ht⟩) (fun q hq => by cases hq) dX0_size_4
set_option maxHeartbeats 4000000 in
set_option maxRecDepth 100000 in
theorem c_bisFull (l : Launch) (D : va_G) (k : Kt) (h3 : Nat) (i3 : Nat) (j3 : Nat) (k3 : Nat) (ba : Nat → Int) (bb : Nat → Int) (bd : Nat → Int) (bn : Nat) (hbn : bn ≤ 20) : RO l D k yX0_isFull wsX0_isFull 0 0 [.ref h3] [(h3, .inr (0, [.ref i3, .ref j3, .ref k3, .int (zI ((bn : Nat) : Int))])), (i3, .inl (k.1, 20, .inl (zF ba))), (j3, .inl (k.1, 20, .inl (zF bb))), (k3, .inl (k.1, 20, .inl (zF bd)))] (fun r => r = zI (b2i (decide (20 ≤ bn)))) := by
  refine Met.ofW (cc := cX0_isFull) (maxL := 1) (ret := (some .boolean)) (by decide) rfl ?_
  intro p e s m args below meth c s₁ Bd hml hv
  obtain ⟨rfl, hP, hK⟩ := hv
  have hx := Bd.exec
  have hb := Bd.bytes
  have hr := Bd.returns
  have hts := atoms_spec (ws := wsX0_isFull) Bd.pre
  have hown : s.vm.findClass RX0 = some m.cls := findClass_of_methodNamed Bd.named
  have hlocks := Bd.notSynchronized
  have hSf : CallFix p m c cX0_isFull 1 s ([.ref h3] : List Value).toArray wsX0_isFull RX0 := ⟨hx, hb, hml, hown, hts⟩
  have hinX0 : ∀ w ∈ u_ws RX0 TX0 4, w ∈ wsX0_isFull := by decide +kernel
  have fl21 := hts (.fieldLink RX0 21 "DotObjects$Book" "size" "I") (by decide +kernel)
  have hl := lv_entry ([.ref h3]) (n := 1) (Nat.le_of_ble_eq_true rfl)
  rw [lg_entry_eq]
  generalize (lg_sl ([.ref h3]) ++ List.replicate (1 - (lg_sl ([.ref h3])).length) Slot.unset).toArray = ls at hl ⊢
  have hl : lv_has ls 1 [(0, .ref h3)] := hl
  refine lv_aload_n hx hb dX0_isFull_0 rfl (lv_at hl 0 rfl) ?_
  refine va_get (D := D) (ci := 0) (v := .int (zI ((bn : Nat) : Int))) (C := RX0) (T := TX0) (N := 4) hx hb hts hinX0 hown hK.1 hP 0 rfl rfl 3 (by decide) fl21 (fun _ h9 => h9) rfl dX0_isFull_1 ?_
  refine z_bipush hx hb dX0_isFull_4 (by decide +kernel) ?_
  refine z_icmp_lt (tgt := 13) hx hb dX0_isFull_6 (by decide) (by omega) (by omega) (fun c_6 => ?_) (fun c_6 => ?_)
  · refine z_iconst hx hb dX0_isFull_13 ?_
    exact W.zret hx hb hr (by decide +kernel) (fun t ht hW => ⟨_, rfl, zc (by simp [b2i]; omega), ht⟩) (fun q hq => by cases hq) dX0_isFull_14
  · refine z_iconst hx hb dX0_isFull_9 ?_
    refine lv_goto (tgt := 14) hx hb dX0_isFull_10 (by decide) ?_
    exact W.zret hx hb hr (by decide +kernel) (fun t ht hW => ⟨_, rfl, zc (by simp [b2i]; omega), ht⟩) (fun q hq => by cases hq) dX0_isFull_14
set_option maxHeartbeats 4000000 in
set_option maxRecDepth 100000 in
theorem c_bclear (l : Launch) (D : va_G) (k : Kt) (h3 : Nat) (i3 : Nat) (j3 : Nat) (k3 : Nat) (ba : Nat → Int) (bb : Nat → Int) (bd : Nat → Int) (bn : Nat) : MU l D k yX0_clear wsX0_clear 0 0 [.ref h3] [(h3, .inr (0, [.ref i3, .ref j3, .ref k3, .int (zI ((bn : Nat) : Int))])), (i3, .inl (k.1, 20, .inl (zF ba))), (j3, .inl (k.1, 20, .inl (zF bb))), (k3, .inl (k.1, 20, .inl (zF bd)))] (fun (u : Unit) => True) (fun u => [(h3, .inr (0, [.ref i3, .ref j3, .ref k3, .int (zI 0)])), (i3, .inl (k.1, 20, .inl (zF ba))), (j3, .inl (k.1, 20, .inl (zF bb))), (k3, .inl (k.1, 20, .inl (zF bd)))]) := by
  refine Met.ofW (cc := cX0_clear) (maxL := 1) (ret := none) (by decide) rfl ?_
  intro p e s m args below meth c s₁ Bd hml hv
  obtain ⟨rfl, hP, hK, hD0⟩ := hv
  have hx := Bd.exec
  have hb := Bd.bytes
  have hr := Bd.returns
  have hts := atoms_spec (ws := wsX0_clear) Bd.pre
  have hown : s.vm.findClass RX0 = some m.cls := findClass_of_methodNamed Bd.named
  have hlocks := Bd.notSynchronized
  have hSf : CallFix p m c cX0_clear 1 s ([.ref h3] : List Value).toArray wsX0_clear RX0 := ⟨hx, hb, hml, hown, hts⟩
  have hD := fA_D hD0
  have hS : va_S (fA [(h3, .inr (0, [.ref i3, .ref j3, .ref k3, .int (zI ((bn : Nat) : Int))])), (i3, .inl (k.1, 20, .inl (zF ba))), (j3, .inl (k.1, 20, .inl (zF bb))), (k3, .inl (k.1, 20, .inl (zF bd)))]) s.heap s.heap [] := va_S.rf
  generalize hAe : fA [(h3, .inr (0, [.ref i3, .ref j3, .ref k3, .int (zI ((bn : Nat) : Int))])), (i3, .inl (k.1, 20, .inl (zF ba))), (j3, .inl (k.1, 20, .inl (zF bb))), (k3, .inl (k.1, 20, .inl (zF bd)))] = A at hD hS ⊢
  have hP : va_P D vwCl [(h3, .inr (0, [.ref i3, .ref j3, .ref k3, .int (zI ((bn : Nat) : Int))])), (i3, .inl (k.1, 20, .inl (zF ba))), (j3, .inl (k.1, 20, .inl (zF bb))), (k3, .inl (k.1, 20, .inl (zF bd)))] s.heap := hP
  have hinX0 : ∀ w ∈ u_ws RX0 TX0 4, w ∈ wsX0_clear := by decide +kernel
  have fl21 := hts (.fieldLink RX0 21 "DotObjects$Book" "size" "I") (by decide +kernel)
  have hl := lv_entry ([.ref h3]) (n := 1) (Nat.le_of_ble_eq_true rfl)
  rw [lg_entry_eq]
  generalize (lg_sl ([.ref h3]) ++ List.replicate (1 - (lg_sl ([.ref h3])).length) Slot.unset).toArray = ls at hl ⊢
  have hl : lv_has ls 1 [(0, .ref h3)] := hl
  refine lv_aload_n hx hb dX0_clear_0 rfl (lv_at hl 0 rfl) ?_
  refine z_iconst hx hb dX0_clear_1 ?_
  refine va_put (D := D) (ci := 0) (v := .int (zI 0)) (ty := .int) (C := RX0) (T := TX0) (N := 4) hx hb hts hinX0 tyX0 tyX0_ok nmX0 hown hK.1 hP hD hS 0 rfl rfl 3 (by decide) fl21 (fun _ h9 => h9) rfl (by decide +kernel) rfl rfl (Nat.le_of_ble_eq_true rfl) dX0_clear_2 (fun H locs hP hD hS => ?_)
  have hP : va_P D vwCl [(h3, .inr (0, [.ref i3, .ref j3, .ref k3, .int (zI 0)])), (i3, .inl (k.1, 20, .inl (zF ba))), (j3, .inl (k.1, 20, .inl (zF bb))), (k3, .inl (k.1, 20, .inl (zF bd)))] H := hP
  have hD : va_D A [(h3, .inr (0, [.ref i3, .ref j3, .ref k3, .int (zI 0)])), (i3, .inl (k.1, 20, .inl (zF ba))), (j3, .inl (k.1, 20, .inl (zF bb))), (k3, .inl (k.1, 20, .inl (zF bd)))] := hD
  exact W.vret hx hb hr (fun t ht hW => ⟨⟨(), rfl, trivial, by show va_P D vwCl _ _; rw [ht]; exact hP⟩, hS.F ht⟩) hS.2.2 dX0_clear_5
set_option maxHeartbeats 4000000 in
set_option maxRecDepth 100000 in
theorem c_badd (l : Launch) (D : va_G) (k : Kt) (h3 : Nat) (i3 : Nat) (j3 : Nat) (k3 : Nat) (ba : Nat → Int) (bb : Nat → Int) (bd : Nat → Int) (bn : Nat) (x1 : Int) (x2 : Int) (x3 : Int) (hbn : bn < 20) : MI l D k yX0_add wsX0_add 0 0 [.ref h3, .int (zI x1), .int (zI x2), .int (zI x3)] [(h3, .inr (0, [.ref i3, .ref j3, .ref k3, .int (zI ((bn : Nat) : Int))])), (i3, .inl (k.1, 20, .inl (zF ba))), (j3, .inl (k.1, 20, .inl (zF bb))), (k3, .inl (k.1, 20, .inl (zF bd)))] (fun (r : Int32) (u : Unit) => r = zI ((bn + 1 : Nat) : Int) ∧ True) (fun u => [(h3, .inr (0, [.ref i3, .ref j3, .ref k3, .int (zI ((bn + 1 : Nat) : Int))])), (i3, .inl (k.1, 20, .inl (zF (upZ ba bn x1)))), (j3, .inl (k.1, 20, .inl (zF (upZ bb bn x2)))), (k3, .inl (k.1, 20, .inl (zF (upZ bd bn x3))))]) := by
  refine Met.ofW (cc := cX0_add) (maxL := 4) (ret := (some .int)) (by decide) rfl ?_
  intro p e s m args below meth c s₁ Bd hml hv
  obtain ⟨rfl, hP, hK, hD0⟩ := hv
  have hx := Bd.exec
  have hb := Bd.bytes
  have hr := Bd.returns
  have hts := atoms_spec (ws := wsX0_add) Bd.pre
  have hown : s.vm.findClass RX0 = some m.cls := findClass_of_methodNamed Bd.named
  have hlocks := Bd.notSynchronized
  have hSf : CallFix p m c cX0_add 4 s ([.ref h3, .int (zI x1), .int (zI x2), .int (zI x3)] : List Value).toArray wsX0_add RX0 := ⟨hx, hb, hml, hown, hts⟩
  have hD := fA_D hD0
  have hS : va_S (fA [(h3, .inr (0, [.ref i3, .ref j3, .ref k3, .int (zI ((bn : Nat) : Int))])), (i3, .inl (k.1, 20, .inl (zF ba))), (j3, .inl (k.1, 20, .inl (zF bb))), (k3, .inl (k.1, 20, .inl (zF bd)))]) s.heap s.heap [] := va_S.rf
  generalize hAe : fA [(h3, .inr (0, [.ref i3, .ref j3, .ref k3, .int (zI ((bn : Nat) : Int))])), (i3, .inl (k.1, 20, .inl (zF ba))), (j3, .inl (k.1, 20, .inl (zF bb))), (k3, .inl (k.1, 20, .inl (zF bd)))] = A at hD hS ⊢
  have hP : va_P D vwCl [(h3, .inr (0, [.ref i3, .ref j3, .ref k3, .int (zI ((bn : Nat) : Int))])), (i3, .inl (k.1, 20, .inl (zF ba))), (j3, .inl (k.1, 20, .inl (zF bb))), (k3, .inl (k.1, 20, .inl (zF bd)))] s.heap := hP
  have hinX0 : ∀ w ∈ u_ws RX0 TX0 4, w ∈ wsX0_add := by decide +kernel
  have fl9 := hts (.fieldLink RX0 9 "DotObjects$Book" "lines" "[I") (by decide +kernel)
  have fl21 := hts (.fieldLink RX0 21 "DotObjects$Book" "size" "I") (by decide +kernel)
  have fl15 := hts (.fieldLink RX0 15 "DotObjects$Book" "columns" "[I") (by decide +kernel)
  have fl18 := hts (.fieldLink RX0 18 "DotObjects$Book" "colours" "[I") (by decide +kernel)
  have hl := lv_entry ([.ref h3, .int (zI x1), .int (zI x2), .int (zI x3)]) (n := 4) (Nat.le_of_ble_eq_true rfl)
  rw [lg_entry_eq]
  generalize (lg_sl ([.ref h3, .int (zI x1), .int (zI x2), .int (zI x3)]) ++ List.replicate (4 - (lg_sl ([.ref h3, .int (zI x1), .int (zI x2), .int (zI x3)])).length) Slot.unset).toArray = ls at hl ⊢
  have hl : lv_has ls 4 [(0, .ref h3), (1, .int (zI x1)), (2, .int (zI x2)), (3, .int (zI x3))] := hl
  refine lv_aload_n hx hb dX0_add_0 rfl (lv_at hl 0 rfl) ?_
  refine va_get (D := D) (ci := 0) (v := .ref i3) (C := RX0) (T := TX0) (N := 4) hx hb hts hinX0 hown hK.1 hP 0 rfl rfl 0 (by decide) fl9 (fun _ h9 => h9) rfl dX0_add_1 ?_
  refine lv_aload_n hx hb dX0_add_4 rfl (lv_at hl 0 rfl) ?_
  refine va_get (D := D) (ci := 0) (v := .int (zI ((bn : Nat) : Int))) (C := RX0) (T := TX0) (N := 4) hx hb hts hinX0 hown hK.1 hP 0 rfl rfl 3 (by decide) fl21 (fun _ h9 => h9) rfl dX0_add_5 ?_
  refine lv_iload_n hx hb dX0_add_8 rfl (lv_at hl 1 rfl) ?_
  refine z_ast hx hb hK hP hD hS 1 rfl (bn) (by omega) (by omega) (Nat.le_of_ble_eq_true rfl) dX0_add_9 (fun H locs hP hD hS => ?_)
  have hP : va_P D vwCl [(h3, .inr (0, [.ref i3, .ref j3, .ref k3, .int (zI ((bn : Nat) : Int))])), (i3, .inl (k.1, 20, .inl (zF (upZ ba bn x1)))), (j3, .inl (k.1, 20, .inl (zF bb))), (k3, .inl (k.1, 20, .inl (zF bd)))] H := hP
  have hD : va_D A [(h3, .inr (0, [.ref i3, .ref j3, .ref k3, .int (zI ((bn : Nat) : Int))])), (i3, .inl (k.1, 20, .inl (zF (upZ ba bn x1)))), (j3, .inl (k.1, 20, .inl (zF bb))), (k3, .inl (k.1, 20, .inl (zF bd)))] := hD
  refine lv_aload_n hx hb dX0_add_10 rfl (lv_at hl 0 rfl) ?_
  refine va_get (D := D) (ci := 0) (v := .ref j3) (C := RX0) (T := TX0) (N := 4) hx hb hts hinX0 hown hK.1 hP 0 rfl rfl 1 (by decide) fl15 (fun _ h9 => h9) rfl dX0_add_11 ?_
  refine lv_aload_n hx hb dX0_add_14 rfl (lv_at hl 0 rfl) ?_
  refine va_get (D := D) (ci := 0) (v := .int (zI ((bn : Nat) : Int))) (C := RX0) (T := TX0) (N := 4) hx hb hts hinX0 hown hK.1 hP 0 rfl rfl 3 (by decide) fl21 (fun _ h9 => h9) rfl dX0_add_15 ?_
  refine lv_iload_n hx hb dX0_add_18 rfl (lv_at hl 2 rfl) ?_
  refine z_ast hx hb hK hP hD hS 2 rfl (bn) (by omega) (by omega) (Nat.le_of_ble_eq_true rfl) dX0_add_19 (fun H locs hP hD hS => ?_)
  have hP : va_P D vwCl [(h3, .inr (0, [.ref i3, .ref j3, .ref k3, .int (zI ((bn : Nat) : Int))])), (i3, .inl (k.1, 20, .inl (zF (upZ ba bn x1)))), (j3, .inl (k.1, 20, .inl (zF (upZ bb bn x2)))), (k3, .inl (k.1, 20, .inl (zF bd)))] H := hP
  have hD : va_D A [(h3, .inr (0, [.ref i3, .ref j3, .ref k3, .int (zI ((bn : Nat) : Int))])), (i3, .inl (k.1, 20, .inl (zF (upZ ba bn x1)))), (j3, .inl (k.1, 20, .inl (zF (upZ bb bn x2)))), (k3, .inl (k.1, 20, .inl (zF bd)))] := hD
  refine lv_aload_n hx hb dX0_add_20 rfl (lv_at hl 0 rfl) ?_
  refine va_get (D := D) (ci := 0) (v := .ref k3) (C := RX0) (T := TX0) (N := 4) hx hb hts hinX0 hown hK.1 hP 0 rfl rfl 2 (by decide) fl18 (fun _ h9 => h9) rfl dX0_add_21 ?_
  refine lv_aload_n hx hb dX0_add_24 rfl (lv_at hl 0 rfl) ?_
  refine va_get (D := D) (ci := 0) (v := .int (zI ((bn : Nat) : Int))) (C := RX0) (T := TX0) (N := 4) hx hb hts hinX0 hown hK.1 hP 0 rfl rfl 3 (by decide) fl21 (fun _ h9 => h9) rfl dX0_add_25 ?_
  refine lv_iload_n hx hb dX0_add_28 rfl (lv_at hl 3 rfl) ?_
  refine z_ast hx hb hK hP hD hS 3 rfl (bn) (by omega) (by omega) (Nat.le_of_ble_eq_true rfl) dX0_add_29 (fun H locs hP hD hS => ?_)
  have hP : va_P D vwCl [(h3, .inr (0, [.ref i3, .ref j3, .ref k3, .int (zI ((bn : Nat) : Int))])), (i3, .inl (k.1, 20, .inl (zF (upZ ba bn x1)))), (j3, .inl (k.1, 20, .inl (zF (upZ bb bn x2)))), (k3, .inl (k.1, 20, .inl (zF (upZ bd bn x3))))] H := hP
  have hD : va_D A [(h3, .inr (0, [.ref i3, .ref j3, .ref k3, .int (zI ((bn : Nat) : Int))])), (i3, .inl (k.1, 20, .inl (zF (upZ ba bn x1)))), (j3, .inl (k.1, 20, .inl (zF (upZ bb bn x2)))), (k3, .inl (k.1, 20, .inl (zF (upZ bd bn x3))))] := hD
  refine lv_aload_n hx hb dX0_add_30 rfl (lv_at hl 0 rfl) ?_
  refine lv_dup hx hb dX0_add_31 rfl ?_
  refine va_get (D := D) (ci := 0) (v := .int (zI ((bn : Nat) : Int))) (C := RX0) (T := TX0) (N := 4) hx hb hts hinX0 hown hK.1 hP 0 rfl rfl 3 (by decide) fl21 (fun _ h9 => h9) rfl dX0_add_32 ?_
  refine z_iconst hx hb dX0_add_35 ?_
  refine z_iadd hx hb dX0_add_36 ?_
  refine te (zc (show ((bn : Nat) : Int) + 1 = ((bn + 1 : Nat) : Int) from by omega)) ?_
  refine va_put (D := D) (ci := 0) (v := .int (zI ((bn + 1 : Nat) : Int))) (ty := .int) (C := RX0) (T := TX0) (N := 4) hx hb hts hinX0 tyX0 tyX0_ok nmX0 hown hK.1 hP hD hS 0 rfl rfl 3 (by decide) fl21 (fun _ h9 => h9) rfl (by decide +kernel) rfl rfl (Nat.le_of_ble_eq_true rfl) dX0_add_37 (fun H locs hP hD hS => ?_)
  have hP : va_P D vwCl [(h3, .inr (0, [.ref i3, .ref j3, .ref k3, .int (zI ((bn + 1 : Nat) : Int))])), (i3, .inl (k.1, 20, .inl (zF (upZ ba bn x1)))), (j3, .inl (k.1, 20, .inl (zF (upZ bb bn x2)))), (k3, .inl (k.1, 20, .inl (zF (upZ bd bn x3))))] H := hP
  have hD : va_D A [(h3, .inr (0, [.ref i3, .ref j3, .ref k3, .int (zI ((bn + 1 : Nat) : Int))])), (i3, .inl (k.1, 20, .inl (zF (upZ ba bn x1)))), (j3, .inl (k.1, 20, .inl (zF (upZ bb bn x2)))), (k3, .inl (k.1, 20, .inl (zF (upZ bd bn x3))))] := hD
  refine lv_aload_n hx hb dX0_add_40 rfl (lv_at hl 0 rfl) ?_
  refine va_get (D := D) (ci := 0) (v := .int (zI ((bn + 1 : Nat) : Int))) (C := RX0) (T := TX0) (N := 4) hx hb hts hinX0 hown hK.1 hP 0 rfl rfl 3 (by decide) fl21 (fun _ h9 => h9) rfl dX0_add_41 ?_
  exact W.iret hx hb hr (fun t ht hW => ⟨⟨_, (), rfl, ⟨rfl, trivial⟩, by show va_P D vwCl _ _; rw [ht]; exact hP⟩, hS.F ht⟩) hS.2.2 dX0_add_44
set_option maxHeartbeats 4000000 in
set_option maxRecDepth 100000 in
theorem c_lineOf (l : Launch) (D : va_G) (k : Kt) (h3 : Nat) (i3 : Nat) (j3 : Nat) (k3 : Nat) (ba : Nat → Int) (bb : Nat → Int) (bd : Nat → Int) (bn : Nat) (j1 : Nat) (hj1 : j1 < 20) : RO l D k yX0_lineOf wsX0_lineOf 0 0 [.ref h3, .int (zI ((j1 : Nat) : Int))] [(h3, .inr (0, [.ref i3, .ref j3, .ref k3, .int (zI ((bn : Nat) : Int))])), (i3, .inl (k.1, 20, .inl (zF ba))), (j3, .inl (k.1, 20, .inl (zF bb))), (k3, .inl (k.1, 20, .inl (zF bd)))] (fun r => r = zI (ba j1)) := by
  refine Met.ofW (cc := cX0_lineOf) (maxL := 2) (ret := (some .int)) (by decide) rfl ?_
  intro p e s m args below meth c s₁ Bd hml hv
  obtain ⟨rfl, hP, hK⟩ := hv
  have hx := Bd.exec
  have hb := Bd.bytes
  have hr := Bd.returns
  have hts := atoms_spec (ws := wsX0_lineOf) Bd.pre
  have hown : s.vm.findClass RX0 = some m.cls := findClass_of_methodNamed Bd.named
  have hlocks := Bd.notSynchronized
  have hSf : CallFix p m c cX0_lineOf 2 s ([.ref h3, .int (zI ((j1 : Nat) : Int))] : List Value).toArray wsX0_lineOf RX0 := ⟨hx, hb, hml, hown, hts⟩
  have hinX0 : ∀ w ∈ u_ws RX0 TX0 4, w ∈ wsX0_lineOf := by decide +kernel
  have fl9 := hts (.fieldLink RX0 9 "DotObjects$Book" "lines" "[I") (by decide +kernel)
  have hl := lv_entry ([.ref h3, .int (zI ((j1 : Nat) : Int))]) (n := 2) (Nat.le_of_ble_eq_true rfl)
  rw [lg_entry_eq]
  generalize (lg_sl ([.ref h3, .int (zI ((j1 : Nat) : Int))]) ++ List.replicate (2 - (lg_sl ([.ref h3, .int (zI ((j1 : Nat) : Int))])).length) Slot.unset).toArray = ls at hl ⊢
  have hl : lv_has ls 2 [(0, .ref h3), (1, .int (zI ((j1 : Nat) : Int)))] := hl
  refine lv_aload_n hx hb dX0_lineOf_0 rfl (lv_at hl 0 rfl) ?_
  refine va_get (D := D) (ci := 0) (v := .ref i3) (C := RX0) (T := TX0) (N := 4) hx hb hts hinX0 hown hK.1 hP 0 rfl rfl 0 (by decide) fl9 (fun _ h9 => h9) rfl dX0_lineOf_1 ?_
  refine lv_iload_n hx hb dX0_lineOf_4 rfl (lv_at hl 1 rfl) ?_
  refine z_ald hx hb hK hP 1 rfl (j1) (by omega) (by omega) (Nat.le_of_ble_eq_true rfl) dX0_lineOf_5 ?_
  exact W.iret hx hb hr (fun t ht hW => ⟨_, rfl, rfl, ht⟩) (fun q hq => by cases hq) dX0_lineOf_6
set_option maxHeartbeats 4000000 in
set_option maxRecDepth 100000 in
theorem c_columnOf (l : Launch) (D : va_G) (k : Kt) (h3 : Nat) (i3 : Nat) (j3 : Nat) (k3 : Nat) (ba : Nat → Int) (bb : Nat → Int) (bd : Nat → Int) (bn : Nat) (j1 : Nat) (hj1 : j1 < 20) : RO l D k yX0_columnOf wsX0_columnOf 0 0 [.ref h3, .int (zI ((j1 : Nat) : Int))] [(h3, .inr (0, [.ref i3, .ref j3, .ref k3, .int (zI ((bn : Nat) : Int))])), (i3, .inl (k.1, 20, .inl (zF ba))), (j3, .inl (k.1, 20, .inl (zF bb))), (k3, .inl (k.1, 20, .inl (zF bd)))] (fun r => r = zI (bb j1)) := by
  refine Met.ofW (cc := cX0_columnOf) (maxL := 2) (ret := (some .int)) (by decide) rfl ?_
  intro p e s m args below meth c s₁ Bd hml hv
  obtain ⟨rfl, hP, hK⟩ := hv
  have hx := Bd.exec
  have hb := Bd.bytes
  have hr := Bd.returns
  have hts := atoms_spec (ws := wsX0_columnOf) Bd.pre
  have hown : s.vm.findClass RX0 = some m.cls := findClass_of_methodNamed Bd.named
  have hlocks := Bd.notSynchronized
  have hSf : CallFix p m c cX0_columnOf 2 s ([.ref h3, .int (zI ((j1 : Nat) : Int))] : List Value).toArray wsX0_columnOf RX0 := ⟨hx, hb, hml, hown, hts⟩
  have hinX0 : ∀ w ∈ u_ws RX0 TX0 4, w ∈ wsX0_columnOf := by decide +kernel
  have fl15 := hts (.fieldLink RX0 15 "DotObjects$Book" "columns" "[I") (by decide +kernel)
  have hl := lv_entry ([.ref h3, .int (zI ((j1 : Nat) : Int))]) (n := 2) (Nat.le_of_ble_eq_true rfl)
  rw [lg_entry_eq]
  generalize (lg_sl ([.ref h3, .int (zI ((j1 : Nat) : Int))]) ++ List.replicate (2 - (lg_sl ([.ref h3, .int (zI ((j1 : Nat) : Int))])).length) Slot.unset).toArray = ls at hl ⊢
  have hl : lv_has ls 2 [(0, .ref h3), (1, .int (zI ((j1 : Nat) : Int)))] := hl
  refine lv_aload_n hx hb dX0_columnOf_0 rfl (lv_at hl 0 rfl) ?_
  refine va_get (D := D) (ci := 0) (v := .ref j3) (C := RX0) (T := TX0) (N := 4) hx hb hts hinX0 hown hK.1 hP 0 rfl rfl 1 (by decide) fl15 (fun _ h9 => h9) rfl dX0_columnOf_1 ?_
  refine lv_iload_n hx hb dX0_columnOf_4 rfl (lv_at hl 1 rfl) ?_
  refine z_ald hx hb hK hP 2 rfl (j1) (by omega) (by omega) (Nat.le_of_ble_eq_true rfl) dX0_columnOf_5 ?_
  exact W.iret hx hb hr (fun t ht hW => ⟨_, rfl, rfl, ht⟩) (fun q hq => by cases hq) dX0_columnOf_6
set_option maxHeartbeats 4000000 in
set_option maxRecDepth 100000 in
theorem c_colourOf (l : Launch) (D : va_G) (k : Kt) (h3 : Nat) (i3 : Nat) (j3 : Nat) (k3 : Nat) (ba : Nat → Int) (bb : Nat → Int) (bd : Nat → Int) (bn : Nat) (j1 : Nat) (hj1 : j1 < 20) : RO l D k yX0_colourOf wsX0_colourOf 0 0 [.ref h3, .int (zI ((j1 : Nat) : Int))] [(h3, .inr (0, [.ref i3, .ref j3, .ref k3, .int (zI ((bn : Nat) : Int))])), (i3, .inl (k.1, 20, .inl (zF ba))), (j3, .inl (k.1, 20, .inl (zF bb))), (k3, .inl (k.1, 20, .inl (zF bd)))] (fun r => r = zI (bd j1)) := by
  refine Met.ofW (cc := cX0_colourOf) (maxL := 2) (ret := (some .int)) (by decide) rfl ?_
  intro p e s m args below meth c s₁ Bd hml hv
  obtain ⟨rfl, hP, hK⟩ := hv
  have hx := Bd.exec
  have hb := Bd.bytes
  have hr := Bd.returns
  have hts := atoms_spec (ws := wsX0_colourOf) Bd.pre
  have hown : s.vm.findClass RX0 = some m.cls := findClass_of_methodNamed Bd.named
  have hlocks := Bd.notSynchronized
  have hSf : CallFix p m c cX0_colourOf 2 s ([.ref h3, .int (zI ((j1 : Nat) : Int))] : List Value).toArray wsX0_colourOf RX0 := ⟨hx, hb, hml, hown, hts⟩
  have hinX0 : ∀ w ∈ u_ws RX0 TX0 4, w ∈ wsX0_colourOf := by decide +kernel
  have fl18 := hts (.fieldLink RX0 18 "DotObjects$Book" "colours" "[I") (by decide +kernel)
  have hl := lv_entry ([.ref h3, .int (zI ((j1 : Nat) : Int))]) (n := 2) (Nat.le_of_ble_eq_true rfl)
  rw [lg_entry_eq]
  generalize (lg_sl ([.ref h3, .int (zI ((j1 : Nat) : Int))]) ++ List.replicate (2 - (lg_sl ([.ref h3, .int (zI ((j1 : Nat) : Int))])).length) Slot.unset).toArray = ls at hl ⊢
  have hl : lv_has ls 2 [(0, .ref h3), (1, .int (zI ((j1 : Nat) : Int)))] := hl
  refine lv_aload_n hx hb dX0_colourOf_0 rfl (lv_at hl 0 rfl) ?_
  refine va_get (D := D) (ci := 0) (v := .ref k3) (C := RX0) (T := TX0) (N := 4) hx hb hts hinX0 hown hK.1 hP 0 rfl rfl 2 (by decide) fl18 (fun _ h9 => h9) rfl dX0_colourOf_1 ?_
  refine lv_iload_n hx hb dX0_colourOf_4 rfl (lv_at hl 1 rfl) ?_
  refine z_ald hx hb hK hP 3 rfl (j1) (by omega) (by omega) (Nat.le_of_ble_eq_true rfl) dX0_colourOf_5 ?_
  exact W.iret hx hb hr (fun t ht hW => ⟨_, rfl, rfl, ht⟩) (fun q hq => by cases hq) dX0_colourOf_6
def nxS (v : Int) : Int := (v * 1103515245 + 12345) % 2147483648
theorem nxS_rg (v : Int) : 0 ≤ nxS v ∧ nxS v < 2147483648 := ⟨Int.emod_nonneg _ (by decide), Int.emod_lt_of_pos _ (by decide)⟩
def nxI (v : Int) : Nat → Int
  | 0 => v
  | j + 1 => nxS (nxI v j)
def dw (v : Int) (j : Nat) (n : Int) : Int := nxI v j / 65536 % n
def dfZ (f : St) (v : Int) : St := addZ f (dw v 1 32) (dw v 2 24) (dw v 3 4) (dw v 4 4) (dw v 5 4) (dw v 6 7 + 1)
set_option maxHeartbeats 4000000 in
set_option maxRecDepth 100000 in
theorem c_value (l : Launch) (D : va_G) (k : Kt) (h1 : Nat) (vd : Int) : RO l D k yX1_value wsX1_value 0 0 [.ref h1] [(h1, .inr (1, [.int (zI vd)]))] (fun r => r = zI vd) := by
  refine Met.ofW (cc := cX1_value) (maxL := 1) (ret := (some .int)) (by decide) rfl ?_
  intro p e s m args below meth c s₁ Bd hml hv
  obtain ⟨rfl, hP, hK⟩ := hv
  have hx := Bd.exec
  have hb := Bd.bytes
  have hr := Bd.returns
  have hts := atoms_spec (ws := wsX1_value) Bd.pre
  have hown : s.vm.findClass RX1 = some m.cls := findClass_of_methodNamed Bd.named
  have hlocks := Bd.notSynchronized
  have hSf : CallFix p m c cX1_value 1 s ([.ref h1] : List Value).toArray wsX1_value RX1 := ⟨hx, hb, hml, hown, hts⟩
  have hinX1 : ∀ w ∈ u_ws RX1 TX1 1, w ∈ wsX1_value := by decide +kernel
  have fl9 := hts (.fieldLink RX1 9 "DotObjects$Draws" "value" "I") (by decide +kernel)
  have hl := lv_entry ([.ref h1]) (n := 1) (Nat.le_of_ble_eq_true rfl)
  rw [lg_entry_eq]
  generalize (lg_sl ([.ref h1]) ++ List.replicate (1 - (lg_sl ([.ref h1])).length) Slot.unset).toArray = ls at hl ⊢
  have hl : lv_has ls 1 [(0, .ref h1)] := hl
  refine lv_aload_n hx hb dX1_value_0 rfl (lv_at hl 0 rfl) ?_
  refine va_get (D := D) (ci := 1) (v := .int (zI vd)) (C := RX1) (T := TX1) (N := 1) hx hb hts hinX1 hown hK.1 hP 0 rfl rfl 0 (by decide) fl9 (fun _ h9 => h9) rfl dX1_value_1 ?_
  exact W.iret hx hb hr (fun t ht hW => ⟨_, rfl, rfl, ht⟩) (fun q hq => by cases hq) dX1_value_4
set_option maxHeartbeats 4000000 in
set_option maxRecDepth 100000 in
theorem c_start (l : Launch) (D : va_G) (k : Kt) (h1 : Nat) (vd : Int) (v1 : Int) : MU l D k yX1_start wsX1_start 0 0 [.ref h1, .int (zI v1)] [(h1, .inr (1, [.int (zI vd)]))] (fun (u : Unit) => True) (fun u => [(h1, .inr (1, [.int (zI v1)]))]) := by
  refine Met.ofW (cc := cX1_start) (maxL := 2) (ret := none) (by decide) rfl ?_
  intro p e s m args below meth c s₁ Bd hml hv
  obtain ⟨rfl, hP, hK, hD0⟩ := hv
  have hx := Bd.exec
  have hb := Bd.bytes
  have hr := Bd.returns
  have hts := atoms_spec (ws := wsX1_start) Bd.pre
  have hown : s.vm.findClass RX1 = some m.cls := findClass_of_methodNamed Bd.named
  have hlocks := Bd.notSynchronized
  have hSf : CallFix p m c cX1_start 2 s ([.ref h1, .int (zI v1)] : List Value).toArray wsX1_start RX1 := ⟨hx, hb, hml, hown, hts⟩
  have hD := fA_D hD0
  have hS : va_S (fA [(h1, .inr (1, [.int (zI vd)]))]) s.heap s.heap [] := va_S.rf
  generalize hAe : fA [(h1, .inr (1, [.int (zI vd)]))] = A at hD hS ⊢
  have hP : va_P D vwCl [(h1, .inr (1, [.int (zI vd)]))] s.heap := hP
  have hinX1 : ∀ w ∈ u_ws RX1 TX1 1, w ∈ wsX1_start := by decide +kernel
  have fl9 := hts (.fieldLink RX1 9 "DotObjects$Draws" "value" "I") (by decide +kernel)
  have hl := lv_entry ([.ref h1, .int (zI v1)]) (n := 2) (Nat.le_of_ble_eq_true rfl)
  rw [lg_entry_eq]
  generalize (lg_sl ([.ref h1, .int (zI v1)]) ++ List.replicate (2 - (lg_sl ([.ref h1, .int (zI v1)])).length) Slot.unset).toArray = ls at hl ⊢
  have hl : lv_has ls 2 [(0, .ref h1), (1, .int (zI v1))] := hl
  refine lv_aload_n hx hb dX1_start_0 rfl (lv_at hl 0 rfl) ?_
  refine lv_iload_n hx hb dX1_start_1 rfl (lv_at hl 1 rfl) ?_
  refine va_put (D := D) (ci := 1) (v := .int (zI v1)) (ty := .int) (C := RX1) (T := TX1) (N := 1) hx hb hts hinX1 tyX1 tyX1_ok nmX1 hown hK.1 hP hD hS 0 rfl rfl 0 (by decide) fl9 (fun _ h9 => h9) rfl (by decide +kernel) rfl rfl (Nat.le_of_ble_eq_true rfl) dX1_start_2 (fun H locs hP hD hS => ?_)
  have hP : va_P D vwCl [(h1, .inr (1, [.int (zI v1)]))] H := hP
  have hD : va_D A [(h1, .inr (1, [.int (zI v1)]))] := hD
  exact W.vret hx hb hr (fun t ht hW => ⟨⟨(), rfl, trivial, by show va_P D vwCl _ _; rw [ht]; exact hP⟩, hS.F ht⟩) hS.2.2 dX1_start_5
set_option maxHeartbeats 4000000 in
set_option maxRecDepth 100000 in
theorem c_below (l : Launch) (D : va_G) (k : Kt) (h1 : Nat) (vd : Int) (hvd : 0 ≤ vd ∧ vd < 2147483648) (n1 : Int) (hn1 : 0 < n1 ∧ n1 < 1000) : MI l D k yX1_below wsX1_below 0 0 [.ref h1, .int (zI n1)] [(h1, .inr (1, [.int (zI vd)]))] (fun (r : Int32) (u : Unit) => r = zI (nxS vd / 65536 % n1) ∧ True) (fun u => [(h1, .inr (1, [.int (zI (nxS vd))]))]) := by
  refine Met.ofW (cc := cX1_below) (maxL := 2) (ret := (some .int)) (by decide) rfl ?_
  intro p e s m args below meth c s₁ Bd hml hv
  obtain ⟨rfl, hP, hK, hD0⟩ := hv
  have hx := Bd.exec
  have hb := Bd.bytes
  have hr := Bd.returns
  have hts := atoms_spec (ws := wsX1_below) Bd.pre
  have hown : s.vm.findClass RX1 = some m.cls := findClass_of_methodNamed Bd.named
  have hlocks := Bd.notSynchronized
  have hSf : CallFix p m c cX1_below 2 s ([.ref h1, .int (zI n1)] : List Value).toArray wsX1_below RX1 := ⟨hx, hb, hml, hown, hts⟩
  have hD := fA_D hD0
  have hS : va_S (fA [(h1, .inr (1, [.int (zI vd)]))]) s.heap s.heap [] := va_S.rf
  generalize hAe : fA [(h1, .inr (1, [.int (zI vd)]))] = A at hD hS ⊢
  have hP : va_P D vwCl [(h1, .inr (1, [.int (zI vd)]))] s.heap := hP
  have hinX1 : ∀ w ∈ u_ws RX1 TX1 1, w ∈ wsX1_below := by decide +kernel
  have fl9 := hts (.fieldLink RX1 9 "DotObjects$Draws" "value" "I") (by decide +kernel)
  have hl := lv_entry ([.ref h1, .int (zI n1)]) (n := 2) (Nat.le_of_ble_eq_true rfl)
  rw [lg_entry_eq]
  generalize (lg_sl ([.ref h1, .int (zI n1)]) ++ List.replicate (2 - (lg_sl ([.ref h1, .int (zI n1)])).length) Slot.unset).toArray = ls at hl ⊢
  have hl : lv_has ls 2 [(0, .ref h1), (1, .int (zI n1))] := hl
  have hs := nxS_rg vd
  refine lv_aload_n hx hb dX1_below_0 rfl (lv_at hl 0 rfl) ?_
  refine lv_aload_n hx hb dX1_below_1 rfl (lv_at hl 0 rfl) ?_
  refine va_get (D := D) (ci := 1) (v := .int (zI vd)) (C := RX1) (T := TX1) (N := 1) hx hb hts hinX1 hown hK.1 hP 0 rfl rfl 0 (by decide) fl9 (fun _ h9 => h9) rfl dX1_below_2 ?_
  refine lv_i2l (v := zL vd) hx hb dX1_below_5 (zI_l (by omega)) ?_
  refine lv_ldc2 hx hb hown (hts (.constantLong RX1 25 (1103515245)) (by decide +kernel)) dX1_below_6 ?_
  refine tel (show (1103515245 : Int64) = zL (1103515245) from by decide +kernel) ?_
  refine lv_lmul hx hb dX1_below_9 (tel (zL_mul _ _) ?_)
  refine lv_ldc2 hx hb hown (hts (.constantLong RX1 27 (12345)) (by decide +kernel)) dX1_below_10 ?_
  refine tel (show (12345 : Int64) = zL (12345) from by decide +kernel) ?_
  refine lv_ladd hx hb dX1_below_13 (tel (zL_add _ _) ?_)
  refine lv_ldc2 hx hb hown (hts (.constantLong RX1 29 (2147483648)) (by decide +kernel)) dX1_below_14 ?_
  refine tel (show (2147483648 : Int64) = zL (2147483648) from by decide +kernel) ?_
  refine lv_lrem hx hb dX1_below_17 (zL_ne0 (by decide) (by decide)) (tel (zL_rem (by omega) (by omega) (by decide) (by decide)) ?_)
  refine lv_l2i (v := zI (((vd * 1103515245) + 12345) % 2147483648)) hx hb dX1_below_18 (zL_i _) ?_
  refine te (zc (show ((vd * 1103515245) + 12345) % 2147483648 = nxS vd from rfl)) ?_
  refine va_put (D := D) (ci := 1) (v := .int (zI (nxS vd))) (ty := .int) (C := RX1) (T := TX1) (N := 1) hx hb hts hinX1 tyX1 tyX1_ok nmX1 hown hK.1 hP hD hS 0 rfl rfl 0 (by decide) fl9 (fun _ h9 => h9) rfl (by decide +kernel) rfl rfl (Nat.le_of_ble_eq_true rfl) dX1_below_19 (fun H locs hP hD hS => ?_)
  have hP : va_P D vwCl [(h1, .inr (1, [.int (zI (nxS vd))]))] H := hP
  have hD : va_D A [(h1, .inr (1, [.int (zI (nxS vd))]))] := hD
  refine lv_iload_n hx hb dX1_below_22 rfl (lv_at hl 1 rfl) ?_
  refine z_if_le (tgt := 38) hx hb dX1_below_23 (by decide) (by omega) (fun c_23 => ?_) (fun c_23 => ?_)
  · exact absurd c_23 (by omega)
  · refine lv_aload_n hx hb dX1_below_26 rfl (lv_at hl 0 rfl) ?_
    refine va_get (D := D) (ci := 1) (v := .int (zI (nxS vd))) (C := RX1) (T := TX1) (N := 1) hx hb hts hinX1 hown hK.1 hP 0 rfl rfl 0 (by decide) fl9 (fun _ h9 => h9) rfl dX1_below_27 ?_
    refine lv_ldc hx hb hown (hts (.constant RX1 31 (65536)) (by decide +kernel)) dX1_below_30 ?_
    refine te (show (65536 : Int32) = zI (65536) from by decide +kernel) ?_
    refine z_idiv hx hb dX1_below_32 (by omega) (by omega) ?_
    refine lv_iload_n hx hb dX1_below_33 rfl (lv_at hl 1 rfl) ?_
    refine z_irem hx hb dX1_below_34 (by omega) (by omega) ?_
    refine lv_goto (tgt := 39) hx hb dX1_below_35 (by decide) ?_
    exact W.iret hx hb hr (fun t ht hW => ⟨⟨_, (), rfl, ⟨rfl, trivial⟩, by show va_P D vwCl _ _; rw [ht]; exact hP⟩, hS.F ht⟩) hS.2.2 dX1_below_39
set_option maxHeartbeats 4000000 in
set_option maxRecDepth 100000 in
theorem c_addThing (l : Launch) (D : va_G) (k : Kt) (h0 : Nat) (c0 : Nat) (f : St) (B : Int) (hV : Va B f) (h1 : Nat) (vd : Int) (hvd : 0 ≤ vd ∧ vd < 2147483648) (hf : nT f < 12) : MU l D k yX1_addThing wsX1_addThing 2 50 [.ref h1, .ref h0] [(h0, .inr (7, [.ref c0])), (c0, .inl (k.1, 132, .inl (zF f))), (h1, .inr (1, [.int (zI vd)]))] (fun (u : Unit) => True) (fun u => [(h0, .inr (7, [.ref c0])), (c0, .inl (k.1, 132, .inl (zF (dfZ f vd)))), (h1, .inr (1, [.int (zI (nxI vd 6))]))]) := by
  refine Met.ofW (cc := cX1_addThing) (maxL := 8) (ret := none) (by decide) rfl ?_
  intro p e s m args below meth c s₁ Bd hml hv
  obtain ⟨rfl, hP, hK, hD0⟩ := hv
  have hx := Bd.exec
  have hb := Bd.bytes
  have hr := Bd.returns
  have hts := atoms_spec (ws := wsX1_addThing) Bd.pre
  have hown : s.vm.findClass RX1 = some m.cls := findClass_of_methodNamed Bd.named
  have hlocks := Bd.notSynchronized
  have hSf : CallFix p m c cX1_addThing 8 s ([.ref h1, .ref h0] : List Value).toArray wsX1_addThing RX1 := ⟨hx, hb, hml, hown, hts⟩
  have hD := fA_D hD0
  have hS : va_S (fA [(h0, .inr (7, [.ref c0])), (c0, .inl (k.1, 132, .inl (zF f))), (h1, .inr (1, [.int (zI vd)]))]) s.heap s.heap [] := va_S.rf
  generalize hAe : fA [(h0, .inr (7, [.ref c0])), (c0, .inl (k.1, 132, .inl (zF f))), (h1, .inr (1, [.int (zI vd)]))] = A at hD hS ⊢
  have hP : va_P D vwCl [(h0, .inr (7, [.ref c0])), (c0, .inl (k.1, 132, .inl (zF f))), (h1, .inr (1, [.int (zI vd)]))] s.heap := hP
  have hl := lv_entry ([.ref h1, .ref h0]) (n := 8) (Nat.le_of_ble_eq_true rfl)
  rw [lg_entry_eq]
  generalize (lg_sl ([.ref h1, .ref h0]) ++ List.replicate (8 - (lg_sl ([.ref h1, .ref h0])).length) Slot.unset).toArray = ls at hl ⊢
  have hl : lv_has ls 8 [(0, .ref h1), (1, .ref h0)] := hl
  refine lv_aload_n hx hb dX1_addThing_0 rfl (lv_at hl 0 rfl) ?_
  refine z_bipush hx hb dX1_addThing_1 (by decide +kernel) ?_
  refine miV (n := 1) (As := [.int (zI 32)]) (rest := []) hSf (c_below l D k h1 vd (by first | exact hvd | exact nxS_rg _) 32 (by omega)) gX1_addThing_X1_below rfl (by decide +kernel) ⟨Nat.le_of_ble_eq_true rfl, Nat.le_of_ble_eq_true rfl⟩ hK hP hD hS [2] rfl rfl (by decide) (fun _ => rfl) (fun _ => rfl) 0 rfl rfl rfl hl.1 rfl (Nat.le_of_ble_eq_true rfl) dX1_addThing_3 ⟨Nat.zero_le _, Nat.zero_le _⟩ (fun r_3 u_3 H locs h_3 hP hD hS => ?_)
  have hP : va_P D vwCl [(h0, .inr (7, [.ref c0])), (c0, .inl (k.1, 132, .inl (zF f))), (h1, .inr (1, [.int (zI (nxS vd))]))] H := hP
  have hD : va_D A [(h0, .inr (7, [.ref c0])), (c0, .inl (k.1, 132, .inl (zF f))), (h1, .inr (1, [.int (zI (nxS vd))]))] := hD
  obtain ⟨he_3, h_3⟩ := h_3
  subst he_3
  refine lv_istore_n (lv' := [(2, .int (zI (nxS vd / 65536 % 32))), (0, .ref h1), (1, .ref h0)]) hx hb dX1_addThing_6 rfl hl (by decide) rfl (fun ls hl => ?_)
  refine lv_aload_n hx hb dX1_addThing_7 rfl (lv_at hl 1 rfl) ?_
  refine z_bipush hx hb dX1_addThing_8 (by decide +kernel) ?_
  refine miV (n := 1) (As := [.int (zI 24)]) (rest := []) hSf (c_below l D k h1 (nxS vd) (by first | exact hvd | exact nxS_rg _) 24 (by omega)) gX1_addThing_X1_below rfl (by decide +kernel) ⟨Nat.le_of_ble_eq_true rfl, Nat.le_of_ble_eq_true rfl⟩ hK hP hD hS [2] rfl rfl (by decide) (fun _ => rfl) (fun _ => rfl) 0 rfl rfl rfl hl.1 rfl (Nat.le_of_ble_eq_true rfl) dX1_addThing_10 ⟨Nat.zero_le _, Nat.zero_le _⟩ (fun r_10 u_10 H locs h_10 hP hD hS => ?_)
  have hP : va_P D vwCl [(h0, .inr (7, [.ref c0])), (c0, .inl (k.1, 132, .inl (zF f))), (h1, .inr (1, [.int (zI (nxS (nxS vd)))]))] H := hP
  have hD : va_D A [(h0, .inr (7, [.ref c0])), (c0, .inl (k.1, 132, .inl (zF f))), (h1, .inr (1, [.int (zI (nxS (nxS vd)))]))] := hD
  obtain ⟨he_10, h_10⟩ := h_10
  subst he_10
  refine lv_istore_n (lv' := [(3, .int (zI (nxS (nxS vd) / 65536 % 24))), (2, .int (zI (nxS vd / 65536 % 32))), (0, .ref h1), (1, .ref h0)]) hx hb dX1_addThing_13 rfl hl (by decide) rfl (fun ls hl => ?_)
  refine lv_aload_n hx hb dX1_addThing_14 rfl (lv_at hl 2 rfl) ?_
  refine z_iconst hx hb dX1_addThing_15 ?_
  refine miV (n := 1) (As := [.int (zI 4)]) (rest := []) hSf (c_below l D k h1 (nxS (nxS vd)) (by first | exact hvd | exact nxS_rg _) 4 (by omega)) gX1_addThing_X1_below rfl (by decide +kernel) ⟨Nat.le_of_ble_eq_true rfl, Nat.le_of_ble_eq_true rfl⟩ hK hP hD hS [2] rfl rfl (by decide) (fun _ => rfl) (fun _ => rfl) 0 rfl rfl rfl hl.1 rfl (Nat.le_of_ble_eq_true rfl) dX1_addThing_16 ⟨Nat.zero_le _, Nat.zero_le _⟩ (fun r_16 u_16 H locs h_16 hP hD hS => ?_)
  have hP : va_P D vwCl [(h0, .inr (7, [.ref c0])), (c0, .inl (k.1, 132, .inl (zF f))), (h1, .inr (1, [.int (zI (nxS (nxS (nxS vd))))]))] H := hP
  have hD : va_D A [(h0, .inr (7, [.ref c0])), (c0, .inl (k.1, 132, .inl (zF f))), (h1, .inr (1, [.int (zI (nxS (nxS (nxS vd))))]))] := hD
  obtain ⟨he_16, h_16⟩ := h_16
  subst he_16
  refine lv_istore (lv' := [(4, .int (zI (nxS (nxS (nxS vd)) / 65536 % 4))), (3, .int (zI (nxS (nxS vd) / 65536 % 24))), (2, .int (zI (nxS vd / 65536 % 32))), (0, .ref h1), (1, .ref h0)]) hx hb dX1_addThing_19 hl (by decide) rfl (fun ls hl => ?_)
  refine lv_aload_n hx hb dX1_addThing_21 rfl (lv_at hl 3 rfl) ?_
  refine z_iconst hx hb dX1_addThing_22 ?_
  refine miV (n := 1) (As := [.int (zI 4)]) (rest := []) hSf (c_below l D k h1 (nxS (nxS (nxS vd))) (by first | exact hvd | exact nxS_rg _) 4 (by omega)) gX1_addThing_X1_below rfl (by decide +kernel) ⟨Nat.le_of_ble_eq_true rfl, Nat.le_of_ble_eq_true rfl⟩ hK hP hD hS [2] rfl rfl (by decide) (fun _ => rfl) (fun _ => rfl) 0 rfl rfl rfl hl.1 rfl (Nat.le_of_ble_eq_true rfl) dX1_addThing_23 ⟨Nat.zero_le _, Nat.zero_le _⟩ (fun r_23 u_23 H locs h_23 hP hD hS => ?_)
  have hP : va_P D vwCl [(h0, .inr (7, [.ref c0])), (c0, .inl (k.1, 132, .inl (zF f))), (h1, .inr (1, [.int (zI (nxS (nxS (nxS (nxS vd)))))]))] H := hP
  have hD : va_D A [(h0, .inr (7, [.ref c0])), (c0, .inl (k.1, 132, .inl (zF f))), (h1, .inr (1, [.int (zI (nxS (nxS (nxS (nxS vd)))))]))] := hD
  obtain ⟨he_23, h_23⟩ := h_23
  subst he_23
  refine lv_istore (lv' := [(5, .int (zI (nxS (nxS (nxS (nxS vd))) / 65536 % 4))), (4, .int (zI (nxS (nxS (nxS vd)) / 65536 % 4))), (3, .int (zI (nxS (nxS vd) / 65536 % 24))), (2, .int (zI (nxS vd / 65536 % 32))), (0, .ref h1), (1, .ref h0)]) hx hb dX1_addThing_26 hl (by decide) rfl (fun ls hl => ?_)
  refine lv_aload_n hx hb dX1_addThing_28 rfl (lv_at hl 4 rfl) ?_
  refine z_iconst hx hb dX1_addThing_29 ?_
  refine miV (n := 1) (As := [.int (zI 4)]) (rest := []) hSf (c_below l D k h1 (nxS (nxS (nxS (nxS vd)))) (by first | exact hvd | exact nxS_rg _) 4 (by omega)) gX1_addThing_X1_below rfl (by decide +kernel) ⟨Nat.le_of_ble_eq_true rfl, Nat.le_of_ble_eq_true rfl⟩ hK hP hD hS [2] rfl rfl (by decide) (fun _ => rfl) (fun _ => rfl) 0 rfl rfl rfl hl.1 rfl (Nat.le_of_ble_eq_true rfl) dX1_addThing_30 ⟨Nat.zero_le _, Nat.zero_le _⟩ (fun r_30 u_30 H locs h_30 hP hD hS => ?_)
  have hP : va_P D vwCl [(h0, .inr (7, [.ref c0])), (c0, .inl (k.1, 132, .inl (zF f))), (h1, .inr (1, [.int (zI (nxS (nxS (nxS (nxS (nxS vd))))))]))] H := hP
  have hD : va_D A [(h0, .inr (7, [.ref c0])), (c0, .inl (k.1, 132, .inl (zF f))), (h1, .inr (1, [.int (zI (nxS (nxS (nxS (nxS (nxS vd))))))]))] := hD
  obtain ⟨he_30, h_30⟩ := h_30
  subst he_30
  refine lv_istore (lv' := [(6, .int (zI (nxS (nxS (nxS (nxS (nxS vd)))) / 65536 % 4))), (5, .int (zI (nxS (nxS (nxS (nxS vd))) / 65536 % 4))), (4, .int (zI (nxS (nxS (nxS vd)) / 65536 % 4))), (3, .int (zI (nxS (nxS vd) / 65536 % 24))), (2, .int (zI (nxS vd / 65536 % 32))), (0, .ref h1), (1, .ref h0)]) hx hb dX1_addThing_33 hl (by decide) rfl (fun ls hl => ?_)
  refine lv_aload_n hx hb dX1_addThing_35 rfl (lv_at hl 5 rfl) ?_
  refine z_bipush hx hb dX1_addThing_36 (by decide +kernel) ?_
  refine miV (n := 1) (As := [.int (zI 7)]) (rest := []) hSf (c_below l D k h1 (nxS (nxS (nxS (nxS (nxS vd))))) (by first | exact hvd | exact nxS_rg _) 7 (by omega)) gX1_addThing_X1_below rfl (by decide +kernel) ⟨Nat.le_of_ble_eq_true rfl, Nat.le_of_ble_eq_true rfl⟩ hK hP hD hS [2] rfl rfl (by decide) (fun _ => rfl) (fun _ => rfl) 0 rfl rfl rfl hl.1 rfl (Nat.le_of_ble_eq_true rfl) dX1_addThing_38 ⟨Nat.zero_le _, Nat.zero_le _⟩ (fun r_38 u_38 H locs h_38 hP hD hS => ?_)
  have hP : va_P D vwCl [(h0, .inr (7, [.ref c0])), (c0, .inl (k.1, 132, .inl (zF f))), (h1, .inr (1, [.int (zI (nxS (nxS (nxS (nxS (nxS (nxS vd)))))))]))] H := hP
  have hD : va_D A [(h0, .inr (7, [.ref c0])), (c0, .inl (k.1, 132, .inl (zF f))), (h1, .inr (1, [.int (zI (nxS (nxS (nxS (nxS (nxS (nxS vd)))))))]))] := hD
  obtain ⟨he_38, h_38⟩ := h_38
  subst he_38
  refine z_iconst hx hb dX1_addThing_41 ?_
  refine z_iadd hx hb dX1_addThing_42 ?_
  refine lv_istore (lv' := [(7, .int (zI ((nxS (nxS (nxS (nxS (nxS (nxS vd))))) / 65536 % 7) + 1))), (6, .int (zI (nxS (nxS (nxS (nxS (nxS vd)))) / 65536 % 4))), (5, .int (zI (nxS (nxS (nxS (nxS vd))) / 65536 % 4))), (4, .int (zI (nxS (nxS (nxS vd)) / 65536 % 4))), (3, .int (zI (nxS (nxS vd) / 65536 % 24))), (2, .int (zI (nxS vd / 65536 % 32))), (0, .ref h1), (1, .ref h0)]) hx hb dX1_addThing_43 hl (by decide) rfl (fun ls hl => ?_)
  refine lv_aload_n hx hb dX1_addThing_45 rfl (lv_at hl 7 rfl) ?_
  refine lv_iload_n hx hb dX1_addThing_46 rfl (lv_at hl 5 rfl) ?_
  refine lv_iload_n hx hb dX1_addThing_47 rfl (lv_at hl 4 rfl) ?_
  refine lv_iload hx hb dX1_addThing_48 (lv_at hl 3 rfl) ?_
  refine lv_iload hx hb dX1_addThing_50 (lv_at hl 2 rfl) ?_
  refine lv_iload hx hb dX1_addThing_52 (lv_at hl 1 rfl) ?_
  refine lv_iload hx hb dX1_addThing_54 (lv_at hl 0 rfl) ?_
  refine miV (n := 6) (As := [.int (zI (nxS vd / 65536 % 32)), .int (zI (nxS (nxS vd) / 65536 % 24)), .int (zI (nxS (nxS (nxS vd)) / 65536 % 4)), .int (zI (nxS (nxS (nxS (nxS vd))) / 65536 % 4)), .int (zI (nxS (nxS (nxS (nxS (nxS vd)))) / 65536 % 4)), .int (zI ((nxS (nxS (nxS (nxS (nxS (nxS vd))))) / 65536 % 7) + 1))]) (rest := []) hSf (c_add l D k h0 c0 f B hV (nxS vd / 65536 % 32) (nxS (nxS vd) / 65536 % 24) (nxS (nxS (nxS vd)) / 65536 % 4) (nxS (nxS (nxS (nxS vd))) / 65536 % 4) (nxS (nxS (nxS (nxS (nxS vd)))) / 65536 % 4) ((nxS (nxS (nxS (nxS (nxS (nxS vd))))) / 65536 % 7) + 1) hf) gX1_addThing_X7_add rfl (by decide +kernel) ⟨Nat.le_of_ble_eq_true rfl, Nat.le_of_ble_eq_true rfl⟩ hK hP hD hS [0, 1] rfl rfl (by decide) (fun _ => rfl) (fun _ => rfl) 0 rfl rfl rfl hl.1 rfl (Nat.le_of_ble_eq_true rfl) dX1_addThing_56 ⟨Nat.zero_le _, Nat.zero_le _⟩ (fun r_56 u_56 H locs h_56 hP hD hS => ?_)
  have hP : va_P D vwCl [(h0, .inr (7, [.ref c0])), (c0, .inl (k.1, 132, .inl (zF (addZ f (nxS vd / 65536 % 32) (nxS (nxS vd) / 65536 % 24) (nxS (nxS (nxS vd)) / 65536 % 4) (nxS (nxS (nxS (nxS vd))) / 65536 % 4) (nxS (nxS (nxS (nxS (nxS vd)))) / 65536 % 4) ((nxS (nxS (nxS (nxS (nxS (nxS vd))))) / 65536 % 7) + 1))))), (h1, .inr (1, [.int (zI (nxS (nxS (nxS (nxS (nxS (nxS vd)))))))]))] H := hP
  have hD : va_D A [(h0, .inr (7, [.ref c0])), (c0, .inl (k.1, 132, .inl (zF (addZ f (nxS vd / 65536 % 32) (nxS (nxS vd) / 65536 % 24) (nxS (nxS (nxS vd)) / 65536 % 4) (nxS (nxS (nxS (nxS vd))) / 65536 % 4) (nxS (nxS (nxS (nxS (nxS vd)))) / 65536 % 4) ((nxS (nxS (nxS (nxS (nxS (nxS vd))))) / 65536 % 7) + 1))))), (h1, .inr (1, [.int (zI (nxS (nxS (nxS (nxS (nxS (nxS vd)))))))]))] := hD
  obtain ⟨he_56, h_56⟩ := h_56
  subst he_56
  refine lv_pop hx hb dX1_addThing_59 rfl ?_
  exact W.vret hx hb hr (fun t ht hW => ⟨⟨(), rfl, trivial, by show va_P D vwCl _ _; rw [ht]; exact hP⟩, hS.F ht⟩) hS.2.2 dX1_addThing_60
