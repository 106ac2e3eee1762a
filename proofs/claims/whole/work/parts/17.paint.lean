set_option maxHeartbeats 4000000 in
set_option maxRecDepth 100000 in
theorem c_paintBehind (l : Launch) (D : va_G) (k : Kt) (h6 : Nat) (s6 : Nat) (p6 : Nat) (sn : Nat → Nat) (pn : Nat → Nat) (fl : Nat) (t1 : Nat) (dd : Nat) (co : Nat) (ht1 : t1 < 12) (hfl : fl < 4294967296) (hco : co < 8) : MU l D k yX6_paintBehind wsX6_paintBehind 1 21 [.ref h6, .int (zI ((t1 : Nat) : Int)), .int (zI ((dd : Nat) : Int)), .int (zI ((co : Nat) : Int))] [(h6, .inr (6, [.ref s6, .ref p6, .int (zI ((fl : Nat) : Int))])), (s6, .inl (k.1, 12, .inl (zF (nF sn)))), (p6, .inl (k.1, 3, .inl (zF (nF pn))))] (fun (u : Unit) => True) (fun u => [(h6, .inr (6, [.ref s6, .ref p6, .int (zI ((fl ||| dd : Nat) : Int))])), (s6, .inl (k.1, 12, .inl (zF (nF (upN sn t1 (dd &&& (2 ^ 32 - (fl + 1)))))))), (p6, .inl (k.1, 3, .inl (zF (nF (plJ pn co (dd &&& (2 ^ 32 - (fl + 1))) 3)))))]) := by
  refine Met.ofW (cc := cX6_paintBehind) (maxL := 5) (ret := none) (by decide) rfl ?_
  intro p e s m args below meth c s₁ Bd hml hv
  obtain ⟨rfl, hP, hK, hD0⟩ := hv
  have hx := Bd.exec
  have hb := Bd.bytes
  have hr := Bd.returns
  have hts := atoms_spec (ws := wsX6_paintBehind) Bd.pre
  have hown : s.vm.findClass RX6 = some m.cls := findClass_of_methodNamed Bd.named
  have hlocks := Bd.notSynchronized
  have hSf : CallFix p m c cX6_paintBehind 5 s ([.ref h6, .int (zI ((t1 : Nat) : Int)), .int (zI ((dd : Nat) : Int)), .int (zI ((co : Nat) : Int))] : List Value).toArray wsX6_paintBehind RX6 := ⟨hx, hb, hml, hown, hts⟩
  have hD := fA_D hD0
  have hS : va_S (fA [(h6, .inr (6, [.ref s6, .ref p6, .int (zI ((fl : Nat) : Int))])), (s6, .inl (k.1, 12, .inl (zF (nF sn)))), (p6, .inl (k.1, 3, .inl (zF (nF pn))))]) s.heap s.heap [] := va_S.rf
  generalize hAe : fA [(h6, .inr (6, [.ref s6, .ref p6, .int (zI ((fl : Nat) : Int))])), (s6, .inl (k.1, 12, .inl (zF (nF sn)))), (p6, .inl (k.1, 3, .inl (zF (nF pn))))] = A at hD hS ⊢
  have hP : va_P D vwCl [(h6, .inr (6, [.ref s6, .ref p6, .int (zI ((fl : Nat) : Int))])), (s6, .inl (k.1, 12, .inl (zF (nF sn)))), (p6, .inl (k.1, 3, .inl (zF (nF pn))))] s.heap := hP
  have hinX6 : ∀ w ∈ u_ws RX6 TX6 3, w ∈ wsX6_paintBehind := by decide +kernel
  have fl9 := hts (.fieldLink RX6 9 "DotObjects$PaintedLine" "seen" "[I") (by decide +kernel)
  have fl24 := hts (.fieldLink RX6 24 "DotObjects$PaintedLine" "filled" "I") (by decide +kernel)
  have fl15 := hts (.fieldLink RX6 15 "DotObjects$PaintedLine" "planes" "[I") (by decide +kernel)
  have hl := lv_entry ([.ref h6, .int (zI ((t1 : Nat) : Int)), .int (zI ((dd : Nat) : Int)), .int (zI ((co : Nat) : Int))]) (n := 5) (Nat.le_of_ble_eq_true rfl)
  rw [lg_entry_eq]
  generalize (lg_sl ([.ref h6, .int (zI ((t1 : Nat) : Int)), .int (zI ((dd : Nat) : Int)), .int (zI ((co : Nat) : Int))]) ++ List.replicate (5 - (lg_sl ([.ref h6, .int (zI ((t1 : Nat) : Int)), .int (zI ((dd : Nat) : Int)), .int (zI ((co : Nat) : Int))])).length) Slot.unset).toArray = ls at hl ⊢
  have hl : lv_has ls 5 [(0, .ref h6), (1, .int (zI ((t1 : Nat) : Int))), (2, .int (zI ((dd : Nat) : Int))), (3, .int (zI ((co : Nat) : Int)))] := hl
  refine lv_aload_n hx hb dX6_paintBehind_0 rfl (lv_at hl 0 rfl) ?_
  refine va_get (D := D) (ci := 6) (v := .ref s6) (C := RX6) (T := TX6) (N := 3) hx hb hts hinX6 hown hK.1 hP 0 rfl rfl 0 (by decide) fl9 (fun _ h9 => h9) rfl dX6_paintBehind_1 ?_
  refine lv_iload_n hx hb dX6_paintBehind_4 rfl (lv_at hl 1 rfl) ?_
  refine lv_iload_n hx hb dX6_paintBehind_5 rfl (lv_at hl 2 rfl) ?_
  refine lv_aload_n hx hb dX6_paintBehind_6 rfl (lv_at hl 0 rfl) ?_
  refine va_get (D := D) (ci := 6) (v := .int (zI ((fl : Nat) : Int))) (C := RX6) (T := TX6) (N := 3) hx hb hts hinX6 hown hK.1 hP 0 rfl rfl 2 (by decide) fl24 (fun _ h9 => h9) rfl dX6_paintBehind_7 ?_
  refine z_iconst hx hb dX6_paintBehind_10 ?_
  refine z_not hx hb dX6_paintBehind_11 (fl) (by omega) (by omega) ?_
  refine z_iand hx hb dX6_paintBehind_12 (dd) (2 ^ 32 - (fl + 1)) (by omega) (by omega) ?_
  refine z_ast hx hb hK hP hD hS 1 rfl (t1) (by omega) (by omega) (Nat.le_of_ble_eq_true rfl) dX6_paintBehind_13 (fun H locs hP hD hS => ?_)
  have hP : va_P D vwCl [(h6, .inr (6, [.ref s6, .ref p6, .int (zI ((fl : Nat) : Int))])), (s6, .inl (k.1, 12, .inl (zF (upZ (nF sn) t1 ((dd &&& (2 ^ 32 - (fl + 1)) : Nat) : Int))))), (p6, .inl (k.1, 3, .inl (zF (nF pn))))] H := hP
  have hD : va_D A [(h6, .inr (6, [.ref s6, .ref p6, .int (zI ((fl : Nat) : Int))])), (s6, .inl (k.1, 12, .inl (zF (upZ (nF sn) t1 ((dd &&& (2 ^ 32 - (fl + 1)) : Nat) : Int))))), (p6, .inl (k.1, 3, .inl (zF (nF pn))))] := hD
  rw [show upZ (nF sn) t1 ((dd &&& (2 ^ 32 - (fl + 1)) : Nat) : Int) = nF (upN sn t1 (dd &&& (2 ^ 32 - (fl + 1)))) from nF_up _ _ _] at hP hD
  refine lv_aload_n hx hb dX6_paintBehind_14 rfl (lv_at hl 0 rfl) ?_
  refine lv_dup hx hb dX6_paintBehind_15 rfl ?_
  refine va_get (D := D) (ci := 6) (v := .int (zI ((fl : Nat) : Int))) (C := RX6) (T := TX6) (N := 3) hx hb hts hinX6 hown hK.1 hP 0 rfl rfl 2 (by decide) fl24 (fun _ h9 => h9) rfl dX6_paintBehind_16 ?_
  refine lv_iload_n hx hb dX6_paintBehind_19 rfl (lv_at hl 2 rfl) ?_
  refine z_ior hx hb dX6_paintBehind_20 (fl) (dd) (by omega) (by omega) ?_
  refine va_put (D := D) (ci := 6) (v := .int (zI ((fl ||| dd : Nat) : Int))) (ty := .int) (C := RX6) (T := TX6) (N := 3) hx hb hts hinX6 tyX6 tyX6_ok nmX6 hown hK.1 hP hD hS 0 rfl rfl 2 (by decide) fl24 (fun _ h9 => h9) rfl (by decide +kernel) rfl rfl (Nat.le_of_ble_eq_true rfl) dX6_paintBehind_21 (fun H locs hP hD hS => ?_)
  have hP : va_P D vwCl [(h6, .inr (6, [.ref s6, .ref p6, .int (zI ((fl ||| dd : Nat) : Int))])), (s6, .inl (k.1, 12, .inl (zF (nF (upN sn t1 (dd &&& (2 ^ 32 - (fl + 1)))))))), (p6, .inl (k.1, 3, .inl (zF (nF pn))))] H := hP
  have hD : va_D A [(h6, .inr (6, [.ref s6, .ref p6, .int (zI ((fl ||| dd : Nat) : Int))])), (s6, .inl (k.1, 12, .inl (zF (nF (upN sn t1 (dd &&& (2 ^ 32 - (fl + 1)))))))), (p6, .inl (k.1, 3, .inl (zF (nF pn))))] := hD
  refine z_iconst hx hb dX6_paintBehind_24 ?_
  refine lv_istore (lv' := [(4, .int (zI 0)), (0, .ref h6), (1, .int (zI ((t1 : Nat) : Int))), (2, .int (zI ((dd : Nat) : Int))), (3, .int (zI ((co : Nat) : Int)))]) hx hb dX6_paintBehind_25 hl (by decide) rfl (fun ls hl => ?_)
  have L27 : ∀ (NN27 : Nat), ∀ (jj : Nat), (jj ≤ 3) → 3 - jj < NN27 → ∀ (H : Heap) (locs : List Loc), va_P D vwCl [(h6, .inr (6, [.ref s6, .ref p6, .int (zI ((fl ||| dd : Nat) : Int))])), (s6, .inl (k.1, 12, .inl (zF (nF (upN sn t1 (dd &&& (2 ^ 32 - (fl + 1)))))))), (p6, .inl (k.1, 3, .inl (zF (nF (plJ pn co (dd &&& (2 ^ 32 - (fl + 1))) jj)))))] H → va_D A [(h6, .inr (6, [.ref s6, .ref p6, .int (zI ((fl ||| dd : Nat) : Int))])), (s6, .inl (k.1, 12, .inl (zF (nF (upN sn t1 (dd &&& (2 ^ 32 - (fl + 1)))))))), (p6, .inl (k.1, 3, .inl (zF (nF (plJ pn co (dd &&& (2 ^ 32 - (fl + 1))) jj)))))] → va_S A s.heap H locs → ∀ (ls : Array Slot), lv_has ls 5 [(0, .ref h6), (1, .int (zI ((t1 : Nat) : Int))), (2, .int (zI ((dd : Nat) : Int))), (3, .int (zI ((co : Nat) : Int))), (4, .int (zI ((jj : Nat) : Int)))] → W p l e (headSpec wsX6_paintBehind { frames := 1, cells := 0, slots := 0, locals := 21 }).room s m ([.ref h6, .int (zI ((t1 : Nat) : Int)), .int (zI ((dd : Nat) : Int)), .int (zI ((co : Nat) : Int))] : List Value).toArray below meth c H locs 0 0 (MQ below (va_Qv (fun (u : Unit) => True) (fun (u : Unit) t => va_P D vwCl [(h6, .inr (6, [.ref s6, .ref p6, .int (zI ((fl ||| dd : Nat) : Int))])), (s6, .inl (k.1, 12, .inl (zF (nF (upN sn t1 (dd &&& (2 ^ 32 - (fl + 1)))))))), (p6, .inl (k.1, 3, .inl (zF (nF (plJ pn co (dd &&& (2 ^ 32 - (fl + 1))) 3)))))] t.heap) A) ([.ref h6, .int (zI ((t1 : Nat) : Int)), .int (zI ((dd : Nat) : Int)), .int (zI ((co : Nat) : Int))] : List Value).toArray s 0 0 A) (F0 m 27 ls []) := by
    intro NN27
    induction NN27 with
    | zero => intro jj _ hN; exact absurd hN (Nat.not_lt_zero _)
    | succ NN27 ih27 =>
      intro jj hjj hN H locs hP hD hS ls hl
      refine lv_iload hx hb dX6_paintBehind_27 (lv_at hl 4 rfl) ?_
      refine z_iconst hx hb dX6_paintBehind_29 ?_
      refine z_icmp_ge (tgt := 64) hx hb dX6_paintBehind_30 (by decide) (by omega) (by omega) (fun c_30 => ?_) (fun c_30 => ?_)
      · obtain rfl : jj = 3 := by omega
        exact W.vret hx hb hr (fun t ht hW => ⟨⟨(), rfl, trivial, by show va_P D vwCl _ _; rw [ht]; exact hP⟩, hS.F ht⟩) hS.2.2 dX6_paintBehind_64
      · refine lv_iload_n hx hb dX6_paintBehind_33 rfl (lv_at hl 3 rfl) ?_
        refine lv_iload hx hb dX6_paintBehind_34 (lv_at hl 4 rfl) ?_
        refine roSN (n := 2) (As := [.int (zI ((co : Nat) : Int)), .int (zI ((jj : Nat) : Int))]) (rest := []) hSf (c_isInSet l D k co jj (by omega) (by omega)) gX6_paintBehind_X9_isInSet_n34 rfl hK.2.2.1 (hts (.initialized RX9) (by decide +kernel)) (hts (.static yX9_isInSet) (by decide +kernel)) (by decide +kernel) ⟨Nat.le_of_ble_eq_true rfl, Nat.le_of_ble_eq_true rfl⟩ hK hP [] rfl rfl hl.1 rfl (Nat.le_of_ble_eq_true rfl) dX6_paintBehind_36 ⟨Nat.zero_le _, Nat.zero_le _⟩ (fun r_36 h_36 => ?_)
        subst h_36
        refine z_if_eqb (tgt := 58) hx hb dX6_paintBehind_39 (by decide) (fun c_39 => ?_) (fun c_39 => ?_)
        · refine lv_iinc (v := zI (((jj : Nat) : Int) + 1)) (lv' := [(4, .int (zI (((jj : Nat) : Int) + 1))), (0, .ref h6), (1, .int (zI ((t1 : Nat) : Int))), (2, .int (zI ((dd : Nat) : Int))), (3, .int (zI ((co : Nat) : Int)))]) hx hb dX6_paintBehind_58 hl (k := 4) rfl (zI_add _ _) (by decide) rfl (fun ls hl => ?_)
          refine lv_goto (tgt := 27) hx hb dX6_paintBehind_61 (by decide) ?_
          have hl : lv_has ls 5 [(4, .int (zI (((jj + 1) : Nat) : Int))), (0, .ref h6), (1, .int (zI ((t1 : Nat) : Int))), (2, .int (zI ((dd : Nat) : Int))), (3, .int (zI ((co : Nat) : Int)))] := lv_c (l1 := []) (l2 := [(0, .ref h6), (1, .int (zI ((t1 : Nat) : Int))), (2, .int (zI ((dd : Nat) : Int))), (3, .int (zI ((co : Nat) : Int)))]) hl (show ((jj : Nat) : Int) + 1 = (((jj + 1) : Nat) : Int) from by omega)
          exact ih27 (jj + 1) (by omega) (by omega) _ _ (by rw [← plJ_f c_39]; exact hP) (by rw [← plJ_f c_39]; exact hD) hS ls (lv_sub hl [1, 2, 3, 4, 0] rfl)
        · refine lv_aload_n hx hb dX6_paintBehind_42 rfl (lv_at hl 0 rfl) ?_
          refine va_get (D := D) (ci := 6) (v := .ref p6) (C := RX6) (T := TX6) (N := 3) hx hb hts hinX6 hown hK.1 hP 0 rfl rfl 1 (by decide) fl15 (fun _ h9 => h9) rfl dX6_paintBehind_43 ?_
          refine lv_iload hx hb dX6_paintBehind_46 (lv_at hl 4 rfl) ?_
          refine lv_dup2_11 hx hb dX6_paintBehind_48 rfl rfl ?_
          refine z_ald hx hb hK hP 2 rfl (jj) (by omega) (by omega) (Nat.le_of_ble_eq_true rfl) dX6_paintBehind_49 ?_
          refine te (zc (show (nF (plJ pn co (dd &&& (2 ^ 32 - (fl + 1))) jj)) jj = (((plJ pn co (dd &&& (2 ^ 32 - (fl + 1))) jj) jj : Nat) : Int) from rfl)) ?_
          refine lv_aload_n hx hb dX6_paintBehind_50 rfl (lv_at hl 0 rfl) ?_
          refine va_get (D := D) (ci := 6) (v := .ref s6) (C := RX6) (T := TX6) (N := 3) hx hb hts hinX6 hown hK.1 hP 0 rfl rfl 0 (by decide) fl9 (fun _ h9 => h9) rfl dX6_paintBehind_51 ?_
          refine lv_iload_n hx hb dX6_paintBehind_54 rfl (lv_at hl 1 rfl) ?_
          refine z_ald hx hb hK hP 1 rfl (t1) (by omega) (by omega) (Nat.le_of_ble_eq_true rfl) dX6_paintBehind_55 ?_
          refine te (zc (show (nF (upN sn t1 (dd &&& (2 ^ 32 - (fl + 1))))) t1 = (((upN sn t1 (dd &&& (2 ^ 32 - (fl + 1)))) t1 : Nat) : Int) from rfl)) ?_
          refine te (zc (show (((upN sn t1 (dd &&& (2 ^ 32 - (fl + 1)))) t1 : Nat) : Int) = (((dd &&& (2 ^ 32 - (fl + 1))) : Nat) : Int) from by rw [upN_s])) ?_
          refine z_ior hx hb dX6_paintBehind_56 ((plJ pn co (dd &&& (2 ^ 32 - (fl + 1))) jj) jj) ((dd &&& (2 ^ 32 - (fl + 1)))) (by omega) (by omega) ?_
          refine z_ast hx hb hK hP hD hS 2 rfl (jj) (by omega) (by omega) (Nat.le_of_ble_eq_true rfl) dX6_paintBehind_57 (fun H locs hP hD hS => ?_)
          have hP : va_P D vwCl [(h6, .inr (6, [.ref s6, .ref p6, .int (zI ((fl ||| dd : Nat) : Int))])), (s6, .inl (k.1, 12, .inl (zF (nF (upN sn t1 (dd &&& (2 ^ 32 - (fl + 1)))))))), (p6, .inl (k.1, 3, .inl (zF (upZ (nF (plJ pn co (dd &&& (2 ^ 32 - (fl + 1))) jj)) jj ((((plJ pn co (dd &&& (2 ^ 32 - (fl + 1))) jj) jj) ||| (dd &&& (2 ^ 32 - (fl + 1))) : Nat) : Int)))))] H := hP
          have hD : va_D A [(h6, .inr (6, [.ref s6, .ref p6, .int (zI ((fl ||| dd : Nat) : Int))])), (s6, .inl (k.1, 12, .inl (zF (nF (upN sn t1 (dd &&& (2 ^ 32 - (fl + 1)))))))), (p6, .inl (k.1, 3, .inl (zF (upZ (nF (plJ pn co (dd &&& (2 ^ 32 - (fl + 1))) jj)) jj ((((plJ pn co (dd &&& (2 ^ 32 - (fl + 1))) jj) jj) ||| (dd &&& (2 ^ 32 - (fl + 1))) : Nat) : Int)))))] := hD
          rw [show upZ (nF (plJ pn co (dd &&& (2 ^ 32 - (fl + 1))) jj)) jj ((((plJ pn co (dd &&& (2 ^ 32 - (fl + 1))) jj) jj) ||| (dd &&& (2 ^ 32 - (fl + 1))) : Nat) : Int) = nF (upN (plJ pn co (dd &&& (2 ^ 32 - (fl + 1))) jj) jj (((plJ pn co (dd &&& (2 ^ 32 - (fl + 1))) jj) jj) ||| (dd &&& (2 ^ 32 - (fl + 1))))) from nF_up _ _ _] at hP hD
          refine lv_iinc (v := zI (((jj : Nat) : Int) + 1)) (lv' := [(4, .int (zI (((jj : Nat) : Int) + 1))), (0, .ref h6), (1, .int (zI ((t1 : Nat) : Int))), (2, .int (zI ((dd : Nat) : Int))), (3, .int (zI ((co : Nat) : Int)))]) hx hb dX6_paintBehind_58 hl (k := 4) rfl (zI_add _ _) (by decide) rfl (fun ls hl => ?_)
          refine lv_goto (tgt := 27) hx hb dX6_paintBehind_61 (by decide) ?_
          have hl : lv_has ls 5 [(4, .int (zI (((jj + 1) : Nat) : Int))), (0, .ref h6), (1, .int (zI ((t1 : Nat) : Int))), (2, .int (zI ((dd : Nat) : Int))), (3, .int (zI ((co : Nat) : Int)))] := lv_c (l1 := []) (l2 := [(0, .ref h6), (1, .int (zI ((t1 : Nat) : Int))), (2, .int (zI ((dd : Nat) : Int))), (3, .int (zI ((co : Nat) : Int)))]) hl (show ((jj : Nat) : Int) + 1 = (((jj + 1) : Nat) : Int) from by omega)
          exact ih27 (jj + 1) (by omega) (by omega) _ _ (by rw [← plJ_t c_39]; exact hP) (by rw [← plJ_t c_39]; exact hD) hS ls (lv_sub hl [1, 2, 3, 4, 0] rfl)
  have hl : lv_has ls 5 [(4, .int (zI ((0 : Nat) : Int))), (0, .ref h6), (1, .int (zI ((t1 : Nat) : Int))), (2, .int (zI ((dd : Nat) : Int))), (3, .int (zI ((co : Nat) : Int)))] := lv_c (l1 := []) (l2 := [(0, .ref h6), (1, .int (zI ((t1 : Nat) : Int))), (2, .int (zI ((dd : Nat) : Int))), (3, .int (zI ((co : Nat) : Int)))]) hl (show 0 = ((0 : Nat) : Int) from rfl)
  exact L27 _ 0 (by decide) (Nat.lt_succ_self _) _ _ (by rw [plJ_0]; exact hP) (by rw [plJ_0]; exact hD) hS ls (lv_sub hl [1, 2, 3, 4, 0] rfl)
set_option maxHeartbeats 4000000 in
set_option maxRecDepth 100000 in
theorem c_paint (l : Launch) (D : va_G) (k : Kt) (h0 : Nat) (c0 : Nat) (f : St) (B : Int) (hV : Va B f) (h6 : Nat) (s6 : Nat) (p6 : Nat) (sn : Nat → Nat) (pn : Nat → Nat) (fl : Nat) (L1 : Nat) (S1 : Nat) (hL1 : L1 < 24) (hS1 : S1 < 4096) : MU l D k yX6_paint wsX6_paint 2 47 [.ref h6, .ref h0, .int (zI ((L1 : Nat) : Int)), .int (zI ((S1 : Nat) : Int))] [(h0, .inr (7, [.ref c0])), (c0, .inl (k.1, 132, .inl (zF f))), (h6, .inr (6, [.ref s6, .ref p6, .int (zI ((fl : Nat) : Int))])), (s6, .inl (k.1, 12, .inl (zF (nF sn)))), (p6, .inl (k.1, 3, .inl (zF (nF pn))))] (fun (u : (Nat → Nat) × (Nat → Nat) × Nat) => paI f S1 L1 64 u.1 u.2.1 u.2.2) (fun u => [(h0, .inr (7, [.ref c0])), (c0, .inl (k.1, 132, .inl (zF f))), (h6, .inr (6, [.ref s6, .ref p6, .int (zI ((u.2.2 : Nat) : Int))])), (s6, .inl (k.1, 12, .inl (zF (nF u.1)))), (p6, .inl (k.1, 3, .inl (zF (nF u.2.1))))]) := by
  refine Met.ofW (cc := cX6_paint) (maxL := 6) (ret := none) (by decide) rfl ?_
  intro p e s m args below meth c s₁ Bd hml hv
  obtain ⟨rfl, hP, hK, hD0⟩ := hv
  have hx := Bd.exec
  have hb := Bd.bytes
  have hr := Bd.returns
  have hts := atoms_spec (ws := wsX6_paint) Bd.pre
  have hown : s.vm.findClass RX6 = some m.cls := findClass_of_methodNamed Bd.named
  have hlocks := Bd.notSynchronized
  have hSf : CallFix p m c cX6_paint 6 s ([.ref h6, .ref h0, .int (zI ((L1 : Nat) : Int)), .int (zI ((S1 : Nat) : Int))] : List Value).toArray wsX6_paint RX6 := ⟨hx, hb, hml, hown, hts⟩
  have hD := fA_D hD0
  have hS : va_S (fA [(h0, .inr (7, [.ref c0])), (c0, .inl (k.1, 132, .inl (zF f))), (h6, .inr (6, [.ref s6, .ref p6, .int (zI ((fl : Nat) : Int))])), (s6, .inl (k.1, 12, .inl (zF (nF sn)))), (p6, .inl (k.1, 3, .inl (zF (nF pn))))]) s.heap s.heap [] := va_S.rf
  generalize hAe : fA [(h0, .inr (7, [.ref c0])), (c0, .inl (k.1, 132, .inl (zF f))), (h6, .inr (6, [.ref s6, .ref p6, .int (zI ((fl : Nat) : Int))])), (s6, .inl (k.1, 12, .inl (zF (nF sn)))), (p6, .inl (k.1, 3, .inl (zF (nF pn))))] = A at hD hS ⊢
  have hP : va_P D vwCl [(h0, .inr (7, [.ref c0])), (c0, .inl (k.1, 132, .inl (zF f))), (h6, .inr (6, [.ref s6, .ref p6, .int (zI ((fl : Nat) : Int))])), (s6, .inl (k.1, 12, .inl (zF (nF sn)))), (p6, .inl (k.1, 3, .inl (zF (nF pn))))] s.heap := hP
  have hinX6 : ∀ w ∈ u_ws RX6 TX6 3, w ∈ wsX6_paint := by decide +kernel
  have fl9 := hts (.fieldLink RX6 9 "DotObjects$PaintedLine" "seen" "[I") (by decide +kernel)
  have fl15 := hts (.fieldLink RX6 15 "DotObjects$PaintedLine" "planes" "[I") (by decide +kernel)
  have fl24 := hts (.fieldLink RX6 24 "DotObjects$PaintedLine" "filled" "I") (by decide +kernel)
  have hl := lv_entry ([.ref h6, .ref h0, .int (zI ((L1 : Nat) : Int)), .int (zI ((S1 : Nat) : Int))]) (n := 6) (Nat.le_of_ble_eq_true rfl)
  rw [lg_entry_eq]
  generalize (lg_sl ([.ref h6, .ref h0, .int (zI ((L1 : Nat) : Int)), .int (zI ((S1 : Nat) : Int))]) ++ List.replicate (6 - (lg_sl ([.ref h6, .ref h0, .int (zI ((L1 : Nat) : Int)), .int (zI ((S1 : Nat) : Int))])).length) Slot.unset).toArray = ls at hl ⊢
  have hl : lv_has ls 6 [(0, .ref h6), (1, .ref h0), (2, .int (zI ((L1 : Nat) : Int))), (3, .int (zI ((S1 : Nat) : Int)))] := hl
  have hn := hV.n
  have hv0 := hV.1
  refine lv_aload_n hx hb dX6_paint_0 rfl (lv_at hl 0 rfl) ?_
  refine va_get (D := D) (ci := 6) (v := .ref s6) (C := RX6) (T := TX6) (N := 3) hx hb hts hinX6 hown hK.1 hP 2 rfl rfl 0 (by decide) fl9 (fun _ h9 => h9) rfl dX6_paint_1 ?_
  refine z_iconst hx hb dX6_paint_4 ?_
  refine muS (n := 2) (As := [.ref s6, .int (zI 0)]) (rest := []) hSf (c_fill l D k s6 12 (nF sn) 0 (by decide)) gX6_paint_J7_fill_53178 rfl (by decide +kernel) ⟨Nat.le_of_ble_eq_true rfl, Nat.le_of_ble_eq_true rfl⟩ hK hP hD hS [3] rfl rfl (by decide) (fun _ => rfl) (fun _ => rfl) rfl hl.1 rfl (Nat.le_of_ble_eq_true rfl) dX6_paint_5 ⟨Nat.zero_le _, Nat.zero_le _⟩ (fun u_5 H locs h_5 hP hD hS => ?_)
  have hP : va_P D vwCl [(h0, .inr (7, [.ref c0])), (c0, .inl (k.1, 132, .inl (zF f))), (h6, .inr (6, [.ref s6, .ref p6, .int (zI ((fl : Nat) : Int))])), (s6, .inl (k.1, 12, .inl (zF (fillZ (nF sn) 12 0)))), (p6, .inl (k.1, 3, .inl (zF (nF pn))))] H := hP
  have hD : va_D A [(h0, .inr (7, [.ref c0])), (c0, .inl (k.1, 132, .inl (zF f))), (h6, .inr (6, [.ref s6, .ref p6, .int (zI ((fl : Nat) : Int))])), (s6, .inl (k.1, 12, .inl (zF (fillZ (nF sn) 12 0)))), (p6, .inl (k.1, 3, .inl (zF (nF pn))))] := hD
  rw [nF_fill] at hP hD
  have hP : va_P D vwCl [(h0, .inr (7, [.ref c0])), (c0, .inl (k.1, 132, .inl (zF f))), (h6, .inr (6, [.ref s6, .ref p6, .int (zI ((fl : Nat) : Int))])), (s6, .inl (k.1, 12, .inl (zF (nF (fiN sn 12))))), (p6, .inl (k.1, 3, .inl (zF (nF pn))))] H := hP
  have hD : va_D A [(h0, .inr (7, [.ref c0])), (c0, .inl (k.1, 132, .inl (zF f))), (h6, .inr (6, [.ref s6, .ref p6, .int (zI ((fl : Nat) : Int))])), (s6, .inl (k.1, 12, .inl (zF (nF (fiN sn 12))))), (p6, .inl (k.1, 3, .inl (zF (nF pn))))] := hD
  refine lv_aload_n hx hb dX6_paint_8 rfl (lv_at hl 0 rfl) ?_
  refine va_get (D := D) (ci := 6) (v := .ref p6) (C := RX6) (T := TX6) (N := 3) hx hb hts hinX6 hown hK.1 hP 2 rfl rfl 1 (by decide) fl15 (fun _ h9 => h9) rfl dX6_paint_9 ?_
  refine z_iconst hx hb dX6_paint_12 ?_
  refine muS (n := 2) (As := [.ref p6, .int (zI 0)]) (rest := []) hSf (c_fill l D k p6 3 (nF pn) 0 (by decide)) gX6_paint_J7_fill_53178 rfl (by decide +kernel) ⟨Nat.le_of_ble_eq_true rfl, Nat.le_of_ble_eq_true rfl⟩ hK hP hD hS [4] rfl rfl (by decide) (fun _ => rfl) (fun _ => rfl) rfl hl.1 rfl (Nat.le_of_ble_eq_true rfl) dX6_paint_13 ⟨Nat.zero_le _, Nat.zero_le _⟩ (fun u_13 H locs h_13 hP hD hS => ?_)
  have hP : va_P D vwCl [(h0, .inr (7, [.ref c0])), (c0, .inl (k.1, 132, .inl (zF f))), (h6, .inr (6, [.ref s6, .ref p6, .int (zI ((fl : Nat) : Int))])), (s6, .inl (k.1, 12, .inl (zF (nF (fiN sn 12))))), (p6, .inl (k.1, 3, .inl (zF (fillZ (nF pn) 3 0))))] H := hP
  have hD : va_D A [(h0, .inr (7, [.ref c0])), (c0, .inl (k.1, 132, .inl (zF f))), (h6, .inr (6, [.ref s6, .ref p6, .int (zI ((fl : Nat) : Int))])), (s6, .inl (k.1, 12, .inl (zF (nF (fiN sn 12))))), (p6, .inl (k.1, 3, .inl (zF (fillZ (nF pn) 3 0))))] := hD
  rw [nF_fill] at hP hD
  have hP : va_P D vwCl [(h0, .inr (7, [.ref c0])), (c0, .inl (k.1, 132, .inl (zF f))), (h6, .inr (6, [.ref s6, .ref p6, .int (zI ((fl : Nat) : Int))])), (s6, .inl (k.1, 12, .inl (zF (nF (fiN sn 12))))), (p6, .inl (k.1, 3, .inl (zF (nF (fiN pn 3)))))] H := hP
  have hD : va_D A [(h0, .inr (7, [.ref c0])), (c0, .inl (k.1, 132, .inl (zF f))), (h6, .inr (6, [.ref s6, .ref p6, .int (zI ((fl : Nat) : Int))])), (s6, .inl (k.1, 12, .inl (zF (nF (fiN sn 12))))), (p6, .inl (k.1, 3, .inl (zF (nF (fiN pn 3)))))] := hD
  refine lv_aload_n hx hb dX6_paint_16 rfl (lv_at hl 0 rfl) ?_
  refine z_iconst hx hb dX6_paint_17 ?_
  refine va_put (D := D) (ci := 6) (v := .int (zI 0)) (ty := .int) (C := RX6) (T := TX6) (N := 3) hx hb hts hinX6 tyX6 tyX6_ok nmX6 hown hK.1 hP hD hS 2 rfl rfl 2 (by decide) fl24 (fun _ h9 => h9) rfl (by decide +kernel) rfl rfl (Nat.le_of_ble_eq_true rfl) dX6_paint_18 (fun H locs hP hD hS => ?_)
  have hP : va_P D vwCl [(h0, .inr (7, [.ref c0])), (c0, .inl (k.1, 132, .inl (zF f))), (h6, .inr (6, [.ref s6, .ref p6, .int (zI 0)])), (s6, .inl (k.1, 12, .inl (zF (nF (fiN sn 12))))), (p6, .inl (k.1, 3, .inl (zF (nF (fiN pn 3)))))] H := hP
  have hD : va_D A [(h0, .inr (7, [.ref c0])), (c0, .inl (k.1, 132, .inl (zF f))), (h6, .inr (6, [.ref s6, .ref p6, .int (zI 0)])), (s6, .inl (k.1, 12, .inl (zF (nF (fiN sn 12))))), (p6, .inl (k.1, 3, .inl (zF (nF (fiN pn 3)))))] := hD
  refine z_iconst hx hb dX6_paint_21 ?_
  refine lv_istore (lv' := [(4, .int (zI 0)), (0, .ref h6), (1, .ref h0), (2, .int (zI ((L1 : Nat) : Int))), (3, .int (zI ((S1 : Nat) : Int)))]) hx hb dX6_paint_22 hl (by decide) rfl (fun ls hl => ?_)
  have L24 : ∀ (NN24 : Nat), ∀ (lv : Nat) (xs : Nat → Nat) (xp : Nat → Nat) (xf : Nat), (lv ≤ 4) → (paI f S1 L1 (16 * (lv : Int)) xs xp xf) → 4 - lv < NN24 → ∀ (H : Heap) (locs : List Loc), va_P D vwCl [(h0, .inr (7, [.ref c0])), (c0, .inl (k.1, 132, .inl (zF f))), (h6, .inr (6, [.ref s6, .ref p6, .int (zI ((xf : Nat) : Int))])), (s6, .inl (k.1, 12, .inl (zF (nF xs)))), (p6, .inl (k.1, 3, .inl (zF (nF xp))))] H → va_D A [(h0, .inr (7, [.ref c0])), (c0, .inl (k.1, 132, .inl (zF f))), (h6, .inr (6, [.ref s6, .ref p6, .int (zI ((xf : Nat) : Int))])), (s6, .inl (k.1, 12, .inl (zF (nF xs)))), (p6, .inl (k.1, 3, .inl (zF (nF xp))))] → va_S A s.heap H locs → ∀ (ls : Array Slot), lv_has ls 6 [(0, .ref h6), (1, .ref h0), (2, .int (zI ((L1 : Nat) : Int))), (3, .int (zI ((S1 : Nat) : Int))), (4, .int (zI ((lv : Nat) : Int)))] → W p l e (headSpec wsX6_paint { frames := 2, cells := 0, slots := 0, locals := 47 }).room s m ([.ref h6, .ref h0, .int (zI ((L1 : Nat) : Int)), .int (zI ((S1 : Nat) : Int))] : List Value).toArray below meth c H locs 0 0 (MQ below (va_Qv (fun (u : (Nat → Nat) × (Nat → Nat) × Nat) => paI f S1 L1 64 u.1 u.2.1 u.2.2) (fun (u : (Nat → Nat) × (Nat → Nat) × Nat) t => va_P D vwCl [(h0, .inr (7, [.ref c0])), (c0, .inl (k.1, 132, .inl (zF f))), (h6, .inr (6, [.ref s6, .ref p6, .int (zI ((u.2.2 : Nat) : Int))])), (s6, .inl (k.1, 12, .inl (zF (nF u.1)))), (p6, .inl (k.1, 3, .inl (zF (nF u.2.1))))] t.heap) A) ([.ref h6, .ref h0, .int (zI ((L1 : Nat) : Int)), .int (zI ((S1 : Nat) : Int))] : List Value).toArray s 0 0 A) (F0 m 24 ls []) := by
    intro NN24
    induction NN24 with
    | zero => intro lv xs xp xf _ _ hN; exact absurd hN (Nat.not_lt_zero _)
    | succ NN24 ih24 =>
      intro lv xs xp xf hlv hI hN H locs hP hD hS ls hl
      refine lv_iload hx hb dX6_paint_24 (lv_at hl 4 rfl) ?_
      refine z_iconst hx hb dX6_paint_26 ?_
      refine z_icmp_ge (tgt := 96) hx hb dX6_paint_27 (by decide) (by omega) (by omega) (fun c_27 => ?_) (fun c_27 => ?_)
      · obtain rfl : lv = 4 := by omega
        exact W.vret hx hb hr (fun t ht hW => ⟨⟨(xs, xp, xf), rfl, hI, by show va_P D vwCl _ _; rw [ht]; exact hP⟩, hS.F ht⟩) hS.2.2 dX6_paint_96
      · refine z_iconst hx hb dX6_paint_30 ?_
        refine lv_istore (lv' := [(5, .int (zI 0)), (0, .ref h6), (1, .ref h0), (2, .int (zI ((L1 : Nat) : Int))), (3, .int (zI ((S1 : Nat) : Int))), (4, .int (zI ((lv : Nat) : Int)))]) hx hb dX6_paint_31 hl (by decide) rfl (fun ls hl => ?_)
        have L33 : ∀ (NN33 : Nat), ∀ (tt : Nat) (xs : Nat → Nat) (xp : Nat → Nat) (xf : Nat), (tt ≤ nT f) → (paI f S1 L1 (16 * (lv : Int) + (tt : Int)) xs xp xf) → nT f - tt < NN33 → ∀ (H : Heap) (locs : List Loc), va_P D vwCl [(h0, .inr (7, [.ref c0])), (c0, .inl (k.1, 132, .inl (zF f))), (h6, .inr (6, [.ref s6, .ref p6, .int (zI ((xf : Nat) : Int))])), (s6, .inl (k.1, 12, .inl (zF (nF xs)))), (p6, .inl (k.1, 3, .inl (zF (nF xp))))] H → va_D A [(h0, .inr (7, [.ref c0])), (c0, .inl (k.1, 132, .inl (zF f))), (h6, .inr (6, [.ref s6, .ref p6, .int (zI ((xf : Nat) : Int))])), (s6, .inl (k.1, 12, .inl (zF (nF xs)))), (p6, .inl (k.1, 3, .inl (zF (nF xp))))] → va_S A s.heap H locs → ∀ (ls : Array Slot), lv_has ls 6 [(0, .ref h6), (1, .ref h0), (2, .int (zI ((L1 : Nat) : Int))), (3, .int (zI ((S1 : Nat) : Int))), (4, .int (zI ((lv : Nat) : Int))), (5, .int (zI ((tt : Nat) : Int)))] → W p l e (headSpec wsX6_paint { frames := 2, cells := 0, slots := 0, locals := 47 }).room s m ([.ref h6, .ref h0, .int (zI ((L1 : Nat) : Int)), .int (zI ((S1 : Nat) : Int))] : List Value).toArray below meth c H locs 0 0 (MQ below (va_Qv (fun (u : (Nat → Nat) × (Nat → Nat) × Nat) => paI f S1 L1 64 u.1 u.2.1 u.2.2) (fun (u : (Nat → Nat) × (Nat → Nat) × Nat) t => va_P D vwCl [(h0, .inr (7, [.ref c0])), (c0, .inl (k.1, 132, .inl (zF f))), (h6, .inr (6, [.ref s6, .ref p6, .int (zI ((u.2.2 : Nat) : Int))])), (s6, .inl (k.1, 12, .inl (zF (nF u.1)))), (p6, .inl (k.1, 3, .inl (zF (nF u.2.1))))] t.heap) A) ([.ref h6, .ref h0, .int (zI ((L1 : Nat) : Int)), .int (zI ((S1 : Nat) : Int))] : List Value).toArray s 0 0 A) (F0 m 33 ls []) := by
          intro NN33
          induction NN33 with
          | zero => intro tt xs xp xf _ _ hN; exact absurd hN (Nat.not_lt_zero _)
          | succ NN33 ih33 =>
            intro tt xs xp xf htt hI hN H locs hP hD hS ls hl
            refine lv_iload hx hb dX6_paint_33 (lv_at hl 5 rfl) ?_
            refine lv_aload_n hx hb dX6_paint_35 rfl (lv_at hl 1 rfl) ?_
            refine z_iconst hx hb dX6_paint_36 ?_
            refine roV (n := 1) (As := [.int (zI ((0 : Nat) : Int))]) (rest := [.int (zI ((tt : Nat) : Int))]) hSf (c_cell l D k h0 c0 f 0 (by omega)) gX6_paint_X7_cell rfl (by decide +kernel) ⟨Nat.le_of_ble_eq_true rfl, Nat.le_of_ble_eq_true rfl⟩ hK hP [0, 1] rfl 0 rfl rfl rfl hl.1 (by rw [show zI 0 = zI ((0 : Nat) : Int) from zc (by omega)]; rfl) (Nat.le_of_ble_eq_true rfl) dX6_paint_37 ⟨Nat.zero_le _, Nat.zero_le _⟩ (fun r_37 h_37 => ?_)
            subst h_37
            refine z_icmp_ge (tgt := 90) hx hb dX6_paint_40 (by decide) (by omega) (by omega) (fun c_40 => ?_) (fun c_40 => ?_)
            · have htt2 : tt = nT f := by omega
              refine lv_iinc (v := zI (((lv : Nat) : Int) + 1)) (lv' := [(4, .int (zI (((lv : Nat) : Int) + 1))), (0, .ref h6), (1, .ref h0), (2, .int (zI ((L1 : Nat) : Int))), (3, .int (zI ((S1 : Nat) : Int))), (5, .int (zI ((tt : Nat) : Int)))]) hx hb dX6_paint_90 hl (k := 4) rfl (zI_add _ _) (by decide) rfl (fun ls hl => ?_)
              refine lv_goto (tgt := 24) hx hb dX6_paint_93 (by decide) ?_
              have hl : lv_has ls 6 [(4, .int (zI (((lv + 1) : Nat) : Int))), (0, .ref h6), (1, .ref h0), (2, .int (zI ((L1 : Nat) : Int))), (3, .int (zI ((S1 : Nat) : Int))), (5, .int (zI ((tt : Nat) : Int)))] := lv_c (l1 := []) (l2 := [(0, .ref h6), (1, .ref h0), (2, .int (zI ((L1 : Nat) : Int))), (3, .int (zI ((S1 : Nat) : Int))), (5, .int (zI ((tt : Nat) : Int)))]) hl (show ((lv : Nat) : Int) + 1 = (((lv + 1) : Nat) : Int) from by omega)
              exact ih24 (lv + 1) xs xp xf (by omega) (paI_mv hI (fun u hu hs => by have hw := hV.t hu; unfold key; omega)) (by omega) _ _ hP hD hS ls (lv_sub hl [1, 2, 3, 4, 0] rfl)
            · have hv := hV.t (t := tt) (by omega)
              refine lv_iload_n hx hb dX6_paint_43 rfl (lv_at hl 3 rfl) ?_
              refine lv_iload hx hb dX6_paint_44 (lv_at hl 5 rfl) ?_
              refine roSN (n := 2) (As := [.int (zI ((S1 : Nat) : Int)), .int (zI ((tt : Nat) : Int))]) (rest := []) hSf (c_isInSet l D k S1 tt (by omega) (by omega)) gX6_paint_X9_isInSet_n34 rfl hK.2.2.1 (hts (.initialized RX9) (by decide +kernel)) (hts (.static yX9_isInSet) (by decide +kernel)) (by decide +kernel) ⟨Nat.le_of_ble_eq_true rfl, Nat.le_of_ble_eq_true rfl⟩ hK hP [] rfl rfl hl.1 rfl (Nat.le_of_ble_eq_true rfl) dX6_paint_46 ⟨Nat.zero_le _, Nat.zero_le _⟩ (fun r_46 h_46 => ?_)
              subst h_46
              refine z_if_eqb (tgt := 84) hx hb dX6_paint_49 (by decide) (fun c_49 => ?_) (fun c_49 => ?_)
              · refine lv_iinc (v := zI (((tt : Nat) : Int) + 1)) (lv' := [(5, .int (zI (((tt : Nat) : Int) + 1))), (0, .ref h6), (1, .ref h0), (2, .int (zI ((L1 : Nat) : Int))), (3, .int (zI ((S1 : Nat) : Int))), (4, .int (zI ((lv : Nat) : Int)))]) hx hb dX6_paint_84 hl (k := 5) rfl (zI_add _ _) (by decide) rfl (fun ls hl => ?_)
                refine lv_goto (tgt := 33) hx hb dX6_paint_87 (by decide) ?_
                have hl : lv_has ls 6 [(5, .int (zI (((tt + 1) : Nat) : Int))), (0, .ref h6), (1, .ref h0), (2, .int (zI ((L1 : Nat) : Int))), (3, .int (zI ((S1 : Nat) : Int))), (4, .int (zI ((lv : Nat) : Int)))] := lv_c (l1 := []) (l2 := [(0, .ref h6), (1, .ref h0), (2, .int (zI ((L1 : Nat) : Int))), (3, .int (zI ((S1 : Nat) : Int))), (4, .int (zI ((lv : Nat) : Int)))]) hl (show ((tt : Nat) : Int) + 1 = (((tt + 1) : Nat) : Int) from by omega)
                exact ih33 (tt + 1) xs xp xf (by omega) (paI_sk hV hI (Or.inl c_49) (by omega)) (by omega) _ _ hP hD hS ls (lv_sub hl [1, 2, 3, 4, 5, 0] rfl)
              · refine lv_aload_n hx hb dX6_paint_52 rfl (lv_at hl 1 rfl) ?_
                refine lv_iload hx hb dX6_paint_53 (lv_at hl 5 rfl) ?_
                refine z_iconst hx hb dX6_paint_55 ?_
                refine roV (n := 2) (As := [.int (zI ((tt : Nat) : Int)), .int (zI ((4 : Nat) : Int))]) (rest := []) hSf (c_field l D k h0 c0 f tt 4 (by omega) (by omega)) gX6_paint_X7_field rfl (by decide +kernel) ⟨Nat.le_of_ble_eq_true rfl, Nat.le_of_ble_eq_true rfl⟩ hK hP [0, 1] rfl 0 rfl rfl rfl hl.1 (by rw [show zI 4 = zI ((4 : Nat) : Int) from zc (by omega)]; rfl) (Nat.le_of_ble_eq_true rfl) dX6_paint_56 ⟨Nat.zero_le _, Nat.zero_le _⟩ (fun r_56 h_56 => ?_)
                subst h_56
                refine lv_iload hx hb dX6_paint_59 (lv_at hl 4 rfl) ?_
                refine z_icmp_ne (tgt := 84) hx hb dX6_paint_61 (by decide) (by omega) (by omega) (fun c_61 => ?_) (fun c_61 => ?_)
                · refine lv_iinc (v := zI (((tt : Nat) : Int) + 1)) (lv' := [(5, .int (zI (((tt : Nat) : Int) + 1))), (0, .ref h6), (1, .ref h0), (2, .int (zI ((L1 : Nat) : Int))), (3, .int (zI ((S1 : Nat) : Int))), (4, .int (zI ((lv : Nat) : Int)))]) hx hb dX6_paint_84 hl (k := 5) rfl (zI_add _ _) (by decide) rfl (fun ls hl => ?_)
                  refine lv_goto (tgt := 33) hx hb dX6_paint_87 (by decide) ?_
                  have hl : lv_has ls 6 [(5, .int (zI (((tt + 1) : Nat) : Int))), (0, .ref h6), (1, .ref h0), (2, .int (zI ((L1 : Nat) : Int))), (3, .int (zI ((S1 : Nat) : Int))), (4, .int (zI ((lv : Nat) : Int)))] := lv_c (l1 := []) (l2 := [(0, .ref h6), (1, .ref h0), (2, .int (zI ((L1 : Nat) : Int))), (3, .int (zI ((S1 : Nat) : Int))), (4, .int (zI ((lv : Nat) : Int)))]) hl (show ((tt : Nat) : Int) + 1 = (((tt + 1) : Nat) : Int) from by omega)
                  exact ih33 (tt + 1) xs xp xf (by omega) (paI_sk hV hI (Or.inr c_61) (by omega)) (by omega) _ _ hP hD hS ls (lv_sub hl [1, 2, 3, 4, 5, 0] rfl)
                · refine lv_aload_n hx hb dX6_paint_64 rfl (lv_at hl 0 rfl) ?_
                  refine lv_iload hx hb dX6_paint_65 (lv_at hl 5 rfl) ?_
                  refine lv_aload_n hx hb dX6_paint_67 rfl (lv_at hl 1 rfl) ?_
                  refine lv_iload hx hb dX6_paint_68 (lv_at hl 5 rfl) ?_
                  refine lv_iload_n hx hb dX6_paint_70 rfl (lv_at hl 2 rfl) ?_
                  refine roV (n := 2) (As := [.int (zI ((tt : Nat) : Int)), .int (zI ((L1 : Nat) : Int))]) (rest := [.int (zI ((tt : Nat) : Int)), .ref h6]) hSf (c_dotsOf l D k h0 c0 f B hV tt L1 (by omega) hL1) gX6_paint_X7_dotsOf rfl (by decide +kernel) ⟨Nat.le_of_ble_eq_true rfl, Nat.le_of_ble_eq_true rfl⟩ hK hP [0, 1] rfl 0 rfl rfl rfl hl.1 rfl (Nat.le_of_ble_eq_true rfl) dX6_paint_71 ⟨Nat.zero_le _, Nat.zero_le _⟩ (fun r_71 h_71 => ?_)
                  subst h_71
                  refine lv_aload_n hx hb dX6_paint_74 rfl (lv_at hl 1 rfl) ?_
                  refine lv_iload hx hb dX6_paint_75 (lv_at hl 5 rfl) ?_
                  refine z_iconst hx hb dX6_paint_77 ?_
                  refine roV (n := 2) (As := [.int (zI ((tt : Nat) : Int)), .int (zI ((5 : Nat) : Int))]) (rest := [.int (zI ((dotsN f tt L1 : Nat) : Int)), .int (zI ((tt : Nat) : Int)), .ref h6]) hSf (c_field l D k h0 c0 f tt 5 (by omega) (by omega)) gX6_paint_X7_field rfl (by decide +kernel) ⟨Nat.le_of_ble_eq_true rfl, Nat.le_of_ble_eq_true rfl⟩ hK hP [0, 1] rfl 0 rfl rfl rfl hl.1 (by rw [show zI 5 = zI ((5 : Nat) : Int) from zc (by omega)]; rfl) (Nat.le_of_ble_eq_true rfl) dX6_paint_78 ⟨Nat.zero_le _, Nat.zero_le _⟩ (fun r_78 h_78 => ?_)
                  subst h_78
                  refine muV (n := 3) (As := [.int (zI ((tt : Nat) : Int)), .int (zI (((dotsN f tt L1) : Nat) : Int)), .int (zI ((((th f tt 5).toNat) : Nat) : Int))]) (rest := []) hSf (c_paintBehind l D k h6 s6 p6 xs xp xf tt (dotsN f tt L1) ((th f tt 5).toNat) (by omega) hI.1 (by omega)) gX6_paint_X6_paintBehind rfl (by decide +kernel) ⟨Nat.le_of_ble_eq_true rfl, Nat.le_of_ble_eq_true rfl⟩ hK hP hD hS [2, 3, 4] rfl rfl (by decide) (fun _ => rfl) (fun _ => rfl) 0 rfl rfl rfl hl.1 (by rw [show zI (th f tt 5) = zI ((((th f tt 5).toNat) : Nat) : Int) from zc (by omega)]; rfl) (Nat.le_of_ble_eq_true rfl) dX6_paint_81 ⟨Nat.zero_le _, Nat.zero_le _⟩ (fun u_81 H locs h_81 hP hD hS => ?_)
                  have hP : va_P D vwCl [(h0, .inr (7, [.ref c0])), (c0, .inl (k.1, 132, .inl (zF f))), (h6, .inr (6, [.ref s6, .ref p6, .int (zI ((xf ||| (dotsN f tt L1) : Nat) : Int))])), (s6, .inl (k.1, 12, .inl (zF (nF (upN xs tt ((dotsN f tt L1) &&& (2 ^ 32 - (xf + 1)))))))), (p6, .inl (k.1, 3, .inl (zF (nF (plJ xp ((th f tt 5).toNat) ((dotsN f tt L1) &&& (2 ^ 32 - (xf + 1))) 3)))))] H := hP
                  have hD : va_D A [(h0, .inr (7, [.ref c0])), (c0, .inl (k.1, 132, .inl (zF f))), (h6, .inr (6, [.ref s6, .ref p6, .int (zI ((xf ||| (dotsN f tt L1) : Nat) : Int))])), (s6, .inl (k.1, 12, .inl (zF (nF (upN xs tt ((dotsN f tt L1) &&& (2 ^ 32 - (xf + 1)))))))), (p6, .inl (k.1, 3, .inl (zF (nF (plJ xp ((th f tt 5).toNat) ((dotsN f tt L1) &&& (2 ^ 32 - (xf + 1))) 3)))))] := hD
                  refine lv_iinc (v := zI (((tt : Nat) : Int) + 1)) (lv' := [(5, .int (zI (((tt : Nat) : Int) + 1))), (0, .ref h6), (1, .ref h0), (2, .int (zI ((L1 : Nat) : Int))), (3, .int (zI ((S1 : Nat) : Int))), (4, .int (zI ((lv : Nat) : Int)))]) hx hb dX6_paint_84 hl (k := 5) rfl (zI_add _ _) (by decide) rfl (fun ls hl => ?_)
                  refine lv_goto (tgt := 33) hx hb dX6_paint_87 (by decide) ?_
                  have hl : lv_has ls 6 [(5, .int (zI (((tt + 1) : Nat) : Int))), (0, .ref h6), (1, .ref h0), (2, .int (zI ((L1 : Nat) : Int))), (3, .int (zI ((S1 : Nat) : Int))), (4, .int (zI ((lv : Nat) : Int)))] := lv_c (l1 := []) (l2 := [(0, .ref h6), (1, .ref h0), (2, .int (zI ((L1 : Nat) : Int))), (3, .int (zI ((S1 : Nat) : Int))), (4, .int (zI ((lv : Nat) : Int)))]) hl (show ((tt : Nat) : Int) + 1 = (((tt + 1) : Nat) : Int) from by omega)
                  exact ih33 (tt + 1) (upN xs tt (dotsN f tt L1 &&& (2 ^ 32 - (xf + 1)))) (plJ xp (th f tt 5).toNat (dotsN f tt L1 &&& (2 ^ 32 - (xf + 1))) 3) (xf ||| dotsN f tt L1) (by omega) (paI_put hV hI (by omega) c_49 c_61) (by omega) _ _ hP hD hS ls (lv_sub hl [1, 2, 3, 4, 5, 0] rfl)
        have hl : lv_has ls 6 [(5, .int (zI ((0 : Nat) : Int))), (0, .ref h6), (1, .ref h0), (2, .int (zI ((L1 : Nat) : Int))), (3, .int (zI ((S1 : Nat) : Int))), (4, .int (zI ((lv : Nat) : Int)))] := lv_c (l1 := []) (l2 := [(0, .ref h6), (1, .ref h0), (2, .int (zI ((L1 : Nat) : Int))), (3, .int (zI ((S1 : Nat) : Int))), (4, .int (zI ((lv : Nat) : Int)))]) hl (show 0 = ((0 : Nat) : Int) from rfl)
        exact L33 _ 0 xs xp xf (Nat.zero_le _) (paI_mv hI (fun u hu hs => by rw [show 16 * (lv : Int) + ((0 : Nat) : Int) = 16 * (lv : Int) by omega])) (Nat.lt_succ_self _) _ _ hP hD hS ls (lv_sub hl [1, 2, 3, 4, 5, 0] rfl)
  have hl : lv_has ls 6 [(4, .int (zI ((0 : Nat) : Int))), (0, .ref h6), (1, .ref h0), (2, .int (zI ((L1 : Nat) : Int))), (3, .int (zI ((S1 : Nat) : Int)))] := lv_c (l1 := []) (l2 := [(0, .ref h6), (1, .ref h0), (2, .int (zI ((L1 : Nat) : Int))), (3, .int (zI ((S1 : Nat) : Int)))]) hl (show 0 = ((0 : Nat) : Int) from rfl)
  exact L24 _ 0 (fiN sn 12) (fiN pn 3) 0 (by decide) (paI_0 hV) (Nat.lt_succ_self _) _ _ hP hD hS ls (lv_sub hl [1, 2, 3, 4, 0] rfl)
set_option maxHeartbeats 4000000 in
set_option maxRecDepth 100000 in
theorem c_filledColumns (l : Launch) (D : va_G) (k : Kt) (h6 : Nat) (s6 : Nat) (p6 : Nat) (sn : Nat → Nat) (pn : Nat → Nat) (fl : Nat) : RO l D k yX6_filledColumns wsX6_filledColumns 0 0 [.ref h6] [(h6, .inr (6, [.ref s6, .ref p6, .int (zI ((fl : Nat) : Int))])), (s6, .inl (k.1, 12, .inl (zF (nF sn)))), (p6, .inl (k.1, 3, .inl (zF (nF pn))))] (fun r => r = zI ((fl : Nat) : Int)) := by
  refine Met.ofW (cc := cX6_filledColumns) (maxL := 1) (ret := (some .int)) (by decide) rfl ?_
  intro p e s m args below meth c s₁ Bd hml hv
  obtain ⟨rfl, hP, hK⟩ := hv
  have hx := Bd.exec
  have hb := Bd.bytes
  have hr := Bd.returns
  have hts := atoms_spec (ws := wsX6_filledColumns) Bd.pre
  have hown : s.vm.findClass RX6 = some m.cls := findClass_of_methodNamed Bd.named
  have hlocks := Bd.notSynchronized
  have hSf : CallFix p m c cX6_filledColumns 1 s ([.ref h6] : List Value).toArray wsX6_filledColumns RX6 := ⟨hx, hb, hml, hown, hts⟩
  have hinX6 : ∀ w ∈ u_ws RX6 TX6 3, w ∈ wsX6_filledColumns := by decide +kernel
  have fl24 := hts (.fieldLink RX6 24 "DotObjects$PaintedLine" "filled" "I") (by decide +kernel)
  have hl := lv_entry ([.ref h6]) (n := 1) (Nat.le_of_ble_eq_true rfl)
  rw [lg_entry_eq]
  generalize (lg_sl ([.ref h6]) ++ List.replicate (1 - (lg_sl ([.ref h6])).length) Slot.unset).toArray = ls at hl ⊢
  have hl : lv_has ls 1 [(0, .ref h6)] := hl
  refine lv_aload_n hx hb dX6_filledColumns_0 rfl (lv_at hl 0 rfl) ?_
  refine va_get (D := D) (ci := 6) (v := .int (zI ((fl : Nat) : Int))) (C := RX6) (T := TX6) (N := 3) hx hb hts hinX6 hown hK.1 hP 0 rfl rfl 2 (by decide) fl24 (fun _ h9 => h9) rfl dX6_filledColumns_1 ?_
  exact W.iret hx hb hr (fun t ht hW => ⟨_, rfl, rfl, ht⟩) (fun q hq => by cases hq) dX6_filledColumns_4
set_option maxHeartbeats 4000000 in
set_option maxRecDepth 100000 in
theorem c_seenColumns (l : Launch) (D : va_G) (k : Kt) (h6 : Nat) (s6 : Nat) (p6 : Nat) (sn : Nat → Nat) (pn : Nat → Nat) (fl : Nat) (t1 : Nat) (ht1 : t1 < 12) : RO l D k yX6_seenColumns wsX6_seenColumns 0 0 [.ref h6, .int (zI ((t1 : Nat) : Int))] [(h6, .inr (6, [.ref s6, .ref p6, .int (zI ((fl : Nat) : Int))])), (s6, .inl (k.1, 12, .inl (zF (nF sn)))), (p6, .inl (k.1, 3, .inl (zF (nF pn))))] (fun r => r = zI ((sn t1 : Nat) : Int)) := by
  refine Met.ofW (cc := cX6_seenColumns) (maxL := 2) (ret := (some .int)) (by decide) rfl ?_
  intro p e s m args below meth c s₁ Bd hml hv
  obtain ⟨rfl, hP, hK⟩ := hv
  have hx := Bd.exec
  have hb := Bd.bytes
  have hr := Bd.returns
  have hts := atoms_spec (ws := wsX6_seenColumns) Bd.pre
  have hown : s.vm.findClass RX6 = some m.cls := findClass_of_methodNamed Bd.named
  have hlocks := Bd.notSynchronized
  have hSf : CallFix p m c cX6_seenColumns 2 s ([.ref h6, .int (zI ((t1 : Nat) : Int))] : List Value).toArray wsX6_seenColumns RX6 := ⟨hx, hb, hml, hown, hts⟩
  have hinX6 : ∀ w ∈ u_ws RX6 TX6 3, w ∈ wsX6_seenColumns := by decide +kernel
  have fl9 := hts (.fieldLink RX6 9 "DotObjects$PaintedLine" "seen" "[I") (by decide +kernel)
  have hl := lv_entry ([.ref h6, .int (zI ((t1 : Nat) : Int))]) (n := 2) (Nat.le_of_ble_eq_true rfl)
  rw [lg_entry_eq]
  generalize (lg_sl ([.ref h6, .int (zI ((t1 : Nat) : Int))]) ++ List.replicate (2 - (lg_sl ([.ref h6, .int (zI ((t1 : Nat) : Int))])).length) Slot.unset).toArray = ls at hl ⊢
  have hl : lv_has ls 2 [(0, .ref h6), (1, .int (zI ((t1 : Nat) : Int)))] := hl
  refine lv_aload_n hx hb dX6_seenColumns_0 rfl (lv_at hl 0 rfl) ?_
  refine va_get (D := D) (ci := 6) (v := .ref s6) (C := RX6) (T := TX6) (N := 3) hx hb hts hinX6 hown hK.1 hP 0 rfl rfl 0 (by decide) fl9 (fun _ h9 => h9) rfl dX6_seenColumns_1 ?_
  refine lv_iload_n hx hb dX6_seenColumns_4 rfl (lv_at hl 1 rfl) ?_
  refine z_ald hx hb hK hP 1 rfl (t1) (by omega) (by omega) (Nat.le_of_ble_eq_true rfl) dX6_seenColumns_5 ?_
  refine te (zc (show (nF sn) t1 = ((sn t1 : Nat) : Int) from rfl)) ?_
  exact W.iret hx hb hr (fun t ht hW => ⟨_, rfl, rfl, ht⟩) (fun q hq => by cases hq) dX6_seenColumns_6
set_option maxHeartbeats 4000000 in
set_option maxRecDepth 100000 in
theorem c_thingAt (l : Launch) (D : va_G) (k : Kt) (f : St) (B : Int) (hV : Va B f) (h6 : Nat) (s6 : Nat) (p6 : Nat) (sn : Nat → Nat) (pn : Nat → Nat) (fl : Nat) (L1 : Nat) (S1 : Nat) (hI : paI f S1 L1 64 sn pn fl) (cl : Nat) (hcl : cl < 32) : RO l D k yX6_thingAt wsX6_thingAt 1 21 [.ref h6, .int (zI ((cl : Nat) : Int))] [(h6, .inr (6, [.ref s6, .ref p6, .int (zI ((fl : Nat) : Int))])), (s6, .inl (k.1, 12, .inl (zF (nF sn)))), (p6, .inl (k.1, 3, .inl (zF (nF pn))))] (fun r => r = zI (seenA f S1 L1 cl)) := by
  refine Met.ofW (cc := cX6_thingAt) (maxL := 3) (ret := (some .int)) (by decide) rfl ?_
  intro p e s m args below meth c s₁ Bd hml hv
  obtain ⟨rfl, hP, hK⟩ := hv
  have hx := Bd.exec
  have hb := Bd.bytes
  have hr := Bd.returns
  have hts := atoms_spec (ws := wsX6_thingAt) Bd.pre
  have hown : s.vm.findClass RX6 = some m.cls := findClass_of_methodNamed Bd.named
  have hlocks := Bd.notSynchronized
  have hSf : CallFix p m c cX6_thingAt 3 s ([.ref h6, .int (zI ((cl : Nat) : Int))] : List Value).toArray wsX6_thingAt RX6 := ⟨hx, hb, hml, hown, hts⟩
  have hinX6 : ∀ w ∈ u_ws RX6 TX6 3, w ∈ wsX6_thingAt := by decide +kernel
  have fl9 := hts (.fieldLink RX6 9 "DotObjects$PaintedLine" "seen" "[I") (by decide +kernel)
  have hl := lv_entry ([.ref h6, .int (zI ((cl : Nat) : Int))]) (n := 3) (Nat.le_of_ble_eq_true rfl)
  rw [lg_entry_eq]
  generalize (lg_sl ([.ref h6, .int (zI ((cl : Nat) : Int))]) ++ List.replicate (3 - (lg_sl ([.ref h6, .int (zI ((cl : Nat) : Int))])).length) Slot.unset).toArray = ls at hl ⊢
  have hl : lv_has ls 3 [(0, .ref h6), (1, .int (zI ((cl : Nat) : Int)))] := hl
  have hn := hV.n
  refine z_iconst hx hb dX6_thingAt_0 ?_
  refine lv_istore_n (lv' := [(2, .int (zI 0)), (0, .ref h6), (1, .int (zI ((cl : Nat) : Int)))]) hx hb dX6_thingAt_1 rfl hl (by decide) rfl (fun ls hl => ?_)
  have L2 : ∀ (NN2 : Nat), ∀ (tt : Nat), (tt ≤ 12) → (∀ u, u < tt → (sn u).testBit (31 - cl) = false) → 12 - tt < NN2 → ∀ (ls : Array Slot), lv_has ls 3 [(0, .ref h6), (1, .int (zI ((cl : Nat) : Int))), (2, .int (zI ((tt : Nat) : Int)))] → W p l e (headSpec wsX6_thingAt { frames := 1, cells := 0, slots := 0, locals := 21 }).room s m ([.ref h6, .int (zI ((cl : Nat) : Int))] : List Value).toArray below meth c s.heap [] 0 0 (MQ below (vp_Si (fun r => r = zI (seenA f S1 L1 cl))) ([.ref h6, .int (zI ((cl : Nat) : Int))] : List Value).toArray s 0 0 (fun _ => False)) (F0 m 2 ls []) := by
    intro NN2
    induction NN2 with
    | zero => intro tt _ _ hN; exact absurd hN (Nat.not_lt_zero _)
    | succ NN2 ih2 =>
      intro tt htt hno hN ls hl
      refine lv_iload_n hx hb dX6_thingAt_2 rfl (lv_at hl 2 rfl) ?_
      refine z_bipush hx hb dX6_thingAt_3 (by decide +kernel) ?_
      refine z_icmp_ge (tgt := 32) hx hb dX6_thingAt_5 (by decide) (by omega) (by omega) (fun c_5 => ?_) (fun c_5 => ?_)
      · refine z_iconst hx hb dX6_thingAt_32 ?_
        exact W.iret hx hb hr (fun t ht hW => ⟨_, rfl, zc (seenA_eq hn.2 (thing_none hV hI (fun u hu => hno u (by omega)))), ht⟩) (fun q hq => by cases hq) dX6_thingAt_33
      · refine lv_aload_n hx hb dX6_thingAt_8 rfl (lv_at hl 0 rfl) ?_
        refine va_get (D := D) (ci := 6) (v := .ref s6) (C := RX6) (T := TX6) (N := 3) hx hb hts hinX6 hown hK.1 hP 0 rfl rfl 0 (by decide) fl9 (fun _ h9 => h9) rfl dX6_thingAt_9 ?_
        refine lv_iload_n hx hb dX6_thingAt_12 rfl (lv_at hl 2 rfl) ?_
        refine z_ald hx hb hK hP 1 rfl (tt) (by omega) (by omega) (Nat.le_of_ble_eq_true rfl) dX6_thingAt_13 ?_
        refine te (zc (show (nF sn) tt = ((sn tt : Nat) : Int) from rfl)) ?_
        refine z_bipush hx hb dX6_thingAt_14 (by decide +kernel) ?_
        refine lv_iload_n hx hb dX6_thingAt_16 rfl (lv_at hl 1 rfl) ?_
        refine z_isub hx hb dX6_thingAt_17 ?_
        refine te (zc (show 31 - ((cl : Nat) : Int) = ((31 - cl : Nat) : Int) from by omega)) ?_
        refine roSN (n := 2) (As := [.int (zI (((sn tt) : Nat) : Int)), .int (zI (((31 - cl) : Nat) : Int))]) (rest := []) hSf (c_isInSet l D k (sn tt) (31 - cl) (hI.2.1 tt (by omega)) (by omega)) gX6_thingAt_X9_isInSet_n34 rfl hK.2.2.1 (hts (.initialized RX9) (by decide +kernel)) (hts (.static yX9_isInSet) (by decide +kernel)) (by decide +kernel) ⟨Nat.le_of_ble_eq_true rfl, Nat.le_of_ble_eq_true rfl⟩ hK hP [] rfl rfl hl.1 rfl (Nat.le_of_ble_eq_true rfl) dX6_thingAt_18 ⟨Nat.zero_le _, Nat.zero_le _⟩ (fun r_18 h_18 => ?_)
        subst h_18
        refine z_if_eqb (tgt := 26) hx hb dX6_thingAt_21 (by decide) (fun c_21 => ?_) (fun c_21 => ?_)
        · refine lv_iinc (v := zI (((tt : Nat) : Int) + 1)) (lv' := [(2, .int (zI (((tt : Nat) : Int) + 1))), (0, .ref h6), (1, .int (zI ((cl : Nat) : Int)))]) hx hb dX6_thingAt_26 hl (k := 2) rfl (zI_add _ _) (by decide) rfl (fun ls hl => ?_)
          refine lv_goto (tgt := 2) hx hb dX6_thingAt_29 (by decide) ?_
          have hl : lv_has ls 3 [(2, .int (zI (((tt + 1) : Nat) : Int))), (0, .ref h6), (1, .int (zI ((cl : Nat) : Int)))] := lv_c (l1 := []) (l2 := [(0, .ref h6), (1, .int (zI ((cl : Nat) : Int)))]) hl (show ((tt : Nat) : Int) + 1 = (((tt + 1) : Nat) : Int) from by omega)
          exact ih2 (tt + 1) (by omega) (lt_s hno c_21) (by omega) ls (lv_sub hl [1, 2, 0] rfl)
        · refine lv_iload_n hx hb dX6_thingAt_24 rfl (lv_at hl 2 rfl) ?_
          exact W.iret hx hb hr (fun t ht hW => ⟨_, rfl, zc (seenA_eq hn.2 (Or.inr ⟨tt, ((thing_bit hI (by omega) _ (key_lt hV)).mp c_21).1, rfl, ((thing_bit hI (by omega) _ (key_lt hV)).mp c_21).2⟩)), ht⟩) (fun q hq => by cases hq) dX6_thingAt_25
  have hl : lv_has ls 3 [(2, .int (zI ((0 : Nat) : Int))), (0, .ref h6), (1, .int (zI ((cl : Nat) : Int)))] := lv_c (l1 := []) (l2 := [(0, .ref h6), (1, .int (zI ((cl : Nat) : Int)))]) hl (show 0 = ((0 : Nat) : Int) from rfl)
  exact L2 _ 0 (by decide) (fun u hu => absurd hu (Nat.not_lt_zero _)) (Nat.lt_succ_self _) ls (lv_sub hl [1, 2, 0] rfl)
set_option maxHeartbeats 4000000 in
set_option maxRecDepth 100000 in
theorem c_colourAt (l : Launch) (D : va_G) (k : Kt) (h0 : Nat) (c0 : Nat) (f : St) (B : Int) (hV : Va B f) (h6 : Nat) (s6 : Nat) (p6 : Nat) (sn : Nat → Nat) (pn : Nat → Nat) (fl : Nat) (L1 : Nat) (S1 : Nat) (hI : paI f S1 L1 64 sn pn fl) (cl : Nat) (hcl : cl < 32) : RO l D k yX6_colourAt wsX6_colourAt 2 43 [.ref h6, .ref h0, .int (zI ((cl : Nat) : Int))] [(h0, .inr (7, [.ref c0])), (c0, .inl (k.1, 132, .inl (zF f))), (h6, .inr (6, [.ref s6, .ref p6, .int (zI ((fl : Nat) : Int))])), (s6, .inl (k.1, 12, .inl (zF (nF sn)))), (p6, .inl (k.1, 3, .inl (zF (nF pn))))] (fun r => r = zI (colA f S1 L1 cl)) := by
  refine Met.ofW (cc := cX6_colourAt) (maxL := 4) (ret := (some .int)) (by decide) rfl ?_
  intro p e s m args below meth c s₁ Bd hml hv
  obtain ⟨rfl, hP, hK⟩ := hv
  have hx := Bd.exec
  have hb := Bd.bytes
  have hr := Bd.returns
  have hts := atoms_spec (ws := wsX6_colourAt) Bd.pre
  have hown : s.vm.findClass RX6 = some m.cls := findClass_of_methodNamed Bd.named
  have hlocks := Bd.notSynchronized
  have hSf : CallFix p m c cX6_colourAt 4 s ([.ref h6, .ref h0, .int (zI ((cl : Nat) : Int))] : List Value).toArray wsX6_colourAt RX6 := ⟨hx, hb, hml, hown, hts⟩
  have hl := lv_entry ([.ref h6, .ref h0, .int (zI ((cl : Nat) : Int))]) (n := 4) (Nat.le_of_ble_eq_true rfl)
  rw [lg_entry_eq]
  generalize (lg_sl ([.ref h6, .ref h0, .int (zI ((cl : Nat) : Int))]) ++ List.replicate (4 - (lg_sl ([.ref h6, .ref h0, .int (zI ((cl : Nat) : Int))])).length) Slot.unset).toArray = ls at hl ⊢
  have hl : lv_has ls 4 [(0, .ref h6), (1, .ref h0), (2, .int (zI ((cl : Nat) : Int)))] := hl
  have hn := hV.n
  have hs := seenA_rg hV S1 L1 cl
  refine lv_aload_n hx hb dX6_colourAt_0 rfl (lv_at hl 0 rfl) ?_
  refine lv_iload_n hx hb dX6_colourAt_1 rfl (lv_at hl 2 rfl) ?_
  refine roV (n := 1) (As := [.int (zI ((cl : Nat) : Int))]) (rest := []) hSf (c_thingAt l D k f B hV h6 s6 p6 sn pn fl L1 S1 hI cl hcl) gX6_colourAt_X6_thingAt rfl (by decide +kernel) ⟨Nat.le_of_ble_eq_true rfl, Nat.le_of_ble_eq_true rfl⟩ hK hP [2, 3, 4] rfl 0 rfl rfl rfl hl.1 rfl (Nat.le_of_ble_eq_true rfl) dX6_colourAt_2 ⟨Nat.zero_le _, Nat.zero_le _⟩ (fun r_2 h_2 => ?_)
  subst h_2
  refine lv_istore_n (lv' := [(3, .int (zI (seenA f S1 L1 cl))), (0, .ref h6), (1, .ref h0), (2, .int (zI ((cl : Nat) : Int)))]) hx hb dX6_colourAt_5 rfl hl (by decide) rfl (fun ls hl => ?_)
  refine lv_iload_n hx hb dX6_colourAt_6 rfl (lv_at hl 0 rfl) ?_
  refine z_iconst hx hb dX6_colourAt_7 ?_
  refine z_icmp_ne (tgt := 15) hx hb dX6_colourAt_8 (by decide) (by omega) (by omega) (fun c_8 => ?_) (fun c_8 => ?_)
  · refine lv_aload_n hx hb dX6_colourAt_15 rfl (lv_at hl 2 rfl) ?_
    refine lv_iload_n hx hb dX6_colourAt_16 rfl (lv_at hl 0 rfl) ?_
    refine z_iconst hx hb dX6_colourAt_17 ?_
    refine roV (n := 2) (As := [.int (zI ((((seenA f S1 L1 cl).toNat) : Nat) : Int)), .int (zI ((5 : Nat) : Int))]) (rest := []) hSf (c_field l D k h0 c0 f ((seenA f S1 L1 cl).toNat) 5 (by omega) (by omega)) gX6_colourAt_X7_field rfl (by decide +kernel) ⟨Nat.le_of_ble_eq_true rfl, Nat.le_of_ble_eq_true rfl⟩ hK hP [0, 1] rfl 0 rfl rfl rfl hl.1 (by rw [show zI (seenA f S1 L1 cl) = zI ((((seenA f S1 L1 cl).toNat) : Nat) : Int) from zc (by omega)]; rw [show zI 5 = zI ((5 : Nat) : Int) from zc (by omega)]; rfl) (Nat.le_of_ble_eq_true rfl) dX6_colourAt_18 ⟨Nat.zero_le _, Nat.zero_le _⟩ (fun r_18 h_18 => ?_)
    subst h_18
    exact W.iret hx hb hr (fun t ht hW => ⟨_, rfl, zc (by unfold colA; rw [if_neg c_8]), ht⟩) (fun q hq => by cases hq) dX6_colourAt_21
  · refine z_iconst hx hb dX6_colourAt_11 ?_
    refine lv_goto (tgt := 21) hx hb dX6_colourAt_12 (by decide) ?_
    exact W.iret hx hb hr (fun t ht hW => ⟨_, rfl, zc (by unfold colA; rw [if_pos c_8]), ht⟩) (fun q hq => by cases hq) dX6_colourAt_21
set_option maxHeartbeats 4000000 in
set_option maxRecDepth 100000 in
theorem c_otherColumns (l : Launch) (D : va_G) (k : Kt) (h6 : Nat) (s6 : Nat) (p6 : Nat) (sn : Nat → Nat) (pn : Nat → Nat) (fl : Nat) (h9 : Nat) (s9 : Nat) (p9 : Nat) (qs : Nat → Nat) (qn : Nat → Nat) (ql : Nat) : RO l D k yX6_otherColumns wsX6_otherColumns 0 0 [.ref h6, .ref h9] [(h6, .inr (6, [.ref s6, .ref p6, .int (zI ((fl : Nat) : Int))])), (s6, .inl (k.1, 12, .inl (zF (nF sn)))), (p6, .inl (k.1, 3, .inl (zF (nF pn)))), (h9, .inr (6, [.ref s9, .ref p9, .int (zI ((ql : Nat) : Int))])), (s9, .inl (k.1, 12, .inl (zF (nF qs)))), (p9, .inl (k.1, 3, .inl (zF (nF qn))))] (fun r => r = zI ((orX pn qn 3 : Nat) : Int)) := by
  refine Met.ofW (cc := cX6_otherColumns) (maxL := 4) (ret := (some .int)) (by decide) rfl ?_
  intro p e s m args below meth c s₁ Bd hml hv
  obtain ⟨rfl, hP, hK⟩ := hv
  have hx := Bd.exec
  have hb := Bd.bytes
  have hr := Bd.returns
  have hts := atoms_spec (ws := wsX6_otherColumns) Bd.pre
  have hown : s.vm.findClass RX6 = some m.cls := findClass_of_methodNamed Bd.named
  have hlocks := Bd.notSynchronized
  have hSf : CallFix p m c cX6_otherColumns 4 s ([.ref h6, .ref h9] : List Value).toArray wsX6_otherColumns RX6 := ⟨hx, hb, hml, hown, hts⟩
  have hinX6 : ∀ w ∈ u_ws RX6 TX6 3, w ∈ wsX6_otherColumns := by decide +kernel
  have fl15 := hts (.fieldLink RX6 15 "DotObjects$PaintedLine" "planes" "[I") (by decide +kernel)
  have hl := lv_entry ([.ref h6, .ref h9]) (n := 4) (Nat.le_of_ble_eq_true rfl)
  rw [lg_entry_eq]
  generalize (lg_sl ([.ref h6, .ref h9]) ++ List.replicate (4 - (lg_sl ([.ref h6, .ref h9])).length) Slot.unset).toArray = ls at hl ⊢
  have hl : lv_has ls 4 [(0, .ref h6), (1, .ref h9)] := hl
  refine z_iconst hx hb dX6_otherColumns_0 ?_
  refine lv_istore_n (lv' := [(2, .int (zI 0)), (0, .ref h6), (1, .ref h9)]) hx hb dX6_otherColumns_1 rfl hl (by decide) rfl (fun ls hl => ?_)
  refine z_iconst hx hb dX6_otherColumns_2 ?_
  refine lv_istore_n (lv' := [(3, .int (zI 0)), (2, .int (zI 0)), (0, .ref h6), (1, .ref h9)]) hx hb dX6_otherColumns_3 rfl hl (by decide) rfl (fun ls hl => ?_)
  have L4 : ∀ (NN4 : Nat), ∀ (jj : Nat), (jj ≤ 3) → 3 - jj < NN4 → ∀ (ls : Array Slot), lv_has ls 4 [(0, .ref h6), (1, .ref h9), (2, .int (zI ((orX pn qn jj : Nat) : Int))), (3, .int (zI ((jj : Nat) : Int)))] → W p l e (headSpec wsX6_otherColumns { frames := 0, cells := 0, slots := 0, locals := 0 }).room s m ([.ref h6, .ref h9] : List Value).toArray below meth c s.heap [] 0 0 (MQ below (vp_Si (fun r => r = zI ((orX pn qn 3 : Nat) : Int))) ([.ref h6, .ref h9] : List Value).toArray s 0 0 (fun _ => False)) (F0 m 4 ls []) := by
    intro NN4
    induction NN4 with
    | zero => intro jj _ hN; exact absurd hN (Nat.not_lt_zero _)
    | succ NN4 ih4 =>
      intro jj hjj hN ls hl
      refine lv_iload_n hx hb dX6_otherColumns_4 rfl (lv_at hl 3 rfl) ?_
      refine z_iconst hx hb dX6_otherColumns_5 ?_
      refine z_icmp_ge (tgt := 31) hx hb dX6_otherColumns_6 (by decide) (by omega) (by omega) (fun c_6 => ?_) (fun c_6 => ?_)
      · obtain rfl : jj = 3 := by omega
        refine lv_iload_n hx hb dX6_otherColumns_31 rfl (lv_at hl 2 rfl) ?_
        exact W.iret hx hb hr (fun t ht hW => ⟨_, rfl, rfl, ht⟩) (fun q hq => by cases hq) dX6_otherColumns_32
      · refine lv_iload_n hx hb dX6_otherColumns_9 rfl (lv_at hl 2 rfl) ?_
        refine lv_aload_n hx hb dX6_otherColumns_10 rfl (lv_at hl 0 rfl) ?_
        refine va_get (D := D) (ci := 6) (v := .ref p6) (C := RX6) (T := TX6) (N := 3) hx hb hts hinX6 hown hK.1 hP 0 rfl rfl 1 (by decide) fl15 (fun _ h9 => h9) rfl dX6_otherColumns_11 ?_
        refine lv_iload_n hx hb dX6_otherColumns_14 rfl (lv_at hl 3 rfl) ?_
        refine z_ald hx hb hK hP 2 rfl (jj) (by omega) (by omega) (Nat.le_of_ble_eq_true rfl) dX6_otherColumns_15 ?_
        refine te (zc (show (nF pn) jj = ((pn jj : Nat) : Int) from rfl)) ?_
        refine lv_aload_n hx hb dX6_otherColumns_16 rfl (lv_at hl 1 rfl) ?_
        refine va_get (D := D) (ci := 6) (v := .ref p9) (C := RX6) (T := TX6) (N := 3) hx hb hts hinX6 hown hK.1 hP 3 rfl rfl 1 (by decide) fl15 (fun _ h9 => h9) rfl dX6_otherColumns_17 ?_
        refine lv_iload_n hx hb dX6_otherColumns_20 rfl (lv_at hl 3 rfl) ?_
        refine z_ald hx hb hK hP 5 rfl (jj) (by omega) (by omega) (Nat.le_of_ble_eq_true rfl) dX6_otherColumns_21 ?_
        refine te (zc (show (nF qn) jj = ((qn jj : Nat) : Int) from rfl)) ?_
        refine z_ixor hx hb dX6_otherColumns_22 (pn jj) (qn jj) (by omega) (by omega) ?_
        refine z_ior hx hb dX6_otherColumns_23 (orX pn qn jj) ((pn jj) ^^^ (qn jj)) (by omega) (by omega) ?_
        refine lv_istore_n (lv' := [(2, .int (zI (((orX pn qn jj) ||| ((pn jj) ^^^ (qn jj)) : Nat) : Int))), (0, .ref h6), (1, .ref h9), (3, .int (zI ((jj : Nat) : Int)))]) hx hb dX6_otherColumns_24 rfl hl (by decide) rfl (fun ls hl => ?_)
        refine lv_iinc (v := zI (((jj : Nat) : Int) + 1)) (lv' := [(3, .int (zI (((jj : Nat) : Int) + 1))), (2, .int (zI (((orX pn qn jj) ||| ((pn jj) ^^^ (qn jj)) : Nat) : Int))), (0, .ref h6), (1, .ref h9)]) hx hb dX6_otherColumns_25 hl (k := 3) rfl (zI_add _ _) (by decide) rfl (fun ls hl => ?_)
        refine lv_goto (tgt := 4) hx hb dX6_otherColumns_28 (by decide) ?_
        have hl : lv_has ls 4 [(3, .int (zI (((jj : Nat) : Int) + 1))), (2, .int (zI ((orX pn qn (jj + 1) : Nat) : Int))), (0, .ref h6), (1, .ref h9)] := lv_c (l1 := [(3, .int (zI (((jj : Nat) : Int) + 1)))]) (l2 := [(0, .ref h6), (1, .ref h9)]) hl (show (((orX pn qn jj) ||| ((pn jj) ^^^ (qn jj)) : Nat) : Int) = ((orX pn qn (jj + 1) : Nat) : Int) from rfl)
        have hl : lv_has ls 4 [(3, .int (zI (((jj + 1) : Nat) : Int))), (2, .int (zI ((orX pn qn (jj + 1) : Nat) : Int))), (0, .ref h6), (1, .ref h9)] := lv_c (l1 := []) (l2 := [(2, .int (zI ((orX pn qn (jj + 1) : Nat) : Int))), (0, .ref h6), (1, .ref h9)]) hl (show ((jj : Nat) : Int) + 1 = (((jj + 1) : Nat) : Int) from by omega)
        exact ih4 (jj + 1) (by omega) (by omega) ls (lv_sub hl [2, 3, 1, 0] rfl)
  have hl : lv_has ls 4 [(3, .int (zI 0)), (2, .int (zI ((orX pn qn 0 : Nat) : Int))), (0, .ref h6), (1, .ref h9)] := lv_c (l1 := [(3, .int (zI 0))]) (l2 := [(0, .ref h6), (1, .ref h9)]) hl (show 0 = ((orX pn qn 0 : Nat) : Int) from rfl)
  have hl : lv_has ls 4 [(3, .int (zI ((0 : Nat) : Int))), (2, .int (zI ((orX pn qn 0 : Nat) : Int))), (0, .ref h6), (1, .ref h9)] := lv_c (l1 := []) (l2 := [(2, .int (zI ((orX pn qn 0 : Nat) : Int))), (0, .ref h6), (1, .ref h9)]) hl (show 0 = ((0 : Nat) : Int) from rfl)
  exact L4 _ 0 (by decide) (Nat.lt_succ_self _) ls (lv_sub hl [2, 3, 1, 0] rfl)
