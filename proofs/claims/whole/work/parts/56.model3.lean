set_option maxHeartbeats 4000000 in
set_option maxRecDepth 100000 in
theorem m_notes (l : Launch) (D : va_G) (k : Kt) (q0 : Nat) (qn : Nat) (qa : Nat) (qp : Nat) (qi : Nat) (qs : Nat) (qk : Nat) (qb : Nat) (qt : Nat) (qh : Nat) (qe : Nat) (de : Nat) (sv : Int) (bn : Nat) (f : St) (pa : Nat → Int) (hde : de ≤ 20) : MU l D k yX10_notes wsX10_notes 0 0 [.ref q0] [(q0, .inr (10, [.ref qn, .ref qa, .ref qp, .int (zI ((de : Nat) : Int)), .ref qi, .ref qs, .ref qk, .long (zL sv), .ref qb, .int (zI ((bn : Nat) : Int)), .ref qt, .ref qh, .ref qe])), (qn, .inl (k.1, 132, .inl (zF f))), (qp, .inl (k.1, 2640, .inl (zF pa)))] (fun (u : Unit) => True) (fun u => [(q0, .inr (10, [.ref qn, .ref qa, .ref qp, .int (zI ((ntD de + 1 : Nat) : Int)), .ref qi, .ref qs, .ref qk, .long (zL sv), .ref qb, .int (zI ((bn : Nat) : Int)), .ref qt, .ref qh, .ref qe])), (qn, .inl (k.1, 132, .inl (zF f))), (qp, .inl (k.1, 2640, .inl (zF (cpZ f (ntP pa de) 0 (132 * ntD de) 132))))]) := by
  refine Met.ofW (cc := cX10_notes) (maxL := 2) (ret := none) (by decide) rfl ?_
  intro p e s m args below meth c s₁ Bd hml hv
  obtain ⟨rfl, hP, hK, hD0⟩ := hv
  have hx := Bd.exec
  have hb := Bd.bytes
  have hr := Bd.returns
  have hts := atoms_spec (ws := wsX10_notes) Bd.pre
  have hown : s.vm.findClass RX10 = some m.cls := findClass_of_methodNamed Bd.named
  have hlocks := Bd.notSynchronized
  have hSf : CallFix p m c cX10_notes 2 s ([.ref q0] : List Value).toArray wsX10_notes RX10 := ⟨hx, hb, hml, hown, hts⟩
  have hD := fA_D hD0
  have hS : va_S (fA [(q0, .inr (10, [.ref qn, .ref qa, .ref qp, .int (zI ((de : Nat) : Int)), .ref qi, .ref qs, .ref qk, .long (zL sv), .ref qb, .int (zI ((bn : Nat) : Int)), .ref qt, .ref qh, .ref qe])), (qn, .inl (k.1, 132, .inl (zF f))), (qp, .inl (k.1, 2640, .inl (zF pa)))]) s.heap s.heap [] := va_S.rf
  generalize hAe : fA [(q0, .inr (10, [.ref qn, .ref qa, .ref qp, .int (zI ((de : Nat) : Int)), .ref qi, .ref qs, .ref qk, .long (zL sv), .ref qb, .int (zI ((bn : Nat) : Int)), .ref qt, .ref qh, .ref qe])), (qn, .inl (k.1, 132, .inl (zF f))), (qp, .inl (k.1, 2640, .inl (zF pa)))] = A at hD hS ⊢
  have hP : va_P D vwCl [(q0, .inr (10, [.ref qn, .ref qa, .ref qp, .int (zI ((de : Nat) : Int)), .ref qi, .ref qs, .ref qk, .long (zL sv), .ref qb, .int (zI ((bn : Nat) : Int)), .ref qt, .ref qh, .ref qe])), (qn, .inl (k.1, 132, .inl (zF f))), (qp, .inl (k.1, 2640, .inl (zF pa)))] s.heap := hP
  have hinX10 : ∀ w ∈ u_ws RX10 TX10 13, w ∈ wsX10_notes := by decide +kernel
  have fl46 := hts (.fieldLink RX10 46 "DotObjectsModel" "deeds" "I") (by decide +kernel)
  have fl16 := hts (.fieldLink RX10 16 "DotObjectsModel" "past" "[I") (by decide +kernel)
  have fl7 := hts (.fieldLink RX10 7 "DotObjectsModel" "now" "[I") (by decide +kernel)
  have hl := lv_entry ([.ref q0]) (n := 2) (Nat.le_of_ble_eq_true rfl)
  rw [lg_entry_eq]
  generalize (lg_sl ([.ref q0]) ++ List.replicate (2 - (lg_sl ([.ref q0])).length) Slot.unset).toArray = ls at hl ⊢
  have hl : lv_has ls 2 [(0, .ref q0)] := hl
  have L50 : ∀ (dd : Nat) (pb : Nat → Int), (dd < 20) → (dd = ntD de) → (pb = ntP pa de) → ∀ (H : Heap) (locs : List Loc), va_P D vwCl [(q0, .inr (10, [.ref qn, .ref qa, .ref qp, .int (zI ((dd : Nat) : Int)), .ref qi, .ref qs, .ref qk, .long (zL sv), .ref qb, .int (zI ((bn : Nat) : Int)), .ref qt, .ref qh, .ref qe])), (qn, .inl (k.1, 132, .inl (zF f))), (qp, .inl (k.1, 2640, .inl (zF pb)))] H → va_D A [(q0, .inr (10, [.ref qn, .ref qa, .ref qp, .int (zI ((dd : Nat) : Int)), .ref qi, .ref qs, .ref qk, .long (zL sv), .ref qb, .int (zI ((bn : Nat) : Int)), .ref qt, .ref qh, .ref qe])), (qn, .inl (k.1, 132, .inl (zF f))), (qp, .inl (k.1, 2640, .inl (zF pb)))] → va_S A s.heap H locs → ∀ (ls : Array Slot), lv_has ls 2 [(0, .ref q0)] → W p l e (headSpec wsX10_notes { frames := 0, cells := 0, slots := 0, locals := 0 }).room s m ([.ref q0] : List Value).toArray below meth c H locs 0 0 (MQ below (va_Qv (fun (u : Unit) => True) (fun (u : Unit) t => va_P D vwCl [(q0, .inr (10, [.ref qn, .ref qa, .ref qp, .int (zI ((ntD de + 1 : Nat) : Int)), .ref qi, .ref qs, .ref qk, .long (zL sv), .ref qb, .int (zI ((bn : Nat) : Int)), .ref qt, .ref qh, .ref qe])), (qn, .inl (k.1, 132, .inl (zF f))), (qp, .inl (k.1, 2640, .inl (zF (cpZ f (ntP pa de) 0 (132 * ntD de) 132))))] t.heap) A) ([.ref q0] : List Value).toArray s 0 0 A) (F0 m 50 ls []) := by
    intro dd pb hdd hd1 hp1 H locs hP hD hS ls hl
    refine z_iconst hx hb dX10_notes_50 ?_
    refine lv_istore_n (lv' := [(1, .int (zI 0)), (0, .ref q0)]) hx hb dX10_notes_51 rfl hl (by decide) rfl (fun ls hl => ?_)
    have L52 : ∀ (NN52 : Nat), ∀ (jj : Nat), (jj ≤ 132) → 132 - jj < NN52 → ∀ (H : Heap) (locs : List Loc), va_P D vwCl [(q0, .inr (10, [.ref qn, .ref qa, .ref qp, .int (zI ((dd : Nat) : Int)), .ref qi, .ref qs, .ref qk, .long (zL sv), .ref qb, .int (zI ((bn : Nat) : Int)), .ref qt, .ref qh, .ref qe])), (qn, .inl (k.1, 132, .inl (zF f))), (qp, .inl (k.1, 2640, .inl (zF (cpZ f pb 0 (132 * dd) jj))))] H → va_D A [(q0, .inr (10, [.ref qn, .ref qa, .ref qp, .int (zI ((dd : Nat) : Int)), .ref qi, .ref qs, .ref qk, .long (zL sv), .ref qb, .int (zI ((bn : Nat) : Int)), .ref qt, .ref qh, .ref qe])), (qn, .inl (k.1, 132, .inl (zF f))), (qp, .inl (k.1, 2640, .inl (zF (cpZ f pb 0 (132 * dd) jj))))] → va_S A s.heap H locs → ∀ (ls : Array Slot), lv_has ls 2 [(0, .ref q0), (1, .int (zI ((jj : Nat) : Int)))] → W p l e (headSpec wsX10_notes { frames := 0, cells := 0, slots := 0, locals := 0 }).room s m ([.ref q0] : List Value).toArray below meth c H locs 0 0 (MQ below (va_Qv (fun (u : Unit) => True) (fun (u : Unit) t => va_P D vwCl [(q0, .inr (10, [.ref qn, .ref qa, .ref qp, .int (zI ((ntD de + 1 : Nat) : Int)), .ref qi, .ref qs, .ref qk, .long (zL sv), .ref qb, .int (zI ((bn : Nat) : Int)), .ref qt, .ref qh, .ref qe])), (qn, .inl (k.1, 132, .inl (zF f))), (qp, .inl (k.1, 2640, .inl (zF (cpZ f (ntP pa de) 0 (132 * ntD de) 132))))] t.heap) A) ([.ref q0] : List Value).toArray s 0 0 A) (F0 m 52 ls []) := by
      intro NN52
      induction NN52 with
      | zero => intro jj _ hN; exact absurd hN (Nat.not_lt_zero _)
      | succ NN52 ih52 =>
        intro jj hjj hN H locs hP hD hS ls hl
        refine lv_iload_n hx hb dX10_notes_52 rfl (lv_at hl 1 rfl) ?_
        refine z_sipush hx hb dX10_notes_53 (by decide +kernel) ?_
        refine z_icmp_ge (tgt := 86) hx hb dX10_notes_56 (by decide) (by omega) (by omega) (fun c_56 => ?_) (fun c_56 => ?_)
        · have hj : jj = 132 := by omega
          rw [hj] at hP hD
          refine lv_aload_n hx hb dX10_notes_86 rfl (lv_at hl 0 rfl) ?_
          refine lv_dup hx hb dX10_notes_87 rfl ?_
          refine va_get (D := D) (ci := 10) (v := .int (zI ((dd : Nat) : Int))) (C := RX10) (T := TX10) (N := 13) hx hb hts hinX10 hown hK.1 hP 0 rfl rfl 3 (by decide) fl46 (fun _ h9 => h9) rfl dX10_notes_88 ?_
          refine z_iconst hx hb dX10_notes_91 ?_
          refine z_iadd hx hb dX10_notes_92 ?_
          refine te (zc (show ((dd : Nat) : Int) + 1 = ((dd + 1 : Nat) : Int) from by omega)) ?_
          refine va_put (D := D) (ci := 10) (v := .int (zI ((dd + 1 : Nat) : Int))) (ty := .int) (C := RX10) (T := TX10) (N := 13) hx hb hts hinX10 tyX10 tyX10_ok nmX10 hown hK.1 hP hD hS 0 rfl rfl 3 (by decide) fl46 (fun _ h9 => h9) rfl (by decide +kernel) rfl rfl (Nat.le_of_ble_eq_true rfl) dX10_notes_93 (fun H locs hP hD hS => ?_)
          have hP : va_P D vwCl [(q0, .inr (10, [.ref qn, .ref qa, .ref qp, .int (zI ((dd + 1 : Nat) : Int)), .ref qi, .ref qs, .ref qk, .long (zL sv), .ref qb, .int (zI ((bn : Nat) : Int)), .ref qt, .ref qh, .ref qe])), (qn, .inl (k.1, 132, .inl (zF f))), (qp, .inl (k.1, 2640, .inl (zF (cpZ f pb 0 (132 * dd) 132))))] H := hP
          have hD : va_D A [(q0, .inr (10, [.ref qn, .ref qa, .ref qp, .int (zI ((dd + 1 : Nat) : Int)), .ref qi, .ref qs, .ref qk, .long (zL sv), .ref qb, .int (zI ((bn : Nat) : Int)), .ref qt, .ref qh, .ref qe])), (qn, .inl (k.1, 132, .inl (zF f))), (qp, .inl (k.1, 2640, .inl (zF (cpZ f pb 0 (132 * dd) 132))))] := hD
          rw [hd1, hp1] at hP
          exact W.vret hx hb hr (fun t ht hW => ⟨⟨(), rfl, trivial, by show va_P D vwCl _ _; rw [ht]; exact hP⟩, hS.F ht⟩) hS.2.2 dX10_notes_96
        · refine lv_aload_n hx hb dX10_notes_59 rfl (lv_at hl 0 rfl) ?_
          refine va_get (D := D) (ci := 10) (v := .ref qp) (C := RX10) (T := TX10) (N := 13) hx hb hts hinX10 hown hK.1 hP 0 rfl rfl 2 (by decide) fl16 (fun _ h9 => h9) rfl dX10_notes_60 ?_
          refine z_sipush hx hb dX10_notes_63 (by decide +kernel) ?_
          refine lv_aload_n hx hb dX10_notes_66 rfl (lv_at hl 0 rfl) ?_
          refine va_get (D := D) (ci := 10) (v := .int (zI ((dd : Nat) : Int))) (C := RX10) (T := TX10) (N := 13) hx hb hts hinX10 hown hK.1 hP 0 rfl rfl 3 (by decide) fl46 (fun _ h9 => h9) rfl dX10_notes_67 ?_
          refine z_imul hx hb dX10_notes_70 ?_
          refine lv_iload_n hx hb dX10_notes_71 rfl (lv_at hl 1 rfl) ?_
          refine z_iadd hx hb dX10_notes_72 ?_
          refine lv_aload_n hx hb dX10_notes_73 rfl (lv_at hl 0 rfl) ?_
          refine va_get (D := D) (ci := 10) (v := .ref qn) (C := RX10) (T := TX10) (N := 13) hx hb hts hinX10 hown hK.1 hP 0 rfl rfl 0 (by decide) fl7 (fun _ h9 => h9) rfl dX10_notes_74 ?_
          refine lv_iload_n hx hb dX10_notes_77 rfl (lv_at hl 1 rfl) ?_
          refine z_ald hx hb hK hP 1 rfl (jj) (by omega) (by omega) (Nat.le_of_ble_eq_true rfl) dX10_notes_78 ?_
          refine z_ast hx hb hK hP hD hS 2 rfl (132 * dd + jj) (by omega) (by omega) (Nat.le_of_ble_eq_true rfl) dX10_notes_79 (fun H locs hP hD hS => ?_)
          have hP : va_P D vwCl [(q0, .inr (10, [.ref qn, .ref qa, .ref qp, .int (zI ((dd : Nat) : Int)), .ref qi, .ref qs, .ref qk, .long (zL sv), .ref qb, .int (zI ((bn : Nat) : Int)), .ref qt, .ref qh, .ref qe])), (qn, .inl (k.1, 132, .inl (zF f))), (qp, .inl (k.1, 2640, .inl (zF (upZ (cpZ f pb 0 (132 * dd) jj) (132 * dd + jj) (f jj)))))] H := hP
          have hD : va_D A [(q0, .inr (10, [.ref qn, .ref qa, .ref qp, .int (zI ((dd : Nat) : Int)), .ref qi, .ref qs, .ref qk, .long (zL sv), .ref qb, .int (zI ((bn : Nat) : Int)), .ref qt, .ref qh, .ref qe])), (qn, .inl (k.1, 132, .inl (zF f))), (qp, .inl (k.1, 2640, .inl (zF (upZ (cpZ f pb 0 (132 * dd) jj) (132 * dd + jj) (f jj)))))] := hD
          rw [show upZ (cpZ f pb 0 (132 * dd) jj) (132 * dd + jj) (f jj) = cpZ f pb 0 (132 * dd) (jj + 1) from cpZ_s rfl (by rw [Nat.zero_add])] at hP hD
          refine lv_iinc (v := zI (((jj : Nat) : Int) + 1)) (lv' := [(1, .int (zI (((jj : Nat) : Int) + 1))), (0, .ref q0)]) hx hb dX10_notes_80 hl (k := 1) rfl (zI_add _ _) (by decide) rfl (fun ls hl => ?_)
          refine lv_goto (tgt := 52) hx hb dX10_notes_83 (by decide) ?_
          have hl : lv_has ls 2 [(1, .int (zI (((jj + 1) : Nat) : Int))), (0, .ref q0)] := lv_c (l1 := []) (l2 := [(0, .ref q0)]) hl (show ((jj : Nat) : Int) + 1 = (((jj + 1) : Nat) : Int) from by omega)
          exact ih52 (jj + 1) (by omega) (by omega) _ _ hP hD hS ls (lv_sub hl [1, 0] rfl)
    have hl : lv_has ls 2 [(1, .int (zI ((0 : Nat) : Int))), (0, .ref q0)] := lv_c (l1 := []) (l2 := [(0, .ref q0)]) hl (show 0 = ((0 : Nat) : Int) from rfl)
    exact L52 _ 0 (by decide) (Nat.lt_succ_self _) _ _ (by rw [cpZ_0]; exact hP) (by rw [cpZ_0]; exact hD) hS ls (lv_sub hl [1, 0] rfl)
  refine lv_aload_n hx hb dX10_notes_0 rfl (lv_at hl 0 rfl) ?_
  refine va_get (D := D) (ci := 10) (v := .int (zI ((de : Nat) : Int))) (C := RX10) (T := TX10) (N := 13) hx hb hts hinX10 hown hK.1 hP 0 rfl rfl 3 (by decide) fl46 (fun _ h9 => h9) rfl dX10_notes_1 ?_
  refine z_bipush hx hb dX10_notes_4 (by decide +kernel) ?_
  refine z_icmp_ne (tgt := 50) hx hb dX10_notes_6 (by decide) (by omega) (by omega) (fun c_6 => ?_) (fun c_6 => ?_)
  · exact L50 de pa (by omega) (if_neg (by omega)).symm (if_neg (by omega)).symm _ _ hP hD hS ls (lv_sub hl [0] rfl)
  · refine z_iconst hx hb dX10_notes_9 ?_
    refine lv_istore_n (lv' := [(1, .int (zI 0)), (0, .ref q0)]) hx hb dX10_notes_10 rfl hl (by decide) rfl (fun ls hl => ?_)
    have L11 : ∀ (NN11 : Nat), ∀ (jj : Nat), (jj ≤ 2508) → 2508 - jj < NN11 → ∀ (H : Heap) (locs : List Loc), va_P D vwCl [(q0, .inr (10, [.ref qn, .ref qa, .ref qp, .int (zI ((de : Nat) : Int)), .ref qi, .ref qs, .ref qk, .long (zL sv), .ref qb, .int (zI ((bn : Nat) : Int)), .ref qt, .ref qh, .ref qe])), (qn, .inl (k.1, 132, .inl (zF f))), (qp, .inl (k.1, 2640, .inl (zF (cpZ pa pa 132 0 jj))))] H → va_D A [(q0, .inr (10, [.ref qn, .ref qa, .ref qp, .int (zI ((de : Nat) : Int)), .ref qi, .ref qs, .ref qk, .long (zL sv), .ref qb, .int (zI ((bn : Nat) : Int)), .ref qt, .ref qh, .ref qe])), (qn, .inl (k.1, 132, .inl (zF f))), (qp, .inl (k.1, 2640, .inl (zF (cpZ pa pa 132 0 jj))))] → va_S A s.heap H locs → ∀ (ls : Array Slot), lv_has ls 2 [(0, .ref q0), (1, .int (zI ((jj : Nat) : Int)))] → W p l e (headSpec wsX10_notes { frames := 0, cells := 0, slots := 0, locals := 0 }).room s m ([.ref q0] : List Value).toArray below meth c H locs 0 0 (MQ below (va_Qv (fun (u : Unit) => True) (fun (u : Unit) t => va_P D vwCl [(q0, .inr (10, [.ref qn, .ref qa, .ref qp, .int (zI ((ntD de + 1 : Nat) : Int)), .ref qi, .ref qs, .ref qk, .long (zL sv), .ref qb, .int (zI ((bn : Nat) : Int)), .ref qt, .ref qh, .ref qe])), (qn, .inl (k.1, 132, .inl (zF f))), (qp, .inl (k.1, 2640, .inl (zF (cpZ f (ntP pa de) 0 (132 * ntD de) 132))))] t.heap) A) ([.ref q0] : List Value).toArray s 0 0 A) (F0 m 11 ls []) := by
      intro NN11
      induction NN11 with
      | zero => intro jj _ hN; exact absurd hN (Nat.not_lt_zero _)
      | succ NN11 ih11 =>
        intro jj hjj hN H locs hP hD hS ls hl
        refine lv_iload_n hx hb dX10_notes_11 rfl (lv_at hl 1 rfl) ?_
        refine z_sipush hx hb dX10_notes_12 (by decide +kernel) ?_
        refine z_icmp_ge (tgt := 40) hx hb dX10_notes_15 (by decide) (by omega) (by omega) (fun c_15 => ?_) (fun c_15 => ?_)
        · have hj : jj = 2508 := by omega
          rw [hj] at hP hD
          refine lv_aload_n hx hb dX10_notes_40 rfl (lv_at hl 0 rfl) ?_
          refine lv_dup hx hb dX10_notes_41 rfl ?_
          refine va_get (D := D) (ci := 10) (v := .int (zI ((de : Nat) : Int))) (C := RX10) (T := TX10) (N := 13) hx hb hts hinX10 hown hK.1 hP 0 rfl rfl 3 (by decide) fl46 (fun _ h9 => h9) rfl dX10_notes_42 ?_
          refine z_iconst hx hb dX10_notes_45 ?_
          refine z_isub hx hb dX10_notes_46 ?_
          refine te (zc (show ((de : Nat) : Int) - 1 = ((19 : Nat) : Int) from by omega)) ?_
          refine va_put (D := D) (ci := 10) (v := .int (zI ((19 : Nat) : Int))) (ty := .int) (C := RX10) (T := TX10) (N := 13) hx hb hts hinX10 tyX10 tyX10_ok nmX10 hown hK.1 hP hD hS 0 rfl rfl 3 (by decide) fl46 (fun _ h9 => h9) rfl (by decide +kernel) rfl rfl (Nat.le_of_ble_eq_true rfl) dX10_notes_47 (fun H locs hP hD hS => ?_)
          have hP : va_P D vwCl [(q0, .inr (10, [.ref qn, .ref qa, .ref qp, .int (zI ((19 : Nat) : Int)), .ref qi, .ref qs, .ref qk, .long (zL sv), .ref qb, .int (zI ((bn : Nat) : Int)), .ref qt, .ref qh, .ref qe])), (qn, .inl (k.1, 132, .inl (zF f))), (qp, .inl (k.1, 2640, .inl (zF (cpZ pa pa 132 0 2508))))] H := hP
          have hD : va_D A [(q0, .inr (10, [.ref qn, .ref qa, .ref qp, .int (zI ((19 : Nat) : Int)), .ref qi, .ref qs, .ref qk, .long (zL sv), .ref qb, .int (zI ((bn : Nat) : Int)), .ref qt, .ref qh, .ref qe])), (qn, .inl (k.1, 132, .inl (zF f))), (qp, .inl (k.1, 2640, .inl (zF (cpZ pa pa 132 0 2508))))] := hD
          exact L50 19 (cpZ pa pa 132 0 2508) (by decide) (if_pos (by omega)).symm (if_pos (by omega)).symm _ _ hP hD hS ls (lv_sub hl [0] rfl)
        · refine lv_aload_n hx hb dX10_notes_18 rfl (lv_at hl 0 rfl) ?_
          refine va_get (D := D) (ci := 10) (v := .ref qp) (C := RX10) (T := TX10) (N := 13) hx hb hts hinX10 hown hK.1 hP 0 rfl rfl 2 (by decide) fl16 (fun _ h9 => h9) rfl dX10_notes_19 ?_
          refine lv_iload_n hx hb dX10_notes_22 rfl (lv_at hl 1 rfl) ?_
          refine lv_aload_n hx hb dX10_notes_23 rfl (lv_at hl 0 rfl) ?_
          refine va_get (D := D) (ci := 10) (v := .ref qp) (C := RX10) (T := TX10) (N := 13) hx hb hts hinX10 hown hK.1 hP 0 rfl rfl 2 (by decide) fl16 (fun _ h9 => h9) rfl dX10_notes_24 ?_
          refine lv_iload_n hx hb dX10_notes_27 rfl (lv_at hl 1 rfl) ?_
          refine z_sipush hx hb dX10_notes_28 (by decide +kernel) ?_
          refine z_iadd hx hb dX10_notes_31 ?_
          refine z_ald hx hb hK hP 2 rfl (jj + 132) (by omega) (by omega) (Nat.le_of_ble_eq_true rfl) dX10_notes_32 ?_
          refine te (zc (show (cpZ pa pa 132 0 jj) (jj + 132) = pa (jj + 132) from cpZ_out (by omega))) ?_
          refine z_ast hx hb hK hP hD hS 2 rfl (jj) (by omega) (by omega) (Nat.le_of_ble_eq_true rfl) dX10_notes_33 (fun H locs hP hD hS => ?_)
          have hP : va_P D vwCl [(q0, .inr (10, [.ref qn, .ref qa, .ref qp, .int (zI ((de : Nat) : Int)), .ref qi, .ref qs, .ref qk, .long (zL sv), .ref qb, .int (zI ((bn : Nat) : Int)), .ref qt, .ref qh, .ref qe])), (qn, .inl (k.1, 132, .inl (zF f))), (qp, .inl (k.1, 2640, .inl (zF (upZ (cpZ pa pa 132 0 jj) jj (pa (jj + 132))))))] H := hP
          have hD : va_D A [(q0, .inr (10, [.ref qn, .ref qa, .ref qp, .int (zI ((de : Nat) : Int)), .ref qi, .ref qs, .ref qk, .long (zL sv), .ref qb, .int (zI ((bn : Nat) : Int)), .ref qt, .ref qh, .ref qe])), (qn, .inl (k.1, 132, .inl (zF f))), (qp, .inl (k.1, 2640, .inl (zF (upZ (cpZ pa pa 132 0 jj) jj (pa (jj + 132))))))] := hD
          rw [show upZ (cpZ pa pa 132 0 jj) jj (pa (jj + 132)) = cpZ pa pa 132 0 (jj + 1) from cpZ_s (by omega) (by rw [Nat.add_comm])] at hP hD
          refine lv_iinc (v := zI (((jj : Nat) : Int) + 1)) (lv' := [(1, .int (zI (((jj : Nat) : Int) + 1))), (0, .ref q0)]) hx hb dX10_notes_34 hl (k := 1) rfl (zI_add _ _) (by decide) rfl (fun ls hl => ?_)
          refine lv_goto (tgt := 11) hx hb dX10_notes_37 (by decide) ?_
          have hl : lv_has ls 2 [(1, .int (zI (((jj + 1) : Nat) : Int))), (0, .ref q0)] := lv_c (l1 := []) (l2 := [(0, .ref q0)]) hl (show ((jj : Nat) : Int) + 1 = (((jj + 1) : Nat) : Int) from by omega)
          exact ih11 (jj + 1) (by omega) (by omega) _ _ hP hD hS ls (lv_sub hl [1, 0] rfl)
    have hl : lv_has ls 2 [(1, .int (zI ((0 : Nat) : Int))), (0, .ref q0)] := lv_c (l1 := []) (l2 := [(0, .ref q0)]) hl (show 0 = ((0 : Nat) : Int) from rfl)
    exact L11 _ 0 (by decide) (Nat.lt_succ_self _) _ _ (by rw [cpZ_0]; exact hP) (by rw [cpZ_0]; exact hD) hS ls (lv_sub hl [1, 0] rfl)
set_option maxHeartbeats 4000000 in
set_option maxRecDepth 100000 in
theorem m_row (l : Launch) (D : va_G) (k : Kt) (q0 : Nat) (qn : Nat) (qa : Nat) (qp : Nat) (qi : Nat) (qs : Nat) (qk : Nat) (qb : Nat) (qt : Nat) (qh : Nat) (qe : Nat) (de : Nat) (sv : Int) (bn : Nat) (f : St) (B : Int) (hV : Va B f) (hB : B < 1000000) (pa : Nat → Int) (hde : de ≤ 20) (x1 : Int) (x2 : Int) (x3 : Int) (hx1 : -2147483648 ≤ x1 ∧ x1 < 2147483648) (hx2 : -2147483648 ≤ x2 ∧ x2 < 2147483648) (hx3 : -2147483648 ≤ x3 ∧ x3 < 2147483648) : MI l D k yX10_row wsX10_row 1 22 [.ref q0, .int (zI x1), .int (zI x2), .int (zI x3)] [(q0, .inr (10, [.ref qn, .ref qa, .ref qp, .int (zI ((de : Nat) : Int)), .ref qi, .ref qs, .ref qk, .long (zL sv), .ref qb, .int (zI ((bn : Nat) : Int)), .ref qt, .ref qh, .ref qe])), (qn, .inl (k.1, 132, .inl (zF f))), (qp, .inl (k.1, 2640, .inl (zF pa)))] (fun (r : Int32) (u : St × HM) => r = zI (if 0 ≤ x1 ∧ x1 ≤ 3 then (if (0 ≤ x2 ∧ x2 ≤ 7) ∧ (0 ≤ x3 ∧ x3 ≤ 255) then f (4 + 8 * x1.toNat + x2.toNat) else -1000000002) else -1000000001) ∧ u = if (0 ≤ x1 ∧ x1 ≤ 3) ∧ (0 ≤ x2 ∧ x2 ≤ 7) ∧ (0 ≤ x3 ∧ x3 ≤ 255) then (upZ f (4 + 8 * x1.toNat + x2.toNat) x3, ntH f (de, pa)) else (f, de, pa)) (fun u => [(q0, .inr (10, [.ref qn, .ref qa, .ref qp, .int (zI ((u.2.1 : Nat) : Int)), .ref qi, .ref qs, .ref qk, .long (zL sv), .ref qb, .int (zI ((bn : Nat) : Int)), .ref qt, .ref qh, .ref qe])), (qn, .inl (k.1, 132, .inl (zF u.1))), (qp, .inl (k.1, 2640, .inl (zF u.2.2)))]) := by
  refine Met.ofW (cc := cX10_row) (maxL := 5) (ret := (some .int)) (by decide) rfl ?_
  intro p e s m args below meth c s₁ Bd hml hv
  obtain ⟨rfl, hP, hK, hD0⟩ := hv
  have hx := Bd.exec
  have hb := Bd.bytes
  have hr := Bd.returns
  have hts := atoms_spec (ws := wsX10_row) Bd.pre
  have hown : s.vm.findClass RX10 = some m.cls := findClass_of_methodNamed Bd.named
  have hlocks := Bd.notSynchronized
  have hSf : CallFix p m c cX10_row 5 s ([.ref q0, .int (zI x1), .int (zI x2), .int (zI x3)] : List Value).toArray wsX10_row RX10 := ⟨hx, hb, hml, hown, hts⟩
  have hD := fA_D hD0
  have hS : va_S (fA [(q0, .inr (10, [.ref qn, .ref qa, .ref qp, .int (zI ((de : Nat) : Int)), .ref qi, .ref qs, .ref qk, .long (zL sv), .ref qb, .int (zI ((bn : Nat) : Int)), .ref qt, .ref qh, .ref qe])), (qn, .inl (k.1, 132, .inl (zF f))), (qp, .inl (k.1, 2640, .inl (zF pa)))]) s.heap s.heap [] := va_S.rf
  generalize hAe : fA [(q0, .inr (10, [.ref qn, .ref qa, .ref qp, .int (zI ((de : Nat) : Int)), .ref qi, .ref qs, .ref qk, .long (zL sv), .ref qb, .int (zI ((bn : Nat) : Int)), .ref qt, .ref qh, .ref qe])), (qn, .inl (k.1, 132, .inl (zF f))), (qp, .inl (k.1, 2640, .inl (zF pa)))] = A at hD hS ⊢
  have hP : va_P D vwCl [(q0, .inr (10, [.ref qn, .ref qa, .ref qp, .int (zI ((de : Nat) : Int)), .ref qi, .ref qs, .ref qk, .long (zL sv), .ref qb, .int (zI ((bn : Nat) : Int)), .ref qt, .ref qh, .ref qe])), (qn, .inl (k.1, 132, .inl (zF f))), (qp, .inl (k.1, 2640, .inl (zF pa)))] s.heap := hP
  have hinX10 : ∀ w ∈ u_ws RX10 TX10 13, w ∈ wsX10_row := by decide +kernel
  have fl7 := hts (.fieldLink RX10 7 "DotObjectsModel" "now" "[I") (by decide +kernel)
  have hl := lv_entry ([.ref q0, .int (zI x1), .int (zI x2), .int (zI x3)]) (n := 5) (Nat.le_of_ble_eq_true rfl)
  rw [lg_entry_eq]
  generalize (lg_sl ([.ref q0, .int (zI x1), .int (zI x2), .int (zI x3)]) ++ List.replicate (5 - (lg_sl ([.ref q0, .int (zI x1), .int (zI x2), .int (zI x3)])).length) Slot.unset).toArray = ls at hl ⊢
  have hl : lv_has ls 5 [(0, .ref q0), (1, .int (zI x1)), (2, .int (zI x2)), (3, .int (zI x3))] := hl
  refine lv_iload_n hx hb dX10_row_0 rfl (lv_at hl 1 rfl) ?_
  refine z_iconst hx hb dX10_row_1 ?_
  refine z_iconst hx hb dX10_row_2 ?_
  refine roS (n := 3) (As := [.int (zI x1), .int (zI 0), .int (zI 3)]) (rest := []) hSf (m_in l D k x1 0 3 (by omega) (by omega) (by omega)) gX10_row_X10_in rfl (by decide +kernel) ⟨Nat.le_of_ble_eq_true rfl, Nat.le_of_ble_eq_true rfl⟩ hK hP [] rfl rfl hl.1 rfl (Nat.le_of_ble_eq_true rfl) dX10_row_3 ⟨Nat.zero_le _, Nat.zero_le _⟩ (fun r_3 h_3 => ?_)
  subst h_3
  refine z_if_neb (tgt := 12) hx hb dX10_row_6 (by decide) (fun c_6 => ?_) (fun c_6 => ?_)
  · simp only [Bool.and_eq_true, decide_eq_true_eq] at c_6
    refine lv_iload_n hx hb dX10_row_12 rfl (lv_at hl 2 rfl) ?_
    refine z_iconst hx hb dX10_row_13 ?_
    refine z_bipush hx hb dX10_row_14 (by decide +kernel) ?_
    refine roS (n := 3) (As := [.int (zI x2), .int (zI 0), .int (zI 7)]) (rest := []) hSf (m_in l D k x2 0 7 (by omega) (by omega) (by omega)) gX10_row_X10_in rfl (by decide +kernel) ⟨Nat.le_of_ble_eq_true rfl, Nat.le_of_ble_eq_true rfl⟩ hK hP [] rfl rfl hl.1 rfl (Nat.le_of_ble_eq_true rfl) dX10_row_16 ⟨Nat.zero_le _, Nat.zero_le _⟩ (fun r_16 h_16 => ?_)
    subst h_16
    refine z_if_eqb (tgt := 33) hx hb dX10_row_19 (by decide) (fun c_19 => ?_) (fun c_19 => ?_)
    · simp only [Bool.and_eq_false_iff, decide_eq_false_iff_not] at c_19
      refine lv_ldc hx hb hown (hts (.constant RX10 112 (-1000000002)) (by decide +kernel)) dX10_row_33 ?_
      refine te (show (-1000000002 : Int32) = zI (-1000000002) from by decide +kernel) ?_
      exact W.iret hx hb hr (fun t ht hW => ⟨⟨_, (f, de, pa), rfl, ⟨zc (by rw [if_pos (by omega), if_neg (by omega)]), by rw [if_neg (by omega)]⟩, by show va_P D vwCl _ _; rw [ht]; exact hP⟩, hS.F ht⟩) hS.2.2 dX10_row_35
    · simp only [Bool.and_eq_true, decide_eq_true_eq] at c_19
      refine lv_iload_n hx hb dX10_row_22 rfl (lv_at hl 3 rfl) ?_
      refine z_iconst hx hb dX10_row_23 ?_
      refine z_sipush hx hb dX10_row_24 (by decide +kernel) ?_
      refine roS (n := 3) (As := [.int (zI x3), .int (zI 0), .int (zI 255)]) (rest := []) hSf (m_in l D k x3 0 255 (by omega) (by omega) (by omega)) gX10_row_X10_in rfl (by decide +kernel) ⟨Nat.le_of_ble_eq_true rfl, Nat.le_of_ble_eq_true rfl⟩ hK hP [] rfl rfl hl.1 rfl (Nat.le_of_ble_eq_true rfl) dX10_row_27 ⟨Nat.zero_le _, Nat.zero_le _⟩ (fun r_27 h_27 => ?_)
      subst h_27
      refine z_if_neb (tgt := 36) hx hb dX10_row_30 (by decide) (fun c_30 => ?_) (fun c_30 => ?_)
      · simp only [Bool.and_eq_true, decide_eq_true_eq] at c_30
        refine lv_aload_n hx hb dX10_row_36 rfl (lv_at hl 0 rfl) ?_
        refine muV (n := 0) (As := []) (rest := []) hSf (m_notes l D k q0 qn qa qp qi qs qk qb qt qh qe de sv bn f pa hde) gX10_row_X10_notes rfl (by decide +kernel) ⟨Nat.le_of_ble_eq_true rfl, Nat.le_of_ble_eq_true rfl⟩ hK hP hD hS [0, 1, 2] rfl rfl (by decide) (fun _ => rfl) (fun _ => rfl) 0 rfl rfl rfl hl.1 rfl (Nat.le_of_ble_eq_true rfl) dX10_row_37 ⟨Nat.zero_le _, Nat.zero_le _⟩ (fun u_37 H locs h_37 hP hD hS => ?_)
        have hP : va_P D vwCl [(q0, .inr (10, [.ref qn, .ref qa, .ref qp, .int (zI ((ntD de + 1 : Nat) : Int)), .ref qi, .ref qs, .ref qk, .long (zL sv), .ref qb, .int (zI ((bn : Nat) : Int)), .ref qt, .ref qh, .ref qe])), (qn, .inl (k.1, 132, .inl (zF f))), (qp, .inl (k.1, 2640, .inl (zF (cpZ f (ntP pa de) 0 (132 * ntD de) 132))))] H := hP
        have hD : va_D A [(q0, .inr (10, [.ref qn, .ref qa, .ref qp, .int (zI ((ntD de + 1 : Nat) : Int)), .ref qi, .ref qs, .ref qk, .long (zL sv), .ref qb, .int (zI ((bn : Nat) : Int)), .ref qt, .ref qh, .ref qe])), (qn, .inl (k.1, 132, .inl (zF f))), (qp, .inl (k.1, 2640, .inl (zF (cpZ f (ntP pa de) 0 (132 * ntD de) 132))))] := hD
        refine lv_aload_n hx hb dX10_row_40 rfl (lv_at hl 0 rfl) ?_
        refine va_get (D := D) (ci := 10) (v := .ref qn) (C := RX10) (T := TX10) (N := 13) hx hb hts hinX10 hown hK.1 hP 0 rfl rfl 0 (by decide) fl7 (fun _ h9 => h9) rfl dX10_row_41 ?_
        refine z_iconst hx hb dX10_row_44 ?_
        refine z_bipush hx hb dX10_row_45 (by decide +kernel) ?_
        refine lv_iload_n hx hb dX10_row_47 rfl (lv_at hl 1 rfl) ?_
        refine z_imul hx hb dX10_row_48 ?_
        refine z_iadd hx hb dX10_row_49 ?_
        refine lv_iload_n hx hb dX10_row_50 rfl (lv_at hl 2 rfl) ?_
        refine z_iadd hx hb dX10_row_51 ?_
        refine z_ald hx hb hK hP 1 rfl (4 + 8 * x1.toNat + x2.toNat) (by omega) (by omega) (Nat.le_of_ble_eq_true rfl) dX10_row_52 ?_
        refine lv_istore (lv' := [(4, .int (zI (f (4 + 8 * x1.toNat + x2.toNat)))), (0, .ref q0), (1, .int (zI x1)), (2, .int (zI x2)), (3, .int (zI x3))]) hx hb dX10_row_53 hl (by decide) rfl (fun ls hl => ?_)
        refine lv_aload_n hx hb dX10_row_55 rfl (lv_at hl 1 rfl) ?_
        refine va_get (D := D) (ci := 10) (v := .ref qn) (C := RX10) (T := TX10) (N := 13) hx hb hts hinX10 hown hK.1 hP 0 rfl rfl 0 (by decide) fl7 (fun _ h9 => h9) rfl dX10_row_56 ?_
        refine z_iconst hx hb dX10_row_59 ?_
        refine z_bipush hx hb dX10_row_60 (by decide +kernel) ?_
        refine lv_iload_n hx hb dX10_row_62 rfl (lv_at hl 2 rfl) ?_
        refine z_imul hx hb dX10_row_63 ?_
        refine z_iadd hx hb dX10_row_64 ?_
        refine lv_iload_n hx hb dX10_row_65 rfl (lv_at hl 3 rfl) ?_
        refine z_iadd hx hb dX10_row_66 ?_
        refine lv_iload_n hx hb dX10_row_67 rfl (lv_at hl 4 rfl) ?_
        refine z_ast hx hb hK hP hD hS 1 rfl (4 + 8 * x1.toNat + x2.toNat) (by omega) (by omega) (Nat.le_of_ble_eq_true rfl) dX10_row_68 (fun H locs hP hD hS => ?_)
        have hP : va_P D vwCl [(q0, .inr (10, [.ref qn, .ref qa, .ref qp, .int (zI ((ntD de + 1 : Nat) : Int)), .ref qi, .ref qs, .ref qk, .long (zL sv), .ref qb, .int (zI ((bn : Nat) : Int)), .ref qt, .ref qh, .ref qe])), (qn, .inl (k.1, 132, .inl (zF (upZ f (4 + 8 * x1.toNat + x2.toNat) x3)))), (qp, .inl (k.1, 2640, .inl (zF (cpZ f (ntP pa de) 0 (132 * ntD de) 132))))] H := hP
        have hD : va_D A [(q0, .inr (10, [.ref qn, .ref qa, .ref qp, .int (zI ((ntD de + 1 : Nat) : Int)), .ref qi, .ref qs, .ref qk, .long (zL sv), .ref qb, .int (zI ((bn : Nat) : Int)), .ref qt, .ref qh, .ref qe])), (qn, .inl (k.1, 132, .inl (zF (upZ f (4 + 8 * x1.toNat + x2.toNat) x3)))), (qp, .inl (k.1, 2640, .inl (zF (cpZ f (ntP pa de) 0 (132 * ntD de) 132))))] := hD
        refine lv_iload hx hb dX10_row_69 (lv_at hl 0 rfl) ?_
        exact W.iret hx hb hr (fun t ht hW => ⟨⟨_, (upZ f (4 + 8 * x1.toNat + x2.toNat) x3, ntH f (de, pa)), rfl, ⟨zc (by rw [if_pos (by omega), if_pos (by omega)]), by rw [if_pos (by omega)]⟩, by show va_P D vwCl _ _; rw [ht]; exact hP⟩, hS.F ht⟩) hS.2.2 dX10_row_71
      · simp only [Bool.and_eq_false_iff, decide_eq_false_iff_not] at c_30
        refine lv_ldc hx hb hown (hts (.constant RX10 112 (-1000000002)) (by decide +kernel)) dX10_row_33 ?_
        refine te (show (-1000000002 : Int32) = zI (-1000000002) from by decide +kernel) ?_
        exact W.iret hx hb hr (fun t ht hW => ⟨⟨_, (f, de, pa), rfl, ⟨zc (by rw [if_pos (by omega), if_neg (by omega)]), by rw [if_neg (by omega)]⟩, by show va_P D vwCl _ _; rw [ht]; exact hP⟩, hS.F ht⟩) hS.2.2 dX10_row_35
  · simp only [Bool.and_eq_false_iff, decide_eq_false_iff_not] at c_6
    refine lv_ldc hx hb hown (hts (.constant RX10 117 (-1000000001)) (by decide +kernel)) dX10_row_9 ?_
    refine te (show (-1000000001 : Int32) = zI (-1000000001) from by decide +kernel) ?_
    exact W.iret hx hb hr (fun t ht hW => ⟨⟨_, (f, de, pa), rfl, ⟨zc (by rw [if_neg (by omega)]), by rw [if_neg (by omega)]⟩, by show va_P D vwCl _ _; rw [ht]; exact hP⟩, hS.F ht⟩) hS.2.2 dX10_row_11
set_option maxHeartbeats 4000000 in
set_option maxRecDepth 100000 in
theorem m_puts (l : Launch) (D : va_G) (k : Kt) (q0 : Nat) (qn : Nat) (qa : Nat) (qp : Nat) (qi : Nat) (qs : Nat) (qk : Nat) (qb : Nat) (qt : Nat) (qh : Nat) (qe : Nat) (de : Nat) (sv : Int) (bn : Nat) (f : St) (B : Int) (hV : Va B f) (hB : B < 1000000) (x1 : Int) (x2 : Int) (x3 : Int) (x4 : Int) (x5 : Int) (x6 : Int) (hf : nT f < 12) : MU l D k yX10_puts wsX10_puts 0 0 [.ref q0, .int (zI x1), .int (zI x2), .int (zI x3), .int (zI x4), .int (zI x5), .int (zI x6)] [(q0, .inr (10, [.ref qn, .ref qa, .ref qp, .int (zI ((de : Nat) : Int)), .ref qi, .ref qs, .ref qk, .long (zL sv), .ref qb, .int (zI ((bn : Nat) : Int)), .ref qt, .ref qh, .ref qe])), (qn, .inl (k.1, 132, .inl (zF f)))] (fun (u : Unit) => True) (fun u => [(q0, .inr (10, [.ref qn, .ref qa, .ref qp, .int (zI ((de : Nat) : Int)), .ref qi, .ref qs, .ref qk, .long (zL sv), .ref qb, .int (zI ((bn : Nat) : Int)), .ref qt, .ref qh, .ref qe])), (qn, .inl (k.1, 132, .inl (zF (addZ f x1 x2 x3 x4 x5 x6))))]) := by
  refine Met.ofW (cc := cX10_puts) (maxL := 8) (ret := none) (by decide) rfl ?_
  intro p e s m args below meth c s₁ Bd hml hv
  obtain ⟨rfl, hP, hK, hD0⟩ := hv
  have hx := Bd.exec
  have hb := Bd.bytes
  have hr := Bd.returns
  have hts := atoms_spec (ws := wsX10_puts) Bd.pre
  have hown : s.vm.findClass RX10 = some m.cls := findClass_of_methodNamed Bd.named
  have hlocks := Bd.notSynchronized
  have hSf : CallFix p m c cX10_puts 8 s ([.ref q0, .int (zI x1), .int (zI x2), .int (zI x3), .int (zI x4), .int (zI x5), .int (zI x6)] : List Value).toArray wsX10_puts RX10 := ⟨hx, hb, hml, hown, hts⟩
  have hD := fA_D hD0
  have hS : va_S (fA [(q0, .inr (10, [.ref qn, .ref qa, .ref qp, .int (zI ((de : Nat) : Int)), .ref qi, .ref qs, .ref qk, .long (zL sv), .ref qb, .int (zI ((bn : Nat) : Int)), .ref qt, .ref qh, .ref qe])), (qn, .inl (k.1, 132, .inl (zF f)))]) s.heap s.heap [] := va_S.rf
  generalize hAe : fA [(q0, .inr (10, [.ref qn, .ref qa, .ref qp, .int (zI ((de : Nat) : Int)), .ref qi, .ref qs, .ref qk, .long (zL sv), .ref qb, .int (zI ((bn : Nat) : Int)), .ref qt, .ref qh, .ref qe])), (qn, .inl (k.1, 132, .inl (zF f)))] = A at hD hS ⊢
  have hP : va_P D vwCl [(q0, .inr (10, [.ref qn, .ref qa, .ref qp, .int (zI ((de : Nat) : Int)), .ref qi, .ref qs, .ref qk, .long (zL sv), .ref qb, .int (zI ((bn : Nat) : Int)), .ref qt, .ref qh, .ref qe])), (qn, .inl (k.1, 132, .inl (zF f)))] s.heap := hP
  have hinX10 : ∀ w ∈ u_ws RX10 TX10 13, w ∈ wsX10_puts := by decide +kernel
  have fl7 := hts (.fieldLink RX10 7 "DotObjectsModel" "now" "[I") (by decide +kernel)
  have hl := lv_entry ([.ref q0, .int (zI x1), .int (zI x2), .int (zI x3), .int (zI x4), .int (zI x5), .int (zI x6)]) (n := 8) (Nat.le_of_ble_eq_true rfl)
  rw [lg_entry_eq]
  generalize (lg_sl ([.ref q0, .int (zI x1), .int (zI x2), .int (zI x3), .int (zI x4), .int (zI x5), .int (zI x6)]) ++ List.replicate (8 - (lg_sl ([.ref q0, .int (zI x1), .int (zI x2), .int (zI x3), .int (zI x4), .int (zI x5), .int (zI x6)])).length) Slot.unset).toArray = ls at hl ⊢
  have hl : lv_has ls 8 [(0, .ref q0), (1, .int (zI x1)), (2, .int (zI x2)), (3, .int (zI x3)), (4, .int (zI x4)), (5, .int (zI x5)), (6, .int (zI x6))] := hl
  have hn := hV.n
  refine z_bipush hx hb dX10_puts_0 (by decide +kernel) ?_
  refine z_bipush hx hb dX10_puts_2 (by decide +kernel) ?_
  refine lv_aload_n hx hb dX10_puts_4 rfl (lv_at hl 0 rfl) ?_
  refine va_get (D := D) (ci := 10) (v := .ref qn) (C := RX10) (T := TX10) (N := 13) hx hb hts hinX10 hown hK.1 hP 0 rfl rfl 0 (by decide) fl7 (fun _ h9 => h9) rfl dX10_puts_5 ?_
  refine z_iconst hx hb dX10_puts_8 ?_
  refine z_ald hx hb hK hP 1 rfl (0) (by omega) (by omega) (Nat.le_of_ble_eq_true rfl) dX10_puts_9 ?_
  refine z_imul hx hb dX10_puts_10 ?_
  refine z_iadd hx hb dX10_puts_11 ?_
  refine lv_istore (lv' := [(7, .int (zI (36 + (8 * (f 0))))), (0, .ref q0), (1, .int (zI x1)), (2, .int (zI x2)), (3, .int (zI x3)), (4, .int (zI x4)), (5, .int (zI x5)), (6, .int (zI x6))]) hx hb dX10_puts_12 hl (by decide) rfl (fun ls hl => ?_)
  refine lv_aload_n hx hb dX10_puts_14 rfl (lv_at hl 1 rfl) ?_
  refine va_get (D := D) (ci := 10) (v := .ref qn) (C := RX10) (T := TX10) (N := 13) hx hb hts hinX10 hown hK.1 hP 0 rfl rfl 0 (by decide) fl7 (fun _ h9 => h9) rfl dX10_puts_15 ?_
  refine lv_iload hx hb dX10_puts_18 (lv_at hl 0 rfl) ?_
  refine z_iconst hx hb dX10_puts_20 ?_
  refine z_iadd hx hb dX10_puts_21 ?_
  refine lv_iload_n hx hb dX10_puts_22 rfl (lv_at hl 2 rfl) ?_
  refine z_ast hx hb hK hP hD hS 1 rfl (36 + 8 * nT f + 0) (by omega) (by omega) (Nat.le_of_ble_eq_true rfl) dX10_puts_23 (fun H locs hP hD hS => ?_)
  have hP : va_P D vwCl [(q0, .inr (10, [.ref qn, .ref qa, .ref qp, .int (zI ((de : Nat) : Int)), .ref qi, .ref qs, .ref qk, .long (zL sv), .ref qb, .int (zI ((bn : Nat) : Int)), .ref qt, .ref qh, .ref qe])), (qn, .inl (k.1, 132, .inl (zF (upZ f (36 + 8 * nT f + 0) x1))))] H := hP
  have hD : va_D A [(q0, .inr (10, [.ref qn, .ref qa, .ref qp, .int (zI ((de : Nat) : Int)), .ref qi, .ref qs, .ref qk, .long (zL sv), .ref qb, .int (zI ((bn : Nat) : Int)), .ref qt, .ref qh, .ref qe])), (qn, .inl (k.1, 132, .inl (zF (upZ f (36 + 8 * nT f + 0) x1))))] := hD
  refine lv_aload_n hx hb dX10_puts_24 rfl (lv_at hl 1 rfl) ?_
  refine va_get (D := D) (ci := 10) (v := .ref qn) (C := RX10) (T := TX10) (N := 13) hx hb hts hinX10 hown hK.1 hP 0 rfl rfl 0 (by decide) fl7 (fun _ h9 => h9) rfl dX10_puts_25 ?_
  refine lv_iload hx hb dX10_puts_28 (lv_at hl 0 rfl) ?_
  refine z_iconst hx hb dX10_puts_30 ?_
  refine z_iadd hx hb dX10_puts_31 ?_
  refine lv_iload_n hx hb dX10_puts_32 rfl (lv_at hl 3 rfl) ?_
  refine z_ast hx hb hK hP hD hS 1 rfl (36 + 8 * nT f + 1) (by omega) (by omega) (Nat.le_of_ble_eq_true rfl) dX10_puts_33 (fun H locs hP hD hS => ?_)
  have hP : va_P D vwCl [(q0, .inr (10, [.ref qn, .ref qa, .ref qp, .int (zI ((de : Nat) : Int)), .ref qi, .ref qs, .ref qk, .long (zL sv), .ref qb, .int (zI ((bn : Nat) : Int)), .ref qt, .ref qh, .ref qe])), (qn, .inl (k.1, 132, .inl (zF (upZ (upZ f (36 + 8 * nT f + 0) x1) (36 + 8 * nT f + 1) x2))))] H := hP
  have hD : va_D A [(q0, .inr (10, [.ref qn, .ref qa, .ref qp, .int (zI ((de : Nat) : Int)), .ref qi, .ref qs, .ref qk, .long (zL sv), .ref qb, .int (zI ((bn : Nat) : Int)), .ref qt, .ref qh, .ref qe])), (qn, .inl (k.1, 132, .inl (zF (upZ (upZ f (36 + 8 * nT f + 0) x1) (36 + 8 * nT f + 1) x2))))] := hD
  refine lv_aload_n hx hb dX10_puts_34 rfl (lv_at hl 1 rfl) ?_
  refine va_get (D := D) (ci := 10) (v := .ref qn) (C := RX10) (T := TX10) (N := 13) hx hb hts hinX10 hown hK.1 hP 0 rfl rfl 0 (by decide) fl7 (fun _ h9 => h9) rfl dX10_puts_35 ?_
  refine lv_iload hx hb dX10_puts_38 (lv_at hl 0 rfl) ?_
  refine z_iconst hx hb dX10_puts_40 ?_
  refine z_iadd hx hb dX10_puts_41 ?_
  refine lv_iload_n hx hb dX10_puts_42 rfl (lv_at hl 4 rfl) ?_
  refine z_ast hx hb hK hP hD hS 1 rfl (36 + 8 * nT f + 2) (by omega) (by omega) (Nat.le_of_ble_eq_true rfl) dX10_puts_43 (fun H locs hP hD hS => ?_)
  have hP : va_P D vwCl [(q0, .inr (10, [.ref qn, .ref qa, .ref qp, .int (zI ((de : Nat) : Int)), .ref qi, .ref qs, .ref qk, .long (zL sv), .ref qb, .int (zI ((bn : Nat) : Int)), .ref qt, .ref qh, .ref qe])), (qn, .inl (k.1, 132, .inl (zF (upZ (upZ (upZ f (36 + 8 * nT f + 0) x1) (36 + 8 * nT f + 1) x2) (36 + 8 * nT f + 2) x3))))] H := hP
  have hD : va_D A [(q0, .inr (10, [.ref qn, .ref qa, .ref qp, .int (zI ((de : Nat) : Int)), .ref qi, .ref qs, .ref qk, .long (zL sv), .ref qb, .int (zI ((bn : Nat) : Int)), .ref qt, .ref qh, .ref qe])), (qn, .inl (k.1, 132, .inl (zF (upZ (upZ (upZ f (36 + 8 * nT f + 0) x1) (36 + 8 * nT f + 1) x2) (36 + 8 * nT f + 2) x3))))] := hD
  refine lv_aload_n hx hb dX10_puts_44 rfl (lv_at hl 1 rfl) ?_
  refine va_get (D := D) (ci := 10) (v := .ref qn) (C := RX10) (T := TX10) (N := 13) hx hb hts hinX10 hown hK.1 hP 0 rfl rfl 0 (by decide) fl7 (fun _ h9 => h9) rfl dX10_puts_45 ?_
  refine lv_iload hx hb dX10_puts_48 (lv_at hl 0 rfl) ?_
  refine z_iconst hx hb dX10_puts_50 ?_
  refine z_iadd hx hb dX10_puts_51 ?_
  refine lv_iload hx hb dX10_puts_52 (lv_at hl 5 rfl) ?_
  refine z_ast hx hb hK hP hD hS 1 rfl (36 + 8 * nT f + 3) (by omega) (by omega) (Nat.le_of_ble_eq_true rfl) dX10_puts_54 (fun H locs hP hD hS => ?_)
  have hP : va_P D vwCl [(q0, .inr (10, [.ref qn, .ref qa, .ref qp, .int (zI ((de : Nat) : Int)), .ref qi, .ref qs, .ref qk, .long (zL sv), .ref qb, .int (zI ((bn : Nat) : Int)), .ref qt, .ref qh, .ref qe])), (qn, .inl (k.1, 132, .inl (zF (upZ (upZ (upZ (upZ f (36 + 8 * nT f + 0) x1) (36 + 8 * nT f + 1) x2) (36 + 8 * nT f + 2) x3) (36 + 8 * nT f + 3) x4))))] H := hP
  have hD : va_D A [(q0, .inr (10, [.ref qn, .ref qa, .ref qp, .int (zI ((de : Nat) : Int)), .ref qi, .ref qs, .ref qk, .long (zL sv), .ref qb, .int (zI ((bn : Nat) : Int)), .ref qt, .ref qh, .ref qe])), (qn, .inl (k.1, 132, .inl (zF (upZ (upZ (upZ (upZ f (36 + 8 * nT f + 0) x1) (36 + 8 * nT f + 1) x2) (36 + 8 * nT f + 2) x3) (36 + 8 * nT f + 3) x4))))] := hD
  refine lv_aload_n hx hb dX10_puts_55 rfl (lv_at hl 1 rfl) ?_
  refine va_get (D := D) (ci := 10) (v := .ref qn) (C := RX10) (T := TX10) (N := 13) hx hb hts hinX10 hown hK.1 hP 0 rfl rfl 0 (by decide) fl7 (fun _ h9 => h9) rfl dX10_puts_56 ?_
  refine lv_iload hx hb dX10_puts_59 (lv_at hl 0 rfl) ?_
  refine z_iconst hx hb dX10_puts_61 ?_
  refine z_iadd hx hb dX10_puts_62 ?_
  refine lv_iload hx hb dX10_puts_63 (lv_at hl 6 rfl) ?_
  refine z_ast hx hb hK hP hD hS 1 rfl (36 + 8 * nT f + 4) (by omega) (by omega) (Nat.le_of_ble_eq_true rfl) dX10_puts_65 (fun H locs hP hD hS => ?_)
  have hP : va_P D vwCl [(q0, .inr (10, [.ref qn, .ref qa, .ref qp, .int (zI ((de : Nat) : Int)), .ref qi, .ref qs, .ref qk, .long (zL sv), .ref qb, .int (zI ((bn : Nat) : Int)), .ref qt, .ref qh, .ref qe])), (qn, .inl (k.1, 132, .inl (zF (upZ (upZ (upZ (upZ (upZ f (36 + 8 * nT f + 0) x1) (36 + 8 * nT f + 1) x2) (36 + 8 * nT f + 2) x3) (36 + 8 * nT f + 3) x4) (36 + 8 * nT f + 4) x5))))] H := hP
  have hD : va_D A [(q0, .inr (10, [.ref qn, .ref qa, .ref qp, .int (zI ((de : Nat) : Int)), .ref qi, .ref qs, .ref qk, .long (zL sv), .ref qb, .int (zI ((bn : Nat) : Int)), .ref qt, .ref qh, .ref qe])), (qn, .inl (k.1, 132, .inl (zF (upZ (upZ (upZ (upZ (upZ f (36 + 8 * nT f + 0) x1) (36 + 8 * nT f + 1) x2) (36 + 8 * nT f + 2) x3) (36 + 8 * nT f + 3) x4) (36 + 8 * nT f + 4) x5))))] := hD
  refine lv_aload_n hx hb dX10_puts_66 rfl (lv_at hl 1 rfl) ?_
  refine va_get (D := D) (ci := 10) (v := .ref qn) (C := RX10) (T := TX10) (N := 13) hx hb hts hinX10 hown hK.1 hP 0 rfl rfl 0 (by decide) fl7 (fun _ h9 => h9) rfl dX10_puts_67 ?_
  refine lv_iload hx hb dX10_puts_70 (lv_at hl 0 rfl) ?_
  refine z_iconst hx hb dX10_puts_72 ?_
  refine z_iadd hx hb dX10_puts_73 ?_
  refine lv_iload hx hb dX10_puts_74 (lv_at hl 7 rfl) ?_
  refine z_ast hx hb hK hP hD hS 1 rfl (36 + 8 * nT f + 5) (by omega) (by omega) (Nat.le_of_ble_eq_true rfl) dX10_puts_76 (fun H locs hP hD hS => ?_)
  have hP : va_P D vwCl [(q0, .inr (10, [.ref qn, .ref qa, .ref qp, .int (zI ((de : Nat) : Int)), .ref qi, .ref qs, .ref qk, .long (zL sv), .ref qb, .int (zI ((bn : Nat) : Int)), .ref qt, .ref qh, .ref qe])), (qn, .inl (k.1, 132, .inl (zF (upZ (upZ (upZ (upZ (upZ (upZ f (36 + 8 * nT f + 0) x1) (36 + 8 * nT f + 1) x2) (36 + 8 * nT f + 2) x3) (36 + 8 * nT f + 3) x4) (36 + 8 * nT f + 4) x5) (36 + 8 * nT f + 5) x6))))] H := hP
  have hD : va_D A [(q0, .inr (10, [.ref qn, .ref qa, .ref qp, .int (zI ((de : Nat) : Int)), .ref qi, .ref qs, .ref qk, .long (zL sv), .ref qb, .int (zI ((bn : Nat) : Int)), .ref qt, .ref qh, .ref qe])), (qn, .inl (k.1, 132, .inl (zF (upZ (upZ (upZ (upZ (upZ (upZ f (36 + 8 * nT f + 0) x1) (36 + 8 * nT f + 1) x2) (36 + 8 * nT f + 2) x3) (36 + 8 * nT f + 3) x4) (36 + 8 * nT f + 4) x5) (36 + 8 * nT f + 5) x6))))] := hD
  refine lv_aload_n hx hb dX10_puts_77 rfl (lv_at hl 1 rfl) ?_
  refine va_get (D := D) (ci := 10) (v := .ref qn) (C := RX10) (T := TX10) (N := 13) hx hb hts hinX10 hown hK.1 hP 0 rfl rfl 0 (by decide) fl7 (fun _ h9 => h9) rfl dX10_puts_78 ?_
  refine lv_iload hx hb dX10_puts_81 (lv_at hl 0 rfl) ?_
  refine z_bipush hx hb dX10_puts_83 (by decide +kernel) ?_
  refine z_iadd hx hb dX10_puts_85 ?_
  refine z_iconst hx hb dX10_puts_86 ?_
  refine z_ast hx hb hK hP hD hS 1 rfl (36 + 8 * nT f + 6) (by omega) (by omega) (Nat.le_of_ble_eq_true rfl) dX10_puts_87 (fun H locs hP hD hS => ?_)
  have hP : va_P D vwCl [(q0, .inr (10, [.ref qn, .ref qa, .ref qp, .int (zI ((de : Nat) : Int)), .ref qi, .ref qs, .ref qk, .long (zL sv), .ref qb, .int (zI ((bn : Nat) : Int)), .ref qt, .ref qh, .ref qe])), (qn, .inl (k.1, 132, .inl (zF (upZ (upZ (upZ (upZ (upZ (upZ (upZ f (36 + 8 * nT f + 0) x1) (36 + 8 * nT f + 1) x2) (36 + 8 * nT f + 2) x3) (36 + 8 * nT f + 3) x4) (36 + 8 * nT f + 4) x5) (36 + 8 * nT f + 5) x6) (36 + 8 * nT f + 6) 0))))] H := hP
  have hD : va_D A [(q0, .inr (10, [.ref qn, .ref qa, .ref qp, .int (zI ((de : Nat) : Int)), .ref qi, .ref qs, .ref qk, .long (zL sv), .ref qb, .int (zI ((bn : Nat) : Int)), .ref qt, .ref qh, .ref qe])), (qn, .inl (k.1, 132, .inl (zF (upZ (upZ (upZ (upZ (upZ (upZ (upZ f (36 + 8 * nT f + 0) x1) (36 + 8 * nT f + 1) x2) (36 + 8 * nT f + 2) x3) (36 + 8 * nT f + 3) x4) (36 + 8 * nT f + 4) x5) (36 + 8 * nT f + 5) x6) (36 + 8 * nT f + 6) 0))))] := hD
  refine lv_aload_n hx hb dX10_puts_88 rfl (lv_at hl 1 rfl) ?_
  refine va_get (D := D) (ci := 10) (v := .ref qn) (C := RX10) (T := TX10) (N := 13) hx hb hts hinX10 hown hK.1 hP 0 rfl rfl 0 (by decide) fl7 (fun _ h9 => h9) rfl dX10_puts_89 ?_
  refine lv_iload hx hb dX10_puts_92 (lv_at hl 0 rfl) ?_
  refine z_bipush hx hb dX10_puts_94 (by decide +kernel) ?_
  refine z_iadd hx hb dX10_puts_96 ?_
  refine z_iconst hx hb dX10_puts_97 ?_
  refine z_ast hx hb hK hP hD hS 1 rfl (36 + 8 * nT f + 7) (by omega) (by omega) (Nat.le_of_ble_eq_true rfl) dX10_puts_98 (fun H locs hP hD hS => ?_)
  have hP : va_P D vwCl [(q0, .inr (10, [.ref qn, .ref qa, .ref qp, .int (zI ((de : Nat) : Int)), .ref qi, .ref qs, .ref qk, .long (zL sv), .ref qb, .int (zI ((bn : Nat) : Int)), .ref qt, .ref qh, .ref qe])), (qn, .inl (k.1, 132, .inl (zF (upZ (upZ (upZ (upZ (upZ (upZ (upZ (upZ f (36 + 8 * nT f + 0) x1) (36 + 8 * nT f + 1) x2) (36 + 8 * nT f + 2) x3) (36 + 8 * nT f + 3) x4) (36 + 8 * nT f + 4) x5) (36 + 8 * nT f + 5) x6) (36 + 8 * nT f + 6) 0) (36 + 8 * nT f + 7) 0))))] H := hP
  have hD : va_D A [(q0, .inr (10, [.ref qn, .ref qa, .ref qp, .int (zI ((de : Nat) : Int)), .ref qi, .ref qs, .ref qk, .long (zL sv), .ref qb, .int (zI ((bn : Nat) : Int)), .ref qt, .ref qh, .ref qe])), (qn, .inl (k.1, 132, .inl (zF (upZ (upZ (upZ (upZ (upZ (upZ (upZ (upZ f (36 + 8 * nT f + 0) x1) (36 + 8 * nT f + 1) x2) (36 + 8 * nT f + 2) x3) (36 + 8 * nT f + 3) x4) (36 + 8 * nT f + 4) x5) (36 + 8 * nT f + 5) x6) (36 + 8 * nT f + 6) 0) (36 + 8 * nT f + 7) 0))))] := hD
  refine lv_aload_n hx hb dX10_puts_99 rfl (lv_at hl 1 rfl) ?_
  refine va_get (D := D) (ci := 10) (v := .ref qn) (C := RX10) (T := TX10) (N := 13) hx hb hts hinX10 hown hK.1 hP 0 rfl rfl 0 (by decide) fl7 (fun _ h9 => h9) rfl dX10_puts_100 ?_
  refine z_iconst hx hb dX10_puts_103 ?_
  refine lv_dup2_11 hx hb dX10_puts_104 rfl rfl ?_
  refine z_ald hx hb hK hP 1 rfl (0) (by omega) (by omega) (Nat.le_of_ble_eq_true rfl) dX10_puts_105 ?_
  refine te (zc (show (upZ (upZ (upZ (upZ (upZ (upZ (upZ (upZ f (36 + 8 * nT f + 0) x1) (36 + 8 * nT f + 1) x2) (36 + 8 * nT f + 2) x3) (36 + 8 * nT f + 3) x4) (36 + 8 * nT f + 4) x5) (36 + 8 * nT f + 5) x6) (36 + 8 * nT f + 6) 0) (36 + 8 * nT f + 7) 0) 0 = f 0 from by rw [upZ_n (by omega), upZ_n (by omega), upZ_n (by omega), upZ_n (by omega), upZ_n (by omega), upZ_n (by omega), upZ_n (by omega), upZ_n (by omega)])) ?_
  refine z_iconst hx hb dX10_puts_106 ?_
  refine z_iadd hx hb dX10_puts_107 ?_
  refine z_ast hx hb hK hP hD hS 1 rfl (0) (by omega) (by omega) (Nat.le_of_ble_eq_true rfl) dX10_puts_108 (fun H locs hP hD hS => ?_)
  have hP : va_P D vwCl [(q0, .inr (10, [.ref qn, .ref qa, .ref qp, .int (zI ((de : Nat) : Int)), .ref qi, .ref qs, .ref qk, .long (zL sv), .ref qb, .int (zI ((bn : Nat) : Int)), .ref qt, .ref qh, .ref qe])), (qn, .inl (k.1, 132, .inl (zF (upZ (upZ (upZ (upZ (upZ (upZ (upZ (upZ (upZ f (36 + 8 * nT f + 0) x1) (36 + 8 * nT f + 1) x2) (36 + 8 * nT f + 2) x3) (36 + 8 * nT f + 3) x4) (36 + 8 * nT f + 4) x5) (36 + 8 * nT f + 5) x6) (36 + 8 * nT f + 6) 0) (36 + 8 * nT f + 7) 0) 0 ((f 0) + 1)))))] H := hP
  have hD : va_D A [(q0, .inr (10, [.ref qn, .ref qa, .ref qp, .int (zI ((de : Nat) : Int)), .ref qi, .ref qs, .ref qk, .long (zL sv), .ref qb, .int (zI ((bn : Nat) : Int)), .ref qt, .ref qh, .ref qe])), (qn, .inl (k.1, 132, .inl (zF (upZ (upZ (upZ (upZ (upZ (upZ (upZ (upZ (upZ f (36 + 8 * nT f + 0) x1) (36 + 8 * nT f + 1) x2) (36 + 8 * nT f + 2) x3) (36 + 8 * nT f + 3) x4) (36 + 8 * nT f + 4) x5) (36 + 8 * nT f + 5) x6) (36 + 8 * nT f + 6) 0) (36 + 8 * nT f + 7) 0) 0 ((f 0) + 1)))))] := hD
  exact W.vret hx hb hr (fun t ht hW => ⟨⟨(), rfl, trivial, by show va_P D vwCl _ _; rw [ht]; exact hP⟩, hS.F ht⟩) hS.2.2 dX10_puts_109
set_option maxHeartbeats 4000000 in
set_option maxRecDepth 100000 in
theorem m_isPlace (l : Launch) (D : va_G) (k : Kt) (v1 : Int) (v2 : Int) (hv1 : -2147483648 ≤ v1 ∧ v1 < 2147483648) (hv2 : -2147483648 ≤ v2 ∧ v2 < 2147483648) : RO l D k yX10_isPlace wsX10_isPlace 1 22 [.int (zI v1), .int (zI v2)] [] (fun r => r = zI (b2i ((decide (-8 ≤ v1) && decide (v1 ≤ 31)) && (decide (-8 ≤ v2) && decide (v2 ≤ 23))))) := by
  refine Met.ofW (cc := cX10_isPlace) (maxL := 2) (ret := (some .boolean)) (by decide) rfl ?_
  intro p e s m args below meth c s₁ Bd hml hv
  obtain ⟨rfl, hP, hK⟩ := hv
  have hx := Bd.exec
  have hb := Bd.bytes
  have hr := Bd.returns
  have hts := atoms_spec (ws := wsX10_isPlace) Bd.pre
  have hown : s.vm.findClass RX10 = some m.cls := findClass_of_methodNamed Bd.named
  have hlocks := Bd.notSynchronized
  have hSf : CallFix p m c cX10_isPlace 2 s ([.int (zI v1), .int (zI v2)] : List Value).toArray wsX10_isPlace RX10 := ⟨hx, hb, hml, hown, hts⟩
  have hl := lv_entry ([.int (zI v1), .int (zI v2)]) (n := 2) (Nat.le_of_ble_eq_true rfl)
  rw [lg_entry_eq]
  generalize (lg_sl ([.int (zI v1), .int (zI v2)]) ++ List.replicate (2 - (lg_sl ([.int (zI v1), .int (zI v2)])).length) Slot.unset).toArray = ls at hl ⊢
  have hl : lv_has ls 2 [(0, .int (zI v1)), (1, .int (zI v2))] := hl
  refine lv_iload_n hx hb dX10_isPlace_0 rfl (lv_at hl 0 rfl) ?_
  refine z_bipush hx hb dX10_isPlace_1 (by decide +kernel) ?_
  refine z_bipush hx hb dX10_isPlace_3 (by decide +kernel) ?_
  refine roS (n := 3) (As := [.int (zI v1), .int (zI (-8)), .int (zI 31)]) (rest := []) hSf (m_in l D k v1 (-8) 31 (by omega) (by omega) (by omega)) gX10_isPlace_X10_in rfl (by decide +kernel) ⟨Nat.le_of_ble_eq_true rfl, Nat.le_of_ble_eq_true rfl⟩ hK hP [] rfl rfl hl.1 rfl (Nat.le_of_ble_eq_true rfl) dX10_isPlace_5 ⟨Nat.zero_le _, Nat.zero_le _⟩ (fun r_5 h_5 => ?_)
  subst h_5
  refine z_if_eqb (tgt := 26) hx hb dX10_isPlace_8 (by decide) (fun c_8 => ?_) (fun c_8 => ?_)
  · refine z_iconst hx hb dX10_isPlace_26 ?_
    exact W.zret hx hb hr (by decide +kernel) (fun t ht hW => ⟨_, rfl, zc (by rw [c_8]; rfl), ht⟩) (fun q hq => by cases hq) dX10_isPlace_27
  · refine lv_iload_n hx hb dX10_isPlace_11 rfl (lv_at hl 1 rfl) ?_
    refine z_bipush hx hb dX10_isPlace_12 (by decide +kernel) ?_
    refine z_bipush hx hb dX10_isPlace_14 (by decide +kernel) ?_
    refine roS (n := 3) (As := [.int (zI v2), .int (zI (-8)), .int (zI 23)]) (rest := []) hSf (m_in l D k v2 (-8) 23 (by omega) (by omega) (by omega)) gX10_isPlace_X10_in rfl (by decide +kernel) ⟨Nat.le_of_ble_eq_true rfl, Nat.le_of_ble_eq_true rfl⟩ hK hP [] rfl rfl hl.1 rfl (Nat.le_of_ble_eq_true rfl) dX10_isPlace_16 ⟨Nat.zero_le _, Nat.zero_le _⟩ (fun r_16 h_16 => ?_)
    subst h_16
    refine z_if_eqb (tgt := 26) hx hb dX10_isPlace_19 (by decide) (fun c_19 => ?_) (fun c_19 => ?_)
    · refine z_iconst hx hb dX10_isPlace_26 ?_
      exact W.zret hx hb hr (by decide +kernel) (fun t ht hW => ⟨_, rfl, zc (by rw [c_8, c_19]; rfl), ht⟩) (fun q hq => by cases hq) dX10_isPlace_27
    · refine z_iconst hx hb dX10_isPlace_22 ?_
      refine lv_goto (tgt := 27) hx hb dX10_isPlace_23 (by decide) ?_
      exact W.zret hx hb hr (by decide +kernel) (fun t ht hW => ⟨_, rfl, zc (by rw [c_8, c_19]; rfl), ht⟩) (fun q hq => by cases hq) dX10_isPlace_27
set_option maxHeartbeats 4000000 in
set_option maxRecDepth 100000 in
theorem m_put (l : Launch) (D : va_G) (k : Kt) (q0 : Nat) (qn : Nat) (qa : Nat) (qp : Nat) (qi : Nat) (qs : Nat) (qk : Nat) (qb : Nat) (qt : Nat) (qh : Nat) (qe : Nat) (de : Nat) (sv : Int) (bn : Nat) (f : St) (B : Int) (hV : Va B f) (hB : B < 1000000) (pa : Nat → Int) (hde : de ≤ 20) (x1 : Int) (x2 : Int) (x3 : Int) (x4 : Int) (x5 : Int) (x6 : Int) (hx1 : -2147483648 ≤ x1 ∧ x1 < 2147483648) (hx2 : -2147483648 ≤ x2 ∧ x2 < 2147483648) (hx3 : -2147483648 ≤ x3 ∧ x3 < 2147483648) (hx4 : -2147483648 ≤ x4 ∧ x4 < 2147483648) (hx5 : -2147483648 ≤ x5 ∧ x5 < 2147483648) (hx6 : -2147483648 ≤ x6 ∧ x6 < 2147483648) : MI l D k yX10_put wsX10_put 2 43 [.ref q0, .int (zI x1), .int (zI x2), .int (zI x3), .int (zI x4), .int (zI x5), .int (zI x6)] [(q0, .inr (10, [.ref qn, .ref qa, .ref qp, .int (zI ((de : Nat) : Int)), .ref qi, .ref qs, .ref qk, .long (zL sv), .ref qb, .int (zI ((bn : Nat) : Int)), .ref qt, .ref qh, .ref qe])), (qn, .inl (k.1, 132, .inl (zF f))), (qp, .inl (k.1, 2640, .inl (zF pa)))] (fun (r : Int32) (u : St × HM) => r = zI (if 0 ≤ x3 ∧ x3 ≤ 3 then (if ((-8 ≤ x1 ∧ x1 ≤ 31) ∧ (-8 ≤ x2 ∧ x2 ≤ 23)) ∧ ((0 ≤ x4 ∧ x4 ≤ 3) ∧ (0 ≤ x5 ∧ x5 ≤ 3)) ∧ (1 ≤ x6 ∧ x6 ≤ 7) then (if 12 ≤ nT f then -1000000004 else f 0) else -1000000002) else -1000000001) ∧ u = if (0 ≤ x3 ∧ x3 ≤ 3) ∧ (((-8 ≤ x1 ∧ x1 ≤ 31) ∧ (-8 ≤ x2 ∧ x2 ≤ 23)) ∧ ((0 ≤ x4 ∧ x4 ≤ 3) ∧ (0 ≤ x5 ∧ x5 ≤ 3)) ∧ (1 ≤ x6 ∧ x6 ≤ 7)) ∧ nT f < 12 then (addZ f x1 x2 x3 x4 x5 x6, ntH f (de, pa)) else (f, de, pa)) (fun u => [(q0, .inr (10, [.ref qn, .ref qa, .ref qp, .int (zI ((u.2.1 : Nat) : Int)), .ref qi, .ref qs, .ref qk, .long (zL sv), .ref qb, .int (zI ((bn : Nat) : Int)), .ref qt, .ref qh, .ref qe])), (qn, .inl (k.1, 132, .inl (zF u.1))), (qp, .inl (k.1, 2640, .inl (zF u.2.2)))]) := by
  refine Met.ofW (cc := cX10_put) (maxL := 7) (ret := (some .int)) (by decide) rfl ?_
  intro p e s m args below meth c s₁ Bd hml hv
  obtain ⟨rfl, hP, hK, hD0⟩ := hv
  have hx := Bd.exec
  have hb := Bd.bytes
  have hr := Bd.returns
  have hts := atoms_spec (ws := wsX10_put) Bd.pre
  have hown : s.vm.findClass RX10 = some m.cls := findClass_of_methodNamed Bd.named
  have hlocks := Bd.notSynchronized
  have hSf : CallFix p m c cX10_put 7 s ([.ref q0, .int (zI x1), .int (zI x2), .int (zI x3), .int (zI x4), .int (zI x5), .int (zI x6)] : List Value).toArray wsX10_put RX10 := ⟨hx, hb, hml, hown, hts⟩
  have hD := fA_D hD0
  have hS : va_S (fA [(q0, .inr (10, [.ref qn, .ref qa, .ref qp, .int (zI ((de : Nat) : Int)), .ref qi, .ref qs, .ref qk, .long (zL sv), .ref qb, .int (zI ((bn : Nat) : Int)), .ref qt, .ref qh, .ref qe])), (qn, .inl (k.1, 132, .inl (zF f))), (qp, .inl (k.1, 2640, .inl (zF pa)))]) s.heap s.heap [] := va_S.rf
  generalize hAe : fA [(q0, .inr (10, [.ref qn, .ref qa, .ref qp, .int (zI ((de : Nat) : Int)), .ref qi, .ref qs, .ref qk, .long (zL sv), .ref qb, .int (zI ((bn : Nat) : Int)), .ref qt, .ref qh, .ref qe])), (qn, .inl (k.1, 132, .inl (zF f))), (qp, .inl (k.1, 2640, .inl (zF pa)))] = A at hD hS ⊢
  have hP : va_P D vwCl [(q0, .inr (10, [.ref qn, .ref qa, .ref qp, .int (zI ((de : Nat) : Int)), .ref qi, .ref qs, .ref qk, .long (zL sv), .ref qb, .int (zI ((bn : Nat) : Int)), .ref qt, .ref qh, .ref qe])), (qn, .inl (k.1, 132, .inl (zF f))), (qp, .inl (k.1, 2640, .inl (zF pa)))] s.heap := hP
  have hinX10 : ∀ w ∈ u_ws RX10 TX10 13, w ∈ wsX10_put := by decide +kernel
  have fl7 := hts (.fieldLink RX10 7 "DotObjectsModel" "now" "[I") (by decide +kernel)
  have hl := lv_entry ([.ref q0, .int (zI x1), .int (zI x2), .int (zI x3), .int (zI x4), .int (zI x5), .int (zI x6)]) (n := 7) (Nat.le_of_ble_eq_true rfl)
  rw [lg_entry_eq]
  generalize (lg_sl ([.ref q0, .int (zI x1), .int (zI x2), .int (zI x3), .int (zI x4), .int (zI x5), .int (zI x6)]) ++ List.replicate (7 - (lg_sl ([.ref q0, .int (zI x1), .int (zI x2), .int (zI x3), .int (zI x4), .int (zI x5), .int (zI x6)])).length) Slot.unset).toArray = ls at hl ⊢
  have hl : lv_has ls 7 [(0, .ref q0), (1, .int (zI x1)), (2, .int (zI x2)), (3, .int (zI x3)), (4, .int (zI x4)), (5, .int (zI x5)), (6, .int (zI x6))] := hl
  have hn := hV.n
  have hv0 := hV.1
  refine lv_iload_n hx hb dX10_put_0 rfl (lv_at hl 3 rfl) ?_
  refine z_iconst hx hb dX10_put_1 ?_
  refine z_iconst hx hb dX10_put_2 ?_
  refine roS (n := 3) (As := [.int (zI x3), .int (zI 0), .int (zI 3)]) (rest := []) hSf (m_in l D k x3 0 3 (by omega) (by omega) (by omega)) gX10_put_X10_in rfl (by decide +kernel) ⟨Nat.le_of_ble_eq_true rfl, Nat.le_of_ble_eq_true rfl⟩ hK hP [] rfl rfl hl.1 rfl (Nat.le_of_ble_eq_true rfl) dX10_put_3 ⟨Nat.zero_le _, Nat.zero_le _⟩ (fun r_3 h_3 => ?_)
  subst h_3
  refine z_if_neb (tgt := 12) hx hb dX10_put_6 (by decide) (fun c_6 => ?_) (fun c_6 => ?_)
  · simp only [Bool.and_eq_true, decide_eq_true_eq] at c_6
    refine lv_iload_n hx hb dX10_put_12 rfl (lv_at hl 1 rfl) ?_
    refine lv_iload_n hx hb dX10_put_13 rfl (lv_at hl 2 rfl) ?_
    refine roS (n := 2) (As := [.int (zI x1), .int (zI x2)]) (rest := []) hSf (m_isPlace l D k x1 x2 (by omega) (by omega)) gX10_put_X10_isPlace rfl (by decide +kernel) ⟨Nat.le_of_ble_eq_true rfl, Nat.le_of_ble_eq_true rfl⟩ hK hP [] rfl rfl hl.1 rfl (Nat.le_of_ble_eq_true rfl) dX10_put_14 ⟨Nat.zero_le _, Nat.zero_le _⟩ (fun r_14 h_14 => ?_)
    subst h_14
    refine z_if_eqb (tgt := 51) hx hb dX10_put_17 (by decide) (fun c_17 => ?_) (fun c_17 => ?_)
    · simp only [Bool.and_eq_false_iff, decide_eq_false_iff_not] at c_17
      refine lv_ldc hx hb hown (hts (.constant RX10 112 (-1000000002)) (by decide +kernel)) dX10_put_51 ?_
      refine te (show (-1000000002 : Int32) = zI (-1000000002) from by decide +kernel) ?_
      exact W.iret hx hb hr (fun t ht hW => ⟨⟨_, (f, de, pa), rfl, ⟨zc (by rw [if_pos (by omega), if_neg (by omega)]), by rw [if_neg (by omega)]⟩, by show va_P D vwCl _ _; rw [ht]; exact hP⟩, hS.F ht⟩) hS.2.2 dX10_put_53
    · simp only [Bool.and_eq_true, decide_eq_true_eq] at c_17
      refine lv_iload hx hb dX10_put_20 (lv_at hl 4 rfl) ?_
      refine z_iconst hx hb dX10_put_22 ?_
      refine z_iconst hx hb dX10_put_23 ?_
      refine roS (n := 3) (As := [.int (zI x4), .int (zI 0), .int (zI 3)]) (rest := []) hSf (m_in l D k x4 0 3 (by omega) (by omega) (by omega)) gX10_put_X10_in rfl (by decide +kernel) ⟨Nat.le_of_ble_eq_true rfl, Nat.le_of_ble_eq_true rfl⟩ hK hP [] rfl rfl hl.1 rfl (Nat.le_of_ble_eq_true rfl) dX10_put_24 ⟨Nat.zero_le _, Nat.zero_le _⟩ (fun r_24 h_24 => ?_)
      subst h_24
      refine z_if_eqb (tgt := 51) hx hb dX10_put_27 (by decide) (fun c_27 => ?_) (fun c_27 => ?_)
      · simp only [Bool.and_eq_false_iff, decide_eq_false_iff_not] at c_27
        refine lv_ldc hx hb hown (hts (.constant RX10 112 (-1000000002)) (by decide +kernel)) dX10_put_51 ?_
        refine te (show (-1000000002 : Int32) = zI (-1000000002) from by decide +kernel) ?_
        exact W.iret hx hb hr (fun t ht hW => ⟨⟨_, (f, de, pa), rfl, ⟨zc (by rw [if_pos (by omega), if_neg (by omega)]), by rw [if_neg (by omega)]⟩, by show va_P D vwCl _ _; rw [ht]; exact hP⟩, hS.F ht⟩) hS.2.2 dX10_put_53
      · simp only [Bool.and_eq_true, decide_eq_true_eq] at c_27
        refine lv_iload hx hb dX10_put_30 (lv_at hl 5 rfl) ?_
        refine z_iconst hx hb dX10_put_32 ?_
        refine z_iconst hx hb dX10_put_33 ?_
        refine roS (n := 3) (As := [.int (zI x5), .int (zI 0), .int (zI 3)]) (rest := []) hSf (m_in l D k x5 0 3 (by omega) (by omega) (by omega)) gX10_put_X10_in rfl (by decide +kernel) ⟨Nat.le_of_ble_eq_true rfl, Nat.le_of_ble_eq_true rfl⟩ hK hP [] rfl rfl hl.1 rfl (Nat.le_of_ble_eq_true rfl) dX10_put_34 ⟨Nat.zero_le _, Nat.zero_le _⟩ (fun r_34 h_34 => ?_)
        subst h_34
        refine z_if_eqb (tgt := 51) hx hb dX10_put_37 (by decide) (fun c_37 => ?_) (fun c_37 => ?_)
        · simp only [Bool.and_eq_false_iff, decide_eq_false_iff_not] at c_37
          refine lv_ldc hx hb hown (hts (.constant RX10 112 (-1000000002)) (by decide +kernel)) dX10_put_51 ?_
          refine te (show (-1000000002 : Int32) = zI (-1000000002) from by decide +kernel) ?_
          exact W.iret hx hb hr (fun t ht hW => ⟨⟨_, (f, de, pa), rfl, ⟨zc (by rw [if_pos (by omega), if_neg (by omega)]), by rw [if_neg (by omega)]⟩, by show va_P D vwCl _ _; rw [ht]; exact hP⟩, hS.F ht⟩) hS.2.2 dX10_put_53
        · simp only [Bool.and_eq_true, decide_eq_true_eq] at c_37
          refine lv_iload hx hb dX10_put_40 (lv_at hl 6 rfl) ?_
          refine z_iconst hx hb dX10_put_42 ?_
          refine z_bipush hx hb dX10_put_43 (by decide +kernel) ?_
          refine roS (n := 3) (As := [.int (zI x6), .int (zI 1), .int (zI 7)]) (rest := []) hSf (m_in l D k x6 1 7 (by omega) (by omega) (by omega)) gX10_put_X10_in rfl (by decide +kernel) ⟨Nat.le_of_ble_eq_true rfl, Nat.le_of_ble_eq_true rfl⟩ hK hP [] rfl rfl hl.1 rfl (Nat.le_of_ble_eq_true rfl) dX10_put_45 ⟨Nat.zero_le _, Nat.zero_le _⟩ (fun r_45 h_45 => ?_)
          subst h_45
          refine z_if_neb (tgt := 54) hx hb dX10_put_48 (by decide) (fun c_48 => ?_) (fun c_48 => ?_)
          · simp only [Bool.and_eq_true, decide_eq_true_eq] at c_48
            refine lv_aload_n hx hb dX10_put_54 rfl (lv_at hl 0 rfl) ?_
            refine va_get (D := D) (ci := 10) (v := .ref qn) (C := RX10) (T := TX10) (N := 13) hx hb hts hinX10 hown hK.1 hP 0 rfl rfl 0 (by decide) fl7 (fun _ h9 => h9) rfl dX10_put_55 ?_
            refine z_iconst hx hb dX10_put_58 ?_
            refine z_ald hx hb hK hP 1 rfl (0) (by omega) (by omega) (Nat.le_of_ble_eq_true rfl) dX10_put_59 ?_
            refine z_bipush hx hb dX10_put_60 (by decide +kernel) ?_
            refine z_icmp_ne (tgt := 68) hx hb dX10_put_62 (by decide) (by omega) (by omega) (fun c_62 => ?_) (fun c_62 => ?_)
            · refine lv_aload_n hx hb dX10_put_68 rfl (lv_at hl 0 rfl) ?_
              refine muV (n := 0) (As := []) (rest := []) hSf (m_notes l D k q0 qn qa qp qi qs qk qb qt qh qe de sv bn f pa hde) gX10_put_X10_notes rfl (by decide +kernel) ⟨Nat.le_of_ble_eq_true rfl, Nat.le_of_ble_eq_true rfl⟩ hK hP hD hS [0, 1, 2] rfl rfl (by decide) (fun _ => rfl) (fun _ => rfl) 0 rfl rfl rfl hl.1 rfl (Nat.le_of_ble_eq_true rfl) dX10_put_69 ⟨Nat.zero_le _, Nat.zero_le _⟩ (fun u_69 H locs h_69 hP hD hS => ?_)
              have hP : va_P D vwCl [(q0, .inr (10, [.ref qn, .ref qa, .ref qp, .int (zI ((ntD de + 1 : Nat) : Int)), .ref qi, .ref qs, .ref qk, .long (zL sv), .ref qb, .int (zI ((bn : Nat) : Int)), .ref qt, .ref qh, .ref qe])), (qn, .inl (k.1, 132, .inl (zF f))), (qp, .inl (k.1, 2640, .inl (zF (cpZ f (ntP pa de) 0 (132 * ntD de) 132))))] H := hP
              have hD : va_D A [(q0, .inr (10, [.ref qn, .ref qa, .ref qp, .int (zI ((ntD de + 1 : Nat) : Int)), .ref qi, .ref qs, .ref qk, .long (zL sv), .ref qb, .int (zI ((bn : Nat) : Int)), .ref qt, .ref qh, .ref qe])), (qn, .inl (k.1, 132, .inl (zF f))), (qp, .inl (k.1, 2640, .inl (zF (cpZ f (ntP pa de) 0 (132 * ntD de) 132))))] := hD
              refine lv_aload_n hx hb dX10_put_72 rfl (lv_at hl 0 rfl) ?_
              refine lv_iload_n hx hb dX10_put_73 rfl (lv_at hl 1 rfl) ?_
              refine lv_iload_n hx hb dX10_put_74 rfl (lv_at hl 2 rfl) ?_
              refine lv_iload_n hx hb dX10_put_75 rfl (lv_at hl 3 rfl) ?_
              refine lv_iload hx hb dX10_put_76 (lv_at hl 4 rfl) ?_
              refine lv_iload hx hb dX10_put_78 (lv_at hl 5 rfl) ?_
              refine lv_iload hx hb dX10_put_80 (lv_at hl 6 rfl) ?_
              refine muV (n := 6) (As := [.int (zI x1), .int (zI x2), .int (zI x3), .int (zI x4), .int (zI x5), .int (zI x6)]) (rest := []) hSf (m_puts l D k q0 qn qa qp qi qs qk qb qt qh qe (ntD de + 1) sv bn f B hV hB x1 x2 x3 x4 x5 x6 (by omega)) gX10_put_X10_puts rfl (by decide +kernel) ⟨Nat.le_of_ble_eq_true rfl, Nat.le_of_ble_eq_true rfl⟩ hK hP hD hS [0, 1] rfl rfl (by decide) (fun _ => rfl) (fun _ => rfl) 0 rfl rfl rfl hl.1 rfl (Nat.le_of_ble_eq_true rfl) dX10_put_82 ⟨Nat.zero_le _, Nat.zero_le _⟩ (fun u_82 H locs h_82 hP hD hS => ?_)
              have hP : va_P D vwCl [(q0, .inr (10, [.ref qn, .ref qa, .ref qp, .int (zI (((ntD de + 1) : Nat) : Int)), .ref qi, .ref qs, .ref qk, .long (zL sv), .ref qb, .int (zI ((bn : Nat) : Int)), .ref qt, .ref qh, .ref qe])), (qn, .inl (k.1, 132, .inl (zF (addZ f x1 x2 x3 x4 x5 x6)))), (qp, .inl (k.1, 2640, .inl (zF (cpZ f (ntP pa de) 0 (132 * ntD de) 132))))] H := hP
              have hD : va_D A [(q0, .inr (10, [.ref qn, .ref qa, .ref qp, .int (zI (((ntD de + 1) : Nat) : Int)), .ref qi, .ref qs, .ref qk, .long (zL sv), .ref qb, .int (zI ((bn : Nat) : Int)), .ref qt, .ref qh, .ref qe])), (qn, .inl (k.1, 132, .inl (zF (addZ f x1 x2 x3 x4 x5 x6)))), (qp, .inl (k.1, 2640, .inl (zF (cpZ f (ntP pa de) 0 (132 * ntD de) 132))))] := hD
              refine lv_aload_n hx hb dX10_put_85 rfl (lv_at hl 0 rfl) ?_
              refine va_get (D := D) (ci := 10) (v := .ref qn) (C := RX10) (T := TX10) (N := 13) hx hb hts hinX10 hown hK.1 hP 0 rfl rfl 0 (by decide) fl7 (fun _ h9 => h9) rfl dX10_put_86 ?_
              refine z_iconst hx hb dX10_put_89 ?_
              refine z_ald hx hb hK hP 1 rfl (0) (by omega) (by omega) (Nat.le_of_ble_eq_true rfl) dX10_put_90 ?_
              refine te (zc (show (addZ f x1 x2 x3 x4 x5 x6) 0 = f 0 + 1 from upZ_s)) ?_
              refine z_iconst hx hb dX10_put_91 ?_
              refine z_isub hx hb dX10_put_92 ?_
              exact W.iret hx hb hr (fun t ht hW => ⟨⟨_, (addZ f x1 x2 x3 x4 x5 x6, ntH f (de, pa)), rfl, ⟨zc (by rw [if_pos (by omega), if_pos (by omega), if_neg (by omega)]; omega), by rw [if_pos (by omega)]⟩, by show va_P D vwCl _ _; rw [ht]; exact hP⟩, hS.F ht⟩) hS.2.2 dX10_put_93
            · refine lv_ldc hx hb hown (hts (.constant RX10 138 (-1000000004)) (by decide +kernel)) dX10_put_65 ?_
              refine te (show (-1000000004 : Int32) = zI (-1000000004) from by decide +kernel) ?_
              exact W.iret hx hb hr (fun t ht hW => ⟨⟨_, (f, de, pa), rfl, ⟨zc (by rw [if_pos (by omega), if_pos (by omega), if_pos (by omega)]), by rw [if_neg (by omega)]⟩, by show va_P D vwCl _ _; rw [ht]; exact hP⟩, hS.F ht⟩) hS.2.2 dX10_put_67
          · simp only [Bool.and_eq_false_iff, decide_eq_false_iff_not] at c_48
            refine lv_ldc hx hb hown (hts (.constant RX10 112 (-1000000002)) (by decide +kernel)) dX10_put_51 ?_
            refine te (show (-1000000002 : Int32) = zI (-1000000002) from by decide +kernel) ?_
            exact W.iret hx hb hr (fun t ht hW => ⟨⟨_, (f, de, pa), rfl, ⟨zc (by rw [if_pos (by omega), if_neg (by omega)]), by rw [if_neg (by omega)]⟩, by show va_P D vwCl _ _; rw [ht]; exact hP⟩, hS.F ht⟩) hS.2.2 dX10_put_53
  · simp only [Bool.and_eq_false_iff, decide_eq_false_iff_not] at c_6
    refine lv_ldc hx hb hown (hts (.constant RX10 117 (-1000000001)) (by decide +kernel)) dX10_put_9 ?_
    refine te (show (-1000000001 : Int32) = zI (-1000000001) from by decide +kernel) ?_
    exact W.iret hx hb hr (fun t ht hW => ⟨⟨_, (f, de, pa), rfl, ⟨zc (by rw [if_neg (by omega)]), by rw [if_neg (by omega)]⟩, by show va_P D vwCl _ _; rw [ht]; exact hP⟩, hS.F ht⟩) hS.2.2 dX10_put_11
set_option maxHeartbeats 4000000 in
set_option maxRecDepth 100000 in
theorem m_move (l : Launch) (D : va_G) (k : Kt) (q0 : Nat) (qn : Nat) (qa : Nat) (qp : Nat) (qi : Nat) (qs : Nat) (qk : Nat) (qb : Nat) (qt : Nat) (qh : Nat) (qe : Nat) (de : Nat) (sv : Int) (bn : Nat) (f : St) (B : Int) (hV : Va B f) (hB : B < 1000000) (pa : Nat → Int) (hde : de ≤ 20) (x1 : Int) (x2 : Int) (x3 : Int) (hx1 : -2147483648 ≤ x1 ∧ x1 < 2147483648) (hx2 : -2147483648 ≤ x2 ∧ x2 < 2147483648) (hx3 : -2147483648 ≤ x3 ∧ x3 < 2147483648) : MI l D k yX10_move wsX10_move 2 44 [.ref q0, .int (zI x1), .int (zI x2), .int (zI x3)] [(q0, .inr (10, [.ref qn, .ref qa, .ref qp, .int (zI ((de : Nat) : Int)), .ref qi, .ref qs, .ref qk, .long (zL sv), .ref qb, .int (zI ((bn : Nat) : Int)), .ref qt, .ref qh, .ref qe])), (qn, .inl (k.1, 132, .inl (zF f))), (qp, .inl (k.1, 2640, .inl (zF pa)))] (fun (r : Int32) (u : St × HM) => r = zI (if 0 ≤ x1 ∧ x1 ≤ f 0 - 1 then (if (-8 ≤ x2 ∧ x2 ≤ 31) ∧ (-8 ≤ x3 ∧ x3 ≤ 23) then max (min (x3 + 8) 24 - max x3 0) 0 else -1000000002) else -1000000001) ∧ u = if (0 ≤ x1 ∧ x1 ≤ f 0 - 1) ∧ (-8 ≤ x2 ∧ x2 ≤ 31) ∧ (-8 ≤ x3 ∧ x3 ≤ 23) then (mvZ f x1.toNat x2 x3, ntH f (de, pa)) else (f, de, pa)) (fun u => [(q0, .inr (10, [.ref qn, .ref qa, .ref qp, .int (zI ((u.2.1 : Nat) : Int)), .ref qi, .ref qs, .ref qk, .long (zL sv), .ref qb, .int (zI ((bn : Nat) : Int)), .ref qt, .ref qh, .ref qe])), (qn, .inl (k.1, 132, .inl (zF u.1))), (qp, .inl (k.1, 2640, .inl (zF u.2.2)))]) := by
  refine Met.ofW (cc := cX10_move) (maxL := 6) (ret := (some .int)) (by decide) rfl ?_
  intro p e s m args below meth c s₁ Bd hml hv
  obtain ⟨rfl, hP, hK, hD0⟩ := hv
  have hx := Bd.exec
  have hb := Bd.bytes
  have hr := Bd.returns
  have hts := atoms_spec (ws := wsX10_move) Bd.pre
  have hown : s.vm.findClass RX10 = some m.cls := findClass_of_methodNamed Bd.named
  have hlocks := Bd.notSynchronized
  have hSf : CallFix p m c cX10_move 6 s ([.ref q0, .int (zI x1), .int (zI x2), .int (zI x3)] : List Value).toArray wsX10_move RX10 := ⟨hx, hb, hml, hown, hts⟩
  have hD := fA_D hD0
  have hS : va_S (fA [(q0, .inr (10, [.ref qn, .ref qa, .ref qp, .int (zI ((de : Nat) : Int)), .ref qi, .ref qs, .ref qk, .long (zL sv), .ref qb, .int (zI ((bn : Nat) : Int)), .ref qt, .ref qh, .ref qe])), (qn, .inl (k.1, 132, .inl (zF f))), (qp, .inl (k.1, 2640, .inl (zF pa)))]) s.heap s.heap [] := va_S.rf
  generalize hAe : fA [(q0, .inr (10, [.ref qn, .ref qa, .ref qp, .int (zI ((de : Nat) : Int)), .ref qi, .ref qs, .ref qk, .long (zL sv), .ref qb, .int (zI ((bn : Nat) : Int)), .ref qt, .ref qh, .ref qe])), (qn, .inl (k.1, 132, .inl (zF f))), (qp, .inl (k.1, 2640, .inl (zF pa)))] = A at hD hS ⊢
  have hP : va_P D vwCl [(q0, .inr (10, [.ref qn, .ref qa, .ref qp, .int (zI ((de : Nat) : Int)), .ref qi, .ref qs, .ref qk, .long (zL sv), .ref qb, .int (zI ((bn : Nat) : Int)), .ref qt, .ref qh, .ref qe])), (qn, .inl (k.1, 132, .inl (zF f))), (qp, .inl (k.1, 2640, .inl (zF pa)))] s.heap := hP
  have hinX10 : ∀ w ∈ u_ws RX10 TX10 13, w ∈ wsX10_move := by decide +kernel
  have fl7 := hts (.fieldLink RX10 7 "DotObjectsModel" "now" "[I") (by decide +kernel)
  have hl := lv_entry ([.ref q0, .int (zI x1), .int (zI x2), .int (zI x3)]) (n := 6) (Nat.le_of_ble_eq_true rfl)
  rw [lg_entry_eq]
  generalize (lg_sl ([.ref q0, .int (zI x1), .int (zI x2), .int (zI x3)]) ++ List.replicate (6 - (lg_sl ([.ref q0, .int (zI x1), .int (zI x2), .int (zI x3)])).length) Slot.unset).toArray = ls at hl ⊢
  have hl : lv_has ls 6 [(0, .ref q0), (1, .int (zI x1)), (2, .int (zI x2)), (3, .int (zI x3))] := hl
  have hn := hV.n
  have hv0 := hV.1
  refine lv_aload_n hx hb dX10_move_0 rfl (lv_at hl 0 rfl) ?_
  refine lv_iload_n hx hb dX10_move_1 rfl (lv_at hl 1 rfl) ?_
  refine roV (n := 1) (As := [.int (zI x1)]) (rest := []) hSf (m_isThing l D k q0 qn qa qp qi qs qk qb qt qh qe de sv bn f B hV hB x1 (by omega)) gX10_move_X10_isThing rfl (by decide +kernel) ⟨Nat.le_of_ble_eq_true rfl, Nat.le_of_ble_eq_true rfl⟩ hK hP [0, 1] rfl 0 rfl rfl rfl hl.1 rfl (Nat.le_of_ble_eq_true rfl) dX10_move_2 ⟨Nat.zero_le _, Nat.zero_le _⟩ (fun r_2 h_2 => ?_)
  subst h_2
  refine z_if_neb (tgt := 11) hx hb dX10_move_5 (by decide) (fun c_5 => ?_) (fun c_5 => ?_)
  · simp only [Bool.and_eq_true, decide_eq_true_eq] at c_5
    refine lv_iload_n hx hb dX10_move_11 rfl (lv_at hl 2 rfl) ?_
    refine lv_iload_n hx hb dX10_move_12 rfl (lv_at hl 3 rfl) ?_
    refine roS (n := 2) (As := [.int (zI x2), .int (zI x3)]) (rest := []) hSf (m_isPlace l D k x2 x3 (by omega) (by omega)) gX10_move_X10_isPlace rfl (by decide +kernel) ⟨Nat.le_of_ble_eq_true rfl, Nat.le_of_ble_eq_true rfl⟩ hK hP [] rfl rfl hl.1 rfl (Nat.le_of_ble_eq_true rfl) dX10_move_13 ⟨Nat.zero_le _, Nat.zero_le _⟩ (fun r_13 h_13 => ?_)
    subst h_13
    refine z_if_neb (tgt := 22) hx hb dX10_move_16 (by decide) (fun c_16 => ?_) (fun c_16 => ?_)
    · simp only [Bool.and_eq_true, decide_eq_true_eq] at c_16
      refine lv_aload_n hx hb dX10_move_22 rfl (lv_at hl 0 rfl) ?_
      refine muV (n := 0) (As := []) (rest := []) hSf (m_notes l D k q0 qn qa qp qi qs qk qb qt qh qe de sv bn f pa hde) gX10_move_X10_notes rfl (by decide +kernel) ⟨Nat.le_of_ble_eq_true rfl, Nat.le_of_ble_eq_true rfl⟩ hK hP hD hS [0, 1, 2] rfl rfl (by decide) (fun _ => rfl) (fun _ => rfl) 0 rfl rfl rfl hl.1 rfl (Nat.le_of_ble_eq_true rfl) dX10_move_23 ⟨Nat.zero_le _, Nat.zero_le _⟩ (fun u_23 H locs h_23 hP hD hS => ?_)
      have hP : va_P D vwCl [(q0, .inr (10, [.ref qn, .ref qa, .ref qp, .int (zI ((ntD de + 1 : Nat) : Int)), .ref qi, .ref qs, .ref qk, .long (zL sv), .ref qb, .int (zI ((bn : Nat) : Int)), .ref qt, .ref qh, .ref qe])), (qn, .inl (k.1, 132, .inl (zF f))), (qp, .inl (k.1, 2640, .inl (zF (cpZ f (ntP pa de) 0 (132 * ntD de) 132))))] H := hP
      have hD : va_D A [(q0, .inr (10, [.ref qn, .ref qa, .ref qp, .int (zI ((ntD de + 1 : Nat) : Int)), .ref qi, .ref qs, .ref qk, .long (zL sv), .ref qb, .int (zI ((bn : Nat) : Int)), .ref qt, .ref qh, .ref qe])), (qn, .inl (k.1, 132, .inl (zF f))), (qp, .inl (k.1, 2640, .inl (zF (cpZ f (ntP pa de) 0 (132 * ntD de) 132))))] := hD
      refine lv_aload_n hx hb dX10_move_26 rfl (lv_at hl 0 rfl) ?_
      refine va_get (D := D) (ci := 10) (v := .ref qn) (C := RX10) (T := TX10) (N := 13) hx hb hts hinX10 hown hK.1 hP 0 rfl rfl 0 (by decide) fl7 (fun _ h9 => h9) rfl dX10_move_27 ?_
      refine z_bipush hx hb dX10_move_30 (by decide +kernel) ?_
      refine z_bipush hx hb dX10_move_32 (by decide +kernel) ?_
      refine lv_iload_n hx hb dX10_move_34 rfl (lv_at hl 1 rfl) ?_
      refine z_imul hx hb dX10_move_35 ?_
      refine z_iadd hx hb dX10_move_36 ?_
      refine z_iconst hx hb dX10_move_37 ?_
      refine z_iadd hx hb dX10_move_38 ?_
      refine lv_iload_n hx hb dX10_move_39 rfl (lv_at hl 2 rfl) ?_
      refine z_ast hx hb hK hP hD hS 1 rfl (36 + 8 * x1.toNat + 0) (by omega) (by omega) (Nat.le_of_ble_eq_true rfl) dX10_move_40 (fun H locs hP hD hS => ?_)
      have hP : va_P D vwCl [(q0, .inr (10, [.ref qn, .ref qa, .ref qp, .int (zI ((ntD de + 1 : Nat) : Int)), .ref qi, .ref qs, .ref qk, .long (zL sv), .ref qb, .int (zI ((bn : Nat) : Int)), .ref qt, .ref qh, .ref qe])), (qn, .inl (k.1, 132, .inl (zF (upZ f (36 + 8 * x1.toNat + 0) x2)))), (qp, .inl (k.1, 2640, .inl (zF (cpZ f (ntP pa de) 0 (132 * ntD de) 132))))] H := hP
      have hD : va_D A [(q0, .inr (10, [.ref qn, .ref qa, .ref qp, .int (zI ((ntD de + 1 : Nat) : Int)), .ref qi, .ref qs, .ref qk, .long (zL sv), .ref qb, .int (zI ((bn : Nat) : Int)), .ref qt, .ref qh, .ref qe])), (qn, .inl (k.1, 132, .inl (zF (upZ f (36 + 8 * x1.toNat + 0) x2)))), (qp, .inl (k.1, 2640, .inl (zF (cpZ f (ntP pa de) 0 (132 * ntD de) 132))))] := hD
      refine lv_aload_n hx hb dX10_move_41 rfl (lv_at hl 0 rfl) ?_
      refine va_get (D := D) (ci := 10) (v := .ref qn) (C := RX10) (T := TX10) (N := 13) hx hb hts hinX10 hown hK.1 hP 0 rfl rfl 0 (by decide) fl7 (fun _ h9 => h9) rfl dX10_move_42 ?_
      refine z_bipush hx hb dX10_move_45 (by decide +kernel) ?_
      refine z_bipush hx hb dX10_move_47 (by decide +kernel) ?_
      refine lv_iload_n hx hb dX10_move_49 rfl (lv_at hl 1 rfl) ?_
      refine z_imul hx hb dX10_move_50 ?_
      refine z_iadd hx hb dX10_move_51 ?_
      refine z_iconst hx hb dX10_move_52 ?_
      refine z_iadd hx hb dX10_move_53 ?_
      refine lv_iload_n hx hb dX10_move_54 rfl (lv_at hl 3 rfl) ?_
      refine z_ast hx hb hK hP hD hS 1 rfl (36 + 8 * x1.toNat + 1) (by omega) (by omega) (Nat.le_of_ble_eq_true rfl) dX10_move_55 (fun H locs hP hD hS => ?_)
      have hP : va_P D vwCl [(q0, .inr (10, [.ref qn, .ref qa, .ref qp, .int (zI ((ntD de + 1 : Nat) : Int)), .ref qi, .ref qs, .ref qk, .long (zL sv), .ref qb, .int (zI ((bn : Nat) : Int)), .ref qt, .ref qh, .ref qe])), (qn, .inl (k.1, 132, .inl (zF (upZ (upZ f (36 + 8 * x1.toNat + 0) x2) (36 + 8 * x1.toNat + 1) x3)))), (qp, .inl (k.1, 2640, .inl (zF (cpZ f (ntP pa de) 0 (132 * ntD de) 132))))] H := hP
      have hD : va_D A [(q0, .inr (10, [.ref qn, .ref qa, .ref qp, .int (zI ((ntD de + 1 : Nat) : Int)), .ref qi, .ref qs, .ref qk, .long (zL sv), .ref qb, .int (zI ((bn : Nat) : Int)), .ref qt, .ref qh, .ref qe])), (qn, .inl (k.1, 132, .inl (zF (upZ (upZ f (36 + 8 * x1.toNat + 0) x2) (36 + 8 * x1.toNat + 1) x3)))), (qp, .inl (k.1, 2640, .inl (zF (cpZ f (ntP pa de) 0 (132 * ntD de) 132))))] := hD
      rw [show upZ (upZ f (36 + 8 * x1.toNat + 0) x2) (36 + 8 * x1.toNat + 1) x3 = mvZ f x1.toNat x2 x3 from rfl] at hP hD
      have hV2 := Va_mv (t := x1.toNat) hV (show -8 ≤ x2 ∧ x2 ≤ 31 by omega) (show -8 ≤ x3 ∧ x3 ≤ 23 by omega)
      refine z_iconst hx hb dX10_move_56 ?_
      refine lv_istore (lv' := [(4, .int (zI 0)), (0, .ref q0), (1, .int (zI x1)), (2, .int (zI x2)), (3, .int (zI x3))]) hx hb dX10_move_57 hl (by decide) rfl (fun ls hl => ?_)
      refine z_iconst hx hb dX10_move_59 ?_
      refine lv_istore (lv' := [(5, .int (zI 0)), (4, .int (zI 0)), (0, .ref q0), (1, .int (zI x1)), (2, .int (zI x2)), (3, .int (zI x3))]) hx hb dX10_move_60 hl (by decide) rfl (fun ls hl => ?_)
      have L62 : ∀ (NN62 : Nat), ∀ (jj : Nat), (jj ≤ 24) → 24 - jj < NN62 → ∀ (H : Heap) (locs : List Loc), va_P D vwCl [(q0, .inr (10, [.ref qn, .ref qa, .ref qp, .int (zI ((ntD de + 1 : Nat) : Int)), .ref qi, .ref qs, .ref qk, .long (zL sv), .ref qb, .int (zI ((bn : Nat) : Int)), .ref qt, .ref qh, .ref qe])), (qn, .inl (k.1, 132, .inl (zF (mvZ f x1.toNat x2 x3)))), (qp, .inl (k.1, 2640, .inl (zF (cpZ f (ntP pa de) 0 (132 * ntD de) 132))))] H → va_D A [(q0, .inr (10, [.ref qn, .ref qa, .ref qp, .int (zI ((ntD de + 1 : Nat) : Int)), .ref qi, .ref qs, .ref qk, .long (zL sv), .ref qb, .int (zI ((bn : Nat) : Int)), .ref qt, .ref qh, .ref qe])), (qn, .inl (k.1, 132, .inl (zF (mvZ f x1.toNat x2 x3)))), (qp, .inl (k.1, 2640, .inl (zF (cpZ f (ntP pa de) 0 (132 * ntD de) 132))))] → va_S A s.heap H locs → ∀ (ls : Array Slot), lv_has ls 6 [(0, .ref q0), (1, .int (zI x1)), (4, .int (zI ((ct (fun q => onL (mvZ f x1.toNat x2 x3) x1.toNat q) jj : Nat) : Int))), (5, .int (zI ((jj : Nat) : Int)))] → W p l e (headSpec wsX10_move { frames := 2, cells := 0, slots := 0, locals := 44 }).room s m ([.ref q0, .int (zI x1), .int (zI x2), .int (zI x3)] : List Value).toArray below meth c H locs 0 0 (MQ below (va_Qi (fun (r : Int32) (u : St × HM) => r = zI (if 0 ≤ x1 ∧ x1 ≤ f 0 - 1 then (if (-8 ≤ x2 ∧ x2 ≤ 31) ∧ (-8 ≤ x3 ∧ x3 ≤ 23) then max (min (x3 + 8) 24 - max x3 0) 0 else -1000000002) else -1000000001) ∧ u = if (0 ≤ x1 ∧ x1 ≤ f 0 - 1) ∧ (-8 ≤ x2 ∧ x2 ≤ 31) ∧ (-8 ≤ x3 ∧ x3 ≤ 23) then (mvZ f x1.toNat x2 x3, ntH f (de, pa)) else (f, de, pa)) (fun (u : St × HM) t => va_P D vwCl [(q0, .inr (10, [.ref qn, .ref qa, .ref qp, .int (zI ((u.2.1 : Nat) : Int)), .ref qi, .ref qs, .ref qk, .long (zL sv), .ref qb, .int (zI ((bn : Nat) : Int)), .ref qt, .ref qh, .ref qe])), (qn, .inl (k.1, 132, .inl (zF u.1))), (qp, .inl (k.1, 2640, .inl (zF u.2.2)))] t.heap) A) ([.ref q0, .int (zI x1), .int (zI x2), .int (zI x3)] : List Value).toArray s 0 0 A) (F0 m 62 ls []) := by
        intro NN62
        induction NN62 with
        | zero => intro jj _ hN; exact absurd hN (Nat.not_lt_zero _)
        | succ NN62 ih62 =>
          intro jj hjj hN H locs hP hD hS ls hl
          refine lv_iload hx hb dX10_move_62 (lv_at hl 3 rfl) ?_
          refine z_bipush hx hb dX10_move_64 (by decide +kernel) ?_
          refine z_icmp_ge (tgt := 95) hx hb dX10_move_66 (by decide) (by omega) (by omega) (fun c_66 => ?_) (fun c_66 => ?_)
          · have hj24 : jj = 24 := by omega
            refine lv_iload hx hb dX10_move_95 (lv_at hl 2 rfl) ?_
            exact W.iret hx hb hr (fun t ht hW => ⟨⟨_, (mvZ f x1.toNat x2 x3, ntH f (de, pa)), rfl, ⟨zc (by rw [if_pos (by omega), if_pos (by omega), hj24]; have hc := ct_on hV2 (t := x1.toNat) (by rw [nT_mv]; omega); rw [show th (mvZ f x1.toNat x2 x3) x1.toNat 1 = x3 from th_up_s] at hc; exact hc), by rw [if_pos (by omega)]⟩, by show va_P D vwCl _ _; rw [ht]; exact hP⟩, hS.F ht⟩) hS.2.2 dX10_move_97
          · refine lv_iload hx hb dX10_move_69 (lv_at hl 2 rfl) ?_
            refine lv_aload_n hx hb dX10_move_71 rfl (lv_at hl 0 rfl) ?_
            refine lv_iload_n hx hb dX10_move_72 rfl (lv_at hl 1 rfl) ?_
            refine lv_iload hx hb dX10_move_73 (lv_at hl 3 rfl) ?_
            refine roV (n := 2) (As := [.int (zI ((x1.toNat : Nat) : Int)), .int (zI ((jj : Nat) : Int))]) (rest := [.int (zI ((ct (fun q => onL (mvZ f x1.toNat x2 x3) x1.toNat q) jj : Nat) : Int))]) hSf (m_isOn l D k q0 qn qa qp qi qs qk qb qt qh qe (ntD de + 1) sv bn (mvZ f x1.toNat x2 x3) B hV2 hB x1.toNat jj (by rw [nT_mv]; omega) (by omega)) gX10_move_X10_isOn rfl (by decide +kernel) ⟨Nat.le_of_ble_eq_true rfl, Nat.le_of_ble_eq_true rfl⟩ hK hP [0, 1] rfl 0 rfl rfl rfl hl.1 (by rw [show zI x1 = zI ((x1.toNat : Nat) : Int) from zc (by omega)]; rfl) (Nat.le_of_ble_eq_true rfl) dX10_move_75 ⟨Nat.zero_le _, Nat.zero_le _⟩ (fun r_75 h_75 => ?_)
            subst h_75
            refine z_if_eqb (tgt := 85) hx hb dX10_move_78 (by decide) (fun c_78 => ?_) (fun c_78 => ?_)
            · refine z_iconst hx hb dX10_move_85 ?_
              refine z_iadd hx hb dX10_move_86 ?_
              refine lv_istore (lv' := [(4, .int (zI (((ct (fun q => onL (mvZ f x1.toNat x2 x3) x1.toNat q) jj : Nat) : Int) + 0))), (0, .ref q0), (1, .int (zI x1)), (5, .int (zI ((jj : Nat) : Int)))]) hx hb dX10_move_87 hl (by decide) rfl (fun ls hl => ?_)
              refine lv_iinc (v := zI (((jj : Nat) : Int) + 1)) (lv' := [(5, .int (zI (((jj : Nat) : Int) + 1))), (4, .int (zI (((ct (fun q => onL (mvZ f x1.toNat x2 x3) x1.toNat q) jj : Nat) : Int) + 0))), (0, .ref q0), (1, .int (zI x1))]) hx hb dX10_move_89 hl (k := 3) rfl (zI_add _ _) (by decide) rfl (fun ls hl => ?_)
              refine lv_goto (tgt := 62) hx hb dX10_move_92 (by decide) ?_
              have hl : lv_has ls 6 [(5, .int (zI (((jj : Nat) : Int) + 1))), (4, .int (zI ((ct (fun q => onL (mvZ f x1.toNat x2 x3) x1.toNat q) (jj + 1) : Nat) : Int))), (0, .ref q0), (1, .int (zI x1))] := lv_c (l1 := [(5, .int (zI (((jj : Nat) : Int) + 1)))]) (l2 := [(0, .ref q0), (1, .int (zI x1))]) hl (show ((ct (fun q => onL (mvZ f x1.toNat x2 x3) x1.toNat q) jj : Nat) : Int) + 0 = ((ct (fun q => onL (mvZ f x1.toNat x2 x3) x1.toNat q) (jj + 1) : Nat) : Int) from dby_0 (p := (fun q => onL (mvZ f x1.toNat x2 x3) x1.toNat q)) c_78)
              have hl : lv_has ls 6 [(5, .int (zI (((jj + 1) : Nat) : Int))), (4, .int (zI ((ct (fun q => onL (mvZ f x1.toNat x2 x3) x1.toNat q) (jj + 1) : Nat) : Int))), (0, .ref q0), (1, .int (zI x1))] := lv_c (l1 := []) (l2 := [(4, .int (zI ((ct (fun q => onL (mvZ f x1.toNat x2 x3) x1.toNat q) (jj + 1) : Nat) : Int))), (0, .ref q0), (1, .int (zI x1))]) hl (show ((jj : Nat) : Int) + 1 = (((jj + 1) : Nat) : Int) from by omega)
              exact ih62 (jj + 1) (by omega) (by omega) _ _ hP hD hS ls (lv_sub hl [2, 3, 1, 0] rfl)
            · refine z_iconst hx hb dX10_move_81 ?_
              refine lv_goto (tgt := 86) hx hb dX10_move_82 (by decide) ?_
              refine z_iadd hx hb dX10_move_86 ?_
              refine lv_istore (lv' := [(4, .int (zI (((ct (fun q => onL (mvZ f x1.toNat x2 x3) x1.toNat q) jj : Nat) : Int) + 1))), (0, .ref q0), (1, .int (zI x1)), (5, .int (zI ((jj : Nat) : Int)))]) hx hb dX10_move_87 hl (by decide) rfl (fun ls hl => ?_)
              refine lv_iinc (v := zI (((jj : Nat) : Int) + 1)) (lv' := [(5, .int (zI (((jj : Nat) : Int) + 1))), (4, .int (zI (((ct (fun q => onL (mvZ f x1.toNat x2 x3) x1.toNat q) jj : Nat) : Int) + 1))), (0, .ref q0), (1, .int (zI x1))]) hx hb dX10_move_89 hl (k := 3) rfl (zI_add _ _) (by decide) rfl (fun ls hl => ?_)
              refine lv_goto (tgt := 62) hx hb dX10_move_92 (by decide) ?_
              have hl : lv_has ls 6 [(5, .int (zI (((jj : Nat) : Int) + 1))), (4, .int (zI ((ct (fun q => onL (mvZ f x1.toNat x2 x3) x1.toNat q) (jj + 1) : Nat) : Int))), (0, .ref q0), (1, .int (zI x1))] := lv_c (l1 := [(5, .int (zI (((jj : Nat) : Int) + 1)))]) (l2 := [(0, .ref q0), (1, .int (zI x1))]) hl (show ((ct (fun q => onL (mvZ f x1.toNat x2 x3) x1.toNat q) jj : Nat) : Int) + 1 = ((ct (fun q => onL (mvZ f x1.toNat x2 x3) x1.toNat q) (jj + 1) : Nat) : Int) from dby_1 (p := (fun q => onL (mvZ f x1.toNat x2 x3) x1.toNat q)) c_78)
              have hl : lv_has ls 6 [(5, .int (zI (((jj + 1) : Nat) : Int))), (4, .int (zI ((ct (fun q => onL (mvZ f x1.toNat x2 x3) x1.toNat q) (jj + 1) : Nat) : Int))), (0, .ref q0), (1, .int (zI x1))] := lv_c (l1 := []) (l2 := [(4, .int (zI ((ct (fun q => onL (mvZ f x1.toNat x2 x3) x1.toNat q) (jj + 1) : Nat) : Int))), (0, .ref q0), (1, .int (zI x1))]) hl (show ((jj : Nat) : Int) + 1 = (((jj + 1) : Nat) : Int) from by omega)
              exact ih62 (jj + 1) (by omega) (by omega) _ _ hP hD hS ls (lv_sub hl [2, 3, 1, 0] rfl)
      have hl : lv_has ls 6 [(5, .int (zI 0)), (4, .int (zI ((ct (fun q => onL (mvZ f x1.toNat x2 x3) x1.toNat q) 0 : Nat) : Int))), (0, .ref q0), (1, .int (zI x1)), (2, .int (zI x2)), (3, .int (zI x3))] := lv_c (l1 := [(5, .int (zI 0))]) (l2 := [(0, .ref q0), (1, .int (zI x1)), (2, .int (zI x2)), (3, .int (zI x3))]) hl (show 0 = ((ct (fun q => onL (mvZ f x1.toNat x2 x3) x1.toNat q) 0 : Nat) : Int) from rfl)
      have hl : lv_has ls 6 [(5, .int (zI ((0 : Nat) : Int))), (4, .int (zI ((ct (fun q => onL (mvZ f x1.toNat x2 x3) x1.toNat q) 0 : Nat) : Int))), (0, .ref q0), (1, .int (zI x1)), (2, .int (zI x2)), (3, .int (zI x3))] := lv_c (l1 := []) (l2 := [(4, .int (zI ((ct (fun q => onL (mvZ f x1.toNat x2 x3) x1.toNat q) 0 : Nat) : Int))), (0, .ref q0), (1, .int (zI x1)), (2, .int (zI x2)), (3, .int (zI x3))]) hl (show 0 = ((0 : Nat) : Int) from rfl)
      exact L62 _ 0 (by decide) (Nat.lt_succ_self _) _ _ hP hD hS ls (lv_sub hl [2, 3, 1, 0] rfl)
    · simp only [Bool.and_eq_false_iff, decide_eq_false_iff_not] at c_16
      refine lv_ldc hx hb hown (hts (.constant RX10 112 (-1000000002)) (by decide +kernel)) dX10_move_19 ?_
      refine te (show (-1000000002 : Int32) = zI (-1000000002) from by decide +kernel) ?_
      exact W.iret hx hb hr (fun t ht hW => ⟨⟨_, (f, de, pa), rfl, ⟨zc (by rw [if_pos (by omega), if_neg (by omega)]), by rw [if_neg (by omega)]⟩, by show va_P D vwCl _ _; rw [ht]; exact hP⟩, hS.F ht⟩) hS.2.2 dX10_move_21
  · simp only [Bool.and_eq_false_iff, decide_eq_false_iff_not] at c_5
    refine lv_ldc hx hb hown (hts (.constant RX10 117 (-1000000001)) (by decide +kernel)) dX10_move_8 ?_
    refine te (show (-1000000001 : Int32) = zI (-1000000001) from by decide +kernel) ?_
    exact W.iret hx hb hr (fun t ht hW => ⟨⟨_, (f, de, pa), rfl, ⟨zc (by rw [if_neg (by omega)]), by rw [if_neg (by omega)]⟩, by show va_P D vwCl _ _; rw [ht]; exact hP⟩, hS.F ht⟩) hS.2.2 dX10_move_10
set_option maxHeartbeats 4000000 in
set_option maxRecDepth 100000 in
theorem m_turn (l : Launch) (D : va_G) (k : Kt) (q0 : Nat) (qn : Nat) (qa : Nat) (qp : Nat) (qi : Nat) (qs : Nat) (qk : Nat) (qb : Nat) (qt : Nat) (qh : Nat) (qe : Nat) (de : Nat) (sv : Int) (bn : Nat) (f : St) (B : Int) (hV : Va B f) (hB : B < 1000000) (pa : Nat → Int) (hde : de ≤ 20) (ts : Nat → Int) (x1 : Int) (x2 : Int) (x3 : Int) (hx1 : -2147483648 ≤ x1 ∧ x1 < 2147483648) (hx2 : -2147483648 ≤ x2 ∧ x2 < 2147483648) (hx3 : -2147483648 ≤ x3 ∧ x3 < 2147483648) : MI l D k yX10_turn wsX10_turn 7 162 [.ref q0, .int (zI x1), .int (zI x2), .int (zI x3)] [(q0, .inr (10, [.ref qn, .ref qa, .ref qp, .int (zI ((de : Nat) : Int)), .ref qi, .ref qs, .ref qk, .long (zL sv), .ref qb, .int (zI ((bn : Nat) : Int)), .ref qt, .ref qh, .ref qe])), (qn, .inl (k.1, 132, .inl (zF f))), (qp, .inl (k.1, 2640, .inl (zF pa))), (qt, .inl (k.1, 24, .inl (zF ts)))] (fun (r : Int32) (u : (Nat → Int) × St × HM) => r = zI (if 0 ≤ x1 ∧ x1 ≤ f 0 - 1 then (if (0 ≤ x2 ∧ x2 ≤ 3) ∧ (0 ≤ x3 ∧ x3 ≤ 3) then ((sm (fun q => seeL (tuZ f x1.toNat x2 x3) x1.toNat q) 24 : Nat) : Int) else -1000000002) else -1000000001) ∧ u.2 = if (0 ≤ x1 ∧ x1 ≤ f 0 - 1) ∧ (0 ≤ x2 ∧ x2 ≤ 3) ∧ (0 ≤ x3 ∧ x3 ≤ 3) then (tuZ f x1.toNat x2 x3, ntH f (de, pa)) else (f, de, pa)) (fun u => [(q0, .inr (10, [.ref qn, .ref qa, .ref qp, .int (zI ((u.2.2.1 : Nat) : Int)), .ref qi, .ref qs, .ref qk, .long (zL sv), .ref qb, .int (zI ((bn : Nat) : Int)), .ref qt, .ref qh, .ref qe])), (qn, .inl (k.1, 132, .inl (zF u.2.1))), (qp, .inl (k.1, 2640, .inl (zF u.2.2.2))), (qt, .inl (k.1, 24, .inl (zF u.1)))]) := by
  refine Met.ofW (cc := cX10_turn) (maxL := 4) (ret := (some .int)) (by decide) rfl ?_
  intro p e s m args below meth c s₁ Bd hml hv
  obtain ⟨rfl, hP, hK, hD0⟩ := hv
  have hx := Bd.exec
  have hb := Bd.bytes
  have hr := Bd.returns
  have hts := atoms_spec (ws := wsX10_turn) Bd.pre
  have hown : s.vm.findClass RX10 = some m.cls := findClass_of_methodNamed Bd.named
  have hlocks := Bd.notSynchronized
  have hSf : CallFix p m c cX10_turn 4 s ([.ref q0, .int (zI x1), .int (zI x2), .int (zI x3)] : List Value).toArray wsX10_turn RX10 := ⟨hx, hb, hml, hown, hts⟩
  have hD := fA_D hD0
  have hS : va_S (fA [(q0, .inr (10, [.ref qn, .ref qa, .ref qp, .int (zI ((de : Nat) : Int)), .ref qi, .ref qs, .ref qk, .long (zL sv), .ref qb, .int (zI ((bn : Nat) : Int)), .ref qt, .ref qh, .ref qe])), (qn, .inl (k.1, 132, .inl (zF f))), (qp, .inl (k.1, 2640, .inl (zF pa))), (qt, .inl (k.1, 24, .inl (zF ts)))]) s.heap s.heap [] := va_S.rf
  generalize hAe : fA [(q0, .inr (10, [.ref qn, .ref qa, .ref qp, .int (zI ((de : Nat) : Int)), .ref qi, .ref qs, .ref qk, .long (zL sv), .ref qb, .int (zI ((bn : Nat) : Int)), .ref qt, .ref qh, .ref qe])), (qn, .inl (k.1, 132, .inl (zF f))), (qp, .inl (k.1, 2640, .inl (zF pa))), (qt, .inl (k.1, 24, .inl (zF ts)))] = A at hD hS ⊢
  have hP : va_P D vwCl [(q0, .inr (10, [.ref qn, .ref qa, .ref qp, .int (zI ((de : Nat) : Int)), .ref qi, .ref qs, .ref qk, .long (zL sv), .ref qb, .int (zI ((bn : Nat) : Int)), .ref qt, .ref qh, .ref qe])), (qn, .inl (k.1, 132, .inl (zF f))), (qp, .inl (k.1, 2640, .inl (zF pa))), (qt, .inl (k.1, 24, .inl (zF ts)))] s.heap := hP
  have hinX10 : ∀ w ∈ u_ws RX10 TX10 13, w ∈ wsX10_turn := by decide +kernel
  have fl7 := hts (.fieldLink RX10 7 "DotObjectsModel" "now" "[I") (by decide +kernel)
  have hl := lv_entry ([.ref q0, .int (zI x1), .int (zI x2), .int (zI x3)]) (n := 4) (Nat.le_of_ble_eq_true rfl)
  rw [lg_entry_eq]
  generalize (lg_sl ([.ref q0, .int (zI x1), .int (zI x2), .int (zI x3)]) ++ List.replicate (4 - (lg_sl ([.ref q0, .int (zI x1), .int (zI x2), .int (zI x3)])).length) Slot.unset).toArray = ls at hl ⊢
  have hl : lv_has ls 4 [(0, .ref q0), (1, .int (zI x1)), (2, .int (zI x2)), (3, .int (zI x3))] := hl
  have hn := hV.n
  have hv0 := hV.1
  refine lv_aload_n hx hb dX10_turn_0 rfl (lv_at hl 0 rfl) ?_
  refine lv_iload_n hx hb dX10_turn_1 rfl (lv_at hl 1 rfl) ?_
  refine roV (n := 1) (As := [.int (zI x1)]) (rest := []) hSf (m_isThing l D k q0 qn qa qp qi qs qk qb qt qh qe de sv bn f B hV hB x1 (by omega)) gX10_turn_X10_isThing rfl (by decide +kernel) ⟨Nat.le_of_ble_eq_true rfl, Nat.le_of_ble_eq_true rfl⟩ hK hP [0, 1] rfl 0 rfl rfl rfl hl.1 rfl (Nat.le_of_ble_eq_true rfl) dX10_turn_2 ⟨Nat.zero_le _, Nat.zero_le _⟩ (fun r_2 h_2 => ?_)
  subst h_2
  refine z_if_neb (tgt := 11) hx hb dX10_turn_5 (by decide) (fun c_5 => ?_) (fun c_5 => ?_)
  · simp only [Bool.and_eq_true, decide_eq_true_eq] at c_5
    refine lv_iload_n hx hb dX10_turn_11 rfl (lv_at hl 2 rfl) ?_
    refine z_iconst hx hb dX10_turn_12 ?_
    refine z_iconst hx hb dX10_turn_13 ?_
    refine roS (n := 3) (As := [.int (zI x2), .int (zI 0), .int (zI 3)]) (rest := []) hSf (m_in l D k x2 0 3 (by omega) (by omega) (by omega)) gX10_turn_X10_in rfl (by decide +kernel) ⟨Nat.le_of_ble_eq_true rfl, Nat.le_of_ble_eq_true rfl⟩ hK hP [] rfl rfl hl.1 rfl (Nat.le_of_ble_eq_true rfl) dX10_turn_14 ⟨Nat.zero_le _, Nat.zero_le _⟩ (fun r_14 h_14 => ?_)
    subst h_14
    refine z_if_eqb (tgt := 29) hx hb dX10_turn_17 (by decide) (fun c_17 => ?_) (fun c_17 => ?_)
    · simp only [Bool.and_eq_false_iff, decide_eq_false_iff_not] at c_17
      refine lv_ldc hx hb hown (hts (.constant RX10 112 (-1000000002)) (by decide +kernel)) dX10_turn_29 ?_
      refine te (show (-1000000002 : Int32) = zI (-1000000002) from by decide +kernel) ?_
      exact W.iret hx hb hr (fun t ht hW => ⟨⟨_, (ts, f, de, pa), rfl, ⟨zc (by rw [if_pos (by omega), if_neg (by omega)]), by rw [if_neg (by omega)]⟩, by show va_P D vwCl _ _; rw [ht]; exact hP⟩, hS.F ht⟩) hS.2.2 dX10_turn_31
    · simp only [Bool.and_eq_true, decide_eq_true_eq] at c_17
      refine lv_iload_n hx hb dX10_turn_20 rfl (lv_at hl 3 rfl) ?_
      refine z_iconst hx hb dX10_turn_21 ?_
      refine z_iconst hx hb dX10_turn_22 ?_
      refine roS (n := 3) (As := [.int (zI x3), .int (zI 0), .int (zI 3)]) (rest := []) hSf (m_in l D k x3 0 3 (by omega) (by omega) (by omega)) gX10_turn_X10_in rfl (by decide +kernel) ⟨Nat.le_of_ble_eq_true rfl, Nat.le_of_ble_eq_true rfl⟩ hK hP [] rfl rfl hl.1 rfl (Nat.le_of_ble_eq_true rfl) dX10_turn_23 ⟨Nat.zero_le _, Nat.zero_le _⟩ (fun r_23 h_23 => ?_)
      subst h_23
      refine z_if_neb (tgt := 32) hx hb dX10_turn_26 (by decide) (fun c_26 => ?_) (fun c_26 => ?_)
      · simp only [Bool.and_eq_true, decide_eq_true_eq] at c_26
        refine lv_aload_n hx hb dX10_turn_32 rfl (lv_at hl 0 rfl) ?_
        refine muV (n := 0) (As := []) (rest := []) hSf (m_notes l D k q0 qn qa qp qi qs qk qb qt qh qe de sv bn f pa hde) gX10_turn_X10_notes rfl (by decide +kernel) ⟨Nat.le_of_ble_eq_true rfl, Nat.le_of_ble_eq_true rfl⟩ hK hP hD hS [0, 1, 2] rfl rfl (by decide) (fun _ => rfl) (fun _ => rfl) 0 rfl rfl rfl hl.1 rfl (Nat.le_of_ble_eq_true rfl) dX10_turn_33 ⟨Nat.zero_le _, Nat.zero_le _⟩ (fun u_33 H locs h_33 hP hD hS => ?_)
        have hP : va_P D vwCl [(q0, .inr (10, [.ref qn, .ref qa, .ref qp, .int (zI ((ntD de + 1 : Nat) : Int)), .ref qi, .ref qs, .ref qk, .long (zL sv), .ref qb, .int (zI ((bn : Nat) : Int)), .ref qt, .ref qh, .ref qe])), (qn, .inl (k.1, 132, .inl (zF f))), (qp, .inl (k.1, 2640, .inl (zF (cpZ f (ntP pa de) 0 (132 * ntD de) 132)))), (qt, .inl (k.1, 24, .inl (zF ts)))] H := hP
        have hD : va_D A [(q0, .inr (10, [.ref qn, .ref qa, .ref qp, .int (zI ((ntD de + 1 : Nat) : Int)), .ref qi, .ref qs, .ref qk, .long (zL sv), .ref qb, .int (zI ((bn : Nat) : Int)), .ref qt, .ref qh, .ref qe])), (qn, .inl (k.1, 132, .inl (zF f))), (qp, .inl (k.1, 2640, .inl (zF (cpZ f (ntP pa de) 0 (132 * ntD de) 132)))), (qt, .inl (k.1, 24, .inl (zF ts)))] := hD
        refine lv_aload_n hx hb dX10_turn_36 rfl (lv_at hl 0 rfl) ?_
        refine va_get (D := D) (ci := 10) (v := .ref qn) (C := RX10) (T := TX10) (N := 13) hx hb hts hinX10 hown hK.1 hP 0 rfl rfl 0 (by decide) fl7 (fun _ h9 => h9) rfl dX10_turn_37 ?_
        refine z_bipush hx hb dX10_turn_40 (by decide +kernel) ?_
        refine z_bipush hx hb dX10_turn_42 (by decide +kernel) ?_
        refine lv_iload_n hx hb dX10_turn_44 rfl (lv_at hl 1 rfl) ?_
        refine z_imul hx hb dX10_turn_45 ?_
        refine z_iadd hx hb dX10_turn_46 ?_
        refine z_iconst hx hb dX10_turn_47 ?_
        refine z_iadd hx hb dX10_turn_48 ?_
        refine lv_iload_n hx hb dX10_turn_49 rfl (lv_at hl 2 rfl) ?_
        refine z_ast hx hb hK hP hD hS 1 rfl (36 + 8 * x1.toNat + 3) (by omega) (by omega) (Nat.le_of_ble_eq_true rfl) dX10_turn_50 (fun H locs hP hD hS => ?_)
        have hP : va_P D vwCl [(q0, .inr (10, [.ref qn, .ref qa, .ref qp, .int (zI ((ntD de + 1 : Nat) : Int)), .ref qi, .ref qs, .ref qk, .long (zL sv), .ref qb, .int (zI ((bn : Nat) : Int)), .ref qt, .ref qh, .ref qe])), (qn, .inl (k.1, 132, .inl (zF (upZ f (36 + 8 * x1.toNat + 3) x2)))), (qp, .inl (k.1, 2640, .inl (zF (cpZ f (ntP pa de) 0 (132 * ntD de) 132)))), (qt, .inl (k.1, 24, .inl (zF ts)))] H := hP
        have hD : va_D A [(q0, .inr (10, [.ref qn, .ref qa, .ref qp, .int (zI ((ntD de + 1 : Nat) : Int)), .ref qi, .ref qs, .ref qk, .long (zL sv), .ref qb, .int (zI ((bn : Nat) : Int)), .ref qt, .ref qh, .ref qe])), (qn, .inl (k.1, 132, .inl (zF (upZ f (36 + 8 * x1.toNat + 3) x2)))), (qp, .inl (k.1, 2640, .inl (zF (cpZ f (ntP pa de) 0 (132 * ntD de) 132)))), (qt, .inl (k.1, 24, .inl (zF ts)))] := hD
        refine lv_aload_n hx hb dX10_turn_51 rfl (lv_at hl 0 rfl) ?_
        refine va_get (D := D) (ci := 10) (v := .ref qn) (C := RX10) (T := TX10) (N := 13) hx hb hts hinX10 hown hK.1 hP 0 rfl rfl 0 (by decide) fl7 (fun _ h9 => h9) rfl dX10_turn_52 ?_
        refine z_bipush hx hb dX10_turn_55 (by decide +kernel) ?_
        refine z_bipush hx hb dX10_turn_57 (by decide +kernel) ?_
        refine lv_iload_n hx hb dX10_turn_59 rfl (lv_at hl 1 rfl) ?_
        refine z_imul hx hb dX10_turn_60 ?_
        refine z_iadd hx hb dX10_turn_61 ?_
        refine z_iconst hx hb dX10_turn_62 ?_
        refine z_iadd hx hb dX10_turn_63 ?_
        refine lv_iload_n hx hb dX10_turn_64 rfl (lv_at hl 3 rfl) ?_
        refine z_ast hx hb hK hP hD hS 1 rfl (36 + 8 * x1.toNat + 4) (by omega) (by omega) (Nat.le_of_ble_eq_true rfl) dX10_turn_65 (fun H locs hP hD hS => ?_)
        have hP : va_P D vwCl [(q0, .inr (10, [.ref qn, .ref qa, .ref qp, .int (zI ((ntD de + 1 : Nat) : Int)), .ref qi, .ref qs, .ref qk, .long (zL sv), .ref qb, .int (zI ((bn : Nat) : Int)), .ref qt, .ref qh, .ref qe])), (qn, .inl (k.1, 132, .inl (zF (upZ (upZ f (36 + 8 * x1.toNat + 3) x2) (36 + 8 * x1.toNat + 4) x3)))), (qp, .inl (k.1, 2640, .inl (zF (cpZ f (ntP pa de) 0 (132 * ntD de) 132)))), (qt, .inl (k.1, 24, .inl (zF ts)))] H := hP
        have hD : va_D A [(q0, .inr (10, [.ref qn, .ref qa, .ref qp, .int (zI ((ntD de + 1 : Nat) : Int)), .ref qi, .ref qs, .ref qk, .long (zL sv), .ref qb, .int (zI ((bn : Nat) : Int)), .ref qt, .ref qh, .ref qe])), (qn, .inl (k.1, 132, .inl (zF (upZ (upZ f (36 + 8 * x1.toNat + 3) x2) (36 + 8 * x1.toNat + 4) x3)))), (qp, .inl (k.1, 2640, .inl (zF (cpZ f (ntP pa de) 0 (132 * ntD de) 132)))), (qt, .inl (k.1, 24, .inl (zF ts)))] := hD
        rw [show upZ (upZ f (36 + 8 * x1.toNat + 3) x2) (36 + 8 * x1.toNat + 4) x3 = tuZ f x1.toNat x2 x3 from rfl] at hP hD
        refine lv_aload_n hx hb dX10_turn_66 rfl (lv_at hl 0 rfl) ?_
        refine lv_iload_n hx hb dX10_turn_67 rfl (lv_at hl 1 rfl) ?_
        refine z_iconst hx hb dX10_turn_68 ?_
        refine miV (n := 2) (As := [.int (zI ((x1.toNat : Nat) : Int)), .int (zI 0)]) (rest := []) hSf (m_dotsOf l D k q0 qn qa qp qi qs qk qb qt qh qe (ntD de + 1) sv bn (tuZ f x1.toNat x2 x3) B (Va_tu hV (by omega) (by omega)) hB ts x1.toNat (by rw [nT_tu]; omega) 0 (by omega)) gX10_turn_X10_dotsOf rfl (by decide +kernel) ⟨Nat.le_of_ble_eq_true rfl, Nat.le_of_ble_eq_true rfl⟩ hK hP hD hS [0, 1, 3] rfl rfl (by decide) (fun _ => rfl) (fun _ => rfl) 0 rfl rfl rfl hl.1 (by rw [show zI x1 = zI ((x1.toNat : Nat) : Int) from zc (by omega)]; rfl) (Nat.le_of_ble_eq_true rfl) dX10_turn_69 ⟨Nat.zero_le _, Nat.zero_le _⟩ (fun r_69 u_69 H locs h_69 hP hD hS => ?_)
        have hP : va_P D vwCl [(q0, .inr (10, [.ref qn, .ref qa, .ref qp, .int (zI (((ntD de + 1) : Nat) : Int)), .ref qi, .ref qs, .ref qk, .long (zL sv), .ref qb, .int (zI ((bn : Nat) : Int)), .ref qt, .ref qh, .ref qe])), (qn, .inl (k.1, 132, .inl (zF (tuZ f x1.toNat x2 x3)))), (qp, .inl (k.1, 2640, .inl (zF (cpZ f (ntP pa de) 0 (132 * ntD de) 132)))), (qt, .inl (k.1, 24, .inl (zF u_69)))] H := hP
        have hD : va_D A [(q0, .inr (10, [.ref qn, .ref qa, .ref qp, .int (zI (((ntD de + 1) : Nat) : Int)), .ref qi, .ref qs, .ref qk, .long (zL sv), .ref qb, .int (zI ((bn : Nat) : Int)), .ref qt, .ref qh, .ref qe])), (qn, .inl (k.1, 132, .inl (zF (tuZ f x1.toNat x2 x3)))), (qp, .inl (k.1, 2640, .inl (zF (cpZ f (ntP pa de) 0 (132 * ntD de) 132)))), (qt, .inl (k.1, 24, .inl (zF u_69)))] := hD
        obtain ⟨he_69, h_69⟩ := h_69
        subst he_69
        refine te (zc (show ((sm (fun q => doL (tuZ f x1.toNat x2 x3) 0 x1.toNat q) 24 : Nat) : Int) = ((sm (fun q => seeL (tuZ f x1.toNat x2 x3) x1.toNat q) 24 : Nat) : Int) from congrArg Nat.cast (doL0 _ _ _))) ?_
        exact W.iret hx hb hr (fun t ht hW => ⟨⟨_, (u_69, tuZ f x1.toNat x2 x3, ntH f (de, pa)), rfl, ⟨zc (by rw [if_pos (by omega), if_pos (by omega)]), by rw [if_pos (by omega)]⟩, by show va_P D vwCl _ _; rw [ht]; exact hP⟩, hS.F ht⟩) hS.2.2 dX10_turn_72
      · simp only [Bool.and_eq_false_iff, decide_eq_false_iff_not] at c_26
        refine lv_ldc hx hb hown (hts (.constant RX10 112 (-1000000002)) (by decide +kernel)) dX10_turn_29 ?_
        refine te (show (-1000000002 : Int32) = zI (-1000000002) from by decide +kernel) ?_
        exact W.iret hx hb hr (fun t ht hW => ⟨⟨_, (ts, f, de, pa), rfl, ⟨zc (by rw [if_pos (by omega), if_neg (by omega)]), by rw [if_neg (by omega)]⟩, by show va_P D vwCl _ _; rw [ht]; exact hP⟩, hS.F ht⟩) hS.2.2 dX10_turn_31
  · simp only [Bool.and_eq_false_iff, decide_eq_false_iff_not] at c_5
    refine lv_ldc hx hb hown (hts (.constant RX10 117 (-1000000001)) (by decide +kernel)) dX10_turn_8 ?_
    refine te (show (-1000000001 : Int32) = zI (-1000000001) from by decide +kernel) ?_
    exact W.iret hx hb hr (fun t ht hW => ⟨⟨_, (ts, f, de, pa), rfl, ⟨zc (by rw [if_neg (by omega)]), by rw [if_neg (by omega)]⟩, by show va_P D vwCl _ _; rw [ht]; exact hP⟩, hS.F ht⟩) hS.2.2 dX10_turn_10
set_option maxHeartbeats 4000000 in
set_option maxRecDepth 100000 in
theorem m_speed (l : Launch) (D : va_G) (k : Kt) (q0 : Nat) (qn : Nat) (qa : Nat) (qp : Nat) (qi : Nat) (qs : Nat) (qk : Nat) (qb : Nat) (qt : Nat) (qh : Nat) (qe : Nat) (de : Nat) (sv : Int) (bn : Nat) (f : St) (B : Int) (hV : Va B f) (hB : B < 1000000) (pa : Nat → Int) (hde : de ≤ 20) (x1 : Int) (x2 : Int) (x3 : Int) (hx1 : -2147483648 ≤ x1 ∧ x1 < 2147483648) (hx2 : -2147483648 ≤ x2 ∧ x2 < 2147483648) (hx3 : -2147483648 ≤ x3 ∧ x3 < 2147483648) : MI l D k yX10_speed wsX10_speed 2 43 [.ref q0, .int (zI x1), .int (zI x2), .int (zI x3)] [(q0, .inr (10, [.ref qn, .ref qa, .ref qp, .int (zI ((de : Nat) : Int)), .ref qi, .ref qs, .ref qk, .long (zL sv), .ref qb, .int (zI ((bn : Nat) : Int)), .ref qt, .ref qh, .ref qe])), (qn, .inl (k.1, 132, .inl (zF f))), (qp, .inl (k.1, 2640, .inl (zF pa)))] (fun (r : Int32) (u : St × HM) => r = zI (if 0 ≤ x1 ∧ x1 ≤ f 0 - 1 then (if (-8 ≤ x2 ∧ x2 ≤ 8) ∧ (-8 ≤ x3 ∧ x3 ≤ 8) then 1 else -1000000002) else -1000000001) ∧ u = if (0 ≤ x1 ∧ x1 ≤ f 0 - 1) ∧ (-8 ≤ x2 ∧ x2 ≤ 8) ∧ (-8 ≤ x3 ∧ x3 ≤ 8) then (spZ f x1.toNat x2 x3, ntH f (de, pa)) else (f, de, pa)) (fun u => [(q0, .inr (10, [.ref qn, .ref qa, .ref qp, .int (zI ((u.2.1 : Nat) : Int)), .ref qi, .ref qs, .ref qk, .long (zL sv), .ref qb, .int (zI ((bn : Nat) : Int)), .ref qt, .ref qh, .ref qe])), (qn, .inl (k.1, 132, .inl (zF u.1))), (qp, .inl (k.1, 2640, .inl (zF u.2.2)))]) := by
  refine Met.ofW (cc := cX10_speed) (maxL := 4) (ret := (some .int)) (by decide) rfl ?_
  intro p e s m args below meth c s₁ Bd hml hv
  obtain ⟨rfl, hP, hK, hD0⟩ := hv
  have hx := Bd.exec
  have hb := Bd.bytes
  have hr := Bd.returns
  have hts := atoms_spec (ws := wsX10_speed) Bd.pre
  have hown : s.vm.findClass RX10 = some m.cls := findClass_of_methodNamed Bd.named
  have hlocks := Bd.notSynchronized
  have hSf : CallFix p m c cX10_speed 4 s ([.ref q0, .int (zI x1), .int (zI x2), .int (zI x3)] : List Value).toArray wsX10_speed RX10 := ⟨hx, hb, hml, hown, hts⟩
  have hD := fA_D hD0
  have hS : va_S (fA [(q0, .inr (10, [.ref qn, .ref qa, .ref qp, .int (zI ((de : Nat) : Int)), .ref qi, .ref qs, .ref qk, .long (zL sv), .ref qb, .int (zI ((bn : Nat) : Int)), .ref qt, .ref qh, .ref qe])), (qn, .inl (k.1, 132, .inl (zF f))), (qp, .inl (k.1, 2640, .inl (zF pa)))]) s.heap s.heap [] := va_S.rf
  generalize hAe : fA [(q0, .inr (10, [.ref qn, .ref qa, .ref qp, .int (zI ((de : Nat) : Int)), .ref qi, .ref qs, .ref qk, .long (zL sv), .ref qb, .int (zI ((bn : Nat) : Int)), .ref qt, .ref qh, .ref qe])), (qn, .inl (k.1, 132, .inl (zF f))), (qp, .inl (k.1, 2640, .inl (zF pa)))] = A at hD hS ⊢
  have hP : va_P D vwCl [(q0, .inr (10, [.ref qn, .ref qa, .ref qp, .int (zI ((de : Nat) : Int)), .ref qi, .ref qs, .ref qk, .long (zL sv), .ref qb, .int (zI ((bn : Nat) : Int)), .ref qt, .ref qh, .ref qe])), (qn, .inl (k.1, 132, .inl (zF f))), (qp, .inl (k.1, 2640, .inl (zF pa)))] s.heap := hP
  have hinX10 : ∀ w ∈ u_ws RX10 TX10 13, w ∈ wsX10_speed := by decide +kernel
  have fl7 := hts (.fieldLink RX10 7 "DotObjectsModel" "now" "[I") (by decide +kernel)
  have hl := lv_entry ([.ref q0, .int (zI x1), .int (zI x2), .int (zI x3)]) (n := 4) (Nat.le_of_ble_eq_true rfl)
  rw [lg_entry_eq]
  generalize (lg_sl ([.ref q0, .int (zI x1), .int (zI x2), .int (zI x3)]) ++ List.replicate (4 - (lg_sl ([.ref q0, .int (zI x1), .int (zI x2), .int (zI x3)])).length) Slot.unset).toArray = ls at hl ⊢
  have hl : lv_has ls 4 [(0, .ref q0), (1, .int (zI x1)), (2, .int (zI x2)), (3, .int (zI x3))] := hl
  have hn := hV.n
  have hv0 := hV.1
  refine lv_aload_n hx hb dX10_speed_0 rfl (lv_at hl 0 rfl) ?_
  refine lv_iload_n hx hb dX10_speed_1 rfl (lv_at hl 1 rfl) ?_
  refine roV (n := 1) (As := [.int (zI x1)]) (rest := []) hSf (m_isThing l D k q0 qn qa qp qi qs qk qb qt qh qe de sv bn f B hV hB x1 (by omega)) gX10_speed_X10_isThing rfl (by decide +kernel) ⟨Nat.le_of_ble_eq_true rfl, Nat.le_of_ble_eq_true rfl⟩ hK hP [0, 1] rfl 0 rfl rfl rfl hl.1 rfl (Nat.le_of_ble_eq_true rfl) dX10_speed_2 ⟨Nat.zero_le _, Nat.zero_le _⟩ (fun r_2 h_2 => ?_)
  subst h_2
  refine z_if_neb (tgt := 11) hx hb dX10_speed_5 (by decide) (fun c_5 => ?_) (fun c_5 => ?_)
  · simp only [Bool.and_eq_true, decide_eq_true_eq] at c_5
    refine lv_iload_n hx hb dX10_speed_11 rfl (lv_at hl 2 rfl) ?_
    refine z_bipush hx hb dX10_speed_12 (by decide +kernel) ?_
    refine z_bipush hx hb dX10_speed_14 (by decide +kernel) ?_
    refine roS (n := 3) (As := [.int (zI x2), .int (zI (-8)), .int (zI 8)]) (rest := []) hSf (m_in l D k x2 (-8) 8 (by omega) (by omega) (by omega)) gX10_speed_X10_in rfl (by decide +kernel) ⟨Nat.le_of_ble_eq_true rfl, Nat.le_of_ble_eq_true rfl⟩ hK hP [] rfl rfl hl.1 rfl (Nat.le_of_ble_eq_true rfl) dX10_speed_16 ⟨Nat.zero_le _, Nat.zero_le _⟩ (fun r_16 h_16 => ?_)
    subst h_16
    refine z_if_eqb (tgt := 33) hx hb dX10_speed_19 (by decide) (fun c_19 => ?_) (fun c_19 => ?_)
    · simp only [Bool.and_eq_false_iff, decide_eq_false_iff_not] at c_19
      refine lv_ldc hx hb hown (hts (.constant RX10 112 (-1000000002)) (by decide +kernel)) dX10_speed_33 ?_
      refine te (show (-1000000002 : Int32) = zI (-1000000002) from by decide +kernel) ?_
      exact W.iret hx hb hr (fun t ht hW => ⟨⟨_, (f, de, pa), rfl, ⟨zc (by rw [if_pos (by omega), if_neg (by omega)]), by rw [if_neg (by omega)]⟩, by show va_P D vwCl _ _; rw [ht]; exact hP⟩, hS.F ht⟩) hS.2.2 dX10_speed_35
    · simp only [Bool.and_eq_true, decide_eq_true_eq] at c_19
      refine lv_iload_n hx hb dX10_speed_22 rfl (lv_at hl 3 rfl) ?_
      refine z_bipush hx hb dX10_speed_23 (by decide +kernel) ?_
      refine z_bipush hx hb dX10_speed_25 (by decide +kernel) ?_
      refine roS (n := 3) (As := [.int (zI x3), .int (zI (-8)), .int (zI 8)]) (rest := []) hSf (m_in l D k x3 (-8) 8 (by omega) (by omega) (by omega)) gX10_speed_X10_in rfl (by decide +kernel) ⟨Nat.le_of_ble_eq_true rfl, Nat.le_of_ble_eq_true rfl⟩ hK hP [] rfl rfl hl.1 rfl (Nat.le_of_ble_eq_true rfl) dX10_speed_27 ⟨Nat.zero_le _, Nat.zero_le _⟩ (fun r_27 h_27 => ?_)
      subst h_27
      refine z_if_neb (tgt := 36) hx hb dX10_speed_30 (by decide) (fun c_30 => ?_) (fun c_30 => ?_)
      · simp only [Bool.and_eq_true, decide_eq_true_eq] at c_30
        refine lv_aload_n hx hb dX10_speed_36 rfl (lv_at hl 0 rfl) ?_
        refine muV (n := 0) (As := []) (rest := []) hSf (m_notes l D k q0 qn qa qp qi qs qk qb qt qh qe de sv bn f pa hde) gX10_speed_X10_notes rfl (by decide +kernel) ⟨Nat.le_of_ble_eq_true rfl, Nat.le_of_ble_eq_true rfl⟩ hK hP hD hS [0, 1, 2] rfl rfl (by decide) (fun _ => rfl) (fun _ => rfl) 0 rfl rfl rfl hl.1 rfl (Nat.le_of_ble_eq_true rfl) dX10_speed_37 ⟨Nat.zero_le _, Nat.zero_le _⟩ (fun u_37 H locs h_37 hP hD hS => ?_)
        have hP : va_P D vwCl [(q0, .inr (10, [.ref qn, .ref qa, .ref qp, .int (zI ((ntD de + 1 : Nat) : Int)), .ref qi, .ref qs, .ref qk, .long (zL sv), .ref qb, .int (zI ((bn : Nat) : Int)), .ref qt, .ref qh, .ref qe])), (qn, .inl (k.1, 132, .inl (zF f))), (qp, .inl (k.1, 2640, .inl (zF (cpZ f (ntP pa de) 0 (132 * ntD de) 132))))] H := hP
        have hD : va_D A [(q0, .inr (10, [.ref qn, .ref qa, .ref qp, .int (zI ((ntD de + 1 : Nat) : Int)), .ref qi, .ref qs, .ref qk, .long (zL sv), .ref qb, .int (zI ((bn : Nat) : Int)), .ref qt, .ref qh, .ref qe])), (qn, .inl (k.1, 132, .inl (zF f))), (qp, .inl (k.1, 2640, .inl (zF (cpZ f (ntP pa de) 0 (132 * ntD de) 132))))] := hD
        refine lv_aload_n hx hb dX10_speed_40 rfl (lv_at hl 0 rfl) ?_
        refine va_get (D := D) (ci := 10) (v := .ref qn) (C := RX10) (T := TX10) (N := 13) hx hb hts hinX10 hown hK.1 hP 0 rfl rfl 0 (by decide) fl7 (fun _ h9 => h9) rfl dX10_speed_41 ?_
        refine z_bipush hx hb dX10_speed_44 (by decide +kernel) ?_
        refine z_bipush hx hb dX10_speed_46 (by decide +kernel) ?_
        refine lv_iload_n hx hb dX10_speed_48 rfl (lv_at hl 1 rfl) ?_
        refine z_imul hx hb dX10_speed_49 ?_
        refine z_iadd hx hb dX10_speed_50 ?_
        refine z_bipush hx hb dX10_speed_51 (by decide +kernel) ?_
        refine z_iadd hx hb dX10_speed_53 ?_
        refine lv_iload_n hx hb dX10_speed_54 rfl (lv_at hl 2 rfl) ?_
        refine z_ast hx hb hK hP hD hS 1 rfl (36 + 8 * x1.toNat + 6) (by omega) (by omega) (Nat.le_of_ble_eq_true rfl) dX10_speed_55 (fun H locs hP hD hS => ?_)
        have hP : va_P D vwCl [(q0, .inr (10, [.ref qn, .ref qa, .ref qp, .int (zI ((ntD de + 1 : Nat) : Int)), .ref qi, .ref qs, .ref qk, .long (zL sv), .ref qb, .int (zI ((bn : Nat) : Int)), .ref qt, .ref qh, .ref qe])), (qn, .inl (k.1, 132, .inl (zF (upZ f (36 + 8 * x1.toNat + 6) x2)))), (qp, .inl (k.1, 2640, .inl (zF (cpZ f (ntP pa de) 0 (132 * ntD de) 132))))] H := hP
        have hD : va_D A [(q0, .inr (10, [.ref qn, .ref qa, .ref qp, .int (zI ((ntD de + 1 : Nat) : Int)), .ref qi, .ref qs, .ref qk, .long (zL sv), .ref qb, .int (zI ((bn : Nat) : Int)), .ref qt, .ref qh, .ref qe])), (qn, .inl (k.1, 132, .inl (zF (upZ f (36 + 8 * x1.toNat + 6) x2)))), (qp, .inl (k.1, 2640, .inl (zF (cpZ f (ntP pa de) 0 (132 * ntD de) 132))))] := hD
        refine lv_aload_n hx hb dX10_speed_56 rfl (lv_at hl 0 rfl) ?_
        refine va_get (D := D) (ci := 10) (v := .ref qn) (C := RX10) (T := TX10) (N := 13) hx hb hts hinX10 hown hK.1 hP 0 rfl rfl 0 (by decide) fl7 (fun _ h9 => h9) rfl dX10_speed_57 ?_
        refine z_bipush hx hb dX10_speed_60 (by decide +kernel) ?_
        refine z_bipush hx hb dX10_speed_62 (by decide +kernel) ?_
        refine lv_iload_n hx hb dX10_speed_64 rfl (lv_at hl 1 rfl) ?_
        refine z_imul hx hb dX10_speed_65 ?_
        refine z_iadd hx hb dX10_speed_66 ?_
        refine z_bipush hx hb dX10_speed_67 (by decide +kernel) ?_
        refine z_iadd hx hb dX10_speed_69 ?_
        refine lv_iload_n hx hb dX10_speed_70 rfl (lv_at hl 3 rfl) ?_
        refine z_ast hx hb hK hP hD hS 1 rfl (36 + 8 * x1.toNat + 7) (by omega) (by omega) (Nat.le_of_ble_eq_true rfl) dX10_speed_71 (fun H locs hP hD hS => ?_)
        have hP : va_P D vwCl [(q0, .inr (10, [.ref qn, .ref qa, .ref qp, .int (zI ((ntD de + 1 : Nat) : Int)), .ref qi, .ref qs, .ref qk, .long (zL sv), .ref qb, .int (zI ((bn : Nat) : Int)), .ref qt, .ref qh, .ref qe])), (qn, .inl (k.1, 132, .inl (zF (upZ (upZ f (36 + 8 * x1.toNat + 6) x2) (36 + 8 * x1.toNat + 7) x3)))), (qp, .inl (k.1, 2640, .inl (zF (cpZ f (ntP pa de) 0 (132 * ntD de) 132))))] H := hP
        have hD : va_D A [(q0, .inr (10, [.ref qn, .ref qa, .ref qp, .int (zI ((ntD de + 1 : Nat) : Int)), .ref qi, .ref qs, .ref qk, .long (zL sv), .ref qb, .int (zI ((bn : Nat) : Int)), .ref qt, .ref qh, .ref qe])), (qn, .inl (k.1, 132, .inl (zF (upZ (upZ f (36 + 8 * x1.toNat + 6) x2) (36 + 8 * x1.toNat + 7) x3)))), (qp, .inl (k.1, 2640, .inl (zF (cpZ f (ntP pa de) 0 (132 * ntD de) 132))))] := hD
        rw [show upZ (upZ f (36 + 8 * x1.toNat + 6) x2) (36 + 8 * x1.toNat + 7) x3 = spZ f x1.toNat x2 x3 from rfl] at hP hD
        refine z_iconst hx hb dX10_speed_72 ?_
        exact W.iret hx hb hr (fun t ht hW => ⟨⟨_, (spZ f x1.toNat x2 x3, ntH f (de, pa)), rfl, ⟨zc (by rw [if_pos (by omega), if_pos (by omega)]), by rw [if_pos (by omega)]⟩, by show va_P D vwCl _ _; rw [ht]; exact hP⟩, hS.F ht⟩) hS.2.2 dX10_speed_73
      · simp only [Bool.and_eq_false_iff, decide_eq_false_iff_not] at c_30
        refine lv_ldc hx hb hown (hts (.constant RX10 112 (-1000000002)) (by decide +kernel)) dX10_speed_33 ?_
        refine te (show (-1000000002 : Int32) = zI (-1000000002) from by decide +kernel) ?_
        exact W.iret hx hb hr (fun t ht hW => ⟨⟨_, (f, de, pa), rfl, ⟨zc (by rw [if_pos (by omega), if_neg (by omega)]), by rw [if_neg (by omega)]⟩, by show va_P D vwCl _ _; rw [ht]; exact hP⟩, hS.F ht⟩) hS.2.2 dX10_speed_35
  · simp only [Bool.and_eq_false_iff, decide_eq_false_iff_not] at c_5
    refine lv_ldc hx hb hown (hts (.constant RX10 117 (-1000000001)) (by decide +kernel)) dX10_speed_8 ?_
    refine te (show (-1000000001 : Int32) = zI (-1000000001) from by decide +kernel) ?_
    exact W.iret hx hb hr (fun t ht hW => ⟨⟨_, (f, de, pa), rfl, ⟨zc (by rw [if_neg (by omega)]), by rw [if_neg (by omega)]⟩, by show va_P D vwCl _ _; rw [ht]; exact hP⟩, hS.F ht⟩) hS.2.2 dX10_speed_10
set_option maxHeartbeats 4000000 in
set_option maxRecDepth 100000 in
theorem m_take (l : Launch) (D : va_G) (k : Kt) (q0 : Nat) (qn : Nat) (qa : Nat) (qp : Nat) (qi : Nat) (qs : Nat) (qk : Nat) (qb : Nat) (qt : Nat) (qh : Nat) (qe : Nat) (de : Nat) (sv : Int) (bn : Nat) (f : St) (B : Int) (hV : Va B f) (hB : B < 1000000) (pa : Nat → Int) (hde : de ≤ 20) (x1 : Int) (hx1 : -2147483648 ≤ x1 ∧ x1 < 2147483648) : MI l D k yX10_take wsX10_take 2 43 [.ref q0, .int (zI x1)] [(q0, .inr (10, [.ref qn, .ref qa, .ref qp, .int (zI ((de : Nat) : Int)), .ref qi, .ref qs, .ref qk, .long (zL sv), .ref qb, .int (zI ((bn : Nat) : Int)), .ref qt, .ref qh, .ref qe])), (qn, .inl (k.1, 132, .inl (zF f))), (qp, .inl (k.1, 2640, .inl (zF pa)))] (fun (r : Int32) (u : St × HM) => r = zI (if 0 ≤ x1 ∧ x1 ≤ f 0 - 1 then f 0 - 1 else -1000000001) ∧ u = if 0 ≤ x1 ∧ x1 ≤ f 0 - 1 then (takM f x1.toNat, ntH f (de, pa)) else (f, de, pa)) (fun u => [(q0, .inr (10, [.ref qn, .ref qa, .ref qp, .int (zI ((u.2.1 : Nat) : Int)), .ref qi, .ref qs, .ref qk, .long (zL sv), .ref qb, .int (zI ((bn : Nat) : Int)), .ref qt, .ref qh, .ref qe])), (qn, .inl (k.1, 132, .inl (zF u.1))), (qp, .inl (k.1, 2640, .inl (zF u.2.2)))]) := by
  refine Met.ofW (cc := cX10_take) (maxL := 3) (ret := (some .int)) (by decide) rfl ?_
  intro p e s m args below meth c s₁ Bd hml hv
  obtain ⟨rfl, hP, hK, hD0⟩ := hv
  have hx := Bd.exec
  have hb := Bd.bytes
  have hr := Bd.returns
  have hts := atoms_spec (ws := wsX10_take) Bd.pre
  have hown : s.vm.findClass RX10 = some m.cls := findClass_of_methodNamed Bd.named
  have hlocks := Bd.notSynchronized
  have hSf : CallFix p m c cX10_take 3 s ([.ref q0, .int (zI x1)] : List Value).toArray wsX10_take RX10 := ⟨hx, hb, hml, hown, hts⟩
  have hD := fA_D hD0
  have hS : va_S (fA [(q0, .inr (10, [.ref qn, .ref qa, .ref qp, .int (zI ((de : Nat) : Int)), .ref qi, .ref qs, .ref qk, .long (zL sv), .ref qb, .int (zI ((bn : Nat) : Int)), .ref qt, .ref qh, .ref qe])), (qn, .inl (k.1, 132, .inl (zF f))), (qp, .inl (k.1, 2640, .inl (zF pa)))]) s.heap s.heap [] := va_S.rf
  generalize hAe : fA [(q0, .inr (10, [.ref qn, .ref qa, .ref qp, .int (zI ((de : Nat) : Int)), .ref qi, .ref qs, .ref qk, .long (zL sv), .ref qb, .int (zI ((bn : Nat) : Int)), .ref qt, .ref qh, .ref qe])), (qn, .inl (k.1, 132, .inl (zF f))), (qp, .inl (k.1, 2640, .inl (zF pa)))] = A at hD hS ⊢
  have hP : va_P D vwCl [(q0, .inr (10, [.ref qn, .ref qa, .ref qp, .int (zI ((de : Nat) : Int)), .ref qi, .ref qs, .ref qk, .long (zL sv), .ref qb, .int (zI ((bn : Nat) : Int)), .ref qt, .ref qh, .ref qe])), (qn, .inl (k.1, 132, .inl (zF f))), (qp, .inl (k.1, 2640, .inl (zF pa)))] s.heap := hP
  have hinX10 : ∀ w ∈ u_ws RX10 TX10 13, w ∈ wsX10_take := by decide +kernel
  have fl7 := hts (.fieldLink RX10 7 "DotObjectsModel" "now" "[I") (by decide +kernel)
  have hl := lv_entry ([.ref q0, .int (zI x1)]) (n := 3) (Nat.le_of_ble_eq_true rfl)
  rw [lg_entry_eq]
  generalize (lg_sl ([.ref q0, .int (zI x1)]) ++ List.replicate (3 - (lg_sl ([.ref q0, .int (zI x1)])).length) Slot.unset).toArray = ls at hl ⊢
  have hl : lv_has ls 3 [(0, .ref q0), (1, .int (zI x1))] := hl
  have hn := hV.n
  have hv0 := hV.1
  refine lv_aload_n hx hb dX10_take_0 rfl (lv_at hl 0 rfl) ?_
  refine lv_iload_n hx hb dX10_take_1 rfl (lv_at hl 1 rfl) ?_
  refine roV (n := 1) (As := [.int (zI x1)]) (rest := []) hSf (m_isThing l D k q0 qn qa qp qi qs qk qb qt qh qe de sv bn f B hV hB x1 (by omega)) gX10_take_X10_isThing rfl (by decide +kernel) ⟨Nat.le_of_ble_eq_true rfl, Nat.le_of_ble_eq_true rfl⟩ hK hP [0, 1] rfl 0 rfl rfl rfl hl.1 rfl (Nat.le_of_ble_eq_true rfl) dX10_take_2 ⟨Nat.zero_le _, Nat.zero_le _⟩ (fun r_2 h_2 => ?_)
  subst h_2
  refine z_if_neb (tgt := 11) hx hb dX10_take_5 (by decide) (fun c_5 => ?_) (fun c_5 => ?_)
  · simp only [Bool.and_eq_true, decide_eq_true_eq] at c_5
    refine lv_aload_n hx hb dX10_take_11 rfl (lv_at hl 0 rfl) ?_
    refine muV (n := 0) (As := []) (rest := []) hSf (m_notes l D k q0 qn qa qp qi qs qk qb qt qh qe de sv bn f pa hde) gX10_take_X10_notes rfl (by decide +kernel) ⟨Nat.le_of_ble_eq_true rfl, Nat.le_of_ble_eq_true rfl⟩ hK hP hD hS [0, 1, 2] rfl rfl (by decide) (fun _ => rfl) (fun _ => rfl) 0 rfl rfl rfl hl.1 rfl (Nat.le_of_ble_eq_true rfl) dX10_take_12 ⟨Nat.zero_le _, Nat.zero_le _⟩ (fun u_12 H locs h_12 hP hD hS => ?_)
    have hP : va_P D vwCl [(q0, .inr (10, [.ref qn, .ref qa, .ref qp, .int (zI ((ntD de + 1 : Nat) : Int)), .ref qi, .ref qs, .ref qk, .long (zL sv), .ref qb, .int (zI ((bn : Nat) : Int)), .ref qt, .ref qh, .ref qe])), (qn, .inl (k.1, 132, .inl (zF f))), (qp, .inl (k.1, 2640, .inl (zF (cpZ f (ntP pa de) 0 (132 * ntD de) 132))))] H := hP
    have hD : va_D A [(q0, .inr (10, [.ref qn, .ref qa, .ref qp, .int (zI ((ntD de + 1 : Nat) : Int)), .ref qi, .ref qs, .ref qk, .long (zL sv), .ref qb, .int (zI ((bn : Nat) : Int)), .ref qt, .ref qh, .ref qe])), (qn, .inl (k.1, 132, .inl (zF f))), (qp, .inl (k.1, 2640, .inl (zF (cpZ f (ntP pa de) 0 (132 * ntD de) 132))))] := hD
    refine z_bipush hx hb dX10_take_15 (by decide +kernel) ?_
    refine z_bipush hx hb dX10_take_17 (by decide +kernel) ?_
    refine lv_iload_n hx hb dX10_take_19 rfl (lv_at hl 1 rfl) ?_
    refine z_imul hx hb dX10_take_20 ?_
    refine z_iadd hx hb dX10_take_21 ?_
    refine lv_istore_n (lv' := [(2, .int (zI (36 + (8 * x1)))), (0, .ref q0), (1, .int (zI x1))]) hx hb dX10_take_22 rfl hl (by decide) rfl (fun ls hl => ?_)
    have L23 : ∀ (NN23 : Nat), ∀ (jj : Nat), (jj ≤ 88 - 8 * x1.toNat) → 88 - 8 * x1.toNat - jj < NN23 → ∀ (H : Heap) (locs : List Loc), va_P D vwCl [(q0, .inr (10, [.ref qn, .ref qa, .ref qp, .int (zI ((ntD de + 1 : Nat) : Int)), .ref qi, .ref qs, .ref qk, .long (zL sv), .ref qb, .int (zI ((bn : Nat) : Int)), .ref qt, .ref qh, .ref qe])), (qn, .inl (k.1, 132, .inl (zF (cpZ f f (36 + 8 * x1.toNat + 8) (36 + 8 * x1.toNat) jj)))), (qp, .inl (k.1, 2640, .inl (zF (cpZ f (ntP pa de) 0 (132 * ntD de) 132))))] H → va_D A [(q0, .inr (10, [.ref qn, .ref qa, .ref qp, .int (zI ((ntD de + 1 : Nat) : Int)), .ref qi, .ref qs, .ref qk, .long (zL sv), .ref qb, .int (zI ((bn : Nat) : Int)), .ref qt, .ref qh, .ref qe])), (qn, .inl (k.1, 132, .inl (zF (cpZ f f (36 + 8 * x1.toNat + 8) (36 + 8 * x1.toNat) jj)))), (qp, .inl (k.1, 2640, .inl (zF (cpZ f (ntP pa de) 0 (132 * ntD de) 132))))] → va_S A s.heap H locs → ∀ (ls : Array Slot), lv_has ls 3 [(0, .ref q0), (1, .int (zI x1)), (2, .int (zI (36 + 8 * x1 + ((jj : Nat) : Int))))] → W p l e (headSpec wsX10_take { frames := 2, cells := 0, slots := 0, locals := 43 }).room s m ([.ref q0, .int (zI x1)] : List Value).toArray below meth c H locs 0 0 (MQ below (va_Qi (fun (r : Int32) (u : St × HM) => r = zI (if 0 ≤ x1 ∧ x1 ≤ f 0 - 1 then f 0 - 1 else -1000000001) ∧ u = if 0 ≤ x1 ∧ x1 ≤ f 0 - 1 then (takM f x1.toNat, ntH f (de, pa)) else (f, de, pa)) (fun (u : St × HM) t => va_P D vwCl [(q0, .inr (10, [.ref qn, .ref qa, .ref qp, .int (zI ((u.2.1 : Nat) : Int)), .ref qi, .ref qs, .ref qk, .long (zL sv), .ref qb, .int (zI ((bn : Nat) : Int)), .ref qt, .ref qh, .ref qe])), (qn, .inl (k.1, 132, .inl (zF u.1))), (qp, .inl (k.1, 2640, .inl (zF u.2.2)))] t.heap) A) ([.ref q0, .int (zI x1)] : List Value).toArray s 0 0 A) (F0 m 23 ls []) := by
      intro NN23
      induction NN23 with
      | zero => intro jj _ hN; exact absurd hN (Nat.not_lt_zero _)
      | succ NN23 ih23 =>
        intro jj hjj hN H locs hP hD hS ls hl
        refine lv_iload_n hx hb dX10_take_23 rfl (lv_at hl 2 rfl) ?_
        refine z_bipush hx hb dX10_take_24 (by decide +kernel) ?_
        refine z_iadd hx hb dX10_take_26 ?_
        refine z_sipush hx hb dX10_take_27 (by decide +kernel) ?_
        refine z_icmp_ge (tgt := 54) hx hb dX10_take_30 (by decide) (by omega) (by omega) (fun c_30 => ?_) (fun c_30 => ?_)
        · have hj : jj = 88 - 8 * x1.toNat := by omega
          refine lv_aload_n hx hb dX10_take_54 rfl (lv_at hl 0 rfl) ?_
          refine va_get (D := D) (ci := 10) (v := .ref qn) (C := RX10) (T := TX10) (N := 13) hx hb hts hinX10 hown hK.1 hP 0 rfl rfl 0 (by decide) fl7 (fun _ h9 => h9) rfl dX10_take_55 ?_
          refine z_iconst hx hb dX10_take_58 ?_
          refine lv_dup2_11 hx hb dX10_take_59 rfl rfl ?_
          refine z_ald hx hb hK hP 1 rfl (0) (by omega) (by omega) (Nat.le_of_ble_eq_true rfl) dX10_take_60 ?_
          refine te (zc (show (cpZ f f (36 + 8 * x1.toNat + 8) (36 + 8 * x1.toNat) jj) 0 = f 0 from cpZ_out (by omega))) ?_
          refine z_iconst hx hb dX10_take_61 ?_
          refine z_isub hx hb dX10_take_62 ?_
          refine z_ast hx hb hK hP hD hS 1 rfl (0) (by omega) (by omega) (Nat.le_of_ble_eq_true rfl) dX10_take_63 (fun H locs hP hD hS => ?_)
          have hP : va_P D vwCl [(q0, .inr (10, [.ref qn, .ref qa, .ref qp, .int (zI ((ntD de + 1 : Nat) : Int)), .ref qi, .ref qs, .ref qk, .long (zL sv), .ref qb, .int (zI ((bn : Nat) : Int)), .ref qt, .ref qh, .ref qe])), (qn, .inl (k.1, 132, .inl (zF (upZ (cpZ f f (36 + 8 * x1.toNat + 8) (36 + 8 * x1.toNat) jj) 0 ((f 0) - 1))))), (qp, .inl (k.1, 2640, .inl (zF (cpZ f (ntP pa de) 0 (132 * ntD de) 132))))] H := hP
          have hD : va_D A [(q0, .inr (10, [.ref qn, .ref qa, .ref qp, .int (zI ((ntD de + 1 : Nat) : Int)), .ref qi, .ref qs, .ref qk, .long (zL sv), .ref qb, .int (zI ((bn : Nat) : Int)), .ref qt, .ref qh, .ref qe])), (qn, .inl (k.1, 132, .inl (zF (upZ (cpZ f f (36 + 8 * x1.toNat + 8) (36 + 8 * x1.toNat) jj) 0 ((f 0) - 1))))), (qp, .inl (k.1, 2640, .inl (zF (cpZ f (ntP pa de) 0 (132 * ntD de) 132))))] := hD
          rw [show upZ (cpZ f f (36 + 8 * x1.toNat + 8) (36 + 8 * x1.toNat) jj) 0 ((f 0) - 1) = takM f x1.toNat from by rw [hj]; rfl] at hP hD
          refine lv_aload_n hx hb dX10_take_64 rfl (lv_at hl 0 rfl) ?_
          refine va_get (D := D) (ci := 10) (v := .ref qn) (C := RX10) (T := TX10) (N := 13) hx hb hts hinX10 hown hK.1 hP 0 rfl rfl 0 (by decide) fl7 (fun _ h9 => h9) rfl dX10_take_65 ?_
          refine z_iconst hx hb dX10_take_68 ?_
          refine z_ald hx hb hK hP 1 rfl (0) (by omega) (by omega) (Nat.le_of_ble_eq_true rfl) dX10_take_69 ?_
          refine te (zc (show (takM f x1.toNat) 0 = f 0 - 1 from upZ_s)) ?_
          exact W.iret hx hb hr (fun t ht hW => ⟨⟨_, (takM f x1.toNat, ntH f (de, pa)), rfl, ⟨zc (by rw [if_pos (by omega)]), by rw [if_pos (by omega)]⟩, by show va_P D vwCl _ _; rw [ht]; exact hP⟩, hS.F ht⟩) hS.2.2 dX10_take_70
        · refine lv_aload_n hx hb dX10_take_33 rfl (lv_at hl 0 rfl) ?_
          refine va_get (D := D) (ci := 10) (v := .ref qn) (C := RX10) (T := TX10) (N := 13) hx hb hts hinX10 hown hK.1 hP 0 rfl rfl 0 (by decide) fl7 (fun _ h9 => h9) rfl dX10_take_34 ?_
          refine lv_iload_n hx hb dX10_take_37 rfl (lv_at hl 2 rfl) ?_
          refine lv_aload_n hx hb dX10_take_38 rfl (lv_at hl 0 rfl) ?_
          refine va_get (D := D) (ci := 10) (v := .ref qn) (C := RX10) (T := TX10) (N := 13) hx hb hts hinX10 hown hK.1 hP 0 rfl rfl 0 (by decide) fl7 (fun _ h9 => h9) rfl dX10_take_39 ?_
          refine lv_iload_n hx hb dX10_take_42 rfl (lv_at hl 2 rfl) ?_
          refine z_bipush hx hb dX10_take_43 (by decide +kernel) ?_
          refine z_iadd hx hb dX10_take_45 ?_
          refine z_ald hx hb hK hP 1 rfl (36 + 8 * x1.toNat + jj + 8) (by omega) (by omega) (Nat.le_of_ble_eq_true rfl) dX10_take_46 ?_
          refine te (zc (show (cpZ f f (36 + 8 * x1.toNat + 8) (36 + 8 * x1.toNat) jj) (36 + 8 * x1.toNat + jj + 8) = f (36 + 8 * x1.toNat + jj + 8) from cpZ_out (by omega))) ?_
          refine z_ast hx hb hK hP hD hS 1 rfl (36 + 8 * x1.toNat + jj) (by omega) (by omega) (Nat.le_of_ble_eq_true rfl) dX10_take_47 (fun H locs hP hD hS => ?_)
          have hP : va_P D vwCl [(q0, .inr (10, [.ref qn, .ref qa, .ref qp, .int (zI ((ntD de + 1 : Nat) : Int)), .ref qi, .ref qs, .ref qk, .long (zL sv), .ref qb, .int (zI ((bn : Nat) : Int)), .ref qt, .ref qh, .ref qe])), (qn, .inl (k.1, 132, .inl (zF (upZ (cpZ f f (36 + 8 * x1.toNat + 8) (36 + 8 * x1.toNat) jj) (36 + 8 * x1.toNat + jj) (f (36 + 8 * x1.toNat + jj + 8)))))), (qp, .inl (k.1, 2640, .inl (zF (cpZ f (ntP pa de) 0 (132 * ntD de) 132))))] H := hP
          have hD : va_D A [(q0, .inr (10, [.ref qn, .ref qa, .ref qp, .int (zI ((ntD de + 1 : Nat) : Int)), .ref qi, .ref qs, .ref qk, .long (zL sv), .ref qb, .int (zI ((bn : Nat) : Int)), .ref qt, .ref qh, .ref qe])), (qn, .inl (k.1, 132, .inl (zF (upZ (cpZ f f (36 + 8 * x1.toNat + 8) (36 + 8 * x1.toNat) jj) (36 + 8 * x1.toNat + jj) (f (36 + 8 * x1.toNat + jj + 8)))))), (qp, .inl (k.1, 2640, .inl (zF (cpZ f (ntP pa de) 0 (132 * ntD de) 132))))] := hD
          rw [show upZ (cpZ f f (36 + 8 * x1.toNat + 8) (36 + 8 * x1.toNat) jj) (36 + 8 * x1.toNat + jj) (f (36 + 8 * x1.toNat + jj + 8)) = cpZ f f (36 + 8 * x1.toNat + 8) (36 + 8 * x1.toNat) (jj + 1) from cpZ_s rfl (by congr 1; omega)] at hP hD
          refine lv_iinc (v := zI ((36 + 8 * x1 + ((jj : Nat) : Int)) + 1)) (lv' := [(2, .int (zI ((36 + 8 * x1 + ((jj : Nat) : Int)) + 1))), (0, .ref q0), (1, .int (zI x1))]) hx hb dX10_take_48 hl (k := 2) rfl (zI_add _ _) (by decide) rfl (fun ls hl => ?_)
          refine lv_goto (tgt := 23) hx hb dX10_take_51 (by decide) ?_
          have hl : lv_has ls 3 [(2, .int (zI (36 + 8 * x1 + (((jj + 1) : Nat) : Int)))), (0, .ref q0), (1, .int (zI x1))] := lv_c (l1 := []) (l2 := [(0, .ref q0), (1, .int (zI x1))]) hl (show (36 + 8 * x1 + ((jj : Nat) : Int)) + 1 = 36 + 8 * x1 + (((jj + 1) : Nat) : Int) from by omega)
          exact ih23 (jj + 1) (by omega) (by omega) _ _ hP hD hS ls (lv_sub hl [1, 2, 0] rfl)
    have hl : lv_has ls 3 [(2, .int (zI (36 + 8 * x1 + ((0 : Nat) : Int)))), (0, .ref q0), (1, .int (zI x1))] := lv_c (l1 := []) (l2 := [(0, .ref q0), (1, .int (zI x1))]) hl (show 36 + (8 * x1) = 36 + 8 * x1 + ((0 : Nat) : Int) from by omega)
    exact L23 _ 0 (by omega) (Nat.lt_succ_self _) _ _ (by rw [cpZ_0]; exact hP) (by rw [cpZ_0]; exact hD) hS ls (lv_sub hl [1, 2, 0] rfl)
  · simp only [Bool.and_eq_false_iff, decide_eq_false_iff_not] at c_5
    refine lv_ldc hx hb hown (hts (.constant RX10 117 (-1000000001)) (by decide +kernel)) dX10_take_8 ?_
    refine te (show (-1000000001 : Int32) = zI (-1000000001) from by decide +kernel) ?_
    exact W.iret hx hb hr (fun t ht hW => ⟨⟨_, (f, de, pa), rfl, ⟨zc (by rw [if_neg (by omega)]), by rw [if_neg (by omega)]⟩, by show va_P D vwCl _ _; rw [ht]; exact hP⟩, hS.F ht⟩) hS.2.2 dX10_take_10
set_option maxHeartbeats 4000000 in
set_option maxRecDepth 100000 in
theorem m_limit (l : Launch) (D : va_G) (k : Kt) (q0 : Nat) (qn : Nat) (qa : Nat) (qp : Nat) (qi : Nat) (qs : Nat) (qk : Nat) (qb : Nat) (qt : Nat) (qh : Nat) (qe : Nat) (de : Nat) (sv : Int) (bn : Nat) (f : St) (B : Int) (hV : Va B f) (hB : B < 1000000) (pa : Nat → Int) (hde : de ≤ 20) (ts : Nat → Int) (x1 : Int) (hx1 : -2147483648 ≤ x1 ∧ x1 < 2147483648) : MI l D k yX10_limit wsX10_limit 7 160 [.ref q0, .int (zI x1)] [(q0, .inr (10, [.ref qn, .ref qa, .ref qp, .int (zI ((de : Nat) : Int)), .ref qi, .ref qs, .ref qk, .long (zL sv), .ref qb, .int (zI ((bn : Nat) : Int)), .ref qt, .ref qh, .ref qe])), (qn, .inl (k.1, 132, .inl (zF f))), (qp, .inl (k.1, 2640, .inl (zF pa))), (qt, .inl (k.1, 24, .inl (zF ts)))] (fun (r : Int32) (u : (Nat → Int) × St × HM) => r = zI (if 1 ≤ x1 ∧ x1 ≤ 8 then ((misF (upZ f 1 x1) ((upZ f 1 x1) 2) : Nat) : Int) else -1000000002) ∧ u.2 = if 1 ≤ x1 ∧ x1 ≤ 8 then (upZ f 1 x1, ntH f (de, pa)) else (f, de, pa)) (fun u => [(q0, .inr (10, [.ref qn, .ref qa, .ref qp, .int (zI ((u.2.2.1 : Nat) : Int)), .ref qi, .ref qs, .ref qk, .long (zL sv), .ref qb, .int (zI ((bn : Nat) : Int)), .ref qt, .ref qh, .ref qe])), (qn, .inl (k.1, 132, .inl (zF u.2.1))), (qp, .inl (k.1, 2640, .inl (zF u.2.2.2))), (qt, .inl (k.1, 24, .inl (zF u.1)))]) := by
  refine Met.ofW (cc := cX10_limit) (maxL := 2) (ret := (some .int)) (by decide) rfl ?_
  intro p e s m args below meth c s₁ Bd hml hv
  obtain ⟨rfl, hP, hK, hD0⟩ := hv
  have hx := Bd.exec
  have hb := Bd.bytes
  have hr := Bd.returns
  have hts := atoms_spec (ws := wsX10_limit) Bd.pre
  have hown : s.vm.findClass RX10 = some m.cls := findClass_of_methodNamed Bd.named
  have hlocks := Bd.notSynchronized
  have hSf : CallFix p m c cX10_limit 2 s ([.ref q0, .int (zI x1)] : List Value).toArray wsX10_limit RX10 := ⟨hx, hb, hml, hown, hts⟩
  have hD := fA_D hD0
  have hS : va_S (fA [(q0, .inr (10, [.ref qn, .ref qa, .ref qp, .int (zI ((de : Nat) : Int)), .ref qi, .ref qs, .ref qk, .long (zL sv), .ref qb, .int (zI ((bn : Nat) : Int)), .ref qt, .ref qh, .ref qe])), (qn, .inl (k.1, 132, .inl (zF f))), (qp, .inl (k.1, 2640, .inl (zF pa))), (qt, .inl (k.1, 24, .inl (zF ts)))]) s.heap s.heap [] := va_S.rf
  generalize hAe : fA [(q0, .inr (10, [.ref qn, .ref qa, .ref qp, .int (zI ((de : Nat) : Int)), .ref qi, .ref qs, .ref qk, .long (zL sv), .ref qb, .int (zI ((bn : Nat) : Int)), .ref qt, .ref qh, .ref qe])), (qn, .inl (k.1, 132, .inl (zF f))), (qp, .inl (k.1, 2640, .inl (zF pa))), (qt, .inl (k.1, 24, .inl (zF ts)))] = A at hD hS ⊢
  have hP : va_P D vwCl [(q0, .inr (10, [.ref qn, .ref qa, .ref qp, .int (zI ((de : Nat) : Int)), .ref qi, .ref qs, .ref qk, .long (zL sv), .ref qb, .int (zI ((bn : Nat) : Int)), .ref qt, .ref qh, .ref qe])), (qn, .inl (k.1, 132, .inl (zF f))), (qp, .inl (k.1, 2640, .inl (zF pa))), (qt, .inl (k.1, 24, .inl (zF ts)))] s.heap := hP
  have hinX10 : ∀ w ∈ u_ws RX10 TX10 13, w ∈ wsX10_limit := by decide +kernel
  have fl7 := hts (.fieldLink RX10 7 "DotObjectsModel" "now" "[I") (by decide +kernel)
  have hl := lv_entry ([.ref q0, .int (zI x1)]) (n := 2) (Nat.le_of_ble_eq_true rfl)
  rw [lg_entry_eq]
  generalize (lg_sl ([.ref q0, .int (zI x1)]) ++ List.replicate (2 - (lg_sl ([.ref q0, .int (zI x1)])).length) Slot.unset).toArray = ls at hl ⊢
  have hl : lv_has ls 2 [(0, .ref q0), (1, .int (zI x1))] := hl
  refine lv_iload_n hx hb dX10_limit_0 rfl (lv_at hl 1 rfl) ?_
  refine z_iconst hx hb dX10_limit_1 ?_
  refine z_bipush hx hb dX10_limit_2 (by decide +kernel) ?_
  refine roS (n := 3) (As := [.int (zI x1), .int (zI 1), .int (zI 8)]) (rest := []) hSf (m_in l D k x1 1 8 (by omega) (by omega) (by omega)) gX10_limit_X10_in rfl (by decide +kernel) ⟨Nat.le_of_ble_eq_true rfl, Nat.le_of_ble_eq_true rfl⟩ hK hP [] rfl rfl hl.1 rfl (Nat.le_of_ble_eq_true rfl) dX10_limit_4 ⟨Nat.zero_le _, Nat.zero_le _⟩ (fun r_4 h_4 => ?_)
  subst h_4
  refine z_if_neb (tgt := 13) hx hb dX10_limit_7 (by decide) (fun c_7 => ?_) (fun c_7 => ?_)
  · simp only [Bool.and_eq_true, decide_eq_true_eq] at c_7
    refine lv_aload_n hx hb dX10_limit_13 rfl (lv_at hl 0 rfl) ?_
    refine muV (n := 0) (As := []) (rest := []) hSf (m_notes l D k q0 qn qa qp qi qs qk qb qt qh qe de sv bn f pa hde) gX10_limit_X10_notes rfl (by decide +kernel) ⟨Nat.le_of_ble_eq_true rfl, Nat.le_of_ble_eq_true rfl⟩ hK hP hD hS [0, 1, 2] rfl rfl (by decide) (fun _ => rfl) (fun _ => rfl) 0 rfl rfl rfl hl.1 rfl (Nat.le_of_ble_eq_true rfl) dX10_limit_14 ⟨Nat.zero_le _, Nat.zero_le _⟩ (fun u_14 H locs h_14 hP hD hS => ?_)
    have hP : va_P D vwCl [(q0, .inr (10, [.ref qn, .ref qa, .ref qp, .int (zI ((ntD de + 1 : Nat) : Int)), .ref qi, .ref qs, .ref qk, .long (zL sv), .ref qb, .int (zI ((bn : Nat) : Int)), .ref qt, .ref qh, .ref qe])), (qn, .inl (k.1, 132, .inl (zF f))), (qp, .inl (k.1, 2640, .inl (zF (cpZ f (ntP pa de) 0 (132 * ntD de) 132)))), (qt, .inl (k.1, 24, .inl (zF ts)))] H := hP
    have hD : va_D A [(q0, .inr (10, [.ref qn, .ref qa, .ref qp, .int (zI ((ntD de + 1 : Nat) : Int)), .ref qi, .ref qs, .ref qk, .long (zL sv), .ref qb, .int (zI ((bn : Nat) : Int)), .ref qt, .ref qh, .ref qe])), (qn, .inl (k.1, 132, .inl (zF f))), (qp, .inl (k.1, 2640, .inl (zF (cpZ f (ntP pa de) 0 (132 * ntD de) 132)))), (qt, .inl (k.1, 24, .inl (zF ts)))] := hD
    refine lv_aload_n hx hb dX10_limit_17 rfl (lv_at hl 0 rfl) ?_
    refine va_get (D := D) (ci := 10) (v := .ref qn) (C := RX10) (T := TX10) (N := 13) hx hb hts hinX10 hown hK.1 hP 0 rfl rfl 0 (by decide) fl7 (fun _ h9 => h9) rfl dX10_limit_18 ?_
    refine z_iconst hx hb dX10_limit_21 ?_
    refine lv_iload_n hx hb dX10_limit_22 rfl (lv_at hl 1 rfl) ?_
    refine z_ast hx hb hK hP hD hS 1 rfl (1) (by omega) (by omega) (Nat.le_of_ble_eq_true rfl) dX10_limit_23 (fun H locs hP hD hS => ?_)
    have hP : va_P D vwCl [(q0, .inr (10, [.ref qn, .ref qa, .ref qp, .int (zI ((ntD de + 1 : Nat) : Int)), .ref qi, .ref qs, .ref qk, .long (zL sv), .ref qb, .int (zI ((bn : Nat) : Int)), .ref qt, .ref qh, .ref qe])), (qn, .inl (k.1, 132, .inl (zF (upZ f 1 x1)))), (qp, .inl (k.1, 2640, .inl (zF (cpZ f (ntP pa de) 0 (132 * ntD de) 132)))), (qt, .inl (k.1, 24, .inl (zF ts)))] H := hP
    have hD : va_D A [(q0, .inr (10, [.ref qn, .ref qa, .ref qp, .int (zI ((ntD de + 1 : Nat) : Int)), .ref qi, .ref qs, .ref qk, .long (zL sv), .ref qb, .int (zI ((bn : Nat) : Int)), .ref qt, .ref qh, .ref qe])), (qn, .inl (k.1, 132, .inl (zF (upZ f 1 x1)))), (qp, .inl (k.1, 2640, .inl (zF (cpZ f (ntP pa de) 0 (132 * ntD de) 132)))), (qt, .inl (k.1, 24, .inl (zF ts)))] := hD
    refine lv_aload_n hx hb dX10_limit_24 rfl (lv_at hl 0 rfl) ?_
    refine miV (n := 0) (As := []) (rest := []) hSf (m_missing l D k q0 qn qa qp qi qs qk qb qt qh qe (ntD de + 1) sv bn (upZ f 1 x1) B (Va_low hV (by decide) (by decide) (by omega) (by omega) (by decide) (by omega)) hB ts) gX10_limit_X10_missing rfl (by decide +kernel) ⟨Nat.le_of_ble_eq_true rfl, Nat.le_of_ble_eq_true rfl⟩ hK hP hD hS [0, 1, 3] rfl rfl (by decide) (fun _ => rfl) (fun _ => rfl) 0 rfl rfl rfl hl.1 rfl (Nat.le_of_ble_eq_true rfl) dX10_limit_25 ⟨Nat.zero_le _, Nat.zero_le _⟩ (fun r_25 u_25 H locs h_25 hP hD hS => ?_)
    have hP : va_P D vwCl [(q0, .inr (10, [.ref qn, .ref qa, .ref qp, .int (zI (((ntD de + 1) : Nat) : Int)), .ref qi, .ref qs, .ref qk, .long (zL sv), .ref qb, .int (zI ((bn : Nat) : Int)), .ref qt, .ref qh, .ref qe])), (qn, .inl (k.1, 132, .inl (zF (upZ f 1 x1)))), (qp, .inl (k.1, 2640, .inl (zF (cpZ f (ntP pa de) 0 (132 * ntD de) 132)))), (qt, .inl (k.1, 24, .inl (zF u_25)))] H := hP
    have hD : va_D A [(q0, .inr (10, [.ref qn, .ref qa, .ref qp, .int (zI (((ntD de + 1) : Nat) : Int)), .ref qi, .ref qs, .ref qk, .long (zL sv), .ref qb, .int (zI ((bn : Nat) : Int)), .ref qt, .ref qh, .ref qe])), (qn, .inl (k.1, 132, .inl (zF (upZ f 1 x1)))), (qp, .inl (k.1, 2640, .inl (zF (cpZ f (ntP pa de) 0 (132 * ntD de) 132)))), (qt, .inl (k.1, 24, .inl (zF u_25)))] := hD
    obtain ⟨he_25, h_25⟩ := h_25
    subst he_25
    exact W.iret hx hb hr (fun t ht hW => ⟨⟨_, (u_25, upZ f 1 x1, ntH f (de, pa)), rfl, ⟨zc (by rw [if_pos (by omega)]), by rw [if_pos (by omega)]⟩, by show va_P D vwCl _ _; rw [ht]; exact hP⟩, hS.F ht⟩) hS.2.2 dX10_limit_28
  · simp only [Bool.and_eq_false_iff, decide_eq_false_iff_not] at c_7
    refine lv_ldc hx hb hown (hts (.constant RX10 112 (-1000000002)) (by decide +kernel)) dX10_limit_10 ?_
    refine te (show (-1000000002 : Int32) = zI (-1000000002) from by decide +kernel) ?_
    exact W.iret hx hb hr (fun t ht hW => ⟨⟨_, (ts, f, de, pa), rfl, ⟨zc (by rw [if_neg (by omega)]), by rw [if_neg (by omega)]⟩, by show va_P D vwCl _ _; rw [ht]; exact hP⟩, hS.F ht⟩) hS.2.2 dX10_limit_12
set_option maxHeartbeats 4000000 in
set_option maxRecDepth 100000 in
theorem m_rule (l : Launch) (D : va_G) (k : Kt) (q0 : Nat) (qn : Nat) (qa : Nat) (qp : Nat) (qi : Nat) (qs : Nat) (qk : Nat) (qb : Nat) (qt : Nat) (qh : Nat) (qe : Nat) (de : Nat) (sv : Int) (bn : Nat) (f : St) (B : Int) (hV : Va B f) (hB : B < 1000000) (pa : Nat → Int) (hde : de ≤ 20) (ts : Nat → Int) (x1 : Int) (hx1 : -2147483648 ≤ x1 ∧ x1 < 2147483648) : MI l D k yX10_rule wsX10_rule 7 160 [.ref q0, .int (zI x1)] [(q0, .inr (10, [.ref qn, .ref qa, .ref qp, .int (zI ((de : Nat) : Int)), .ref qi, .ref qs, .ref qk, .long (zL sv), .ref qb, .int (zI ((bn : Nat) : Int)), .ref qt, .ref qh, .ref qe])), (qn, .inl (k.1, 132, .inl (zF f))), (qp, .inl (k.1, 2640, .inl (zF pa))), (qt, .inl (k.1, 24, .inl (zF ts)))] (fun (r : Int32) (u : (Nat → Int) × St × HM) => r = zI (if 0 ≤ x1 ∧ x1 ≤ 3 then ((misF (upZ f 2 x1) ((upZ f 2 x1) 2) : Nat) : Int) else -1000000002) ∧ u.2 = if 0 ≤ x1 ∧ x1 ≤ 3 then (upZ f 2 x1, ntH f (de, pa)) else (f, de, pa)) (fun u => [(q0, .inr (10, [.ref qn, .ref qa, .ref qp, .int (zI ((u.2.2.1 : Nat) : Int)), .ref qi, .ref qs, .ref qk, .long (zL sv), .ref qb, .int (zI ((bn : Nat) : Int)), .ref qt, .ref qh, .ref qe])), (qn, .inl (k.1, 132, .inl (zF u.2.1))), (qp, .inl (k.1, 2640, .inl (zF u.2.2.2))), (qt, .inl (k.1, 24, .inl (zF u.1)))]) := by
  refine Met.ofW (cc := cX10_rule) (maxL := 2) (ret := (some .int)) (by decide) rfl ?_
  intro p e s m args below meth c s₁ Bd hml hv
  obtain ⟨rfl, hP, hK, hD0⟩ := hv
  have hx := Bd.exec
  have hb := Bd.bytes
  have hr := Bd.returns
  have hts := atoms_spec (ws := wsX10_rule) Bd.pre
  have hown : s.vm.findClass RX10 = some m.cls := findClass_of_methodNamed Bd.named
  have hlocks := Bd.notSynchronized
  have hSf : CallFix p m c cX10_rule 2 s ([.ref q0, .int (zI x1)] : List Value).toArray wsX10_rule RX10 := ⟨hx, hb, hml, hown, hts⟩
  have hD := fA_D hD0
  have hS : va_S (fA [(q0, .inr (10, [.ref qn, .ref qa, .ref qp, .int (zI ((de : Nat) : Int)), .ref qi, .ref qs, .ref qk, .long (zL sv), .ref qb, .int (zI ((bn : Nat) : Int)), .ref qt, .ref qh, .ref qe])), (qn, .inl (k.1, 132, .inl (zF f))), (qp, .inl (k.1, 2640, .inl (zF pa))), (qt, .inl (k.1, 24, .inl (zF ts)))]) s.heap s.heap [] := va_S.rf
  generalize hAe : fA [(q0, .inr (10, [.ref qn, .ref qa, .ref qp, .int (zI ((de : Nat) : Int)), .ref qi, .ref qs, .ref qk, .long (zL sv), .ref qb, .int (zI ((bn : Nat) : Int)), .ref qt, .ref qh, .ref qe])), (qn, .inl (k.1, 132, .inl (zF f))), (qp, .inl (k.1, 2640, .inl (zF pa))), (qt, .inl (k.1, 24, .inl (zF ts)))] = A at hD hS ⊢
  have hP : va_P D vwCl [(q0, .inr (10, [.ref qn, .ref qa, .ref qp, .int (zI ((de : Nat) : Int)), .ref qi, .ref qs, .ref qk, .long (zL sv), .ref qb, .int (zI ((bn : Nat) : Int)), .ref qt, .ref qh, .ref qe])), (qn, .inl (k.1, 132, .inl (zF f))), (qp, .inl (k.1, 2640, .inl (zF pa))), (qt, .inl (k.1, 24, .inl (zF ts)))] s.heap := hP
  have hinX10 : ∀ w ∈ u_ws RX10 TX10 13, w ∈ wsX10_rule := by decide +kernel
  have fl7 := hts (.fieldLink RX10 7 "DotObjectsModel" "now" "[I") (by decide +kernel)
  have hl := lv_entry ([.ref q0, .int (zI x1)]) (n := 2) (Nat.le_of_ble_eq_true rfl)
  rw [lg_entry_eq]
  generalize (lg_sl ([.ref q0, .int (zI x1)]) ++ List.replicate (2 - (lg_sl ([.ref q0, .int (zI x1)])).length) Slot.unset).toArray = ls at hl ⊢
  have hl : lv_has ls 2 [(0, .ref q0), (1, .int (zI x1))] := hl
  refine lv_iload_n hx hb dX10_rule_0 rfl (lv_at hl 1 rfl) ?_
  refine z_iconst hx hb dX10_rule_1 ?_
  refine z_iconst hx hb dX10_rule_2 ?_
  refine roS (n := 3) (As := [.int (zI x1), .int (zI 0), .int (zI 3)]) (rest := []) hSf (m_in l D k x1 0 3 (by omega) (by omega) (by omega)) gX10_rule_X10_in rfl (by decide +kernel) ⟨Nat.le_of_ble_eq_true rfl, Nat.le_of_ble_eq_true rfl⟩ hK hP [] rfl rfl hl.1 rfl (Nat.le_of_ble_eq_true rfl) dX10_rule_3 ⟨Nat.zero_le _, Nat.zero_le _⟩ (fun r_3 h_3 => ?_)
  subst h_3
  refine z_if_neb (tgt := 12) hx hb dX10_rule_6 (by decide) (fun c_6 => ?_) (fun c_6 => ?_)
  · simp only [Bool.and_eq_true, decide_eq_true_eq] at c_6
    refine lv_aload_n hx hb dX10_rule_12 rfl (lv_at hl 0 rfl) ?_
    refine muV (n := 0) (As := []) (rest := []) hSf (m_notes l D k q0 qn qa qp qi qs qk qb qt qh qe de sv bn f pa hde) gX10_rule_X10_notes rfl (by decide +kernel) ⟨Nat.le_of_ble_eq_true rfl, Nat.le_of_ble_eq_true rfl⟩ hK hP hD hS [0, 1, 2] rfl rfl (by decide) (fun _ => rfl) (fun _ => rfl) 0 rfl rfl rfl hl.1 rfl (Nat.le_of_ble_eq_true rfl) dX10_rule_13 ⟨Nat.zero_le _, Nat.zero_le _⟩ (fun u_13 H locs h_13 hP hD hS => ?_)
    have hP : va_P D vwCl [(q0, .inr (10, [.ref qn, .ref qa, .ref qp, .int (zI ((ntD de + 1 : Nat) : Int)), .ref qi, .ref qs, .ref qk, .long (zL sv), .ref qb, .int (zI ((bn : Nat) : Int)), .ref qt, .ref qh, .ref qe])), (qn, .inl (k.1, 132, .inl (zF f))), (qp, .inl (k.1, 2640, .inl (zF (cpZ f (ntP pa de) 0 (132 * ntD de) 132)))), (qt, .inl (k.1, 24, .inl (zF ts)))] H := hP
    have hD : va_D A [(q0, .inr (10, [.ref qn, .ref qa, .ref qp, .int (zI ((ntD de + 1 : Nat) : Int)), .ref qi, .ref qs, .ref qk, .long (zL sv), .ref qb, .int (zI ((bn : Nat) : Int)), .ref qt, .ref qh, .ref qe])), (qn, .inl (k.1, 132, .inl (zF f))), (qp, .inl (k.1, 2640, .inl (zF (cpZ f (ntP pa de) 0 (132 * ntD de) 132)))), (qt, .inl (k.1, 24, .inl (zF ts)))] := hD
    refine lv_aload_n hx hb dX10_rule_16 rfl (lv_at hl 0 rfl) ?_
    refine va_get (D := D) (ci := 10) (v := .ref qn) (C := RX10) (T := TX10) (N := 13) hx hb hts hinX10 hown hK.1 hP 0 rfl rfl 0 (by decide) fl7 (fun _ h9 => h9) rfl dX10_rule_17 ?_
    refine z_iconst hx hb dX10_rule_20 ?_
    refine lv_iload_n hx hb dX10_rule_21 rfl (lv_at hl 1 rfl) ?_
    refine z_ast hx hb hK hP hD hS 1 rfl (2) (by omega) (by omega) (Nat.le_of_ble_eq_true rfl) dX10_rule_22 (fun H locs hP hD hS => ?_)
    have hP : va_P D vwCl [(q0, .inr (10, [.ref qn, .ref qa, .ref qp, .int (zI ((ntD de + 1 : Nat) : Int)), .ref qi, .ref qs, .ref qk, .long (zL sv), .ref qb, .int (zI ((bn : Nat) : Int)), .ref qt, .ref qh, .ref qe])), (qn, .inl (k.1, 132, .inl (zF (upZ f 2 x1)))), (qp, .inl (k.1, 2640, .inl (zF (cpZ f (ntP pa de) 0 (132 * ntD de) 132)))), (qt, .inl (k.1, 24, .inl (zF ts)))] H := hP
    have hD : va_D A [(q0, .inr (10, [.ref qn, .ref qa, .ref qp, .int (zI ((ntD de + 1 : Nat) : Int)), .ref qi, .ref qs, .ref qk, .long (zL sv), .ref qb, .int (zI ((bn : Nat) : Int)), .ref qt, .ref qh, .ref qe])), (qn, .inl (k.1, 132, .inl (zF (upZ f 2 x1)))), (qp, .inl (k.1, 2640, .inl (zF (cpZ f (ntP pa de) 0 (132 * ntD de) 132)))), (qt, .inl (k.1, 24, .inl (zF ts)))] := hD
    refine lv_aload_n hx hb dX10_rule_23 rfl (lv_at hl 0 rfl) ?_
    refine miV (n := 0) (As := []) (rest := []) hSf (m_missing l D k q0 qn qa qp qi qs qk qb qt qh qe (ntD de + 1) sv bn (upZ f 2 x1) B (Va_low hV (by decide) (by decide) (by omega) (by omega) (by decide) (by omega)) hB ts) gX10_rule_X10_missing rfl (by decide +kernel) ⟨Nat.le_of_ble_eq_true rfl, Nat.le_of_ble_eq_true rfl⟩ hK hP hD hS [0, 1, 3] rfl rfl (by decide) (fun _ => rfl) (fun _ => rfl) 0 rfl rfl rfl hl.1 rfl (Nat.le_of_ble_eq_true rfl) dX10_rule_24 ⟨Nat.zero_le _, Nat.zero_le _⟩ (fun r_24 u_24 H locs h_24 hP hD hS => ?_)
    have hP : va_P D vwCl [(q0, .inr (10, [.ref qn, .ref qa, .ref qp, .int (zI (((ntD de + 1) : Nat) : Int)), .ref qi, .ref qs, .ref qk, .long (zL sv), .ref qb, .int (zI ((bn : Nat) : Int)), .ref qt, .ref qh, .ref qe])), (qn, .inl (k.1, 132, .inl (zF (upZ f 2 x1)))), (qp, .inl (k.1, 2640, .inl (zF (cpZ f (ntP pa de) 0 (132 * ntD de) 132)))), (qt, .inl (k.1, 24, .inl (zF u_24)))] H := hP
    have hD : va_D A [(q0, .inr (10, [.ref qn, .ref qa, .ref qp, .int (zI (((ntD de + 1) : Nat) : Int)), .ref qi, .ref qs, .ref qk, .long (zL sv), .ref qb, .int (zI ((bn : Nat) : Int)), .ref qt, .ref qh, .ref qe])), (qn, .inl (k.1, 132, .inl (zF (upZ f 2 x1)))), (qp, .inl (k.1, 2640, .inl (zF (cpZ f (ntP pa de) 0 (132 * ntD de) 132)))), (qt, .inl (k.1, 24, .inl (zF u_24)))] := hD
    obtain ⟨he_24, h_24⟩ := h_24
    subst he_24
    exact W.iret hx hb hr (fun t ht hW => ⟨⟨_, (u_24, upZ f 2 x1, ntH f (de, pa)), rfl, ⟨zc (by rw [if_pos (by omega)]), by rw [if_pos (by omega)]⟩, by show va_P D vwCl _ _; rw [ht]; exact hP⟩, hS.F ht⟩) hS.2.2 dX10_rule_27
  · simp only [Bool.and_eq_false_iff, decide_eq_false_iff_not] at c_6
    refine lv_ldc hx hb hown (hts (.constant RX10 112 (-1000000002)) (by decide +kernel)) dX10_rule_9 ?_
    refine te (show (-1000000002 : Int32) = zI (-1000000002) from by decide +kernel) ?_
    exact W.iret hx hb hr (fun t ht hW => ⟨⟨_, (ts, f, de, pa), rfl, ⟨zc (by rw [if_neg (by omega)]), by rw [if_neg (by omega)]⟩, by show va_P D vwCl _ _; rw [ht]; exact hP⟩, hS.F ht⟩) hS.2.2 dX10_rule_11
set_option maxHeartbeats 4000000 in
set_option maxRecDepth 100000 in
theorem m_goes (l : Launch) (D : va_G) (k : Kt) (q0 : Nat) (qn : Nat) (qa : Nat) (qp : Nat) (qi : Nat) (qs : Nat) (qk : Nat) (qb : Nat) (qt : Nat) (qh : Nat) (qe : Nat) (de : Nat) (sv : Int) (bn : Nat) (f : St) (B : Int) (hV : Va B f) (hB : B < 1000000) : MU l D k yX10_goes wsX10_goes 0 0 [.ref q0] [(q0, .inr (10, [.ref qn, .ref qa, .ref qp, .int (zI ((de : Nat) : Int)), .ref qi, .ref qs, .ref qk, .long (zL sv), .ref qb, .int (zI ((bn : Nat) : Int)), .ref qt, .ref qh, .ref qe])), (qn, .inl (k.1, 132, .inl (zF f)))] (fun (u : Unit) => True) (fun u => [(q0, .inr (10, [.ref qn, .ref qa, .ref qp, .int (zI ((de : Nat) : Int)), .ref qi, .ref qs, .ref qk, .long (zL sv), .ref qb, .int (zI ((bn : Nat) : Int)), .ref qt, .ref qh, .ref qe])), (qn, .inl (k.1, 132, .inl (zF (nextZ f))))]) := by
  refine Met.ofW (cc := cX10_goes) (maxL := 3) (ret := none) (by decide) rfl ?_
  intro p e s m args below meth c s₁ Bd hml hv
  obtain ⟨rfl, hP, hK, hD0⟩ := hv
  have hx := Bd.exec
  have hb := Bd.bytes
  have hr := Bd.returns
  have hts := atoms_spec (ws := wsX10_goes) Bd.pre
  have hown : s.vm.findClass RX10 = some m.cls := findClass_of_methodNamed Bd.named
  have hlocks := Bd.notSynchronized
  have hSf : CallFix p m c cX10_goes 3 s ([.ref q0] : List Value).toArray wsX10_goes RX10 := ⟨hx, hb, hml, hown, hts⟩
  have hD := fA_D hD0
  have hS : va_S (fA [(q0, .inr (10, [.ref qn, .ref qa, .ref qp, .int (zI ((de : Nat) : Int)), .ref qi, .ref qs, .ref qk, .long (zL sv), .ref qb, .int (zI ((bn : Nat) : Int)), .ref qt, .ref qh, .ref qe])), (qn, .inl (k.1, 132, .inl (zF f)))]) s.heap s.heap [] := va_S.rf
  generalize hAe : fA [(q0, .inr (10, [.ref qn, .ref qa, .ref qp, .int (zI ((de : Nat) : Int)), .ref qi, .ref qs, .ref qk, .long (zL sv), .ref qb, .int (zI ((bn : Nat) : Int)), .ref qt, .ref qh, .ref qe])), (qn, .inl (k.1, 132, .inl (zF f)))] = A at hD hS ⊢
  have hP : va_P D vwCl [(q0, .inr (10, [.ref qn, .ref qa, .ref qp, .int (zI ((de : Nat) : Int)), .ref qi, .ref qs, .ref qk, .long (zL sv), .ref qb, .int (zI ((bn : Nat) : Int)), .ref qt, .ref qh, .ref qe])), (qn, .inl (k.1, 132, .inl (zF f)))] s.heap := hP
  have hinX10 : ∀ w ∈ u_ws RX10 TX10 13, w ∈ wsX10_goes := by decide +kernel
  have fl7 := hts (.fieldLink RX10 7 "DotObjectsModel" "now" "[I") (by decide +kernel)
  have hl := lv_entry ([.ref q0]) (n := 3) (Nat.le_of_ble_eq_true rfl)
  rw [lg_entry_eq]
  generalize (lg_sl ([.ref q0]) ++ List.replicate (3 - (lg_sl ([.ref q0])).length) Slot.unset).toArray = ls at hl ⊢
  have hl : lv_has ls 3 [(0, .ref q0)] := hl
  have hn := hV.n
  have hv0 := hV.1
  refine lv_aload_n hx hb dX10_goes_0 rfl (lv_at hl 0 rfl) ?_
  refine va_get (D := D) (ci := 10) (v := .ref qn) (C := RX10) (T := TX10) (N := 13) hx hb hts hinX10 hown hK.1 hP 0 rfl rfl 0 (by decide) fl7 (fun _ h9 => h9) rfl dX10_goes_1 ?_
  refine z_iconst hx hb dX10_goes_4 ?_
  refine lv_dup2_11 hx hb dX10_goes_5 rfl rfl ?_
  refine z_ald hx hb hK hP 1 rfl (3) (by omega) (by omega) (Nat.le_of_ble_eq_true rfl) dX10_goes_6 ?_
  refine z_iconst hx hb dX10_goes_7 ?_
  refine z_iadd hx hb dX10_goes_8 ?_
  refine z_ast hx hb hK hP hD hS 1 rfl (3) (by omega) (by omega) (Nat.le_of_ble_eq_true rfl) dX10_goes_9 (fun H locs hP hD hS => ?_)
  have hP : va_P D vwCl [(q0, .inr (10, [.ref qn, .ref qa, .ref qp, .int (zI ((de : Nat) : Int)), .ref qi, .ref qs, .ref qk, .long (zL sv), .ref qb, .int (zI ((bn : Nat) : Int)), .ref qt, .ref qh, .ref qe])), (qn, .inl (k.1, 132, .inl (zF (upZ f 3 ((f 3) + 1)))))] H := hP
  have hD : va_D A [(q0, .inr (10, [.ref qn, .ref qa, .ref qp, .int (zI ((de : Nat) : Int)), .ref qi, .ref qs, .ref qk, .long (zL sv), .ref qb, .int (zI ((bn : Nat) : Int)), .ref qt, .ref qh, .ref qe])), (qn, .inl (k.1, 132, .inl (zF (upZ f 3 ((f 3) + 1)))))] := hD
  rw [show upZ f 3 ((f 3) + 1) = nz f 0 from nz_0 f] at hP hD
  refine z_iconst hx hb dX10_goes_10 ?_
  refine lv_istore_n (lv' := [(1, .int (zI 0)), (0, .ref q0)]) hx hb dX10_goes_11 rfl hl (by decide) rfl (fun ls hl => ?_)
  have L12 : ∀ (NN12 : Nat), ∀ (jj : Nat), (jj ≤ nT f) → nT f - jj < NN12 → ∀ (H : Heap) (locs : List Loc), va_P D vwCl [(q0, .inr (10, [.ref qn, .ref qa, .ref qp, .int (zI ((de : Nat) : Int)), .ref qi, .ref qs, .ref qk, .long (zL sv), .ref qb, .int (zI ((bn : Nat) : Int)), .ref qt, .ref qh, .ref qe])), (qn, .inl (k.1, 132, .inl (zF (nz f jj))))] H → va_D A [(q0, .inr (10, [.ref qn, .ref qa, .ref qp, .int (zI ((de : Nat) : Int)), .ref qi, .ref qs, .ref qk, .long (zL sv), .ref qb, .int (zI ((bn : Nat) : Int)), .ref qt, .ref qh, .ref qe])), (qn, .inl (k.1, 132, .inl (zF (nz f jj))))] → va_S A s.heap H locs → ∀ (ls : Array Slot), lv_has ls 3 [(0, .ref q0), (1, .int (zI ((jj : Nat) : Int)))] → W p l e (headSpec wsX10_goes { frames := 0, cells := 0, slots := 0, locals := 0 }).room s m ([.ref q0] : List Value).toArray below meth c H locs 0 0 (MQ below (va_Qv (fun (u : Unit) => True) (fun (u : Unit) t => va_P D vwCl [(q0, .inr (10, [.ref qn, .ref qa, .ref qp, .int (zI ((de : Nat) : Int)), .ref qi, .ref qs, .ref qk, .long (zL sv), .ref qb, .int (zI ((bn : Nat) : Int)), .ref qt, .ref qh, .ref qe])), (qn, .inl (k.1, 132, .inl (zF (nextZ f))))] t.heap) A) ([.ref q0] : List Value).toArray s 0 0 A) (F0 m 12 ls []) := by
    intro NN12
    induction NN12 with
    | zero => intro jj _ hN; exact absurd hN (Nat.not_lt_zero _)
    | succ NN12 ih12 =>
      intro jj hjj hN H locs hP hD hS ls hl
      refine lv_iload_n hx hb dX10_goes_12 rfl (lv_at hl 1 rfl) ?_
      refine lv_aload_n hx hb dX10_goes_13 rfl (lv_at hl 0 rfl) ?_
      refine va_get (D := D) (ci := 10) (v := .ref qn) (C := RX10) (T := TX10) (N := 13) hx hb hts hinX10 hown hK.1 hP 0 rfl rfl 0 (by decide) fl7 (fun _ h9 => h9) rfl dX10_goes_14 ?_
      refine z_iconst hx hb dX10_goes_17 ?_
      refine z_ald hx hb hK hP 1 rfl (0) (by omega) (by omega) (Nat.le_of_ble_eq_true rfl) dX10_goes_18 ?_
      refine te (zc (show (nz f jj) 0 = f 0 from nz_c _ _ _ (by decide))) ?_
      refine z_icmp_ge (tgt := 106) hx hb dX10_goes_19 (by decide) (by omega) (by omega) (fun c_19 => ?_) (fun c_19 => ?_)
      · have hjn : jj = nT f := by omega
        rw [hjn] at hP
        exact W.vret hx hb hr (fun t ht hW => ⟨⟨(), rfl, trivial, by show va_P D vwCl _ _; rw [ht]; exact hP⟩, hS.F ht⟩) hS.2.2 dX10_goes_106
      · have hv := hV.t (t := jj) (by omega)
        refine z_bipush hx hb dX10_goes_22 (by decide +kernel) ?_
        refine z_bipush hx hb dX10_goes_24 (by decide +kernel) ?_
        refine lv_iload_n hx hb dX10_goes_26 rfl (lv_at hl 1 rfl) ?_
        refine z_imul hx hb dX10_goes_27 ?_
        refine z_iadd hx hb dX10_goes_28 ?_
        refine lv_istore_n (lv' := [(2, .int (zI (36 + (8 * ((jj : Nat) : Int))))), (0, .ref q0), (1, .int (zI ((jj : Nat) : Int)))]) hx hb dX10_goes_29 rfl hl (by decide) rfl (fun ls hl => ?_)
        refine lv_aload_n hx hb dX10_goes_30 rfl (lv_at hl 1 rfl) ?_
        refine va_get (D := D) (ci := 10) (v := .ref qn) (C := RX10) (T := TX10) (N := 13) hx hb hts hinX10 hown hK.1 hP 0 rfl rfl 0 (by decide) fl7 (fun _ h9 => h9) rfl dX10_goes_31 ?_
        refine lv_iload_n hx hb dX10_goes_34 rfl (lv_at hl 0 rfl) ?_
        refine z_iconst hx hb dX10_goes_35 ?_
        refine z_iadd hx hb dX10_goes_36 ?_
        refine lv_aload_n hx hb dX10_goes_37 rfl (lv_at hl 1 rfl) ?_
        refine va_get (D := D) (ci := 10) (v := .ref qn) (C := RX10) (T := TX10) (N := 13) hx hb hts hinX10 hown hK.1 hP 0 rfl rfl 0 (by decide) fl7 (fun _ h9 => h9) rfl dX10_goes_38 ?_
        refine lv_iload_n hx hb dX10_goes_41 rfl (lv_at hl 0 rfl) ?_
        refine z_iconst hx hb dX10_goes_42 ?_
        refine z_iadd hx hb dX10_goes_43 ?_
        refine z_ald hx hb hK hP 1 rfl (36 + 8 * jj + 0) (by omega) (by omega) (Nat.le_of_ble_eq_true rfl) dX10_goes_44 ?_
        refine te (zc (show (nz f jj) (36 + 8 * jj + 0) = th f jj 0 from nz_th (by decide) (Or.inl (Nat.le_refl _)))) ?_
        refine lv_aload_n hx hb dX10_goes_45 rfl (lv_at hl 1 rfl) ?_
        refine va_get (D := D) (ci := 10) (v := .ref qn) (C := RX10) (T := TX10) (N := 13) hx hb hts hinX10 hown hK.1 hP 0 rfl rfl 0 (by decide) fl7 (fun _ h9 => h9) rfl dX10_goes_46 ?_
        refine lv_iload_n hx hb dX10_goes_49 rfl (lv_at hl 0 rfl) ?_
        refine z_bipush hx hb dX10_goes_50 (by decide +kernel) ?_
        refine z_iadd hx hb dX10_goes_52 ?_
        refine z_ald hx hb hK hP 1 rfl (36 + 8 * jj + 6) (by omega) (by omega) (Nat.le_of_ble_eq_true rfl) dX10_goes_53 ?_
        refine te (zc (show (nz f jj) (36 + 8 * jj + 6) = th f jj 6 from nz_th (by decide) (Or.inl (Nat.le_refl _)))) ?_
        refine z_iadd hx hb dX10_goes_54 ?_
        refine z_bipush hx hb dX10_goes_55 (by decide +kernel) ?_
        refine z_iadd hx hb dX10_goes_57 ?_
        refine z_bipush hx hb dX10_goes_58 (by decide +kernel) ?_
        refine z_irem hx hb dX10_goes_60 (by omega) (by omega) ?_
        refine z_bipush hx hb dX10_goes_61 (by decide +kernel) ?_
        refine z_isub hx hb dX10_goes_63 ?_
        refine te (zc (show ((((th f jj 0) + (th f jj 6)) + 48) % 40) - 8 = gx f jj from by unfold gx; omega)) ?_
        refine z_ast hx hb hK hP hD hS 1 rfl (36 + 8 * jj + 0) (by omega) (by omega) (Nat.le_of_ble_eq_true rfl) dX10_goes_64 (fun H locs hP hD hS => ?_)
        have hP : va_P D vwCl [(q0, .inr (10, [.ref qn, .ref qa, .ref qp, .int (zI ((de : Nat) : Int)), .ref qi, .ref qs, .ref qk, .long (zL sv), .ref qb, .int (zI ((bn : Nat) : Int)), .ref qt, .ref qh, .ref qe])), (qn, .inl (k.1, 132, .inl (zF (upZ (nz f jj) (36 + 8 * jj + 0) (gx f jj)))))] H := hP
        have hD : va_D A [(q0, .inr (10, [.ref qn, .ref qa, .ref qp, .int (zI ((de : Nat) : Int)), .ref qi, .ref qs, .ref qk, .long (zL sv), .ref qb, .int (zI ((bn : Nat) : Int)), .ref qt, .ref qh, .ref qe])), (qn, .inl (k.1, 132, .inl (zF (upZ (nz f jj) (36 + 8 * jj + 0) (gx f jj)))))] := hD
        refine lv_aload_n hx hb dX10_goes_65 rfl (lv_at hl 1 rfl) ?_
        refine va_get (D := D) (ci := 10) (v := .ref qn) (C := RX10) (T := TX10) (N := 13) hx hb hts hinX10 hown hK.1 hP 0 rfl rfl 0 (by decide) fl7 (fun _ h9 => h9) rfl dX10_goes_66 ?_
        refine lv_iload_n hx hb dX10_goes_69 rfl (lv_at hl 0 rfl) ?_
        refine z_iconst hx hb dX10_goes_70 ?_
        refine z_iadd hx hb dX10_goes_71 ?_
        refine lv_aload_n hx hb dX10_goes_72 rfl (lv_at hl 1 rfl) ?_
        refine va_get (D := D) (ci := 10) (v := .ref qn) (C := RX10) (T := TX10) (N := 13) hx hb hts hinX10 hown hK.1 hP 0 rfl rfl 0 (by decide) fl7 (fun _ h9 => h9) rfl dX10_goes_73 ?_
        refine lv_iload_n hx hb dX10_goes_76 rfl (lv_at hl 0 rfl) ?_
        refine z_iconst hx hb dX10_goes_77 ?_
        refine z_iadd hx hb dX10_goes_78 ?_
        refine z_ald hx hb hK hP 1 rfl (36 + 8 * jj + 1) (by omega) (by omega) (Nat.le_of_ble_eq_true rfl) dX10_goes_79 ?_
        refine te (zc (show (upZ (nz f jj) (36 + 8 * jj + 0) (gx f jj)) (36 + 8 * jj + 1) = th f jj 1 from by rw [upZ_n (by omega)]; exact nz_th (by decide) (Or.inl (Nat.le_refl _)))) ?_
        refine lv_aload_n hx hb dX10_goes_80 rfl (lv_at hl 1 rfl) ?_
        refine va_get (D := D) (ci := 10) (v := .ref qn) (C := RX10) (T := TX10) (N := 13) hx hb hts hinX10 hown hK.1 hP 0 rfl rfl 0 (by decide) fl7 (fun _ h9 => h9) rfl dX10_goes_81 ?_
        refine lv_iload_n hx hb dX10_goes_84 rfl (lv_at hl 0 rfl) ?_
        refine z_bipush hx hb dX10_goes_85 (by decide +kernel) ?_
        refine z_iadd hx hb dX10_goes_87 ?_
        refine z_ald hx hb hK hP 1 rfl (36 + 8 * jj + 7) (by omega) (by omega) (Nat.le_of_ble_eq_true rfl) dX10_goes_88 ?_
        refine te (zc (show (upZ (nz f jj) (36 + 8 * jj + 0) (gx f jj)) (36 + 8 * jj + 7) = th f jj 7 from by rw [upZ_n (by omega)]; exact nz_th (by decide) (Or.inl (Nat.le_refl _)))) ?_
        refine z_iadd hx hb dX10_goes_89 ?_
        refine z_bipush hx hb dX10_goes_90 (by decide +kernel) ?_
        refine z_iadd hx hb dX10_goes_92 ?_
        refine z_bipush hx hb dX10_goes_93 (by decide +kernel) ?_
        refine z_irem hx hb dX10_goes_95 (by omega) (by omega) ?_
        refine z_bipush hx hb dX10_goes_96 (by decide +kernel) ?_
        refine z_isub hx hb dX10_goes_98 ?_
        refine te (zc (show ((((th f jj 1) + (th f jj 7)) + 40) % 32) - 8 = gy f jj from by unfold gy; omega)) ?_
        refine z_ast hx hb hK hP hD hS 1 rfl (36 + 8 * jj + 1) (by omega) (by omega) (Nat.le_of_ble_eq_true rfl) dX10_goes_99 (fun H locs hP hD hS => ?_)
        have hP : va_P D vwCl [(q0, .inr (10, [.ref qn, .ref qa, .ref qp, .int (zI ((de : Nat) : Int)), .ref qi, .ref qs, .ref qk, .long (zL sv), .ref qb, .int (zI ((bn : Nat) : Int)), .ref qt, .ref qh, .ref qe])), (qn, .inl (k.1, 132, .inl (zF (upZ (upZ (nz f jj) (36 + 8 * jj + 0) (gx f jj)) (36 + 8 * jj + 1) (gy f jj)))))] H := hP
        have hD : va_D A [(q0, .inr (10, [.ref qn, .ref qa, .ref qp, .int (zI ((de : Nat) : Int)), .ref qi, .ref qs, .ref qk, .long (zL sv), .ref qb, .int (zI ((bn : Nat) : Int)), .ref qt, .ref qh, .ref qe])), (qn, .inl (k.1, 132, .inl (zF (upZ (upZ (nz f jj) (36 + 8 * jj + 0) (gx f jj)) (36 + 8 * jj + 1) (gy f jj)))))] := hD
        rw [show upZ (upZ (nz f jj) (36 + 8 * jj + 0) (gx f jj)) (36 + 8 * jj + 1) (gy f jj) = nz f (jj + 1) from nz_s f jj] at hP hD
        refine lv_iinc (v := zI (((jj : Nat) : Int) + 1)) (lv' := [(1, .int (zI (((jj : Nat) : Int) + 1))), (2, .int (zI (36 + (8 * ((jj : Nat) : Int))))), (0, .ref q0)]) hx hb dX10_goes_100 hl (k := 2) rfl (zI_add _ _) (by decide) rfl (fun ls hl => ?_)
        refine lv_goto (tgt := 12) hx hb dX10_goes_103 (by decide) ?_
        have hl : lv_has ls 3 [(1, .int (zI (((jj + 1) : Nat) : Int))), (2, .int (zI (36 + (8 * ((jj : Nat) : Int))))), (0, .ref q0)] := lv_c (l1 := []) (l2 := [(2, .int (zI (36 + (8 * ((jj : Nat) : Int))))), (0, .ref q0)]) hl (show ((jj : Nat) : Int) + 1 = (((jj + 1) : Nat) : Int) from by omega)
        exact ih12 (jj + 1) (by omega) (by omega) _ _ hP hD hS ls (lv_sub hl [2, 0] rfl)
  have hl : lv_has ls 3 [(1, .int (zI ((0 : Nat) : Int))), (0, .ref q0)] := lv_c (l1 := []) (l2 := [(0, .ref q0)]) hl (show 0 = ((0 : Nat) : Int) from rfl)
  exact L12 _ 0 (Nat.zero_le _) (Nat.lt_succ_self _) _ _ hP hD hS ls (lv_sub hl [1, 0] rfl)
set_option maxHeartbeats 4000000 in
set_option maxRecDepth 100000 in
theorem m_frame (l : Launch) (D : va_G) (k : Kt) (q0 : Nat) (qn : Nat) (qa : Nat) (qp : Nat) (qi : Nat) (qs : Nat) (qk : Nat) (qb : Nat) (qt : Nat) (qh : Nat) (qe : Nat) (de : Nat) (sv : Int) (bn : Nat) (f : St) (B : Int) (hV : Va B f) (hB : B < 900000) (pa : Nat → Int) (hde : de ≤ 20) (x1 : Int) (hx1 : -2147483648 ≤ x1 ∧ x1 < 2147483648) : MI l D k yX10_frame wsX10_frame 1 22 [.ref q0, .int (zI x1)] [(q0, .inr (10, [.ref qn, .ref qa, .ref qp, .int (zI ((de : Nat) : Int)), .ref qi, .ref qs, .ref qk, .long (zL sv), .ref qb, .int (zI ((bn : Nat) : Int)), .ref qt, .ref qh, .ref qe])), (qn, .inl (k.1, 132, .inl (zF f))), (qp, .inl (k.1, 2640, .inl (zF pa)))] (fun (r : Int32) (u : St × HM) => r = zI (if 1 ≤ x1 ∧ x1 ≤ 40 then itZ f x1.toNat 3 else -1000000002) ∧ u = if 1 ≤ x1 ∧ x1 ≤ 40 then (itZ f x1.toNat, ntH f (de, pa)) else (f, de, pa)) (fun u => [(q0, .inr (10, [.ref qn, .ref qa, .ref qp, .int (zI ((u.2.1 : Nat) : Int)), .ref qi, .ref qs, .ref qk, .long (zL sv), .ref qb, .int (zI ((bn : Nat) : Int)), .ref qt, .ref qh, .ref qe])), (qn, .inl (k.1, 132, .inl (zF u.1))), (qp, .inl (k.1, 2640, .inl (zF u.2.2)))]) := by
  refine Met.ofW (cc := cX10_frame) (maxL := 3) (ret := (some .int)) (by decide) rfl ?_
  intro p e s m args below meth c s₁ Bd hml hv
  obtain ⟨rfl, hP, hK, hD0⟩ := hv
  have hx := Bd.exec
  have hb := Bd.bytes
  have hr := Bd.returns
  have hts := atoms_spec (ws := wsX10_frame) Bd.pre
  have hown : s.vm.findClass RX10 = some m.cls := findClass_of_methodNamed Bd.named
  have hlocks := Bd.notSynchronized
  have hSf : CallFix p m c cX10_frame 3 s ([.ref q0, .int (zI x1)] : List Value).toArray wsX10_frame RX10 := ⟨hx, hb, hml, hown, hts⟩
  have hD := fA_D hD0
  have hS : va_S (fA [(q0, .inr (10, [.ref qn, .ref qa, .ref qp, .int (zI ((de : Nat) : Int)), .ref qi, .ref qs, .ref qk, .long (zL sv), .ref qb, .int (zI ((bn : Nat) : Int)), .ref qt, .ref qh, .ref qe])), (qn, .inl (k.1, 132, .inl (zF f))), (qp, .inl (k.1, 2640, .inl (zF pa)))]) s.heap s.heap [] := va_S.rf
  generalize hAe : fA [(q0, .inr (10, [.ref qn, .ref qa, .ref qp, .int (zI ((de : Nat) : Int)), .ref qi, .ref qs, .ref qk, .long (zL sv), .ref qb, .int (zI ((bn : Nat) : Int)), .ref qt, .ref qh, .ref qe])), (qn, .inl (k.1, 132, .inl (zF f))), (qp, .inl (k.1, 2640, .inl (zF pa)))] = A at hD hS ⊢
  have hP : va_P D vwCl [(q0, .inr (10, [.ref qn, .ref qa, .ref qp, .int (zI ((de : Nat) : Int)), .ref qi, .ref qs, .ref qk, .long (zL sv), .ref qb, .int (zI ((bn : Nat) : Int)), .ref qt, .ref qh, .ref qe])), (qn, .inl (k.1, 132, .inl (zF f))), (qp, .inl (k.1, 2640, .inl (zF pa)))] s.heap := hP
  have hinX10 : ∀ w ∈ u_ws RX10 TX10 13, w ∈ wsX10_frame := by decide +kernel
  have fl7 := hts (.fieldLink RX10 7 "DotObjectsModel" "now" "[I") (by decide +kernel)
  have hl := lv_entry ([.ref q0, .int (zI x1)]) (n := 3) (Nat.le_of_ble_eq_true rfl)
  rw [lg_entry_eq]
  generalize (lg_sl ([.ref q0, .int (zI x1)]) ++ List.replicate (3 - (lg_sl ([.ref q0, .int (zI x1)])).length) Slot.unset).toArray = ls at hl ⊢
  have hl : lv_has ls 3 [(0, .ref q0), (1, .int (zI x1))] := hl
  refine lv_iload_n hx hb dX10_frame_0 rfl (lv_at hl 1 rfl) ?_
  refine z_iconst hx hb dX10_frame_1 ?_
  refine z_bipush hx hb dX10_frame_2 (by decide +kernel) ?_
  refine roS (n := 3) (As := [.int (zI x1), .int (zI 1), .int (zI 40)]) (rest := []) hSf (m_in l D k x1 1 40 (by omega) (by omega) (by omega)) gX10_frame_X10_in rfl (by decide +kernel) ⟨Nat.le_of_ble_eq_true rfl, Nat.le_of_ble_eq_true rfl⟩ hK hP [] rfl rfl hl.1 rfl (Nat.le_of_ble_eq_true rfl) dX10_frame_4 ⟨Nat.zero_le _, Nat.zero_le _⟩ (fun r_4 h_4 => ?_)
  subst h_4
  refine z_if_neb (tgt := 13) hx hb dX10_frame_7 (by decide) (fun c_7 => ?_) (fun c_7 => ?_)
  · simp only [Bool.and_eq_true, decide_eq_true_eq] at c_7
    refine lv_aload_n hx hb dX10_frame_13 rfl (lv_at hl 0 rfl) ?_
    refine muV (n := 0) (As := []) (rest := []) hSf (m_notes l D k q0 qn qa qp qi qs qk qb qt qh qe de sv bn f pa hde) gX10_frame_X10_notes rfl (by decide +kernel) ⟨Nat.le_of_ble_eq_true rfl, Nat.le_of_ble_eq_true rfl⟩ hK hP hD hS [0, 1, 2] rfl rfl (by decide) (fun _ => rfl) (fun _ => rfl) 0 rfl rfl rfl hl.1 rfl (Nat.le_of_ble_eq_true rfl) dX10_frame_14 ⟨Nat.zero_le _, Nat.zero_le _⟩ (fun u_14 H locs h_14 hP hD hS => ?_)
    have hP : va_P D vwCl [(q0, .inr (10, [.ref qn, .ref qa, .ref qp, .int (zI ((ntD de + 1 : Nat) : Int)), .ref qi, .ref qs, .ref qk, .long (zL sv), .ref qb, .int (zI ((bn : Nat) : Int)), .ref qt, .ref qh, .ref qe])), (qn, .inl (k.1, 132, .inl (zF f))), (qp, .inl (k.1, 2640, .inl (zF (cpZ f (ntP pa de) 0 (132 * ntD de) 132))))] H := hP
    have hD : va_D A [(q0, .inr (10, [.ref qn, .ref qa, .ref qp, .int (zI ((ntD de + 1 : Nat) : Int)), .ref qi, .ref qs, .ref qk, .long (zL sv), .ref qb, .int (zI ((bn : Nat) : Int)), .ref qt, .ref qh, .ref qe])), (qn, .inl (k.1, 132, .inl (zF f))), (qp, .inl (k.1, 2640, .inl (zF (cpZ f (ntP pa de) 0 (132 * ntD de) 132))))] := hD
    refine z_iconst hx hb dX10_frame_17 ?_
    refine lv_istore_n (lv' := [(2, .int (zI 0)), (0, .ref q0), (1, .int (zI x1))]) hx hb dX10_frame_18 rfl hl (by decide) rfl (fun ls hl => ?_)
    have L19 : ∀ (NN19 : Nat), ∀ (jj : Nat), ((jj : Int) ≤ x1) → x1.toNat - jj < NN19 → ∀ (H : Heap) (locs : List Loc), va_P D vwCl [(q0, .inr (10, [.ref qn, .ref qa, .ref qp, .int (zI ((ntD de + 1 : Nat) : Int)), .ref qi, .ref qs, .ref qk, .long (zL sv), .ref qb, .int (zI ((bn : Nat) : Int)), .ref qt, .ref qh, .ref qe])), (qn, .inl (k.1, 132, .inl (zF (itZ f jj)))), (qp, .inl (k.1, 2640, .inl (zF (cpZ f (ntP pa de) 0 (132 * ntD de) 132))))] H → va_D A [(q0, .inr (10, [.ref qn, .ref qa, .ref qp, .int (zI ((ntD de + 1 : Nat) : Int)), .ref qi, .ref qs, .ref qk, .long (zL sv), .ref qb, .int (zI ((bn : Nat) : Int)), .ref qt, .ref qh, .ref qe])), (qn, .inl (k.1, 132, .inl (zF (itZ f jj)))), (qp, .inl (k.1, 2640, .inl (zF (cpZ f (ntP pa de) 0 (132 * ntD de) 132))))] → va_S A s.heap H locs → ∀ (ls : Array Slot), lv_has ls 3 [(0, .ref q0), (1, .int (zI x1)), (2, .int (zI ((jj : Nat) : Int)))] → W p l e (headSpec wsX10_frame { frames := 1, cells := 0, slots := 0, locals := 22 }).room s m ([.ref q0, .int (zI x1)] : List Value).toArray below meth c H locs 0 0 (MQ below (va_Qi (fun (r : Int32) (u : St × HM) => r = zI (if 1 ≤ x1 ∧ x1 ≤ 40 then itZ f x1.toNat 3 else -1000000002) ∧ u = if 1 ≤ x1 ∧ x1 ≤ 40 then (itZ f x1.toNat, ntH f (de, pa)) else (f, de, pa)) (fun (u : St × HM) t => va_P D vwCl [(q0, .inr (10, [.ref qn, .ref qa, .ref qp, .int (zI ((u.2.1 : Nat) : Int)), .ref qi, .ref qs, .ref qk, .long (zL sv), .ref qb, .int (zI ((bn : Nat) : Int)), .ref qt, .ref qh, .ref qe])), (qn, .inl (k.1, 132, .inl (zF u.1))), (qp, .inl (k.1, 2640, .inl (zF u.2.2)))] t.heap) A) ([.ref q0, .int (zI x1)] : List Value).toArray s 0 0 A) (F0 m 19 ls []) := by
      intro NN19
      induction NN19 with
      | zero => intro jj _ hN; exact absurd hN (Nat.not_lt_zero _)
      | succ NN19 ih19 =>
        intro jj hjj hN H locs hP hD hS ls hl
        refine lv_iload_n hx hb dX10_frame_19 rfl (lv_at hl 2 rfl) ?_
        refine lv_iload_n hx hb dX10_frame_20 rfl (lv_at hl 1 rfl) ?_
        refine z_icmp_ge (tgt := 34) hx hb dX10_frame_21 (by decide) (by omega) (by omega) (fun c_21 => ?_) (fun c_21 => ?_)
        · have hjx : jj = x1.toNat := by omega
          refine lv_aload_n hx hb dX10_frame_34 rfl (lv_at hl 0 rfl) ?_
          refine va_get (D := D) (ci := 10) (v := .ref qn) (C := RX10) (T := TX10) (N := 13) hx hb hts hinX10 hown hK.1 hP 0 rfl rfl 0 (by decide) fl7 (fun _ h9 => h9) rfl dX10_frame_35 ?_
          refine z_iconst hx hb dX10_frame_38 ?_
          refine z_ald hx hb hK hP 1 rfl (3) (by omega) (by omega) (Nat.le_of_ble_eq_true rfl) dX10_frame_39 ?_
          rw [hjx] at hP
          exact W.iret hx hb hr (fun t ht hW => ⟨⟨_, (itZ f x1.toNat, ntH f (de, pa)), rfl, ⟨zc (by rw [if_pos (by omega), hjx]), by rw [if_pos (by omega)]⟩, by show va_P D vwCl _ _; rw [ht]; exact hP⟩, hS.F ht⟩) hS.2.2 dX10_frame_40
        · refine lv_aload_n hx hb dX10_frame_24 rfl (lv_at hl 0 rfl) ?_
          refine muV (n := 0) (As := []) (rest := []) hSf (m_goes l D k q0 qn qa qp qi qs qk qb qt qh qe (ntD de + 1) sv bn (itZ f jj) (B + ((jj : Nat) : Int)) (itZ_va hV jj) (by omega)) gX10_frame_X10_goes rfl (by decide +kernel) ⟨Nat.le_of_ble_eq_true rfl, Nat.le_of_ble_eq_true rfl⟩ hK hP hD hS [0, 1] rfl rfl (by decide) (fun _ => rfl) (fun _ => rfl) 0 rfl rfl rfl hl.1 rfl (Nat.le_of_ble_eq_true rfl) dX10_frame_25 ⟨Nat.zero_le _, Nat.zero_le _⟩ (fun u_25 H locs h_25 hP hD hS => ?_)
          have hP : va_P D vwCl [(q0, .inr (10, [.ref qn, .ref qa, .ref qp, .int (zI (((ntD de + 1) : Nat) : Int)), .ref qi, .ref qs, .ref qk, .long (zL sv), .ref qb, .int (zI ((bn : Nat) : Int)), .ref qt, .ref qh, .ref qe])), (qn, .inl (k.1, 132, .inl (zF (nextZ (itZ f jj))))), (qp, .inl (k.1, 2640, .inl (zF (cpZ f (ntP pa de) 0 (132 * ntD de) 132))))] H := hP
          have hD : va_D A [(q0, .inr (10, [.ref qn, .ref qa, .ref qp, .int (zI (((ntD de + 1) : Nat) : Int)), .ref qi, .ref qs, .ref qk, .long (zL sv), .ref qb, .int (zI ((bn : Nat) : Int)), .ref qt, .ref qh, .ref qe])), (qn, .inl (k.1, 132, .inl (zF (nextZ (itZ f jj))))), (qp, .inl (k.1, 2640, .inl (zF (cpZ f (ntP pa de) 0 (132 * ntD de) 132))))] := hD
          refine lv_iinc (v := zI (((jj : Nat) : Int) + 1)) (lv' := [(2, .int (zI (((jj : Nat) : Int) + 1))), (0, .ref q0), (1, .int (zI x1))]) hx hb dX10_frame_28 hl (k := 2) rfl (zI_add _ _) (by decide) rfl (fun ls hl => ?_)
          refine lv_goto (tgt := 19) hx hb dX10_frame_31 (by decide) ?_
          have hl : lv_has ls 3 [(2, .int (zI (((jj + 1) : Nat) : Int))), (0, .ref q0), (1, .int (zI x1))] := lv_c (l1 := []) (l2 := [(0, .ref q0), (1, .int (zI x1))]) hl (show ((jj : Nat) : Int) + 1 = (((jj + 1) : Nat) : Int) from by omega)
          exact ih19 (jj + 1) (by omega) (by omega) _ _ hP hD hS ls (lv_sub hl [1, 2, 0] rfl)
    have hl : lv_has ls 3 [(2, .int (zI ((0 : Nat) : Int))), (0, .ref q0), (1, .int (zI x1))] := lv_c (l1 := []) (l2 := [(0, .ref q0), (1, .int (zI x1))]) hl (show 0 = ((0 : Nat) : Int) from rfl)
    exact L19 _ 0 (by omega) (Nat.lt_succ_self _) _ _ hP hD hS ls (lv_sub hl [1, 2, 0] rfl)
  · simp only [Bool.and_eq_false_iff, decide_eq_false_iff_not] at c_7
    refine lv_ldc hx hb hown (hts (.constant RX10 112 (-1000000002)) (by decide +kernel)) dX10_frame_10 ?_
    refine te (show (-1000000002 : Int32) = zI (-1000000002) from by decide +kernel) ?_
    exact W.iret hx hb hr (fun t ht hW => ⟨⟨_, (f, de, pa), rfl, ⟨zc (by rw [if_neg (by omega)]), by rw [if_neg (by omega)]⟩, by show va_P D vwCl _ _; rw [ht]; exact hP⟩, hS.F ht⟩) hS.2.2 dX10_frame_12
set_option maxHeartbeats 4000000 in
set_option maxRecDepth 100000 in
theorem m_drawOf (l : Launch) (D : va_G) (k : Kt) (q0 : Nat) (qn : Nat) (qa : Nat) (qp : Nat) (qi : Nat) (qs : Nat) (qk : Nat) (qb : Nat) (qt : Nat) (qh : Nat) (qe : Nat) (de : Nat) (sv : Int) (bn : Nat) (hsv : 0 ≤ sv ∧ sv < 2147483648) (n1 : Int) (hn1 : 0 < n1 ∧ n1 < 1000) : MI l D k yX10_drawOf wsX10_drawOf 0 0 [.ref q0, .int (zI n1)] [(q0, .inr (10, [.ref qn, .ref qa, .ref qp, .int (zI ((de : Nat) : Int)), .ref qi, .ref qs, .ref qk, .long (zL sv), .ref qb, .int (zI ((bn : Nat) : Int)), .ref qt, .ref qh, .ref qe]))] (fun (r : Int32) (u : Unit) => r = zI (nxS sv / 65536 % n1) ∧ True) (fun u => [(q0, .inr (10, [.ref qn, .ref qa, .ref qp, .int (zI ((de : Nat) : Int)), .ref qi, .ref qs, .ref qk, .long (zL (nxS sv)), .ref qb, .int (zI ((bn : Nat) : Int)), .ref qt, .ref qh, .ref qe]))]) := by
  refine Met.ofW (cc := cX10_drawOf) (maxL := 2) (ret := (some .int)) (by decide) rfl ?_
  intro p e s m args below meth c s₁ Bd hml hv
  obtain ⟨rfl, hP, hK, hD0⟩ := hv
  have hx := Bd.exec
  have hb := Bd.bytes
  have hr := Bd.returns
  have hts := atoms_spec (ws := wsX10_drawOf) Bd.pre
  have hown : s.vm.findClass RX10 = some m.cls := findClass_of_methodNamed Bd.named
  have hlocks := Bd.notSynchronized
  have hSf : CallFix p m c cX10_drawOf 2 s ([.ref q0, .int (zI n1)] : List Value).toArray wsX10_drawOf RX10 := ⟨hx, hb, hml, hown, hts⟩
  have hD := fA_D hD0
  have hS : va_S (fA [(q0, .inr (10, [.ref qn, .ref qa, .ref qp, .int (zI ((de : Nat) : Int)), .ref qi, .ref qs, .ref qk, .long (zL sv), .ref qb, .int (zI ((bn : Nat) : Int)), .ref qt, .ref qh, .ref qe]))]) s.heap s.heap [] := va_S.rf
  generalize hAe : fA [(q0, .inr (10, [.ref qn, .ref qa, .ref qp, .int (zI ((de : Nat) : Int)), .ref qi, .ref qs, .ref qk, .long (zL sv), .ref qb, .int (zI ((bn : Nat) : Int)), .ref qt, .ref qh, .ref qe]))] = A at hD hS ⊢
  have hP : va_P D vwCl [(q0, .inr (10, [.ref qn, .ref qa, .ref qp, .int (zI ((de : Nat) : Int)), .ref qi, .ref qs, .ref qk, .long (zL sv), .ref qb, .int (zI ((bn : Nat) : Int)), .ref qt, .ref qh, .ref qe]))] s.heap := hP
  have hinX10 : ∀ w ∈ u_ws RX10 TX10 13, w ∈ wsX10_drawOf := by decide +kernel
  have fl146 := hts (.fieldLink RX10 146 "DotObjectsModel" "seed" "J") (by decide +kernel)
  have hl := lv_entry ([.ref q0, .int (zI n1)]) (n := 2) (Nat.le_of_ble_eq_true rfl)
  rw [lg_entry_eq]
  generalize (lg_sl ([.ref q0, .int (zI n1)]) ++ List.replicate (2 - (lg_sl ([.ref q0, .int (zI n1)])).length) Slot.unset).toArray = ls at hl ⊢
  have hl : lv_has ls 2 [(0, .ref q0), (1, .int (zI n1))] := hl
  have hs := nxS_rg sv
  refine lv_aload_n hx hb dX10_drawOf_0 rfl (lv_at hl 0 rfl) ?_
  refine lv_aload_n hx hb dX10_drawOf_1 rfl (lv_at hl 0 rfl) ?_
  refine va_get (D := D) (ci := 10) (v := .long (zL sv)) (C := RX10) (T := TX10) (N := 13) hx hb hts hinX10 hown hK.1 hP 0 rfl rfl 7 (by decide) fl146 (fun _ h9 => h9) rfl dX10_drawOf_2 ?_
  refine lv_ldc2 hx hb hown (hts (.constantLong RX10 150 (1103515245)) (by decide +kernel)) dX10_drawOf_5 ?_
  refine tel (show (1103515245 : Int64) = zL (1103515245) from by decide +kernel) ?_
  refine lv_lmul hx hb dX10_drawOf_8 (tel (zL_mul _ _) ?_)
  refine lv_ldc2 hx hb hown (hts (.constantLong RX10 152 (12345)) (by decide +kernel)) dX10_drawOf_9 ?_
  refine tel (show (12345 : Int64) = zL (12345) from by decide +kernel) ?_
  refine lv_ladd hx hb dX10_drawOf_12 (tel (zL_add _ _) ?_)
  refine lv_ldc2 hx hb hown (hts (.constantLong RX10 154 (2147483648)) (by decide +kernel)) dX10_drawOf_13 ?_
  refine tel (show (2147483648 : Int64) = zL (2147483648) from by decide +kernel) ?_
  refine lv_lrem hx hb dX10_drawOf_16 (zL_ne0 (by decide) (by decide)) (tel (zL_rem (by omega) (by omega) (by decide) (by decide)) ?_)
  refine tel (zcl (show ((sv * 1103515245) + 12345) % 2147483648 = nxS sv from rfl)) ?_
  refine va_put (D := D) (ci := 10) (v := .long (zL (nxS sv))) (ty := .long) (C := RX10) (T := TX10) (N := 13) hx hb hts hinX10 tyX10 tyX10_ok nmX10 hown hK.1 hP hD hS 0 rfl rfl 7 (by decide) fl146 (fun _ h9 => h9) rfl (by decide +kernel) rfl rfl (Nat.le_of_ble_eq_true rfl) dX10_drawOf_17 (fun H locs hP hD hS => ?_)
  have hP : va_P D vwCl [(q0, .inr (10, [.ref qn, .ref qa, .ref qp, .int (zI ((de : Nat) : Int)), .ref qi, .ref qs, .ref qk, .long (zL (nxS sv)), .ref qb, .int (zI ((bn : Nat) : Int)), .ref qt, .ref qh, .ref qe]))] H := hP
  have hD : va_D A [(q0, .inr (10, [.ref qn, .ref qa, .ref qp, .int (zI ((de : Nat) : Int)), .ref qi, .ref qs, .ref qk, .long (zL (nxS sv)), .ref qb, .int (zI ((bn : Nat) : Int)), .ref qt, .ref qh, .ref qe]))] := hD
  refine lv_aload_n hx hb dX10_drawOf_20 rfl (lv_at hl 0 rfl) ?_
  refine va_get (D := D) (ci := 10) (v := .long (zL (nxS sv))) (C := RX10) (T := TX10) (N := 13) hx hb hts hinX10 hown hK.1 hP 0 rfl rfl 7 (by decide) fl146 (fun _ h9 => h9) rfl dX10_drawOf_21 ?_
  refine lv_ldc2 hx hb hown (hts (.constantLong RX10 156 (65536)) (by decide +kernel)) dX10_drawOf_24 ?_
  refine tel (show (65536 : Int64) = zL (65536) from by decide +kernel) ?_
  refine lv_ldiv hx hb dX10_drawOf_27 (zL_ne0 (by omega) (by omega)) (tel (zL_div (by omega) (by omega) (by omega) (by omega)) ?_)
  refine lv_iload_n hx hb dX10_drawOf_28 rfl (lv_at hl 1 rfl) ?_
  refine lv_i2l (v := zL n1) hx hb dX10_drawOf_29 (zI_l (by omega)) ?_
  refine lv_lrem hx hb dX10_drawOf_30 (zL_ne0 (by omega) (by omega)) (tel (zL_rem (by omega) (by omega) (by omega) (by omega)) ?_)
  refine lv_l2i (v := zI (((nxS sv) / 65536) % n1)) hx hb dX10_drawOf_31 (zL_i _) ?_
  exact W.iret hx hb hr (fun t ht hW => ⟨⟨_, (), rfl, ⟨rfl, trivial⟩, by show va_P D vwCl _ _; rw [ht]; exact hP⟩, hS.F ht⟩) hS.2.2 dX10_drawOf_32
set_option maxHeartbeats 4000000 in
set_option maxRecDepth 100000 in
theorem m_drift (l : Launch) (D : va_G) (k : Kt) (q0 : Nat) (qn : Nat) (qa : Nat) (qp : Nat) (qi : Nat) (qs : Nat) (qk : Nat) (qb : Nat) (qt : Nat) (qh : Nat) (qe : Nat) (de : Nat) (sv : Int) (bn : Nat) (f : St) (B : Int) (hV : Va B f) (hB : B < 1000000) (pa : Nat → Int) (hde : de ≤ 20) (hsv : 0 ≤ sv ∧ sv < 2147483648) (x1 : Int) (hx1 : -2147483648 ≤ x1 ∧ x1 < 2147483648) : MI l D k yX10_drift wsX10_drift 1 27 [.ref q0, .int (zI x1)] [(q0, .inr (10, [.ref qn, .ref qa, .ref qp, .int (zI ((de : Nat) : Int)), .ref qi, .ref qs, .ref qk, .long (zL sv), .ref qb, .int (zI ((bn : Nat) : Int)), .ref qt, .ref qh, .ref qe])), (qn, .inl (k.1, 132, .inl (zF f))), (qp, .inl (k.1, 2640, .inl (zF pa)))] (fun (r : Int32) (u : Int × St × HM) => r = zI (if 1 ≤ x1 ∧ x1 ≤ 12 then (dri f sv x1.toNat).1 0 else -1000000002) ∧ u = if 1 ≤ x1 ∧ x1 ≤ 12 then ((dri f sv x1.toNat).2.1, (dri f sv x1.toNat).1, drM f sv (de, pa) x1.toNat) else (sv, f, de, pa)) (fun u => [(q0, .inr (10, [.ref qn, .ref qa, .ref qp, .int (zI ((u.2.2.1 : Nat) : Int)), .ref qi, .ref qs, .ref qk, .long (zL u.1), .ref qb, .int (zI ((bn : Nat) : Int)), .ref qt, .ref qh, .ref qe])), (qn, .inl (k.1, 132, .inl (zF u.2.1))), (qp, .inl (k.1, 2640, .inl (zF u.2.2.2)))]) := by
  refine Met.ofW (cc := cX10_drift) (maxL := 8) (ret := (some .int)) (by decide) rfl ?_
  intro p e s m args below meth c s₁ Bd hml hv
  obtain ⟨rfl, hP, hK, hD0⟩ := hv
  have hx := Bd.exec
  have hb := Bd.bytes
  have hr := Bd.returns
  have hts := atoms_spec (ws := wsX10_drift) Bd.pre
  have hown : s.vm.findClass RX10 = some m.cls := findClass_of_methodNamed Bd.named
  have hlocks := Bd.notSynchronized
  have hSf : CallFix p m c cX10_drift 8 s ([.ref q0, .int (zI x1)] : List Value).toArray wsX10_drift RX10 := ⟨hx, hb, hml, hown, hts⟩
  have hD := fA_D hD0
  have hS : va_S (fA [(q0, .inr (10, [.ref qn, .ref qa, .ref qp, .int (zI ((de : Nat) : Int)), .ref qi, .ref qs, .ref qk, .long (zL sv), .ref qb, .int (zI ((bn : Nat) : Int)), .ref qt, .ref qh, .ref qe])), (qn, .inl (k.1, 132, .inl (zF f))), (qp, .inl (k.1, 2640, .inl (zF pa)))]) s.heap s.heap [] := va_S.rf
  generalize hAe : fA [(q0, .inr (10, [.ref qn, .ref qa, .ref qp, .int (zI ((de : Nat) : Int)), .ref qi, .ref qs, .ref qk, .long (zL sv), .ref qb, .int (zI ((bn : Nat) : Int)), .ref qt, .ref qh, .ref qe])), (qn, .inl (k.1, 132, .inl (zF f))), (qp, .inl (k.1, 2640, .inl (zF pa)))] = A at hD hS ⊢
  have hP : va_P D vwCl [(q0, .inr (10, [.ref qn, .ref qa, .ref qp, .int (zI ((de : Nat) : Int)), .ref qi, .ref qs, .ref qk, .long (zL sv), .ref qb, .int (zI ((bn : Nat) : Int)), .ref qt, .ref qh, .ref qe])), (qn, .inl (k.1, 132, .inl (zF f))), (qp, .inl (k.1, 2640, .inl (zF pa)))] s.heap := hP
  have hinX10 : ∀ w ∈ u_ws RX10 TX10 13, w ∈ wsX10_drift := by decide +kernel
  have fl7 := hts (.fieldLink RX10 7 "DotObjectsModel" "now" "[I") (by decide +kernel)
  have hl := lv_entry ([.ref q0, .int (zI x1)]) (n := 8) (Nat.le_of_ble_eq_true rfl)
  rw [lg_entry_eq]
  generalize (lg_sl ([.ref q0, .int (zI x1)]) ++ List.replicate (8 - (lg_sl ([.ref q0, .int (zI x1)])).length) Slot.unset).toArray = ls at hl ⊢
  have hl : lv_has ls 8 [(0, .ref q0), (1, .int (zI x1))] := hl
  refine lv_iload_n hx hb dX10_drift_0 rfl (lv_at hl 1 rfl) ?_
  refine z_iconst hx hb dX10_drift_1 ?_
  refine z_bipush hx hb dX10_drift_2 (by decide +kernel) ?_
  refine roS (n := 3) (As := [.int (zI x1), .int (zI 1), .int (zI 12)]) (rest := []) hSf (m_in l D k x1 1 12 (by omega) (by omega) (by omega)) gX10_drift_X10_in rfl (by decide +kernel) ⟨Nat.le_of_ble_eq_true rfl, Nat.le_of_ble_eq_true rfl⟩ hK hP [] rfl rfl hl.1 rfl (Nat.le_of_ble_eq_true rfl) dX10_drift_4 ⟨Nat.zero_le _, Nat.zero_le _⟩ (fun r_4 h_4 => ?_)
  subst h_4
  refine z_if_neb (tgt := 13) hx hb dX10_drift_7 (by decide) (fun c_7 => ?_) (fun c_7 => ?_)
  · simp only [Bool.and_eq_true, decide_eq_true_eq] at c_7
    refine z_iconst hx hb dX10_drift_13 ?_
    refine lv_istore_n (lv' := [(2, .int (zI 0)), (0, .ref q0), (1, .int (zI x1))]) hx hb dX10_drift_14 rfl hl (by decide) rfl (fun ls hl => ?_)
    have L15 : ∀ (NN15 : Nat), ∀ (jj : Nat), ((jj : Int) ≤ x1) → x1.toNat - jj < NN15 → ∀ (H : Heap) (locs : List Loc), va_P D vwCl [(q0, .inr (10, [.ref qn, .ref qa, .ref qp, .int (zI (((drM f sv (de, pa) jj).1 : Nat) : Int)), .ref qi, .ref qs, .ref qk, .long (zL ((dri f sv jj).2.1)), .ref qb, .int (zI ((bn : Nat) : Int)), .ref qt, .ref qh, .ref qe])), (qn, .inl (k.1, 132, .inl (zF ((dri f sv jj).1)))), (qp, .inl (k.1, 2640, .inl (zF ((drM f sv (de, pa) jj).2))))] H → va_D A [(q0, .inr (10, [.ref qn, .ref qa, .ref qp, .int (zI (((drM f sv (de, pa) jj).1 : Nat) : Int)), .ref qi, .ref qs, .ref qk, .long (zL ((dri f sv jj).2.1)), .ref qb, .int (zI ((bn : Nat) : Int)), .ref qt, .ref qh, .ref qe])), (qn, .inl (k.1, 132, .inl (zF ((dri f sv jj).1)))), (qp, .inl (k.1, 2640, .inl (zF ((drM f sv (de, pa) jj).2))))] → va_S A s.heap H locs → ∀ (ls : Array Slot), lv_has ls 8 [(0, .ref q0), (1, .int (zI x1)), (2, .int (zI ((jj : Nat) : Int)))] → W p l e (headSpec wsX10_drift { frames := 1, cells := 0, slots := 0, locals := 27 }).room s m ([.ref q0, .int (zI x1)] : List Value).toArray below meth c H locs 0 0 (MQ below (va_Qi (fun (r : Int32) (u : Int × St × HM) => r = zI (if 1 ≤ x1 ∧ x1 ≤ 12 then (dri f sv x1.toNat).1 0 else -1000000002) ∧ u = if 1 ≤ x1 ∧ x1 ≤ 12 then ((dri f sv x1.toNat).2.1, (dri f sv x1.toNat).1, drM f sv (de, pa) x1.toNat) else (sv, f, de, pa)) (fun (u : Int × St × HM) t => va_P D vwCl [(q0, .inr (10, [.ref qn, .ref qa, .ref qp, .int (zI ((u.2.2.1 : Nat) : Int)), .ref qi, .ref qs, .ref qk, .long (zL u.1), .ref qb, .int (zI ((bn : Nat) : Int)), .ref qt, .ref qh, .ref qe])), (qn, .inl (k.1, 132, .inl (zF u.2.1))), (qp, .inl (k.1, 2640, .inl (zF u.2.2.2)))] t.heap) A) ([.ref q0, .int (zI x1)] : List Value).toArray s 0 0 A) (F0 m 15 ls []) := by
      intro NN15
      induction NN15 with
      | zero => intro jj _ hN; exact absurd hN (Nat.not_lt_zero _)
      | succ NN15 ih15 =>
        intro jj hjj hN H locs hP hD hS ls hl
        refine lv_iload_n hx hb dX10_drift_15 rfl (lv_at hl 2 rfl) ?_
        refine lv_iload_n hx hb dX10_drift_16 rfl (lv_at hl 1 rfl) ?_
        refine z_icmp_ge (tgt := 98) hx hb dX10_drift_17 (by decide) (by omega) (by omega) (fun c_17 => ?_) (fun c_17 => ?_)
        · have hjx : jj = x1.toNat := by omega
          refine lv_aload_n hx hb dX10_drift_98 rfl (lv_at hl 0 rfl) ?_
          refine va_get (D := D) (ci := 10) (v := .ref qn) (C := RX10) (T := TX10) (N := 13) hx hb hts hinX10 hown hK.1 hP 0 rfl rfl 0 (by decide) fl7 (fun _ h9 => h9) rfl dX10_drift_99 ?_
          refine z_iconst hx hb dX10_drift_102 ?_
          refine z_ald hx hb hK hP 1 rfl (0) (by omega) (by omega) (Nat.le_of_ble_eq_true rfl) dX10_drift_103 ?_
          rw [hjx] at hP
          exact W.iret hx hb hr (fun t ht hW => ⟨⟨_, ((dri f sv x1.toNat).2.1, (dri f sv x1.toNat).1, drM f sv (de, pa) x1.toNat), rfl, ⟨zc (by rw [if_pos (by omega), hjx]), by rw [if_pos (by omega)]⟩, by show va_P D vwCl _ _; rw [ht]; exact hP⟩, hS.F ht⟩) hS.2.2 dX10_drift_104
        · have hnd := (Va_dri hV hsv jj).1.n
          have hvd := (Va_dri hV hsv jj).1.1
          refine lv_aload_n hx hb dX10_drift_20 rfl (lv_at hl 0 rfl) ?_
          refine va_get (D := D) (ci := 10) (v := .ref qn) (C := RX10) (T := TX10) (N := 13) hx hb hts hinX10 hown hK.1 hP 0 rfl rfl 0 (by decide) fl7 (fun _ h9 => h9) rfl dX10_drift_21 ?_
          refine z_iconst hx hb dX10_drift_24 ?_
          refine z_ald hx hb hK hP 1 rfl (0) (by omega) (by omega) (Nat.le_of_ble_eq_true rfl) dX10_drift_25 ?_
          refine z_bipush hx hb dX10_drift_26 (by decide +kernel) ?_
          refine z_icmp_ge (tgt := 98) hx hb dX10_drift_28 (by decide) (by omega) (by omega) (fun c_28 => ?_) (fun c_28 => ?_)
          · have hf1 := (dri_full (h0 := (0, 0, fun _ => f)) (show ¬ nT (dri f sv jj).1 < 12 by omega) (x1.toNat - jj)).1
            have hf2 := drM_full (h0 := (de, pa)) (show ¬ nT (dri f sv jj).1 < 12 by omega) (x1.toNat - jj)
            rw [show jj + (x1.toNat - jj) = x1.toNat by omega] at hf1 hf2
            refine lv_aload_n hx hb dX10_drift_98 rfl (lv_at hl 0 rfl) ?_
            refine va_get (D := D) (ci := 10) (v := .ref qn) (C := RX10) (T := TX10) (N := 13) hx hb hts hinX10 hown hK.1 hP 0 rfl rfl 0 (by decide) fl7 (fun _ h9 => h9) rfl dX10_drift_99 ?_
            refine z_iconst hx hb dX10_drift_102 ?_
            refine z_ald hx hb hK hP 1 rfl (0) (by omega) (by omega) (Nat.le_of_ble_eq_true rfl) dX10_drift_103 ?_
            rw [← hf1, ← hf2] at hP
            exact W.iret hx hb hr (fun t ht hW => ⟨⟨_, ((dri f sv x1.toNat).2.1, (dri f sv x1.toNat).1, drM f sv (de, pa) x1.toNat), rfl, ⟨zc (by rw [if_pos (by omega), hf1]), by rw [if_pos (by omega)]⟩, by show va_P D vwCl _ _; rw [ht]; exact hP⟩, hS.F ht⟩) hS.2.2 dX10_drift_104
          · have hf12 : nT (dri f sv jj).1 < 12 := by omega
            refine lv_aload_n hx hb dX10_drift_31 rfl (lv_at hl 0 rfl) ?_
            refine muV (n := 0) (As := []) (rest := []) hSf (m_notes l D k q0 qn qa qp qi qs qk qb qt qh qe ((drM f sv (de, pa) jj).1) ((dri f sv jj).2.1) bn ((dri f sv jj).1) ((drM f sv (de, pa) jj).2) (drM_ok hde jj)) gX10_drift_X10_notes rfl (by decide +kernel) ⟨Nat.le_of_ble_eq_true rfl, Nat.le_of_ble_eq_true rfl⟩ hK hP hD hS [0, 1, 2] rfl rfl (by decide) (fun _ => rfl) (fun _ => rfl) 0 rfl rfl rfl hl.1 rfl (Nat.le_of_ble_eq_true rfl) dX10_drift_32 ⟨Nat.zero_le _, Nat.zero_le _⟩ (fun u_32 H locs h_32 hP hD hS => ?_)
            have hP : va_P D vwCl [(q0, .inr (10, [.ref qn, .ref qa, .ref qp, .int (zI ((ntD ((drM f sv (de, pa) jj).1) + 1 : Nat) : Int)), .ref qi, .ref qs, .ref qk, .long (zL ((dri f sv jj).2.1)), .ref qb, .int (zI ((bn : Nat) : Int)), .ref qt, .ref qh, .ref qe])), (qn, .inl (k.1, 132, .inl (zF ((dri f sv jj).1)))), (qp, .inl (k.1, 2640, .inl (zF (cpZ ((dri f sv jj).1) (ntP ((drM f sv (de, pa) jj).2) ((drM f sv (de, pa) jj).1)) 0 (132 * ntD ((drM f sv (de, pa) jj).1)) 132))))] H := hP
            have hD : va_D A [(q0, .inr (10, [.ref qn, .ref qa, .ref qp, .int (zI ((ntD ((drM f sv (de, pa) jj).1) + 1 : Nat) : Int)), .ref qi, .ref qs, .ref qk, .long (zL ((dri f sv jj).2.1)), .ref qb, .int (zI ((bn : Nat) : Int)), .ref qt, .ref qh, .ref qe])), (qn, .inl (k.1, 132, .inl (zF ((dri f sv jj).1)))), (qp, .inl (k.1, 2640, .inl (zF (cpZ ((dri f sv jj).1) (ntP ((drM f sv (de, pa) jj).2) ((drM f sv (de, pa) jj).1)) 0 (132 * ntD ((drM f sv (de, pa) jj).1)) 132))))] := hD
            refine lv_aload_n hx hb dX10_drift_35 rfl (lv_at hl 0 rfl) ?_
            refine z_bipush hx hb dX10_drift_36 (by decide +kernel) ?_
            refine miV (n := 1) (As := [.int (zI 32)]) (rest := []) hSf (m_drawOf l D k q0 qn qa qp qi qs qk qb qt qh qe (ntD ((drM f sv (de, pa) jj).1) + 1) ((dri f sv jj).2.1) bn (by first | exact (Va_dri hV hsv jj).2 | exact nxS_rg _) 32 (by omega)) gX10_drift_X10_drawOf rfl (by decide +kernel) ⟨Nat.le_of_ble_eq_true rfl, Nat.le_of_ble_eq_true rfl⟩ hK hP hD hS [0] rfl rfl (by decide) (fun _ => rfl) (fun _ => rfl) 0 rfl rfl rfl hl.1 rfl (Nat.le_of_ble_eq_true rfl) dX10_drift_38 ⟨Nat.zero_le _, Nat.zero_le _⟩ (fun r_38 u_38 H locs h_38 hP hD hS => ?_)
            have hP : va_P D vwCl [(q0, .inr (10, [.ref qn, .ref qa, .ref qp, .int (zI (((ntD ((drM f sv (de, pa) jj).1) + 1) : Nat) : Int)), .ref qi, .ref qs, .ref qk, .long (zL (nxS ((dri f sv jj).2.1))), .ref qb, .int (zI ((bn : Nat) : Int)), .ref qt, .ref qh, .ref qe])), (qn, .inl (k.1, 132, .inl (zF ((dri f sv jj).1)))), (qp, .inl (k.1, 2640, .inl (zF (cpZ ((dri f sv jj).1) (ntP ((drM f sv (de, pa) jj).2) ((drM f sv (de, pa) jj).1)) 0 (132 * ntD ((drM f sv (de, pa) jj).1)) 132))))] H := hP
            have hD : va_D A [(q0, .inr (10, [.ref qn, .ref qa, .ref qp, .int (zI (((ntD ((drM f sv (de, pa) jj).1) + 1) : Nat) : Int)), .ref qi, .ref qs, .ref qk, .long (zL (nxS ((dri f sv jj).2.1))), .ref qb, .int (zI ((bn : Nat) : Int)), .ref qt, .ref qh, .ref qe])), (qn, .inl (k.1, 132, .inl (zF ((dri f sv jj).1)))), (qp, .inl (k.1, 2640, .inl (zF (cpZ ((dri f sv jj).1) (ntP ((drM f sv (de, pa) jj).2) ((drM f sv (de, pa) jj).1)) 0 (132 * ntD ((drM f sv (de, pa) jj).1)) 132))))] := hD
            obtain ⟨he_38, h_38⟩ := h_38
            subst he_38
            refine lv_istore_n (lv' := [(3, .int (zI (nxS ((dri f sv jj).2.1) / 65536 % 32))), (0, .ref q0), (1, .int (zI x1)), (2, .int (zI ((jj : Nat) : Int)))]) hx hb dX10_drift_41 rfl hl (by decide) rfl (fun ls hl => ?_)
            refine lv_aload_n hx hb dX10_drift_42 rfl (lv_at hl 1 rfl) ?_
            refine z_bipush hx hb dX10_drift_43 (by decide +kernel) ?_
            refine miV (n := 1) (As := [.int (zI 24)]) (rest := []) hSf (m_drawOf l D k q0 qn qa qp qi qs qk qb qt qh qe (ntD ((drM f sv (de, pa) jj).1) + 1) (nxS ((dri f sv jj).2.1)) bn (by first | exact (Va_dri hV hsv jj).2 | exact nxS_rg _) 24 (by omega)) gX10_drift_X10_drawOf rfl (by decide +kernel) ⟨Nat.le_of_ble_eq_true rfl, Nat.le_of_ble_eq_true rfl⟩ hK hP hD hS [0] rfl rfl (by decide) (fun _ => rfl) (fun _ => rfl) 0 rfl rfl rfl hl.1 rfl (Nat.le_of_ble_eq_true rfl) dX10_drift_45 ⟨Nat.zero_le _, Nat.zero_le _⟩ (fun r_45 u_45 H locs h_45 hP hD hS => ?_)
            have hP : va_P D vwCl [(q0, .inr (10, [.ref qn, .ref qa, .ref qp, .int (zI (((ntD ((drM f sv (de, pa) jj).1) + 1) : Nat) : Int)), .ref qi, .ref qs, .ref qk, .long (zL (nxS (nxS ((dri f sv jj).2.1)))), .ref qb, .int (zI ((bn : Nat) : Int)), .ref qt, .ref qh, .ref qe])), (qn, .inl (k.1, 132, .inl (zF ((dri f sv jj).1)))), (qp, .inl (k.1, 2640, .inl (zF (cpZ ((dri f sv jj).1) (ntP ((drM f sv (de, pa) jj).2) ((drM f sv (de, pa) jj).1)) 0 (132 * ntD ((drM f sv (de, pa) jj).1)) 132))))] H := hP
            have hD : va_D A [(q0, .inr (10, [.ref qn, .ref qa, .ref qp, .int (zI (((ntD ((drM f sv (de, pa) jj).1) + 1) : Nat) : Int)), .ref qi, .ref qs, .ref qk, .long (zL (nxS (nxS ((dri f sv jj).2.1)))), .ref qb, .int (zI ((bn : Nat) : Int)), .ref qt, .ref qh, .ref qe])), (qn, .inl (k.1, 132, .inl (zF ((dri f sv jj).1)))), (qp, .inl (k.1, 2640, .inl (zF (cpZ ((dri f sv jj).1) (ntP ((drM f sv (de, pa) jj).2) ((drM f sv (de, pa) jj).1)) 0 (132 * ntD ((drM f sv (de, pa) jj).1)) 132))))] := hD
            obtain ⟨he_45, h_45⟩ := h_45
            subst he_45
            refine lv_istore (lv' := [(4, .int (zI (nxS (nxS ((dri f sv jj).2.1)) / 65536 % 24))), (3, .int (zI (nxS ((dri f sv jj).2.1) / 65536 % 32))), (0, .ref q0), (1, .int (zI x1)), (2, .int (zI ((jj : Nat) : Int)))]) hx hb dX10_drift_48 hl (by decide) rfl (fun ls hl => ?_)
            refine lv_aload_n hx hb dX10_drift_50 rfl (lv_at hl 2 rfl) ?_
            refine z_iconst hx hb dX10_drift_51 ?_
            refine miV (n := 1) (As := [.int (zI 4)]) (rest := []) hSf (m_drawOf l D k q0 qn qa qp qi qs qk qb qt qh qe (ntD ((drM f sv (de, pa) jj).1) + 1) (nxS (nxS ((dri f sv jj).2.1))) bn (by first | exact (Va_dri hV hsv jj).2 | exact nxS_rg _) 4 (by omega)) gX10_drift_X10_drawOf rfl (by decide +kernel) ⟨Nat.le_of_ble_eq_true rfl, Nat.le_of_ble_eq_true rfl⟩ hK hP hD hS [0] rfl rfl (by decide) (fun _ => rfl) (fun _ => rfl) 0 rfl rfl rfl hl.1 rfl (Nat.le_of_ble_eq_true rfl) dX10_drift_52 ⟨Nat.zero_le _, Nat.zero_le _⟩ (fun r_52 u_52 H locs h_52 hP hD hS => ?_)
            have hP : va_P D vwCl [(q0, .inr (10, [.ref qn, .ref qa, .ref qp, .int (zI (((ntD ((drM f sv (de, pa) jj).1) + 1) : Nat) : Int)), .ref qi, .ref qs, .ref qk, .long (zL (nxS (nxS (nxS ((dri f sv jj).2.1))))), .ref qb, .int (zI ((bn : Nat) : Int)), .ref qt, .ref qh, .ref qe])), (qn, .inl (k.1, 132, .inl (zF ((dri f sv jj).1)))), (qp, .inl (k.1, 2640, .inl (zF (cpZ ((dri f sv jj).1) (ntP ((drM f sv (de, pa) jj).2) ((drM f sv (de, pa) jj).1)) 0 (132 * ntD ((drM f sv (de, pa) jj).1)) 132))))] H := hP
            have hD : va_D A [(q0, .inr (10, [.ref qn, .ref qa, .ref qp, .int (zI (((ntD ((drM f sv (de, pa) jj).1) + 1) : Nat) : Int)), .ref qi, .ref qs, .ref qk, .long (zL (nxS (nxS (nxS ((dri f sv jj).2.1))))), .ref qb, .int (zI ((bn : Nat) : Int)), .ref qt, .ref qh, .ref qe])), (qn, .inl (k.1, 132, .inl (zF ((dri f sv jj).1)))), (qp, .inl (k.1, 2640, .inl (zF (cpZ ((dri f sv jj).1) (ntP ((drM f sv (de, pa) jj).2) ((drM f sv (de, pa) jj).1)) 0 (132 * ntD ((drM f sv (de, pa) jj).1)) 132))))] := hD
            obtain ⟨he_52, h_52⟩ := h_52
            subst he_52
            refine lv_istore (lv' := [(5, .int (zI (nxS (nxS (nxS ((dri f sv jj).2.1))) / 65536 % 4))), (4, .int (zI (nxS (nxS ((dri f sv jj).2.1)) / 65536 % 24))), (3, .int (zI (nxS ((dri f sv jj).2.1) / 65536 % 32))), (0, .ref q0), (1, .int (zI x1)), (2, .int (zI ((jj : Nat) : Int)))]) hx hb dX10_drift_55 hl (by decide) rfl (fun ls hl => ?_)
            refine lv_aload_n hx hb dX10_drift_57 rfl (lv_at hl 3 rfl) ?_
            refine z_iconst hx hb dX10_drift_58 ?_
            refine miV (n := 1) (As := [.int (zI 4)]) (rest := []) hSf (m_drawOf l D k q0 qn qa qp qi qs qk qb qt qh qe (ntD ((drM f sv (de, pa) jj).1) + 1) (nxS (nxS (nxS ((dri f sv jj).2.1)))) bn (by first | exact (Va_dri hV hsv jj).2 | exact nxS_rg _) 4 (by omega)) gX10_drift_X10_drawOf rfl (by decide +kernel) ⟨Nat.le_of_ble_eq_true rfl, Nat.le_of_ble_eq_true rfl⟩ hK hP hD hS [0] rfl rfl (by decide) (fun _ => rfl) (fun _ => rfl) 0 rfl rfl rfl hl.1 rfl (Nat.le_of_ble_eq_true rfl) dX10_drift_59 ⟨Nat.zero_le _, Nat.zero_le _⟩ (fun r_59 u_59 H locs h_59 hP hD hS => ?_)
            have hP : va_P D vwCl [(q0, .inr (10, [.ref qn, .ref qa, .ref qp, .int (zI (((ntD ((drM f sv (de, pa) jj).1) + 1) : Nat) : Int)), .ref qi, .ref qs, .ref qk, .long (zL (nxS (nxS (nxS (nxS ((dri f sv jj).2.1)))))), .ref qb, .int (zI ((bn : Nat) : Int)), .ref qt, .ref qh, .ref qe])), (qn, .inl (k.1, 132, .inl (zF ((dri f sv jj).1)))), (qp, .inl (k.1, 2640, .inl (zF (cpZ ((dri f sv jj).1) (ntP ((drM f sv (de, pa) jj).2) ((drM f sv (de, pa) jj).1)) 0 (132 * ntD ((drM f sv (de, pa) jj).1)) 132))))] H := hP
            have hD : va_D A [(q0, .inr (10, [.ref qn, .ref qa, .ref qp, .int (zI (((ntD ((drM f sv (de, pa) jj).1) + 1) : Nat) : Int)), .ref qi, .ref qs, .ref qk, .long (zL (nxS (nxS (nxS (nxS ((dri f sv jj).2.1)))))), .ref qb, .int (zI ((bn : Nat) : Int)), .ref qt, .ref qh, .ref qe])), (qn, .inl (k.1, 132, .inl (zF ((dri f sv jj).1)))), (qp, .inl (k.1, 2640, .inl (zF (cpZ ((dri f sv jj).1) (ntP ((drM f sv (de, pa) jj).2) ((drM f sv (de, pa) jj).1)) 0 (132 * ntD ((drM f sv (de, pa) jj).1)) 132))))] := hD
            obtain ⟨he_59, h_59⟩ := h_59
            subst he_59
            refine lv_istore (lv' := [(6, .int (zI (nxS (nxS (nxS (nxS ((dri f sv jj).2.1)))) / 65536 % 4))), (5, .int (zI (nxS (nxS (nxS ((dri f sv jj).2.1))) / 65536 % 4))), (4, .int (zI (nxS (nxS ((dri f sv jj).2.1)) / 65536 % 24))), (3, .int (zI (nxS ((dri f sv jj).2.1) / 65536 % 32))), (0, .ref q0), (1, .int (zI x1)), (2, .int (zI ((jj : Nat) : Int)))]) hx hb dX10_drift_62 hl (by decide) rfl (fun ls hl => ?_)
            refine lv_aload_n hx hb dX10_drift_64 rfl (lv_at hl 4 rfl) ?_
            refine z_iconst hx hb dX10_drift_65 ?_
            refine miV (n := 1) (As := [.int (zI 4)]) (rest := []) hSf (m_drawOf l D k q0 qn qa qp qi qs qk qb qt qh qe (ntD ((drM f sv (de, pa) jj).1) + 1) (nxS (nxS (nxS (nxS ((dri f sv jj).2.1))))) bn (by first | exact (Va_dri hV hsv jj).2 | exact nxS_rg _) 4 (by omega)) gX10_drift_X10_drawOf rfl (by decide +kernel) ⟨Nat.le_of_ble_eq_true rfl, Nat.le_of_ble_eq_true rfl⟩ hK hP hD hS [0] rfl rfl (by decide) (fun _ => rfl) (fun _ => rfl) 0 rfl rfl rfl hl.1 rfl (Nat.le_of_ble_eq_true rfl) dX10_drift_66 ⟨Nat.zero_le _, Nat.zero_le _⟩ (fun r_66 u_66 H locs h_66 hP hD hS => ?_)
            have hP : va_P D vwCl [(q0, .inr (10, [.ref qn, .ref qa, .ref qp, .int (zI (((ntD ((drM f sv (de, pa) jj).1) + 1) : Nat) : Int)), .ref qi, .ref qs, .ref qk, .long (zL (nxS (nxS (nxS (nxS (nxS ((dri f sv jj).2.1))))))), .ref qb, .int (zI ((bn : Nat) : Int)), .ref qt, .ref qh, .ref qe])), (qn, .inl (k.1, 132, .inl (zF ((dri f sv jj).1)))), (qp, .inl (k.1, 2640, .inl (zF (cpZ ((dri f sv jj).1) (ntP ((drM f sv (de, pa) jj).2) ((drM f sv (de, pa) jj).1)) 0 (132 * ntD ((drM f sv (de, pa) jj).1)) 132))))] H := hP
            have hD : va_D A [(q0, .inr (10, [.ref qn, .ref qa, .ref qp, .int (zI (((ntD ((drM f sv (de, pa) jj).1) + 1) : Nat) : Int)), .ref qi, .ref qs, .ref qk, .long (zL (nxS (nxS (nxS (nxS (nxS ((dri f sv jj).2.1))))))), .ref qb, .int (zI ((bn : Nat) : Int)), .ref qt, .ref qh, .ref qe])), (qn, .inl (k.1, 132, .inl (zF ((dri f sv jj).1)))), (qp, .inl (k.1, 2640, .inl (zF (cpZ ((dri f sv jj).1) (ntP ((drM f sv (de, pa) jj).2) ((drM f sv (de, pa) jj).1)) 0 (132 * ntD ((drM f sv (de, pa) jj).1)) 132))))] := hD
            obtain ⟨he_66, h_66⟩ := h_66
            subst he_66
            refine lv_istore (lv' := [(7, .int (zI (nxS (nxS (nxS (nxS (nxS ((dri f sv jj).2.1))))) / 65536 % 4))), (6, .int (zI (nxS (nxS (nxS (nxS ((dri f sv jj).2.1)))) / 65536 % 4))), (5, .int (zI (nxS (nxS (nxS ((dri f sv jj).2.1))) / 65536 % 4))), (4, .int (zI (nxS (nxS ((dri f sv jj).2.1)) / 65536 % 24))), (3, .int (zI (nxS ((dri f sv jj).2.1) / 65536 % 32))), (0, .ref q0), (1, .int (zI x1)), (2, .int (zI ((jj : Nat) : Int)))]) hx hb dX10_drift_69 hl (by decide) rfl (fun ls hl => ?_)
            refine lv_aload_n hx hb dX10_drift_71 rfl (lv_at hl 5 rfl) ?_
            refine lv_iload_n hx hb dX10_drift_72 rfl (lv_at hl 4 rfl) ?_
            refine lv_iload hx hb dX10_drift_73 (lv_at hl 3 rfl) ?_
            refine lv_iload hx hb dX10_drift_75 (lv_at hl 2 rfl) ?_
            refine lv_iload hx hb dX10_drift_77 (lv_at hl 1 rfl) ?_
            refine lv_iload hx hb dX10_drift_79 (lv_at hl 0 rfl) ?_
            refine z_iconst hx hb dX10_drift_81 ?_
            refine lv_aload_n hx hb dX10_drift_82 rfl (lv_at hl 5 rfl) ?_
            refine z_bipush hx hb dX10_drift_83 (by decide +kernel) ?_
            refine miV (n := 1) (As := [.int (zI 7)]) (rest := [.int (zI 1), .int (zI (nxS (nxS (nxS (nxS (nxS ((dri f sv jj).2.1))))) / 65536 % 4)), .int (zI (nxS (nxS (nxS (nxS ((dri f sv jj).2.1)))) / 65536 % 4)), .int (zI (nxS (nxS (nxS ((dri f sv jj).2.1))) / 65536 % 4)), .int (zI (nxS (nxS ((dri f sv jj).2.1)) / 65536 % 24)), .int (zI (nxS ((dri f sv jj).2.1) / 65536 % 32)), .ref q0]) hSf (m_drawOf l D k q0 qn qa qp qi qs qk qb qt qh qe (ntD ((drM f sv (de, pa) jj).1) + 1) (nxS (nxS (nxS (nxS (nxS ((dri f sv jj).2.1)))))) bn (by first | exact (Va_dri hV hsv jj).2 | exact nxS_rg _) 7 (by omega)) gX10_drift_X10_drawOf rfl (by decide +kernel) ⟨Nat.le_of_ble_eq_true rfl, Nat.le_of_ble_eq_true rfl⟩ hK hP hD hS [0] rfl rfl (by decide) (fun _ => rfl) (fun _ => rfl) 0 rfl rfl rfl hl.1 rfl (Nat.le_of_ble_eq_true rfl) dX10_drift_85 ⟨Nat.zero_le _, Nat.zero_le _⟩ (fun r_85 u_85 H locs h_85 hP hD hS => ?_)
            have hP : va_P D vwCl [(q0, .inr (10, [.ref qn, .ref qa, .ref qp, .int (zI (((ntD ((drM f sv (de, pa) jj).1) + 1) : Nat) : Int)), .ref qi, .ref qs, .ref qk, .long (zL (nxS (nxS (nxS (nxS (nxS (nxS ((dri f sv jj).2.1)))))))), .ref qb, .int (zI ((bn : Nat) : Int)), .ref qt, .ref qh, .ref qe])), (qn, .inl (k.1, 132, .inl (zF ((dri f sv jj).1)))), (qp, .inl (k.1, 2640, .inl (zF (cpZ ((dri f sv jj).1) (ntP ((drM f sv (de, pa) jj).2) ((drM f sv (de, pa) jj).1)) 0 (132 * ntD ((drM f sv (de, pa) jj).1)) 132))))] H := hP
            have hD : va_D A [(q0, .inr (10, [.ref qn, .ref qa, .ref qp, .int (zI (((ntD ((drM f sv (de, pa) jj).1) + 1) : Nat) : Int)), .ref qi, .ref qs, .ref qk, .long (zL (nxS (nxS (nxS (nxS (nxS (nxS ((dri f sv jj).2.1)))))))), .ref qb, .int (zI ((bn : Nat) : Int)), .ref qt, .ref qh, .ref qe])), (qn, .inl (k.1, 132, .inl (zF ((dri f sv jj).1)))), (qp, .inl (k.1, 2640, .inl (zF (cpZ ((dri f sv jj).1) (ntP ((drM f sv (de, pa) jj).2) ((drM f sv (de, pa) jj).1)) 0 (132 * ntD ((drM f sv (de, pa) jj).1)) 132))))] := hD
            obtain ⟨he_85, h_85⟩ := h_85
            subst he_85
            refine z_iadd hx hb dX10_drift_88 ?_
            refine te (zc (show 1 + (nxS (nxS (nxS (nxS (nxS (nxS ((dri f sv jj).2.1)))))) / 65536 % 7) = (nxS (nxS (nxS (nxS (nxS (nxS ((dri f sv jj).2.1)))))) / 65536 % 7) + 1 from Int.add_comm _ _)) ?_
            refine muV (n := 6) (As := [.int (zI (nxS ((dri f sv jj).2.1) / 65536 % 32)), .int (zI (nxS (nxS ((dri f sv jj).2.1)) / 65536 % 24)), .int (zI (nxS (nxS (nxS ((dri f sv jj).2.1))) / 65536 % 4)), .int (zI (nxS (nxS (nxS (nxS ((dri f sv jj).2.1)))) / 65536 % 4)), .int (zI (nxS (nxS (nxS (nxS (nxS ((dri f sv jj).2.1))))) / 65536 % 4)), .int (zI ((nxS (nxS (nxS (nxS (nxS (nxS ((dri f sv jj).2.1)))))) / 65536 % 7) + 1))]) (rest := []) hSf (m_puts l D k q0 qn qa qp qi qs qk qb qt qh qe (ntD ((drM f sv (de, pa) jj).1) + 1) (nxS (nxS (nxS (nxS (nxS (nxS ((dri f sv jj).2.1))))))) bn ((dri f sv jj).1) B ((Va_dri hV hsv jj).1) hB (nxS ((dri f sv jj).2.1) / 65536 % 32) (nxS (nxS ((dri f sv jj).2.1)) / 65536 % 24) (nxS (nxS (nxS ((dri f sv jj).2.1))) / 65536 % 4) (nxS (nxS (nxS (nxS ((dri f sv jj).2.1)))) / 65536 % 4) (nxS (nxS (nxS (nxS (nxS ((dri f sv jj).2.1))))) / 65536 % 4) ((nxS (nxS (nxS (nxS (nxS (nxS ((dri f sv jj).2.1)))))) / 65536 % 7) + 1) hf12) gX10_drift_X10_puts rfl (by decide +kernel) ⟨Nat.le_of_ble_eq_true rfl, Nat.le_of_ble_eq_true rfl⟩ hK hP hD hS [0, 1] rfl rfl (by decide) (fun _ => rfl) (fun _ => rfl) 0 rfl rfl rfl hl.1 rfl (Nat.le_of_ble_eq_true rfl) dX10_drift_89 ⟨Nat.zero_le _, Nat.zero_le _⟩ (fun u_89 H locs h_89 hP hD hS => ?_)
            have hP : va_P D vwCl [(q0, .inr (10, [.ref qn, .ref qa, .ref qp, .int (zI (((ntD ((drM f sv (de, pa) jj).1) + 1) : Nat) : Int)), .ref qi, .ref qs, .ref qk, .long (zL (nxS (nxS (nxS (nxS (nxS (nxS ((dri f sv jj).2.1)))))))), .ref qb, .int (zI ((bn : Nat) : Int)), .ref qt, .ref qh, .ref qe])), (qn, .inl (k.1, 132, .inl (zF (addZ ((dri f sv jj).1) (nxS ((dri f sv jj).2.1) / 65536 % 32) (nxS (nxS ((dri f sv jj).2.1)) / 65536 % 24) (nxS (nxS (nxS ((dri f sv jj).2.1))) / 65536 % 4) (nxS (nxS (nxS (nxS ((dri f sv jj).2.1)))) / 65536 % 4) (nxS (nxS (nxS (nxS (nxS ((dri f sv jj).2.1))))) / 65536 % 4) ((nxS (nxS (nxS (nxS (nxS (nxS ((dri f sv jj).2.1)))))) / 65536 % 7) + 1))))), (qp, .inl (k.1, 2640, .inl (zF (cpZ ((dri f sv jj).1) (ntP ((drM f sv (de, pa) jj).2) ((drM f sv (de, pa) jj).1)) 0 (132 * ntD ((drM f sv (de, pa) jj).1)) 132))))] H := hP
            have hD : va_D A [(q0, .inr (10, [.ref qn, .ref qa, .ref qp, .int (zI (((ntD ((drM f sv (de, pa) jj).1) + 1) : Nat) : Int)), .ref qi, .ref qs, .ref qk, .long (zL (nxS (nxS (nxS (nxS (nxS (nxS ((dri f sv jj).2.1)))))))), .ref qb, .int (zI ((bn : Nat) : Int)), .ref qt, .ref qh, .ref qe])), (qn, .inl (k.1, 132, .inl (zF (addZ ((dri f sv jj).1) (nxS ((dri f sv jj).2.1) / 65536 % 32) (nxS (nxS ((dri f sv jj).2.1)) / 65536 % 24) (nxS (nxS (nxS ((dri f sv jj).2.1))) / 65536 % 4) (nxS (nxS (nxS (nxS ((dri f sv jj).2.1)))) / 65536 % 4) (nxS (nxS (nxS (nxS (nxS ((dri f sv jj).2.1))))) / 65536 % 4) ((nxS (nxS (nxS (nxS (nxS (nxS ((dri f sv jj).2.1)))))) / 65536 % 7) + 1))))), (qp, .inl (k.1, 2640, .inl (zF (cpZ ((dri f sv jj).1) (ntP ((drM f sv (de, pa) jj).2) ((drM f sv (de, pa) jj).1)) 0 (132 * ntD ((drM f sv (de, pa) jj).1)) 132))))] := hD
            refine lv_iinc (v := zI (((jj : Nat) : Int) + 1)) (lv' := [(2, .int (zI (((jj : Nat) : Int) + 1))), (7, .int (zI (nxS (nxS (nxS (nxS (nxS ((dri f sv jj).2.1))))) / 65536 % 4))), (6, .int (zI (nxS (nxS (nxS (nxS ((dri f sv jj).2.1)))) / 65536 % 4))), (5, .int (zI (nxS (nxS (nxS ((dri f sv jj).2.1))) / 65536 % 4))), (4, .int (zI (nxS (nxS ((dri f sv jj).2.1)) / 65536 % 24))), (3, .int (zI (nxS ((dri f sv jj).2.1) / 65536 % 32))), (0, .ref q0), (1, .int (zI x1))]) hx hb dX10_drift_92 hl (k := 7) rfl (zI_add _ _) (by decide) rfl (fun ls hl => ?_)
            refine lv_goto (tgt := 15) hx hb dX10_drift_95 (by decide) ?_
            have hl : lv_has ls 8 [(2, .int (zI (((jj + 1) : Nat) : Int))), (7, .int (zI (nxS (nxS (nxS (nxS (nxS ((dri f sv jj).2.1))))) / 65536 % 4))), (6, .int (zI (nxS (nxS (nxS (nxS ((dri f sv jj).2.1)))) / 65536 % 4))), (5, .int (zI (nxS (nxS (nxS ((dri f sv jj).2.1))) / 65536 % 4))), (4, .int (zI (nxS (nxS ((dri f sv jj).2.1)) / 65536 % 24))), (3, .int (zI (nxS ((dri f sv jj).2.1) / 65536 % 32))), (0, .ref q0), (1, .int (zI x1))] := lv_c (l1 := []) (l2 := [(7, .int (zI (nxS (nxS (nxS (nxS (nxS ((dri f sv jj).2.1))))) / 65536 % 4))), (6, .int (zI (nxS (nxS (nxS (nxS ((dri f sv jj).2.1)))) / 65536 % 4))), (5, .int (zI (nxS (nxS (nxS ((dri f sv jj).2.1))) / 65536 % 4))), (4, .int (zI (nxS (nxS ((dri f sv jj).2.1)) / 65536 % 24))), (3, .int (zI (nxS ((dri f sv jj).2.1) / 65536 % 32))), (0, .ref q0), (1, .int (zI x1))]) hl (show ((jj : Nat) : Int) + 1 = (((jj + 1) : Nat) : Int) from by omega)
            exact ih15 (jj + 1) (by omega) (by omega) _ _ (by rw [dri_t hf12, drM_t hf12]; exact hP) (by rw [dri_t hf12, drM_t hf12]; exact hD) hS ls (lv_sub hl [6, 7, 0] rfl)
    have hl : lv_has ls 8 [(2, .int (zI ((0 : Nat) : Int))), (0, .ref q0), (1, .int (zI x1))] := lv_c (l1 := []) (l2 := [(0, .ref q0), (1, .int (zI x1))]) hl (show 0 = ((0 : Nat) : Int) from rfl)
    exact L15 _ 0 (by omega) (Nat.lt_succ_self _) _ _ hP hD hS ls (lv_sub hl [1, 2, 0] rfl)
  · simp only [Bool.and_eq_false_iff, decide_eq_false_iff_not] at c_7
    refine lv_ldc hx hb hown (hts (.constant RX10 112 (-1000000002)) (by decide +kernel)) dX10_drift_10 ?_
    refine te (show (-1000000002 : Int32) = zI (-1000000002) from by decide +kernel) ?_
    exact W.iret hx hb hr (fun t ht hW => ⟨⟨_, (sv, f, de, pa), rfl, ⟨zc (by rw [if_neg (by omega)]), by rw [if_neg (by omega)]⟩, by show va_P D vwCl _ _; rw [ht]; exact hP⟩, hS.F ht⟩) hS.2.2 dX10_drift_12
set_option maxHeartbeats 4000000 in
set_option maxRecDepth 100000 in
theorem m_undo (l : Launch) (D : va_G) (k : Kt) (q0 : Nat) (qn : Nat) (qa : Nat) (qp : Nat) (qi : Nat) (qs : Nat) (qk : Nat) (qb : Nat) (qt : Nat) (qh : Nat) (qe : Nat) (de : Nat) (sv : Int) (bn : Nat) (f : St) (pa : Nat → Int) (hde : de ≤ 20) (x1 : Int) (hx1 : -2147483648 ≤ x1 ∧ x1 < 2147483648) : MI l D k yX10_undo wsX10_undo 1 22 [.ref q0, .int (zI x1)] [(q0, .inr (10, [.ref qn, .ref qa, .ref qp, .int (zI ((de : Nat) : Int)), .ref qi, .ref qs, .ref qk, .long (zL sv), .ref qb, .int (zI ((bn : Nat) : Int)), .ref qt, .ref qh, .ref qe])), (qn, .inl (k.1, 132, .inl (zF f))), (qp, .inl (k.1, 2640, .inl (zF pa)))] (fun (r : Int32) (u : St × HM) => r = zI (if 1 ≤ x1 ∧ x1 ≤ 20 then (if x1 ≤ (de : Int) then pa (132 * (de - x1.toNat)) else -1000000003) else -1000000002) ∧ u = if (1 ≤ x1 ∧ x1 ≤ 20) ∧ x1 ≤ (de : Int) then (cpZ pa f (132 * (de - x1.toNat)) 0 132, (de - x1.toNat), pa) else (f, de, pa)) (fun u => [(q0, .inr (10, [.ref qn, .ref qa, .ref qp, .int (zI ((u.2.1 : Nat) : Int)), .ref qi, .ref qs, .ref qk, .long (zL sv), .ref qb, .int (zI ((bn : Nat) : Int)), .ref qt, .ref qh, .ref qe])), (qn, .inl (k.1, 132, .inl (zF u.1))), (qp, .inl (k.1, 2640, .inl (zF u.2.2)))]) := by
  refine Met.ofW (cc := cX10_undo) (maxL := 3) (ret := (some .int)) (by decide) rfl ?_
  intro p e s m args below meth c s₁ Bd hml hv
  obtain ⟨rfl, hP, hK, hD0⟩ := hv
  have hx := Bd.exec
  have hb := Bd.bytes
  have hr := Bd.returns
  have hts := atoms_spec (ws := wsX10_undo) Bd.pre
  have hown : s.vm.findClass RX10 = some m.cls := findClass_of_methodNamed Bd.named
  have hlocks := Bd.notSynchronized
  have hSf : CallFix p m c cX10_undo 3 s ([.ref q0, .int (zI x1)] : List Value).toArray wsX10_undo RX10 := ⟨hx, hb, hml, hown, hts⟩
  have hD := fA_D hD0
  have hS : va_S (fA [(q0, .inr (10, [.ref qn, .ref qa, .ref qp, .int (zI ((de : Nat) : Int)), .ref qi, .ref qs, .ref qk, .long (zL sv), .ref qb, .int (zI ((bn : Nat) : Int)), .ref qt, .ref qh, .ref qe])), (qn, .inl (k.1, 132, .inl (zF f))), (qp, .inl (k.1, 2640, .inl (zF pa)))]) s.heap s.heap [] := va_S.rf
  generalize hAe : fA [(q0, .inr (10, [.ref qn, .ref qa, .ref qp, .int (zI ((de : Nat) : Int)), .ref qi, .ref qs, .ref qk, .long (zL sv), .ref qb, .int (zI ((bn : Nat) : Int)), .ref qt, .ref qh, .ref qe])), (qn, .inl (k.1, 132, .inl (zF f))), (qp, .inl (k.1, 2640, .inl (zF pa)))] = A at hD hS ⊢
  have hP : va_P D vwCl [(q0, .inr (10, [.ref qn, .ref qa, .ref qp, .int (zI ((de : Nat) : Int)), .ref qi, .ref qs, .ref qk, .long (zL sv), .ref qb, .int (zI ((bn : Nat) : Int)), .ref qt, .ref qh, .ref qe])), (qn, .inl (k.1, 132, .inl (zF f))), (qp, .inl (k.1, 2640, .inl (zF pa)))] s.heap := hP
  have hinX10 : ∀ w ∈ u_ws RX10 TX10 13, w ∈ wsX10_undo := by decide +kernel
  have fl46 := hts (.fieldLink RX10 46 "DotObjectsModel" "deeds" "I") (by decide +kernel)
  have fl7 := hts (.fieldLink RX10 7 "DotObjectsModel" "now" "[I") (by decide +kernel)
  have fl16 := hts (.fieldLink RX10 16 "DotObjectsModel" "past" "[I") (by decide +kernel)
  have hl := lv_entry ([.ref q0, .int (zI x1)]) (n := 3) (Nat.le_of_ble_eq_true rfl)
  rw [lg_entry_eq]
  generalize (lg_sl ([.ref q0, .int (zI x1)]) ++ List.replicate (3 - (lg_sl ([.ref q0, .int (zI x1)])).length) Slot.unset).toArray = ls at hl ⊢
  have hl : lv_has ls 3 [(0, .ref q0), (1, .int (zI x1))] := hl
  refine lv_iload_n hx hb dX10_undo_0 rfl (lv_at hl 1 rfl) ?_
  refine z_iconst hx hb dX10_undo_1 ?_
  refine z_bipush hx hb dX10_undo_2 (by decide +kernel) ?_
  refine roS (n := 3) (As := [.int (zI x1), .int (zI 1), .int (zI 20)]) (rest := []) hSf (m_in l D k x1 1 20 (by omega) (by omega) (by omega)) gX10_undo_X10_in rfl (by decide +kernel) ⟨Nat.le_of_ble_eq_true rfl, Nat.le_of_ble_eq_true rfl⟩ hK hP [] rfl rfl hl.1 rfl (Nat.le_of_ble_eq_true rfl) dX10_undo_4 ⟨Nat.zero_le _, Nat.zero_le _⟩ (fun r_4 h_4 => ?_)
  subst h_4
  refine z_if_neb (tgt := 13) hx hb dX10_undo_7 (by decide) (fun c_7 => ?_) (fun c_7 => ?_)
  · simp only [Bool.and_eq_true, decide_eq_true_eq] at c_7
    refine lv_iload_n hx hb dX10_undo_13 rfl (lv_at hl 1 rfl) ?_
    refine lv_aload_n hx hb dX10_undo_14 rfl (lv_at hl 0 rfl) ?_
    refine va_get (D := D) (ci := 10) (v := .int (zI ((de : Nat) : Int))) (C := RX10) (T := TX10) (N := 13) hx hb hts hinX10 hown hK.1 hP 0 rfl rfl 3 (by decide) fl46 (fun _ h9 => h9) rfl dX10_undo_15 ?_
    refine z_icmp_le (tgt := 24) hx hb dX10_undo_18 (by decide) (by omega) (by omega) (fun c_18 => ?_) (fun c_18 => ?_)
    · refine lv_aload_n hx hb dX10_undo_24 rfl (lv_at hl 0 rfl) ?_
      refine lv_dup hx hb dX10_undo_25 rfl ?_
      refine va_get (D := D) (ci := 10) (v := .int (zI ((de : Nat) : Int))) (C := RX10) (T := TX10) (N := 13) hx hb hts hinX10 hown hK.1 hP 0 rfl rfl 3 (by decide) fl46 (fun _ h9 => h9) rfl dX10_undo_26 ?_
      refine lv_iload_n hx hb dX10_undo_29 rfl (lv_at hl 1 rfl) ?_
      refine z_isub hx hb dX10_undo_30 ?_
      refine te (zc (show ((de : Nat) : Int) - x1 = ((de - x1.toNat : Nat) : Int) from by omega)) ?_
      refine va_put (D := D) (ci := 10) (v := .int (zI ((de - x1.toNat : Nat) : Int))) (ty := .int) (C := RX10) (T := TX10) (N := 13) hx hb hts hinX10 tyX10 tyX10_ok nmX10 hown hK.1 hP hD hS 0 rfl rfl 3 (by decide) fl46 (fun _ h9 => h9) rfl (by decide +kernel) rfl rfl (Nat.le_of_ble_eq_true rfl) dX10_undo_31 (fun H locs hP hD hS => ?_)
      have hP : va_P D vwCl [(q0, .inr (10, [.ref qn, .ref qa, .ref qp, .int (zI ((de - x1.toNat : Nat) : Int)), .ref qi, .ref qs, .ref qk, .long (zL sv), .ref qb, .int (zI ((bn : Nat) : Int)), .ref qt, .ref qh, .ref qe])), (qn, .inl (k.1, 132, .inl (zF f))), (qp, .inl (k.1, 2640, .inl (zF pa)))] H := hP
      have hD : va_D A [(q0, .inr (10, [.ref qn, .ref qa, .ref qp, .int (zI ((de - x1.toNat : Nat) : Int)), .ref qi, .ref qs, .ref qk, .long (zL sv), .ref qb, .int (zI ((bn : Nat) : Int)), .ref qt, .ref qh, .ref qe])), (qn, .inl (k.1, 132, .inl (zF f))), (qp, .inl (k.1, 2640, .inl (zF pa)))] := hD
      refine z_iconst hx hb dX10_undo_34 ?_
      refine lv_istore_n (lv' := [(2, .int (zI 0)), (0, .ref q0), (1, .int (zI x1))]) hx hb dX10_undo_35 rfl hl (by decide) rfl (fun ls hl => ?_)
      have L36 : ∀ (NN36 : Nat), ∀ (jj : Nat), (jj ≤ 132) → 132 - jj < NN36 → ∀ (H : Heap) (locs : List Loc), va_P D vwCl [(q0, .inr (10, [.ref qn, .ref qa, .ref qp, .int (zI ((de - x1.toNat : Nat) : Int)), .ref qi, .ref qs, .ref qk, .long (zL sv), .ref qb, .int (zI ((bn : Nat) : Int)), .ref qt, .ref qh, .ref qe])), (qn, .inl (k.1, 132, .inl (zF (cpZ pa f (132 * (de - x1.toNat)) 0 jj)))), (qp, .inl (k.1, 2640, .inl (zF pa)))] H → va_D A [(q0, .inr (10, [.ref qn, .ref qa, .ref qp, .int (zI ((de - x1.toNat : Nat) : Int)), .ref qi, .ref qs, .ref qk, .long (zL sv), .ref qb, .int (zI ((bn : Nat) : Int)), .ref qt, .ref qh, .ref qe])), (qn, .inl (k.1, 132, .inl (zF (cpZ pa f (132 * (de - x1.toNat)) 0 jj)))), (qp, .inl (k.1, 2640, .inl (zF pa)))] → va_S A s.heap H locs → ∀ (ls : Array Slot), lv_has ls 3 [(0, .ref q0), (1, .int (zI x1)), (2, .int (zI ((jj : Nat) : Int)))] → W p l e (headSpec wsX10_undo { frames := 1, cells := 0, slots := 0, locals := 22 }).room s m ([.ref q0, .int (zI x1)] : List Value).toArray below meth c H locs 0 0 (MQ below (va_Qi (fun (r : Int32) (u : St × HM) => r = zI (if 1 ≤ x1 ∧ x1 ≤ 20 then (if x1 ≤ (de : Int) then pa (132 * (de - x1.toNat)) else -1000000003) else -1000000002) ∧ u = if (1 ≤ x1 ∧ x1 ≤ 20) ∧ x1 ≤ (de : Int) then (cpZ pa f (132 * (de - x1.toNat)) 0 132, (de - x1.toNat), pa) else (f, de, pa)) (fun (u : St × HM) t => va_P D vwCl [(q0, .inr (10, [.ref qn, .ref qa, .ref qp, .int (zI ((u.2.1 : Nat) : Int)), .ref qi, .ref qs, .ref qk, .long (zL sv), .ref qb, .int (zI ((bn : Nat) : Int)), .ref qt, .ref qh, .ref qe])), (qn, .inl (k.1, 132, .inl (zF u.1))), (qp, .inl (k.1, 2640, .inl (zF u.2.2)))] t.heap) A) ([.ref q0, .int (zI x1)] : List Value).toArray s 0 0 A) (F0 m 36 ls []) := by
        intro NN36
        induction NN36 with
        | zero => intro jj _ hN; exact absurd hN (Nat.not_lt_zero _)
        | succ NN36 ih36 =>
          intro jj hjj hN H locs hP hD hS ls hl
          refine lv_iload_n hx hb dX10_undo_36 rfl (lv_at hl 2 rfl) ?_
          refine z_sipush hx hb dX10_undo_37 (by decide +kernel) ?_
          refine z_icmp_ge (tgt := 70) hx hb dX10_undo_40 (by decide) (by omega) (by omega) (fun c_40 => ?_) (fun c_40 => ?_)
          · have hj : jj = 132 := by omega
            refine lv_aload_n hx hb dX10_undo_70 rfl (lv_at hl 0 rfl) ?_
            refine va_get (D := D) (ci := 10) (v := .ref qn) (C := RX10) (T := TX10) (N := 13) hx hb hts hinX10 hown hK.1 hP 0 rfl rfl 0 (by decide) fl7 (fun _ h9 => h9) rfl dX10_undo_71 ?_
            refine z_iconst hx hb dX10_undo_74 ?_
            refine z_ald hx hb hK hP 1 rfl (0) (by omega) (by omega) (Nat.le_of_ble_eq_true rfl) dX10_undo_75 ?_
            refine te (zc (show (cpZ pa f (132 * (de - x1.toNat)) 0 jj) 0 = pa (132 * (de - x1.toNat)) from by rw [hj, cpZ_in (by omega) (by omega)]; rfl)) ?_
            rw [hj] at hP
            exact W.iret hx hb hr (fun t ht hW => ⟨⟨_, (cpZ pa f (132 * (de - x1.toNat)) 0 132, (de - x1.toNat), pa), rfl, ⟨zc (by rw [if_pos (by omega), if_pos (by omega)]), by rw [if_pos (by omega)]⟩, by show va_P D vwCl _ _; rw [ht]; exact hP⟩, hS.F ht⟩) hS.2.2 dX10_undo_76
          · refine lv_aload_n hx hb dX10_undo_43 rfl (lv_at hl 0 rfl) ?_
            refine va_get (D := D) (ci := 10) (v := .ref qn) (C := RX10) (T := TX10) (N := 13) hx hb hts hinX10 hown hK.1 hP 0 rfl rfl 0 (by decide) fl7 (fun _ h9 => h9) rfl dX10_undo_44 ?_
            refine lv_iload_n hx hb dX10_undo_47 rfl (lv_at hl 2 rfl) ?_
            refine lv_aload_n hx hb dX10_undo_48 rfl (lv_at hl 0 rfl) ?_
            refine va_get (D := D) (ci := 10) (v := .ref qp) (C := RX10) (T := TX10) (N := 13) hx hb hts hinX10 hown hK.1 hP 0 rfl rfl 2 (by decide) fl16 (fun _ h9 => h9) rfl dX10_undo_49 ?_
            refine z_sipush hx hb dX10_undo_52 (by decide +kernel) ?_
            refine lv_aload_n hx hb dX10_undo_55 rfl (lv_at hl 0 rfl) ?_
            refine va_get (D := D) (ci := 10) (v := .int (zI ((de - x1.toNat : Nat) : Int))) (C := RX10) (T := TX10) (N := 13) hx hb hts hinX10 hown hK.1 hP 0 rfl rfl 3 (by decide) fl46 (fun _ h9 => h9) rfl dX10_undo_56 ?_
            refine z_imul hx hb dX10_undo_59 ?_
            refine lv_iload_n hx hb dX10_undo_60 rfl (lv_at hl 2 rfl) ?_
            refine z_iadd hx hb dX10_undo_61 ?_
            refine z_ald hx hb hK hP 2 rfl (132 * (de - x1.toNat) + jj) (by omega) (by omega) (Nat.le_of_ble_eq_true rfl) dX10_undo_62 ?_
            refine z_ast hx hb hK hP hD hS 1 rfl (jj) (by omega) (by omega) (Nat.le_of_ble_eq_true rfl) dX10_undo_63 (fun H locs hP hD hS => ?_)
            have hP : va_P D vwCl [(q0, .inr (10, [.ref qn, .ref qa, .ref qp, .int (zI ((de - x1.toNat : Nat) : Int)), .ref qi, .ref qs, .ref qk, .long (zL sv), .ref qb, .int (zI ((bn : Nat) : Int)), .ref qt, .ref qh, .ref qe])), (qn, .inl (k.1, 132, .inl (zF (upZ (cpZ pa f (132 * (de - x1.toNat)) 0 jj) jj (pa (132 * (de - x1.toNat) + jj)))))), (qp, .inl (k.1, 2640, .inl (zF pa)))] H := hP
            have hD : va_D A [(q0, .inr (10, [.ref qn, .ref qa, .ref qp, .int (zI ((de - x1.toNat : Nat) : Int)), .ref qi, .ref qs, .ref qk, .long (zL sv), .ref qb, .int (zI ((bn : Nat) : Int)), .ref qt, .ref qh, .ref qe])), (qn, .inl (k.1, 132, .inl (zF (upZ (cpZ pa f (132 * (de - x1.toNat)) 0 jj) jj (pa (132 * (de - x1.toNat) + jj)))))), (qp, .inl (k.1, 2640, .inl (zF pa)))] := hD
            rw [show upZ (cpZ pa f (132 * (de - x1.toNat)) 0 jj) jj (pa (132 * (de - x1.toNat) + jj)) = cpZ pa f (132 * (de - x1.toNat)) 0 (jj + 1) from cpZ_s (by omega) rfl] at hP hD
            refine lv_iinc (v := zI (((jj : Nat) : Int) + 1)) (lv' := [(2, .int (zI (((jj : Nat) : Int) + 1))), (0, .ref q0), (1, .int (zI x1))]) hx hb dX10_undo_64 hl (k := 2) rfl (zI_add _ _) (by decide) rfl (fun ls hl => ?_)
            refine lv_goto (tgt := 36) hx hb dX10_undo_67 (by decide) ?_
            have hl : lv_has ls 3 [(2, .int (zI (((jj + 1) : Nat) : Int))), (0, .ref q0), (1, .int (zI x1))] := lv_c (l1 := []) (l2 := [(0, .ref q0), (1, .int (zI x1))]) hl (show ((jj : Nat) : Int) + 1 = (((jj + 1) : Nat) : Int) from by omega)
            exact ih36 (jj + 1) (by omega) (by omega) _ _ hP hD hS ls (lv_sub hl [1, 2, 0] rfl)
      have hl : lv_has ls 3 [(2, .int (zI ((0 : Nat) : Int))), (0, .ref q0), (1, .int (zI x1))] := lv_c (l1 := []) (l2 := [(0, .ref q0), (1, .int (zI x1))]) hl (show 0 = ((0 : Nat) : Int) from rfl)
      exact L36 _ 0 (by decide) (Nat.lt_succ_self _) _ _ (by rw [cpZ_0]; exact hP) (by rw [cpZ_0]; exact hD) hS ls (lv_sub hl [1, 2, 0] rfl)
    · refine lv_ldc hx hb hown (hts (.constant RX10 161 (-1000000003)) (by decide +kernel)) dX10_undo_21 ?_
      refine te (show (-1000000003 : Int32) = zI (-1000000003) from by decide +kernel) ?_
      exact W.iret hx hb hr (fun t ht hW => ⟨⟨_, (f, de, pa), rfl, ⟨zc (by rw [if_pos (by omega), if_neg (by omega)]), by rw [if_neg (by omega)]⟩, by show va_P D vwCl _ _; rw [ht]; exact hP⟩, hS.F ht⟩) hS.2.2 dX10_undo_23
  · simp only [Bool.and_eq_false_iff, decide_eq_false_iff_not] at c_7
    refine lv_ldc hx hb hown (hts (.constant RX10 112 (-1000000002)) (by decide +kernel)) dX10_undo_10 ?_
    refine te (show (-1000000002 : Int32) = zI (-1000000002) from by decide +kernel) ?_
    exact W.iret hx hb hr (fun t ht hW => ⟨⟨_, (f, de, pa), rfl, ⟨zc (by rw [if_neg (by omega)]), by rw [if_neg (by omega)]⟩, by show va_P D vwCl _ _; rw [ht]; exact hP⟩, hS.F ht⟩) hS.2.2 dX10_undo_12
set_option maxHeartbeats 4000000 in
set_option maxRecDepth 100000 in
theorem m_leftOutOf (l : Launch) (D : va_G) (k : Kt) (q0 : Nat) (qn : Nat) (qa : Nat) (qp : Nat) (qi : Nat) (qs : Nat) (qk : Nat) (qb : Nat) (qt : Nat) (qh : Nat) (qe : Nat) (de : Nat) (sv : Int) (bn : Nat) (f : St) (B : Int) (hV : Va B f) (hB : B < 900000) (az : Nat → Int) (t1 : Nat) (ht1 : t1 < nT f) (n1 : Nat) (hn1 : n1 ≤ 40) : MI l D k yX10_leftOutOf wsX10_leftOutOf 6 138 [.ref q0, .int (zI ((t1 : Nat) : Int)), .int (zI ((n1 : Nat) : Int))] [(q0, .inr (10, [.ref qn, .ref qa, .ref qp, .int (zI ((de : Nat) : Int)), .ref qi, .ref qs, .ref qk, .long (zL sv), .ref qb, .int (zI ((bn : Nat) : Int)), .ref qt, .ref qh, .ref qe])), (qn, .inl (k.1, 132, .inl (zF f))), (qa, .inl (k.1, 132, .inl (zF az)))] (fun (r : Int32) (u : Nat → Int) => r = zI ((lefN f n1 t1 : Nat) : Int) ∧ True) (fun u => [(q0, .inr (10, [.ref qn, .ref qa, .ref qp, .int (zI ((de : Nat) : Int)), .ref qi, .ref qs, .ref qk, .long (zL sv), .ref qb, .int (zI ((bn : Nat) : Int)), .ref qt, .ref qh, .ref qe])), (qn, .inl (k.1, 132, .inl (zF f))), (qa, .inl (k.1, 132, .inl (zF u)))]) := by
  refine Met.ofW (cc := cX10_leftOutOf) (maxL := 5) (ret := (some .int)) (by decide) rfl ?_
  intro p e s m args below meth c s₁ Bd hml hv
  obtain ⟨rfl, hP, hK, hD0⟩ := hv
  have hx := Bd.exec
  have hb := Bd.bytes
  have hr := Bd.returns
  have hts := atoms_spec (ws := wsX10_leftOutOf) Bd.pre
  have hown : s.vm.findClass RX10 = some m.cls := findClass_of_methodNamed Bd.named
  have hlocks := Bd.notSynchronized
  have hSf : CallFix p m c cX10_leftOutOf 5 s ([.ref q0, .int (zI ((t1 : Nat) : Int)), .int (zI ((n1 : Nat) : Int))] : List Value).toArray wsX10_leftOutOf RX10 := ⟨hx, hb, hml, hown, hts⟩
  have hD := fA_D hD0
  have hS : va_S (fA [(q0, .inr (10, [.ref qn, .ref qa, .ref qp, .int (zI ((de : Nat) : Int)), .ref qi, .ref qs, .ref qk, .long (zL sv), .ref qb, .int (zI ((bn : Nat) : Int)), .ref qt, .ref qh, .ref qe])), (qn, .inl (k.1, 132, .inl (zF f))), (qa, .inl (k.1, 132, .inl (zF az)))]) s.heap s.heap [] := va_S.rf
  generalize hAe : fA [(q0, .inr (10, [.ref qn, .ref qa, .ref qp, .int (zI ((de : Nat) : Int)), .ref qi, .ref qs, .ref qk, .long (zL sv), .ref qb, .int (zI ((bn : Nat) : Int)), .ref qt, .ref qh, .ref qe])), (qn, .inl (k.1, 132, .inl (zF f))), (qa, .inl (k.1, 132, .inl (zF az)))] = A at hD hS ⊢
  have hP : va_P D vwCl [(q0, .inr (10, [.ref qn, .ref qa, .ref qp, .int (zI ((de : Nat) : Int)), .ref qi, .ref qs, .ref qk, .long (zL sv), .ref qb, .int (zI ((bn : Nat) : Int)), .ref qt, .ref qh, .ref qe])), (qn, .inl (k.1, 132, .inl (zF f))), (qa, .inl (k.1, 132, .inl (zF az)))] s.heap := hP
  have hinX10 : ∀ w ∈ u_ws RX10 TX10 13, w ∈ wsX10_leftOutOf := by decide +kernel
  have fl7 := hts (.fieldLink RX10 7 "DotObjectsModel" "now" "[I") (by decide +kernel)
  have fl13 := hts (.fieldLink RX10 13 "DotObjectsModel" "aside" "[I") (by decide +kernel)
  have hl := lv_entry ([.ref q0, .int (zI ((t1 : Nat) : Int)), .int (zI ((n1 : Nat) : Int))]) (n := 5) (Nat.le_of_ble_eq_true rfl)
  rw [lg_entry_eq]
  generalize (lg_sl ([.ref q0, .int (zI ((t1 : Nat) : Int)), .int (zI ((n1 : Nat) : Int))]) ++ List.replicate (5 - (lg_sl ([.ref q0, .int (zI ((t1 : Nat) : Int)), .int (zI ((n1 : Nat) : Int))])).length) Slot.unset).toArray = ls at hl ⊢
  have hl : lv_has ls 5 [(0, .ref q0), (1, .int (zI ((t1 : Nat) : Int))), (2, .int (zI ((n1 : Nat) : Int)))] := hl
  have hn := hV.n
  refine z_iconst hx hb dX10_leftOutOf_0 ?_
  refine lv_istore_n (lv' := [(3, .int (zI 0)), (0, .ref q0), (1, .int (zI ((t1 : Nat) : Int))), (2, .int (zI ((n1 : Nat) : Int)))]) hx hb dX10_leftOutOf_1 rfl hl (by decide) rfl (fun ls hl => ?_)
  have L2 : ∀ (NN2 : Nat), ∀ (jj : Nat), (jj ≤ 132) → 132 - jj < NN2 → ∀ (H : Heap) (locs : List Loc), va_P D vwCl [(q0, .inr (10, [.ref qn, .ref qa, .ref qp, .int (zI ((de : Nat) : Int)), .ref qi, .ref qs, .ref qk, .long (zL sv), .ref qb, .int (zI ((bn : Nat) : Int)), .ref qt, .ref qh, .ref qe])), (qn, .inl (k.1, 132, .inl (zF f))), (qa, .inl (k.1, 132, .inl (zF (cpZ f az 0 0 jj))))] H → va_D A [(q0, .inr (10, [.ref qn, .ref qa, .ref qp, .int (zI ((de : Nat) : Int)), .ref qi, .ref qs, .ref qk, .long (zL sv), .ref qb, .int (zI ((bn : Nat) : Int)), .ref qt, .ref qh, .ref qe])), (qn, .inl (k.1, 132, .inl (zF f))), (qa, .inl (k.1, 132, .inl (zF (cpZ f az 0 0 jj))))] → va_S A s.heap H locs → ∀ (ls : Array Slot), lv_has ls 5 [(0, .ref q0), (1, .int (zI ((t1 : Nat) : Int))), (2, .int (zI ((n1 : Nat) : Int))), (3, .int (zI ((jj : Nat) : Int)))] → W p l e (headSpec wsX10_leftOutOf { frames := 6, cells := 0, slots := 0, locals := 138 }).room s m ([.ref q0, .int (zI ((t1 : Nat) : Int)), .int (zI ((n1 : Nat) : Int))] : List Value).toArray below meth c H locs 0 0 (MQ below (va_Qi (fun (r : Int32) (u : Nat → Int) => r = zI ((lefN f n1 t1 : Nat) : Int) ∧ True) (fun (u : Nat → Int) t => va_P D vwCl [(q0, .inr (10, [.ref qn, .ref qa, .ref qp, .int (zI ((de : Nat) : Int)), .ref qi, .ref qs, .ref qk, .long (zL sv), .ref qb, .int (zI ((bn : Nat) : Int)), .ref qt, .ref qh, .ref qe])), (qn, .inl (k.1, 132, .inl (zF f))), (qa, .inl (k.1, 132, .inl (zF u)))] t.heap) A) ([.ref q0, .int (zI ((t1 : Nat) : Int)), .int (zI ((n1 : Nat) : Int))] : List Value).toArray s 0 0 A) (F0 m 2 ls []) := by
    intro NN2
    induction NN2 with
    | zero => intro jj _ hN; exact absurd hN (Nat.not_lt_zero _)
    | succ NN2 ih2 =>
      intro jj hjj hN H locs hP hD hS ls hl
      refine lv_iload_n hx hb dX10_leftOutOf_2 rfl (lv_at hl 3 rfl) ?_
      refine z_sipush hx hb dX10_leftOutOf_3 (by decide +kernel) ?_
      refine z_icmp_ge (tgt := 27) hx hb dX10_leftOutOf_6 (by decide) (by omega) (by omega) (fun c_6 => ?_) (fun c_6 => ?_)
      · have hj : jj = 132 := by omega
        rw [hj] at hP hD
        refine z_iconst hx hb dX10_leftOutOf_27 ?_
        refine lv_istore_n (lv' := [(3, .int (zI 0)), (0, .ref q0), (1, .int (zI ((t1 : Nat) : Int))), (2, .int (zI ((n1 : Nat) : Int)))]) hx hb dX10_leftOutOf_28 rfl hl (by decide) rfl (fun ls hl => ?_)
        refine z_iconst hx hb dX10_leftOutOf_29 ?_
        refine lv_istore (lv' := [(4, .int (zI 0)), (3, .int (zI 0)), (0, .ref q0), (1, .int (zI ((t1 : Nat) : Int))), (2, .int (zI ((n1 : Nat) : Int)))]) hx hb dX10_leftOutOf_30 hl (by decide) rfl (fun ls hl => ?_)
        have L32 : ∀ (NN32 : Nat), ∀ (ii : Nat), (ii ≤ n1) → n1 - ii < NN32 → ∀ (H : Heap) (locs : List Loc), va_P D vwCl [(q0, .inr (10, [.ref qn, .ref qa, .ref qp, .int (zI ((de : Nat) : Int)), .ref qi, .ref qs, .ref qk, .long (zL sv), .ref qb, .int (zI ((bn : Nat) : Int)), .ref qt, .ref qh, .ref qe])), (qn, .inl (k.1, 132, .inl (zF (itZ f ii)))), (qa, .inl (k.1, 132, .inl (zF (cpZ f az 0 0 132))))] H → va_D A [(q0, .inr (10, [.ref qn, .ref qa, .ref qp, .int (zI ((de : Nat) : Int)), .ref qi, .ref qs, .ref qk, .long (zL sv), .ref qb, .int (zI ((bn : Nat) : Int)), .ref qt, .ref qh, .ref qe])), (qn, .inl (k.1, 132, .inl (zF (itZ f ii)))), (qa, .inl (k.1, 132, .inl (zF (cpZ f az 0 0 132))))] → va_S A s.heap H locs → ∀ (ls : Array Slot), lv_has ls 5 [(0, .ref q0), (1, .int (zI ((t1 : Nat) : Int))), (2, .int (zI ((n1 : Nat) : Int))), (3, .int (zI ((lefN f ii t1 : Nat) : Int))), (4, .int (zI ((ii : Nat) : Int)))] → W p l e (headSpec wsX10_leftOutOf { frames := 6, cells := 0, slots := 0, locals := 138 }).room s m ([.ref q0, .int (zI ((t1 : Nat) : Int)), .int (zI ((n1 : Nat) : Int))] : List Value).toArray below meth c H locs 0 0 (MQ below (va_Qi (fun (r : Int32) (u : Nat → Int) => r = zI ((lefN f n1 t1 : Nat) : Int) ∧ True) (fun (u : Nat → Int) t => va_P D vwCl [(q0, .inr (10, [.ref qn, .ref qa, .ref qp, .int (zI ((de : Nat) : Int)), .ref qi, .ref qs, .ref qk, .long (zL sv), .ref qb, .int (zI ((bn : Nat) : Int)), .ref qt, .ref qh, .ref qe])), (qn, .inl (k.1, 132, .inl (zF f))), (qa, .inl (k.1, 132, .inl (zF u)))] t.heap) A) ([.ref q0, .int (zI ((t1 : Nat) : Int)), .int (zI ((n1 : Nat) : Int))] : List Value).toArray s 0 0 A) (F0 m 32 ls []) := by
          intro NN32
          induction NN32 with
          | zero => intro ii _ hN; exact absurd hN (Nat.not_lt_zero _)
          | succ NN32 ih32 =>
            intro ii hii hN H locs hP hD hS ls hl
            refine lv_iload hx hb dX10_leftOutOf_32 (lv_at hl 4 rfl) ?_
            refine lv_iload_n hx hb dX10_leftOutOf_34 rfl (lv_at hl 2 rfl) ?_
            refine z_icmp_ge (tgt := 59) hx hb dX10_leftOutOf_35 (by decide) (by omega) (by omega) (fun c_35 => ?_) (fun c_35 => ?_)
            · have hin : ii = n1 := by omega
              rw [hin] at hP hD
              refine z_iconst hx hb dX10_leftOutOf_59 ?_
              refine lv_istore (lv' := [(4, .int (zI 0)), (0, .ref q0), (1, .int (zI ((t1 : Nat) : Int))), (2, .int (zI ((n1 : Nat) : Int))), (3, .int (zI ((lefN f ii t1 : Nat) : Int)))]) hx hb dX10_leftOutOf_60 hl (by decide) rfl (fun ls hl => ?_)
              have L62 : ∀ (NN62 : Nat), ∀ (jq : Nat), (jq ≤ 132) → 132 - jq < NN62 → ∀ (H : Heap) (locs : List Loc), va_P D vwCl [(q0, .inr (10, [.ref qn, .ref qa, .ref qp, .int (zI ((de : Nat) : Int)), .ref qi, .ref qs, .ref qk, .long (zL sv), .ref qb, .int (zI ((bn : Nat) : Int)), .ref qt, .ref qh, .ref qe])), (qn, .inl (k.1, 132, .inl (zF (cpZ (cpZ f az 0 0 132) (itZ f n1) 0 0 jq)))), (qa, .inl (k.1, 132, .inl (zF (cpZ f az 0 0 132))))] H → va_D A [(q0, .inr (10, [.ref qn, .ref qa, .ref qp, .int (zI ((de : Nat) : Int)), .ref qi, .ref qs, .ref qk, .long (zL sv), .ref qb, .int (zI ((bn : Nat) : Int)), .ref qt, .ref qh, .ref qe])), (qn, .inl (k.1, 132, .inl (zF (cpZ (cpZ f az 0 0 132) (itZ f n1) 0 0 jq)))), (qa, .inl (k.1, 132, .inl (zF (cpZ f az 0 0 132))))] → va_S A s.heap H locs → ∀ (ls : Array Slot), lv_has ls 5 [(0, .ref q0), (3, .int (zI ((lefN f n1 t1 : Nat) : Int))), (4, .int (zI ((jq : Nat) : Int)))] → W p l e (headSpec wsX10_leftOutOf { frames := 6, cells := 0, slots := 0, locals := 138 }).room s m ([.ref q0, .int (zI ((t1 : Nat) : Int)), .int (zI ((n1 : Nat) : Int))] : List Value).toArray below meth c H locs 0 0 (MQ below (va_Qi (fun (r : Int32) (u : Nat → Int) => r = zI ((lefN f n1 t1 : Nat) : Int) ∧ True) (fun (u : Nat → Int) t => va_P D vwCl [(q0, .inr (10, [.ref qn, .ref qa, .ref qp, .int (zI ((de : Nat) : Int)), .ref qi, .ref qs, .ref qk, .long (zL sv), .ref qb, .int (zI ((bn : Nat) : Int)), .ref qt, .ref qh, .ref qe])), (qn, .inl (k.1, 132, .inl (zF f))), (qa, .inl (k.1, 132, .inl (zF u)))] t.heap) A) ([.ref q0, .int (zI ((t1 : Nat) : Int)), .int (zI ((n1 : Nat) : Int))] : List Value).toArray s 0 0 A) (F0 m 62 ls []) := by
                intro NN62
                induction NN62 with
                | zero => intro jq _ hN; exact absurd hN (Nat.not_lt_zero _)
                | succ NN62 ih62 =>
                  intro jq hjq hN H locs hP hD hS ls hl
                  refine lv_iload hx hb dX10_leftOutOf_62 (lv_at hl 2 rfl) ?_
                  refine z_sipush hx hb dX10_leftOutOf_64 (by decide +kernel) ?_
                  refine z_icmp_ge (tgt := 90) hx hb dX10_leftOutOf_67 (by decide) (by omega) (by omega) (fun c_67 => ?_) (fun c_67 => ?_)
                  · have hj2 : jq = 132 := by omega
                    rw [hj2, asid hV] at hP
                    refine lv_iload_n hx hb dX10_leftOutOf_90 rfl (lv_at hl 1 rfl) ?_
                    exact W.iret hx hb hr (fun t ht hW => ⟨⟨_, (cpZ f az 0 0 132), rfl, ⟨rfl, trivial⟩, by show va_P D vwCl _ _; rw [ht]; exact hP⟩, hS.F ht⟩) hS.2.2 dX10_leftOutOf_91
                  · refine lv_aload_n hx hb dX10_leftOutOf_70 rfl (lv_at hl 0 rfl) ?_
                    refine va_get (D := D) (ci := 10) (v := .ref qn) (C := RX10) (T := TX10) (N := 13) hx hb hts hinX10 hown hK.1 hP 0 rfl rfl 0 (by decide) fl7 (fun _ h9 => h9) rfl dX10_leftOutOf_71 ?_
                    refine lv_iload hx hb dX10_leftOutOf_74 (lv_at hl 2 rfl) ?_
                    refine lv_aload_n hx hb dX10_leftOutOf_76 rfl (lv_at hl 0 rfl) ?_
                    refine va_get (D := D) (ci := 10) (v := .ref qa) (C := RX10) (T := TX10) (N := 13) hx hb hts hinX10 hown hK.1 hP 0 rfl rfl 1 (by decide) fl13 (fun _ h9 => h9) rfl dX10_leftOutOf_77 ?_
                    refine lv_iload hx hb dX10_leftOutOf_80 (lv_at hl 2 rfl) ?_
                    refine z_ald hx hb hK hP 2 rfl (jq) (by omega) (by omega) (Nat.le_of_ble_eq_true rfl) dX10_leftOutOf_82 ?_
                    refine z_ast hx hb hK hP hD hS 1 rfl (jq) (by omega) (by omega) (Nat.le_of_ble_eq_true rfl) dX10_leftOutOf_83 (fun H locs hP hD hS => ?_)
                    have hP : va_P D vwCl [(q0, .inr (10, [.ref qn, .ref qa, .ref qp, .int (zI ((de : Nat) : Int)), .ref qi, .ref qs, .ref qk, .long (zL sv), .ref qb, .int (zI ((bn : Nat) : Int)), .ref qt, .ref qh, .ref qe])), (qn, .inl (k.1, 132, .inl (zF (upZ (cpZ (cpZ f az 0 0 132) (itZ f n1) 0 0 jq) jq ((cpZ f az 0 0 132) jq))))), (qa, .inl (k.1, 132, .inl (zF (cpZ f az 0 0 132))))] H := hP
                    have hD : va_D A [(q0, .inr (10, [.ref qn, .ref qa, .ref qp, .int (zI ((de : Nat) : Int)), .ref qi, .ref qs, .ref qk, .long (zL sv), .ref qb, .int (zI ((bn : Nat) : Int)), .ref qt, .ref qh, .ref qe])), (qn, .inl (k.1, 132, .inl (zF (upZ (cpZ (cpZ f az 0 0 132) (itZ f n1) 0 0 jq) jq ((cpZ f az 0 0 132) jq))))), (qa, .inl (k.1, 132, .inl (zF (cpZ f az 0 0 132))))] := hD
                    rw [show upZ (cpZ (cpZ f az 0 0 132) (itZ f n1) 0 0 jq) jq ((cpZ f az 0 0 132) jq) = cpZ (cpZ f az 0 0 132) (itZ f n1) 0 0 (jq + 1) from cpZ_s (by omega) (by rw [Nat.zero_add])] at hP hD
                    refine lv_iinc (v := zI (((jq : Nat) : Int) + 1)) (lv' := [(4, .int (zI (((jq : Nat) : Int) + 1))), (0, .ref q0), (3, .int (zI ((lefN f n1 t1 : Nat) : Int)))]) hx hb dX10_leftOutOf_84 hl (k := 2) rfl (zI_add _ _) (by decide) rfl (fun ls hl => ?_)
                    refine lv_goto (tgt := 62) hx hb dX10_leftOutOf_87 (by decide) ?_
                    have hl : lv_has ls 5 [(4, .int (zI (((jq + 1) : Nat) : Int))), (0, .ref q0), (3, .int (zI ((lefN f n1 t1 : Nat) : Int)))] := lv_c (l1 := []) (l2 := [(0, .ref q0), (3, .int (zI ((lefN f n1 t1 : Nat) : Int)))]) hl (show ((jq : Nat) : Int) + 1 = (((jq + 1) : Nat) : Int) from by omega)
                    exact ih62 (jq + 1) (by omega) (by omega) _ _ hP hD hS ls (lv_sub hl [1, 2, 0] rfl)
              have hl : lv_has ls 5 [(4, .int (zI 0)), (0, .ref q0), (1, .int (zI ((t1 : Nat) : Int))), (2, .int (zI ((n1 : Nat) : Int))), (3, .int (zI ((lefN f n1 t1 : Nat) : Int)))] := lv_c (l1 := [(4, .int (zI 0)), (0, .ref q0), (1, .int (zI ((t1 : Nat) : Int))), (2, .int (zI ((n1 : Nat) : Int)))]) (l2 := []) hl (show ((lefN f ii t1 : Nat) : Int) = ((lefN f n1 t1 : Nat) : Int) from by rw [hin])
              have hl : lv_has ls 5 [(4, .int (zI ((0 : Nat) : Int))), (0, .ref q0), (1, .int (zI ((t1 : Nat) : Int))), (2, .int (zI ((n1 : Nat) : Int))), (3, .int (zI ((lefN f n1 t1 : Nat) : Int)))] := lv_c (l1 := []) (l2 := [(0, .ref q0), (1, .int (zI ((t1 : Nat) : Int))), (2, .int (zI ((n1 : Nat) : Int))), (3, .int (zI ((lefN f n1 t1 : Nat) : Int)))]) hl (show 0 = ((0 : Nat) : Int) from rfl)
              exact L62 _ 0 (by decide) (Nat.lt_succ_self _) _ _ (by rw [cpZ_0]; exact hP) (by rw [cpZ_0]; exact hD) hS ls (lv_sub hl [1, 4, 0] rfl)
            · refine lv_iload_n hx hb dX10_leftOutOf_38 rfl (lv_at hl 3 rfl) ?_
              refine lv_aload_n hx hb dX10_leftOutOf_39 rfl (lv_at hl 0 rfl) ?_
              refine lv_iload_n hx hb dX10_leftOutOf_40 rfl (lv_at hl 1 rfl) ?_
              refine roV (n := 1) (As := [.int (zI ((t1 : Nat) : Int))]) (rest := [.int (zI ((lefN f ii t1 : Nat) : Int))]) hSf (m_droppedOf l D k q0 qn qa qp qi qs qk qb qt qh qe de sv bn (itZ f ii) (B + ((ii : Nat) : Int)) (itZ_va hV ii) (by omega) t1 (by rw [itZ_n]; exact ht1)) gX10_leftOutOf_X10_droppedOf rfl (by decide +kernel) ⟨Nat.le_of_ble_eq_true rfl, Nat.le_of_ble_eq_true rfl⟩ hK hP [0, 1] rfl 0 rfl rfl rfl hl.1 rfl (Nat.le_of_ble_eq_true rfl) dX10_leftOutOf_41 ⟨Nat.zero_le _, Nat.zero_le _⟩ (fun r_41 h_41 => ?_)
              subst h_41
              refine roS (n := 1) (As := [.int (zI (((drpS (itZ f ii) t1) : Nat) : Int))]) (rest := [.int (zI ((lefN f ii t1 : Nat) : Int))]) hSf (m_ones l D k (drpS (itZ f ii) t1) (Nat.lt_trans (setP_lt24 _ (Nat.le_refl _)) (by decide))) gX10_leftOutOf_X10_ones rfl (by decide +kernel) ⟨Nat.le_of_ble_eq_true rfl, Nat.le_of_ble_eq_true rfl⟩ hK hP [] rfl rfl hl.1 rfl (Nat.le_of_ble_eq_true rfl) dX10_leftOutOf_44 ⟨Nat.zero_le _, Nat.zero_le _⟩ (fun r_44 h_44 => ?_)
              subst h_44
              refine te (zc (show ((ct (fun i => (drpS (itZ f ii) t1).testBit i) 24 : Nat) : Int) = ((cdN (itZ f ii) t1 : Nat) : Int) from congrArg Nat.cast (drp_ones (by rw [itZ_n]; exact ht1)))) ?_
              refine z_iadd hx hb dX10_leftOutOf_47 ?_
              refine lv_istore_n (lv' := [(3, .int (zI (((lefN f ii t1 : Nat) : Int) + ((cdN (itZ f ii) t1 : Nat) : Int)))), (0, .ref q0), (1, .int (zI ((t1 : Nat) : Int))), (2, .int (zI ((n1 : Nat) : Int))), (4, .int (zI ((ii : Nat) : Int)))]) hx hb dX10_leftOutOf_48 rfl hl (by decide) rfl (fun ls hl => ?_)
              refine lv_aload_n hx hb dX10_leftOutOf_49 rfl (lv_at hl 1 rfl) ?_
              refine muV (n := 0) (As := []) (rest := []) hSf (m_goes l D k q0 qn qa qp qi qs qk qb qt qh qe de sv bn (itZ f ii) (B + ((ii : Nat) : Int)) (itZ_va hV ii) (by omega)) gX10_leftOutOf_X10_goes rfl (by decide +kernel) ⟨Nat.le_of_ble_eq_true rfl, Nat.le_of_ble_eq_true rfl⟩ hK hP hD hS [0, 1] rfl rfl (by decide) (fun _ => rfl) (fun _ => rfl) 0 rfl rfl rfl hl.1 rfl (Nat.le_of_ble_eq_true rfl) dX10_leftOutOf_50 ⟨Nat.zero_le _, Nat.zero_le _⟩ (fun u_50 H locs h_50 hP hD hS => ?_)
              have hP : va_P D vwCl [(q0, .inr (10, [.ref qn, .ref qa, .ref qp, .int (zI ((de : Nat) : Int)), .ref qi, .ref qs, .ref qk, .long (zL sv), .ref qb, .int (zI ((bn : Nat) : Int)), .ref qt, .ref qh, .ref qe])), (qn, .inl (k.1, 132, .inl (zF (nextZ (itZ f ii))))), (qa, .inl (k.1, 132, .inl (zF (cpZ f az 0 0 132))))] H := hP
              have hD : va_D A [(q0, .inr (10, [.ref qn, .ref qa, .ref qp, .int (zI ((de : Nat) : Int)), .ref qi, .ref qs, .ref qk, .long (zL sv), .ref qb, .int (zI ((bn : Nat) : Int)), .ref qt, .ref qh, .ref qe])), (qn, .inl (k.1, 132, .inl (zF (nextZ (itZ f ii))))), (qa, .inl (k.1, 132, .inl (zF (cpZ f az 0 0 132))))] := hD
              refine lv_iinc (v := zI (((ii : Nat) : Int) + 1)) (lv' := [(4, .int (zI (((ii : Nat) : Int) + 1))), (3, .int (zI (((lefN f ii t1 : Nat) : Int) + ((cdN (itZ f ii) t1 : Nat) : Int)))), (0, .ref q0), (1, .int (zI ((t1 : Nat) : Int))), (2, .int (zI ((n1 : Nat) : Int)))]) hx hb dX10_leftOutOf_53 hl (k := 4) rfl (zI_add _ _) (by decide) rfl (fun ls hl => ?_)
              refine lv_goto (tgt := 32) hx hb dX10_leftOutOf_56 (by decide) ?_
              have hl : lv_has ls 5 [(4, .int (zI (((ii : Nat) : Int) + 1))), (3, .int (zI ((lefN f (ii + 1) t1 : Nat) : Int))), (0, .ref q0), (1, .int (zI ((t1 : Nat) : Int))), (2, .int (zI ((n1 : Nat) : Int)))] := lv_c (l1 := [(4, .int (zI (((ii : Nat) : Int) + 1)))]) (l2 := [(0, .ref q0), (1, .int (zI ((t1 : Nat) : Int))), (2, .int (zI ((n1 : Nat) : Int)))]) hl (show ((lefN f ii t1 : Nat) : Int) + ((cdN (itZ f ii) t1 : Nat) : Int) = ((lefN f (ii + 1) t1 : Nat) : Int) from lef_s f ii t1)
              have hl : lv_has ls 5 [(4, .int (zI (((ii + 1) : Nat) : Int))), (3, .int (zI ((lefN f (ii + 1) t1 : Nat) : Int))), (0, .ref q0), (1, .int (zI ((t1 : Nat) : Int))), (2, .int (zI ((n1 : Nat) : Int)))] := lv_c (l1 := []) (l2 := [(3, .int (zI ((lefN f (ii + 1) t1 : Nat) : Int))), (0, .ref q0), (1, .int (zI ((t1 : Nat) : Int))), (2, .int (zI ((n1 : Nat) : Int)))]) hl (show ((ii : Nat) : Int) + 1 = (((ii + 1) : Nat) : Int) from by omega)
              exact ih32 (ii + 1) (by omega) (by omega) _ _ hP hD hS ls (lv_sub hl [2, 3, 4, 1, 0] rfl)
        have hl : lv_has ls 5 [(4, .int (zI 0)), (3, .int (zI ((lefN f 0 t1 : Nat) : Int))), (0, .ref q0), (1, .int (zI ((t1 : Nat) : Int))), (2, .int (zI ((n1 : Nat) : Int)))] := lv_c (l1 := [(4, .int (zI 0))]) (l2 := [(0, .ref q0), (1, .int (zI ((t1 : Nat) : Int))), (2, .int (zI ((n1 : Nat) : Int)))]) hl (show 0 = ((lefN f 0 t1 : Nat) : Int) from rfl)
        have hl : lv_has ls 5 [(4, .int (zI ((0 : Nat) : Int))), (3, .int (zI ((lefN f 0 t1 : Nat) : Int))), (0, .ref q0), (1, .int (zI ((t1 : Nat) : Int))), (2, .int (zI ((n1 : Nat) : Int)))] := lv_c (l1 := []) (l2 := [(3, .int (zI ((lefN f 0 t1 : Nat) : Int))), (0, .ref q0), (1, .int (zI ((t1 : Nat) : Int))), (2, .int (zI ((n1 : Nat) : Int)))]) hl (show 0 = ((0 : Nat) : Int) from rfl)
        exact L32 _ 0 (Nat.zero_le _) (Nat.lt_succ_self _) _ _ hP hD hS ls (lv_sub hl [2, 3, 4, 1, 0] rfl)
      · refine lv_aload_n hx hb dX10_leftOutOf_9 rfl (lv_at hl 0 rfl) ?_
        refine va_get (D := D) (ci := 10) (v := .ref qa) (C := RX10) (T := TX10) (N := 13) hx hb hts hinX10 hown hK.1 hP 0 rfl rfl 1 (by decide) fl13 (fun _ h9 => h9) rfl dX10_leftOutOf_10 ?_
        refine lv_iload_n hx hb dX10_leftOutOf_13 rfl (lv_at hl 3 rfl) ?_
        refine lv_aload_n hx hb dX10_leftOutOf_14 rfl (lv_at hl 0 rfl) ?_
        refine va_get (D := D) (ci := 10) (v := .ref qn) (C := RX10) (T := TX10) (N := 13) hx hb hts hinX10 hown hK.1 hP 0 rfl rfl 0 (by decide) fl7 (fun _ h9 => h9) rfl dX10_leftOutOf_15 ?_
        refine lv_iload_n hx hb dX10_leftOutOf_18 rfl (lv_at hl 3 rfl) ?_
        refine z_ald hx hb hK hP 1 rfl (jj) (by omega) (by omega) (Nat.le_of_ble_eq_true rfl) dX10_leftOutOf_19 ?_
        refine z_ast hx hb hK hP hD hS 2 rfl (jj) (by omega) (by omega) (Nat.le_of_ble_eq_true rfl) dX10_leftOutOf_20 (fun H locs hP hD hS => ?_)
        have hP : va_P D vwCl [(q0, .inr (10, [.ref qn, .ref qa, .ref qp, .int (zI ((de : Nat) : Int)), .ref qi, .ref qs, .ref qk, .long (zL sv), .ref qb, .int (zI ((bn : Nat) : Int)), .ref qt, .ref qh, .ref qe])), (qn, .inl (k.1, 132, .inl (zF f))), (qa, .inl (k.1, 132, .inl (zF (upZ (cpZ f az 0 0 jj) jj (f jj)))))] H := hP
        have hD : va_D A [(q0, .inr (10, [.ref qn, .ref qa, .ref qp, .int (zI ((de : Nat) : Int)), .ref qi, .ref qs, .ref qk, .long (zL sv), .ref qb, .int (zI ((bn : Nat) : Int)), .ref qt, .ref qh, .ref qe])), (qn, .inl (k.1, 132, .inl (zF f))), (qa, .inl (k.1, 132, .inl (zF (upZ (cpZ f az 0 0 jj) jj (f jj)))))] := hD
        rw [show upZ (cpZ f az 0 0 jj) jj (f jj) = cpZ f az 0 0 (jj + 1) from cpZ_s (by omega) (by rw [Nat.zero_add])] at hP hD
        refine lv_iinc (v := zI (((jj : Nat) : Int) + 1)) (lv' := [(3, .int (zI (((jj : Nat) : Int) + 1))), (0, .ref q0), (1, .int (zI ((t1 : Nat) : Int))), (2, .int (zI ((n1 : Nat) : Int)))]) hx hb dX10_leftOutOf_21 hl (k := 3) rfl (zI_add _ _) (by decide) rfl (fun ls hl => ?_)
        refine lv_goto (tgt := 2) hx hb dX10_leftOutOf_24 (by decide) ?_
        have hl : lv_has ls 5 [(3, .int (zI (((jj + 1) : Nat) : Int))), (0, .ref q0), (1, .int (zI ((t1 : Nat) : Int))), (2, .int (zI ((n1 : Nat) : Int)))] := lv_c (l1 := []) (l2 := [(0, .ref q0), (1, .int (zI ((t1 : Nat) : Int))), (2, .int (zI ((n1 : Nat) : Int)))]) hl (show ((jj : Nat) : Int) + 1 = (((jj + 1) : Nat) : Int) from by omega)
        exact ih2 (jj + 1) (by omega) (by omega) _ _ hP hD hS ls (lv_sub hl [1, 2, 3, 0] rfl)
  have hl : lv_has ls 5 [(3, .int (zI ((0 : Nat) : Int))), (0, .ref q0), (1, .int (zI ((t1 : Nat) : Int))), (2, .int (zI ((n1 : Nat) : Int)))] := lv_c (l1 := []) (l2 := [(0, .ref q0), (1, .int (zI ((t1 : Nat) : Int))), (2, .int (zI ((n1 : Nat) : Int)))]) hl (show 0 = ((0 : Nat) : Int) from rfl)
  exact L2 _ 0 (by decide) (Nat.lt_succ_self _) _ _ (by rw [cpZ_0]; exact hP) (by rw [cpZ_0]; exact hD) hS ls (lv_sub hl [1, 2, 3, 0] rfl)
set_option maxHeartbeats 4000000 in
set_option maxRecDepth 100000 in
theorem m_leftOut (l : Launch) (D : va_G) (k : Kt) (q0 : Nat) (qn : Nat) (qa : Nat) (qp : Nat) (qi : Nat) (qs : Nat) (qk : Nat) (qb : Nat) (qt : Nat) (qh : Nat) (qe : Nat) (de : Nat) (sv : Int) (bn : Nat) (f : St) (B : Int) (hV : Va B f) (hB : B < 900000) (az : Nat → Int) (x1 : Int) (x2 : Int) (hx1 : -2147483648 ≤ x1 ∧ x1 < 2147483648) (hx2 : -2147483648 ≤ x2 ∧ x2 < 2147483648) : MI l D k yX10_leftOut wsX10_leftOut 7 162 [.ref q0, .int (zI x1), .int (zI x2)] [(q0, .inr (10, [.ref qn, .ref qa, .ref qp, .int (zI ((de : Nat) : Int)), .ref qi, .ref qs, .ref qk, .long (zL sv), .ref qb, .int (zI ((bn : Nat) : Int)), .ref qt, .ref qh, .ref qe])), (qn, .inl (k.1, 132, .inl (zF f))), (qa, .inl (k.1, 132, .inl (zF az)))] (fun (r : Int32) (u : Nat → Int) => r = zI (if 0 ≤ x1 ∧ x1 ≤ f 0 - 1 then (if 1 ≤ x2 ∧ x2 ≤ 40 then ((lefN f x2.toNat x1.toNat : Nat) : Int) else -1000000002) else -1000000001) ∧ True) (fun u => [(q0, .inr (10, [.ref qn, .ref qa, .ref qp, .int (zI ((de : Nat) : Int)), .ref qi, .ref qs, .ref qk, .long (zL sv), .ref qb, .int (zI ((bn : Nat) : Int)), .ref qt, .ref qh, .ref qe])), (qn, .inl (k.1, 132, .inl (zF f))), (qa, .inl (k.1, 132, .inl (zF u)))]) := by
  refine Met.ofW (cc := cX10_leftOut) (maxL := 3) (ret := (some .int)) (by decide) rfl ?_
  intro p e s m args below meth c s₁ Bd hml hv
  obtain ⟨rfl, hP, hK, hD0⟩ := hv
  have hx := Bd.exec
  have hb := Bd.bytes
  have hr := Bd.returns
  have hts := atoms_spec (ws := wsX10_leftOut) Bd.pre
  have hown : s.vm.findClass RX10 = some m.cls := findClass_of_methodNamed Bd.named
  have hlocks := Bd.notSynchronized
  have hSf : CallFix p m c cX10_leftOut 3 s ([.ref q0, .int (zI x1), .int (zI x2)] : List Value).toArray wsX10_leftOut RX10 := ⟨hx, hb, hml, hown, hts⟩
  have hD := fA_D hD0
  have hS : va_S (fA [(q0, .inr (10, [.ref qn, .ref qa, .ref qp, .int (zI ((de : Nat) : Int)), .ref qi, .ref qs, .ref qk, .long (zL sv), .ref qb, .int (zI ((bn : Nat) : Int)), .ref qt, .ref qh, .ref qe])), (qn, .inl (k.1, 132, .inl (zF f))), (qa, .inl (k.1, 132, .inl (zF az)))]) s.heap s.heap [] := va_S.rf
  generalize hAe : fA [(q0, .inr (10, [.ref qn, .ref qa, .ref qp, .int (zI ((de : Nat) : Int)), .ref qi, .ref qs, .ref qk, .long (zL sv), .ref qb, .int (zI ((bn : Nat) : Int)), .ref qt, .ref qh, .ref qe])), (qn, .inl (k.1, 132, .inl (zF f))), (qa, .inl (k.1, 132, .inl (zF az)))] = A at hD hS ⊢
  have hP : va_P D vwCl [(q0, .inr (10, [.ref qn, .ref qa, .ref qp, .int (zI ((de : Nat) : Int)), .ref qi, .ref qs, .ref qk, .long (zL sv), .ref qb, .int (zI ((bn : Nat) : Int)), .ref qt, .ref qh, .ref qe])), (qn, .inl (k.1, 132, .inl (zF f))), (qa, .inl (k.1, 132, .inl (zF az)))] s.heap := hP
  have hl := lv_entry ([.ref q0, .int (zI x1), .int (zI x2)]) (n := 3) (Nat.le_of_ble_eq_true rfl)
  rw [lg_entry_eq]
  generalize (lg_sl ([.ref q0, .int (zI x1), .int (zI x2)]) ++ List.replicate (3 - (lg_sl ([.ref q0, .int (zI x1), .int (zI x2)])).length) Slot.unset).toArray = ls at hl ⊢
  have hl : lv_has ls 3 [(0, .ref q0), (1, .int (zI x1)), (2, .int (zI x2))] := hl
  have hn := hV.n
  have hv0 := hV.1
  refine lv_aload_n hx hb dX10_leftOut_0 rfl (lv_at hl 0 rfl) ?_
  refine lv_iload_n hx hb dX10_leftOut_1 rfl (lv_at hl 1 rfl) ?_
  refine roV (n := 1) (As := [.int (zI x1)]) (rest := []) hSf (m_isThing l D k q0 qn qa qp qi qs qk qb qt qh qe de sv bn f B hV (by omega) x1 (by omega)) gX10_leftOut_X10_isThing rfl (by decide +kernel) ⟨Nat.le_of_ble_eq_true rfl, Nat.le_of_ble_eq_true rfl⟩ hK hP [0, 1] rfl 0 rfl rfl rfl hl.1 rfl (Nat.le_of_ble_eq_true rfl) dX10_leftOut_2 ⟨Nat.zero_le _, Nat.zero_le _⟩ (fun r_2 h_2 => ?_)
  subst h_2
  refine z_if_neb (tgt := 13) hx hb dX10_leftOut_5 (by decide) (fun c_5 => ?_) (fun c_5 => ?_)
  · simp only [Bool.and_eq_true, decide_eq_true_eq] at c_5
    refine lv_iload_n hx hb dX10_leftOut_13 rfl (lv_at hl 2 rfl) ?_
    refine z_iconst hx hb dX10_leftOut_14 ?_
    refine z_bipush hx hb dX10_leftOut_15 (by decide +kernel) ?_
    refine roS (n := 3) (As := [.int (zI x2), .int (zI 1), .int (zI 40)]) (rest := []) hSf (m_in l D k x2 1 40 (by omega) (by omega) (by omega)) gX10_leftOut_X10_in rfl (by decide +kernel) ⟨Nat.le_of_ble_eq_true rfl, Nat.le_of_ble_eq_true rfl⟩ hK hP [] rfl rfl hl.1 rfl (Nat.le_of_ble_eq_true rfl) dX10_leftOut_17 ⟨Nat.zero_le _, Nat.zero_le _⟩ (fun r_17 h_17 => ?_)
    subst h_17
    refine z_if_eqb (tgt := 32) hx hb dX10_leftOut_20 (by decide) (fun c_20 => ?_) (fun c_20 => ?_)
    · simp only [Bool.and_eq_false_iff, decide_eq_false_iff_not] at c_20
      refine lv_ldc hx hb hown (hts (.constant RX10 112 (-1000000002)) (by decide +kernel)) dX10_leftOut_32 ?_
      refine te (show (-1000000002 : Int32) = zI (-1000000002) from by decide +kernel) ?_
      exact W.iret hx hb hr (fun t ht hW => ⟨⟨_, az, rfl, ⟨zc (by rw [if_pos (by omega), if_neg (by omega)]), trivial⟩, by show va_P D vwCl _ _; rw [ht]; exact hP⟩, hS.F ht⟩) hS.2.2 dX10_leftOut_34
    · simp only [Bool.and_eq_true, decide_eq_true_eq] at c_20
      refine lv_aload_n hx hb dX10_leftOut_23 rfl (lv_at hl 0 rfl) ?_
      refine lv_iload_n hx hb dX10_leftOut_24 rfl (lv_at hl 1 rfl) ?_
      refine lv_iload_n hx hb dX10_leftOut_25 rfl (lv_at hl 2 rfl) ?_
      refine miV (n := 2) (As := [.int (zI ((x1.toNat : Nat) : Int)), .int (zI ((x2.toNat : Nat) : Int))]) (rest := []) hSf (m_leftOutOf l D k q0 qn qa qp qi qs qk qb qt qh qe de sv bn f B hV hB az x1.toNat (by omega) x2.toNat (by omega)) gX10_leftOut_X10_leftOutOf rfl (by decide +kernel) ⟨Nat.le_of_ble_eq_true rfl, Nat.le_of_ble_eq_true rfl⟩ hK hP hD hS [0, 1, 2] rfl rfl (by decide) (fun _ => rfl) (fun _ => rfl) 0 rfl rfl rfl hl.1 (by rw [show zI x1 = zI ((x1.toNat : Nat) : Int) from zc (by omega)]; rw [show zI x2 = zI ((x2.toNat : Nat) : Int) from zc (by omega)]; rfl) (Nat.le_of_ble_eq_true rfl) dX10_leftOut_26 ⟨Nat.zero_le _, Nat.zero_le _⟩ (fun r_26 u_26 H locs h_26 hP hD hS => ?_)
      have hP : va_P D vwCl [(q0, .inr (10, [.ref qn, .ref qa, .ref qp, .int (zI ((de : Nat) : Int)), .ref qi, .ref qs, .ref qk, .long (zL sv), .ref qb, .int (zI ((bn : Nat) : Int)), .ref qt, .ref qh, .ref qe])), (qn, .inl (k.1, 132, .inl (zF f))), (qa, .inl (k.1, 132, .inl (zF u_26)))] H := hP
      have hD : va_D A [(q0, .inr (10, [.ref qn, .ref qa, .ref qp, .int (zI ((de : Nat) : Int)), .ref qi, .ref qs, .ref qk, .long (zL sv), .ref qb, .int (zI ((bn : Nat) : Int)), .ref qt, .ref qh, .ref qe])), (qn, .inl (k.1, 132, .inl (zF f))), (qa, .inl (k.1, 132, .inl (zF u_26)))] := hD
      obtain ⟨he_26, h_26⟩ := h_26
      subst he_26
      refine lv_goto (tgt := 34) hx hb dX10_leftOut_29 (by decide) ?_
      exact W.iret hx hb hr (fun t ht hW => ⟨⟨_, u_26, rfl, ⟨zc (by rw [if_pos (by omega), if_pos (by omega)]), trivial⟩, by show va_P D vwCl _ _; rw [ht]; exact hP⟩, hS.F ht⟩) hS.2.2 dX10_leftOut_34
  · simp only [Bool.and_eq_false_iff, decide_eq_false_iff_not] at c_5
    refine lv_ldc hx hb hown (hts (.constant RX10 117 (-1000000001)) (by decide +kernel)) dX10_leftOut_8 ?_
    refine te (show (-1000000001 : Int32) = zI (-1000000001) from by decide +kernel) ?_
    refine lv_goto (tgt := 34) hx hb dX10_leftOut_10 (by decide) ?_
    exact W.iret hx hb hr (fun t ht hW => ⟨⟨_, az, rfl, ⟨zc (by rw [if_neg (by omega)]), trivial⟩, by show va_P D vwCl _ _; rw [ht]; exact hP⟩, hS.F ht⟩) hS.2.2 dX10_leftOut_34
set_option maxHeartbeats 4000000 in
set_option maxRecDepth 100000 in
theorem m_worst (l : Launch) (D : va_G) (k : Kt) (q0 : Nat) (qn : Nat) (qa : Nat) (qp : Nat) (qi : Nat) (qs : Nat) (qk : Nat) (qb : Nat) (qt : Nat) (qh : Nat) (qe : Nat) (de : Nat) (sv : Int) (bn : Nat) (f : St) (B : Int) (hV : Va B f) (hB : B < 900000) (az : Nat → Int) (x1 : Int) (hx1 : -2147483648 ≤ x1 ∧ x1 < 2147483648) : MI l D k yX10_worst wsX10_worst 7 162 [.ref q0, .int (zI x1)] [(q0, .inr (10, [.ref qn, .ref qa, .ref qp, .int (zI ((de : Nat) : Int)), .ref qi, .ref qs, .ref qk, .long (zL sv), .ref qb, .int (zI ((bn : Nat) : Int)), .ref qt, .ref qh, .ref qe])), (qn, .inl (k.1, 132, .inl (zF f))), (qa, .inl (k.1, 132, .inl (zF az)))] (fun (r : Int32) (u : Nat → Int) => r = zI (if 1 ≤ x1 ∧ x1 ≤ 40 then (wsT (lefN f x1.toNat) 12).1 else -1000000002) ∧ True) (fun u => [(q0, .inr (10, [.ref qn, .ref qa, .ref qp, .int (zI ((de : Nat) : Int)), .ref qi, .ref qs, .ref qk, .long (zL sv), .ref qb, .int (zI ((bn : Nat) : Int)), .ref qt, .ref qh, .ref qe])), (qn, .inl (k.1, 132, .inl (zF f))), (qa, .inl (k.1, 132, .inl (zF u)))]) := by
  refine Met.ofW (cc := cX10_worst) (maxL := 6) (ret := (some .int)) (by decide) rfl ?_
  intro p e s m args below meth c s₁ Bd hml hv
  obtain ⟨rfl, hP, hK, hD0⟩ := hv
  have hx := Bd.exec
  have hb := Bd.bytes
  have hr := Bd.returns
  have hts := atoms_spec (ws := wsX10_worst) Bd.pre
  have hown : s.vm.findClass RX10 = some m.cls := findClass_of_methodNamed Bd.named
  have hlocks := Bd.notSynchronized
  have hSf : CallFix p m c cX10_worst 6 s ([.ref q0, .int (zI x1)] : List Value).toArray wsX10_worst RX10 := ⟨hx, hb, hml, hown, hts⟩
  have hD := fA_D hD0
  have hS : va_S (fA [(q0, .inr (10, [.ref qn, .ref qa, .ref qp, .int (zI ((de : Nat) : Int)), .ref qi, .ref qs, .ref qk, .long (zL sv), .ref qb, .int (zI ((bn : Nat) : Int)), .ref qt, .ref qh, .ref qe])), (qn, .inl (k.1, 132, .inl (zF f))), (qa, .inl (k.1, 132, .inl (zF az)))]) s.heap s.heap [] := va_S.rf
  generalize hAe : fA [(q0, .inr (10, [.ref qn, .ref qa, .ref qp, .int (zI ((de : Nat) : Int)), .ref qi, .ref qs, .ref qk, .long (zL sv), .ref qb, .int (zI ((bn : Nat) : Int)), .ref qt, .ref qh, .ref qe])), (qn, .inl (k.1, 132, .inl (zF f))), (qa, .inl (k.1, 132, .inl (zF az)))] = A at hD hS ⊢
  have hP : va_P D vwCl [(q0, .inr (10, [.ref qn, .ref qa, .ref qp, .int (zI ((de : Nat) : Int)), .ref qi, .ref qs, .ref qk, .long (zL sv), .ref qb, .int (zI ((bn : Nat) : Int)), .ref qt, .ref qh, .ref qe])), (qn, .inl (k.1, 132, .inl (zF f))), (qa, .inl (k.1, 132, .inl (zF az)))] s.heap := hP
  have hinX10 : ∀ w ∈ u_ws RX10 TX10 13, w ∈ wsX10_worst := by decide +kernel
  have fl7 := hts (.fieldLink RX10 7 "DotObjectsModel" "now" "[I") (by decide +kernel)
  have hl := lv_entry ([.ref q0, .int (zI x1)]) (n := 6) (Nat.le_of_ble_eq_true rfl)
  rw [lg_entry_eq]
  generalize (lg_sl ([.ref q0, .int (zI x1)]) ++ List.replicate (6 - (lg_sl ([.ref q0, .int (zI x1)])).length) Slot.unset).toArray = ls at hl ⊢
  have hl : lv_has ls 6 [(0, .ref q0), (1, .int (zI x1))] := hl
  have hn := hV.n
  have hv0 := hV.1
  refine lv_iload_n hx hb dX10_worst_0 rfl (lv_at hl 1 rfl) ?_
  refine z_iconst hx hb dX10_worst_1 ?_
  refine z_bipush hx hb dX10_worst_2 (by decide +kernel) ?_
  refine roS (n := 3) (As := [.int (zI x1), .int (zI 1), .int (zI 40)]) (rest := []) hSf (m_in l D k x1 1 40 (by omega) (by omega) (by omega)) gX10_worst_X10_in rfl (by decide +kernel) ⟨Nat.le_of_ble_eq_true rfl, Nat.le_of_ble_eq_true rfl⟩ hK hP [] rfl rfl hl.1 rfl (Nat.le_of_ble_eq_true rfl) dX10_worst_4 ⟨Nat.zero_le _, Nat.zero_le _⟩ (fun r_4 h_4 => ?_)
  subst h_4
  refine z_if_neb (tgt := 13) hx hb dX10_worst_7 (by decide) (fun c_7 => ?_) (fun c_7 => ?_)
  · simp only [Bool.and_eq_true, decide_eq_true_eq] at c_7
    refine z_iconst hx hb dX10_worst_13 ?_
    refine lv_istore_n (lv' := [(2, .int (zI (-1))), (0, .ref q0), (1, .int (zI x1))]) hx hb dX10_worst_14 rfl hl (by decide) rfl (fun ls hl => ?_)
    refine z_iconst hx hb dX10_worst_15 ?_
    refine lv_istore_n (lv' := [(3, .int (zI 0)), (2, .int (zI (-1))), (0, .ref q0), (1, .int (zI x1))]) hx hb dX10_worst_16 rfl hl (by decide) rfl (fun ls hl => ?_)
    refine z_iconst hx hb dX10_worst_17 ?_
    refine lv_istore (lv' := [(4, .int (zI 0)), (3, .int (zI 0)), (2, .int (zI (-1))), (0, .ref q0), (1, .int (zI x1))]) hx hb dX10_worst_18 hl (by decide) rfl (fun ls hl => ?_)
    have L20 : ∀ (NN20 : Nat), ∀ (tt : Nat) (aw : Nat → Int), (tt ≤ nT f) → nT f - tt < NN20 → ∀ (H : Heap) (locs : List Loc), va_P D vwCl [(q0, .inr (10, [.ref qn, .ref qa, .ref qp, .int (zI ((de : Nat) : Int)), .ref qi, .ref qs, .ref qk, .long (zL sv), .ref qb, .int (zI ((bn : Nat) : Int)), .ref qt, .ref qh, .ref qe])), (qn, .inl (k.1, 132, .inl (zF f))), (qa, .inl (k.1, 132, .inl (zF aw)))] H → va_D A [(q0, .inr (10, [.ref qn, .ref qa, .ref qp, .int (zI ((de : Nat) : Int)), .ref qi, .ref qs, .ref qk, .long (zL sv), .ref qb, .int (zI ((bn : Nat) : Int)), .ref qt, .ref qh, .ref qe])), (qn, .inl (k.1, 132, .inl (zF f))), (qa, .inl (k.1, 132, .inl (zF aw)))] → va_S A s.heap H locs → ∀ (ls : Array Slot), lv_has ls 6 [(0, .ref q0), (1, .int (zI x1)), (2, .int (zI ((wsT (lefN f x1.toNat) tt).1))), (3, .int (zI (((wsT (lefN f x1.toNat) tt).2 : Nat) : Int))), (4, .int (zI ((tt : Nat) : Int)))] → W p l e (headSpec wsX10_worst { frames := 7, cells := 0, slots := 0, locals := 162 }).room s m ([.ref q0, .int (zI x1)] : List Value).toArray below meth c H locs 0 0 (MQ below (va_Qi (fun (r : Int32) (u : Nat → Int) => r = zI (if 1 ≤ x1 ∧ x1 ≤ 40 then (wsT (lefN f x1.toNat) 12).1 else -1000000002) ∧ True) (fun (u : Nat → Int) t => va_P D vwCl [(q0, .inr (10, [.ref qn, .ref qa, .ref qp, .int (zI ((de : Nat) : Int)), .ref qi, .ref qs, .ref qk, .long (zL sv), .ref qb, .int (zI ((bn : Nat) : Int)), .ref qt, .ref qh, .ref qe])), (qn, .inl (k.1, 132, .inl (zF f))), (qa, .inl (k.1, 132, .inl (zF u)))] t.heap) A) ([.ref q0, .int (zI x1)] : List Value).toArray s 0 0 A) (F0 m 20 ls []) := by
      intro NN20
      induction NN20 with
      | zero => intro tt aw _ hN; exact absurd hN (Nat.not_lt_zero _)
      | succ NN20 ih20 =>
        intro tt aw htt hN H locs hP hD hS ls hl
        refine lv_iload hx hb dX10_worst_20 (lv_at hl 4 rfl) ?_
        refine lv_aload_n hx hb dX10_worst_22 rfl (lv_at hl 0 rfl) ?_
        refine va_get (D := D) (ci := 10) (v := .ref qn) (C := RX10) (T := TX10) (N := 13) hx hb hts hinX10 hown hK.1 hP 0 rfl rfl 0 (by decide) fl7 (fun _ h9 => h9) rfl dX10_worst_23 ?_
        refine z_iconst hx hb dX10_worst_26 ?_
        refine z_ald hx hb hK hP 1 rfl (0) (by omega) (by omega) (Nat.le_of_ble_eq_true rfl) dX10_worst_27 ?_
        refine z_icmp_ge (tgt := 72) hx hb dX10_worst_28 (by decide) (by omega) (by omega) (fun c_28 => ?_) (fun c_28 => ?_)
        · have htn : tt = nT f := by omega
          refine lv_iload_n hx hb dX10_worst_72 rfl (lv_at hl 2 rfl) ?_
          exact W.iret hx hb hr (fun t ht hW => ⟨⟨_, aw, rfl, ⟨zc (by rw [if_pos (by omega), htn, wst_n hn.2]), trivial⟩, by show va_P D vwCl _ _; rw [ht]; exact hP⟩, hS.F ht⟩) hS.2.2 dX10_worst_73
        · have hl1 := lefN_le f x1.toNat tt
          have hl2 := wsT_le (F := lefN f x1.toNat) (b := 960) (fun i => by have := lefN_le f x1.toNat i; omega) tt
          refine lv_aload_n hx hb dX10_worst_31 rfl (lv_at hl 0 rfl) ?_
          refine lv_iload hx hb dX10_worst_32 (lv_at hl 4 rfl) ?_
          refine lv_iload_n hx hb dX10_worst_34 rfl (lv_at hl 1 rfl) ?_
          refine miV (n := 2) (As := [.int (zI ((tt : Nat) : Int)), .int (zI ((x1.toNat : Nat) : Int))]) (rest := []) hSf (m_leftOutOf l D k q0 qn qa qp qi qs qk qb qt qh qe de sv bn f B hV hB aw tt (by omega) x1.toNat (by omega)) gX10_worst_X10_leftOutOf rfl (by decide +kernel) ⟨Nat.le_of_ble_eq_true rfl, Nat.le_of_ble_eq_true rfl⟩ hK hP hD hS [0, 1, 2] rfl rfl (by decide) (fun _ => rfl) (fun _ => rfl) 0 rfl rfl rfl hl.1 (by rw [show zI x1 = zI ((x1.toNat : Nat) : Int) from zc (by omega)]; rfl) (Nat.le_of_ble_eq_true rfl) dX10_worst_35 ⟨Nat.zero_le _, Nat.zero_le _⟩ (fun r_35 u_35 H locs h_35 hP hD hS => ?_)
          have hP : va_P D vwCl [(q0, .inr (10, [.ref qn, .ref qa, .ref qp, .int (zI ((de : Nat) : Int)), .ref qi, .ref qs, .ref qk, .long (zL sv), .ref qb, .int (zI ((bn : Nat) : Int)), .ref qt, .ref qh, .ref qe])), (qn, .inl (k.1, 132, .inl (zF f))), (qa, .inl (k.1, 132, .inl (zF u_35)))] H := hP
          have hD : va_D A [(q0, .inr (10, [.ref qn, .ref qa, .ref qp, .int (zI ((de : Nat) : Int)), .ref qi, .ref qs, .ref qk, .long (zL sv), .ref qb, .int (zI ((bn : Nat) : Int)), .ref qt, .ref qh, .ref qe])), (qn, .inl (k.1, 132, .inl (zF f))), (qa, .inl (k.1, 132, .inl (zF u_35)))] := hD
          obtain ⟨he_35, h_35⟩ := h_35
          subst he_35
          refine lv_istore (lv' := [(5, .int (zI ((lefN f x1.toNat tt : Nat) : Int))), (0, .ref q0), (1, .int (zI x1)), (2, .int (zI ((wsT (lefN f x1.toNat) tt).1))), (3, .int (zI (((wsT (lefN f x1.toNat) tt).2 : Nat) : Int))), (4, .int (zI ((tt : Nat) : Int)))]) hx hb dX10_worst_38 hl (by decide) rfl (fun ls hl => ?_)
          refine lv_iload hx hb dX10_worst_40 (lv_at hl 0 rfl) ?_
          refine lv_iload_n hx hb dX10_worst_42 rfl (lv_at hl 4 rfl) ?_
          refine z_icmp_le (tgt := 51) hx hb dX10_worst_43 (by decide) (by omega) (by omega) (fun c_43 => ?_) (fun c_43 => ?_)
          · refine lv_iload_n hx hb dX10_worst_51 rfl (lv_at hl 3 rfl) ?_
            refine lv_istore_n (lv' := [(2, .int (zI ((wsT (lefN f x1.toNat) tt).1))), (5, .int (zI ((lefN f x1.toNat tt : Nat) : Int))), (0, .ref q0), (1, .int (zI x1)), (3, .int (zI (((wsT (lefN f x1.toNat) tt).2 : Nat) : Int))), (4, .int (zI ((tt : Nat) : Int)))]) hx hb dX10_worst_52 rfl hl (by decide) rfl (fun ls hl => ?_)
            refine lv_iload hx hb dX10_worst_53 (lv_at hl 1 rfl) ?_
            refine lv_iload_n hx hb dX10_worst_55 rfl (lv_at hl 4 rfl) ?_
            refine z_icmp_le (tgt := 64) hx hb dX10_worst_56 (by decide) (by omega) (by omega) (fun c_56 => ?_) (fun c_56 => ?_)
            · refine lv_iload_n hx hb dX10_worst_64 rfl (lv_at hl 4 rfl) ?_
              refine lv_istore_n (lv' := [(3, .int (zI (((wsT (lefN f x1.toNat) tt).2 : Nat) : Int))), (2, .int (zI ((wsT (lefN f x1.toNat) tt).1))), (5, .int (zI ((lefN f x1.toNat tt : Nat) : Int))), (0, .ref q0), (1, .int (zI x1)), (4, .int (zI ((tt : Nat) : Int)))]) hx hb dX10_worst_65 rfl hl (by decide) rfl (fun ls hl => ?_)
              refine lv_iinc (v := zI (((tt : Nat) : Int) + 1)) (lv' := [(4, .int (zI (((tt : Nat) : Int) + 1))), (3, .int (zI (((wsT (lefN f x1.toNat) tt).2 : Nat) : Int))), (2, .int (zI ((wsT (lefN f x1.toNat) tt).1))), (5, .int (zI ((lefN f x1.toNat tt : Nat) : Int))), (0, .ref q0), (1, .int (zI x1))]) hx hb dX10_worst_66 hl (k := 5) rfl (zI_add _ _) (by decide) rfl (fun ls hl => ?_)
              refine lv_goto (tgt := 20) hx hb dX10_worst_69 (by decide) ?_
              have hl : lv_has ls 6 [(4, .int (zI (((tt : Nat) : Int) + 1))), (3, .int (zI (((wsT (lefN f x1.toNat) tt).2 : Nat) : Int))), (2, .int (zI ((wsT (lefN f x1.toNat) (tt + 1)).1))), (5, .int (zI ((lefN f x1.toNat tt : Nat) : Int))), (0, .ref q0), (1, .int (zI x1))] := lv_c (l1 := [(4, .int (zI (((tt : Nat) : Int) + 1))), (3, .int (zI (((wsT (lefN f x1.toNat) tt).2 : Nat) : Int)))]) (l2 := [(5, .int (zI ((lefN f x1.toNat tt : Nat) : Int))), (0, .ref q0), (1, .int (zI x1))]) hl (show (wsT (lefN f x1.toNat) tt).1 = (wsT (lefN f x1.toNat) (tt + 1)).1 from by rw [wsT_f (by omega)])
              have hl : lv_has ls 6 [(4, .int (zI (((tt : Nat) : Int) + 1))), (3, .int (zI (((wsT (lefN f x1.toNat) (tt + 1)).2 : Nat) : Int))), (2, .int (zI ((wsT (lefN f x1.toNat) (tt + 1)).1))), (5, .int (zI ((lefN f x1.toNat tt : Nat) : Int))), (0, .ref q0), (1, .int (zI x1))] := lv_c (l1 := [(4, .int (zI (((tt : Nat) : Int) + 1)))]) (l2 := [(2, .int (zI ((wsT (lefN f x1.toNat) (tt + 1)).1))), (5, .int (zI ((lefN f x1.toNat tt : Nat) : Int))), (0, .ref q0), (1, .int (zI x1))]) hl (show (((wsT (lefN f x1.toNat) tt).2 : Nat) : Int) = (((wsT (lefN f x1.toNat) (tt + 1)).2 : Nat) : Int) from by rw [wsT_f (by omega)])
              have hl : lv_has ls 6 [(4, .int (zI (((tt + 1) : Nat) : Int))), (3, .int (zI (((wsT (lefN f x1.toNat) (tt + 1)).2 : Nat) : Int))), (2, .int (zI ((wsT (lefN f x1.toNat) (tt + 1)).1))), (5, .int (zI ((lefN f x1.toNat tt : Nat) : Int))), (0, .ref q0), (1, .int (zI x1))] := lv_c (l1 := []) (l2 := [(3, .int (zI (((wsT (lefN f x1.toNat) (tt + 1)).2 : Nat) : Int))), (2, .int (zI ((wsT (lefN f x1.toNat) (tt + 1)).1))), (5, .int (zI ((lefN f x1.toNat tt : Nat) : Int))), (0, .ref q0), (1, .int (zI x1))]) hl (show ((tt : Nat) : Int) + 1 = (((tt + 1) : Nat) : Int) from by omega)
              exact ih20 (tt + 1) u_35 (by omega) (by omega) _ _ hP hD hS ls (lv_sub hl [4, 5, 2, 1, 0] rfl)
            · exact absurd c_43 (by omega)
          · refine lv_iload hx hb dX10_worst_46 (lv_at hl 5 rfl) ?_
            refine lv_goto (tgt := 52) hx hb dX10_worst_48 (by decide) ?_
            refine lv_istore_n (lv' := [(2, .int (zI ((tt : Nat) : Int))), (5, .int (zI ((lefN f x1.toNat tt : Nat) : Int))), (0, .ref q0), (1, .int (zI x1)), (3, .int (zI (((wsT (lefN f x1.toNat) tt).2 : Nat) : Int))), (4, .int (zI ((tt : Nat) : Int)))]) hx hb dX10_worst_52 rfl hl (by decide) rfl (fun ls hl => ?_)
            refine lv_iload hx hb dX10_worst_53 (lv_at hl 1 rfl) ?_
            refine lv_iload_n hx hb dX10_worst_55 rfl (lv_at hl 4 rfl) ?_
            refine z_icmp_le (tgt := 64) hx hb dX10_worst_56 (by decide) (by omega) (by omega) (fun c_56 => ?_) (fun c_56 => ?_)
            · exact absurd c_43 (by omega)
            · refine lv_iload hx hb dX10_worst_59 (lv_at hl 1 rfl) ?_
              refine lv_goto (tgt := 65) hx hb dX10_worst_61 (by decide) ?_
              refine lv_istore_n (lv' := [(3, .int (zI ((lefN f x1.toNat tt : Nat) : Int))), (2, .int (zI ((tt : Nat) : Int))), (5, .int (zI ((lefN f x1.toNat tt : Nat) : Int))), (0, .ref q0), (1, .int (zI x1)), (4, .int (zI ((tt : Nat) : Int)))]) hx hb dX10_worst_65 rfl hl (by decide) rfl (fun ls hl => ?_)
              refine lv_iinc (v := zI (((tt : Nat) : Int) + 1)) (lv' := [(4, .int (zI (((tt : Nat) : Int) + 1))), (3, .int (zI ((lefN f x1.toNat tt : Nat) : Int))), (2, .int (zI ((tt : Nat) : Int))), (5, .int (zI ((lefN f x1.toNat tt : Nat) : Int))), (0, .ref q0), (1, .int (zI x1))]) hx hb dX10_worst_66 hl (k := 5) rfl (zI_add _ _) (by decide) rfl (fun ls hl => ?_)
              refine lv_goto (tgt := 20) hx hb dX10_worst_69 (by decide) ?_
              have hl : lv_has ls 6 [(4, .int (zI (((tt : Nat) : Int) + 1))), (3, .int (zI ((lefN f x1.toNat tt : Nat) : Int))), (2, .int (zI ((wsT (lefN f x1.toNat) (tt + 1)).1))), (5, .int (zI ((lefN f x1.toNat tt : Nat) : Int))), (0, .ref q0), (1, .int (zI x1))] := lv_c (l1 := [(4, .int (zI (((tt : Nat) : Int) + 1))), (3, .int (zI ((lefN f x1.toNat tt : Nat) : Int)))]) (l2 := [(5, .int (zI ((lefN f x1.toNat tt : Nat) : Int))), (0, .ref q0), (1, .int (zI x1))]) hl (show ((tt : Nat) : Int) = (wsT (lefN f x1.toNat) (tt + 1)).1 from by rw [wsT_t (by omega)])
              have hl : lv_has ls 6 [(4, .int (zI (((tt : Nat) : Int) + 1))), (3, .int (zI (((wsT (lefN f x1.toNat) (tt + 1)).2 : Nat) : Int))), (2, .int (zI ((wsT (lefN f x1.toNat) (tt + 1)).1))), (5, .int (zI ((lefN f x1.toNat tt : Nat) : Int))), (0, .ref q0), (1, .int (zI x1))] := lv_c (l1 := [(4, .int (zI (((tt : Nat) : Int) + 1)))]) (l2 := [(2, .int (zI ((wsT (lefN f x1.toNat) (tt + 1)).1))), (5, .int (zI ((lefN f x1.toNat tt : Nat) : Int))), (0, .ref q0), (1, .int (zI x1))]) hl (show ((lefN f x1.toNat tt : Nat) : Int) = (((wsT (lefN f x1.toNat) (tt + 1)).2 : Nat) : Int) from by rw [wsT_t (by omega)])
              have hl : lv_has ls 6 [(4, .int (zI (((tt + 1) : Nat) : Int))), (3, .int (zI (((wsT (lefN f x1.toNat) (tt + 1)).2 : Nat) : Int))), (2, .int (zI ((wsT (lefN f x1.toNat) (tt + 1)).1))), (5, .int (zI ((lefN f x1.toNat tt : Nat) : Int))), (0, .ref q0), (1, .int (zI x1))] := lv_c (l1 := []) (l2 := [(3, .int (zI (((wsT (lefN f x1.toNat) (tt + 1)).2 : Nat) : Int))), (2, .int (zI ((wsT (lefN f x1.toNat) (tt + 1)).1))), (5, .int (zI ((lefN f x1.toNat tt : Nat) : Int))), (0, .ref q0), (1, .int (zI x1))]) hl (show ((tt : Nat) : Int) + 1 = (((tt + 1) : Nat) : Int) from by omega)
              exact ih20 (tt + 1) u_35 (by omega) (by omega) _ _ hP hD hS ls (lv_sub hl [4, 5, 2, 1, 0] rfl)
    have hl : lv_has ls 6 [(4, .int (zI 0)), (3, .int (zI 0)), (2, .int (zI ((wsT (lefN f x1.toNat) 0).1))), (0, .ref q0), (1, .int (zI x1))] := lv_c (l1 := [(4, .int (zI 0)), (3, .int (zI 0))]) (l2 := [(0, .ref q0), (1, .int (zI x1))]) hl (show -1 = (wsT (lefN f x1.toNat) 0).1 from rfl)
    have hl : lv_has ls 6 [(4, .int (zI 0)), (3, .int (zI (((wsT (lefN f x1.toNat) 0).2 : Nat) : Int))), (2, .int (zI ((wsT (lefN f x1.toNat) 0).1))), (0, .ref q0), (1, .int (zI x1))] := lv_c (l1 := [(4, .int (zI 0))]) (l2 := [(2, .int (zI ((wsT (lefN f x1.toNat) 0).1))), (0, .ref q0), (1, .int (zI x1))]) hl (show 0 = (((wsT (lefN f x1.toNat) 0).2 : Nat) : Int) from rfl)
    have hl : lv_has ls 6 [(4, .int (zI ((0 : Nat) : Int))), (3, .int (zI (((wsT (lefN f x1.toNat) 0).2 : Nat) : Int))), (2, .int (zI ((wsT (lefN f x1.toNat) 0).1))), (0, .ref q0), (1, .int (zI x1))] := lv_c (l1 := []) (l2 := [(3, .int (zI (((wsT (lefN f x1.toNat) 0).2 : Nat) : Int))), (2, .int (zI ((wsT (lefN f x1.toNat) 0).1))), (0, .ref q0), (1, .int (zI x1))]) hl (show 0 = ((0 : Nat) : Int) from rfl)
    exact L20 _ 0 az (Nat.zero_le _) (Nat.lt_succ_self _) _ _ hP hD hS ls (lv_sub hl [3, 4, 2, 1, 0] rfl)
  · simp only [Bool.and_eq_false_iff, decide_eq_false_iff_not] at c_7
    refine lv_ldc hx hb hown (hts (.constant RX10 112 (-1000000002)) (by decide +kernel)) dX10_worst_10 ?_
    refine te (show (-1000000002 : Int32) = zI (-1000000002) from by decide +kernel) ?_
    exact W.iret hx hb hr (fun t ht hW => ⟨⟨_, az, rfl, ⟨zc (by rw [if_neg (by omega)]), trivial⟩, by show va_P D vwCl _ _; rw [ht]; exact hP⟩, hS.F ht⟩) hS.2.2 dX10_worst_12
set_option maxHeartbeats 4000000 in
set_option maxRecDepth 100000 in
theorem m_write (l : Launch) (D : va_G) (k : Kt) (q0 : Nat) (qn : Nat) (qa : Nat) (qp : Nat) (qi : Nat) (qs : Nat) (qk : Nat) (qb : Nat) (qt : Nat) (qh : Nat) (qe : Nat) (de : Nat) (sv : Int) (bn : Nat) (bk : Nat → Int) (hbn : bn ≤ 20) (x1 : Int) (x2 : Int) (x3 : Int) (hx1 : -2147483648 ≤ x1 ∧ x1 < 2147483648) (hx2 : -2147483648 ≤ x2 ∧ x2 < 2147483648) (hx3 : -2147483648 ≤ x3 ∧ x3 < 2147483648) : MI l D k yX10_write wsX10_write 1 22 [.ref q0, .int (zI x1), .int (zI x2), .int (zI x3)] [(q0, .inr (10, [.ref qn, .ref qa, .ref qp, .int (zI ((de : Nat) : Int)), .ref qi, .ref qs, .ref qk, .long (zL sv), .ref qb, .int (zI ((bn : Nat) : Int)), .ref qt, .ref qh, .ref qe])), (qb, .inl (k.1, 60, .inl (zF bk)))] (fun (r : Int32) (u : (Nat → Int) × Nat) => r = zI (if ((0 ≤ x1 ∧ x1 ≤ 23) ∧ (0 ≤ x2 ∧ x2 ≤ 31)) ∧ (0 ≤ x3 ∧ x3 ≤ 7) then (if 20 ≤ bn then -1000000004 else ((bn + 1 : Nat) : Int)) else -1000000002) ∧ u = if (((0 ≤ x1 ∧ x1 ≤ 23) ∧ (0 ≤ x2 ∧ x2 ≤ 31)) ∧ (0 ≤ x3 ∧ x3 ≤ 7)) ∧ bn < 20 then (upZ (upZ (upZ bk (3 * bn) x1) (3 * bn + 1) x2) (3 * bn + 2) x3, bn + 1) else (bk, bn)) (fun u => [(q0, .inr (10, [.ref qn, .ref qa, .ref qp, .int (zI ((de : Nat) : Int)), .ref qi, .ref qs, .ref qk, .long (zL sv), .ref qb, .int (zI ((u.2 : Nat) : Int)), .ref qt, .ref qh, .ref qe])), (qb, .inl (k.1, 60, .inl (zF u.1)))]) := by
  refine Met.ofW (cc := cX10_write) (maxL := 4) (ret := (some .int)) (by decide) rfl ?_
  intro p e s m args below meth c s₁ Bd hml hv
  obtain ⟨rfl, hP, hK, hD0⟩ := hv
  have hx := Bd.exec
  have hb := Bd.bytes
  have hr := Bd.returns
  have hts := atoms_spec (ws := wsX10_write) Bd.pre
  have hown : s.vm.findClass RX10 = some m.cls := findClass_of_methodNamed Bd.named
  have hlocks := Bd.notSynchronized
  have hSf : CallFix p m c cX10_write 4 s ([.ref q0, .int (zI x1), .int (zI x2), .int (zI x3)] : List Value).toArray wsX10_write RX10 := ⟨hx, hb, hml, hown, hts⟩
  have hD := fA_D hD0
  have hS : va_S (fA [(q0, .inr (10, [.ref qn, .ref qa, .ref qp, .int (zI ((de : Nat) : Int)), .ref qi, .ref qs, .ref qk, .long (zL sv), .ref qb, .int (zI ((bn : Nat) : Int)), .ref qt, .ref qh, .ref qe])), (qb, .inl (k.1, 60, .inl (zF bk)))]) s.heap s.heap [] := va_S.rf
  generalize hAe : fA [(q0, .inr (10, [.ref qn, .ref qa, .ref qp, .int (zI ((de : Nat) : Int)), .ref qi, .ref qs, .ref qk, .long (zL sv), .ref qb, .int (zI ((bn : Nat) : Int)), .ref qt, .ref qh, .ref qe])), (qb, .inl (k.1, 60, .inl (zF bk)))] = A at hD hS ⊢
  have hP : va_P D vwCl [(q0, .inr (10, [.ref qn, .ref qa, .ref qp, .int (zI ((de : Nat) : Int)), .ref qi, .ref qs, .ref qk, .long (zL sv), .ref qb, .int (zI ((bn : Nat) : Int)), .ref qt, .ref qh, .ref qe])), (qb, .inl (k.1, 60, .inl (zF bk)))] s.heap := hP
  have hinX10 : ∀ w ∈ u_ws RX10 TX10 13, w ∈ wsX10_write := by decide +kernel
  have fl94 := hts (.fieldLink RX10 94 "DotObjectsModel" "entries" "I") (by decide +kernel)
  have fl30 := hts (.fieldLink RX10 30 "DotObjectsModel" "book" "[I") (by decide +kernel)
  have hl := lv_entry ([.ref q0, .int (zI x1), .int (zI x2), .int (zI x3)]) (n := 4) (Nat.le_of_ble_eq_true rfl)
  rw [lg_entry_eq]
  generalize (lg_sl ([.ref q0, .int (zI x1), .int (zI x2), .int (zI x3)]) ++ List.replicate (4 - (lg_sl ([.ref q0, .int (zI x1), .int (zI x2), .int (zI x3)])).length) Slot.unset).toArray = ls at hl ⊢
  have hl : lv_has ls 4 [(0, .ref q0), (1, .int (zI x1)), (2, .int (zI x2)), (3, .int (zI x3))] := hl
  refine lv_iload_n hx hb dX10_write_0 rfl (lv_at hl 1 rfl) ?_
  refine z_iconst hx hb dX10_write_1 ?_
  refine z_bipush hx hb dX10_write_2 (by decide +kernel) ?_
  refine roS (n := 3) (As := [.int (zI x1), .int (zI 0), .int (zI 23)]) (rest := []) hSf (m_in l D k x1 0 23 (by omega) (by omega) (by omega)) gX10_write_X10_in rfl (by decide +kernel) ⟨Nat.le_of_ble_eq_true rfl, Nat.le_of_ble_eq_true rfl⟩ hK hP [] rfl rfl hl.1 rfl (Nat.le_of_ble_eq_true rfl) dX10_write_4 ⟨Nat.zero_le _, Nat.zero_le _⟩ (fun r_4 h_4 => ?_)
  subst h_4
  refine z_if_eqb (tgt := 30) hx hb dX10_write_7 (by decide) (fun c_7 => ?_) (fun c_7 => ?_)
  · simp only [Bool.and_eq_false_iff, decide_eq_false_iff_not] at c_7
    refine lv_ldc hx hb hown (hts (.constant RX10 112 (-1000000002)) (by decide +kernel)) dX10_write_30 ?_
    refine te (show (-1000000002 : Int32) = zI (-1000000002) from by decide +kernel) ?_
    exact W.iret hx hb hr (fun t ht hW => ⟨⟨_, (bk, bn), rfl, ⟨zc (by rw [if_neg (by omega)]), by rw [if_neg (by omega)]⟩, by show va_P D vwCl _ _; rw [ht]; exact hP⟩, hS.F ht⟩) hS.2.2 dX10_write_32
  · simp only [Bool.and_eq_true, decide_eq_true_eq] at c_7
    refine lv_iload_n hx hb dX10_write_10 rfl (lv_at hl 2 rfl) ?_
    refine z_iconst hx hb dX10_write_11 ?_
    refine z_bipush hx hb dX10_write_12 (by decide +kernel) ?_
    refine roS (n := 3) (As := [.int (zI x2), .int (zI 0), .int (zI 31)]) (rest := []) hSf (m_in l D k x2 0 31 (by omega) (by omega) (by omega)) gX10_write_X10_in rfl (by decide +kernel) ⟨Nat.le_of_ble_eq_true rfl, Nat.le_of_ble_eq_true rfl⟩ hK hP [] rfl rfl hl.1 rfl (Nat.le_of_ble_eq_true rfl) dX10_write_14 ⟨Nat.zero_le _, Nat.zero_le _⟩ (fun r_14 h_14 => ?_)
    subst h_14
    refine z_if_eqb (tgt := 30) hx hb dX10_write_17 (by decide) (fun c_17 => ?_) (fun c_17 => ?_)
    · simp only [Bool.and_eq_false_iff, decide_eq_false_iff_not] at c_17
      refine lv_ldc hx hb hown (hts (.constant RX10 112 (-1000000002)) (by decide +kernel)) dX10_write_30 ?_
      refine te (show (-1000000002 : Int32) = zI (-1000000002) from by decide +kernel) ?_
      exact W.iret hx hb hr (fun t ht hW => ⟨⟨_, (bk, bn), rfl, ⟨zc (by rw [if_neg (by omega)]), by rw [if_neg (by omega)]⟩, by show va_P D vwCl _ _; rw [ht]; exact hP⟩, hS.F ht⟩) hS.2.2 dX10_write_32
    · simp only [Bool.and_eq_true, decide_eq_true_eq] at c_17
      refine lv_iload_n hx hb dX10_write_20 rfl (lv_at hl 3 rfl) ?_
      refine z_iconst hx hb dX10_write_21 ?_
      refine z_bipush hx hb dX10_write_22 (by decide +kernel) ?_
      refine roS (n := 3) (As := [.int (zI x3), .int (zI 0), .int (zI 7)]) (rest := []) hSf (m_in l D k x3 0 7 (by omega) (by omega) (by omega)) gX10_write_X10_in rfl (by decide +kernel) ⟨Nat.le_of_ble_eq_true rfl, Nat.le_of_ble_eq_true rfl⟩ hK hP [] rfl rfl hl.1 rfl (Nat.le_of_ble_eq_true rfl) dX10_write_24 ⟨Nat.zero_le _, Nat.zero_le _⟩ (fun r_24 h_24 => ?_)
      subst h_24
      refine z_if_neb (tgt := 33) hx hb dX10_write_27 (by decide) (fun c_27 => ?_) (fun c_27 => ?_)
      · simp only [Bool.and_eq_true, decide_eq_true_eq] at c_27
        refine lv_aload_n hx hb dX10_write_33 rfl (lv_at hl 0 rfl) ?_
        refine va_get (D := D) (ci := 10) (v := .int (zI ((bn : Nat) : Int))) (C := RX10) (T := TX10) (N := 13) hx hb hts hinX10 hown hK.1 hP 0 rfl rfl 9 (by decide) fl94 (fun _ h9 => h9) rfl dX10_write_34 ?_
        refine z_bipush hx hb dX10_write_37 (by decide +kernel) ?_
        refine z_icmp_ne (tgt := 45) hx hb dX10_write_39 (by decide) (by omega) (by omega) (fun c_39 => ?_) (fun c_39 => ?_)
        · refine lv_aload_n hx hb dX10_write_45 rfl (lv_at hl 0 rfl) ?_
          refine va_get (D := D) (ci := 10) (v := .ref qb) (C := RX10) (T := TX10) (N := 13) hx hb hts hinX10 hown hK.1 hP 0 rfl rfl 8 (by decide) fl30 (fun _ h9 => h9) rfl dX10_write_46 ?_
          refine z_iconst hx hb dX10_write_49 ?_
          refine lv_aload_n hx hb dX10_write_50 rfl (lv_at hl 0 rfl) ?_
          refine va_get (D := D) (ci := 10) (v := .int (zI ((bn : Nat) : Int))) (C := RX10) (T := TX10) (N := 13) hx hb hts hinX10 hown hK.1 hP 0 rfl rfl 9 (by decide) fl94 (fun _ h9 => h9) rfl dX10_write_51 ?_
          refine z_imul hx hb dX10_write_54 ?_
          refine lv_iload_n hx hb dX10_write_55 rfl (lv_at hl 1 rfl) ?_
          refine z_ast hx hb hK hP hD hS 1 rfl (3 * bn) (by omega) (by omega) (Nat.le_of_ble_eq_true rfl) dX10_write_56 (fun H locs hP hD hS => ?_)
          have hP : va_P D vwCl [(q0, .inr (10, [.ref qn, .ref qa, .ref qp, .int (zI ((de : Nat) : Int)), .ref qi, .ref qs, .ref qk, .long (zL sv), .ref qb, .int (zI ((bn : Nat) : Int)), .ref qt, .ref qh, .ref qe])), (qb, .inl (k.1, 60, .inl (zF (upZ bk (3 * bn) x1))))] H := hP
          have hD : va_D A [(q0, .inr (10, [.ref qn, .ref qa, .ref qp, .int (zI ((de : Nat) : Int)), .ref qi, .ref qs, .ref qk, .long (zL sv), .ref qb, .int (zI ((bn : Nat) : Int)), .ref qt, .ref qh, .ref qe])), (qb, .inl (k.1, 60, .inl (zF (upZ bk (3 * bn) x1))))] := hD
          refine lv_aload_n hx hb dX10_write_57 rfl (lv_at hl 0 rfl) ?_
          refine va_get (D := D) (ci := 10) (v := .ref qb) (C := RX10) (T := TX10) (N := 13) hx hb hts hinX10 hown hK.1 hP 0 rfl rfl 8 (by decide) fl30 (fun _ h9 => h9) rfl dX10_write_58 ?_
          refine z_iconst hx hb dX10_write_61 ?_
          refine lv_aload_n hx hb dX10_write_62 rfl (lv_at hl 0 rfl) ?_
          refine va_get (D := D) (ci := 10) (v := .int (zI ((bn : Nat) : Int))) (C := RX10) (T := TX10) (N := 13) hx hb hts hinX10 hown hK.1 hP 0 rfl rfl 9 (by decide) fl94 (fun _ h9 => h9) rfl dX10_write_63 ?_
          refine z_imul hx hb dX10_write_66 ?_
          refine z_iconst hx hb dX10_write_67 ?_
          refine z_iadd hx hb dX10_write_68 ?_
          refine lv_iload_n hx hb dX10_write_69 rfl (lv_at hl 2 rfl) ?_
          refine z_ast hx hb hK hP hD hS 1 rfl (3 * bn + 1) (by omega) (by omega) (Nat.le_of_ble_eq_true rfl) dX10_write_70 (fun H locs hP hD hS => ?_)
          have hP : va_P D vwCl [(q0, .inr (10, [.ref qn, .ref qa, .ref qp, .int (zI ((de : Nat) : Int)), .ref qi, .ref qs, .ref qk, .long (zL sv), .ref qb, .int (zI ((bn : Nat) : Int)), .ref qt, .ref qh, .ref qe])), (qb, .inl (k.1, 60, .inl (zF (upZ (upZ bk (3 * bn) x1) (3 * bn + 1) x2))))] H := hP
          have hD : va_D A [(q0, .inr (10, [.ref qn, .ref qa, .ref qp, .int (zI ((de : Nat) : Int)), .ref qi, .ref qs, .ref qk, .long (zL sv), .ref qb, .int (zI ((bn : Nat) : Int)), .ref qt, .ref qh, .ref qe])), (qb, .inl (k.1, 60, .inl (zF (upZ (upZ bk (3 * bn) x1) (3 * bn + 1) x2))))] := hD
          refine lv_aload_n hx hb dX10_write_71 rfl (lv_at hl 0 rfl) ?_
          refine va_get (D := D) (ci := 10) (v := .ref qb) (C := RX10) (T := TX10) (N := 13) hx hb hts hinX10 hown hK.1 hP 0 rfl rfl 8 (by decide) fl30 (fun _ h9 => h9) rfl dX10_write_72 ?_
          refine z_iconst hx hb dX10_write_75 ?_
          refine lv_aload_n hx hb dX10_write_76 rfl (lv_at hl 0 rfl) ?_
          refine va_get (D := D) (ci := 10) (v := .int (zI ((bn : Nat) : Int))) (C := RX10) (T := TX10) (N := 13) hx hb hts hinX10 hown hK.1 hP 0 rfl rfl 9 (by decide) fl94 (fun _ h9 => h9) rfl dX10_write_77 ?_
          refine z_imul hx hb dX10_write_80 ?_
          refine z_iconst hx hb dX10_write_81 ?_
          refine z_iadd hx hb dX10_write_82 ?_
          refine lv_iload_n hx hb dX10_write_83 rfl (lv_at hl 3 rfl) ?_
          refine z_ast hx hb hK hP hD hS 1 rfl (3 * bn + 2) (by omega) (by omega) (Nat.le_of_ble_eq_true rfl) dX10_write_84 (fun H locs hP hD hS => ?_)
          have hP : va_P D vwCl [(q0, .inr (10, [.ref qn, .ref qa, .ref qp, .int (zI ((de : Nat) : Int)), .ref qi, .ref qs, .ref qk, .long (zL sv), .ref qb, .int (zI ((bn : Nat) : Int)), .ref qt, .ref qh, .ref qe])), (qb, .inl (k.1, 60, .inl (zF (upZ (upZ (upZ bk (3 * bn) x1) (3 * bn + 1) x2) (3 * bn + 2) x3))))] H := hP
          have hD : va_D A [(q0, .inr (10, [.ref qn, .ref qa, .ref qp, .int (zI ((de : Nat) : Int)), .ref qi, .ref qs, .ref qk, .long (zL sv), .ref qb, .int (zI ((bn : Nat) : Int)), .ref qt, .ref qh, .ref qe])), (qb, .inl (k.1, 60, .inl (zF (upZ (upZ (upZ bk (3 * bn) x1) (3 * bn + 1) x2) (3 * bn + 2) x3))))] := hD
          refine lv_aload_n hx hb dX10_write_85 rfl (lv_at hl 0 rfl) ?_
          refine lv_dup hx hb dX10_write_86 rfl ?_
          refine va_get (D := D) (ci := 10) (v := .int (zI ((bn : Nat) : Int))) (C := RX10) (T := TX10) (N := 13) hx hb hts hinX10 hown hK.1 hP 0 rfl rfl 9 (by decide) fl94 (fun _ h9 => h9) rfl dX10_write_87 ?_
          refine z_iconst hx hb dX10_write_90 ?_
          refine z_iadd hx hb dX10_write_91 ?_
          refine te (zc (show ((bn : Nat) : Int) + 1 = ((bn + 1 : Nat) : Int) from by omega)) ?_
          refine va_put (D := D) (ci := 10) (v := .int (zI ((bn + 1 : Nat) : Int))) (ty := .int) (C := RX10) (T := TX10) (N := 13) hx hb hts hinX10 tyX10 tyX10_ok nmX10 hown hK.1 hP hD hS 0 rfl rfl 9 (by decide) fl94 (fun _ h9 => h9) rfl (by decide +kernel) rfl rfl (Nat.le_of_ble_eq_true rfl) dX10_write_92 (fun H locs hP hD hS => ?_)
          have hP : va_P D vwCl [(q0, .inr (10, [.ref qn, .ref qa, .ref qp, .int (zI ((de : Nat) : Int)), .ref qi, .ref qs, .ref qk, .long (zL sv), .ref qb, .int (zI ((bn + 1 : Nat) : Int)), .ref qt, .ref qh, .ref qe])), (qb, .inl (k.1, 60, .inl (zF (upZ (upZ (upZ bk (3 * bn) x1) (3 * bn + 1) x2) (3 * bn + 2) x3))))] H := hP
          have hD : va_D A [(q0, .inr (10, [.ref qn, .ref qa, .ref qp, .int (zI ((de : Nat) : Int)), .ref qi, .ref qs, .ref qk, .long (zL sv), .ref qb, .int (zI ((bn + 1 : Nat) : Int)), .ref qt, .ref qh, .ref qe])), (qb, .inl (k.1, 60, .inl (zF (upZ (upZ (upZ bk (3 * bn) x1) (3 * bn + 1) x2) (3 * bn + 2) x3))))] := hD
          refine lv_aload_n hx hb dX10_write_95 rfl (lv_at hl 0 rfl) ?_
          refine va_get (D := D) (ci := 10) (v := .int (zI ((bn + 1 : Nat) : Int))) (C := RX10) (T := TX10) (N := 13) hx hb hts hinX10 hown hK.1 hP 0 rfl rfl 9 (by decide) fl94 (fun _ h9 => h9) rfl dX10_write_96 ?_
          exact W.iret hx hb hr (fun t ht hW => ⟨⟨_, (upZ (upZ (upZ bk (3 * bn) x1) (3 * bn + 1) x2) (3 * bn + 2) x3, bn + 1), rfl, ⟨zc (by rw [if_pos (by omega), if_neg (by omega)]), by rw [if_pos (by omega)]⟩, by show va_P D vwCl _ _; rw [ht]; exact hP⟩, hS.F ht⟩) hS.2.2 dX10_write_99
        · refine lv_ldc hx hb hown (hts (.constant RX10 138 (-1000000004)) (by decide +kernel)) dX10_write_42 ?_
          refine te (show (-1000000004 : Int32) = zI (-1000000004) from by decide +kernel) ?_
          exact W.iret hx hb hr (fun t ht hW => ⟨⟨_, (bk, bn), rfl, ⟨zc (by rw [if_pos (by omega), if_pos (by omega)]), by rw [if_neg (by omega)]⟩, by show va_P D vwCl _ _; rw [ht]; exact hP⟩, hS.F ht⟩) hS.2.2 dX10_write_44
      · simp only [Bool.and_eq_false_iff, decide_eq_false_iff_not] at c_27
        refine lv_ldc hx hb hown (hts (.constant RX10 112 (-1000000002)) (by decide +kernel)) dX10_write_30 ?_
        refine te (show (-1000000002 : Int32) = zI (-1000000002) from by decide +kernel) ?_
        exact W.iret hx hb hr (fun t ht hW => ⟨⟨_, (bk, bn), rfl, ⟨zc (by rw [if_neg (by omega)]), by rw [if_neg (by omega)]⟩, by show va_P D vwCl _ _; rw [ht]; exact hP⟩, hS.F ht⟩) hS.2.2 dX10_write_32
set_option maxHeartbeats 4000000 in
set_option maxRecDepth 100000 in
theorem m_tear (l : Launch) (D : va_G) (k : Kt) (q0 : Nat) (qn : Nat) (qa : Nat) (qp : Nat) (qi : Nat) (qs : Nat) (qk : Nat) (qb : Nat) (qt : Nat) (qh : Nat) (qe : Nat) (de : Nat) (sv : Int) (bn : Nat) : MI l D k yX10_tear wsX10_tear 0 0 [.ref q0] [(q0, .inr (10, [.ref qn, .ref qa, .ref qp, .int (zI ((de : Nat) : Int)), .ref qi, .ref qs, .ref qk, .long (zL sv), .ref qb, .int (zI ((bn : Nat) : Int)), .ref qt, .ref qh, .ref qe]))] (fun (r : Int32) (u : Unit) => r = zI ((bn : Nat) : Int) ∧ True) (fun u => [(q0, .inr (10, [.ref qn, .ref qa, .ref qp, .int (zI ((de : Nat) : Int)), .ref qi, .ref qs, .ref qk, .long (zL sv), .ref qb, .int (zI ((0 : Nat) : Int)), .ref qt, .ref qh, .ref qe]))]) := by
  refine Met.ofW (cc := cX10_tear) (maxL := 2) (ret := (some .int)) (by decide) rfl ?_
  intro p e s m args below meth c s₁ Bd hml hv
  obtain ⟨rfl, hP, hK, hD0⟩ := hv
  have hx := Bd.exec
  have hb := Bd.bytes
  have hr := Bd.returns
  have hts := atoms_spec (ws := wsX10_tear) Bd.pre
  have hown : s.vm.findClass RX10 = some m.cls := findClass_of_methodNamed Bd.named
  have hlocks := Bd.notSynchronized
  have hSf : CallFix p m c cX10_tear 2 s ([.ref q0] : List Value).toArray wsX10_tear RX10 := ⟨hx, hb, hml, hown, hts⟩
  have hD := fA_D hD0
  have hS : va_S (fA [(q0, .inr (10, [.ref qn, .ref qa, .ref qp, .int (zI ((de : Nat) : Int)), .ref qi, .ref qs, .ref qk, .long (zL sv), .ref qb, .int (zI ((bn : Nat) : Int)), .ref qt, .ref qh, .ref qe]))]) s.heap s.heap [] := va_S.rf
  generalize hAe : fA [(q0, .inr (10, [.ref qn, .ref qa, .ref qp, .int (zI ((de : Nat) : Int)), .ref qi, .ref qs, .ref qk, .long (zL sv), .ref qb, .int (zI ((bn : Nat) : Int)), .ref qt, .ref qh, .ref qe]))] = A at hD hS ⊢
  have hP : va_P D vwCl [(q0, .inr (10, [.ref qn, .ref qa, .ref qp, .int (zI ((de : Nat) : Int)), .ref qi, .ref qs, .ref qk, .long (zL sv), .ref qb, .int (zI ((bn : Nat) : Int)), .ref qt, .ref qh, .ref qe]))] s.heap := hP
  have hinX10 : ∀ w ∈ u_ws RX10 TX10 13, w ∈ wsX10_tear := by decide +kernel
  have fl94 := hts (.fieldLink RX10 94 "DotObjectsModel" "entries" "I") (by decide +kernel)
  have hl := lv_entry ([.ref q0]) (n := 2) (Nat.le_of_ble_eq_true rfl)
  rw [lg_entry_eq]
  generalize (lg_sl ([.ref q0]) ++ List.replicate (2 - (lg_sl ([.ref q0])).length) Slot.unset).toArray = ls at hl ⊢
  have hl : lv_has ls 2 [(0, .ref q0)] := hl
  refine lv_aload_n hx hb dX10_tear_0 rfl (lv_at hl 0 rfl) ?_
  refine va_get (D := D) (ci := 10) (v := .int (zI ((bn : Nat) : Int))) (C := RX10) (T := TX10) (N := 13) hx hb hts hinX10 hown hK.1 hP 0 rfl rfl 9 (by decide) fl94 (fun _ h9 => h9) rfl dX10_tear_1 ?_
  refine lv_istore_n (lv' := [(1, .int (zI ((bn : Nat) : Int))), (0, .ref q0)]) hx hb dX10_tear_4 rfl hl (by decide) rfl (fun ls hl => ?_)
  refine lv_aload_n hx hb dX10_tear_5 rfl (lv_at hl 1 rfl) ?_
  refine z_iconst hx hb dX10_tear_6 ?_
  refine te (zc (show 0 = ((0 : Nat) : Int) from rfl)) ?_
  refine va_put (D := D) (ci := 10) (v := .int (zI ((0 : Nat) : Int))) (ty := .int) (C := RX10) (T := TX10) (N := 13) hx hb hts hinX10 tyX10 tyX10_ok nmX10 hown hK.1 hP hD hS 0 rfl rfl 9 (by decide) fl94 (fun _ h9 => h9) rfl (by decide +kernel) rfl rfl (Nat.le_of_ble_eq_true rfl) dX10_tear_7 (fun H locs hP hD hS => ?_)
  have hP : va_P D vwCl [(q0, .inr (10, [.ref qn, .ref qa, .ref qp, .int (zI ((de : Nat) : Int)), .ref qi, .ref qs, .ref qk, .long (zL sv), .ref qb, .int (zI ((0 : Nat) : Int)), .ref qt, .ref qh, .ref qe]))] H := hP
  have hD : va_D A [(q0, .inr (10, [.ref qn, .ref qa, .ref qp, .int (zI ((de : Nat) : Int)), .ref qi, .ref qs, .ref qk, .long (zL sv), .ref qb, .int (zI ((0 : Nat) : Int)), .ref qt, .ref qh, .ref qe]))] := hD
  refine lv_iload_n hx hb dX10_tear_10 rfl (lv_at hl 0 rfl) ?_
  exact W.iret hx hb hr (fun t ht hW => ⟨⟨_, (), rfl, ⟨rfl, trivial⟩, by show va_P D vwCl _ _; rw [ht]; exact hP⟩, hS.F ht⟩) hS.2.2 dX10_tear_11
set_option maxHeartbeats 4000000 in
set_option maxRecDepth 100000 in
theorem m_seed (l : Launch) (D : va_G) (k : Kt) (q0 : Nat) (qn : Nat) (qa : Nat) (qp : Nat) (qi : Nat) (qs : Nat) (qk : Nat) (qb : Nat) (qt : Nat) (qh : Nat) (qe : Nat) (de : Nat) (sv : Int) (bn : Nat) (x1 : Int) (hx1 : -2147483648 ≤ x1 ∧ x1 < 2147483648) : MI l D k yX10_seed wsX10_seed 0 0 [.ref q0, .int (zI x1)] [(q0, .inr (10, [.ref qn, .ref qa, .ref qp, .int (zI ((de : Nat) : Int)), .ref qi, .ref qs, .ref qk, .long (zL sv), .ref qb, .int (zI ((bn : Nat) : Int)), .ref qt, .ref qh, .ref qe]))] (fun (r : Int32) (u : Int) => r = zI (if 0 ≤ x1 then sv else -1000000002) ∧ u = if 0 ≤ x1 then x1 else sv) (fun u => [(q0, .inr (10, [.ref qn, .ref qa, .ref qp, .int (zI ((de : Nat) : Int)), .ref qi, .ref qs, .ref qk, .long (zL u), .ref qb, .int (zI ((bn : Nat) : Int)), .ref qt, .ref qh, .ref qe]))]) := by
  refine Met.ofW (cc := cX10_seed) (maxL := 3) (ret := (some .int)) (by decide) rfl ?_
  intro p e s m args below meth c s₁ Bd hml hv
  obtain ⟨rfl, hP, hK, hD0⟩ := hv
  have hx := Bd.exec
  have hb := Bd.bytes
  have hr := Bd.returns
  have hts := atoms_spec (ws := wsX10_seed) Bd.pre
  have hown : s.vm.findClass RX10 = some m.cls := findClass_of_methodNamed Bd.named
  have hlocks := Bd.notSynchronized
  have hSf : CallFix p m c cX10_seed 3 s ([.ref q0, .int (zI x1)] : List Value).toArray wsX10_seed RX10 := ⟨hx, hb, hml, hown, hts⟩
  have hD := fA_D hD0
  have hS : va_S (fA [(q0, .inr (10, [.ref qn, .ref qa, .ref qp, .int (zI ((de : Nat) : Int)), .ref qi, .ref qs, .ref qk, .long (zL sv), .ref qb, .int (zI ((bn : Nat) : Int)), .ref qt, .ref qh, .ref qe]))]) s.heap s.heap [] := va_S.rf
  generalize hAe : fA [(q0, .inr (10, [.ref qn, .ref qa, .ref qp, .int (zI ((de : Nat) : Int)), .ref qi, .ref qs, .ref qk, .long (zL sv), .ref qb, .int (zI ((bn : Nat) : Int)), .ref qt, .ref qh, .ref qe]))] = A at hD hS ⊢
  have hP : va_P D vwCl [(q0, .inr (10, [.ref qn, .ref qa, .ref qp, .int (zI ((de : Nat) : Int)), .ref qi, .ref qs, .ref qk, .long (zL sv), .ref qb, .int (zI ((bn : Nat) : Int)), .ref qt, .ref qh, .ref qe]))] s.heap := hP
  have hinX10 : ∀ w ∈ u_ws RX10 TX10 13, w ∈ wsX10_seed := by decide +kernel
  have fl146 := hts (.fieldLink RX10 146 "DotObjectsModel" "seed" "J") (by decide +kernel)
  have hl := lv_entry ([.ref q0, .int (zI x1)]) (n := 3) (Nat.le_of_ble_eq_true rfl)
  rw [lg_entry_eq]
  generalize (lg_sl ([.ref q0, .int (zI x1)]) ++ List.replicate (3 - (lg_sl ([.ref q0, .int (zI x1)])).length) Slot.unset).toArray = ls at hl ⊢
  have hl : lv_has ls 3 [(0, .ref q0), (1, .int (zI x1))] := hl
  refine lv_iload_n hx hb dX10_seed_0 rfl (lv_at hl 1 rfl) ?_
  refine z_if_ge (tgt := 7) hx hb dX10_seed_1 (by decide) (by omega) (fun c_1 => ?_) (fun c_1 => ?_)
  · refine lv_aload_n hx hb dX10_seed_7 rfl (lv_at hl 0 rfl) ?_
    refine va_get (D := D) (ci := 10) (v := .long (zL sv)) (C := RX10) (T := TX10) (N := 13) hx hb hts hinX10 hown hK.1 hP 0 rfl rfl 7 (by decide) fl146 (fun _ h9 => h9) rfl dX10_seed_8 ?_
    refine lv_l2i (v := zI sv) hx hb dX10_seed_11 (zL_i _) ?_
    refine lv_istore_n (lv' := [(2, .int (zI sv)), (0, .ref q0), (1, .int (zI x1))]) hx hb dX10_seed_12 rfl hl (by decide) rfl (fun ls hl => ?_)
    refine lv_aload_n hx hb dX10_seed_13 rfl (lv_at hl 1 rfl) ?_
    refine lv_iload_n hx hb dX10_seed_14 rfl (lv_at hl 2 rfl) ?_
    refine lv_i2l (v := zL x1) hx hb dX10_seed_15 (zI_l (by omega)) ?_
    refine va_put (D := D) (ci := 10) (v := .long (zL x1)) (ty := .long) (C := RX10) (T := TX10) (N := 13) hx hb hts hinX10 tyX10 tyX10_ok nmX10 hown hK.1 hP hD hS 0 rfl rfl 7 (by decide) fl146 (fun _ h9 => h9) rfl (by decide +kernel) rfl rfl (Nat.le_of_ble_eq_true rfl) dX10_seed_16 (fun H locs hP hD hS => ?_)
    have hP : va_P D vwCl [(q0, .inr (10, [.ref qn, .ref qa, .ref qp, .int (zI ((de : Nat) : Int)), .ref qi, .ref qs, .ref qk, .long (zL x1), .ref qb, .int (zI ((bn : Nat) : Int)), .ref qt, .ref qh, .ref qe]))] H := hP
    have hD : va_D A [(q0, .inr (10, [.ref qn, .ref qa, .ref qp, .int (zI ((de : Nat) : Int)), .ref qi, .ref qs, .ref qk, .long (zL x1), .ref qb, .int (zI ((bn : Nat) : Int)), .ref qt, .ref qh, .ref qe]))] := hD
    refine lv_iload_n hx hb dX10_seed_19 rfl (lv_at hl 0 rfl) ?_
    exact W.iret hx hb hr (fun t ht hW => ⟨⟨_, x1, rfl, ⟨zc (by rw [if_pos (by omega)]), by rw [if_pos (by omega)]⟩, by show va_P D vwCl _ _; rw [ht]; exact hP⟩, hS.F ht⟩) hS.2.2 dX10_seed_20
  · refine lv_ldc hx hb hown (hts (.constant RX10 112 (-1000000002)) (by decide +kernel)) dX10_seed_4 ?_
    refine te (show (-1000000002 : Int32) = zI (-1000000002) from by decide +kernel) ?_
    exact W.iret hx hb hr (fun t ht hW => ⟨⟨_, sv, rfl, ⟨zc (by rw [if_neg (by omega)]), by rw [if_neg (by omega)]⟩, by show va_P D vwCl _ _; rw [ht]; exact hP⟩, hS.F ht⟩) hS.2.2 dX10_seed_6
set_option maxHeartbeats 4000000 in
set_option maxRecDepth 100000 in
theorem m_keep (l : Launch) (D : va_G) (k : Kt) (q0 : Nat) (qn : Nat) (qa : Nat) (qp : Nat) (qi : Nat) (qs : Nat) (qk : Nat) (qb : Nat) (qt : Nat) (qh : Nat) (qe : Nat) (de : Nat) (sv : Int) (bn : Nat) (f : St) (mi : Nat → Int) (ms : Nat → Int) (mk : Nat → Int) (x1 : Int) (hx1 : -2147483648 ≤ x1 ∧ x1 < 2147483648) : MI l D k yX10_keep wsX10_keep 1 22 [.ref q0, .int (zI x1)] [(q0, .inr (10, [.ref qn, .ref qa, .ref qp, .int (zI ((de : Nat) : Int)), .ref qi, .ref qs, .ref qk, .long (zL sv), .ref qb, .int (zI ((bn : Nat) : Int)), .ref qt, .ref qh, .ref qe])), (qn, .inl (k.1, 132, .inl (zF f))), (qi, .inl (k.1, 264, .inl (zF mi))), (qs, .inl (k.2.2.1, 2, .inr (.inl (zG ms)))), (qk, .inl (k.2.1, 2, .inl (zF mk)))] (fun (r : Int32) (u : (Nat → Int) × (Nat → Int) × (Nat → Int) × Nat) => r = zI (if 0 ≤ x1 ∧ x1 ≤ 1 then 1 else -1000000001) ∧ u = if 0 ≤ x1 ∧ x1 ≤ 1 then (cpZ f mi 0 (132 * x1.toNat) 132, upZ ms x1.toNat sv, upZ mk x1.toNat 1, 0) else (mi, ms, mk, de)) (fun u => [(q0, .inr (10, [.ref qn, .ref qa, .ref qp, .int (zI ((u.2.2.2 : Nat) : Int)), .ref qi, .ref qs, .ref qk, .long (zL sv), .ref qb, .int (zI ((bn : Nat) : Int)), .ref qt, .ref qh, .ref qe])), (qn, .inl (k.1, 132, .inl (zF f))), (qi, .inl (k.1, 264, .inl (zF u.1))), (qs, .inl (k.2.2.1, 2, .inr (.inl (zG u.2.1)))), (qk, .inl (k.2.1, 2, .inl (zF u.2.2.1)))]) := by
  refine Met.ofW (cc := cX10_keep) (maxL := 3) (ret := (some .int)) (by decide) rfl ?_
  intro p e s m args below meth c s₁ Bd hml hv
  obtain ⟨rfl, hP, hK, hD0⟩ := hv
  have hx := Bd.exec
  have hb := Bd.bytes
  have hr := Bd.returns
  have hts := atoms_spec (ws := wsX10_keep) Bd.pre
  have hown : s.vm.findClass RX10 = some m.cls := findClass_of_methodNamed Bd.named
  have hlocks := Bd.notSynchronized
  have hSf : CallFix p m c cX10_keep 3 s ([.ref q0, .int (zI x1)] : List Value).toArray wsX10_keep RX10 := ⟨hx, hb, hml, hown, hts⟩
  have hD := fA_D hD0
  have hS : va_S (fA [(q0, .inr (10, [.ref qn, .ref qa, .ref qp, .int (zI ((de : Nat) : Int)), .ref qi, .ref qs, .ref qk, .long (zL sv), .ref qb, .int (zI ((bn : Nat) : Int)), .ref qt, .ref qh, .ref qe])), (qn, .inl (k.1, 132, .inl (zF f))), (qi, .inl (k.1, 264, .inl (zF mi))), (qs, .inl (k.2.2.1, 2, .inr (.inl (zG ms)))), (qk, .inl (k.2.1, 2, .inl (zF mk)))]) s.heap s.heap [] := va_S.rf
  generalize hAe : fA [(q0, .inr (10, [.ref qn, .ref qa, .ref qp, .int (zI ((de : Nat) : Int)), .ref qi, .ref qs, .ref qk, .long (zL sv), .ref qb, .int (zI ((bn : Nat) : Int)), .ref qt, .ref qh, .ref qe])), (qn, .inl (k.1, 132, .inl (zF f))), (qi, .inl (k.1, 264, .inl (zF mi))), (qs, .inl (k.2.2.1, 2, .inr (.inl (zG ms)))), (qk, .inl (k.2.1, 2, .inl (zF mk)))] = A at hD hS ⊢
  have hP : va_P D vwCl [(q0, .inr (10, [.ref qn, .ref qa, .ref qp, .int (zI ((de : Nat) : Int)), .ref qi, .ref qs, .ref qk, .long (zL sv), .ref qb, .int (zI ((bn : Nat) : Int)), .ref qt, .ref qh, .ref qe])), (qn, .inl (k.1, 132, .inl (zF f))), (qi, .inl (k.1, 264, .inl (zF mi))), (qs, .inl (k.2.2.1, 2, .inr (.inl (zG ms)))), (qk, .inl (k.2.1, 2, .inl (zF mk)))] s.heap := hP
  have hinX10 : ∀ w ∈ u_ws RX10 TX10 13, w ∈ wsX10_keep := by decide +kernel
  have fl22 := hts (.fieldLink RX10 22 "DotObjectsModel" "seeds" "[J") (by decide +kernel)
  have fl146 := hts (.fieldLink RX10 146 "DotObjectsModel" "seed" "J") (by decide +kernel)
  have fl26 := hts (.fieldLink RX10 26 "DotObjectsModel" "kept" "[Z") (by decide +kernel)
  have fl46 := hts (.fieldLink RX10 46 "DotObjectsModel" "deeds" "I") (by decide +kernel)
  have fl19 := hts (.fieldLink RX10 19 "DotObjectsModel" "images" "[I") (by decide +kernel)
  have fl7 := hts (.fieldLink RX10 7 "DotObjectsModel" "now" "[I") (by decide +kernel)
  have hl := lv_entry ([.ref q0, .int (zI x1)]) (n := 3) (Nat.le_of_ble_eq_true rfl)
  rw [lg_entry_eq]
  generalize (lg_sl ([.ref q0, .int (zI x1)]) ++ List.replicate (3 - (lg_sl ([.ref q0, .int (zI x1)])).length) Slot.unset).toArray = ls at hl ⊢
  have hl : lv_has ls 3 [(0, .ref q0), (1, .int (zI x1))] := hl
  refine lv_iload_n hx hb dX10_keep_0 rfl (lv_at hl 1 rfl) ?_
  refine z_iconst hx hb dX10_keep_1 ?_
  refine z_iconst hx hb dX10_keep_2 ?_
  refine roS (n := 3) (As := [.int (zI x1), .int (zI 0), .int (zI 1)]) (rest := []) hSf (m_in l D k x1 0 1 (by omega) (by omega) (by omega)) gX10_keep_X10_in rfl (by decide +kernel) ⟨Nat.le_of_ble_eq_true rfl, Nat.le_of_ble_eq_true rfl⟩ hK hP [] rfl rfl hl.1 rfl (Nat.le_of_ble_eq_true rfl) dX10_keep_3 ⟨Nat.zero_le _, Nat.zero_le _⟩ (fun r_3 h_3 => ?_)
  subst h_3
  refine z_if_neb (tgt := 12) hx hb dX10_keep_6 (by decide) (fun c_6 => ?_) (fun c_6 => ?_)
  · simp only [Bool.and_eq_true, decide_eq_true_eq] at c_6
    refine z_iconst hx hb dX10_keep_12 ?_
    refine lv_istore_n (lv' := [(2, .int (zI 0)), (0, .ref q0), (1, .int (zI x1))]) hx hb dX10_keep_13 rfl hl (by decide) rfl (fun ls hl => ?_)
    have L14 : ∀ (NN14 : Nat), ∀ (jj : Nat), (jj ≤ 132) → 132 - jj < NN14 → ∀ (H : Heap) (locs : List Loc), va_P D vwCl [(q0, .inr (10, [.ref qn, .ref qa, .ref qp, .int (zI ((de : Nat) : Int)), .ref qi, .ref qs, .ref qk, .long (zL sv), .ref qb, .int (zI ((bn : Nat) : Int)), .ref qt, .ref qh, .ref qe])), (qn, .inl (k.1, 132, .inl (zF f))), (qi, .inl (k.1, 264, .inl (zF (cpZ f mi 0 (132 * x1.toNat) jj)))), (qs, .inl (k.2.2.1, 2, .inr (.inl (zG ms)))), (qk, .inl (k.2.1, 2, .inl (zF mk)))] H → va_D A [(q0, .inr (10, [.ref qn, .ref qa, .ref qp, .int (zI ((de : Nat) : Int)), .ref qi, .ref qs, .ref qk, .long (zL sv), .ref qb, .int (zI ((bn : Nat) : Int)), .ref qt, .ref qh, .ref qe])), (qn, .inl (k.1, 132, .inl (zF f))), (qi, .inl (k.1, 264, .inl (zF (cpZ f mi 0 (132 * x1.toNat) jj)))), (qs, .inl (k.2.2.1, 2, .inr (.inl (zG ms)))), (qk, .inl (k.2.1, 2, .inl (zF mk)))] → va_S A s.heap H locs → ∀ (ls : Array Slot), lv_has ls 3 [(0, .ref q0), (1, .int (zI x1)), (2, .int (zI ((jj : Nat) : Int)))] → W p l e (headSpec wsX10_keep { frames := 1, cells := 0, slots := 0, locals := 22 }).room s m ([.ref q0, .int (zI x1)] : List Value).toArray below meth c H locs 0 0 (MQ below (va_Qi (fun (r : Int32) (u : (Nat → Int) × (Nat → Int) × (Nat → Int) × Nat) => r = zI (if 0 ≤ x1 ∧ x1 ≤ 1 then 1 else -1000000001) ∧ u = if 0 ≤ x1 ∧ x1 ≤ 1 then (cpZ f mi 0 (132 * x1.toNat) 132, upZ ms x1.toNat sv, upZ mk x1.toNat 1, 0) else (mi, ms, mk, de)) (fun (u : (Nat → Int) × (Nat → Int) × (Nat → Int) × Nat) t => va_P D vwCl [(q0, .inr (10, [.ref qn, .ref qa, .ref qp, .int (zI ((u.2.2.2 : Nat) : Int)), .ref qi, .ref qs, .ref qk, .long (zL sv), .ref qb, .int (zI ((bn : Nat) : Int)), .ref qt, .ref qh, .ref qe])), (qn, .inl (k.1, 132, .inl (zF f))), (qi, .inl (k.1, 264, .inl (zF u.1))), (qs, .inl (k.2.2.1, 2, .inr (.inl (zG u.2.1)))), (qk, .inl (k.2.1, 2, .inl (zF u.2.2.1)))] t.heap) A) ([.ref q0, .int (zI x1)] : List Value).toArray s 0 0 A) (F0 m 14 ls []) := by
      intro NN14
      induction NN14 with
      | zero => intro jj _ hN; exact absurd hN (Nat.not_lt_zero _)
      | succ NN14 ih14 =>
        intro jj hjj hN H locs hP hD hS ls hl
        refine lv_iload_n hx hb dX10_keep_14 rfl (lv_at hl 2 rfl) ?_
        refine z_sipush hx hb dX10_keep_15 (by decide +kernel) ?_
        refine z_icmp_ge (tgt := 45) hx hb dX10_keep_18 (by decide) (by omega) (by omega) (fun c_18 => ?_) (fun c_18 => ?_)
        · have hj : jj = 132 := by omega
          refine lv_aload_n hx hb dX10_keep_45 rfl (lv_at hl 0 rfl) ?_
          refine va_get (D := D) (ci := 10) (v := .ref qs) (C := RX10) (T := TX10) (N := 13) hx hb hts hinX10 hown hK.1 hP 0 rfl rfl 5 (by decide) fl22 (fun _ h9 => h9) rfl dX10_keep_46 ?_
          refine lv_iload_n hx hb dX10_keep_49 rfl (lv_at hl 1 rfl) ?_
          refine lv_aload_n hx hb dX10_keep_50 rfl (lv_at hl 0 rfl) ?_
          refine va_get (D := D) (ci := 10) (v := .long (zL sv)) (C := RX10) (T := TX10) (N := 13) hx hb hts hinX10 hown hK.1 hP 0 rfl rfl 7 (by decide) fl146 (fun _ h9 => h9) rfl dX10_keep_51 ?_
          refine z_last hx hb hK hP hD hS 3 rfl (x1.toNat) (by omega) (by omega) (Nat.le_of_ble_eq_true rfl) dX10_keep_54 (fun H locs hP hD hS => ?_)
          have hP : va_P D vwCl [(q0, .inr (10, [.ref qn, .ref qa, .ref qp, .int (zI ((de : Nat) : Int)), .ref qi, .ref qs, .ref qk, .long (zL sv), .ref qb, .int (zI ((bn : Nat) : Int)), .ref qt, .ref qh, .ref qe])), (qn, .inl (k.1, 132, .inl (zF f))), (qi, .inl (k.1, 264, .inl (zF (cpZ f mi 0 (132 * x1.toNat) jj)))), (qs, .inl (k.2.2.1, 2, .inr (.inl (zG (upZ ms x1.toNat sv))))), (qk, .inl (k.2.1, 2, .inl (zF mk)))] H := hP
          have hD : va_D A [(q0, .inr (10, [.ref qn, .ref qa, .ref qp, .int (zI ((de : Nat) : Int)), .ref qi, .ref qs, .ref qk, .long (zL sv), .ref qb, .int (zI ((bn : Nat) : Int)), .ref qt, .ref qh, .ref qe])), (qn, .inl (k.1, 132, .inl (zF f))), (qi, .inl (k.1, 264, .inl (zF (cpZ f mi 0 (132 * x1.toNat) jj)))), (qs, .inl (k.2.2.1, 2, .inr (.inl (zG (upZ ms x1.toNat sv))))), (qk, .inl (k.2.1, 2, .inl (zF mk)))] := hD
          refine lv_aload_n hx hb dX10_keep_55 rfl (lv_at hl 0 rfl) ?_
          refine va_get (D := D) (ci := 10) (v := .ref qk) (C := RX10) (T := TX10) (N := 13) hx hb hts hinX10 hown hK.1 hP 0 rfl rfl 6 (by decide) fl26 (fun _ h9 => h9) rfl dX10_keep_56 ?_
          refine lv_iload_n hx hb dX10_keep_59 rfl (lv_at hl 1 rfl) ?_
          refine z_iconst hx hb dX10_keep_60 ?_
          refine z_zast hx hb hK hP hD hS 4 rfl (x1.toNat) (by omega) (by omega) (Nat.le_of_ble_eq_true rfl) dX10_keep_61 (fun H locs hP hD hS => ?_)
          have hP : va_P D vwCl [(q0, .inr (10, [.ref qn, .ref qa, .ref qp, .int (zI ((de : Nat) : Int)), .ref qi, .ref qs, .ref qk, .long (zL sv), .ref qb, .int (zI ((bn : Nat) : Int)), .ref qt, .ref qh, .ref qe])), (qn, .inl (k.1, 132, .inl (zF f))), (qi, .inl (k.1, 264, .inl (zF (cpZ f mi 0 (132 * x1.toNat) jj)))), (qs, .inl (k.2.2.1, 2, .inr (.inl (zG (upZ ms x1.toNat sv))))), (qk, .inl (k.2.1, 2, .inl (zF (upZ mk x1.toNat 1))))] H := hP
          have hD : va_D A [(q0, .inr (10, [.ref qn, .ref qa, .ref qp, .int (zI ((de : Nat) : Int)), .ref qi, .ref qs, .ref qk, .long (zL sv), .ref qb, .int (zI ((bn : Nat) : Int)), .ref qt, .ref qh, .ref qe])), (qn, .inl (k.1, 132, .inl (zF f))), (qi, .inl (k.1, 264, .inl (zF (cpZ f mi 0 (132 * x1.toNat) jj)))), (qs, .inl (k.2.2.1, 2, .inr (.inl (zG (upZ ms x1.toNat sv))))), (qk, .inl (k.2.1, 2, .inl (zF (upZ mk x1.toNat 1))))] := hD
          refine lv_aload_n hx hb dX10_keep_62 rfl (lv_at hl 0 rfl) ?_
          refine z_iconst hx hb dX10_keep_63 ?_
          refine te (zc (show 0 = ((0 : Nat) : Int) from rfl)) ?_
          refine va_put (D := D) (ci := 10) (v := .int (zI ((0 : Nat) : Int))) (ty := .int) (C := RX10) (T := TX10) (N := 13) hx hb hts hinX10 tyX10 tyX10_ok nmX10 hown hK.1 hP hD hS 0 rfl rfl 3 (by decide) fl46 (fun _ h9 => h9) rfl (by decide +kernel) rfl rfl (Nat.le_of_ble_eq_true rfl) dX10_keep_64 (fun H locs hP hD hS => ?_)
          have hP : va_P D vwCl [(q0, .inr (10, [.ref qn, .ref qa, .ref qp, .int (zI ((0 : Nat) : Int)), .ref qi, .ref qs, .ref qk, .long (zL sv), .ref qb, .int (zI ((bn : Nat) : Int)), .ref qt, .ref qh, .ref qe])), (qn, .inl (k.1, 132, .inl (zF f))), (qi, .inl (k.1, 264, .inl (zF (cpZ f mi 0 (132 * x1.toNat) jj)))), (qs, .inl (k.2.2.1, 2, .inr (.inl (zG (upZ ms x1.toNat sv))))), (qk, .inl (k.2.1, 2, .inl (zF (upZ mk x1.toNat 1))))] H := hP
          have hD : va_D A [(q0, .inr (10, [.ref qn, .ref qa, .ref qp, .int (zI ((0 : Nat) : Int)), .ref qi, .ref qs, .ref qk, .long (zL sv), .ref qb, .int (zI ((bn : Nat) : Int)), .ref qt, .ref qh, .ref qe])), (qn, .inl (k.1, 132, .inl (zF f))), (qi, .inl (k.1, 264, .inl (zF (cpZ f mi 0 (132 * x1.toNat) jj)))), (qs, .inl (k.2.2.1, 2, .inr (.inl (zG (upZ ms x1.toNat sv))))), (qk, .inl (k.2.1, 2, .inl (zF (upZ mk x1.toNat 1))))] := hD
          refine z_iconst hx hb dX10_keep_67 ?_
          rw [hj] at hP
          exact W.iret hx hb hr (fun t ht hW => ⟨⟨_, (cpZ f mi 0 (132 * x1.toNat) 132, upZ ms x1.toNat sv, upZ mk x1.toNat 1, 0), rfl, ⟨zc (by rw [if_pos (by omega)]), by rw [if_pos (by omega)]⟩, by show va_P D vwCl _ _; rw [ht]; exact hP⟩, hS.F ht⟩) hS.2.2 dX10_keep_68
        · refine lv_aload_n hx hb dX10_keep_21 rfl (lv_at hl 0 rfl) ?_
          refine va_get (D := D) (ci := 10) (v := .ref qi) (C := RX10) (T := TX10) (N := 13) hx hb hts hinX10 hown hK.1 hP 0 rfl rfl 4 (by decide) fl19 (fun _ h9 => h9) rfl dX10_keep_22 ?_
          refine z_sipush hx hb dX10_keep_25 (by decide +kernel) ?_
          refine lv_iload_n hx hb dX10_keep_28 rfl (lv_at hl 1 rfl) ?_
          refine z_imul hx hb dX10_keep_29 ?_
          refine lv_iload_n hx hb dX10_keep_30 rfl (lv_at hl 2 rfl) ?_
          refine z_iadd hx hb dX10_keep_31 ?_
          refine lv_aload_n hx hb dX10_keep_32 rfl (lv_at hl 0 rfl) ?_
          refine va_get (D := D) (ci := 10) (v := .ref qn) (C := RX10) (T := TX10) (N := 13) hx hb hts hinX10 hown hK.1 hP 0 rfl rfl 0 (by decide) fl7 (fun _ h9 => h9) rfl dX10_keep_33 ?_
          refine lv_iload_n hx hb dX10_keep_36 rfl (lv_at hl 2 rfl) ?_
          refine z_ald hx hb hK hP 1 rfl (jj) (by omega) (by omega) (Nat.le_of_ble_eq_true rfl) dX10_keep_37 ?_
          refine z_ast hx hb hK hP hD hS 2 rfl (132 * x1.toNat + jj) (by omega) (by omega) (Nat.le_of_ble_eq_true rfl) dX10_keep_38 (fun H locs hP hD hS => ?_)
          have hP : va_P D vwCl [(q0, .inr (10, [.ref qn, .ref qa, .ref qp, .int (zI ((de : Nat) : Int)), .ref qi, .ref qs, .ref qk, .long (zL sv), .ref qb, .int (zI ((bn : Nat) : Int)), .ref qt, .ref qh, .ref qe])), (qn, .inl (k.1, 132, .inl (zF f))), (qi, .inl (k.1, 264, .inl (zF (upZ (cpZ f mi 0 (132 * x1.toNat) jj) (132 * x1.toNat + jj) (f jj))))), (qs, .inl (k.2.2.1, 2, .inr (.inl (zG ms)))), (qk, .inl (k.2.1, 2, .inl (zF mk)))] H := hP
          have hD : va_D A [(q0, .inr (10, [.ref qn, .ref qa, .ref qp, .int (zI ((de : Nat) : Int)), .ref qi, .ref qs, .ref qk, .long (zL sv), .ref qb, .int (zI ((bn : Nat) : Int)), .ref qt, .ref qh, .ref qe])), (qn, .inl (k.1, 132, .inl (zF f))), (qi, .inl (k.1, 264, .inl (zF (upZ (cpZ f mi 0 (132 * x1.toNat) jj) (132 * x1.toNat + jj) (f jj))))), (qs, .inl (k.2.2.1, 2, .inr (.inl (zG ms)))), (qk, .inl (k.2.1, 2, .inl (zF mk)))] := hD
          rw [show upZ (cpZ f mi 0 (132 * x1.toNat) jj) (132 * x1.toNat + jj) (f jj) = cpZ f mi 0 (132 * x1.toNat) (jj + 1) from cpZ_s rfl (by rw [Nat.zero_add])] at hP hD
          refine lv_iinc (v := zI (((jj : Nat) : Int) + 1)) (lv' := [(2, .int (zI (((jj : Nat) : Int) + 1))), (0, .ref q0), (1, .int (zI x1))]) hx hb dX10_keep_39 hl (k := 2) rfl (zI_add _ _) (by decide) rfl (fun ls hl => ?_)
          refine lv_goto (tgt := 14) hx hb dX10_keep_42 (by decide) ?_
          have hl : lv_has ls 3 [(2, .int (zI (((jj + 1) : Nat) : Int))), (0, .ref q0), (1, .int (zI x1))] := lv_c (l1 := []) (l2 := [(0, .ref q0), (1, .int (zI x1))]) hl (show ((jj : Nat) : Int) + 1 = (((jj + 1) : Nat) : Int) from by omega)
          exact ih14 (jj + 1) (by omega) (by omega) _ _ hP hD hS ls (lv_sub hl [1, 2, 0] rfl)
    have hl : lv_has ls 3 [(2, .int (zI ((0 : Nat) : Int))), (0, .ref q0), (1, .int (zI x1))] := lv_c (l1 := []) (l2 := [(0, .ref q0), (1, .int (zI x1))]) hl (show 0 = ((0 : Nat) : Int) from rfl)
    exact L14 _ 0 (by decide) (Nat.lt_succ_self _) _ _ (by rw [cpZ_0]; exact hP) (by rw [cpZ_0]; exact hD) hS ls (lv_sub hl [1, 2, 0] rfl)
  · simp only [Bool.and_eq_false_iff, decide_eq_false_iff_not] at c_6
    refine lv_ldc hx hb hown (hts (.constant RX10 117 (-1000000001)) (by decide +kernel)) dX10_keep_9 ?_
    refine te (show (-1000000001 : Int32) = zI (-1000000001) from by decide +kernel) ?_
    exact W.iret hx hb hr (fun t ht hW => ⟨⟨_, (mi, ms, mk, de), rfl, ⟨zc (by rw [if_neg (by omega)]), by rw [if_neg (by omega)]⟩, by show va_P D vwCl _ _; rw [ht]; exact hP⟩, hS.F ht⟩) hS.2.2 dX10_keep_11
set_option maxHeartbeats 4000000 in
set_option maxRecDepth 100000 in
theorem m_goBack (l : Launch) (D : va_G) (k : Kt) (q0 : Nat) (qn : Nat) (qa : Nat) (qp : Nat) (qi : Nat) (qs : Nat) (qk : Nat) (qb : Nat) (qt : Nat) (qh : Nat) (qe : Nat) (de : Nat) (sv : Int) (bn : Nat) (f : St) (mi : Nat → Int) (ms : Nat → Int) (mk : Nat → Int) (x1 : Int) (hx1 : -2147483648 ≤ x1 ∧ x1 < 2147483648) (hmk : ∀ i, i < 2 → 0 ≤ mk i ∧ mk i ≤ 1) : MI l D k yX10_goBack wsX10_goBack 1 22 [.ref q0, .int (zI x1)] [(q0, .inr (10, [.ref qn, .ref qa, .ref qp, .int (zI ((de : Nat) : Int)), .ref qi, .ref qs, .ref qk, .long (zL sv), .ref qb, .int (zI ((bn : Nat) : Int)), .ref qt, .ref qh, .ref qe])), (qn, .inl (k.1, 132, .inl (zF f))), (qi, .inl (k.1, 264, .inl (zF mi))), (qs, .inl (k.2.2.1, 2, .inr (.inl (zG ms)))), (qk, .inl (k.2.1, 2, .inl (zF mk)))] (fun (r : Int32) (u : St × Int × Nat) => r = zI (if 0 ≤ x1 ∧ x1 ≤ 1 then (if mk x1.toNat ≠ 0 then 1 else -1000000003) else -1000000001) ∧ u = if (0 ≤ x1 ∧ x1 ≤ 1) ∧ mk x1.toNat ≠ 0 then (cpZ mi f (132 * x1.toNat) 0 132, ms x1.toNat, 0) else (f, sv, de)) (fun u => [(q0, .inr (10, [.ref qn, .ref qa, .ref qp, .int (zI ((u.2.2 : Nat) : Int)), .ref qi, .ref qs, .ref qk, .long (zL u.2.1), .ref qb, .int (zI ((bn : Nat) : Int)), .ref qt, .ref qh, .ref qe])), (qn, .inl (k.1, 132, .inl (zF u.1))), (qi, .inl (k.1, 264, .inl (zF mi))), (qs, .inl (k.2.2.1, 2, .inr (.inl (zG ms)))), (qk, .inl (k.2.1, 2, .inl (zF mk)))]) := by
  refine Met.ofW (cc := cX10_goBack) (maxL := 3) (ret := (some .int)) (by decide) rfl ?_
  intro p e s m args below meth c s₁ Bd hml hv
  obtain ⟨rfl, hP, hK, hD0⟩ := hv
  have hx := Bd.exec
  have hb := Bd.bytes
  have hr := Bd.returns
  have hts := atoms_spec (ws := wsX10_goBack) Bd.pre
  have hown : s.vm.findClass RX10 = some m.cls := findClass_of_methodNamed Bd.named
  have hlocks := Bd.notSynchronized
  have hSf : CallFix p m c cX10_goBack 3 s ([.ref q0, .int (zI x1)] : List Value).toArray wsX10_goBack RX10 := ⟨hx, hb, hml, hown, hts⟩
  have hD := fA_D hD0
  have hS : va_S (fA [(q0, .inr (10, [.ref qn, .ref qa, .ref qp, .int (zI ((de : Nat) : Int)), .ref qi, .ref qs, .ref qk, .long (zL sv), .ref qb, .int (zI ((bn : Nat) : Int)), .ref qt, .ref qh, .ref qe])), (qn, .inl (k.1, 132, .inl (zF f))), (qi, .inl (k.1, 264, .inl (zF mi))), (qs, .inl (k.2.2.1, 2, .inr (.inl (zG ms)))), (qk, .inl (k.2.1, 2, .inl (zF mk)))]) s.heap s.heap [] := va_S.rf
  generalize hAe : fA [(q0, .inr (10, [.ref qn, .ref qa, .ref qp, .int (zI ((de : Nat) : Int)), .ref qi, .ref qs, .ref qk, .long (zL sv), .ref qb, .int (zI ((bn : Nat) : Int)), .ref qt, .ref qh, .ref qe])), (qn, .inl (k.1, 132, .inl (zF f))), (qi, .inl (k.1, 264, .inl (zF mi))), (qs, .inl (k.2.2.1, 2, .inr (.inl (zG ms)))), (qk, .inl (k.2.1, 2, .inl (zF mk)))] = A at hD hS ⊢
  have hP : va_P D vwCl [(q0, .inr (10, [.ref qn, .ref qa, .ref qp, .int (zI ((de : Nat) : Int)), .ref qi, .ref qs, .ref qk, .long (zL sv), .ref qb, .int (zI ((bn : Nat) : Int)), .ref qt, .ref qh, .ref qe])), (qn, .inl (k.1, 132, .inl (zF f))), (qi, .inl (k.1, 264, .inl (zF mi))), (qs, .inl (k.2.2.1, 2, .inr (.inl (zG ms)))), (qk, .inl (k.2.1, 2, .inl (zF mk)))] s.heap := hP
  have hinX10 : ∀ w ∈ u_ws RX10 TX10 13, w ∈ wsX10_goBack := by decide +kernel
  have fl26 := hts (.fieldLink RX10 26 "DotObjectsModel" "kept" "[Z") (by decide +kernel)
  have fl22 := hts (.fieldLink RX10 22 "DotObjectsModel" "seeds" "[J") (by decide +kernel)
  have fl146 := hts (.fieldLink RX10 146 "DotObjectsModel" "seed" "J") (by decide +kernel)
  have fl46 := hts (.fieldLink RX10 46 "DotObjectsModel" "deeds" "I") (by decide +kernel)
  have fl7 := hts (.fieldLink RX10 7 "DotObjectsModel" "now" "[I") (by decide +kernel)
  have fl19 := hts (.fieldLink RX10 19 "DotObjectsModel" "images" "[I") (by decide +kernel)
  have hl := lv_entry ([.ref q0, .int (zI x1)]) (n := 3) (Nat.le_of_ble_eq_true rfl)
  rw [lg_entry_eq]
  generalize (lg_sl ([.ref q0, .int (zI x1)]) ++ List.replicate (3 - (lg_sl ([.ref q0, .int (zI x1)])).length) Slot.unset).toArray = ls at hl ⊢
  have hl : lv_has ls 3 [(0, .ref q0), (1, .int (zI x1))] := hl
  refine lv_iload_n hx hb dX10_goBack_0 rfl (lv_at hl 1 rfl) ?_
  refine z_iconst hx hb dX10_goBack_1 ?_
  refine z_iconst hx hb dX10_goBack_2 ?_
  refine roS (n := 3) (As := [.int (zI x1), .int (zI 0), .int (zI 1)]) (rest := []) hSf (m_in l D k x1 0 1 (by omega) (by omega) (by omega)) gX10_goBack_X10_in rfl (by decide +kernel) ⟨Nat.le_of_ble_eq_true rfl, Nat.le_of_ble_eq_true rfl⟩ hK hP [] rfl rfl hl.1 rfl (Nat.le_of_ble_eq_true rfl) dX10_goBack_3 ⟨Nat.zero_le _, Nat.zero_le _⟩ (fun r_3 h_3 => ?_)
  subst h_3
  refine z_if_neb (tgt := 12) hx hb dX10_goBack_6 (by decide) (fun c_6 => ?_) (fun c_6 => ?_)
  · simp only [Bool.and_eq_true, decide_eq_true_eq] at c_6
    have hmk1 := hmk x1.toNat (by omega)
    refine lv_aload_n hx hb dX10_goBack_12 rfl (lv_at hl 0 rfl) ?_
    refine va_get (D := D) (ci := 10) (v := .ref qk) (C := RX10) (T := TX10) (N := 13) hx hb hts hinX10 hown hK.1 hP 0 rfl rfl 6 (by decide) fl26 (fun _ h9 => h9) rfl dX10_goBack_13 ?_
    refine lv_iload_n hx hb dX10_goBack_16 rfl (lv_at hl 1 rfl) ?_
    refine z_zald hx hb hK hP 4 rfl (x1.toNat) (by omega) (by omega) (Nat.le_of_ble_eq_true rfl) dX10_goBack_17 ?_
    refine z_if_ne (tgt := 24) hx hb dX10_goBack_18 (by decide) (by omega) (fun c_18 => ?_) (fun c_18 => ?_)
    · refine z_iconst hx hb dX10_goBack_24 ?_
      refine lv_istore_n (lv' := [(2, .int (zI 0)), (0, .ref q0), (1, .int (zI x1))]) hx hb dX10_goBack_25 rfl hl (by decide) rfl (fun ls hl => ?_)
      have L26 : ∀ (NN26 : Nat), ∀ (jj : Nat), (jj ≤ 132) → 132 - jj < NN26 → ∀ (H : Heap) (locs : List Loc), va_P D vwCl [(q0, .inr (10, [.ref qn, .ref qa, .ref qp, .int (zI ((de : Nat) : Int)), .ref qi, .ref qs, .ref qk, .long (zL sv), .ref qb, .int (zI ((bn : Nat) : Int)), .ref qt, .ref qh, .ref qe])), (qn, .inl (k.1, 132, .inl (zF (cpZ mi f (132 * x1.toNat) 0 jj)))), (qi, .inl (k.1, 264, .inl (zF mi))), (qs, .inl (k.2.2.1, 2, .inr (.inl (zG ms)))), (qk, .inl (k.2.1, 2, .inl (zF mk)))] H → va_D A [(q0, .inr (10, [.ref qn, .ref qa, .ref qp, .int (zI ((de : Nat) : Int)), .ref qi, .ref qs, .ref qk, .long (zL sv), .ref qb, .int (zI ((bn : Nat) : Int)), .ref qt, .ref qh, .ref qe])), (qn, .inl (k.1, 132, .inl (zF (cpZ mi f (132 * x1.toNat) 0 jj)))), (qi, .inl (k.1, 264, .inl (zF mi))), (qs, .inl (k.2.2.1, 2, .inr (.inl (zG ms)))), (qk, .inl (k.2.1, 2, .inl (zF mk)))] → va_S A s.heap H locs → ∀ (ls : Array Slot), lv_has ls 3 [(0, .ref q0), (1, .int (zI x1)), (2, .int (zI ((jj : Nat) : Int)))] → W p l e (headSpec wsX10_goBack { frames := 1, cells := 0, slots := 0, locals := 22 }).room s m ([.ref q0, .int (zI x1)] : List Value).toArray below meth c H locs 0 0 (MQ below (va_Qi (fun (r : Int32) (u : St × Int × Nat) => r = zI (if 0 ≤ x1 ∧ x1 ≤ 1 then (if mk x1.toNat ≠ 0 then 1 else -1000000003) else -1000000001) ∧ u = if (0 ≤ x1 ∧ x1 ≤ 1) ∧ mk x1.toNat ≠ 0 then (cpZ mi f (132 * x1.toNat) 0 132, ms x1.toNat, 0) else (f, sv, de)) (fun (u : St × Int × Nat) t => va_P D vwCl [(q0, .inr (10, [.ref qn, .ref qa, .ref qp, .int (zI ((u.2.2 : Nat) : Int)), .ref qi, .ref qs, .ref qk, .long (zL u.2.1), .ref qb, .int (zI ((bn : Nat) : Int)), .ref qt, .ref qh, .ref qe])), (qn, .inl (k.1, 132, .inl (zF u.1))), (qi, .inl (k.1, 264, .inl (zF mi))), (qs, .inl (k.2.2.1, 2, .inr (.inl (zG ms)))), (qk, .inl (k.2.1, 2, .inl (zF mk)))] t.heap) A) ([.ref q0, .int (zI x1)] : List Value).toArray s 0 0 A) (F0 m 26 ls []) := by
        intro NN26
        induction NN26 with
        | zero => intro jj _ hN; exact absurd hN (Nat.not_lt_zero _)
        | succ NN26 ih26 =>
          intro jj hjj hN H locs hP hD hS ls hl
          refine lv_iload_n hx hb dX10_goBack_26 rfl (lv_at hl 2 rfl) ?_
          refine z_sipush hx hb dX10_goBack_27 (by decide +kernel) ?_
          refine z_icmp_ge (tgt := 57) hx hb dX10_goBack_30 (by decide) (by omega) (by omega) (fun c_30 => ?_) (fun c_30 => ?_)
          · have hj : jj = 132 := by omega
            refine lv_aload_n hx hb dX10_goBack_57 rfl (lv_at hl 0 rfl) ?_
            refine lv_aload_n hx hb dX10_goBack_58 rfl (lv_at hl 0 rfl) ?_
            refine va_get (D := D) (ci := 10) (v := .ref qs) (C := RX10) (T := TX10) (N := 13) hx hb hts hinX10 hown hK.1 hP 0 rfl rfl 5 (by decide) fl22 (fun _ h9 => h9) rfl dX10_goBack_59 ?_
            refine lv_iload_n hx hb dX10_goBack_62 rfl (lv_at hl 1 rfl) ?_
            refine z_lald hx hb hK hP 3 rfl (x1.toNat) (by omega) (by omega) (Nat.le_of_ble_eq_true rfl) dX10_goBack_63 ?_
            refine va_put (D := D) (ci := 10) (v := .long (zL (ms x1.toNat))) (ty := .long) (C := RX10) (T := TX10) (N := 13) hx hb hts hinX10 tyX10 tyX10_ok nmX10 hown hK.1 hP hD hS 0 rfl rfl 7 (by decide) fl146 (fun _ h9 => h9) rfl (by decide +kernel) rfl rfl (Nat.le_of_ble_eq_true rfl) dX10_goBack_64 (fun H locs hP hD hS => ?_)
            have hP : va_P D vwCl [(q0, .inr (10, [.ref qn, .ref qa, .ref qp, .int (zI ((de : Nat) : Int)), .ref qi, .ref qs, .ref qk, .long (zL (ms x1.toNat)), .ref qb, .int (zI ((bn : Nat) : Int)), .ref qt, .ref qh, .ref qe])), (qn, .inl (k.1, 132, .inl (zF (cpZ mi f (132 * x1.toNat) 0 jj)))), (qi, .inl (k.1, 264, .inl (zF mi))), (qs, .inl (k.2.2.1, 2, .inr (.inl (zG ms)))), (qk, .inl (k.2.1, 2, .inl (zF mk)))] H := hP
            have hD : va_D A [(q0, .inr (10, [.ref qn, .ref qa, .ref qp, .int (zI ((de : Nat) : Int)), .ref qi, .ref qs, .ref qk, .long (zL (ms x1.toNat)), .ref qb, .int (zI ((bn : Nat) : Int)), .ref qt, .ref qh, .ref qe])), (qn, .inl (k.1, 132, .inl (zF (cpZ mi f (132 * x1.toNat) 0 jj)))), (qi, .inl (k.1, 264, .inl (zF mi))), (qs, .inl (k.2.2.1, 2, .inr (.inl (zG ms)))), (qk, .inl (k.2.1, 2, .inl (zF mk)))] := hD
            refine lv_aload_n hx hb dX10_goBack_67 rfl (lv_at hl 0 rfl) ?_
            refine z_iconst hx hb dX10_goBack_68 ?_
            refine te (zc (show 0 = ((0 : Nat) : Int) from rfl)) ?_
            refine va_put (D := D) (ci := 10) (v := .int (zI ((0 : Nat) : Int))) (ty := .int) (C := RX10) (T := TX10) (N := 13) hx hb hts hinX10 tyX10 tyX10_ok nmX10 hown hK.1 hP hD hS 0 rfl rfl 3 (by decide) fl46 (fun _ h9 => h9) rfl (by decide +kernel) rfl rfl (Nat.le_of_ble_eq_true rfl) dX10_goBack_69 (fun H locs hP hD hS => ?_)
            have hP : va_P D vwCl [(q0, .inr (10, [.ref qn, .ref qa, .ref qp, .int (zI ((0 : Nat) : Int)), .ref qi, .ref qs, .ref qk, .long (zL (ms x1.toNat)), .ref qb, .int (zI ((bn : Nat) : Int)), .ref qt, .ref qh, .ref qe])), (qn, .inl (k.1, 132, .inl (zF (cpZ mi f (132 * x1.toNat) 0 jj)))), (qi, .inl (k.1, 264, .inl (zF mi))), (qs, .inl (k.2.2.1, 2, .inr (.inl (zG ms)))), (qk, .inl (k.2.1, 2, .inl (zF mk)))] H := hP
            have hD : va_D A [(q0, .inr (10, [.ref qn, .ref qa, .ref qp, .int (zI ((0 : Nat) : Int)), .ref qi, .ref qs, .ref qk, .long (zL (ms x1.toNat)), .ref qb, .int (zI ((bn : Nat) : Int)), .ref qt, .ref qh, .ref qe])), (qn, .inl (k.1, 132, .inl (zF (cpZ mi f (132 * x1.toNat) 0 jj)))), (qi, .inl (k.1, 264, .inl (zF mi))), (qs, .inl (k.2.2.1, 2, .inr (.inl (zG ms)))), (qk, .inl (k.2.1, 2, .inl (zF mk)))] := hD
            refine z_iconst hx hb dX10_goBack_72 ?_
            rw [hj] at hP
            exact W.iret hx hb hr (fun t ht hW => ⟨⟨_, (cpZ mi f (132 * x1.toNat) 0 132, ms x1.toNat, 0), rfl, ⟨zc (by rw [if_pos (by omega), if_pos (by omega)]), by rw [if_pos (by omega)]⟩, by show va_P D vwCl _ _; rw [ht]; exact hP⟩, hS.F ht⟩) hS.2.2 dX10_goBack_73
          · refine lv_aload_n hx hb dX10_goBack_33 rfl (lv_at hl 0 rfl) ?_
            refine va_get (D := D) (ci := 10) (v := .ref qn) (C := RX10) (T := TX10) (N := 13) hx hb hts hinX10 hown hK.1 hP 0 rfl rfl 0 (by decide) fl7 (fun _ h9 => h9) rfl dX10_goBack_34 ?_
            refine lv_iload_n hx hb dX10_goBack_37 rfl (lv_at hl 2 rfl) ?_
            refine lv_aload_n hx hb dX10_goBack_38 rfl (lv_at hl 0 rfl) ?_
            refine va_get (D := D) (ci := 10) (v := .ref qi) (C := RX10) (T := TX10) (N := 13) hx hb hts hinX10 hown hK.1 hP 0 rfl rfl 4 (by decide) fl19 (fun _ h9 => h9) rfl dX10_goBack_39 ?_
            refine z_sipush hx hb dX10_goBack_42 (by decide +kernel) ?_
            refine lv_iload_n hx hb dX10_goBack_45 rfl (lv_at hl 1 rfl) ?_
            refine z_imul hx hb dX10_goBack_46 ?_
            refine lv_iload_n hx hb dX10_goBack_47 rfl (lv_at hl 2 rfl) ?_
            refine z_iadd hx hb dX10_goBack_48 ?_
            refine z_ald hx hb hK hP 2 rfl (132 * x1.toNat + jj) (by omega) (by omega) (Nat.le_of_ble_eq_true rfl) dX10_goBack_49 ?_
            refine z_ast hx hb hK hP hD hS 1 rfl (jj) (by omega) (by omega) (Nat.le_of_ble_eq_true rfl) dX10_goBack_50 (fun H locs hP hD hS => ?_)
            have hP : va_P D vwCl [(q0, .inr (10, [.ref qn, .ref qa, .ref qp, .int (zI ((de : Nat) : Int)), .ref qi, .ref qs, .ref qk, .long (zL sv), .ref qb, .int (zI ((bn : Nat) : Int)), .ref qt, .ref qh, .ref qe])), (qn, .inl (k.1, 132, .inl (zF (upZ (cpZ mi f (132 * x1.toNat) 0 jj) jj (mi (132 * x1.toNat + jj)))))), (qi, .inl (k.1, 264, .inl (zF mi))), (qs, .inl (k.2.2.1, 2, .inr (.inl (zG ms)))), (qk, .inl (k.2.1, 2, .inl (zF mk)))] H := hP
            have hD : va_D A [(q0, .inr (10, [.ref qn, .ref qa, .ref qp, .int (zI ((de : Nat) : Int)), .ref qi, .ref qs, .ref qk, .long (zL sv), .ref qb, .int (zI ((bn : Nat) : Int)), .ref qt, .ref qh, .ref qe])), (qn, .inl (k.1, 132, .inl (zF (upZ (cpZ mi f (132 * x1.toNat) 0 jj) jj (mi (132 * x1.toNat + jj)))))), (qi, .inl (k.1, 264, .inl (zF mi))), (qs, .inl (k.2.2.1, 2, .inr (.inl (zG ms)))), (qk, .inl (k.2.1, 2, .inl (zF mk)))] := hD
            rw [show upZ (cpZ mi f (132 * x1.toNat) 0 jj) jj (mi (132 * x1.toNat + jj)) = cpZ mi f (132 * x1.toNat) 0 (jj + 1) from cpZ_s (by omega) rfl] at hP hD
            refine lv_iinc (v := zI (((jj : Nat) : Int) + 1)) (lv' := [(2, .int (zI (((jj : Nat) : Int) + 1))), (0, .ref q0), (1, .int (zI x1))]) hx hb dX10_goBack_51 hl (k := 2) rfl (zI_add _ _) (by decide) rfl (fun ls hl => ?_)
            refine lv_goto (tgt := 26) hx hb dX10_goBack_54 (by decide) ?_
            have hl : lv_has ls 3 [(2, .int (zI (((jj + 1) : Nat) : Int))), (0, .ref q0), (1, .int (zI x1))] := lv_c (l1 := []) (l2 := [(0, .ref q0), (1, .int (zI x1))]) hl (show ((jj : Nat) : Int) + 1 = (((jj + 1) : Nat) : Int) from by omega)
            exact ih26 (jj + 1) (by omega) (by omega) _ _ hP hD hS ls (lv_sub hl [1, 2, 0] rfl)
      have hl : lv_has ls 3 [(2, .int (zI ((0 : Nat) : Int))), (0, .ref q0), (1, .int (zI x1))] := lv_c (l1 := []) (l2 := [(0, .ref q0), (1, .int (zI x1))]) hl (show 0 = ((0 : Nat) : Int) from rfl)
      exact L26 _ 0 (by decide) (Nat.lt_succ_self _) _ _ (by rw [cpZ_0]; exact hP) (by rw [cpZ_0]; exact hD) hS ls (lv_sub hl [1, 2, 0] rfl)
    · refine lv_ldc hx hb hown (hts (.constant RX10 161 (-1000000003)) (by decide +kernel)) dX10_goBack_21 ?_
      refine te (show (-1000000003 : Int32) = zI (-1000000003) from by decide +kernel) ?_
      exact W.iret hx hb hr (fun t ht hW => ⟨⟨_, (f, sv, de), rfl, ⟨zc (by rw [if_pos (by omega), if_neg (by omega)]), by rw [if_neg (by omega)]⟩, by show va_P D vwCl _ _; rw [ht]; exact hP⟩, hS.F ht⟩) hS.2.2 dX10_goBack_23
  · simp only [Bool.and_eq_false_iff, decide_eq_false_iff_not] at c_6
    refine lv_ldc hx hb hown (hts (.constant RX10 117 (-1000000001)) (by decide +kernel)) dX10_goBack_9 ?_
    refine te (show (-1000000001 : Int32) = zI (-1000000001) from by decide +kernel) ?_
    exact W.iret hx hb hr (fun t ht hW => ⟨⟨_, (f, sv, de), rfl, ⟨zc (by rw [if_neg (by omega)]), by rw [if_neg (by omega)]⟩, by show va_P D vwCl _ _; rw [ht]; exact hP⟩, hS.F ht⟩) hS.2.2 dX10_goBack_11
