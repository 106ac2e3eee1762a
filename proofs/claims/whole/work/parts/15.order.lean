set_option maxHeartbeats 4000000 in
set_option maxRecDepth 100000 in
theorem c_arrangeByLevel (l : Launch) (D : va_G) (k : Kt) (h0 : Nat) (c0 : Nat) (f : St) (B : Int) (hV : Va B f) (h5 : Nat) (a5 : Nat) (o : Nat → Int) : MU l D k yX5_arrangeByLevel wsX5_arrangeByLevel 1 22 [.ref h5, .ref h0, .int (zI (f 0))] [(h0, .inr (7, [.ref c0])), (c0, .inl (k.1, 132, .inl (zF f))), (h5, .inr (5, [.ref a5])), (a5, .inl (k.1, 12, .inl (zF o)))] (fun (u : Nat → Int) => OrdOK f 3 u) (fun u => [(h0, .inr (7, [.ref c0])), (c0, .inl (k.1, 132, .inl (zF f))), (h5, .inr (5, [.ref a5])), (a5, .inl (k.1, 12, .inl (zF u)))]) := by
  refine Met.ofW (cc := cX5_arrangeByLevel) (maxL := 6) (ret := none) (by decide) rfl ?_
  intro p e s m args below meth c s₁ Bd hml hv
  obtain ⟨rfl, hP, hK, hD0⟩ := hv
  have hx := Bd.exec
  have hb := Bd.bytes
  have hr := Bd.returns
  have hts := atoms_spec (ws := wsX5_arrangeByLevel) Bd.pre
  have hown : s.vm.findClass RX5 = some m.cls := findClass_of_methodNamed Bd.named
  have hlocks := Bd.notSynchronized
  have hSf : CallFix p m c cX5_arrangeByLevel 6 s ([.ref h5, .ref h0, .int (zI (f 0))] : List Value).toArray wsX5_arrangeByLevel RX5 := ⟨hx, hb, hml, hown, hts⟩
  have hD := fA_D hD0
  have hS : va_S (fA [(h0, .inr (7, [.ref c0])), (c0, .inl (k.1, 132, .inl (zF f))), (h5, .inr (5, [.ref a5])), (a5, .inl (k.1, 12, .inl (zF o)))]) s.heap s.heap [] := va_S.rf
  generalize hAe : fA [(h0, .inr (7, [.ref c0])), (c0, .inl (k.1, 132, .inl (zF f))), (h5, .inr (5, [.ref a5])), (a5, .inl (k.1, 12, .inl (zF o)))] = A at hD hS ⊢
  have hP : va_P D vwCl [(h0, .inr (7, [.ref c0])), (c0, .inl (k.1, 132, .inl (zF f))), (h5, .inr (5, [.ref a5])), (a5, .inl (k.1, 12, .inl (zF o)))] s.heap := hP
  have hinX5 : ∀ w ∈ u_ws RX5 TX5 1, w ∈ wsX5_arrangeByLevel := by decide +kernel
  have fl9 := hts (.fieldLink RX5 9 "DotObjects$Order" "order" "[I") (by decide +kernel)
  have hl := lv_entry ([.ref h5, .ref h0, .int (zI (f 0))]) (n := 6) (Nat.le_of_ble_eq_true rfl)
  rw [lg_entry_eq]
  generalize (lg_sl ([.ref h5, .ref h0, .int (zI (f 0))]) ++ List.replicate (6 - (lg_sl ([.ref h5, .ref h0, .int (zI (f 0))])).length) Slot.unset).toArray = ls at hl ⊢
  have hl : lv_has ls 6 [(0, .ref h5), (1, .ref h0), (2, .int (zI (f 0)))] := hl
  have hn := hV.n
  have hv0 := hV.1
  refine z_iconst hx hb dX5_arrangeByLevel_0 ?_
  refine lv_istore_n (lv' := [(3, .int (zI 0)), (0, .ref h5), (1, .ref h0), (2, .int (zI (f 0)))]) hx hb dX5_arrangeByLevel_1 rfl hl (by decide) rfl (fun ls hl => ?_)
  refine z_iconst hx hb dX5_arrangeByLevel_2 ?_
  refine lv_istore (lv' := [(4, .int (zI 0)), (3, .int (zI 0)), (0, .ref h5), (1, .ref h0), (2, .int (zI (f 0)))]) hx hb dX5_arrangeByLevel_3 hl (by decide) rfl (fun ls hl => ?_)
  have L5 : ∀ (NN5 : Nat), ∀ (lv : Nat) (kk : Nat) (oo : Nat → Int), (lv ≤ 4) → (lvI f oo (16 * (lv : Int)) kk) → 4 - lv < NN5 → ∀ (H : Heap) (locs : List Loc), va_P D vwCl [(h0, .inr (7, [.ref c0])), (c0, .inl (k.1, 132, .inl (zF f))), (h5, .inr (5, [.ref a5])), (a5, .inl (k.1, 12, .inl (zF oo)))] H → va_D A [(h0, .inr (7, [.ref c0])), (c0, .inl (k.1, 132, .inl (zF f))), (h5, .inr (5, [.ref a5])), (a5, .inl (k.1, 12, .inl (zF oo)))] → va_S A s.heap H locs → ∀ (ls : Array Slot), lv_has ls 6 [(0, .ref h5), (1, .ref h0), (2, .int (zI (f 0))), (3, .int (zI ((kk : Nat) : Int))), (4, .int (zI ((lv : Nat) : Int)))] → W p l e (headSpec wsX5_arrangeByLevel { frames := 1, cells := 0, slots := 0, locals := 22 }).room s m ([.ref h5, .ref h0, .int (zI (f 0))] : List Value).toArray below meth c H locs 0 0 (MQ below (va_Qv (fun (u : Nat → Int) => OrdOK f 3 u) (fun (u : Nat → Int) t => va_P D vwCl [(h0, .inr (7, [.ref c0])), (c0, .inl (k.1, 132, .inl (zF f))), (h5, .inr (5, [.ref a5])), (a5, .inl (k.1, 12, .inl (zF u)))] t.heap) A) ([.ref h5, .ref h0, .int (zI (f 0))] : List Value).toArray s 0 0 A) (F0 m 5 ls []) := by
    intro NN5
    induction NN5 with
    | zero => intro lv kk oo _ _ hN; exact absurd hN (Nat.not_lt_zero _)
    | succ NN5 ih5 =>
      intro lv kk oo hlv hI hN H locs hP hD hS ls hl
      refine lv_iload hx hb dX5_arrangeByLevel_5 (lv_at hl 4 rfl) ?_
      refine z_iconst hx hb dX5_arrangeByLevel_7 ?_
      refine z_icmp_ge (tgt := 61) hx hb dX5_arrangeByLevel_8 (by decide) (by omega) (by omega) (fun c_8 => ?_) (fun c_8 => ?_)
      · obtain rfl : lv = 4 := by omega
        exact W.vret hx hb hr (fun t ht hW => ⟨⟨oo, rfl, ord_3 hV hI, by show va_P D vwCl _ _; rw [ht]; exact hP⟩, hS.F ht⟩) hS.2.2 dX5_arrangeByLevel_61
      · refine z_iconst hx hb dX5_arrangeByLevel_11 ?_
        refine lv_istore (lv' := [(5, .int (zI 0)), (0, .ref h5), (1, .ref h0), (2, .int (zI (f 0))), (3, .int (zI ((kk : Nat) : Int))), (4, .int (zI ((lv : Nat) : Int)))]) hx hb dX5_arrangeByLevel_12 hl (by decide) rfl (fun ls hl => ?_)
        have L14 : ∀ (NN14 : Nat), ∀ (tt : Nat) (kk : Nat) (oo : Nat → Int), (tt ≤ nT f) → (lvI f oo (16 * (lv : Int) + (tt : Int)) kk) → nT f - tt < NN14 → ∀ (H : Heap) (locs : List Loc), va_P D vwCl [(h0, .inr (7, [.ref c0])), (c0, .inl (k.1, 132, .inl (zF f))), (h5, .inr (5, [.ref a5])), (a5, .inl (k.1, 12, .inl (zF oo)))] H → va_D A [(h0, .inr (7, [.ref c0])), (c0, .inl (k.1, 132, .inl (zF f))), (h5, .inr (5, [.ref a5])), (a5, .inl (k.1, 12, .inl (zF oo)))] → va_S A s.heap H locs → ∀ (ls : Array Slot), lv_has ls 6 [(0, .ref h5), (1, .ref h0), (2, .int (zI (f 0))), (3, .int (zI ((kk : Nat) : Int))), (4, .int (zI ((lv : Nat) : Int))), (5, .int (zI ((tt : Nat) : Int)))] → W p l e (headSpec wsX5_arrangeByLevel { frames := 1, cells := 0, slots := 0, locals := 22 }).room s m ([.ref h5, .ref h0, .int (zI (f 0))] : List Value).toArray below meth c H locs 0 0 (MQ below (va_Qv (fun (u : Nat → Int) => OrdOK f 3 u) (fun (u : Nat → Int) t => va_P D vwCl [(h0, .inr (7, [.ref c0])), (c0, .inl (k.1, 132, .inl (zF f))), (h5, .inr (5, [.ref a5])), (a5, .inl (k.1, 12, .inl (zF u)))] t.heap) A) ([.ref h5, .ref h0, .int (zI (f 0))] : List Value).toArray s 0 0 A) (F0 m 14 ls []) := by
          intro NN14
          induction NN14 with
          | zero => intro tt kk oo _ _ hN; exact absurd hN (Nat.not_lt_zero _)
          | succ NN14 ih14 =>
            intro tt kk oo htt hI hN H locs hP hD hS ls hl
            refine lv_iload hx hb dX5_arrangeByLevel_14 (lv_at hl 5 rfl) ?_
            refine lv_iload_n hx hb dX5_arrangeByLevel_16 rfl (lv_at hl 2 rfl) ?_
            refine z_icmp_ge (tgt := 55) hx hb dX5_arrangeByLevel_17 (by decide) (by omega) (by omega) (fun c_17 => ?_) (fun c_17 => ?_)
            · have htt2 : tt = nT f := by omega
              refine lv_iinc (v := zI (((lv : Nat) : Int) + 1)) (lv' := [(4, .int (zI (((lv : Nat) : Int) + 1))), (0, .ref h5), (1, .ref h0), (2, .int (zI (f 0))), (3, .int (zI ((kk : Nat) : Int))), (5, .int (zI ((tt : Nat) : Int)))]) hx hb dX5_arrangeByLevel_55 hl (k := 4) rfl (zI_add _ _) (by decide) rfl (fun ls hl => ?_)
              refine lv_goto (tgt := 5) hx hb dX5_arrangeByLevel_58 (by decide) ?_
              have hl : lv_has ls 6 [(4, .int (zI (((lv + 1) : Nat) : Int))), (0, .ref h5), (1, .ref h0), (2, .int (zI (f 0))), (3, .int (zI ((kk : Nat) : Int))), (5, .int (zI ((tt : Nat) : Int)))] := lv_c (l1 := []) (l2 := [(0, .ref h5), (1, .ref h0), (2, .int (zI (f 0))), (3, .int (zI ((kk : Nat) : Int))), (5, .int (zI ((tt : Nat) : Int)))]) hl (show ((lv : Nat) : Int) + 1 = (((lv + 1) : Nat) : Int) from by omega)
              exact ih5 (lv + 1) kk oo (by omega) (lvI_mv hI (by omega) (fun u hu => by have hw := hV.t hu; unfold key; omega)) (by omega) _ _ hP hD hS ls (lv_sub hl [1, 2, 3, 4, 0] rfl)
            · have hv := hV.t (t := tt) (by omega)
              refine lv_aload_n hx hb dX5_arrangeByLevel_20 rfl (lv_at hl 1 rfl) ?_
              refine lv_iload hx hb dX5_arrangeByLevel_21 (lv_at hl 5 rfl) ?_
              refine z_iconst hx hb dX5_arrangeByLevel_23 ?_
              refine roV (n := 2) (As := [.int (zI ((tt : Nat) : Int)), .int (zI ((4 : Nat) : Int))]) (rest := []) hSf (c_field l D k h0 c0 f tt 4 (by omega) (by omega)) gX5_arrangeByLevel_X7_field rfl (by decide +kernel) ⟨Nat.le_of_ble_eq_true rfl, Nat.le_of_ble_eq_true rfl⟩ hK hP [0, 1] rfl 0 rfl rfl rfl hl.1 (by rw [show zI 4 = zI ((4 : Nat) : Int) from zc (by omega)]; rfl) (Nat.le_of_ble_eq_true rfl) dX5_arrangeByLevel_24 ⟨Nat.zero_le _, Nat.zero_le _⟩ (fun r_24 h_24 => ?_)
              subst h_24
              refine lv_iload hx hb dX5_arrangeByLevel_27 (lv_at hl 4 rfl) ?_
              refine z_icmp_ne (tgt := 49) hx hb dX5_arrangeByLevel_29 (by decide) (by omega) (by omega) (fun c_29 => ?_) (fun c_29 => ?_)
              · refine lv_iinc (v := zI (((tt : Nat) : Int) + 1)) (lv' := [(5, .int (zI (((tt : Nat) : Int) + 1))), (0, .ref h5), (1, .ref h0), (2, .int (zI (f 0))), (3, .int (zI ((kk : Nat) : Int))), (4, .int (zI ((lv : Nat) : Int)))]) hx hb dX5_arrangeByLevel_49 hl (k := 5) rfl (zI_add _ _) (by decide) rfl (fun ls hl => ?_)
                refine lv_goto (tgt := 14) hx hb dX5_arrangeByLevel_52 (by decide) ?_
                have hl : lv_has ls 6 [(5, .int (zI (((tt + 1) : Nat) : Int))), (0, .ref h5), (1, .ref h0), (2, .int (zI (f 0))), (3, .int (zI ((kk : Nat) : Int))), (4, .int (zI ((lv : Nat) : Int)))] := lv_c (l1 := []) (l2 := [(0, .ref h5), (1, .ref h0), (2, .int (zI (f 0))), (3, .int (zI ((kk : Nat) : Int))), (4, .int (zI ((lv : Nat) : Int)))]) hl (show ((tt : Nat) : Int) + 1 = (((tt + 1) : Nat) : Int) from by omega)
                exact ih14 (tt + 1) kk oo (by omega) (lvI_sk hV hI c_29 (by omega)) (by omega) _ _ hP hD hS ls (lv_sub hl [1, 2, 3, 4, 5, 0] rfl)
              · have hk1 := lvI_lt hI (show tt < nT f by omega) (by unfold key; omega)
                refine lv_iload_n hx hb dX5_arrangeByLevel_32 rfl (lv_at hl 3 rfl) ?_
                refine z_bipush hx hb dX5_arrangeByLevel_33 (by decide +kernel) ?_
                refine z_icmp_ge (tgt := 49) hx hb dX5_arrangeByLevel_35 (by decide) (by have := hI.1; have := ct_le (fun u => decide (key f u < 16 * (lv : Int) + (tt : Int))) (nT f); omega) (by omega) (fun c_35 => ?_) (fun c_35 => ?_)
                · exact absurd c_35 (by omega)
                · refine lv_aload_n hx hb dX5_arrangeByLevel_38 rfl (lv_at hl 0 rfl) ?_
                  refine va_get (D := D) (ci := 5) (v := .ref a5) (C := RX5) (T := TX5) (N := 1) hx hb hts hinX5 hown hK.1 hP 2 rfl rfl 0 (by decide) fl9 (fun _ h9 => h9) rfl dX5_arrangeByLevel_39 ?_
                  refine lv_iload_n hx hb dX5_arrangeByLevel_42 rfl (lv_at hl 3 rfl) ?_
                  refine lv_iload hx hb dX5_arrangeByLevel_43 (lv_at hl 5 rfl) ?_
                  refine z_ast hx hb hK hP hD hS 3 rfl (kk) (by omega) (by omega) (Nat.le_of_ble_eq_true rfl) dX5_arrangeByLevel_45 (fun H locs hP hD hS => ?_)
                  have hP : va_P D vwCl [(h0, .inr (7, [.ref c0])), (c0, .inl (k.1, 132, .inl (zF f))), (h5, .inr (5, [.ref a5])), (a5, .inl (k.1, 12, .inl (zF (upZ oo kk ((tt : Nat) : Int)))))] H := hP
                  have hD : va_D A [(h0, .inr (7, [.ref c0])), (c0, .inl (k.1, 132, .inl (zF f))), (h5, .inr (5, [.ref a5])), (a5, .inl (k.1, 12, .inl (zF (upZ oo kk ((tt : Nat) : Int)))))] := hD
                  refine lv_iinc (v := zI (((kk : Nat) : Int) + 1)) (lv' := [(3, .int (zI (((kk : Nat) : Int) + 1))), (0, .ref h5), (1, .ref h0), (2, .int (zI (f 0))), (4, .int (zI ((lv : Nat) : Int))), (5, .int (zI ((tt : Nat) : Int)))]) hx hb dX5_arrangeByLevel_46 hl (k := 3) rfl (zI_add _ _) (by decide) rfl (fun ls hl => ?_)
                  refine lv_iinc (v := zI (((tt : Nat) : Int) + 1)) (lv' := [(5, .int (zI (((tt : Nat) : Int) + 1))), (3, .int (zI (((kk : Nat) : Int) + 1))), (0, .ref h5), (1, .ref h0), (2, .int (zI (f 0))), (4, .int (zI ((lv : Nat) : Int)))]) hx hb dX5_arrangeByLevel_49 hl (k := 5) rfl (zI_add _ _) (by decide) rfl (fun ls hl => ?_)
                  refine lv_goto (tgt := 14) hx hb dX5_arrangeByLevel_52 (by decide) ?_
                  have hl : lv_has ls 6 [(5, .int (zI (((tt : Nat) : Int) + 1))), (3, .int (zI (((kk + 1) : Nat) : Int))), (0, .ref h5), (1, .ref h0), (2, .int (zI (f 0))), (4, .int (zI ((lv : Nat) : Int)))] := lv_c (l1 := [(5, .int (zI (((tt : Nat) : Int) + 1)))]) (l2 := [(0, .ref h5), (1, .ref h0), (2, .int (zI (f 0))), (4, .int (zI ((lv : Nat) : Int)))]) hl (show ((kk : Nat) : Int) + 1 = (((kk + 1) : Nat) : Int) from by omega)
                  have hl : lv_has ls 6 [(5, .int (zI (((tt + 1) : Nat) : Int))), (3, .int (zI (((kk + 1) : Nat) : Int))), (0, .ref h5), (1, .ref h0), (2, .int (zI (f 0))), (4, .int (zI ((lv : Nat) : Int)))] := lv_c (l1 := []) (l2 := [(3, .int (zI (((kk + 1) : Nat) : Int))), (0, .ref h5), (1, .ref h0), (2, .int (zI (f 0))), (4, .int (zI ((lv : Nat) : Int)))]) hl (show ((tt : Nat) : Int) + 1 = (((tt + 1) : Nat) : Int) from by omega)
                  exact ih14 (tt + 1) (kk + 1) (upZ oo kk ((tt : Nat) : Int)) (by omega) (by have hq := lvI_put hn.2 hI (show tt < nT f by omega) (by unfold key; omega); rw [show 16 * (lv : Int) + ((tt + 1 : Nat) : Int) = 16 * (lv : Int) + (tt : Int) + 1 by omega]; exact hq) (by omega) _ _ hP hD hS ls (lv_sub hl [2, 3, 4, 1, 5, 0] rfl)
        have hl : lv_has ls 6 [(5, .int (zI ((0 : Nat) : Int))), (0, .ref h5), (1, .ref h0), (2, .int (zI (f 0))), (3, .int (zI ((kk : Nat) : Int))), (4, .int (zI ((lv : Nat) : Int)))] := lv_c (l1 := []) (l2 := [(0, .ref h5), (1, .ref h0), (2, .int (zI (f 0))), (3, .int (zI ((kk : Nat) : Int))), (4, .int (zI ((lv : Nat) : Int)))]) hl (show 0 = ((0 : Nat) : Int) from rfl)
        exact L14 _ 0 kk oo (Nat.zero_le _) (lvI_mv hI (by omega) (fun u hu => by rw [show 16 * (lv : Int) + ((0 : Nat) : Int) = 16 * (lv : Int) by omega])) (Nat.lt_succ_self _) _ _ hP hD hS ls (lv_sub hl [1, 2, 3, 4, 5, 0] rfl)
  have hl : lv_has ls 6 [(4, .int (zI 0)), (3, .int (zI ((0 : Nat) : Int))), (0, .ref h5), (1, .ref h0), (2, .int (zI (f 0)))] := lv_c (l1 := [(4, .int (zI 0))]) (l2 := [(0, .ref h5), (1, .ref h0), (2, .int (zI (f 0)))]) hl (show 0 = ((0 : Nat) : Int) from rfl)
  have hl : lv_has ls 6 [(4, .int (zI ((0 : Nat) : Int))), (3, .int (zI ((0 : Nat) : Int))), (0, .ref h5), (1, .ref h0), (2, .int (zI (f 0)))] := lv_c (l1 := []) (l2 := [(3, .int (zI ((0 : Nat) : Int))), (0, .ref h5), (1, .ref h0), (2, .int (zI (f 0)))]) hl (show 0 = ((0 : Nat) : Int) from rfl)
  exact L5 _ 0 0 o (by decide) (lvI_0 hV) (Nat.lt_succ_self _) _ _ hP hD hS ls (lv_sub hl [2, 3, 4, 1, 0] rfl)
set_option maxHeartbeats 4000000 in
set_option maxRecDepth 100000 in
theorem c_arrange (l : Launch) (D : va_G) (k : Kt) (h0 : Nat) (c0 : Nat) (f : St) (B : Int) (hV : Va B f) (h5 : Nat) (a5 : Nat) (o : Nat → Int) (ru : Int) (hru : 0 ≤ ru ∧ ru ≤ 3) (hB : B < 1000000) : MU l D k yX5_arrange wsX5_arrange 2 47 [.ref h5, .ref h0, .int (zI ru)] [(h0, .inr (7, [.ref c0])), (c0, .inl (k.1, 132, .inl (zF f))), (h5, .inr (5, [.ref a5])), (a5, .inl (k.1, 12, .inl (zF o)))] (fun (u : Nat → Int) => OrdOK f ru u) (fun u => [(h0, .inr (7, [.ref c0])), (c0, .inl (k.1, 132, .inl (zF f))), (h5, .inr (5, [.ref a5])), (a5, .inl (k.1, 12, .inl (zF u)))]) := by
  refine Met.ofW (cc := cX5_arrange) (maxL := 7) (ret := none) (by decide) rfl ?_
  intro p e s m args below meth c s₁ Bd hml hv
  obtain ⟨rfl, hP, hK, hD0⟩ := hv
  have hx := Bd.exec
  have hb := Bd.bytes
  have hr := Bd.returns
  have hts := atoms_spec (ws := wsX5_arrange) Bd.pre
  have hown : s.vm.findClass RX5 = some m.cls := findClass_of_methodNamed Bd.named
  have hlocks := Bd.notSynchronized
  have hSf : CallFix p m c cX5_arrange 7 s ([.ref h5, .ref h0, .int (zI ru)] : List Value).toArray wsX5_arrange RX5 := ⟨hx, hb, hml, hown, hts⟩
  have hD := fA_D hD0
  have hS : va_S (fA [(h0, .inr (7, [.ref c0])), (c0, .inl (k.1, 132, .inl (zF f))), (h5, .inr (5, [.ref a5])), (a5, .inl (k.1, 12, .inl (zF o)))]) s.heap s.heap [] := va_S.rf
  generalize hAe : fA [(h0, .inr (7, [.ref c0])), (c0, .inl (k.1, 132, .inl (zF f))), (h5, .inr (5, [.ref a5])), (a5, .inl (k.1, 12, .inl (zF o)))] = A at hD hS ⊢
  have hP : va_P D vwCl [(h0, .inr (7, [.ref c0])), (c0, .inl (k.1, 132, .inl (zF f))), (h5, .inr (5, [.ref a5])), (a5, .inl (k.1, 12, .inl (zF o)))] s.heap := hP
  have hinX5 : ∀ w ∈ u_ws RX5 TX5 1, w ∈ wsX5_arrange := by decide +kernel
  have fl9 := hts (.fieldLink RX5 9 "DotObjects$Order" "order" "[I") (by decide +kernel)
  have hl := lv_entry ([.ref h5, .ref h0, .int (zI ru)]) (n := 7) (Nat.le_of_ble_eq_true rfl)
  rw [lg_entry_eq]
  generalize (lg_sl ([.ref h5, .ref h0, .int (zI ru)]) ++ List.replicate (7 - (lg_sl ([.ref h5, .ref h0, .int (zI ru)])).length) Slot.unset).toArray = ls at hl ⊢
  have hl : lv_has ls 7 [(0, .ref h5), (1, .ref h0), (2, .int (zI ru))] := hl
  have hn := hV.n
  have hv0 := hV.1
  have hv3 := hV.2.2.2.1
  refine lv_aload_n hx hb dX5_arrange_0 rfl (lv_at hl 1 rfl) ?_
  refine z_iconst hx hb dX5_arrange_1 ?_
  refine roV (n := 1) (As := [.int (zI ((0 : Nat) : Int))]) (rest := []) hSf (c_cell l D k h0 c0 f 0 (by omega)) gX5_arrange_X7_cell rfl (by decide +kernel) ⟨Nat.le_of_ble_eq_true rfl, Nat.le_of_ble_eq_true rfl⟩ hK hP [0, 1] rfl 0 rfl rfl rfl hl.1 (by rw [show zI 0 = zI ((0 : Nat) : Int) from zc (by omega)]; rfl) (Nat.le_of_ble_eq_true rfl) dX5_arrange_2 ⟨Nat.zero_le _, Nat.zero_le _⟩ (fun r_2 h_2 => ?_)
  subst h_2
  refine lv_istore_n (lv' := [(3, .int (zI (f 0))), (0, .ref h5), (1, .ref h0), (2, .int (zI ru))]) hx hb dX5_arrange_5 rfl hl (by decide) rfl (fun ls hl => ?_)
  refine lv_iload_n hx hb dX5_arrange_6 rfl (lv_at hl 3 rfl) ?_
  refine z_iconst hx hb dX5_arrange_7 ?_
  refine z_icmp_ne (tgt := 18) hx hb dX5_arrange_8 (by decide) (by omega) (by omega) (fun c_8 => ?_) (fun c_8 => ?_)
  · have L45 : ∀ (NN45 : Nat), ∀ (fi : Int) (jj : Nat) (oo : Nat → Int), (0 < f 0 → 0 ≤ fi ∧ fi < f 0 ∧ fi = if ru = 2 then f 3 % f 0 else 0) → (jj ≤ nT f) → (∀ i, i < jj → oo i = ordv (f 0) fi ru i) → nT f - jj < NN45 → ∀ (H : Heap) (locs : List Loc), va_P D vwCl [(h0, .inr (7, [.ref c0])), (c0, .inl (k.1, 132, .inl (zF f))), (h5, .inr (5, [.ref a5])), (a5, .inl (k.1, 12, .inl (zF oo)))] H → va_D A [(h0, .inr (7, [.ref c0])), (c0, .inl (k.1, 132, .inl (zF f))), (h5, .inr (5, [.ref a5])), (a5, .inl (k.1, 12, .inl (zF oo)))] → va_S A s.heap H locs → ∀ (ls : Array Slot), lv_has ls 7 [(0, .ref h5), (1, .ref h0), (2, .int (zI ru)), (3, .int (zI (f 0))), (4, .int (zI fi)), (5, .int (zI ((jj : Nat) : Int)))] → W p l e (headSpec wsX5_arrange { frames := 2, cells := 0, slots := 0, locals := 47 }).room s m ([.ref h5, .ref h0, .int (zI ru)] : List Value).toArray below meth c H locs 0 0 (MQ below (va_Qv (fun (u : Nat → Int) => OrdOK f ru u) (fun (u : Nat → Int) t => va_P D vwCl [(h0, .inr (7, [.ref c0])), (c0, .inl (k.1, 132, .inl (zF f))), (h5, .inr (5, [.ref a5])), (a5, .inl (k.1, 12, .inl (zF u)))] t.heap) A) ([.ref h5, .ref h0, .int (zI ru)] : List Value).toArray s 0 0 A) (F0 m 45 ls []) := by
      intro NN45
      induction NN45 with
      | zero => intro fi jj oo _ _ _ hN; exact absurd hN (Nat.not_lt_zero _)
      | succ NN45 ih45 =>
        intro fi jj oo hfi hjj hoo hN H locs hP hD hS ls hl
        have hfi2 : 0 < f 0 → 0 ≤ fi ∧ fi < f 0 := fun q => ⟨(hfi q).1, (hfi q).2.1⟩
        refine lv_iload hx hb dX5_arrange_45 (lv_at hl 5 rfl) ?_
        refine lv_iload_n hx hb dX5_arrange_47 rfl (lv_at hl 3 rfl) ?_
        refine z_icmp_ge (tgt := 106) hx hb dX5_arrange_48 (by decide) (by omega) (by omega) (fun c_48 => ?_) (fun c_48 => ?_)
        · obtain rfl : jj = nT f := by omega
          exact W.vret hx hb hr (fun t ht hW => ⟨⟨oo, rfl, ord_012 hV (by omega) hfi hoo, by show va_P D vwCl _ _; rw [ht]; exact hP⟩, hS.F ht⟩) hS.2.2 dX5_arrange_106
        · refine lv_iload hx hb dX5_arrange_51 (lv_at hl 4 rfl) ?_
          refine lv_iload hx hb dX5_arrange_53 (lv_at hl 5 rfl) ?_
          refine z_iadd hx hb dX5_arrange_55 ?_
          refine lv_iload_n hx hb dX5_arrange_56 rfl (lv_at hl 3 rfl) ?_
          refine z_icmp_ge (tgt := 68) hx hb dX5_arrange_57 (by decide) (by have := hfi (by omega); omega) (by omega) (fun c_57 => ?_) (fun c_57 => ?_)
          · refine lv_iload hx hb dX5_arrange_68 (lv_at hl 4 rfl) ?_
            refine lv_iload hx hb dX5_arrange_70 (lv_at hl 5 rfl) ?_
            refine z_iadd hx hb dX5_arrange_72 ?_
            refine lv_iload_n hx hb dX5_arrange_73 rfl (lv_at hl 3 rfl) ?_
            refine z_isub hx hb dX5_arrange_74 ?_
            refine lv_istore (lv' := [(6, .int (zI ((fi + ((jj : Nat) : Int)) - (f 0)))), (0, .ref h5), (1, .ref h0), (2, .int (zI ru)), (3, .int (zI (f 0))), (4, .int (zI fi)), (5, .int (zI ((jj : Nat) : Int)))]) hx hb dX5_arrange_75 hl (by decide) rfl (fun ls hl => ?_)
            refine lv_aload_n hx hb dX5_arrange_77 rfl (lv_at hl 1 rfl) ?_
            refine va_get (D := D) (ci := 5) (v := .ref a5) (C := RX5) (T := TX5) (N := 1) hx hb hts hinX5 hown hK.1 hP 2 rfl rfl 0 (by decide) fl9 (fun _ h9 => h9) rfl dX5_arrange_78 ?_
            refine lv_iload hx hb dX5_arrange_81 (lv_at hl 6 rfl) ?_
            refine lv_iload_n hx hb dX5_arrange_83 rfl (lv_at hl 3 rfl) ?_
            refine z_iconst hx hb dX5_arrange_84 ?_
            refine z_icmp_ne (tgt := 97) hx hb dX5_arrange_85 (by decide) (by omega) (by omega) (fun c_85 => ?_) (fun c_85 => ?_)
            · refine lv_iload hx hb dX5_arrange_97 (lv_at hl 0 rfl) ?_
              refine z_ast hx hb hK hP hD hS 3 rfl (jj) (by omega) (by omega) (Nat.le_of_ble_eq_true rfl) dX5_arrange_99 (fun H locs hP hD hS => ?_)
              have hP : va_P D vwCl [(h0, .inr (7, [.ref c0])), (c0, .inl (k.1, 132, .inl (zF f))), (h5, .inr (5, [.ref a5])), (a5, .inl (k.1, 12, .inl (zF (upZ oo jj ((fi + ((jj : Nat) : Int)) - (f 0))))))] H := hP
              have hD : va_D A [(h0, .inr (7, [.ref c0])), (c0, .inl (k.1, 132, .inl (zF f))), (h5, .inr (5, [.ref a5])), (a5, .inl (k.1, 12, .inl (zF (upZ oo jj ((fi + ((jj : Nat) : Int)) - (f 0))))))] := hD
              refine lv_iinc (v := zI (((jj : Nat) : Int) + 1)) (lv' := [(5, .int (zI (((jj : Nat) : Int) + 1))), (6, .int (zI ((fi + ((jj : Nat) : Int)) - (f 0)))), (0, .ref h5), (1, .ref h0), (2, .int (zI ru)), (3, .int (zI (f 0))), (4, .int (zI fi))]) hx hb dX5_arrange_100 hl (k := 6) rfl (zI_add _ _) (by decide) rfl (fun ls hl => ?_)
              refine lv_goto (tgt := 45) hx hb dX5_arrange_103 (by decide) ?_
              have hl : lv_has ls 7 [(5, .int (zI (((jj + 1) : Nat) : Int))), (6, .int (zI ((fi + ((jj : Nat) : Int)) - (f 0)))), (0, .ref h5), (1, .ref h0), (2, .int (zI ru)), (3, .int (zI (f 0))), (4, .int (zI fi))] := lv_c (l1 := []) (l2 := [(6, .int (zI ((fi + ((jj : Nat) : Int)) - (f 0)))), (0, .ref h5), (1, .ref h0), (2, .int (zI ru)), (3, .int (zI (f 0))), (4, .int (zI fi))]) hl (show ((jj : Nat) : Int) + 1 = (((jj + 1) : Nat) : Int) from by omega)
              exact ih45 fi (jj + 1) (upZ oo jj ((fi + ((jj : Nat) : Int)) - (f 0))) hfi (by omega) (up_s (w := fun i => ordv (f 0) fi ru i) hoo (by unfold ordv; rw [if_neg (by omega), if_neg (by omega)])) (by omega) _ _ hP hD hS ls (lv_sub hl [2, 3, 4, 5, 6, 0] rfl)
            · refine lv_iload_n hx hb dX5_arrange_88 rfl (lv_at hl 4 rfl) ?_
              refine z_iconst hx hb dX5_arrange_89 ?_
              refine z_isub hx hb dX5_arrange_90 ?_
              refine lv_iload hx hb dX5_arrange_91 (lv_at hl 6 rfl) ?_
              refine z_isub hx hb dX5_arrange_93 ?_
              refine lv_goto (tgt := 99) hx hb dX5_arrange_94 (by decide) ?_
              refine z_ast hx hb hK hP hD hS 3 rfl (jj) (by omega) (by omega) (Nat.le_of_ble_eq_true rfl) dX5_arrange_99 (fun H locs hP hD hS => ?_)
              have hP : va_P D vwCl [(h0, .inr (7, [.ref c0])), (c0, .inl (k.1, 132, .inl (zF f))), (h5, .inr (5, [.ref a5])), (a5, .inl (k.1, 12, .inl (zF (upZ oo jj (((f 0) - 1) - ((jj : Nat) : Int))))))] H := hP
              have hD : va_D A [(h0, .inr (7, [.ref c0])), (c0, .inl (k.1, 132, .inl (zF f))), (h5, .inr (5, [.ref a5])), (a5, .inl (k.1, 12, .inl (zF (upZ oo jj (((f 0) - 1) - ((jj : Nat) : Int))))))] := hD
              refine lv_iinc (v := zI (((jj : Nat) : Int) + 1)) (lv' := [(5, .int (zI (((jj : Nat) : Int) + 1))), (6, .int (zI ((fi + ((jj : Nat) : Int)) - (f 0)))), (0, .ref h5), (1, .ref h0), (2, .int (zI ru)), (3, .int (zI (f 0))), (4, .int (zI fi))]) hx hb dX5_arrange_100 hl (k := 6) rfl (zI_add _ _) (by decide) rfl (fun ls hl => ?_)
              refine lv_goto (tgt := 45) hx hb dX5_arrange_103 (by decide) ?_
              have hl : lv_has ls 7 [(5, .int (zI (((jj + 1) : Nat) : Int))), (6, .int (zI ((fi + ((jj : Nat) : Int)) - (f 0)))), (0, .ref h5), (1, .ref h0), (2, .int (zI ru)), (3, .int (zI (f 0))), (4, .int (zI fi))] := lv_c (l1 := []) (l2 := [(6, .int (zI ((fi + ((jj : Nat) : Int)) - (f 0)))), (0, .ref h5), (1, .ref h0), (2, .int (zI ru)), (3, .int (zI (f 0))), (4, .int (zI fi))]) hl (show ((jj : Nat) : Int) + 1 = (((jj + 1) : Nat) : Int) from by omega)
              exact ih45 fi (jj + 1) (upZ oo jj (((f 0) - 1) - ((jj : Nat) : Int))) hfi (by omega) (up_s (w := fun i => ordv (f 0) fi ru i) hoo (by unfold ordv; rw [if_pos (by omega)])) (by omega) _ _ hP hD hS ls (lv_sub hl [2, 3, 4, 5, 6, 0] rfl)
          · refine lv_iload hx hb dX5_arrange_60 (lv_at hl 4 rfl) ?_
            refine lv_iload hx hb dX5_arrange_62 (lv_at hl 5 rfl) ?_
            refine z_iadd hx hb dX5_arrange_64 ?_
            refine lv_goto (tgt := 75) hx hb dX5_arrange_65 (by decide) ?_
            refine lv_istore (lv' := [(6, .int (zI (fi + ((jj : Nat) : Int)))), (0, .ref h5), (1, .ref h0), (2, .int (zI ru)), (3, .int (zI (f 0))), (4, .int (zI fi)), (5, .int (zI ((jj : Nat) : Int)))]) hx hb dX5_arrange_75 hl (by decide) rfl (fun ls hl => ?_)
            refine lv_aload_n hx hb dX5_arrange_77 rfl (lv_at hl 1 rfl) ?_
            refine va_get (D := D) (ci := 5) (v := .ref a5) (C := RX5) (T := TX5) (N := 1) hx hb hts hinX5 hown hK.1 hP 2 rfl rfl 0 (by decide) fl9 (fun _ h9 => h9) rfl dX5_arrange_78 ?_
            refine lv_iload hx hb dX5_arrange_81 (lv_at hl 6 rfl) ?_
            refine lv_iload_n hx hb dX5_arrange_83 rfl (lv_at hl 3 rfl) ?_
            refine z_iconst hx hb dX5_arrange_84 ?_
            refine z_icmp_ne (tgt := 97) hx hb dX5_arrange_85 (by decide) (by omega) (by omega) (fun c_85 => ?_) (fun c_85 => ?_)
            · refine lv_iload hx hb dX5_arrange_97 (lv_at hl 0 rfl) ?_
              refine z_ast hx hb hK hP hD hS 3 rfl (jj) (by omega) (by omega) (Nat.le_of_ble_eq_true rfl) dX5_arrange_99 (fun H locs hP hD hS => ?_)
              have hP : va_P D vwCl [(h0, .inr (7, [.ref c0])), (c0, .inl (k.1, 132, .inl (zF f))), (h5, .inr (5, [.ref a5])), (a5, .inl (k.1, 12, .inl (zF (upZ oo jj (fi + ((jj : Nat) : Int))))))] H := hP
              have hD : va_D A [(h0, .inr (7, [.ref c0])), (c0, .inl (k.1, 132, .inl (zF f))), (h5, .inr (5, [.ref a5])), (a5, .inl (k.1, 12, .inl (zF (upZ oo jj (fi + ((jj : Nat) : Int))))))] := hD
              refine lv_iinc (v := zI (((jj : Nat) : Int) + 1)) (lv' := [(5, .int (zI (((jj : Nat) : Int) + 1))), (6, .int (zI (fi + ((jj : Nat) : Int)))), (0, .ref h5), (1, .ref h0), (2, .int (zI ru)), (3, .int (zI (f 0))), (4, .int (zI fi))]) hx hb dX5_arrange_100 hl (k := 6) rfl (zI_add _ _) (by decide) rfl (fun ls hl => ?_)
              refine lv_goto (tgt := 45) hx hb dX5_arrange_103 (by decide) ?_
              have hl : lv_has ls 7 [(5, .int (zI (((jj + 1) : Nat) : Int))), (6, .int (zI (fi + ((jj : Nat) : Int)))), (0, .ref h5), (1, .ref h0), (2, .int (zI ru)), (3, .int (zI (f 0))), (4, .int (zI fi))] := lv_c (l1 := []) (l2 := [(6, .int (zI (fi + ((jj : Nat) : Int)))), (0, .ref h5), (1, .ref h0), (2, .int (zI ru)), (3, .int (zI (f 0))), (4, .int (zI fi))]) hl (show ((jj : Nat) : Int) + 1 = (((jj + 1) : Nat) : Int) from by omega)
              exact ih45 fi (jj + 1) (upZ oo jj (fi + ((jj : Nat) : Int))) hfi (by omega) (up_s (w := fun i => ordv (f 0) fi ru i) hoo (by unfold ordv; rw [if_neg (by omega), if_pos (by omega)])) (by omega) _ _ hP hD hS ls (lv_sub hl [2, 3, 4, 5, 6, 0] rfl)
            · refine lv_iload_n hx hb dX5_arrange_88 rfl (lv_at hl 4 rfl) ?_
              refine z_iconst hx hb dX5_arrange_89 ?_
              refine z_isub hx hb dX5_arrange_90 ?_
              refine lv_iload hx hb dX5_arrange_91 (lv_at hl 6 rfl) ?_
              refine z_isub hx hb dX5_arrange_93 ?_
              refine lv_goto (tgt := 99) hx hb dX5_arrange_94 (by decide) ?_
              refine z_ast hx hb hK hP hD hS 3 rfl (jj) (by omega) (by omega) (Nat.le_of_ble_eq_true rfl) dX5_arrange_99 (fun H locs hP hD hS => ?_)
              have hP : va_P D vwCl [(h0, .inr (7, [.ref c0])), (c0, .inl (k.1, 132, .inl (zF f))), (h5, .inr (5, [.ref a5])), (a5, .inl (k.1, 12, .inl (zF (upZ oo jj (((f 0) - 1) - ((jj : Nat) : Int))))))] H := hP
              have hD : va_D A [(h0, .inr (7, [.ref c0])), (c0, .inl (k.1, 132, .inl (zF f))), (h5, .inr (5, [.ref a5])), (a5, .inl (k.1, 12, .inl (zF (upZ oo jj (((f 0) - 1) - ((jj : Nat) : Int))))))] := hD
              refine lv_iinc (v := zI (((jj : Nat) : Int) + 1)) (lv' := [(5, .int (zI (((jj : Nat) : Int) + 1))), (6, .int (zI (fi + ((jj : Nat) : Int)))), (0, .ref h5), (1, .ref h0), (2, .int (zI ru)), (3, .int (zI (f 0))), (4, .int (zI fi))]) hx hb dX5_arrange_100 hl (k := 6) rfl (zI_add _ _) (by decide) rfl (fun ls hl => ?_)
              refine lv_goto (tgt := 45) hx hb dX5_arrange_103 (by decide) ?_
              have hl : lv_has ls 7 [(5, .int (zI (((jj + 1) : Nat) : Int))), (6, .int (zI (fi + ((jj : Nat) : Int)))), (0, .ref h5), (1, .ref h0), (2, .int (zI ru)), (3, .int (zI (f 0))), (4, .int (zI fi))] := lv_c (l1 := []) (l2 := [(6, .int (zI (fi + ((jj : Nat) : Int)))), (0, .ref h5), (1, .ref h0), (2, .int (zI ru)), (3, .int (zI (f 0))), (4, .int (zI fi))]) hl (show ((jj : Nat) : Int) + 1 = (((jj + 1) : Nat) : Int) from by omega)
              exact ih45 fi (jj + 1) (upZ oo jj (((f 0) - 1) - ((jj : Nat) : Int))) hfi (by omega) (up_s (w := fun i => ordv (f 0) fi ru i) hoo (by unfold ordv; rw [if_pos (by omega)])) (by omega) _ _ hP hD hS ls (lv_sub hl [2, 3, 4, 5, 6, 0] rfl)
    refine lv_iload_n hx hb dX5_arrange_18 rfl (lv_at hl 3 rfl) ?_
    refine z_iconst hx hb dX5_arrange_19 ?_
    refine z_icmp_ne (tgt := 39) hx hb dX5_arrange_20 (by decide) (by omega) (by omega) (fun c_20 => ?_) (fun c_20 => ?_)
    · refine z_iconst hx hb dX5_arrange_39 ?_
      refine lv_istore (lv' := [(4, .int (zI 0)), (3, .int (zI (f 0))), (0, .ref h5), (1, .ref h0), (2, .int (zI ru))]) hx hb dX5_arrange_40 hl (by decide) rfl (fun ls hl => ?_)
      refine z_iconst hx hb dX5_arrange_42 ?_
      refine lv_istore (lv' := [(5, .int (zI 0)), (4, .int (zI 0)), (3, .int (zI (f 0))), (0, .ref h5), (1, .ref h0), (2, .int (zI ru))]) hx hb dX5_arrange_43 hl (by decide) rfl (fun ls hl => ?_)
      have hl : lv_has ls 7 [(5, .int (zI ((0 : Nat) : Int))), (4, .int (zI 0)), (3, .int (zI (f 0))), (0, .ref h5), (1, .ref h0), (2, .int (zI ru))] := lv_c (l1 := []) (l2 := [(4, .int (zI 0)), (3, .int (zI (f 0))), (0, .ref h5), (1, .ref h0), (2, .int (zI ru))]) hl (show 0 = ((0 : Nat) : Int) from rfl)
      exact L45 _ 0 0 o (fun h0 => ⟨by omega, by omega, by rw [if_neg (by omega)]⟩) (Nat.zero_le _) (fun i hi => absurd hi (Nat.not_lt_zero _)) (Nat.lt_succ_self _) _ _ hP hD hS ls (lv_sub hl [3, 4, 5, 2, 1, 0] rfl)
    · refine lv_iload_n hx hb dX5_arrange_23 rfl (lv_at hl 0 rfl) ?_
      refine z_if_le (tgt := 39) hx hb dX5_arrange_24 (by decide) (by omega) (fun c_24 => ?_) (fun c_24 => ?_)
      · refine z_iconst hx hb dX5_arrange_39 ?_
        refine lv_istore (lv' := [(4, .int (zI 0)), (3, .int (zI (f 0))), (0, .ref h5), (1, .ref h0), (2, .int (zI ru))]) hx hb dX5_arrange_40 hl (by decide) rfl (fun ls hl => ?_)
        refine z_iconst hx hb dX5_arrange_42 ?_
        refine lv_istore (lv' := [(5, .int (zI 0)), (4, .int (zI 0)), (3, .int (zI (f 0))), (0, .ref h5), (1, .ref h0), (2, .int (zI ru))]) hx hb dX5_arrange_43 hl (by decide) rfl (fun ls hl => ?_)
        have hl : lv_has ls 7 [(5, .int (zI ((0 : Nat) : Int))), (4, .int (zI 0)), (3, .int (zI (f 0))), (0, .ref h5), (1, .ref h0), (2, .int (zI ru))] := lv_c (l1 := []) (l2 := [(4, .int (zI 0)), (3, .int (zI (f 0))), (0, .ref h5), (1, .ref h0), (2, .int (zI ru))]) hl (show 0 = ((0 : Nat) : Int) from rfl)
        exact L45 _ 0 0 o (fun h0 => absurd h0 (by omega)) (Nat.zero_le _) (fun i hi => absurd hi (Nat.not_lt_zero _)) (Nat.lt_succ_self _) _ _ hP hD hS ls (lv_sub hl [3, 4, 5, 2, 1, 0] rfl)
      · refine lv_aload_n hx hb dX5_arrange_27 rfl (lv_at hl 2 rfl) ?_
        refine z_iconst hx hb dX5_arrange_28 ?_
        refine roV (n := 1) (As := [.int (zI ((3 : Nat) : Int))]) (rest := []) hSf (c_cell l D k h0 c0 f 3 (by omega)) gX5_arrange_X7_cell rfl (by decide +kernel) ⟨Nat.le_of_ble_eq_true rfl, Nat.le_of_ble_eq_true rfl⟩ hK hP [0, 1] rfl 0 rfl rfl rfl hl.1 (by rw [show zI 3 = zI ((3 : Nat) : Int) from zc (by omega)]; rfl) (Nat.le_of_ble_eq_true rfl) dX5_arrange_29 ⟨Nat.zero_le _, Nat.zero_le _⟩ (fun r_29 h_29 => ?_)
        subst h_29
        refine lv_iload_n hx hb dX5_arrange_32 rfl (lv_at hl 0 rfl) ?_
        refine roS (n := 2) (As := [.int (zI (f 3)), .int (zI (f 0))]) (rest := []) hSf (c_floorMod l D k (f 3) (f 0) (by omega) (by omega)) gX5_arrange_J9_floorMod_7cf53 rfl (by decide +kernel) ⟨Nat.le_of_ble_eq_true rfl, Nat.le_of_ble_eq_true rfl⟩ hK hP [] rfl rfl hl.1 rfl (Nat.le_of_ble_eq_true rfl) dX5_arrange_33 ⟨Nat.zero_le _, Nat.zero_le _⟩ (fun r_33 h_33 => ?_)
        subst h_33
        refine lv_goto (tgt := 40) hx hb dX5_arrange_36 (by decide) ?_
        refine lv_istore (lv' := [(4, .int (zI ((f 3) % (f 0)))), (3, .int (zI (f 0))), (0, .ref h5), (1, .ref h0), (2, .int (zI ru))]) hx hb dX5_arrange_40 hl (by decide) rfl (fun ls hl => ?_)
        refine z_iconst hx hb dX5_arrange_42 ?_
        refine lv_istore (lv' := [(5, .int (zI 0)), (4, .int (zI ((f 3) % (f 0)))), (3, .int (zI (f 0))), (0, .ref h5), (1, .ref h0), (2, .int (zI ru))]) hx hb dX5_arrange_43 hl (by decide) rfl (fun ls hl => ?_)
        have hl : lv_has ls 7 [(5, .int (zI ((0 : Nat) : Int))), (4, .int (zI ((f 3) % (f 0)))), (3, .int (zI (f 0))), (0, .ref h5), (1, .ref h0), (2, .int (zI ru))] := lv_c (l1 := []) (l2 := [(4, .int (zI ((f 3) % (f 0)))), (3, .int (zI (f 0))), (0, .ref h5), (1, .ref h0), (2, .int (zI ru))]) hl (show 0 = ((0 : Nat) : Int) from rfl)
        exact L45 _ ((f 3) % (f 0)) 0 o (fun h0 => ⟨Int.emod_nonneg _ (by omega), Int.emod_lt_of_pos _ h0, by rw [if_pos (by omega)]⟩) (Nat.zero_le _) (fun i hi => absurd hi (Nat.not_lt_zero _)) (Nat.lt_succ_self _) _ _ hP hD hS ls (lv_sub hl [3, 4, 5, 2, 1, 0] rfl)
  · refine lv_aload_n hx hb dX5_arrange_11 rfl (lv_at hl 1 rfl) ?_
    refine lv_aload_n hx hb dX5_arrange_12 rfl (lv_at hl 2 rfl) ?_
    refine lv_iload_n hx hb dX5_arrange_13 rfl (lv_at hl 0 rfl) ?_
    refine muV (n := 2) (As := [.ref h0, .int (zI (f 0))]) (rest := []) hSf (c_arrangeByLevel l D k h0 c0 f B hV h5 a5 o) gX5_arrange_X5_arrangeByLevel rfl (by decide +kernel) ⟨Nat.le_of_ble_eq_true rfl, Nat.le_of_ble_eq_true rfl⟩ hK hP hD hS [0, 1, 2, 3] rfl rfl (by decide) (fun _ => rfl) (fun _ => rfl) 2 rfl rfl rfl hl.1 rfl (Nat.le_of_ble_eq_true rfl) dX5_arrange_14 ⟨Nat.zero_le _, Nat.zero_le _⟩ (fun u_14 H locs h_14 hP hD hS => ?_)
    have hP : va_P D vwCl [(h0, .inr (7, [.ref c0])), (c0, .inl (k.1, 132, .inl (zF f))), (h5, .inr (5, [.ref a5])), (a5, .inl (k.1, 12, .inl (zF u_14)))] H := hP
    have hD : va_D A [(h0, .inr (7, [.ref c0])), (c0, .inl (k.1, 132, .inl (zF f))), (h5, .inr (5, [.ref a5])), (a5, .inl (k.1, 12, .inl (zF u_14)))] := hD
    exact W.vret hx hb hr (fun t ht hW => ⟨⟨u_14, rfl, (by rw [c_8]; exact h_14), by show va_P D vwCl _ _; rw [ht]; exact hP⟩, hS.F ht⟩) hS.2.2 dX5_arrange_17
set_option maxHeartbeats 4000000 in
set_option maxRecDepth 100000 in
theorem c_chosen (l : Launch) (D : va_G) (k : Kt) (h0 : Nat) (c0 : Nat) (f : St) (B : Int) (hV : Va B f) (h5 : Nat) (a5 : Nat) (o : Nat → Int) (ru : Int) (hO : OrdOK f ru o) (L1 : Nat) (hL1 : L1 < 24) : RO l D k yX5_chosen wsX5_chosen 2 44 [.ref h5, .ref h0, .int (zI ((L1 : Nat) : Int))] [(h0, .inr (7, [.ref c0])), (c0, .inl (k.1, 132, .inl (zF f))), (h5, .inr (5, [.ref a5])), (a5, .inl (k.1, 12, .inl (zF o)))] (fun r => r = zI ((drS f ru (f 1) L1 : Nat) : Int)) := by
  refine Met.ofW (cc := cX5_chosen) (maxL := 6) (ret := (some .int)) (by decide) rfl ?_
  intro p e s m args below meth c s₁ Bd hml hv
  obtain ⟨rfl, hP, hK⟩ := hv
  have hx := Bd.exec
  have hb := Bd.bytes
  have hr := Bd.returns
  have hts := atoms_spec (ws := wsX5_chosen) Bd.pre
  have hown : s.vm.findClass RX5 = some m.cls := findClass_of_methodNamed Bd.named
  have hlocks := Bd.notSynchronized
  have hSf : CallFix p m c cX5_chosen 6 s ([.ref h5, .ref h0, .int (zI ((L1 : Nat) : Int))] : List Value).toArray wsX5_chosen RX5 := ⟨hx, hb, hml, hown, hts⟩
  have hinX5 : ∀ w ∈ u_ws RX5 TX5 1, w ∈ wsX5_chosen := by decide +kernel
  have fl9 := hts (.fieldLink RX5 9 "DotObjects$Order" "order" "[I") (by decide +kernel)
  have hl := lv_entry ([.ref h5, .ref h0, .int (zI ((L1 : Nat) : Int))]) (n := 6) (Nat.le_of_ble_eq_true rfl)
  rw [lg_entry_eq]
  generalize (lg_sl ([.ref h5, .ref h0, .int (zI ((L1 : Nat) : Int))]) ++ List.replicate (6 - (lg_sl ([.ref h5, .ref h0, .int (zI ((L1 : Nat) : Int))])).length) Slot.unset).toArray = ls at hl ⊢
  have hl : lv_has ls 6 [(0, .ref h5), (1, .ref h0), (2, .int (zI ((L1 : Nat) : Int)))] := hl
  have hn := hV.n
  have hv0 := hV.1
  have hv1 := hV.2.1
  refine lv_aload_n hx hb dX5_chosen_0 rfl (lv_at hl 1 rfl) ?_
  refine z_iconst hx hb dX5_chosen_1 ?_
  refine roV (n := 1) (As := [.int (zI ((1 : Nat) : Int))]) (rest := []) hSf (c_cell l D k h0 c0 f 1 (by omega)) gX5_chosen_X7_cell rfl (by decide +kernel) ⟨Nat.le_of_ble_eq_true rfl, Nat.le_of_ble_eq_true rfl⟩ hK hP [0, 1] rfl 0 rfl rfl rfl hl.1 (by rw [show zI 1 = zI ((1 : Nat) : Int) from zc (by omega)]; rfl) (Nat.le_of_ble_eq_true rfl) dX5_chosen_2 ⟨Nat.zero_le _, Nat.zero_le _⟩ (fun r_2 h_2 => ?_)
  subst h_2
  refine lv_istore_n (lv' := [(3, .int (zI (f 1))), (0, .ref h5), (1, .ref h0), (2, .int (zI ((L1 : Nat) : Int)))]) hx hb dX5_chosen_5 rfl hl (by decide) rfl (fun ls hl => ?_)
  refine z_iconst hx hb dX5_chosen_6 ?_
  refine lv_istore (lv' := [(4, .int (zI 0)), (3, .int (zI (f 1))), (0, .ref h5), (1, .ref h0), (2, .int (zI ((L1 : Nat) : Int)))]) hx hb dX5_chosen_7 hl (by decide) rfl (fun ls hl => ?_)
  refine z_iconst hx hb dX5_chosen_9 ?_
  refine lv_istore (lv' := [(5, .int (zI 0)), (4, .int (zI 0)), (3, .int (zI (f 1))), (0, .ref h5), (1, .ref h0), (2, .int (zI ((L1 : Nat) : Int)))]) hx hb dX5_chosen_10 hl (by decide) rfl (fun ls hl => ?_)
  have L12 : ∀ (NN12 : Nat), ∀ (kk : Nat) (SS : Nat), (kk ≤ nT f) → (chI f o L1 kk SS) → (((ct (fun j => onL f (o j).toNat L1) kk : Nat) : Int) ≤ f 1) → nT f - kk < NN12 → ∀ (ls : Array Slot), lv_has ls 6 [(0, .ref h5), (1, .ref h0), (2, .int (zI ((L1 : Nat) : Int))), (3, .int (zI (f 1 - ((ct (fun j => onL f (o j).toNat L1) kk : Nat) : Int)))), (4, .int (zI ((SS : Nat) : Int))), (5, .int (zI ((kk : Nat) : Int)))] → W p l e (headSpec wsX5_chosen { frames := 2, cells := 0, slots := 0, locals := 44 }).room s m ([.ref h5, .ref h0, .int (zI ((L1 : Nat) : Int))] : List Value).toArray below meth c s.heap [] 0 0 (MQ below (vp_Si (fun r => r = zI ((drS f ru (f 1) L1 : Nat) : Int))) ([.ref h5, .ref h0, .int (zI ((L1 : Nat) : Int))] : List Value).toArray s 0 0 (fun _ => False)) (F0 m 12 ls []) := by
    intro NN12
    induction NN12 with
    | zero => intro kk SS _ _ _ hN; exact absurd hN (Nat.not_lt_zero _)
    | succ NN12 ih12 =>
      intro kk SS hkk hI hc hN ls hl
      have hSS := hI.1
      refine lv_iload hx hb dX5_chosen_12 (lv_at hl 5 rfl) ?_
      refine lv_aload_n hx hb dX5_chosen_14 rfl (lv_at hl 1 rfl) ?_
      refine z_iconst hx hb dX5_chosen_15 ?_
      refine roV (n := 1) (As := [.int (zI ((0 : Nat) : Int))]) (rest := [.int (zI ((kk : Nat) : Int))]) hSf (c_cell l D k h0 c0 f 0 (by omega)) gX5_chosen_X7_cell rfl (by decide +kernel) ⟨Nat.le_of_ble_eq_true rfl, Nat.le_of_ble_eq_true rfl⟩ hK hP [0, 1] rfl 0 rfl rfl rfl hl.1 (by rw [show zI 0 = zI ((0 : Nat) : Int) from zc (by omega)]; rfl) (Nat.le_of_ble_eq_true rfl) dX5_chosen_16 ⟨Nat.zero_le _, Nat.zero_le _⟩ (fun r_16 h_16 => ?_)
      subst h_16
      refine z_icmp_ge (tgt := 64) hx hb dX5_chosen_19 (by decide) (by omega) (by omega) (fun c_19 => ?_) (fun c_19 => ?_)
      · refine lv_iload hx hb dX5_chosen_64 (lv_at hl 4 rfl) ?_
        exact W.iret hx hb hr (fun t ht hW => ⟨_, rfl, zc (congrArg Nat.cast (chI_end hO hkk hI hc (Or.inl (by omega)))), ht⟩) (fun q hq => by cases hq) dX5_chosen_66
      · have ho := hO.1 kk (by omega)
        refine lv_iload_n hx hb dX5_chosen_22 rfl (lv_at hl 3 rfl) ?_
        refine z_if_le (tgt := 64) hx hb dX5_chosen_23 (by decide) (by omega) (fun c_23 => ?_) (fun c_23 => ?_)
        · refine lv_iload hx hb dX5_chosen_64 (lv_at hl 4 rfl) ?_
          exact W.iret hx hb hr (fun t ht hW => ⟨_, rfl, zc (congrArg Nat.cast (chI_end hO hkk hI hc (Or.inr (by omega)))), ht⟩) (fun q hq => by cases hq) dX5_chosen_66
        · refine lv_aload_n hx hb dX5_chosen_26 rfl (lv_at hl 1 rfl) ?_
          refine lv_aload_n hx hb dX5_chosen_27 rfl (lv_at hl 0 rfl) ?_
          refine va_get (D := D) (ci := 5) (v := .ref a5) (C := RX5) (T := TX5) (N := 1) hx hb hts hinX5 hown hK.1 hP 2 rfl rfl 0 (by decide) fl9 (fun _ h9 => h9) rfl dX5_chosen_28 ?_
          refine lv_iload hx hb dX5_chosen_31 (lv_at hl 5 rfl) ?_
          refine z_ald hx hb hK hP 3 rfl (kk) (by omega) (by omega) (Nat.le_of_ble_eq_true rfl) dX5_chosen_33 ?_
          refine lv_iload_n hx hb dX5_chosen_34 rfl (lv_at hl 2 rfl) ?_
          refine roV (n := 2) (As := [.int (zI ((((o kk).toNat) : Nat) : Int)), .int (zI ((L1 : Nat) : Int))]) (rest := []) hSf (c_isOn l D k h0 c0 f B hV ((o kk).toNat) L1 (by omega) hL1) gX5_chosen_X7_isOn rfl (by decide +kernel) ⟨Nat.le_of_ble_eq_true rfl, Nat.le_of_ble_eq_true rfl⟩ hK hP [0, 1] rfl 0 rfl rfl rfl hl.1 (by rw [show zI (o kk) = zI ((((o kk).toNat) : Nat) : Int) from zc (by omega)]; rfl) (Nat.le_of_ble_eq_true rfl) dX5_chosen_35 ⟨Nat.zero_le _, Nat.zero_le _⟩ (fun r_35 h_35 => ?_)
          subst h_35
          refine z_if_eqb (tgt := 58) hx hb dX5_chosen_38 (by decide) (fun c_38 => ?_) (fun c_38 => ?_)
          · refine lv_iinc (v := zI (((kk : Nat) : Int) + 1)) (lv' := [(5, .int (zI (((kk : Nat) : Int) + 1))), (0, .ref h5), (1, .ref h0), (2, .int (zI ((L1 : Nat) : Int))), (3, .int (zI (f 1 - ((ct (fun j => onL f (o j).toNat L1) kk : Nat) : Int)))), (4, .int (zI ((SS : Nat) : Int)))]) hx hb dX5_chosen_58 hl (k := 5) rfl (zI_add _ _) (by decide) rfl (fun ls hl => ?_)
            refine lv_goto (tgt := 12) hx hb dX5_chosen_61 (by decide) ?_
            have hl : lv_has ls 6 [(5, .int (zI (((kk : Nat) : Int) + 1))), (0, .ref h5), (1, .ref h0), (2, .int (zI ((L1 : Nat) : Int))), (3, .int (zI (f 1 - ((ct (fun j => onL f (o j).toNat L1) (kk + 1) : Nat) : Int)))), (4, .int (zI ((SS : Nat) : Int)))] := lv_c (l1 := [(5, .int (zI (((kk : Nat) : Int) + 1))), (0, .ref h5), (1, .ref h0), (2, .int (zI ((L1 : Nat) : Int)))]) (l2 := [(4, .int (zI ((SS : Nat) : Int)))]) hl (show f 1 - ((ct (fun j => onL f (o j).toNat L1) kk : Nat) : Int) = f 1 - ((ct (fun j => onL f (o j).toNat L1) (kk + 1) : Nat) : Int) from by rw [ct, c_38]; rfl)
            have hl : lv_has ls 6 [(5, .int (zI (((kk + 1) : Nat) : Int))), (0, .ref h5), (1, .ref h0), (2, .int (zI ((L1 : Nat) : Int))), (3, .int (zI (f 1 - ((ct (fun j => onL f (o j).toNat L1) (kk + 1) : Nat) : Int)))), (4, .int (zI ((SS : Nat) : Int)))] := lv_c (l1 := []) (l2 := [(0, .ref h5), (1, .ref h0), (2, .int (zI ((L1 : Nat) : Int))), (3, .int (zI (f 1 - ((ct (fun j => onL f (o j).toNat L1) (kk + 1) : Nat) : Int)))), (4, .int (zI ((SS : Nat) : Int)))]) hl (show ((kk : Nat) : Int) + 1 = (((kk + 1) : Nat) : Int) from by omega)
            exact ih12 (kk + 1) SS (by omega) (chI_n hI c_38) (by rw [ct, c_38]; exact hc) (by omega) ls (lv_sub hl [1, 2, 3, 4, 5, 0] rfl)
          · refine lv_iload hx hb dX5_chosen_41 (lv_at hl 4 rfl) ?_
            refine z_iconst hx hb dX5_chosen_43 ?_
            refine lv_aload_n hx hb dX5_chosen_44 rfl (lv_at hl 0 rfl) ?_
            refine va_get (D := D) (ci := 5) (v := .ref a5) (C := RX5) (T := TX5) (N := 1) hx hb hts hinX5 hown hK.1 hP 2 rfl rfl 0 (by decide) fl9 (fun _ h9 => h9) rfl dX5_chosen_45 ?_
            refine lv_iload hx hb dX5_chosen_48 (lv_at hl 5 rfl) ?_
            refine z_ald hx hb hK hP 3 rfl (kk) (by omega) (by omega) (Nat.le_of_ble_eq_true rfl) dX5_chosen_50 ?_
            refine z_ishl hx hb dX5_chosen_51 (1) ((o kk).toNat) (by omega) (by omega) (by omega) (sh1_lt (n := 12) (by omega) (by decide)) ?_
            refine z_ior hx hb dX5_chosen_52 (SS) (1 <<< ((o kk).toNat)) (by omega) (by omega) ?_
            refine lv_istore (lv' := [(4, .int (zI ((SS ||| (1 <<< ((o kk).toNat)) : Nat) : Int))), (0, .ref h5), (1, .ref h0), (2, .int (zI ((L1 : Nat) : Int))), (3, .int (zI (f 1 - ((ct (fun j => onL f (o j).toNat L1) kk : Nat) : Int)))), (5, .int (zI ((kk : Nat) : Int)))]) hx hb dX5_chosen_53 hl (by decide) rfl (fun ls hl => ?_)
            refine lv_iinc (v := zI ((f 1 - ((ct (fun j => onL f (o j).toNat L1) kk : Nat) : Int)) + (-1))) (lv' := [(3, .int (zI ((f 1 - ((ct (fun j => onL f (o j).toNat L1) kk : Nat) : Int)) + (-1)))), (4, .int (zI ((SS ||| (1 <<< ((o kk).toNat)) : Nat) : Int))), (0, .ref h5), (1, .ref h0), (2, .int (zI ((L1 : Nat) : Int))), (5, .int (zI ((kk : Nat) : Int)))]) hx hb dX5_chosen_55 hl (k := 4) rfl (zI_add _ _) (by decide) rfl (fun ls hl => ?_)
            refine lv_iinc (v := zI (((kk : Nat) : Int) + 1)) (lv' := [(5, .int (zI (((kk : Nat) : Int) + 1))), (3, .int (zI ((f 1 - ((ct (fun j => onL f (o j).toNat L1) kk : Nat) : Int)) + (-1)))), (4, .int (zI ((SS ||| (1 <<< ((o kk).toNat)) : Nat) : Int))), (0, .ref h5), (1, .ref h0), (2, .int (zI ((L1 : Nat) : Int)))]) hx hb dX5_chosen_58 hl (k := 5) rfl (zI_add _ _) (by decide) rfl (fun ls hl => ?_)
            refine lv_goto (tgt := 12) hx hb dX5_chosen_61 (by decide) ?_
            have hl : lv_has ls 6 [(5, .int (zI (((kk : Nat) : Int) + 1))), (3, .int (zI (f 1 - ((ct (fun j => onL f (o j).toNat L1) (kk + 1) : Nat) : Int)))), (4, .int (zI ((SS ||| (1 <<< ((o kk).toNat)) : Nat) : Int))), (0, .ref h5), (1, .ref h0), (2, .int (zI ((L1 : Nat) : Int)))] := lv_c (l1 := [(5, .int (zI (((kk : Nat) : Int) + 1)))]) (l2 := [(4, .int (zI ((SS ||| (1 <<< ((o kk).toNat)) : Nat) : Int))), (0, .ref h5), (1, .ref h0), (2, .int (zI ((L1 : Nat) : Int)))]) hl (show (f 1 - ((ct (fun j => onL f (o j).toNat L1) kk : Nat) : Int)) + (-1) = f 1 - ((ct (fun j => onL f (o j).toNat L1) (kk + 1) : Nat) : Int) from by rw [ct, c_38]; have t1 : (true).toNat = 1 := rfl; omega)
            have hl : lv_has ls 6 [(5, .int (zI (((kk + 1) : Nat) : Int))), (3, .int (zI (f 1 - ((ct (fun j => onL f (o j).toNat L1) (kk + 1) : Nat) : Int)))), (4, .int (zI ((SS ||| (1 <<< ((o kk).toNat)) : Nat) : Int))), (0, .ref h5), (1, .ref h0), (2, .int (zI ((L1 : Nat) : Int)))] := lv_c (l1 := []) (l2 := [(3, .int (zI (f 1 - ((ct (fun j => onL f (o j).toNat L1) (kk + 1) : Nat) : Int)))), (4, .int (zI ((SS ||| (1 <<< ((o kk).toNat)) : Nat) : Int))), (0, .ref h5), (1, .ref h0), (2, .int (zI ((L1 : Nat) : Int)))]) hl (show ((kk : Nat) : Int) + 1 = (((kk + 1) : Nat) : Int) from by omega)
            exact ih12 (kk + 1) (SS ||| 1 <<< (o kk).toNat) (by omega) (chI_y hI (by omega) c_38) (by rw [ct, c_38]; have t1 : (true).toNat = 1 := rfl; omega) (by omega) ls (lv_sub hl [3, 4, 5, 1, 2, 0] rfl)
  have hl : lv_has ls 6 [(5, .int (zI 0)), (4, .int (zI 0)), (3, .int (zI (f 1 - ((ct (fun j => onL f (o j).toNat L1) 0 : Nat) : Int)))), (0, .ref h5), (1, .ref h0), (2, .int (zI ((L1 : Nat) : Int)))] := lv_c (l1 := [(5, .int (zI 0)), (4, .int (zI 0))]) (l2 := [(0, .ref h5), (1, .ref h0), (2, .int (zI ((L1 : Nat) : Int)))]) hl (show f 1 = f 1 - ((ct (fun j => onL f (o j).toNat L1) 0 : Nat) : Int) from by show f 1 = f 1 - ((0 : Nat) : Int); omega)
  have hl : lv_has ls 6 [(5, .int (zI 0)), (4, .int (zI ((0 : Nat) : Int))), (3, .int (zI (f 1 - ((ct (fun j => onL f (o j).toNat L1) 0 : Nat) : Int)))), (0, .ref h5), (1, .ref h0), (2, .int (zI ((L1 : Nat) : Int)))] := lv_c (l1 := [(5, .int (zI 0))]) (l2 := [(3, .int (zI (f 1 - ((ct (fun j => onL f (o j).toNat L1) 0 : Nat) : Int)))), (0, .ref h5), (1, .ref h0), (2, .int (zI ((L1 : Nat) : Int)))]) hl (show 0 = ((0 : Nat) : Int) from rfl)
  have hl : lv_has ls 6 [(5, .int (zI ((0 : Nat) : Int))), (4, .int (zI ((0 : Nat) : Int))), (3, .int (zI (f 1 - ((ct (fun j => onL f (o j).toNat L1) 0 : Nat) : Int)))), (0, .ref h5), (1, .ref h0), (2, .int (zI ((L1 : Nat) : Int)))] := lv_c (l1 := []) (l2 := [(4, .int (zI ((0 : Nat) : Int))), (3, .int (zI (f 1 - ((ct (fun j => onL f (o j).toNat L1) 0 : Nat) : Int)))), (0, .ref h5), (1, .ref h0), (2, .int (zI ((L1 : Nat) : Int)))]) hl (show 0 = ((0 : Nat) : Int) from rfl)
  exact L12 _ 0 0 (Nat.zero_le _) chI_0 (by show ((0 : Nat) : Int) ≤ f 1; omega) (Nat.lt_succ_self _) ls (lv_sub hl [3, 4, 5, 2, 1, 0] rfl)
