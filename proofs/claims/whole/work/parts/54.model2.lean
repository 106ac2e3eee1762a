/-! THE REFERENCE, asked -/
theorem mis_jy {f : St} {jj cc : Nat} (h32 : cc = 32) (hz : cc = 0 ∨ onS f jj ≠ dN f jj) : ((sm (fun q => misL f (f 2) q) jj + ct (fun cl => decide (colA f (dN f jj) jj cl ≠ colA f (onS f jj) jj cl)) cc : Nat) : Int) = ((sm (fun q => misL f (f 2) q) (jj + 1) : Nat) : Int) := by
  have hne : onS f jj ≠ dN f jj := by rcases hz with z | z; omega; exact z
  have e : misL f (f 2) jj = ct (fun cl => decide (colA f (dN f jj) jj cl ≠ colA f (onS f jj) jj cl)) 32 := if_neg (Ne.symm hne)
  rw [h32, sm, e]
theorem mis_jn {f : St} {jj cc : Nat} (hz : cc = 0 ∨ onS f jj ≠ dN f jj) (h : ((onS f jj : Nat) : Int) = ((dN f jj : Nat) : Int)) : ((sm (fun q => misL f (f 2) q) jj + ct (fun cl => decide (colA f (dN f jj) jj cl ≠ colA f (onS f jj) jj cl)) cc : Nat) : Int) = ((sm (fun q => misL f (f 2) q) (jj + 1) : Nat) : Int) := by
  have he : onS f jj = dN f jj := by omega
  have hc : cc = 0 := by rcases hz with z | z; exact z; exact absurd he z
  have e : misL f (f 2) jj = 0 := if_pos he.symm
  rw [hc, sm, e, ct]
theorem fil_j {f : St} {jj cc : Nat} (h32 : cc = 32) : ((sm (fun q => fillL f q) jj + ct (fun cl => decide (seenA f (dN f jj) jj cl ≠ -1)) cc : Nat) : Int) = ((sm (fun q => fillL f q) (jj + 1) : Nat) : Int) := by
  rw [h32, sm]; rfl
theorem dof_y {f : St} {w : Int} {t jj cc : Nat} (h32 : cc = 32) (hz : cc = 0 ∨ (dN f jj).testBit t = true) : ((sm (fun q => doL f w t q) jj + ct (doP f w t jj) cc : Nat) : Int) = ((sm (fun q => doL f w t q) (jj + 1) : Nat) : Int) := by
  have hb : (dN f jj).testBit t = true := by rcases hz with z | z; omega; exact z
  rw [h32, sm, doL_in hb]
theorem dof_n {f : St} {B w : Int} {t jj cc : Nat} (hV : Va B f) (hz : cc = 0 ∨ (dN f jj).testBit t = true) (h : (dN f jj).testBit t = false) : ((sm (fun q => doL f w t q) jj + ct (doP f w t jj) cc : Nat) : Int) = ((sm (fun q => doL f w t q) (jj + 1) : Nat) : Int) := by
  have hc : cc = 0 := by rcases hz with z | z; exact z; rw [h] at z; cases z
  rw [hc, sm, doL_out hV h, ct]
theorem doL0 (f : St) (t n : Nat) : sm (fun q => doL f 0 t q) n = sm (fun q => seeL f t q) n := sm_cong (fun q _ => if_pos rfl)
theorem doL1 (f : St) (t n : Nat) : sm (fun q => doL f 1 t q) n = sm (fun q => covL f t q) n := sm_cong (fun q _ => if_neg (by decide))
def mG (f : St) (a : Int) (q : Nat) : Nat := if a = 0 then dN f q else onS f q
theorem mG0 (f : St) (t n : Nat) : orS (fun q => tchN f q (mG f 0 q) t) n = orS (fun q => tchN f q (dN f q) t) n := orS_cong (fun q _ => by unfold mG; rw [if_pos rfl])
theorem mG1 (f : St) (t n : Nat) : orS (fun q => tchN f q (mG f 1 q) t) n = orS (fun q => tchN f q (onS f q) t) n := orS_cong (fun q _ => by unfold mG; rw [if_neg (by decide)])
theorem mG_lt {f : St} {B : Int} (hV : Va B f) (a : Int) (q : Nat) : mG f a q < 4096 := by
  unfold mG
  split
  · exact dN_lt hV q
  · exact onS_lt hV q
theorem mt_e {f : St} {G : Nat → Nat} {j t cc A : Nat} (hc : cc = 32) (h : mtI f (fun q => tchN f q (G q) t) j (G j) t cc 0 A) (hz : cc = 0 ∧ A = orS (fun q => tchN f q (G q) t) j ∨ (G j).testBit t = true) : A = orS (fun q => tchN f q (G q) t) (j + 1) := by
  have hs : (G j).testBit t = true := by rcases hz with z | z; omega; exact z
  subst hc
  exact mtI_e h hs
theorem mt_o {f : St} {G : Nat → Nat} {j t cc A : Nat} (hz : cc = 0 ∧ A = orS (fun q => tchN f q (G q) t) j ∨ (G j).testBit t = true) (h : (G j).testBit t = false) : A = orS (fun q => tchN f q (G q) t) (j + 1) := by
  rcases hz with ⟨-, z⟩ | z
  · rw [z]; exact orS_o h
  · rw [h] at z; cases z
set_option maxHeartbeats 4000000 in
set_option maxRecDepth 100000 in
theorem m_missing (l : Launch) (D : va_G) (k : Kt) (q0 : Nat) (qn : Nat) (qa : Nat) (qp : Nat) (qi : Nat) (qs : Nat) (qk : Nat) (qb : Nat) (qt : Nat) (qh : Nat) (qe : Nat) (de : Nat) (sv : Int) (bn : Nat) (f : St) (B : Int) (hV : Va B f) (hB : B < 1000000) (ts : Nat → Int) : MI l D k yX10_missing wsX10_missing 6 136 [.ref q0] [(q0, .inr (10, [.ref qn, .ref qa, .ref qp, .int (zI ((de : Nat) : Int)), .ref qi, .ref qs, .ref qk, .long (zL sv), .ref qb, .int (zI ((bn : Nat) : Int)), .ref qt, .ref qh, .ref qe])), (qn, .inl (k.1, 132, .inl (zF f))), (qt, .inl (k.1, 24, .inl (zF ts)))] (fun (r : Int32) (u : Nat → Int) => r = zI ((misF f (f 2) : Nat) : Int) ∧ True) (fun u => [(q0, .inr (10, [.ref qn, .ref qa, .ref qp, .int (zI ((de : Nat) : Int)), .ref qi, .ref qs, .ref qk, .long (zL sv), .ref qb, .int (zI ((bn : Nat) : Int)), .ref qt, .ref qh, .ref qe])), (qn, .inl (k.1, 132, .inl (zF f))), (qt, .inl (k.1, 24, .inl (zF u)))]) := by
  refine Met.ofW (cc := cX10_missing) (maxL := 5) (ret := (some .int)) (by decide) rfl ?_
  intro p e s m args below meth c s₁ Bd hml hv
  obtain ⟨rfl, hP, hK, hD0⟩ := hv
  have hx := Bd.exec
  have hb := Bd.bytes
  have hr := Bd.returns
  have hts := atoms_spec (ws := wsX10_missing) Bd.pre
  have hown : s.vm.findClass RX10 = some m.cls := findClass_of_methodNamed Bd.named
  have hlocks := Bd.notSynchronized
  have hSf : CallFix p m c cX10_missing 5 s ([.ref q0] : List Value).toArray wsX10_missing RX10 := ⟨hx, hb, hml, hown, hts⟩
  have hD := fA_D hD0
  have hS : va_S (fA [(q0, .inr (10, [.ref qn, .ref qa, .ref qp, .int (zI ((de : Nat) : Int)), .ref qi, .ref qs, .ref qk, .long (zL sv), .ref qb, .int (zI ((bn : Nat) : Int)), .ref qt, .ref qh, .ref qe])), (qn, .inl (k.1, 132, .inl (zF f))), (qt, .inl (k.1, 24, .inl (zF ts)))]) s.heap s.heap [] := va_S.rf
  generalize hAe : fA [(q0, .inr (10, [.ref qn, .ref qa, .ref qp, .int (zI ((de : Nat) : Int)), .ref qi, .ref qs, .ref qk, .long (zL sv), .ref qb, .int (zI ((bn : Nat) : Int)), .ref qt, .ref qh, .ref qe])), (qn, .inl (k.1, 132, .inl (zF f))), (qt, .inl (k.1, 24, .inl (zF ts)))] = A at hD hS ⊢
  have hP : va_P D vwCl [(q0, .inr (10, [.ref qn, .ref qa, .ref qp, .int (zI ((de : Nat) : Int)), .ref qi, .ref qs, .ref qk, .long (zL sv), .ref qb, .int (zI ((bn : Nat) : Int)), .ref qt, .ref qh, .ref qe])), (qn, .inl (k.1, 132, .inl (zF f))), (qt, .inl (k.1, 24, .inl (zF ts)))] s.heap := hP
  have hinX10 : ∀ w ∈ u_ws RX10 TX10 13, w ∈ wsX10_missing := by decide +kernel
  have fl33 := hts (.fieldLink RX10 33 "DotObjectsModel" "sets" "[I") (by decide +kernel)
  have hl := lv_entry ([.ref q0]) (n := 5) (Nat.le_of_ble_eq_true rfl)
  rw [lg_entry_eq]
  generalize (lg_sl ([.ref q0]) ++ List.replicate (5 - (lg_sl ([.ref q0])).length) Slot.unset).toArray = ls at hl ⊢
  have hl : lv_has ls 5 [(0, .ref q0)] := hl
  refine z_iconst hx hb dX10_missing_0 ?_
  refine lv_istore_n (lv' := [(1, .int (zI 0)), (0, .ref q0)]) hx hb dX10_missing_1 rfl hl (by decide) rfl (fun ls hl => ?_)
  refine lv_aload_n hx hb dX10_missing_2 rfl (lv_at hl 1 rfl) ?_
  refine muV (n := 0) (As := []) (rest := []) hSf (m_draws l D k q0 qn qa qp qi qs qk qb qt qh qe de sv bn f B hV hB ts) gX10_missing_X10_draws rfl (by decide +kernel) ⟨Nat.le_of_ble_eq_true rfl, Nat.le_of_ble_eq_true rfl⟩ hK hP hD hS [0, 1, 2] rfl rfl (by decide) (fun _ => rfl) (fun _ => rfl) 0 rfl rfl rfl hl.1 rfl (Nat.le_of_ble_eq_true rfl) dX10_missing_3 ⟨Nat.zero_le _, Nat.zero_le _⟩ (fun u_3 H locs h_3 hP hD hS => ?_)
  have hP : va_P D vwCl [(q0, .inr (10, [.ref qn, .ref qa, .ref qp, .int (zI ((de : Nat) : Int)), .ref qi, .ref qs, .ref qk, .long (zL sv), .ref qb, .int (zI ((bn : Nat) : Int)), .ref qt, .ref qh, .ref qe])), (qn, .inl (k.1, 132, .inl (zF f))), (qt, .inl (k.1, 24, .inl (zF u_3)))] H := hP
  have hD : va_D A [(q0, .inr (10, [.ref qn, .ref qa, .ref qp, .int (zI ((de : Nat) : Int)), .ref qi, .ref qs, .ref qk, .long (zL sv), .ref qb, .int (zI ((bn : Nat) : Int)), .ref qt, .ref qh, .ref qe])), (qn, .inl (k.1, 132, .inl (zF f))), (qt, .inl (k.1, 24, .inl (zF u_3)))] := hD
  refine z_iconst hx hb dX10_missing_6 ?_
  refine lv_istore_n (lv' := [(2, .int (zI 0)), (1, .int (zI 0)), (0, .ref q0)]) hx hb dX10_missing_7 rfl hl (by decide) rfl (fun ls hl => ?_)
  have L8 : ∀ (NN8 : Nat), ∀ (jj : Nat), (jj ≤ 24) → 24 - jj < NN8 → ∀ (H : Heap) (locs : List Loc), va_P D vwCl [(q0, .inr (10, [.ref qn, .ref qa, .ref qp, .int (zI ((de : Nat) : Int)), .ref qi, .ref qs, .ref qk, .long (zL sv), .ref qb, .int (zI ((bn : Nat) : Int)), .ref qt, .ref qh, .ref qe])), (qn, .inl (k.1, 132, .inl (zF f))), (qt, .inl (k.1, 24, .inl (zF u_3)))] H → va_D A [(q0, .inr (10, [.ref qn, .ref qa, .ref qp, .int (zI ((de : Nat) : Int)), .ref qi, .ref qs, .ref qk, .long (zL sv), .ref qb, .int (zI ((bn : Nat) : Int)), .ref qt, .ref qh, .ref qe])), (qn, .inl (k.1, 132, .inl (zF f))), (qt, .inl (k.1, 24, .inl (zF u_3)))] → va_S A s.heap H locs → ∀ (ls : Array Slot), lv_has ls 5 [(0, .ref q0), (1, .int (zI ((sm (fun q => misL f (f 2) q) jj : Nat) : Int))), (2, .int (zI ((jj : Nat) : Int)))] → W p l e (headSpec wsX10_missing { frames := 6, cells := 0, slots := 0, locals := 136 }).room s m ([.ref q0] : List Value).toArray below meth c H locs 0 0 (MQ below (va_Qi (fun (r : Int32) (u : Nat → Int) => r = zI ((misF f (f 2) : Nat) : Int) ∧ True) (fun (u : Nat → Int) t => va_P D vwCl [(q0, .inr (10, [.ref qn, .ref qa, .ref qp, .int (zI ((de : Nat) : Int)), .ref qi, .ref qs, .ref qk, .long (zL sv), .ref qb, .int (zI ((bn : Nat) : Int)), .ref qt, .ref qh, .ref qe])), (qn, .inl (k.1, 132, .inl (zF f))), (qt, .inl (k.1, 24, .inl (zF u)))] t.heap) A) ([.ref q0] : List Value).toArray s 0 0 A) (F0 m 8 ls []) := by
    intro NN8
    induction NN8 with
    | zero => intro jj _ hN; exact absurd hN (Nat.not_lt_zero _)
    | succ NN8 ih8 =>
      intro jj hjj hN H locs hP hD hS ls hl
      refine lv_iload_n hx hb dX10_missing_8 rfl (lv_at hl 2 rfl) ?_
      refine z_bipush hx hb dX10_missing_9 (by decide +kernel) ?_
      refine z_icmp_ge (tgt := 84) hx hb dX10_missing_11 (by decide) (by omega) (by omega) (fun c_11 => ?_) (fun c_11 => ?_)
      · have hj24 : jj = 24 := by omega
        refine lv_iload_n hx hb dX10_missing_84 rfl (lv_at hl 1 rfl) ?_
        exact W.iret hx hb hr (fun t ht hW => ⟨⟨_, u_3, rfl, ⟨zc (by rw [hj24]; rfl), trivial⟩, by show va_P D vwCl _ _; rw [ht]; exact hP⟩, hS.F ht⟩) hS.2.2 dX10_missing_85
      · have hos := onS_lt hV jj
        have hds := dN_lt hV jj
        refine lv_aload_n hx hb dX10_missing_14 rfl (lv_at hl 0 rfl) ?_
        refine lv_iload_n hx hb dX10_missing_15 rfl (lv_at hl 2 rfl) ?_
        refine roV (n := 1) (As := [.int (zI ((jj : Nat) : Int))]) (rest := []) hSf (m_onLine l D k q0 qn qa qp qi qs qk qb qt qh qe de sv bn f B hV hB jj (by omega)) gX10_missing_X10_onLine rfl (by decide +kernel) ⟨Nat.le_of_ble_eq_true rfl, Nat.le_of_ble_eq_true rfl⟩ hK hP [0, 1] rfl 0 rfl rfl rfl hl.1 rfl (Nat.le_of_ble_eq_true rfl) dX10_missing_16 ⟨Nat.zero_le _, Nat.zero_le _⟩ (fun r_16 h_16 => ?_)
        subst h_16
        refine lv_istore_n (lv' := [(3, .int (zI ((onS f jj : Nat) : Int))), (0, .ref q0), (1, .int (zI ((sm (fun q => misL f (f 2) q) jj : Nat) : Int))), (2, .int (zI ((jj : Nat) : Int)))]) hx hb dX10_missing_19 rfl hl (by decide) rfl (fun ls hl => ?_)
        refine z_iconst hx hb dX10_missing_20 ?_
        refine lv_istore (lv' := [(4, .int (zI 0)), (3, .int (zI ((onS f jj : Nat) : Int))), (0, .ref q0), (1, .int (zI ((sm (fun q => misL f (f 2) q) jj : Nat) : Int))), (2, .int (zI ((jj : Nat) : Int)))]) hx hb dX10_missing_21 hl (by decide) rfl (fun ls hl => ?_)
        have L23 : ∀ (NN23 : Nat), ∀ (cc : Nat), (cc ≤ 32) → (cc = 0 ∨ onS f jj ≠ dN f jj) → 32 - cc < NN23 → ∀ (H : Heap) (locs : List Loc), va_P D vwCl [(q0, .inr (10, [.ref qn, .ref qa, .ref qp, .int (zI ((de : Nat) : Int)), .ref qi, .ref qs, .ref qk, .long (zL sv), .ref qb, .int (zI ((bn : Nat) : Int)), .ref qt, .ref qh, .ref qe])), (qn, .inl (k.1, 132, .inl (zF f))), (qt, .inl (k.1, 24, .inl (zF u_3)))] H → va_D A [(q0, .inr (10, [.ref qn, .ref qa, .ref qp, .int (zI ((de : Nat) : Int)), .ref qi, .ref qs, .ref qk, .long (zL sv), .ref qb, .int (zI ((bn : Nat) : Int)), .ref qt, .ref qh, .ref qe])), (qn, .inl (k.1, 132, .inl (zF f))), (qt, .inl (k.1, 24, .inl (zF u_3)))] → va_S A s.heap H locs → ∀ (ls : Array Slot), lv_has ls 5 [(0, .ref q0), (1, .int (zI ((sm (fun q => misL f (f 2) q) jj + ct (fun cl => decide (colA f (dN f jj) jj cl ≠ colA f (onS f jj) jj cl)) cc : Nat) : Int))), (2, .int (zI ((jj : Nat) : Int))), (3, .int (zI ((onS f jj : Nat) : Int))), (4, .int (zI ((cc : Nat) : Int)))] → W p l e (headSpec wsX10_missing { frames := 6, cells := 0, slots := 0, locals := 136 }).room s m ([.ref q0] : List Value).toArray below meth c H locs 0 0 (MQ below (va_Qi (fun (r : Int32) (u : Nat → Int) => r = zI ((misF f (f 2) : Nat) : Int) ∧ True) (fun (u : Nat → Int) t => va_P D vwCl [(q0, .inr (10, [.ref qn, .ref qa, .ref qp, .int (zI ((de : Nat) : Int)), .ref qi, .ref qs, .ref qk, .long (zL sv), .ref qb, .int (zI ((bn : Nat) : Int)), .ref qt, .ref qh, .ref qe])), (qn, .inl (k.1, 132, .inl (zF f))), (qt, .inl (k.1, 24, .inl (zF u)))] t.heap) A) ([.ref q0] : List Value).toArray s 0 0 A) (F0 m 23 ls []) := by
          intro NN23
          induction NN23 with
          | zero => intro cc _ _ hN; exact absurd hN (Nat.not_lt_zero _)
          | succ NN23 ih23 =>
            intro cc hcc hz hN H locs hP hD hS ls hl
            refine lv_iload hx hb dX10_missing_23 (lv_at hl 4 rfl) ?_
            refine z_bipush hx hb dX10_missing_25 (by decide +kernel) ?_
            refine z_icmp_ge (tgt := 78) hx hb dX10_missing_27 (by decide) (by omega) (by omega) (fun c_27 => ?_) (fun c_27 => ?_)
            · have hc32 : cc = 32 := by omega
              refine lv_iinc (v := zI (((jj : Nat) : Int) + 1)) (lv' := [(2, .int (zI (((jj : Nat) : Int) + 1))), (0, .ref q0), (1, .int (zI ((sm (fun q => misL f (f 2) q) jj + ct (fun cl => decide (colA f (dN f jj) jj cl ≠ colA f (onS f jj) jj cl)) cc : Nat) : Int))), (3, .int (zI ((onS f jj : Nat) : Int))), (4, .int (zI ((cc : Nat) : Int)))]) hx hb dX10_missing_78 hl (k := 2) rfl (zI_add _ _) (by decide) rfl (fun ls hl => ?_)
              refine lv_goto (tgt := 8) hx hb dX10_missing_81 (by decide) ?_
              have hl : lv_has ls 5 [(2, .int (zI (((jj : Nat) : Int) + 1))), (0, .ref q0), (1, .int (zI ((sm (fun q => misL f (f 2) q) (jj + 1) : Nat) : Int))), (3, .int (zI ((onS f jj : Nat) : Int))), (4, .int (zI ((cc : Nat) : Int)))] := lv_c (l1 := [(2, .int (zI (((jj : Nat) : Int) + 1))), (0, .ref q0)]) (l2 := [(3, .int (zI ((onS f jj : Nat) : Int))), (4, .int (zI ((cc : Nat) : Int)))]) hl (show ((sm (fun q => misL f (f 2) q) jj + ct (fun cl => decide (colA f (dN f jj) jj cl ≠ colA f (onS f jj) jj cl)) cc : Nat) : Int) = ((sm (fun q => misL f (f 2) q) (jj + 1) : Nat) : Int) from mis_jy hc32 hz)
              have hl : lv_has ls 5 [(2, .int (zI (((jj + 1) : Nat) : Int))), (0, .ref q0), (1, .int (zI ((sm (fun q => misL f (f 2) q) (jj + 1) : Nat) : Int))), (3, .int (zI ((onS f jj : Nat) : Int))), (4, .int (zI ((cc : Nat) : Int)))] := lv_c (l1 := []) (l2 := [(0, .ref q0), (1, .int (zI ((sm (fun q => misL f (f 2) q) (jj + 1) : Nat) : Int))), (3, .int (zI ((onS f jj : Nat) : Int))), (4, .int (zI ((cc : Nat) : Int)))]) hl (show ((jj : Nat) : Int) + 1 = (((jj + 1) : Nat) : Int) from by omega)
              exact ih8 (jj + 1) (by omega) (by omega) _ _ hP hD hS ls (lv_sub hl [1, 2, 0] rfl)
            · refine lv_iload_n hx hb dX10_missing_30 rfl (lv_at hl 3 rfl) ?_
              refine lv_aload_n hx hb dX10_missing_31 rfl (lv_at hl 0 rfl) ?_
              refine va_get (D := D) (ci := 10) (v := .ref qt) (C := RX10) (T := TX10) (N := 13) hx hb hts hinX10 hown hK.1 hP 0 rfl rfl 10 (by decide) fl33 (fun _ h9 => h9) rfl dX10_missing_32 ?_
              refine lv_iload_n hx hb dX10_missing_35 rfl (lv_at hl 2 rfl) ?_
              refine z_ald hx hb hK hP 2 rfl (jj) (by omega) (by omega) (Nat.le_of_ble_eq_true rfl) dX10_missing_36 ?_
              refine te (zc (show u_3 jj = ((dN f jj : Nat) : Int) from h_3 _ (by omega))) ?_
              refine z_icmp_eq (tgt := 78) hx hb dX10_missing_37 (by decide) (by omega) (by omega) (fun c_37 => ?_) (fun c_37 => ?_)
              · refine lv_iinc (v := zI (((jj : Nat) : Int) + 1)) (lv' := [(2, .int (zI (((jj : Nat) : Int) + 1))), (0, .ref q0), (1, .int (zI ((sm (fun q => misL f (f 2) q) jj + ct (fun cl => decide (colA f (dN f jj) jj cl ≠ colA f (onS f jj) jj cl)) cc : Nat) : Int))), (3, .int (zI ((onS f jj : Nat) : Int))), (4, .int (zI ((cc : Nat) : Int)))]) hx hb dX10_missing_78 hl (k := 2) rfl (zI_add _ _) (by decide) rfl (fun ls hl => ?_)
                refine lv_goto (tgt := 8) hx hb dX10_missing_81 (by decide) ?_
                have hl : lv_has ls 5 [(2, .int (zI (((jj : Nat) : Int) + 1))), (0, .ref q0), (1, .int (zI ((sm (fun q => misL f (f 2) q) (jj + 1) : Nat) : Int))), (3, .int (zI ((onS f jj : Nat) : Int))), (4, .int (zI ((cc : Nat) : Int)))] := lv_c (l1 := [(2, .int (zI (((jj : Nat) : Int) + 1))), (0, .ref q0)]) (l2 := [(3, .int (zI ((onS f jj : Nat) : Int))), (4, .int (zI ((cc : Nat) : Int)))]) hl (show ((sm (fun q => misL f (f 2) q) jj + ct (fun cl => decide (colA f (dN f jj) jj cl ≠ colA f (onS f jj) jj cl)) cc : Nat) : Int) = ((sm (fun q => misL f (f 2) q) (jj + 1) : Nat) : Int) from mis_jn hz c_37)
                have hl : lv_has ls 5 [(2, .int (zI (((jj + 1) : Nat) : Int))), (0, .ref q0), (1, .int (zI ((sm (fun q => misL f (f 2) q) (jj + 1) : Nat) : Int))), (3, .int (zI ((onS f jj : Nat) : Int))), (4, .int (zI ((cc : Nat) : Int)))] := lv_c (l1 := []) (l2 := [(0, .ref q0), (1, .int (zI ((sm (fun q => misL f (f 2) q) (jj + 1) : Nat) : Int))), (3, .int (zI ((onS f jj : Nat) : Int))), (4, .int (zI ((cc : Nat) : Int)))]) hl (show ((jj : Nat) : Int) + 1 = (((jj + 1) : Nat) : Int) from by omega)
                exact ih8 (jj + 1) (by omega) (by omega) _ _ hP hD hS ls (lv_sub hl [1, 2, 0] rfl)
              · have hc1 := colA_rg hV (onS f jj) jj cc
                have hc2 := colA_rg hV (dN f jj) jj cc
                refine lv_iload_n hx hb dX10_missing_40 rfl (lv_at hl 1 rfl) ?_
                refine lv_aload_n hx hb dX10_missing_41 rfl (lv_at hl 0 rfl) ?_
                refine lv_iload_n hx hb dX10_missing_42 rfl (lv_at hl 3 rfl) ?_
                refine lv_iload_n hx hb dX10_missing_43 rfl (lv_at hl 2 rfl) ?_
                refine lv_iload hx hb dX10_missing_44 (lv_at hl 4 rfl) ?_
                refine roV (n := 3) (As := [.int (zI (((onS f jj) : Nat) : Int)), .int (zI ((jj : Nat) : Int)), .int (zI ((cc : Nat) : Int))]) (rest := [.int (zI ((sm (fun q => misL f (f 2) q) jj + ct (fun cl => decide (colA f (dN f jj) jj cl ≠ colA f (onS f jj) jj cl)) cc : Nat) : Int))]) hSf (m_colourAt l D k q0 qn qa qp qi qs qk qb qt qh qe de sv bn f B hV hB (onS f jj) jj cc (by omega) (by omega) (by omega)) gX10_missing_X10_colourAt rfl (by decide +kernel) ⟨Nat.le_of_ble_eq_true rfl, Nat.le_of_ble_eq_true rfl⟩ hK hP [0, 1] rfl 0 rfl rfl rfl hl.1 rfl (Nat.le_of_ble_eq_true rfl) dX10_missing_46 ⟨Nat.zero_le _, Nat.zero_le _⟩ (fun r_46 h_46 => ?_)
                subst h_46
                refine lv_aload_n hx hb dX10_missing_49 rfl (lv_at hl 0 rfl) ?_
                refine lv_aload_n hx hb dX10_missing_50 rfl (lv_at hl 0 rfl) ?_
                refine va_get (D := D) (ci := 10) (v := .ref qt) (C := RX10) (T := TX10) (N := 13) hx hb hts hinX10 hown hK.1 hP 0 rfl rfl 10 (by decide) fl33 (fun _ h9 => h9) rfl dX10_missing_51 ?_
                refine lv_iload_n hx hb dX10_missing_54 rfl (lv_at hl 2 rfl) ?_
                refine z_ald hx hb hK hP 2 rfl (jj) (by omega) (by omega) (Nat.le_of_ble_eq_true rfl) dX10_missing_55 ?_
                refine te (zc (show u_3 jj = ((dN f jj : Nat) : Int) from h_3 _ (by omega))) ?_
                refine lv_iload_n hx hb dX10_missing_56 rfl (lv_at hl 2 rfl) ?_
                refine lv_iload hx hb dX10_missing_57 (lv_at hl 4 rfl) ?_
                refine roV (n := 3) (As := [.int (zI (((dN f jj) : Nat) : Int)), .int (zI ((jj : Nat) : Int)), .int (zI ((cc : Nat) : Int))]) (rest := [.int (zI (colA f (onS f jj) jj cc)), .int (zI ((sm (fun q => misL f (f 2) q) jj + ct (fun cl => decide (colA f (dN f jj) jj cl ≠ colA f (onS f jj) jj cl)) cc : Nat) : Int))]) hSf (m_colourAt l D k q0 qn qa qp qi qs qk qb qt qh qe de sv bn f B hV hB (dN f jj) jj cc (by omega) (by omega) (by omega)) gX10_missing_X10_colourAt rfl (by decide +kernel) ⟨Nat.le_of_ble_eq_true rfl, Nat.le_of_ble_eq_true rfl⟩ hK hP [0, 1] rfl 0 rfl rfl rfl hl.1 rfl (Nat.le_of_ble_eq_true rfl) dX10_missing_59 ⟨Nat.zero_le _, Nat.zero_le _⟩ (fun r_59 h_59 => ?_)
                subst h_59
                refine z_icmp_eq (tgt := 69) hx hb dX10_missing_62 (by decide) (by omega) (by omega) (fun c_62 => ?_) (fun c_62 => ?_)
                · refine z_iconst hx hb dX10_missing_69 ?_
                  refine z_iadd hx hb dX10_missing_70 ?_
                  refine lv_istore_n (lv' := [(1, .int (zI (((sm (fun q => misL f (f 2) q) jj + ct (fun cl => decide (colA f (dN f jj) jj cl ≠ colA f (onS f jj) jj cl)) cc : Nat) : Int) + 0))), (0, .ref q0), (2, .int (zI ((jj : Nat) : Int))), (3, .int (zI ((onS f jj : Nat) : Int))), (4, .int (zI ((cc : Nat) : Int)))]) hx hb dX10_missing_71 rfl hl (by decide) rfl (fun ls hl => ?_)
                  refine lv_iinc (v := zI (((cc : Nat) : Int) + 1)) (lv' := [(4, .int (zI (((cc : Nat) : Int) + 1))), (1, .int (zI (((sm (fun q => misL f (f 2) q) jj + ct (fun cl => decide (colA f (dN f jj) jj cl ≠ colA f (onS f jj) jj cl)) cc : Nat) : Int) + 0))), (0, .ref q0), (2, .int (zI ((jj : Nat) : Int))), (3, .int (zI ((onS f jj : Nat) : Int)))]) hx hb dX10_missing_72 hl (k := 4) rfl (zI_add _ _) (by decide) rfl (fun ls hl => ?_)
                  refine lv_goto (tgt := 23) hx hb dX10_missing_75 (by decide) ?_
                  have hl : lv_has ls 5 [(4, .int (zI (((cc : Nat) : Int) + 1))), (1, .int (zI ((sm (fun q => misL f (f 2) q) jj + ct (fun cl => decide (colA f (dN f jj) jj cl ≠ colA f (onS f jj) jj cl)) (cc + 1) : Nat) : Int))), (0, .ref q0), (2, .int (zI ((jj : Nat) : Int))), (3, .int (zI ((onS f jj : Nat) : Int)))] := lv_c (l1 := [(4, .int (zI (((cc : Nat) : Int) + 1)))]) (l2 := [(0, .ref q0), (2, .int (zI ((jj : Nat) : Int))), (3, .int (zI ((onS f jj : Nat) : Int)))]) hl (show ((sm (fun q => misL f (f 2) q) jj + ct (fun cl => decide (colA f (dN f jj) jj cl ≠ colA f (onS f jj) jj cl)) cc : Nat) : Int) + 0 = ((sm (fun q => misL f (f 2) q) jj + ct (fun cl => decide (colA f (dN f jj) jj cl ≠ colA f (onS f jj) jj cl)) (cc + 1) : Nat) : Int) from dbz_0 (p := (fun cl => decide (colA f (dN f jj) jj cl ≠ colA f (onS f jj) jj cl))) (decide_eq_false (fun hzz => hzz c_62.symm)))
                  have hl : lv_has ls 5 [(4, .int (zI (((cc + 1) : Nat) : Int))), (1, .int (zI ((sm (fun q => misL f (f 2) q) jj + ct (fun cl => decide (colA f (dN f jj) jj cl ≠ colA f (onS f jj) jj cl)) (cc + 1) : Nat) : Int))), (0, .ref q0), (2, .int (zI ((jj : Nat) : Int))), (3, .int (zI ((onS f jj : Nat) : Int)))] := lv_c (l1 := []) (l2 := [(1, .int (zI ((sm (fun q => misL f (f 2) q) jj + ct (fun cl => decide (colA f (dN f jj) jj cl ≠ colA f (onS f jj) jj cl)) (cc + 1) : Nat) : Int))), (0, .ref q0), (2, .int (zI ((jj : Nat) : Int))), (3, .int (zI ((onS f jj : Nat) : Int)))]) hl (show ((cc : Nat) : Int) + 1 = (((cc + 1) : Nat) : Int) from by omega)
                  exact ih23 (cc + 1) (by omega) (Or.inr (by omega)) (by omega) _ _ hP hD hS ls (lv_sub hl [2, 1, 3, 4, 0] rfl)
                · refine z_iconst hx hb dX10_missing_65 ?_
                  refine lv_goto (tgt := 70) hx hb dX10_missing_66 (by decide) ?_
                  refine z_iadd hx hb dX10_missing_70 ?_
                  refine lv_istore_n (lv' := [(1, .int (zI (((sm (fun q => misL f (f 2) q) jj + ct (fun cl => decide (colA f (dN f jj) jj cl ≠ colA f (onS f jj) jj cl)) cc : Nat) : Int) + 1))), (0, .ref q0), (2, .int (zI ((jj : Nat) : Int))), (3, .int (zI ((onS f jj : Nat) : Int))), (4, .int (zI ((cc : Nat) : Int)))]) hx hb dX10_missing_71 rfl hl (by decide) rfl (fun ls hl => ?_)
                  refine lv_iinc (v := zI (((cc : Nat) : Int) + 1)) (lv' := [(4, .int (zI (((cc : Nat) : Int) + 1))), (1, .int (zI (((sm (fun q => misL f (f 2) q) jj + ct (fun cl => decide (colA f (dN f jj) jj cl ≠ colA f (onS f jj) jj cl)) cc : Nat) : Int) + 1))), (0, .ref q0), (2, .int (zI ((jj : Nat) : Int))), (3, .int (zI ((onS f jj : Nat) : Int)))]) hx hb dX10_missing_72 hl (k := 4) rfl (zI_add _ _) (by decide) rfl (fun ls hl => ?_)
                  refine lv_goto (tgt := 23) hx hb dX10_missing_75 (by decide) ?_
                  have hl : lv_has ls 5 [(4, .int (zI (((cc : Nat) : Int) + 1))), (1, .int (zI ((sm (fun q => misL f (f 2) q) jj + ct (fun cl => decide (colA f (dN f jj) jj cl ≠ colA f (onS f jj) jj cl)) (cc + 1) : Nat) : Int))), (0, .ref q0), (2, .int (zI ((jj : Nat) : Int))), (3, .int (zI ((onS f jj : Nat) : Int)))] := lv_c (l1 := [(4, .int (zI (((cc : Nat) : Int) + 1)))]) (l2 := [(0, .ref q0), (2, .int (zI ((jj : Nat) : Int))), (3, .int (zI ((onS f jj : Nat) : Int)))]) hl (show ((sm (fun q => misL f (f 2) q) jj + ct (fun cl => decide (colA f (dN f jj) jj cl ≠ colA f (onS f jj) jj cl)) cc : Nat) : Int) + 1 = ((sm (fun q => misL f (f 2) q) jj + ct (fun cl => decide (colA f (dN f jj) jj cl ≠ colA f (onS f jj) jj cl)) (cc + 1) : Nat) : Int) from dbz_1 (p := (fun cl => decide (colA f (dN f jj) jj cl ≠ colA f (onS f jj) jj cl))) (decide_eq_true (Ne.symm c_62)))
                  have hl : lv_has ls 5 [(4, .int (zI (((cc + 1) : Nat) : Int))), (1, .int (zI ((sm (fun q => misL f (f 2) q) jj + ct (fun cl => decide (colA f (dN f jj) jj cl ≠ colA f (onS f jj) jj cl)) (cc + 1) : Nat) : Int))), (0, .ref q0), (2, .int (zI ((jj : Nat) : Int))), (3, .int (zI ((onS f jj : Nat) : Int)))] := lv_c (l1 := []) (l2 := [(1, .int (zI ((sm (fun q => misL f (f 2) q) jj + ct (fun cl => decide (colA f (dN f jj) jj cl ≠ colA f (onS f jj) jj cl)) (cc + 1) : Nat) : Int))), (0, .ref q0), (2, .int (zI ((jj : Nat) : Int))), (3, .int (zI ((onS f jj : Nat) : Int)))]) hl (show ((cc : Nat) : Int) + 1 = (((cc + 1) : Nat) : Int) from by omega)
                  exact ih23 (cc + 1) (by omega) (Or.inr (by omega)) (by omega) _ _ hP hD hS ls (lv_sub hl [2, 1, 3, 4, 0] rfl)
        have hl : lv_has ls 5 [(4, .int (zI 0)), (3, .int (zI ((onS f jj : Nat) : Int))), (0, .ref q0), (1, .int (zI ((sm (fun q => misL f (f 2) q) jj + ct (fun cl => decide (colA f (dN f jj) jj cl ≠ colA f (onS f jj) jj cl)) 0 : Nat) : Int))), (2, .int (zI ((jj : Nat) : Int)))] := lv_c (l1 := [(4, .int (zI 0)), (3, .int (zI ((onS f jj : Nat) : Int))), (0, .ref q0)]) (l2 := [(2, .int (zI ((jj : Nat) : Int)))]) hl (show ((sm (fun q => misL f (f 2) q) jj : Nat) : Int) = ((sm (fun q => misL f (f 2) q) jj + ct (fun cl => decide (colA f (dN f jj) jj cl ≠ colA f (onS f jj) jj cl)) 0 : Nat) : Int) from rfl)
        have hl : lv_has ls 5 [(4, .int (zI ((0 : Nat) : Int))), (3, .int (zI ((onS f jj : Nat) : Int))), (0, .ref q0), (1, .int (zI ((sm (fun q => misL f (f 2) q) jj + ct (fun cl => decide (colA f (dN f jj) jj cl ≠ colA f (onS f jj) jj cl)) 0 : Nat) : Int))), (2, .int (zI ((jj : Nat) : Int)))] := lv_c (l1 := []) (l2 := [(3, .int (zI ((onS f jj : Nat) : Int))), (0, .ref q0), (1, .int (zI ((sm (fun q => misL f (f 2) q) jj + ct (fun cl => decide (colA f (dN f jj) jj cl ≠ colA f (onS f jj) jj cl)) 0 : Nat) : Int))), (2, .int (zI ((jj : Nat) : Int)))]) hl (show 0 = ((0 : Nat) : Int) from rfl)
        exact L23 _ 0 (by decide) (Or.inl rfl) (Nat.lt_succ_self _) _ _ hP hD hS ls (lv_sub hl [2, 3, 4, 1, 0] rfl)
  have hl : lv_has ls 5 [(2, .int (zI 0)), (1, .int (zI ((sm (fun q => misL f (f 2) q) 0 : Nat) : Int))), (0, .ref q0)] := lv_c (l1 := [(2, .int (zI 0))]) (l2 := [(0, .ref q0)]) hl (show 0 = ((sm (fun q => misL f (f 2) q) 0 : Nat) : Int) from rfl)
  have hl : lv_has ls 5 [(2, .int (zI ((0 : Nat) : Int))), (1, .int (zI ((sm (fun q => misL f (f 2) q) 0 : Nat) : Int))), (0, .ref q0)] := lv_c (l1 := []) (l2 := [(1, .int (zI ((sm (fun q => misL f (f 2) q) 0 : Nat) : Int))), (0, .ref q0)]) hl (show 0 = ((0 : Nat) : Int) from rfl)
  exact L8 _ 0 (by decide) (Nat.lt_succ_self _) _ _ hP hD hS ls (lv_sub hl [2, 1, 0] rfl)
set_option maxHeartbeats 4000000 in
set_option maxRecDepth 100000 in
theorem m_bestRule (l : Launch) (D : va_G) (k : Kt) (q0 : Nat) (qn : Nat) (qa : Nat) (qp : Nat) (qi : Nat) (qs : Nat) (qk : Nat) (qb : Nat) (qt : Nat) (qh : Nat) (qe : Nat) (de : Nat) (sv : Int) (bn : Nat) (f : St) (B : Int) (hV : Va B f) (hB : B < 1000000) (ts : Nat → Int) : MI l D k yX10_bestRule wsX10_bestRule 7 160 [.ref q0] [(q0, .inr (10, [.ref qn, .ref qa, .ref qp, .int (zI ((de : Nat) : Int)), .ref qi, .ref qs, .ref qk, .long (zL sv), .ref qb, .int (zI ((bn : Nat) : Int)), .ref qt, .ref qh, .ref qe])), (qn, .inl (k.1, 132, .inl (zF f))), (qt, .inl (k.1, 24, .inl (zF ts)))] (fun (r : Int32) (u : Nat → Int) => r = zI (((brk f 3).1 : Nat) : Int) ∧ True) (fun u => [(q0, .inr (10, [.ref qn, .ref qa, .ref qp, .int (zI ((de : Nat) : Int)), .ref qi, .ref qs, .ref qk, .long (zL sv), .ref qb, .int (zI ((bn : Nat) : Int)), .ref qt, .ref qh, .ref qe])), (qn, .inl (k.1, 132, .inl (zF f))), (qt, .inl (k.1, 24, .inl (zF u)))]) := by
  refine Met.ofW (cc := cX10_bestRule) (maxL := 6) (ret := (some .int)) (by decide) rfl ?_
  intro p e s m args below meth c s₁ Bd hml hv
  obtain ⟨rfl, hP, hK, hD0⟩ := hv
  have hx := Bd.exec
  have hb := Bd.bytes
  have hr := Bd.returns
  have hts := atoms_spec (ws := wsX10_bestRule) Bd.pre
  have hown : s.vm.findClass RX10 = some m.cls := findClass_of_methodNamed Bd.named
  have hlocks := Bd.notSynchronized
  have hSf : CallFix p m c cX10_bestRule 6 s ([.ref q0] : List Value).toArray wsX10_bestRule RX10 := ⟨hx, hb, hml, hown, hts⟩
  have hD := fA_D hD0
  have hS : va_S (fA [(q0, .inr (10, [.ref qn, .ref qa, .ref qp, .int (zI ((de : Nat) : Int)), .ref qi, .ref qs, .ref qk, .long (zL sv), .ref qb, .int (zI ((bn : Nat) : Int)), .ref qt, .ref qh, .ref qe])), (qn, .inl (k.1, 132, .inl (zF f))), (qt, .inl (k.1, 24, .inl (zF ts)))]) s.heap s.heap [] := va_S.rf
  generalize hAe : fA [(q0, .inr (10, [.ref qn, .ref qa, .ref qp, .int (zI ((de : Nat) : Int)), .ref qi, .ref qs, .ref qk, .long (zL sv), .ref qb, .int (zI ((bn : Nat) : Int)), .ref qt, .ref qh, .ref qe])), (qn, .inl (k.1, 132, .inl (zF f))), (qt, .inl (k.1, 24, .inl (zF ts)))] = A at hD hS ⊢
  have hP : va_P D vwCl [(q0, .inr (10, [.ref qn, .ref qa, .ref qp, .int (zI ((de : Nat) : Int)), .ref qi, .ref qs, .ref qk, .long (zL sv), .ref qb, .int (zI ((bn : Nat) : Int)), .ref qt, .ref qh, .ref qe])), (qn, .inl (k.1, 132, .inl (zF f))), (qt, .inl (k.1, 24, .inl (zF ts)))] s.heap := hP
  have hinX10 : ∀ w ∈ u_ws RX10 TX10 13, w ∈ wsX10_bestRule := by decide +kernel
  have fl7 := hts (.fieldLink RX10 7 "DotObjectsModel" "now" "[I") (by decide +kernel)
  have hl := lv_entry ([.ref q0]) (n := 6) (Nat.le_of_ble_eq_true rfl)
  rw [lg_entry_eq]
  generalize (lg_sl ([.ref q0]) ++ List.replicate (6 - (lg_sl ([.ref q0])).length) Slot.unset).toArray = ls at hl ⊢
  have hl : lv_has ls 6 [(0, .ref q0)] := hl
  refine lv_aload_n hx hb dX10_bestRule_0 rfl (lv_at hl 0 rfl) ?_
  refine va_get (D := D) (ci := 10) (v := .ref qn) (C := RX10) (T := TX10) (N := 13) hx hb hts hinX10 hown hK.1 hP 0 rfl rfl 0 (by decide) fl7 (fun _ h9 => h9) rfl dX10_bestRule_1 ?_
  refine z_iconst hx hb dX10_bestRule_4 ?_
  refine z_ald hx hb hK hP 1 rfl (2) (by omega) (by omega) (Nat.le_of_ble_eq_true rfl) dX10_bestRule_5 ?_
  refine lv_istore_n (lv' := [(1, .int (zI (f 2))), (0, .ref q0)]) hx hb dX10_bestRule_6 rfl hl (by decide) rfl (fun ls hl => ?_)
  refine z_iconst hx hb dX10_bestRule_7 ?_
  refine lv_istore_n (lv' := [(2, .int (zI 0)), (1, .int (zI (f 2))), (0, .ref q0)]) hx hb dX10_bestRule_8 rfl hl (by decide) rfl (fun ls hl => ?_)
  refine z_sipush hx hb dX10_bestRule_9 (by decide +kernel) ?_
  refine lv_istore_n (lv' := [(3, .int (zI 769)), (2, .int (zI 0)), (1, .int (zI (f 2))), (0, .ref q0)]) hx hb dX10_bestRule_12 rfl hl (by decide) rfl (fun ls hl => ?_)
  refine z_iconst hx hb dX10_bestRule_13 ?_
  refine lv_istore (lv' := [(4, .int (zI 0)), (3, .int (zI 769)), (2, .int (zI 0)), (1, .int (zI (f 2))), (0, .ref q0)]) hx hb dX10_bestRule_14 hl (by decide) rfl (fun ls hl => ?_)
  have L16 : ∀ (NN16 : Nat), ∀ (jj : Nat) (ww : Int) (tz : Nat → Int), (jj ≤ 4) → 4 - jj < NN16 → ∀ (H : Heap) (locs : List Loc), va_P D vwCl [(q0, .inr (10, [.ref qn, .ref qa, .ref qp, .int (zI ((de : Nat) : Int)), .ref qi, .ref qs, .ref qk, .long (zL sv), .ref qb, .int (zI ((bn : Nat) : Int)), .ref qt, .ref qh, .ref qe])), (qn, .inl (k.1, 132, .inl (zF (upZ f 2 ww)))), (qt, .inl (k.1, 24, .inl (zF tz)))] H → va_D A [(q0, .inr (10, [.ref qn, .ref qa, .ref qp, .int (zI ((de : Nat) : Int)), .ref qi, .ref qs, .ref qk, .long (zL sv), .ref qb, .int (zI ((bn : Nat) : Int)), .ref qt, .ref qh, .ref qe])), (qn, .inl (k.1, 132, .inl (zF (upZ f 2 ww)))), (qt, .inl (k.1, 24, .inl (zF tz)))] → va_S A s.heap H locs → ∀ (ls : Array Slot), lv_has ls 6 [(0, .ref q0), (1, .int (zI (f 2))), (2, .int (zI (((brM f jj).1 : Nat) : Int))), (3, .int (zI (((brM f jj).2 : Nat) : Int))), (4, .int (zI ((jj : Nat) : Int)))] → W p l e (headSpec wsX10_bestRule { frames := 7, cells := 0, slots := 0, locals := 160 }).room s m ([.ref q0] : List Value).toArray below meth c H locs 0 0 (MQ below (va_Qi (fun (r : Int32) (u : Nat → Int) => r = zI (((brk f 3).1 : Nat) : Int) ∧ True) (fun (u : Nat → Int) t => va_P D vwCl [(q0, .inr (10, [.ref qn, .ref qa, .ref qp, .int (zI ((de : Nat) : Int)), .ref qi, .ref qs, .ref qk, .long (zL sv), .ref qb, .int (zI ((bn : Nat) : Int)), .ref qt, .ref qh, .ref qe])), (qn, .inl (k.1, 132, .inl (zF f))), (qt, .inl (k.1, 24, .inl (zF u)))] t.heap) A) ([.ref q0] : List Value).toArray s 0 0 A) (F0 m 16 ls []) := by
    intro NN16
    induction NN16 with
    | zero => intro jj ww tz _ hN; exact absurd hN (Nat.not_lt_zero _)
    | succ NN16 ih16 =>
      intro jj ww tz hjj hN H locs hP hD hS ls hl
      refine lv_iload hx hb dX10_bestRule_16 (lv_at hl 4 rfl) ?_
      refine z_iconst hx hb dX10_bestRule_18 ?_
      refine z_icmp_ge (tgt := 68) hx hb dX10_bestRule_19 (by decide) (by omega) (by omega) (fun c_19 => ?_) (fun c_19 => ?_)
      · have hj4 : jj = 4 := by omega
        refine lv_aload_n hx hb dX10_bestRule_68 rfl (lv_at hl 0 rfl) ?_
        refine va_get (D := D) (ci := 10) (v := .ref qn) (C := RX10) (T := TX10) (N := 13) hx hb hts hinX10 hown hK.1 hP 0 rfl rfl 0 (by decide) fl7 (fun _ h9 => h9) rfl dX10_bestRule_69 ?_
        refine z_iconst hx hb dX10_bestRule_72 ?_
        refine lv_iload_n hx hb dX10_bestRule_73 rfl (lv_at hl 1 rfl) ?_
        refine z_ast hx hb hK hP hD hS 1 rfl (2) (by omega) (by omega) (Nat.le_of_ble_eq_true rfl) dX10_bestRule_74 (fun H locs hP hD hS => ?_)
        have hP : va_P D vwCl [(q0, .inr (10, [.ref qn, .ref qa, .ref qp, .int (zI ((de : Nat) : Int)), .ref qi, .ref qs, .ref qk, .long (zL sv), .ref qb, .int (zI ((bn : Nat) : Int)), .ref qt, .ref qh, .ref qe])), (qn, .inl (k.1, 132, .inl (zF (upZ (upZ f 2 ww) 2 (f 2))))), (qt, .inl (k.1, 24, .inl (zF tz)))] H := hP
        have hD : va_D A [(q0, .inr (10, [.ref qn, .ref qa, .ref qp, .int (zI ((de : Nat) : Int)), .ref qi, .ref qs, .ref qk, .long (zL sv), .ref qb, .int (zI ((bn : Nat) : Int)), .ref qt, .ref qh, .ref qe])), (qn, .inl (k.1, 132, .inl (zF (upZ (upZ f 2 ww) 2 (f 2))))), (qt, .inl (k.1, 24, .inl (zF tz)))] := hD
        rw [show upZ (upZ f 2 ww) 2 (f 2) = f from (upZ_uu _ _ _ _).trans (upZ_id _ _)] at hP hD
        refine lv_iload_n hx hb dX10_bestRule_75 rfl (lv_at hl 2 rfl) ?_
        exact W.iret hx hb hr (fun t ht hW => ⟨⟨_, tz, rfl, ⟨zc (by rw [hj4, brM_eq]), trivial⟩, by show va_P D vwCl _ _; rw [ht]; exact hP⟩, hS.F ht⟩) hS.2.2 dX10_bestRule_76
      · have hm1 := misF_le f ((jj : Nat) : Int)
        have hm2 := brM_le f jj
        refine lv_aload_n hx hb dX10_bestRule_22 rfl (lv_at hl 0 rfl) ?_
        refine va_get (D := D) (ci := 10) (v := .ref qn) (C := RX10) (T := TX10) (N := 13) hx hb hts hinX10 hown hK.1 hP 0 rfl rfl 0 (by decide) fl7 (fun _ h9 => h9) rfl dX10_bestRule_23 ?_
        refine z_iconst hx hb dX10_bestRule_26 ?_
        refine lv_iload hx hb dX10_bestRule_27 (lv_at hl 4 rfl) ?_
        refine z_ast hx hb hK hP hD hS 1 rfl (2) (by omega) (by omega) (Nat.le_of_ble_eq_true rfl) dX10_bestRule_29 (fun H locs hP hD hS => ?_)
        have hP : va_P D vwCl [(q0, .inr (10, [.ref qn, .ref qa, .ref qp, .int (zI ((de : Nat) : Int)), .ref qi, .ref qs, .ref qk, .long (zL sv), .ref qb, .int (zI ((bn : Nat) : Int)), .ref qt, .ref qh, .ref qe])), (qn, .inl (k.1, 132, .inl (zF (upZ (upZ f 2 ww) 2 ((jj : Nat) : Int))))), (qt, .inl (k.1, 24, .inl (zF tz)))] H := hP
        have hD : va_D A [(q0, .inr (10, [.ref qn, .ref qa, .ref qp, .int (zI ((de : Nat) : Int)), .ref qi, .ref qs, .ref qk, .long (zL sv), .ref qb, .int (zI ((bn : Nat) : Int)), .ref qt, .ref qh, .ref qe])), (qn, .inl (k.1, 132, .inl (zF (upZ (upZ f 2 ww) 2 ((jj : Nat) : Int))))), (qt, .inl (k.1, 24, .inl (zF tz)))] := hD
        rw [show upZ (upZ f 2 ww) 2 ((jj : Nat) : Int) = upZ f 2 ((jj : Nat) : Int) from upZ_uu _ _ _ _] at hP hD
        refine lv_aload_n hx hb dX10_bestRule_30 rfl (lv_at hl 0 rfl) ?_
        refine miV (n := 0) (As := []) (rest := []) hSf (m_missing l D k q0 qn qa qp qi qs qk qb qt qh qe de sv bn (upZ f 2 ((jj : Nat) : Int)) B (Va_ru hV (by omega)) hB tz) gX10_bestRule_X10_missing rfl (by decide +kernel) ⟨Nat.le_of_ble_eq_true rfl, Nat.le_of_ble_eq_true rfl⟩ hK hP hD hS [0, 1, 2] rfl rfl (by decide) (fun _ => rfl) (fun _ => rfl) 0 rfl rfl rfl hl.1 rfl (Nat.le_of_ble_eq_true rfl) dX10_bestRule_31 ⟨Nat.zero_le _, Nat.zero_le _⟩ (fun r_31 u_31 H locs h_31 hP hD hS => ?_)
        have hP : va_P D vwCl [(q0, .inr (10, [.ref qn, .ref qa, .ref qp, .int (zI ((de : Nat) : Int)), .ref qi, .ref qs, .ref qk, .long (zL sv), .ref qb, .int (zI ((bn : Nat) : Int)), .ref qt, .ref qh, .ref qe])), (qn, .inl (k.1, 132, .inl (zF (upZ f 2 ((jj : Nat) : Int))))), (qt, .inl (k.1, 24, .inl (zF u_31)))] H := hP
        have hD : va_D A [(q0, .inr (10, [.ref qn, .ref qa, .ref qp, .int (zI ((de : Nat) : Int)), .ref qi, .ref qs, .ref qk, .long (zL sv), .ref qb, .int (zI ((bn : Nat) : Int)), .ref qt, .ref qh, .ref qe])), (qn, .inl (k.1, 132, .inl (zF (upZ f 2 ((jj : Nat) : Int))))), (qt, .inl (k.1, 24, .inl (zF u_31)))] := hD
        obtain ⟨he_31, h_31⟩ := h_31
        subst he_31
        refine te (zc (show ((misF (upZ f 2 ((jj : Nat) : Int)) ((upZ f 2 ((jj : Nat) : Int)) 2) : Nat) : Int) = ((misF f ((jj : Nat) : Int) : Nat) : Int) from congrArg Nat.cast (mis_ru hV (by omega)))) ?_
        refine lv_istore (lv' := [(5, .int (zI ((misF f ((jj : Nat) : Int) : Nat) : Int))), (0, .ref q0), (1, .int (zI (f 2))), (2, .int (zI (((brM f jj).1 : Nat) : Int))), (3, .int (zI (((brM f jj).2 : Nat) : Int))), (4, .int (zI ((jj : Nat) : Int)))]) hx hb dX10_bestRule_34 hl (by decide) rfl (fun ls hl => ?_)
        refine lv_iload hx hb dX10_bestRule_36 (lv_at hl 0 rfl) ?_
        refine lv_iload_n hx hb dX10_bestRule_38 rfl (lv_at hl 4 rfl) ?_
        refine z_icmp_ge (tgt := 47) hx hb dX10_bestRule_39 (by decide) (by omega) (by omega) (fun c_39 => ?_) (fun c_39 => ?_)
        · refine lv_iload_n hx hb dX10_bestRule_47 rfl (lv_at hl 3 rfl) ?_
          refine lv_istore_n (lv' := [(2, .int (zI (((brM f jj).1 : Nat) : Int))), (5, .int (zI ((misF f ((jj : Nat) : Int) : Nat) : Int))), (0, .ref q0), (1, .int (zI (f 2))), (3, .int (zI (((brM f jj).2 : Nat) : Int))), (4, .int (zI ((jj : Nat) : Int)))]) hx hb dX10_bestRule_48 rfl hl (by decide) rfl (fun ls hl => ?_)
          refine lv_iload hx hb dX10_bestRule_49 (lv_at hl 1 rfl) ?_
          refine lv_iload_n hx hb dX10_bestRule_51 rfl (lv_at hl 4 rfl) ?_
          refine z_icmp_ge (tgt := 60) hx hb dX10_bestRule_52 (by decide) (by omega) (by omega) (fun c_52 => ?_) (fun c_52 => ?_)
          · refine lv_iload_n hx hb dX10_bestRule_60 rfl (lv_at hl 4 rfl) ?_
            refine lv_istore_n (lv' := [(3, .int (zI (((brM f jj).2 : Nat) : Int))), (2, .int (zI (((brM f jj).1 : Nat) : Int))), (5, .int (zI ((misF f ((jj : Nat) : Int) : Nat) : Int))), (0, .ref q0), (1, .int (zI (f 2))), (4, .int (zI ((jj : Nat) : Int)))]) hx hb dX10_bestRule_61 rfl hl (by decide) rfl (fun ls hl => ?_)
            refine lv_iinc (v := zI (((jj : Nat) : Int) + 1)) (lv' := [(4, .int (zI (((jj : Nat) : Int) + 1))), (3, .int (zI (((brM f jj).2 : Nat) : Int))), (2, .int (zI (((brM f jj).1 : Nat) : Int))), (5, .int (zI ((misF f ((jj : Nat) : Int) : Nat) : Int))), (0, .ref q0), (1, .int (zI (f 2)))]) hx hb dX10_bestRule_62 hl (k := 5) rfl (zI_add _ _) (by decide) rfl (fun ls hl => ?_)
            refine lv_goto (tgt := 16) hx hb dX10_bestRule_65 (by decide) ?_
            have hl : lv_has ls 6 [(4, .int (zI (((jj : Nat) : Int) + 1))), (3, .int (zI (((brM f jj).2 : Nat) : Int))), (2, .int (zI (((brM f (jj + 1)).1 : Nat) : Int))), (5, .int (zI ((misF f ((jj : Nat) : Int) : Nat) : Int))), (0, .ref q0), (1, .int (zI (f 2)))] := lv_c (l1 := [(4, .int (zI (((jj : Nat) : Int) + 1))), (3, .int (zI (((brM f jj).2 : Nat) : Int)))]) (l2 := [(5, .int (zI ((misF f ((jj : Nat) : Int) : Nat) : Int))), (0, .ref q0), (1, .int (zI (f 2)))]) hl (show (((brM f jj).1 : Nat) : Int) = (((brM f (jj + 1)).1 : Nat) : Int) from by rw [brM_f (by omega)])
            have hl : lv_has ls 6 [(4, .int (zI (((jj : Nat) : Int) + 1))), (3, .int (zI (((brM f (jj + 1)).2 : Nat) : Int))), (2, .int (zI (((brM f (jj + 1)).1 : Nat) : Int))), (5, .int (zI ((misF f ((jj : Nat) : Int) : Nat) : Int))), (0, .ref q0), (1, .int (zI (f 2)))] := lv_c (l1 := [(4, .int (zI (((jj : Nat) : Int) + 1)))]) (l2 := [(2, .int (zI (((brM f (jj + 1)).1 : Nat) : Int))), (5, .int (zI ((misF f ((jj : Nat) : Int) : Nat) : Int))), (0, .ref q0), (1, .int (zI (f 2)))]) hl (show (((brM f jj).2 : Nat) : Int) = (((brM f (jj + 1)).2 : Nat) : Int) from by rw [brM_f (by omega)])
            have hl : lv_has ls 6 [(4, .int (zI (((jj + 1) : Nat) : Int))), (3, .int (zI (((brM f (jj + 1)).2 : Nat) : Int))), (2, .int (zI (((brM f (jj + 1)).1 : Nat) : Int))), (5, .int (zI ((misF f ((jj : Nat) : Int) : Nat) : Int))), (0, .ref q0), (1, .int (zI (f 2)))] := lv_c (l1 := []) (l2 := [(3, .int (zI (((brM f (jj + 1)).2 : Nat) : Int))), (2, .int (zI (((brM f (jj + 1)).1 : Nat) : Int))), (5, .int (zI ((misF f ((jj : Nat) : Int) : Nat) : Int))), (0, .ref q0), (1, .int (zI (f 2)))]) hl (show ((jj : Nat) : Int) + 1 = (((jj + 1) : Nat) : Int) from by omega)
            exact ih16 (jj + 1) ((jj : Nat) : Int) u_31 (by omega) (by omega) _ _ hP hD hS ls (lv_sub hl [4, 5, 2, 1, 0] rfl)
          · exact absurd c_39 (by omega)
        · refine lv_iload hx hb dX10_bestRule_42 (lv_at hl 5 rfl) ?_
          refine lv_goto (tgt := 48) hx hb dX10_bestRule_44 (by decide) ?_
          refine lv_istore_n (lv' := [(2, .int (zI ((jj : Nat) : Int))), (5, .int (zI ((misF f ((jj : Nat) : Int) : Nat) : Int))), (0, .ref q0), (1, .int (zI (f 2))), (3, .int (zI (((brM f jj).2 : Nat) : Int))), (4, .int (zI ((jj : Nat) : Int)))]) hx hb dX10_bestRule_48 rfl hl (by decide) rfl (fun ls hl => ?_)
          refine lv_iload hx hb dX10_bestRule_49 (lv_at hl 1 rfl) ?_
          refine lv_iload_n hx hb dX10_bestRule_51 rfl (lv_at hl 4 rfl) ?_
          refine z_icmp_ge (tgt := 60) hx hb dX10_bestRule_52 (by decide) (by omega) (by omega) (fun c_52 => ?_) (fun c_52 => ?_)
          · exact absurd c_39 (by omega)
          · refine lv_iload hx hb dX10_bestRule_55 (lv_at hl 1 rfl) ?_
            refine lv_goto (tgt := 61) hx hb dX10_bestRule_57 (by decide) ?_
            refine lv_istore_n (lv' := [(3, .int (zI ((misF f ((jj : Nat) : Int) : Nat) : Int))), (2, .int (zI ((jj : Nat) : Int))), (5, .int (zI ((misF f ((jj : Nat) : Int) : Nat) : Int))), (0, .ref q0), (1, .int (zI (f 2))), (4, .int (zI ((jj : Nat) : Int)))]) hx hb dX10_bestRule_61 rfl hl (by decide) rfl (fun ls hl => ?_)
            refine lv_iinc (v := zI (((jj : Nat) : Int) + 1)) (lv' := [(4, .int (zI (((jj : Nat) : Int) + 1))), (3, .int (zI ((misF f ((jj : Nat) : Int) : Nat) : Int))), (2, .int (zI ((jj : Nat) : Int))), (5, .int (zI ((misF f ((jj : Nat) : Int) : Nat) : Int))), (0, .ref q0), (1, .int (zI (f 2)))]) hx hb dX10_bestRule_62 hl (k := 5) rfl (zI_add _ _) (by decide) rfl (fun ls hl => ?_)
            refine lv_goto (tgt := 16) hx hb dX10_bestRule_65 (by decide) ?_
            have hl : lv_has ls 6 [(4, .int (zI (((jj : Nat) : Int) + 1))), (3, .int (zI ((misF f ((jj : Nat) : Int) : Nat) : Int))), (2, .int (zI (((brM f (jj + 1)).1 : Nat) : Int))), (5, .int (zI ((misF f ((jj : Nat) : Int) : Nat) : Int))), (0, .ref q0), (1, .int (zI (f 2)))] := lv_c (l1 := [(4, .int (zI (((jj : Nat) : Int) + 1))), (3, .int (zI ((misF f ((jj : Nat) : Int) : Nat) : Int)))]) (l2 := [(5, .int (zI ((misF f ((jj : Nat) : Int) : Nat) : Int))), (0, .ref q0), (1, .int (zI (f 2)))]) hl (show ((jj : Nat) : Int) = (((brM f (jj + 1)).1 : Nat) : Int) from by rw [brM_t (by omega)])
            have hl : lv_has ls 6 [(4, .int (zI (((jj : Nat) : Int) + 1))), (3, .int (zI (((brM f (jj + 1)).2 : Nat) : Int))), (2, .int (zI (((brM f (jj + 1)).1 : Nat) : Int))), (5, .int (zI ((misF f ((jj : Nat) : Int) : Nat) : Int))), (0, .ref q0), (1, .int (zI (f 2)))] := lv_c (l1 := [(4, .int (zI (((jj : Nat) : Int) + 1)))]) (l2 := [(2, .int (zI (((brM f (jj + 1)).1 : Nat) : Int))), (5, .int (zI ((misF f ((jj : Nat) : Int) : Nat) : Int))), (0, .ref q0), (1, .int (zI (f 2)))]) hl (show ((misF f ((jj : Nat) : Int) : Nat) : Int) = (((brM f (jj + 1)).2 : Nat) : Int) from by rw [brM_t (by omega)])
            have hl : lv_has ls 6 [(4, .int (zI (((jj + 1) : Nat) : Int))), (3, .int (zI (((brM f (jj + 1)).2 : Nat) : Int))), (2, .int (zI (((brM f (jj + 1)).1 : Nat) : Int))), (5, .int (zI ((misF f ((jj : Nat) : Int) : Nat) : Int))), (0, .ref q0), (1, .int (zI (f 2)))] := lv_c (l1 := []) (l2 := [(3, .int (zI (((brM f (jj + 1)).2 : Nat) : Int))), (2, .int (zI (((brM f (jj + 1)).1 : Nat) : Int))), (5, .int (zI ((misF f ((jj : Nat) : Int) : Nat) : Int))), (0, .ref q0), (1, .int (zI (f 2)))]) hl (show ((jj : Nat) : Int) + 1 = (((jj + 1) : Nat) : Int) from by omega)
            exact ih16 (jj + 1) ((jj : Nat) : Int) u_31 (by omega) (by omega) _ _ hP hD hS ls (lv_sub hl [4, 5, 2, 1, 0] rfl)
  have hl : lv_has ls 6 [(4, .int (zI 0)), (3, .int (zI 769)), (2, .int (zI (((brM f 0).1 : Nat) : Int))), (1, .int (zI (f 2))), (0, .ref q0)] := lv_c (l1 := [(4, .int (zI 0)), (3, .int (zI 769))]) (l2 := [(1, .int (zI (f 2))), (0, .ref q0)]) hl (show 0 = (((brM f 0).1 : Nat) : Int) from rfl)
  have hl : lv_has ls 6 [(4, .int (zI 0)), (3, .int (zI (((brM f 0).2 : Nat) : Int))), (2, .int (zI (((brM f 0).1 : Nat) : Int))), (1, .int (zI (f 2))), (0, .ref q0)] := lv_c (l1 := [(4, .int (zI 0))]) (l2 := [(2, .int (zI (((brM f 0).1 : Nat) : Int))), (1, .int (zI (f 2))), (0, .ref q0)]) hl (show 769 = (((brM f 0).2 : Nat) : Int) from rfl)
  have hl : lv_has ls 6 [(4, .int (zI ((0 : Nat) : Int))), (3, .int (zI (((brM f 0).2 : Nat) : Int))), (2, .int (zI (((brM f 0).1 : Nat) : Int))), (1, .int (zI (f 2))), (0, .ref q0)] := lv_c (l1 := []) (l2 := [(3, .int (zI (((brM f 0).2 : Nat) : Int))), (2, .int (zI (((brM f 0).1 : Nat) : Int))), (1, .int (zI (f 2))), (0, .ref q0)]) hl (show 0 = ((0 : Nat) : Int) from rfl)
  exact L16 _ 0 (f 2) ts (by decide) (Nat.lt_succ_self _) _ _ (by rw [upZ_id]; exact hP) (by rw [upZ_id]; exact hD) hS ls (lv_sub hl [4, 3, 2, 1, 0] rfl)
set_option maxHeartbeats 4000000 in
set_option maxRecDepth 100000 in
theorem m_enough (l : Launch) (D : va_G) (k : Kt) (q0 : Nat) (qn : Nat) (qa : Nat) (qp : Nat) (qi : Nat) (qs : Nat) (qk : Nat) (qb : Nat) (qt : Nat) (qh : Nat) (qe : Nat) (de : Nat) (sv : Int) (bn : Nat) (f : St) (B : Int) (hV : Va B f) (hB : B < 1000000) : RO l D k yX10_enough wsX10_enough 3 67 [.ref q0] [(q0, .inr (10, [.ref qn, .ref qa, .ref qp, .int (zI ((de : Nat) : Int)), .ref qi, .ref qs, .ref qk, .long (zL sv), .ref qb, .int (zI ((bn : Nat) : Int)), .ref qt, .ref qh, .ref qe])), (qn, .inl (k.1, 132, .inl (zF f)))] (fun r => r = zI ((enN f 24 : Nat) : Int)) := by
  refine Met.ofW (cc := cX10_enough) (maxL := 4) (ret := (some .int)) (by decide) rfl ?_
  intro p e s m args below meth c s₁ Bd hml hv
  obtain ⟨rfl, hP, hK⟩ := hv
  have hx := Bd.exec
  have hb := Bd.bytes
  have hr := Bd.returns
  have hts := atoms_spec (ws := wsX10_enough) Bd.pre
  have hown : s.vm.findClass RX10 = some m.cls := findClass_of_methodNamed Bd.named
  have hlocks := Bd.notSynchronized
  have hSf : CallFix p m c cX10_enough 4 s ([.ref q0] : List Value).toArray wsX10_enough RX10 := ⟨hx, hb, hml, hown, hts⟩
  have hl := lv_entry ([.ref q0]) (n := 4) (Nat.le_of_ble_eq_true rfl)
  rw [lg_entry_eq]
  generalize (lg_sl ([.ref q0]) ++ List.replicate (4 - (lg_sl ([.ref q0])).length) Slot.unset).toArray = ls at hl ⊢
  have hl : lv_has ls 4 [(0, .ref q0)] := hl
  refine z_iconst hx hb dX10_enough_0 ?_
  refine lv_istore_n (lv' := [(1, .int (zI 1)), (0, .ref q0)]) hx hb dX10_enough_1 rfl hl (by decide) rfl (fun ls hl => ?_)
  refine z_iconst hx hb dX10_enough_2 ?_
  refine lv_istore_n (lv' := [(2, .int (zI 0)), (1, .int (zI 1)), (0, .ref q0)]) hx hb dX10_enough_3 rfl hl (by decide) rfl (fun ls hl => ?_)
  have L4 : ∀ (NN4 : Nat), ∀ (jj : Nat), (jj ≤ 24) → 24 - jj < NN4 → ∀ (ls : Array Slot), lv_has ls 4 [(0, .ref q0), (1, .int (zI ((enN f jj : Nat) : Int))), (2, .int (zI ((jj : Nat) : Int)))] → W p l e (headSpec wsX10_enough { frames := 3, cells := 0, slots := 0, locals := 67 }).room s m ([.ref q0] : List Value).toArray below meth c s.heap [] 0 0 (MQ below (vp_Si (fun r => r = zI ((enN f 24 : Nat) : Int))) ([.ref q0] : List Value).toArray s 0 0 (fun _ => False)) (F0 m 4 ls []) := by
    intro NN4
    induction NN4 with
    | zero => intro jj _ hN; exact absurd hN (Nat.not_lt_zero _)
    | succ NN4 ih4 =>
      intro jj hjj hN ls hl
      refine lv_iload_n hx hb dX10_enough_4 rfl (lv_at hl 2 rfl) ?_
      refine z_bipush hx hb dX10_enough_5 (by decide +kernel) ?_
      refine z_icmp_ge (tgt := 36) hx hb dX10_enough_7 (by decide) (by omega) (by omega) (fun c_7 => ?_) (fun c_7 => ?_)
      · have hj24 : jj = 24 := by omega
        refine lv_iload_n hx hb dX10_enough_36 rfl (lv_at hl 1 rfl) ?_
        exact W.iret hx hb hr (fun t ht hW => ⟨_, rfl, zc (by rw [hj24]), ht⟩) (fun q hq => by cases hq) dX10_enough_37
      · have hos := onS_lt hV jj
        have hpl := pc32_le (onS f jj)
        have hel := enN_le f jj
        refine lv_aload_n hx hb dX10_enough_10 rfl (lv_at hl 0 rfl) ?_
        refine lv_iload_n hx hb dX10_enough_11 rfl (lv_at hl 2 rfl) ?_
        refine roV (n := 1) (As := [.int (zI ((jj : Nat) : Int))]) (rest := []) hSf (m_onLine l D k q0 qn qa qp qi qs qk qb qt qh qe de sv bn f B hV hB jj (by omega)) gX10_enough_X10_onLine rfl (by decide +kernel) ⟨Nat.le_of_ble_eq_true rfl, Nat.le_of_ble_eq_true rfl⟩ hK hP [0, 1] rfl 0 rfl rfl rfl hl.1 rfl (Nat.le_of_ble_eq_true rfl) dX10_enough_12 ⟨Nat.zero_le _, Nat.zero_le _⟩ (fun r_12 h_12 => ?_)
        subst h_12
        refine roS (n := 1) (As := [.int (zI (((onS f jj) : Nat) : Int))]) (rest := []) hSf (m_ones l D k (onS f jj) (by omega)) gX10_enough_X10_ones rfl (by decide +kernel) ⟨Nat.le_of_ble_eq_true rfl, Nat.le_of_ble_eq_true rfl⟩ hK hP [] rfl rfl hl.1 rfl (Nat.le_of_ble_eq_true rfl) dX10_enough_15 ⟨Nat.zero_le _, Nat.zero_le _⟩ (fun r_15 h_15 => ?_)
        subst h_15
        refine te (zc (show ((ct (fun i => (onS f jj).testBit i) 24 : Nat) : Int) = ((pc32 (onS f jj) : Nat) : Int) from congrArg Nat.cast (ones_pc hos))) ?_
        refine lv_istore_n (lv' := [(3, .int (zI ((pc32 (onS f jj) : Nat) : Int))), (0, .ref q0), (1, .int (zI ((enN f jj : Nat) : Int))), (2, .int (zI ((jj : Nat) : Int)))]) hx hb dX10_enough_18 rfl hl (by decide) rfl (fun ls hl => ?_)
        refine lv_iload_n hx hb dX10_enough_19 rfl (lv_at hl 0 rfl) ?_
        refine lv_iload_n hx hb dX10_enough_20 rfl (lv_at hl 2 rfl) ?_
        refine z_icmp_le (tgt := 28) hx hb dX10_enough_21 (by decide) (by omega) (by omega) (fun c_21 => ?_) (fun c_21 => ?_)
        · refine lv_iload_n hx hb dX10_enough_28 rfl (lv_at hl 2 rfl) ?_
          refine lv_istore_n (lv' := [(1, .int (zI ((enN f jj : Nat) : Int))), (3, .int (zI ((pc32 (onS f jj) : Nat) : Int))), (0, .ref q0), (2, .int (zI ((jj : Nat) : Int)))]) hx hb dX10_enough_29 rfl hl (by decide) rfl (fun ls hl => ?_)
          refine lv_iinc (v := zI (((jj : Nat) : Int) + 1)) (lv' := [(2, .int (zI (((jj : Nat) : Int) + 1))), (1, .int (zI ((enN f jj : Nat) : Int))), (3, .int (zI ((pc32 (onS f jj) : Nat) : Int))), (0, .ref q0)]) hx hb dX10_enough_30 hl (k := 3) rfl (zI_add _ _) (by decide) rfl (fun ls hl => ?_)
          refine lv_goto (tgt := 4) hx hb dX10_enough_33 (by decide) ?_
          have hl : lv_has ls 4 [(2, .int (zI (((jj : Nat) : Int) + 1))), (1, .int (zI ((enN f (jj + 1) : Nat) : Int))), (3, .int (zI ((pc32 (onS f jj) : Nat) : Int))), (0, .ref q0)] := lv_c (l1 := [(2, .int (zI (((jj : Nat) : Int) + 1)))]) (l2 := [(3, .int (zI ((pc32 (onS f jj) : Nat) : Int))), (0, .ref q0)]) hl (show ((enN f jj : Nat) : Int) = ((enN f (jj + 1) : Nat) : Int) from by rw [enN]; omega)
          have hl : lv_has ls 4 [(2, .int (zI (((jj + 1) : Nat) : Int))), (1, .int (zI ((enN f (jj + 1) : Nat) : Int))), (3, .int (zI ((pc32 (onS f jj) : Nat) : Int))), (0, .ref q0)] := lv_c (l1 := []) (l2 := [(1, .int (zI ((enN f (jj + 1) : Nat) : Int))), (3, .int (zI ((pc32 (onS f jj) : Nat) : Int))), (0, .ref q0)]) hl (show ((jj : Nat) : Int) + 1 = (((jj + 1) : Nat) : Int) from by omega)
          exact ih4 (jj + 1) (by omega) (by omega) ls (lv_sub hl [3, 1, 0] rfl)
        · refine lv_iload_n hx hb dX10_enough_24 rfl (lv_at hl 0 rfl) ?_
          refine lv_goto (tgt := 29) hx hb dX10_enough_25 (by decide) ?_
          refine lv_istore_n (lv' := [(1, .int (zI ((pc32 (onS f jj) : Nat) : Int))), (3, .int (zI ((pc32 (onS f jj) : Nat) : Int))), (0, .ref q0), (2, .int (zI ((jj : Nat) : Int)))]) hx hb dX10_enough_29 rfl hl (by decide) rfl (fun ls hl => ?_)
          refine lv_iinc (v := zI (((jj : Nat) : Int) + 1)) (lv' := [(2, .int (zI (((jj : Nat) : Int) + 1))), (1, .int (zI ((pc32 (onS f jj) : Nat) : Int))), (3, .int (zI ((pc32 (onS f jj) : Nat) : Int))), (0, .ref q0)]) hx hb dX10_enough_30 hl (k := 3) rfl (zI_add _ _) (by decide) rfl (fun ls hl => ?_)
          refine lv_goto (tgt := 4) hx hb dX10_enough_33 (by decide) ?_
          have hl : lv_has ls 4 [(2, .int (zI (((jj : Nat) : Int) + 1))), (1, .int (zI ((enN f (jj + 1) : Nat) : Int))), (3, .int (zI ((pc32 (onS f jj) : Nat) : Int))), (0, .ref q0)] := lv_c (l1 := [(2, .int (zI (((jj : Nat) : Int) + 1)))]) (l2 := [(3, .int (zI ((pc32 (onS f jj) : Nat) : Int))), (0, .ref q0)]) hl (show ((pc32 (onS f jj) : Nat) : Int) = ((enN f (jj + 1) : Nat) : Int) from by rw [enN]; omega)
          have hl : lv_has ls 4 [(2, .int (zI (((jj + 1) : Nat) : Int))), (1, .int (zI ((enN f (jj + 1) : Nat) : Int))), (3, .int (zI ((pc32 (onS f jj) : Nat) : Int))), (0, .ref q0)] := lv_c (l1 := []) (l2 := [(1, .int (zI ((enN f (jj + 1) : Nat) : Int))), (3, .int (zI ((pc32 (onS f jj) : Nat) : Int))), (0, .ref q0)]) hl (show ((jj : Nat) : Int) + 1 = (((jj + 1) : Nat) : Int) from by omega)
          exact ih4 (jj + 1) (by omega) (by omega) ls (lv_sub hl [3, 1, 0] rfl)
  have hl : lv_has ls 4 [(2, .int (zI 0)), (1, .int (zI ((enN f 0 : Nat) : Int))), (0, .ref q0)] := lv_c (l1 := [(2, .int (zI 0))]) (l2 := [(0, .ref q0)]) hl (show 1 = ((enN f 0 : Nat) : Int) from rfl)
  have hl : lv_has ls 4 [(2, .int (zI ((0 : Nat) : Int))), (1, .int (zI ((enN f 0 : Nat) : Int))), (0, .ref q0)] := lv_c (l1 := []) (l2 := [(1, .int (zI ((enN f 0 : Nat) : Int))), (0, .ref q0)]) hl (show 0 = ((0 : Nat) : Int) from rfl)
  exact L4 _ 0 (by decide) (Nat.lt_succ_self _) ls (lv_sub hl [2, 1, 0] rfl)
set_option maxHeartbeats 4000000 in
set_option maxRecDepth 100000 in
theorem m_holds (l : Launch) (D : va_G) (k : Kt) (q0 : Nat) (qn : Nat) (qa : Nat) (qp : Nat) (qi : Nat) (qs : Nat) (qk : Nat) (qb : Nat) (qt : Nat) (qh : Nat) (qe : Nat) (de : Nat) (sv : Int) (bn : Nat) (f : St) (B : Int) (hV : Va B f) (hB : B < 1000000) (hd : Nat → Int) (en : Nat → Int) : MI l D k yX10_holds wsX10_holds 1 22 [.ref q0] [(q0, .inr (10, [.ref qn, .ref qa, .ref qp, .int (zI ((de : Nat) : Int)), .ref qi, .ref qs, .ref qk, .long (zL sv), .ref qb, .int (zI ((bn : Nat) : Int)), .ref qt, .ref qh, .ref qe])), (qn, .inl (k.1, 132, .inl (zF f))), (qh, .inl (k.1, 12, .inl (zF hd))), (qe, .inl (k.1, 12, .inl (zF en)))] (fun (r : Int32) (u : (Nat → Int) × (Nat → Int)) => r = zI (((hsF f).1 : Nat) : Int) ∧ ∀ t, t < nT f → u.1 t = (hsF f).2.2 t) (fun u => [(q0, .inr (10, [.ref qn, .ref qa, .ref qp, .int (zI ((de : Nat) : Int)), .ref qi, .ref qs, .ref qk, .long (zL sv), .ref qb, .int (zI ((bn : Nat) : Int)), .ref qt, .ref qh, .ref qe])), (qn, .inl (k.1, 132, .inl (zF f))), (qh, .inl (k.1, 12, .inl (zF u.1))), (qe, .inl (k.1, 12, .inl (zF u.2)))]) := by
  refine Met.ofW (cc := cX10_holds) (maxL := 5) (ret := (some .int)) (by decide) rfl ?_
  intro p e s m args below meth c s₁ Bd hml hv
  obtain ⟨rfl, hP, hK, hD0⟩ := hv
  have hx := Bd.exec
  have hb := Bd.bytes
  have hr := Bd.returns
  have hts := atoms_spec (ws := wsX10_holds) Bd.pre
  have hown : s.vm.findClass RX10 = some m.cls := findClass_of_methodNamed Bd.named
  have hlocks := Bd.notSynchronized
  have hSf : CallFix p m c cX10_holds 5 s ([.ref q0] : List Value).toArray wsX10_holds RX10 := ⟨hx, hb, hml, hown, hts⟩
  have hD := fA_D hD0
  have hS : va_S (fA [(q0, .inr (10, [.ref qn, .ref qa, .ref qp, .int (zI ((de : Nat) : Int)), .ref qi, .ref qs, .ref qk, .long (zL sv), .ref qb, .int (zI ((bn : Nat) : Int)), .ref qt, .ref qh, .ref qe])), (qn, .inl (k.1, 132, .inl (zF f))), (qh, .inl (k.1, 12, .inl (zF hd))), (qe, .inl (k.1, 12, .inl (zF en)))]) s.heap s.heap [] := va_S.rf
  generalize hAe : fA [(q0, .inr (10, [.ref qn, .ref qa, .ref qp, .int (zI ((de : Nat) : Int)), .ref qi, .ref qs, .ref qk, .long (zL sv), .ref qb, .int (zI ((bn : Nat) : Int)), .ref qt, .ref qh, .ref qe])), (qn, .inl (k.1, 132, .inl (zF f))), (qh, .inl (k.1, 12, .inl (zF hd))), (qe, .inl (k.1, 12, .inl (zF en)))] = A at hD hS ⊢
  have hP : va_P D vwCl [(q0, .inr (10, [.ref qn, .ref qa, .ref qp, .int (zI ((de : Nat) : Int)), .ref qi, .ref qs, .ref qk, .long (zL sv), .ref qb, .int (zI ((bn : Nat) : Int)), .ref qt, .ref qh, .ref qe])), (qn, .inl (k.1, 132, .inl (zF f))), (qh, .inl (k.1, 12, .inl (zF hd))), (qe, .inl (k.1, 12, .inl (zF en)))] s.heap := hP
  have hinX10 : ∀ w ∈ u_ws RX10 TX10 13, w ∈ wsX10_holds := by decide +kernel
  have fl7 := hts (.fieldLink RX10 7 "DotObjectsModel" "now" "[I") (by decide +kernel)
  have fl36 := hts (.fieldLink RX10 36 "DotObjectsModel" "holder" "[I") (by decide +kernel)
  have fl39 := hts (.fieldLink RX10 39 "DotObjectsModel" "ends" "[I") (by decide +kernel)
  have hl := lv_entry ([.ref q0]) (n := 5) (Nat.le_of_ble_eq_true rfl)
  rw [lg_entry_eq]
  generalize (lg_sl ([.ref q0]) ++ List.replicate (5 - (lg_sl ([.ref q0])).length) Slot.unset).toArray = ls at hl ⊢
  have hl : lv_has ls 5 [(0, .ref q0)] := hl
  have hn := hV.n
  have hv0 := hV.1
  refine z_iconst hx hb dX10_holds_0 ?_
  refine lv_istore_n (lv' := [(1, .int (zI 0)), (0, .ref q0)]) hx hb dX10_holds_1 rfl hl (by decide) rfl (fun ls hl => ?_)
  refine z_bipush hx hb dX10_holds_2 (by decide +kernel) ?_
  refine lv_istore_n (lv' := [(2, .int (zI (-8))), (1, .int (zI 0)), (0, .ref q0)]) hx hb dX10_holds_4 rfl hl (by decide) rfl (fun ls hl => ?_)
  have L5 : ∀ (NN5 : Nat), ∀ (jj : Nat) (xu : Nat) (xe : Nat → Int) (xh : Nat → Int), (jj ≤ 32) → (hoI f jj 0 xu xe xh) → 32 - jj < NN5 → ∀ (H : Heap) (locs : List Loc), va_P D vwCl [(q0, .inr (10, [.ref qn, .ref qa, .ref qp, .int (zI ((de : Nat) : Int)), .ref qi, .ref qs, .ref qk, .long (zL sv), .ref qb, .int (zI ((bn : Nat) : Int)), .ref qt, .ref qh, .ref qe])), (qn, .inl (k.1, 132, .inl (zF f))), (qh, .inl (k.1, 12, .inl (zF xh))), (qe, .inl (k.1, 12, .inl (zF xe)))] H → va_D A [(q0, .inr (10, [.ref qn, .ref qa, .ref qp, .int (zI ((de : Nat) : Int)), .ref qi, .ref qs, .ref qk, .long (zL sv), .ref qb, .int (zI ((bn : Nat) : Int)), .ref qt, .ref qh, .ref qe])), (qn, .inl (k.1, 132, .inl (zF f))), (qh, .inl (k.1, 12, .inl (zF xh))), (qe, .inl (k.1, 12, .inl (zF xe)))] → va_S A s.heap H locs → ∀ (ls : Array Slot), lv_has ls 5 [(0, .ref q0), (1, .int (zI ((xu : Nat) : Int))), (2, .int (zI (((jj : Nat) : Int) - 8)))] → W p l e (headSpec wsX10_holds { frames := 1, cells := 0, slots := 0, locals := 22 }).room s m ([.ref q0] : List Value).toArray below meth c H locs 0 0 (MQ below (va_Qi (fun (r : Int32) (u : (Nat → Int) × (Nat → Int)) => r = zI (((hsF f).1 : Nat) : Int) ∧ ∀ t, t < nT f → u.1 t = (hsF f).2.2 t) (fun (u : (Nat → Int) × (Nat → Int)) t => va_P D vwCl [(q0, .inr (10, [.ref qn, .ref qa, .ref qp, .int (zI ((de : Nat) : Int)), .ref qi, .ref qs, .ref qk, .long (zL sv), .ref qb, .int (zI ((bn : Nat) : Int)), .ref qt, .ref qh, .ref qe])), (qn, .inl (k.1, 132, .inl (zF f))), (qh, .inl (k.1, 12, .inl (zF u.1))), (qe, .inl (k.1, 12, .inl (zF u.2)))] t.heap) A) ([.ref q0] : List Value).toArray s 0 0 A) (F0 m 5 ls []) := by
    intro NN5
    induction NN5 with
    | zero => intro jj xu xe xh _ _ hN; exact absurd hN (Nat.not_lt_zero _)
    | succ NN5 ih5 =>
      intro jj xu xe xh hjj hI hN H locs hP hD hS ls hl
      refine lv_iload_n hx hb dX10_holds_5 rfl (lv_at hl 2 rfl) ?_
      refine z_bipush hx hb dX10_holds_6 (by decide +kernel) ?_
      refine z_icmp_ge (tgt := 104) hx hb dX10_holds_8 (by decide) (by omega) (by omega) (fun c_8 => ?_) (fun c_8 => ?_)
      · obtain rfl : jj = 32 := by omega
        obtain ⟨hE1, hE2⟩ := hoI_end hV hI
        refine lv_iload_n hx hb dX10_holds_104 rfl (lv_at hl 1 rfl) ?_
        exact W.iret hx hb hr (fun t ht hW => ⟨⟨_, (xh, xe), rfl, ⟨by rw [← hE1], hE2⟩, by show va_P D vwCl _ _; rw [ht]; exact hP⟩, hS.F ht⟩) hS.2.2 dX10_holds_105
      · refine z_iconst hx hb dX10_holds_11 ?_
        refine lv_istore_n (lv' := [(3, .int (zI 0)), (0, .ref q0), (1, .int (zI ((xu : Nat) : Int))), (2, .int (zI (((jj : Nat) : Int) - 8)))]) hx hb dX10_holds_12 rfl hl (by decide) rfl (fun ls hl => ?_)
        have L13 : ∀ (NN13 : Nat), ∀ (tt : Nat) (xu : Nat) (xe : Nat → Int) (xh : Nat → Int), (tt ≤ nT f) → (hoI f jj tt xu xe xh) → nT f - tt < NN13 → ∀ (H : Heap) (locs : List Loc), va_P D vwCl [(q0, .inr (10, [.ref qn, .ref qa, .ref qp, .int (zI ((de : Nat) : Int)), .ref qi, .ref qs, .ref qk, .long (zL sv), .ref qb, .int (zI ((bn : Nat) : Int)), .ref qt, .ref qh, .ref qe])), (qn, .inl (k.1, 132, .inl (zF f))), (qh, .inl (k.1, 12, .inl (zF xh))), (qe, .inl (k.1, 12, .inl (zF xe)))] H → va_D A [(q0, .inr (10, [.ref qn, .ref qa, .ref qp, .int (zI ((de : Nat) : Int)), .ref qi, .ref qs, .ref qk, .long (zL sv), .ref qb, .int (zI ((bn : Nat) : Int)), .ref qt, .ref qh, .ref qe])), (qn, .inl (k.1, 132, .inl (zF f))), (qh, .inl (k.1, 12, .inl (zF xh))), (qe, .inl (k.1, 12, .inl (zF xe)))] → va_S A s.heap H locs → ∀ (ls : Array Slot), lv_has ls 5 [(0, .ref q0), (1, .int (zI ((xu : Nat) : Int))), (2, .int (zI (((jj : Nat) : Int) - 8))), (3, .int (zI ((tt : Nat) : Int)))] → W p l e (headSpec wsX10_holds { frames := 1, cells := 0, slots := 0, locals := 22 }).room s m ([.ref q0] : List Value).toArray below meth c H locs 0 0 (MQ below (va_Qi (fun (r : Int32) (u : (Nat → Int) × (Nat → Int)) => r = zI (((hsF f).1 : Nat) : Int) ∧ ∀ t, t < nT f → u.1 t = (hsF f).2.2 t) (fun (u : (Nat → Int) × (Nat → Int)) t => va_P D vwCl [(q0, .inr (10, [.ref qn, .ref qa, .ref qp, .int (zI ((de : Nat) : Int)), .ref qi, .ref qs, .ref qk, .long (zL sv), .ref qb, .int (zI ((bn : Nat) : Int)), .ref qt, .ref qh, .ref qe])), (qn, .inl (k.1, 132, .inl (zF f))), (qh, .inl (k.1, 12, .inl (zF u.1))), (qe, .inl (k.1, 12, .inl (zF u.2)))] t.heap) A) ([.ref q0] : List Value).toArray s 0 0 A) (F0 m 13 ls []) := by
          intro NN13
          induction NN13 with
          | zero => intro tt xu xe xh _ _ hN; exact absurd hN (Nat.not_lt_zero _)
          | succ NN13 ih13 =>
            intro tt xu xe xh htt hI hN H locs hP hD hS ls hl
            refine lv_iload_n hx hb dX10_holds_13 rfl (lv_at hl 3 rfl) ?_
            refine lv_aload_n hx hb dX10_holds_14 rfl (lv_at hl 0 rfl) ?_
            refine va_get (D := D) (ci := 10) (v := .ref qn) (C := RX10) (T := TX10) (N := 13) hx hb hts hinX10 hown hK.1 hP 0 rfl rfl 0 (by decide) fl7 (fun _ h9 => h9) rfl dX10_holds_15 ?_
            refine z_iconst hx hb dX10_holds_18 ?_
            refine z_ald hx hb hK hP 1 rfl (0) (by omega) (by omega) (Nat.le_of_ble_eq_true rfl) dX10_holds_19 ?_
            refine z_icmp_ge (tgt := 98) hx hb dX10_holds_20 (by decide) (by omega) (by omega) (fun c_20 => ?_) (fun c_20 => ?_)
            · have htt2 : tt = nT f := by omega
              refine lv_iinc (v := zI ((((jj : Nat) : Int) - 8) + 1)) (lv' := [(2, .int (zI ((((jj : Nat) : Int) - 8) + 1))), (0, .ref q0), (1, .int (zI ((xu : Nat) : Int))), (3, .int (zI ((tt : Nat) : Int)))]) hx hb dX10_holds_98 hl (k := 2) rfl (zI_add _ _) (by decide) rfl (fun ls hl => ?_)
              refine lv_goto (tgt := 5) hx hb dX10_holds_101 (by decide) ?_
              have hl : lv_has ls 5 [(2, .int (zI ((((jj + 1) : Nat) : Int) - 8))), (0, .ref q0), (1, .int (zI ((xu : Nat) : Int))), (3, .int (zI ((tt : Nat) : Int)))] := lv_c (l1 := []) (l2 := [(0, .ref q0), (1, .int (zI ((xu : Nat) : Int))), (3, .int (zI ((tt : Nat) : Int)))]) hl (show (((jj : Nat) : Int) - 8) + 1 = (((jj + 1) : Nat) : Int) - 8 from by omega)
              exact ih5 (jj + 1) xu xe xh (by omega) (hoI_nx (by rw [← htt2]; exact hI)) (by omega) _ _ hP hD hS ls (lv_sub hl [1, 2, 0] rfl)
            · have hv := hV.t (t := tt) (by omega)
              refine lv_aload_n hx hb dX10_holds_23 rfl (lv_at hl 0 rfl) ?_
              refine lv_iload_n hx hb dX10_holds_24 rfl (lv_at hl 3 rfl) ?_
              refine z_iconst hx hb dX10_holds_25 ?_
              refine roV (n := 2) (As := [.int (zI ((tt : Nat) : Int)), .int (zI ((1 : Nat) : Int))]) (rest := []) hSf (m_of l D k q0 qn qa qp qi qs qk qb qt qh qe de sv bn f tt 1 (by omega) (by omega)) gX10_holds_X10_of rfl (by decide +kernel) ⟨Nat.le_of_ble_eq_true rfl, Nat.le_of_ble_eq_true rfl⟩ hK hP [0, 1] rfl 0 rfl rfl rfl hl.1 (by rw [show zI 1 = zI ((1 : Nat) : Int) from zc (by omega)]; rfl) (Nat.le_of_ble_eq_true rfl) dX10_holds_26 ⟨Nat.zero_le _, Nat.zero_le _⟩ (fun r_26 h_26 => ?_)
              subst h_26
              refine lv_iload_n hx hb dX10_holds_29 rfl (lv_at hl 2 rfl) ?_
              refine z_icmp_ne (tgt := 92) hx hb dX10_holds_30 (by decide) (by omega) (by omega) (fun c_30 => ?_) (fun c_30 => ?_)
              · refine lv_iinc (v := zI (((tt : Nat) : Int) + 1)) (lv' := [(3, .int (zI (((tt : Nat) : Int) + 1))), (0, .ref q0), (1, .int (zI ((xu : Nat) : Int))), (2, .int (zI (((jj : Nat) : Int) - 8)))]) hx hb dX10_holds_92 hl (k := 3) rfl (zI_add _ _) (by decide) rfl (fun ls hl => ?_)
                refine lv_goto (tgt := 13) hx hb dX10_holds_95 (by decide) ?_
                have hl : lv_has ls 5 [(3, .int (zI (((tt + 1) : Nat) : Int))), (0, .ref q0), (1, .int (zI ((xu : Nat) : Int))), (2, .int (zI (((jj : Nat) : Int) - 8)))] := lv_c (l1 := []) (l2 := [(0, .ref q0), (1, .int (zI ((xu : Nat) : Int))), (2, .int (zI (((jj : Nat) : Int) - 8)))]) hl (show ((tt : Nat) : Int) + 1 = (((tt + 1) : Nat) : Int) from by omega)
                exact ih13 (tt + 1) xu xe xh (by omega) (hoI_sk hI (by omega) c_30) (by omega) _ _ hP hD hS ls (lv_sub hl [1, 2, 3, 0] rfl)
              · have hxu := hoI_lt hI (by omega) c_30
                refine z_iconst hx hb dX10_holds_33 ?_
                refine lv_istore (lv' := [(4, .int (zI 0)), (0, .ref q0), (1, .int (zI ((xu : Nat) : Int))), (2, .int (zI (((jj : Nat) : Int) - 8))), (3, .int (zI ((tt : Nat) : Int)))]) hx hb dX10_holds_34 hl (by decide) rfl (fun ls hl => ?_)
                have L36 : ∀ (NN36 : Nat), ∀ (hq : Nat), (hq ≤ xu) → (∀ i, i < hq → decide (xe i ≤ (((jj : Nat) : Int) - 8)) = false) → xu - hq < NN36 → ∀ (H : Heap) (locs : List Loc), va_P D vwCl [(q0, .inr (10, [.ref qn, .ref qa, .ref qp, .int (zI ((de : Nat) : Int)), .ref qi, .ref qs, .ref qk, .long (zL sv), .ref qb, .int (zI ((bn : Nat) : Int)), .ref qt, .ref qh, .ref qe])), (qn, .inl (k.1, 132, .inl (zF f))), (qh, .inl (k.1, 12, .inl (zF xh))), (qe, .inl (k.1, 12, .inl (zF xe)))] H → va_D A [(q0, .inr (10, [.ref qn, .ref qa, .ref qp, .int (zI ((de : Nat) : Int)), .ref qi, .ref qs, .ref qk, .long (zL sv), .ref qb, .int (zI ((bn : Nat) : Int)), .ref qt, .ref qh, .ref qe])), (qn, .inl (k.1, 132, .inl (zF f))), (qh, .inl (k.1, 12, .inl (zF xh))), (qe, .inl (k.1, 12, .inl (zF xe)))] → va_S A s.heap H locs → ∀ (ls : Array Slot), lv_has ls 5 [(0, .ref q0), (1, .int (zI ((xu : Nat) : Int))), (2, .int (zI (((jj : Nat) : Int) - 8))), (3, .int (zI ((tt : Nat) : Int))), (4, .int (zI ((hq : Nat) : Int)))] → W p l e (headSpec wsX10_holds { frames := 1, cells := 0, slots := 0, locals := 22 }).room s m ([.ref q0] : List Value).toArray below meth c H locs 0 0 (MQ below (va_Qi (fun (r : Int32) (u : (Nat → Int) × (Nat → Int)) => r = zI (((hsF f).1 : Nat) : Int) ∧ ∀ t, t < nT f → u.1 t = (hsF f).2.2 t) (fun (u : (Nat → Int) × (Nat → Int)) t => va_P D vwCl [(q0, .inr (10, [.ref qn, .ref qa, .ref qp, .int (zI ((de : Nat) : Int)), .ref qi, .ref qs, .ref qk, .long (zL sv), .ref qb, .int (zI ((bn : Nat) : Int)), .ref qt, .ref qh, .ref qe])), (qn, .inl (k.1, 132, .inl (zF f))), (qh, .inl (k.1, 12, .inl (zF u.1))), (qe, .inl (k.1, 12, .inl (zF u.2)))] t.heap) A) ([.ref q0] : List Value).toArray s 0 0 A) (F0 m 36 ls []) := by
                  intro NN36
                  induction NN36 with
                  | zero => intro hq _ _ hN; exact absurd hN (Nat.not_lt_zero _)
                  | succ NN36 ih36 =>
                    intro hq hhq hno hN H locs hP hD hS ls hl
                    refine lv_iload hx hb dX10_holds_36 (lv_at hl 4 rfl) ?_
                    refine lv_iload_n hx hb dX10_holds_38 rfl (lv_at hl 1 rfl) ?_
                    refine z_icmp_ge (tgt := 59) hx hb dX10_holds_39 (by decide) (by omega) (by omega) (fun c_39 => ?_) (fun c_39 => ?_)
                    · have hE : hq = fhN xu xe (((jj : Nat) : Int) - 8) := fsN_eq hno hhq (Or.inl (by omega))
                      refine lv_iload hx hb dX10_holds_59 (lv_at hl 4 rfl) ?_
                      refine lv_iload_n hx hb dX10_holds_61 rfl (lv_at hl 1 rfl) ?_
                      refine z_icmp_ne (tgt := 71) hx hb dX10_holds_62 (by decide) (by omega) (by omega) (fun c_62 => ?_) (fun c_62 => ?_)
                      · refine lv_iload_n hx hb dX10_holds_71 rfl (lv_at hl 1 rfl) ?_
                        refine lv_istore_n (lv' := [(1, .int (zI ((xu : Nat) : Int))), (0, .ref q0), (2, .int (zI (((jj : Nat) : Int) - 8))), (3, .int (zI ((tt : Nat) : Int))), (4, .int (zI ((hq : Nat) : Int)))]) hx hb dX10_holds_72 rfl hl (by decide) rfl (fun ls hl => ?_)
                        refine lv_aload_n hx hb dX10_holds_73 rfl (lv_at hl 1 rfl) ?_
                        refine va_get (D := D) (ci := 10) (v := .ref qh) (C := RX10) (T := TX10) (N := 13) hx hb hts hinX10 hown hK.1 hP 0 rfl rfl 11 (by decide) fl36 (fun _ h9 => h9) rfl dX10_holds_74 ?_
                        refine lv_iload_n hx hb dX10_holds_77 rfl (lv_at hl 3 rfl) ?_
                        refine lv_iload hx hb dX10_holds_78 (lv_at hl 4 rfl) ?_
                        refine z_ast hx hb hK hP hD hS 2 rfl (tt) (by omega) (by omega) (Nat.le_of_ble_eq_true rfl) dX10_holds_80 (fun H locs hP hD hS => ?_)
                        have hP : va_P D vwCl [(q0, .inr (10, [.ref qn, .ref qa, .ref qp, .int (zI ((de : Nat) : Int)), .ref qi, .ref qs, .ref qk, .long (zL sv), .ref qb, .int (zI ((bn : Nat) : Int)), .ref qt, .ref qh, .ref qe])), (qn, .inl (k.1, 132, .inl (zF f))), (qh, .inl (k.1, 12, .inl (zF (upZ xh tt ((hq : Nat) : Int))))), (qe, .inl (k.1, 12, .inl (zF xe)))] H := hP
                        have hD : va_D A [(q0, .inr (10, [.ref qn, .ref qa, .ref qp, .int (zI ((de : Nat) : Int)), .ref qi, .ref qs, .ref qk, .long (zL sv), .ref qb, .int (zI ((bn : Nat) : Int)), .ref qt, .ref qh, .ref qe])), (qn, .inl (k.1, 132, .inl (zF f))), (qh, .inl (k.1, 12, .inl (zF (upZ xh tt ((hq : Nat) : Int))))), (qe, .inl (k.1, 12, .inl (zF xe)))] := hD
                        refine lv_aload_n hx hb dX10_holds_81 rfl (lv_at hl 1 rfl) ?_
                        refine va_get (D := D) (ci := 10) (v := .ref qe) (C := RX10) (T := TX10) (N := 13) hx hb hts hinX10 hown hK.1 hP 0 rfl rfl 12 (by decide) fl39 (fun _ h9 => h9) rfl dX10_holds_82 ?_
                        refine lv_iload hx hb dX10_holds_85 (lv_at hl 4 rfl) ?_
                        refine lv_iload_n hx hb dX10_holds_87 rfl (lv_at hl 2 rfl) ?_
                        refine z_bipush hx hb dX10_holds_88 (by decide +kernel) ?_
                        refine z_iadd hx hb dX10_holds_90 ?_
                        refine z_ast hx hb hK hP hD hS 3 rfl (hq) (by omega) (by omega) (Nat.le_of_ble_eq_true rfl) dX10_holds_91 (fun H locs hP hD hS => ?_)
                        have hP : va_P D vwCl [(q0, .inr (10, [.ref qn, .ref qa, .ref qp, .int (zI ((de : Nat) : Int)), .ref qi, .ref qs, .ref qk, .long (zL sv), .ref qb, .int (zI ((bn : Nat) : Int)), .ref qt, .ref qh, .ref qe])), (qn, .inl (k.1, 132, .inl (zF f))), (qh, .inl (k.1, 12, .inl (zF (upZ xh tt ((hq : Nat) : Int))))), (qe, .inl (k.1, 12, .inl (zF (upZ xe hq ((((jj : Nat) : Int) - 8) + 8)))))] H := hP
                        have hD : va_D A [(q0, .inr (10, [.ref qn, .ref qa, .ref qp, .int (zI ((de : Nat) : Int)), .ref qi, .ref qs, .ref qk, .long (zL sv), .ref qb, .int (zI ((bn : Nat) : Int)), .ref qt, .ref qh, .ref qe])), (qn, .inl (k.1, 132, .inl (zF f))), (qh, .inl (k.1, 12, .inl (zF (upZ xh tt ((hq : Nat) : Int))))), (qe, .inl (k.1, 12, .inl (zF (upZ xe hq ((((jj : Nat) : Int) - 8) + 8)))))] := hD
                        refine lv_iinc (v := zI (((tt : Nat) : Int) + 1)) (lv' := [(3, .int (zI (((tt : Nat) : Int) + 1))), (1, .int (zI ((xu : Nat) : Int))), (0, .ref q0), (2, .int (zI (((jj : Nat) : Int) - 8))), (4, .int (zI ((hq : Nat) : Int)))]) hx hb dX10_holds_92 hl (k := 3) rfl (zI_add _ _) (by decide) rfl (fun ls hl => ?_)
                        refine lv_goto (tgt := 13) hx hb dX10_holds_95 (by decide) ?_
                        have hl : lv_has ls 5 [(3, .int (zI (((tt : Nat) : Int) + 1))), (1, .int (zI (((max xu (fhN xu xe (((jj : Nat) : Int) - 8) + 1)) : Nat) : Int))), (0, .ref q0), (2, .int (zI (((jj : Nat) : Int) - 8))), (4, .int (zI ((hq : Nat) : Int)))] := lv_c (l1 := [(3, .int (zI (((tt : Nat) : Int) + 1)))]) (l2 := [(0, .ref q0), (2, .int (zI (((jj : Nat) : Int) - 8))), (4, .int (zI ((hq : Nat) : Int)))]) hl (show ((xu : Nat) : Int) = (((max xu (fhN xu xe (((jj : Nat) : Int) - 8) + 1)) : Nat) : Int) from by omega)
                        have hl : lv_has ls 5 [(3, .int (zI (((tt + 1) : Nat) : Int))), (1, .int (zI (((max xu (fhN xu xe (((jj : Nat) : Int) - 8) + 1)) : Nat) : Int))), (0, .ref q0), (2, .int (zI (((jj : Nat) : Int) - 8))), (4, .int (zI ((hq : Nat) : Int)))] := lv_c (l1 := []) (l2 := [(1, .int (zI (((max xu (fhN xu xe (((jj : Nat) : Int) - 8) + 1)) : Nat) : Int))), (0, .ref q0), (2, .int (zI (((jj : Nat) : Int) - 8))), (4, .int (zI ((hq : Nat) : Int)))]) hl (show ((tt : Nat) : Int) + 1 = (((tt + 1) : Nat) : Int) from by omega)
                        exact ih13 (tt + 1) (max xu (fhN xu xe (((jj : Nat) : Int) - 8) + 1)) (upZ xe (fhN xu xe (((jj : Nat) : Int) - 8)) ((((jj : Nat) : Int) - 8) + 8)) (upZ xh tt ((fhN xu xe (((jj : Nat) : Int) - 8) : Nat) : Int)) (by omega) (hoI_put hI (by omega) c_30 (by omega)) (by omega) _ _ (by rw [← hE]; exact hP) (by rw [← hE]; exact hD) hS ls (lv_sub hl [2, 1, 3, 0] rfl)
                      · refine lv_iload_n hx hb dX10_holds_65 rfl (lv_at hl 1 rfl) ?_
                        refine z_iconst hx hb dX10_holds_66 ?_
                        refine z_iadd hx hb dX10_holds_67 ?_
                        refine lv_goto (tgt := 72) hx hb dX10_holds_68 (by decide) ?_
                        refine lv_istore_n (lv' := [(1, .int (zI (((xu : Nat) : Int) + 1))), (0, .ref q0), (2, .int (zI (((jj : Nat) : Int) - 8))), (3, .int (zI ((tt : Nat) : Int))), (4, .int (zI ((hq : Nat) : Int)))]) hx hb dX10_holds_72 rfl hl (by decide) rfl (fun ls hl => ?_)
                        refine lv_aload_n hx hb dX10_holds_73 rfl (lv_at hl 1 rfl) ?_
                        refine va_get (D := D) (ci := 10) (v := .ref qh) (C := RX10) (T := TX10) (N := 13) hx hb hts hinX10 hown hK.1 hP 0 rfl rfl 11 (by decide) fl36 (fun _ h9 => h9) rfl dX10_holds_74 ?_
                        refine lv_iload_n hx hb dX10_holds_77 rfl (lv_at hl 3 rfl) ?_
                        refine lv_iload hx hb dX10_holds_78 (lv_at hl 4 rfl) ?_
                        refine z_ast hx hb hK hP hD hS 2 rfl (tt) (by omega) (by omega) (Nat.le_of_ble_eq_true rfl) dX10_holds_80 (fun H locs hP hD hS => ?_)
                        have hP : va_P D vwCl [(q0, .inr (10, [.ref qn, .ref qa, .ref qp, .int (zI ((de : Nat) : Int)), .ref qi, .ref qs, .ref qk, .long (zL sv), .ref qb, .int (zI ((bn : Nat) : Int)), .ref qt, .ref qh, .ref qe])), (qn, .inl (k.1, 132, .inl (zF f))), (qh, .inl (k.1, 12, .inl (zF (upZ xh tt ((hq : Nat) : Int))))), (qe, .inl (k.1, 12, .inl (zF xe)))] H := hP
                        have hD : va_D A [(q0, .inr (10, [.ref qn, .ref qa, .ref qp, .int (zI ((de : Nat) : Int)), .ref qi, .ref qs, .ref qk, .long (zL sv), .ref qb, .int (zI ((bn : Nat) : Int)), .ref qt, .ref qh, .ref qe])), (qn, .inl (k.1, 132, .inl (zF f))), (qh, .inl (k.1, 12, .inl (zF (upZ xh tt ((hq : Nat) : Int))))), (qe, .inl (k.1, 12, .inl (zF xe)))] := hD
                        refine lv_aload_n hx hb dX10_holds_81 rfl (lv_at hl 1 rfl) ?_
                        refine va_get (D := D) (ci := 10) (v := .ref qe) (C := RX10) (T := TX10) (N := 13) hx hb hts hinX10 hown hK.1 hP 0 rfl rfl 12 (by decide) fl39 (fun _ h9 => h9) rfl dX10_holds_82 ?_
                        refine lv_iload hx hb dX10_holds_85 (lv_at hl 4 rfl) ?_
                        refine lv_iload_n hx hb dX10_holds_87 rfl (lv_at hl 2 rfl) ?_
                        refine z_bipush hx hb dX10_holds_88 (by decide +kernel) ?_
                        refine z_iadd hx hb dX10_holds_90 ?_
                        refine z_ast hx hb hK hP hD hS 3 rfl (hq) (by omega) (by omega) (Nat.le_of_ble_eq_true rfl) dX10_holds_91 (fun H locs hP hD hS => ?_)
                        have hP : va_P D vwCl [(q0, .inr (10, [.ref qn, .ref qa, .ref qp, .int (zI ((de : Nat) : Int)), .ref qi, .ref qs, .ref qk, .long (zL sv), .ref qb, .int (zI ((bn : Nat) : Int)), .ref qt, .ref qh, .ref qe])), (qn, .inl (k.1, 132, .inl (zF f))), (qh, .inl (k.1, 12, .inl (zF (upZ xh tt ((hq : Nat) : Int))))), (qe, .inl (k.1, 12, .inl (zF (upZ xe hq ((((jj : Nat) : Int) - 8) + 8)))))] H := hP
                        have hD : va_D A [(q0, .inr (10, [.ref qn, .ref qa, .ref qp, .int (zI ((de : Nat) : Int)), .ref qi, .ref qs, .ref qk, .long (zL sv), .ref qb, .int (zI ((bn : Nat) : Int)), .ref qt, .ref qh, .ref qe])), (qn, .inl (k.1, 132, .inl (zF f))), (qh, .inl (k.1, 12, .inl (zF (upZ xh tt ((hq : Nat) : Int))))), (qe, .inl (k.1, 12, .inl (zF (upZ xe hq ((((jj : Nat) : Int) - 8) + 8)))))] := hD
                        refine lv_iinc (v := zI (((tt : Nat) : Int) + 1)) (lv' := [(3, .int (zI (((tt : Nat) : Int) + 1))), (1, .int (zI (((xu : Nat) : Int) + 1))), (0, .ref q0), (2, .int (zI (((jj : Nat) : Int) - 8))), (4, .int (zI ((hq : Nat) : Int)))]) hx hb dX10_holds_92 hl (k := 3) rfl (zI_add _ _) (by decide) rfl (fun ls hl => ?_)
                        refine lv_goto (tgt := 13) hx hb dX10_holds_95 (by decide) ?_
                        have hl : lv_has ls 5 [(3, .int (zI (((tt : Nat) : Int) + 1))), (1, .int (zI (((max xu (fhN xu xe (((jj : Nat) : Int) - 8) + 1)) : Nat) : Int))), (0, .ref q0), (2, .int (zI (((jj : Nat) : Int) - 8))), (4, .int (zI ((hq : Nat) : Int)))] := lv_c (l1 := [(3, .int (zI (((tt : Nat) : Int) + 1)))]) (l2 := [(0, .ref q0), (2, .int (zI (((jj : Nat) : Int) - 8))), (4, .int (zI ((hq : Nat) : Int)))]) hl (show ((xu : Nat) : Int) + 1 = (((max xu (fhN xu xe (((jj : Nat) : Int) - 8) + 1)) : Nat) : Int) from by omega)
                        have hl : lv_has ls 5 [(3, .int (zI (((tt + 1) : Nat) : Int))), (1, .int (zI (((max xu (fhN xu xe (((jj : Nat) : Int) - 8) + 1)) : Nat) : Int))), (0, .ref q0), (2, .int (zI (((jj : Nat) : Int) - 8))), (4, .int (zI ((hq : Nat) : Int)))] := lv_c (l1 := []) (l2 := [(1, .int (zI (((max xu (fhN xu xe (((jj : Nat) : Int) - 8) + 1)) : Nat) : Int))), (0, .ref q0), (2, .int (zI (((jj : Nat) : Int) - 8))), (4, .int (zI ((hq : Nat) : Int)))]) hl (show ((tt : Nat) : Int) + 1 = (((tt + 1) : Nat) : Int) from by omega)
                        exact ih13 (tt + 1) (max xu (fhN xu xe (((jj : Nat) : Int) - 8) + 1)) (upZ xe (fhN xu xe (((jj : Nat) : Int) - 8)) ((((jj : Nat) : Int) - 8) + 8)) (upZ xh tt ((fhN xu xe (((jj : Nat) : Int) - 8) : Nat) : Int)) (by omega) (hoI_put hI (by omega) c_30 (by omega)) (by omega) _ _ (by rw [← hE]; exact hP) (by rw [← hE]; exact hD) hS ls (lv_sub hl [2, 1, 3, 0] rfl)
                    · have hen1 := (hI.2.1 hq (by omega)).2
                      refine lv_aload_n hx hb dX10_holds_42 rfl (lv_at hl 0 rfl) ?_
                      refine va_get (D := D) (ci := 10) (v := .ref qe) (C := RX10) (T := TX10) (N := 13) hx hb hts hinX10 hown hK.1 hP 0 rfl rfl 12 (by decide) fl39 (fun _ h9 => h9) rfl dX10_holds_43 ?_
                      refine lv_iload hx hb dX10_holds_46 (lv_at hl 4 rfl) ?_
                      refine z_ald hx hb hK hP 3 rfl (hq) (by omega) (by omega) (Nat.le_of_ble_eq_true rfl) dX10_holds_48 ?_
                      refine lv_iload_n hx hb dX10_holds_49 rfl (lv_at hl 2 rfl) ?_
                      refine z_icmp_le (tgt := 59) hx hb dX10_holds_50 (by decide) (by omega) (by omega) (fun c_50 => ?_) (fun c_50 => ?_)
                      · have hE : hq = fhN xu xe (((jj : Nat) : Int) - 8) := fsN_eq hno hhq (Or.inr (decide_eq_true c_50))
                        refine lv_iload hx hb dX10_holds_59 (lv_at hl 4 rfl) ?_
                        refine lv_iload_n hx hb dX10_holds_61 rfl (lv_at hl 1 rfl) ?_
                        refine z_icmp_ne (tgt := 71) hx hb dX10_holds_62 (by decide) (by omega) (by omega) (fun c_62 => ?_) (fun c_62 => ?_)
                        · refine lv_iload_n hx hb dX10_holds_71 rfl (lv_at hl 1 rfl) ?_
                          refine lv_istore_n (lv' := [(1, .int (zI ((xu : Nat) : Int))), (0, .ref q0), (2, .int (zI (((jj : Nat) : Int) - 8))), (3, .int (zI ((tt : Nat) : Int))), (4, .int (zI ((hq : Nat) : Int)))]) hx hb dX10_holds_72 rfl hl (by decide) rfl (fun ls hl => ?_)
                          refine lv_aload_n hx hb dX10_holds_73 rfl (lv_at hl 1 rfl) ?_
                          refine va_get (D := D) (ci := 10) (v := .ref qh) (C := RX10) (T := TX10) (N := 13) hx hb hts hinX10 hown hK.1 hP 0 rfl rfl 11 (by decide) fl36 (fun _ h9 => h9) rfl dX10_holds_74 ?_
                          refine lv_iload_n hx hb dX10_holds_77 rfl (lv_at hl 3 rfl) ?_
                          refine lv_iload hx hb dX10_holds_78 (lv_at hl 4 rfl) ?_
                          refine z_ast hx hb hK hP hD hS 2 rfl (tt) (by omega) (by omega) (Nat.le_of_ble_eq_true rfl) dX10_holds_80 (fun H locs hP hD hS => ?_)
                          have hP : va_P D vwCl [(q0, .inr (10, [.ref qn, .ref qa, .ref qp, .int (zI ((de : Nat) : Int)), .ref qi, .ref qs, .ref qk, .long (zL sv), .ref qb, .int (zI ((bn : Nat) : Int)), .ref qt, .ref qh, .ref qe])), (qn, .inl (k.1, 132, .inl (zF f))), (qh, .inl (k.1, 12, .inl (zF (upZ xh tt ((hq : Nat) : Int))))), (qe, .inl (k.1, 12, .inl (zF xe)))] H := hP
                          have hD : va_D A [(q0, .inr (10, [.ref qn, .ref qa, .ref qp, .int (zI ((de : Nat) : Int)), .ref qi, .ref qs, .ref qk, .long (zL sv), .ref qb, .int (zI ((bn : Nat) : Int)), .ref qt, .ref qh, .ref qe])), (qn, .inl (k.1, 132, .inl (zF f))), (qh, .inl (k.1, 12, .inl (zF (upZ xh tt ((hq : Nat) : Int))))), (qe, .inl (k.1, 12, .inl (zF xe)))] := hD
                          refine lv_aload_n hx hb dX10_holds_81 rfl (lv_at hl 1 rfl) ?_
                          refine va_get (D := D) (ci := 10) (v := .ref qe) (C := RX10) (T := TX10) (N := 13) hx hb hts hinX10 hown hK.1 hP 0 rfl rfl 12 (by decide) fl39 (fun _ h9 => h9) rfl dX10_holds_82 ?_
                          refine lv_iload hx hb dX10_holds_85 (lv_at hl 4 rfl) ?_
                          refine lv_iload_n hx hb dX10_holds_87 rfl (lv_at hl 2 rfl) ?_
                          refine z_bipush hx hb dX10_holds_88 (by decide +kernel) ?_
                          refine z_iadd hx hb dX10_holds_90 ?_
                          refine z_ast hx hb hK hP hD hS 3 rfl (hq) (by omega) (by omega) (Nat.le_of_ble_eq_true rfl) dX10_holds_91 (fun H locs hP hD hS => ?_)
                          have hP : va_P D vwCl [(q0, .inr (10, [.ref qn, .ref qa, .ref qp, .int (zI ((de : Nat) : Int)), .ref qi, .ref qs, .ref qk, .long (zL sv), .ref qb, .int (zI ((bn : Nat) : Int)), .ref qt, .ref qh, .ref qe])), (qn, .inl (k.1, 132, .inl (zF f))), (qh, .inl (k.1, 12, .inl (zF (upZ xh tt ((hq : Nat) : Int))))), (qe, .inl (k.1, 12, .inl (zF (upZ xe hq ((((jj : Nat) : Int) - 8) + 8)))))] H := hP
                          have hD : va_D A [(q0, .inr (10, [.ref qn, .ref qa, .ref qp, .int (zI ((de : Nat) : Int)), .ref qi, .ref qs, .ref qk, .long (zL sv), .ref qb, .int (zI ((bn : Nat) : Int)), .ref qt, .ref qh, .ref qe])), (qn, .inl (k.1, 132, .inl (zF f))), (qh, .inl (k.1, 12, .inl (zF (upZ xh tt ((hq : Nat) : Int))))), (qe, .inl (k.1, 12, .inl (zF (upZ xe hq ((((jj : Nat) : Int) - 8) + 8)))))] := hD
                          refine lv_iinc (v := zI (((tt : Nat) : Int) + 1)) (lv' := [(3, .int (zI (((tt : Nat) : Int) + 1))), (1, .int (zI ((xu : Nat) : Int))), (0, .ref q0), (2, .int (zI (((jj : Nat) : Int) - 8))), (4, .int (zI ((hq : Nat) : Int)))]) hx hb dX10_holds_92 hl (k := 3) rfl (zI_add _ _) (by decide) rfl (fun ls hl => ?_)
                          refine lv_goto (tgt := 13) hx hb dX10_holds_95 (by decide) ?_
                          have hl : lv_has ls 5 [(3, .int (zI (((tt : Nat) : Int) + 1))), (1, .int (zI (((max xu (fhN xu xe (((jj : Nat) : Int) - 8) + 1)) : Nat) : Int))), (0, .ref q0), (2, .int (zI (((jj : Nat) : Int) - 8))), (4, .int (zI ((hq : Nat) : Int)))] := lv_c (l1 := [(3, .int (zI (((tt : Nat) : Int) + 1)))]) (l2 := [(0, .ref q0), (2, .int (zI (((jj : Nat) : Int) - 8))), (4, .int (zI ((hq : Nat) : Int)))]) hl (show ((xu : Nat) : Int) = (((max xu (fhN xu xe (((jj : Nat) : Int) - 8) + 1)) : Nat) : Int) from by omega)
                          have hl : lv_has ls 5 [(3, .int (zI (((tt + 1) : Nat) : Int))), (1, .int (zI (((max xu (fhN xu xe (((jj : Nat) : Int) - 8) + 1)) : Nat) : Int))), (0, .ref q0), (2, .int (zI (((jj : Nat) : Int) - 8))), (4, .int (zI ((hq : Nat) : Int)))] := lv_c (l1 := []) (l2 := [(1, .int (zI (((max xu (fhN xu xe (((jj : Nat) : Int) - 8) + 1)) : Nat) : Int))), (0, .ref q0), (2, .int (zI (((jj : Nat) : Int) - 8))), (4, .int (zI ((hq : Nat) : Int)))]) hl (show ((tt : Nat) : Int) + 1 = (((tt + 1) : Nat) : Int) from by omega)
                          exact ih13 (tt + 1) (max xu (fhN xu xe (((jj : Nat) : Int) - 8) + 1)) (upZ xe (fhN xu xe (((jj : Nat) : Int) - 8)) ((((jj : Nat) : Int) - 8) + 8)) (upZ xh tt ((fhN xu xe (((jj : Nat) : Int) - 8) : Nat) : Int)) (by omega) (hoI_put hI (by omega) c_30 (by omega)) (by omega) _ _ (by rw [← hE]; exact hP) (by rw [← hE]; exact hD) hS ls (lv_sub hl [2, 1, 3, 0] rfl)
                        · refine lv_iload_n hx hb dX10_holds_65 rfl (lv_at hl 1 rfl) ?_
                          refine z_iconst hx hb dX10_holds_66 ?_
                          refine z_iadd hx hb dX10_holds_67 ?_
                          refine lv_goto (tgt := 72) hx hb dX10_holds_68 (by decide) ?_
                          refine lv_istore_n (lv' := [(1, .int (zI (((xu : Nat) : Int) + 1))), (0, .ref q0), (2, .int (zI (((jj : Nat) : Int) - 8))), (3, .int (zI ((tt : Nat) : Int))), (4, .int (zI ((hq : Nat) : Int)))]) hx hb dX10_holds_72 rfl hl (by decide) rfl (fun ls hl => ?_)
                          refine lv_aload_n hx hb dX10_holds_73 rfl (lv_at hl 1 rfl) ?_
                          refine va_get (D := D) (ci := 10) (v := .ref qh) (C := RX10) (T := TX10) (N := 13) hx hb hts hinX10 hown hK.1 hP 0 rfl rfl 11 (by decide) fl36 (fun _ h9 => h9) rfl dX10_holds_74 ?_
                          refine lv_iload_n hx hb dX10_holds_77 rfl (lv_at hl 3 rfl) ?_
                          refine lv_iload hx hb dX10_holds_78 (lv_at hl 4 rfl) ?_
                          refine z_ast hx hb hK hP hD hS 2 rfl (tt) (by omega) (by omega) (Nat.le_of_ble_eq_true rfl) dX10_holds_80 (fun H locs hP hD hS => ?_)
                          have hP : va_P D vwCl [(q0, .inr (10, [.ref qn, .ref qa, .ref qp, .int (zI ((de : Nat) : Int)), .ref qi, .ref qs, .ref qk, .long (zL sv), .ref qb, .int (zI ((bn : Nat) : Int)), .ref qt, .ref qh, .ref qe])), (qn, .inl (k.1, 132, .inl (zF f))), (qh, .inl (k.1, 12, .inl (zF (upZ xh tt ((hq : Nat) : Int))))), (qe, .inl (k.1, 12, .inl (zF xe)))] H := hP
                          have hD : va_D A [(q0, .inr (10, [.ref qn, .ref qa, .ref qp, .int (zI ((de : Nat) : Int)), .ref qi, .ref qs, .ref qk, .long (zL sv), .ref qb, .int (zI ((bn : Nat) : Int)), .ref qt, .ref qh, .ref qe])), (qn, .inl (k.1, 132, .inl (zF f))), (qh, .inl (k.1, 12, .inl (zF (upZ xh tt ((hq : Nat) : Int))))), (qe, .inl (k.1, 12, .inl (zF xe)))] := hD
                          refine lv_aload_n hx hb dX10_holds_81 rfl (lv_at hl 1 rfl) ?_
                          refine va_get (D := D) (ci := 10) (v := .ref qe) (C := RX10) (T := TX10) (N := 13) hx hb hts hinX10 hown hK.1 hP 0 rfl rfl 12 (by decide) fl39 (fun _ h9 => h9) rfl dX10_holds_82 ?_
                          refine lv_iload hx hb dX10_holds_85 (lv_at hl 4 rfl) ?_
                          refine lv_iload_n hx hb dX10_holds_87 rfl (lv_at hl 2 rfl) ?_
                          refine z_bipush hx hb dX10_holds_88 (by decide +kernel) ?_
                          refine z_iadd hx hb dX10_holds_90 ?_
                          refine z_ast hx hb hK hP hD hS 3 rfl (hq) (by omega) (by omega) (Nat.le_of_ble_eq_true rfl) dX10_holds_91 (fun H locs hP hD hS => ?_)
                          have hP : va_P D vwCl [(q0, .inr (10, [.ref qn, .ref qa, .ref qp, .int (zI ((de : Nat) : Int)), .ref qi, .ref qs, .ref qk, .long (zL sv), .ref qb, .int (zI ((bn : Nat) : Int)), .ref qt, .ref qh, .ref qe])), (qn, .inl (k.1, 132, .inl (zF f))), (qh, .inl (k.1, 12, .inl (zF (upZ xh tt ((hq : Nat) : Int))))), (qe, .inl (k.1, 12, .inl (zF (upZ xe hq ((((jj : Nat) : Int) - 8) + 8)))))] H := hP
                          have hD : va_D A [(q0, .inr (10, [.ref qn, .ref qa, .ref qp, .int (zI ((de : Nat) : Int)), .ref qi, .ref qs, .ref qk, .long (zL sv), .ref qb, .int (zI ((bn : Nat) : Int)), .ref qt, .ref qh, .ref qe])), (qn, .inl (k.1, 132, .inl (zF f))), (qh, .inl (k.1, 12, .inl (zF (upZ xh tt ((hq : Nat) : Int))))), (qe, .inl (k.1, 12, .inl (zF (upZ xe hq ((((jj : Nat) : Int) - 8) + 8)))))] := hD
                          refine lv_iinc (v := zI (((tt : Nat) : Int) + 1)) (lv' := [(3, .int (zI (((tt : Nat) : Int) + 1))), (1, .int (zI (((xu : Nat) : Int) + 1))), (0, .ref q0), (2, .int (zI (((jj : Nat) : Int) - 8))), (4, .int (zI ((hq : Nat) : Int)))]) hx hb dX10_holds_92 hl (k := 3) rfl (zI_add _ _) (by decide) rfl (fun ls hl => ?_)
                          refine lv_goto (tgt := 13) hx hb dX10_holds_95 (by decide) ?_
                          have hl : lv_has ls 5 [(3, .int (zI (((tt : Nat) : Int) + 1))), (1, .int (zI (((max xu (fhN xu xe (((jj : Nat) : Int) - 8) + 1)) : Nat) : Int))), (0, .ref q0), (2, .int (zI (((jj : Nat) : Int) - 8))), (4, .int (zI ((hq : Nat) : Int)))] := lv_c (l1 := [(3, .int (zI (((tt : Nat) : Int) + 1)))]) (l2 := [(0, .ref q0), (2, .int (zI (((jj : Nat) : Int) - 8))), (4, .int (zI ((hq : Nat) : Int)))]) hl (show ((xu : Nat) : Int) + 1 = (((max xu (fhN xu xe (((jj : Nat) : Int) - 8) + 1)) : Nat) : Int) from by omega)
                          have hl : lv_has ls 5 [(3, .int (zI (((tt + 1) : Nat) : Int))), (1, .int (zI (((max xu (fhN xu xe (((jj : Nat) : Int) - 8) + 1)) : Nat) : Int))), (0, .ref q0), (2, .int (zI (((jj : Nat) : Int) - 8))), (4, .int (zI ((hq : Nat) : Int)))] := lv_c (l1 := []) (l2 := [(1, .int (zI (((max xu (fhN xu xe (((jj : Nat) : Int) - 8) + 1)) : Nat) : Int))), (0, .ref q0), (2, .int (zI (((jj : Nat) : Int) - 8))), (4, .int (zI ((hq : Nat) : Int)))]) hl (show ((tt : Nat) : Int) + 1 = (((tt + 1) : Nat) : Int) from by omega)
                          exact ih13 (tt + 1) (max xu (fhN xu xe (((jj : Nat) : Int) - 8) + 1)) (upZ xe (fhN xu xe (((jj : Nat) : Int) - 8)) ((((jj : Nat) : Int) - 8) + 8)) (upZ xh tt ((fhN xu xe (((jj : Nat) : Int) - 8) : Nat) : Int)) (by omega) (hoI_put hI (by omega) c_30 (by omega)) (by omega) _ _ (by rw [← hE]; exact hP) (by rw [← hE]; exact hD) hS ls (lv_sub hl [2, 1, 3, 0] rfl)
                      · refine lv_iinc (v := zI (((hq : Nat) : Int) + 1)) (lv' := [(4, .int (zI (((hq : Nat) : Int) + 1))), (0, .ref q0), (1, .int (zI ((xu : Nat) : Int))), (2, .int (zI (((jj : Nat) : Int) - 8))), (3, .int (zI ((tt : Nat) : Int)))]) hx hb dX10_holds_53 hl (k := 4) rfl (zI_add _ _) (by decide) rfl (fun ls hl => ?_)
                        refine lv_goto (tgt := 36) hx hb dX10_holds_56 (by decide) ?_
                        have hl : lv_has ls 5 [(4, .int (zI (((hq + 1) : Nat) : Int))), (0, .ref q0), (1, .int (zI ((xu : Nat) : Int))), (2, .int (zI (((jj : Nat) : Int) - 8))), (3, .int (zI ((tt : Nat) : Int)))] := lv_c (l1 := []) (l2 := [(0, .ref q0), (1, .int (zI ((xu : Nat) : Int))), (2, .int (zI (((jj : Nat) : Int) - 8))), (3, .int (zI ((tt : Nat) : Int)))]) hl (show ((hq : Nat) : Int) + 1 = (((hq + 1) : Nat) : Int) from by omega)
                        exact ih36 (hq + 1) (by omega) (lt_s hno (decide_eq_false (by omega))) (by omega) _ _ hP hD hS ls (lv_sub hl [1, 2, 3, 4, 0] rfl)
                have hl : lv_has ls 5 [(4, .int (zI ((0 : Nat) : Int))), (0, .ref q0), (1, .int (zI ((xu : Nat) : Int))), (2, .int (zI (((jj : Nat) : Int) - 8))), (3, .int (zI ((tt : Nat) : Int)))] := lv_c (l1 := []) (l2 := [(0, .ref q0), (1, .int (zI ((xu : Nat) : Int))), (2, .int (zI (((jj : Nat) : Int) - 8))), (3, .int (zI ((tt : Nat) : Int)))]) hl (show 0 = ((0 : Nat) : Int) from rfl)
                exact L36 _ 0 (Nat.zero_le _) (fun i hi => absurd hi (Nat.not_lt_zero _)) (Nat.lt_succ_self _) _ _ hP hD hS ls (lv_sub hl [1, 2, 3, 4, 0] rfl)
        have hl : lv_has ls 5 [(3, .int (zI ((0 : Nat) : Int))), (0, .ref q0), (1, .int (zI ((xu : Nat) : Int))), (2, .int (zI (((jj : Nat) : Int) - 8)))] := lv_c (l1 := []) (l2 := [(0, .ref q0), (1, .int (zI ((xu : Nat) : Int))), (2, .int (zI (((jj : Nat) : Int) - 8)))]) hl (show 0 = ((0 : Nat) : Int) from rfl)
        exact L13 _ 0 xu xe xh (Nat.zero_le _) hI (Nat.lt_succ_self _) _ _ hP hD hS ls (lv_sub hl [1, 2, 3, 0] rfl)
  have hl : lv_has ls 5 [(2, .int (zI (-8))), (1, .int (zI ((0 : Nat) : Int))), (0, .ref q0)] := lv_c (l1 := [(2, .int (zI (-8)))]) (l2 := [(0, .ref q0)]) hl (show 0 = ((0 : Nat) : Int) from rfl)
  have hl : lv_has ls 5 [(2, .int (zI (((0 : Nat) : Int) - 8))), (1, .int (zI ((0 : Nat) : Int))), (0, .ref q0)] := lv_c (l1 := []) (l2 := [(1, .int (zI ((0 : Nat) : Int))), (0, .ref q0)]) hl (show -8 = ((0 : Nat) : Int) - 8 from rfl)
  exact L5 _ 0 0 en hd (by decide) (hoI_0 hV en hd) (Nat.lt_succ_self _) _ _ hP hD hS ls (lv_sub hl [2, 1, 0] rfl)
set_option maxHeartbeats 4000000 in
set_option maxRecDepth 100000 in
theorem m_dots (l : Launch) (D : va_G) (k : Kt) (q0 : Nat) (qn : Nat) (qa : Nat) (qp : Nat) (qi : Nat) (qs : Nat) (qk : Nat) (qb : Nat) (qt : Nat) (qh : Nat) (qe : Nat) (de : Nat) (sv : Int) (bn : Nat) (f : St) (B : Int) (hV : Va B f) (hB : B < 1000000) (ts : Nat → Int) : MI l D k yX10_dots wsX10_dots 6 136 [.ref q0] [(q0, .inr (10, [.ref qn, .ref qa, .ref qp, .int (zI ((de : Nat) : Int)), .ref qi, .ref qs, .ref qk, .long (zL sv), .ref qb, .int (zI ((bn : Nat) : Int)), .ref qt, .ref qh, .ref qe])), (qn, .inl (k.1, 132, .inl (zF f))), (qt, .inl (k.1, 24, .inl (zF ts)))] (fun (r : Int32) (u : Nat → Int) => r = zI ((sm (fun q => fillL f q) 24 : Nat) : Int) ∧ True) (fun u => [(q0, .inr (10, [.ref qn, .ref qa, .ref qp, .int (zI ((de : Nat) : Int)), .ref qi, .ref qs, .ref qk, .long (zL sv), .ref qb, .int (zI ((bn : Nat) : Int)), .ref qt, .ref qh, .ref qe])), (qn, .inl (k.1, 132, .inl (zF f))), (qt, .inl (k.1, 24, .inl (zF u)))]) := by
  refine Met.ofW (cc := cX10_dots) (maxL := 4) (ret := (some .int)) (by decide) rfl ?_
  intro p e s m args below meth c s₁ Bd hml hv
  obtain ⟨rfl, hP, hK, hD0⟩ := hv
  have hx := Bd.exec
  have hb := Bd.bytes
  have hr := Bd.returns
  have hts := atoms_spec (ws := wsX10_dots) Bd.pre
  have hown : s.vm.findClass RX10 = some m.cls := findClass_of_methodNamed Bd.named
  have hlocks := Bd.notSynchronized
  have hSf : CallFix p m c cX10_dots 4 s ([.ref q0] : List Value).toArray wsX10_dots RX10 := ⟨hx, hb, hml, hown, hts⟩
  have hD := fA_D hD0
  have hS : va_S (fA [(q0, .inr (10, [.ref qn, .ref qa, .ref qp, .int (zI ((de : Nat) : Int)), .ref qi, .ref qs, .ref qk, .long (zL sv), .ref qb, .int (zI ((bn : Nat) : Int)), .ref qt, .ref qh, .ref qe])), (qn, .inl (k.1, 132, .inl (zF f))), (qt, .inl (k.1, 24, .inl (zF ts)))]) s.heap s.heap [] := va_S.rf
  generalize hAe : fA [(q0, .inr (10, [.ref qn, .ref qa, .ref qp, .int (zI ((de : Nat) : Int)), .ref qi, .ref qs, .ref qk, .long (zL sv), .ref qb, .int (zI ((bn : Nat) : Int)), .ref qt, .ref qh, .ref qe])), (qn, .inl (k.1, 132, .inl (zF f))), (qt, .inl (k.1, 24, .inl (zF ts)))] = A at hD hS ⊢
  have hP : va_P D vwCl [(q0, .inr (10, [.ref qn, .ref qa, .ref qp, .int (zI ((de : Nat) : Int)), .ref qi, .ref qs, .ref qk, .long (zL sv), .ref qb, .int (zI ((bn : Nat) : Int)), .ref qt, .ref qh, .ref qe])), (qn, .inl (k.1, 132, .inl (zF f))), (qt, .inl (k.1, 24, .inl (zF ts)))] s.heap := hP
  have hinX10 : ∀ w ∈ u_ws RX10 TX10 13, w ∈ wsX10_dots := by decide +kernel
  have fl33 := hts (.fieldLink RX10 33 "DotObjectsModel" "sets" "[I") (by decide +kernel)
  have hl := lv_entry ([.ref q0]) (n := 4) (Nat.le_of_ble_eq_true rfl)
  rw [lg_entry_eq]
  generalize (lg_sl ([.ref q0]) ++ List.replicate (4 - (lg_sl ([.ref q0])).length) Slot.unset).toArray = ls at hl ⊢
  have hl : lv_has ls 4 [(0, .ref q0)] := hl
  have hn := hV.n
  refine z_iconst hx hb dX10_dots_0 ?_
  refine lv_istore_n (lv' := [(1, .int (zI 0)), (0, .ref q0)]) hx hb dX10_dots_1 rfl hl (by decide) rfl (fun ls hl => ?_)
  refine lv_aload_n hx hb dX10_dots_2 rfl (lv_at hl 1 rfl) ?_
  refine muV (n := 0) (As := []) (rest := []) hSf (m_draws l D k q0 qn qa qp qi qs qk qb qt qh qe de sv bn f B hV hB ts) gX10_dots_X10_draws rfl (by decide +kernel) ⟨Nat.le_of_ble_eq_true rfl, Nat.le_of_ble_eq_true rfl⟩ hK hP hD hS [0, 1, 2] rfl rfl (by decide) (fun _ => rfl) (fun _ => rfl) 0 rfl rfl rfl hl.1 rfl (Nat.le_of_ble_eq_true rfl) dX10_dots_3 ⟨Nat.zero_le _, Nat.zero_le _⟩ (fun u_3 H locs h_3 hP hD hS => ?_)
  have hP : va_P D vwCl [(q0, .inr (10, [.ref qn, .ref qa, .ref qp, .int (zI ((de : Nat) : Int)), .ref qi, .ref qs, .ref qk, .long (zL sv), .ref qb, .int (zI ((bn : Nat) : Int)), .ref qt, .ref qh, .ref qe])), (qn, .inl (k.1, 132, .inl (zF f))), (qt, .inl (k.1, 24, .inl (zF u_3)))] H := hP
  have hD : va_D A [(q0, .inr (10, [.ref qn, .ref qa, .ref qp, .int (zI ((de : Nat) : Int)), .ref qi, .ref qs, .ref qk, .long (zL sv), .ref qb, .int (zI ((bn : Nat) : Int)), .ref qt, .ref qh, .ref qe])), (qn, .inl (k.1, 132, .inl (zF f))), (qt, .inl (k.1, 24, .inl (zF u_3)))] := hD
  refine z_iconst hx hb dX10_dots_6 ?_
  refine lv_istore_n (lv' := [(2, .int (zI 0)), (1, .int (zI 0)), (0, .ref q0)]) hx hb dX10_dots_7 rfl hl (by decide) rfl (fun ls hl => ?_)
  have L8 : ∀ (NN8 : Nat), ∀ (jj : Nat), (jj ≤ 24) → 24 - jj < NN8 → ∀ (H : Heap) (locs : List Loc), va_P D vwCl [(q0, .inr (10, [.ref qn, .ref qa, .ref qp, .int (zI ((de : Nat) : Int)), .ref qi, .ref qs, .ref qk, .long (zL sv), .ref qb, .int (zI ((bn : Nat) : Int)), .ref qt, .ref qh, .ref qe])), (qn, .inl (k.1, 132, .inl (zF f))), (qt, .inl (k.1, 24, .inl (zF u_3)))] H → va_D A [(q0, .inr (10, [.ref qn, .ref qa, .ref qp, .int (zI ((de : Nat) : Int)), .ref qi, .ref qs, .ref qk, .long (zL sv), .ref qb, .int (zI ((bn : Nat) : Int)), .ref qt, .ref qh, .ref qe])), (qn, .inl (k.1, 132, .inl (zF f))), (qt, .inl (k.1, 24, .inl (zF u_3)))] → va_S A s.heap H locs → ∀ (ls : Array Slot), lv_has ls 4 [(0, .ref q0), (1, .int (zI ((sm (fun q => fillL f q) jj : Nat) : Int))), (2, .int (zI ((jj : Nat) : Int)))] → W p l e (headSpec wsX10_dots { frames := 6, cells := 0, slots := 0, locals := 136 }).room s m ([.ref q0] : List Value).toArray below meth c H locs 0 0 (MQ below (va_Qi (fun (r : Int32) (u : Nat → Int) => r = zI ((sm (fun q => fillL f q) 24 : Nat) : Int) ∧ True) (fun (u : Nat → Int) t => va_P D vwCl [(q0, .inr (10, [.ref qn, .ref qa, .ref qp, .int (zI ((de : Nat) : Int)), .ref qi, .ref qs, .ref qk, .long (zL sv), .ref qb, .int (zI ((bn : Nat) : Int)), .ref qt, .ref qh, .ref qe])), (qn, .inl (k.1, 132, .inl (zF f))), (qt, .inl (k.1, 24, .inl (zF u)))] t.heap) A) ([.ref q0] : List Value).toArray s 0 0 A) (F0 m 8 ls []) := by
    intro NN8
    induction NN8 with
    | zero => intro jj _ hN; exact absurd hN (Nat.not_lt_zero _)
    | succ NN8 ih8 =>
      intro jj hjj hN H locs hP hD hS ls hl
      refine lv_iload_n hx hb dX10_dots_8 rfl (lv_at hl 2 rfl) ?_
      refine z_bipush hx hb dX10_dots_9 (by decide +kernel) ?_
      refine z_icmp_ge (tgt := 58) hx hb dX10_dots_11 (by decide) (by omega) (by omega) (fun c_11 => ?_) (fun c_11 => ?_)
      · have hj24 : jj = 24 := by omega
        refine lv_iload_n hx hb dX10_dots_58 rfl (lv_at hl 1 rfl) ?_
        exact W.iret hx hb hr (fun t ht hW => ⟨⟨_, u_3, rfl, ⟨zc (by rw [hj24]), trivial⟩, by show va_P D vwCl _ _; rw [ht]; exact hP⟩, hS.F ht⟩) hS.2.2 dX10_dots_59
      · have hds := dN_lt hV jj
        refine z_iconst hx hb dX10_dots_14 ?_
        refine lv_istore_n (lv' := [(3, .int (zI 0)), (0, .ref q0), (1, .int (zI ((sm (fun q => fillL f q) jj : Nat) : Int))), (2, .int (zI ((jj : Nat) : Int)))]) hx hb dX10_dots_15 rfl hl (by decide) rfl (fun ls hl => ?_)
        have L16 : ∀ (NN16 : Nat), ∀ (cc : Nat), (cc ≤ 32) → 32 - cc < NN16 → ∀ (H : Heap) (locs : List Loc), va_P D vwCl [(q0, .inr (10, [.ref qn, .ref qa, .ref qp, .int (zI ((de : Nat) : Int)), .ref qi, .ref qs, .ref qk, .long (zL sv), .ref qb, .int (zI ((bn : Nat) : Int)), .ref qt, .ref qh, .ref qe])), (qn, .inl (k.1, 132, .inl (zF f))), (qt, .inl (k.1, 24, .inl (zF u_3)))] H → va_D A [(q0, .inr (10, [.ref qn, .ref qa, .ref qp, .int (zI ((de : Nat) : Int)), .ref qi, .ref qs, .ref qk, .long (zL sv), .ref qb, .int (zI ((bn : Nat) : Int)), .ref qt, .ref qh, .ref qe])), (qn, .inl (k.1, 132, .inl (zF f))), (qt, .inl (k.1, 24, .inl (zF u_3)))] → va_S A s.heap H locs → ∀ (ls : Array Slot), lv_has ls 4 [(0, .ref q0), (1, .int (zI ((sm (fun q => fillL f q) jj + ct (fun cl => decide (seenA f (dN f jj) jj cl ≠ -1)) cc : Nat) : Int))), (2, .int (zI ((jj : Nat) : Int))), (3, .int (zI ((cc : Nat) : Int)))] → W p l e (headSpec wsX10_dots { frames := 6, cells := 0, slots := 0, locals := 136 }).room s m ([.ref q0] : List Value).toArray below meth c H locs 0 0 (MQ below (va_Qi (fun (r : Int32) (u : Nat → Int) => r = zI ((sm (fun q => fillL f q) 24 : Nat) : Int) ∧ True) (fun (u : Nat → Int) t => va_P D vwCl [(q0, .inr (10, [.ref qn, .ref qa, .ref qp, .int (zI ((de : Nat) : Int)), .ref qi, .ref qs, .ref qk, .long (zL sv), .ref qb, .int (zI ((bn : Nat) : Int)), .ref qt, .ref qh, .ref qe])), (qn, .inl (k.1, 132, .inl (zF f))), (qt, .inl (k.1, 24, .inl (zF u)))] t.heap) A) ([.ref q0] : List Value).toArray s 0 0 A) (F0 m 16 ls []) := by
          intro NN16
          induction NN16 with
          | zero => intro cc _ hN; exact absurd hN (Nat.not_lt_zero _)
          | succ NN16 ih16 =>
            intro cc hcc hN H locs hP hD hS ls hl
            refine lv_iload_n hx hb dX10_dots_16 rfl (lv_at hl 3 rfl) ?_
            refine z_bipush hx hb dX10_dots_17 (by decide +kernel) ?_
            refine z_icmp_ge (tgt := 52) hx hb dX10_dots_19 (by decide) (by omega) (by omega) (fun c_19 => ?_) (fun c_19 => ?_)
            · have hc32 : cc = 32 := by omega
              refine lv_iinc (v := zI (((jj : Nat) : Int) + 1)) (lv' := [(2, .int (zI (((jj : Nat) : Int) + 1))), (0, .ref q0), (1, .int (zI ((sm (fun q => fillL f q) jj + ct (fun cl => decide (seenA f (dN f jj) jj cl ≠ -1)) cc : Nat) : Int))), (3, .int (zI ((cc : Nat) : Int)))]) hx hb dX10_dots_52 hl (k := 2) rfl (zI_add _ _) (by decide) rfl (fun ls hl => ?_)
              refine lv_goto (tgt := 8) hx hb dX10_dots_55 (by decide) ?_
              have hl : lv_has ls 4 [(2, .int (zI (((jj : Nat) : Int) + 1))), (0, .ref q0), (1, .int (zI ((sm (fun q => fillL f q) (jj + 1) : Nat) : Int))), (3, .int (zI ((cc : Nat) : Int)))] := lv_c (l1 := [(2, .int (zI (((jj : Nat) : Int) + 1))), (0, .ref q0)]) (l2 := [(3, .int (zI ((cc : Nat) : Int)))]) hl (show ((sm (fun q => fillL f q) jj + ct (fun cl => decide (seenA f (dN f jj) jj cl ≠ -1)) cc : Nat) : Int) = ((sm (fun q => fillL f q) (jj + 1) : Nat) : Int) from fil_j hc32)
              have hl : lv_has ls 4 [(2, .int (zI (((jj + 1) : Nat) : Int))), (0, .ref q0), (1, .int (zI ((sm (fun q => fillL f q) (jj + 1) : Nat) : Int))), (3, .int (zI ((cc : Nat) : Int)))] := lv_c (l1 := []) (l2 := [(0, .ref q0), (1, .int (zI ((sm (fun q => fillL f q) (jj + 1) : Nat) : Int))), (3, .int (zI ((cc : Nat) : Int)))]) hl (show ((jj : Nat) : Int) + 1 = (((jj + 1) : Nat) : Int) from by omega)
              exact ih8 (jj + 1) (by omega) (by omega) _ _ hP hD hS ls (lv_sub hl [1, 2, 0] rfl)
            · have hsr := seenA_rg hV (dN f jj) jj cc
              refine lv_iload_n hx hb dX10_dots_22 rfl (lv_at hl 1 rfl) ?_
              refine lv_aload_n hx hb dX10_dots_23 rfl (lv_at hl 0 rfl) ?_
              refine lv_aload_n hx hb dX10_dots_24 rfl (lv_at hl 0 rfl) ?_
              refine va_get (D := D) (ci := 10) (v := .ref qt) (C := RX10) (T := TX10) (N := 13) hx hb hts hinX10 hown hK.1 hP 0 rfl rfl 10 (by decide) fl33 (fun _ h9 => h9) rfl dX10_dots_25 ?_
              refine lv_iload_n hx hb dX10_dots_28 rfl (lv_at hl 2 rfl) ?_
              refine z_ald hx hb hK hP 2 rfl (jj) (by omega) (by omega) (Nat.le_of_ble_eq_true rfl) dX10_dots_29 ?_
              refine te (zc (show u_3 jj = ((dN f jj : Nat) : Int) from h_3 _ (by omega))) ?_
              refine lv_iload_n hx hb dX10_dots_30 rfl (lv_at hl 2 rfl) ?_
              refine lv_iload_n hx hb dX10_dots_31 rfl (lv_at hl 3 rfl) ?_
              refine roV (n := 3) (As := [.int (zI (((dN f jj) : Nat) : Int)), .int (zI ((jj : Nat) : Int)), .int (zI ((cc : Nat) : Int))]) (rest := [.int (zI ((sm (fun q => fillL f q) jj + ct (fun cl => decide (seenA f (dN f jj) jj cl ≠ -1)) cc : Nat) : Int))]) hSf (m_seenAt l D k q0 qn qa qp qi qs qk qb qt qh qe de sv bn f B hV hB (dN f jj) jj cc (by omega) (by omega) (by omega)) gX10_dots_X10_seenAt rfl (by decide +kernel) ⟨Nat.le_of_ble_eq_true rfl, Nat.le_of_ble_eq_true rfl⟩ hK hP [0, 1] rfl 0 rfl rfl rfl hl.1 rfl (Nat.le_of_ble_eq_true rfl) dX10_dots_32 ⟨Nat.zero_le _, Nat.zero_le _⟩ (fun r_32 h_32 => ?_)
              subst h_32
              refine z_iconst hx hb dX10_dots_35 ?_
              refine z_icmp_eq (tgt := 43) hx hb dX10_dots_36 (by decide) (by omega) (by omega) (fun c_36 => ?_) (fun c_36 => ?_)
              · refine z_iconst hx hb dX10_dots_43 ?_
                refine z_iadd hx hb dX10_dots_44 ?_
                refine lv_istore_n (lv' := [(1, .int (zI (((sm (fun q => fillL f q) jj + ct (fun cl => decide (seenA f (dN f jj) jj cl ≠ -1)) cc : Nat) : Int) + 0))), (0, .ref q0), (2, .int (zI ((jj : Nat) : Int))), (3, .int (zI ((cc : Nat) : Int)))]) hx hb dX10_dots_45 rfl hl (by decide) rfl (fun ls hl => ?_)
                refine lv_iinc (v := zI (((cc : Nat) : Int) + 1)) (lv' := [(3, .int (zI (((cc : Nat) : Int) + 1))), (1, .int (zI (((sm (fun q => fillL f q) jj + ct (fun cl => decide (seenA f (dN f jj) jj cl ≠ -1)) cc : Nat) : Int) + 0))), (0, .ref q0), (2, .int (zI ((jj : Nat) : Int)))]) hx hb dX10_dots_46 hl (k := 3) rfl (zI_add _ _) (by decide) rfl (fun ls hl => ?_)
                refine lv_goto (tgt := 16) hx hb dX10_dots_49 (by decide) ?_
                have hl : lv_has ls 4 [(3, .int (zI (((cc : Nat) : Int) + 1))), (1, .int (zI ((sm (fun q => fillL f q) jj + ct (fun cl => decide (seenA f (dN f jj) jj cl ≠ -1)) (cc + 1) : Nat) : Int))), (0, .ref q0), (2, .int (zI ((jj : Nat) : Int)))] := lv_c (l1 := [(3, .int (zI (((cc : Nat) : Int) + 1)))]) (l2 := [(0, .ref q0), (2, .int (zI ((jj : Nat) : Int)))]) hl (show ((sm (fun q => fillL f q) jj + ct (fun cl => decide (seenA f (dN f jj) jj cl ≠ -1)) cc : Nat) : Int) + 0 = ((sm (fun q => fillL f q) jj + ct (fun cl => decide (seenA f (dN f jj) jj cl ≠ -1)) (cc + 1) : Nat) : Int) from dbz_0 (p := (fun cl => decide (seenA f (dN f jj) jj cl ≠ -1))) (decide_eq_false (fun hzz => hzz c_36)))
                have hl : lv_has ls 4 [(3, .int (zI (((cc + 1) : Nat) : Int))), (1, .int (zI ((sm (fun q => fillL f q) jj + ct (fun cl => decide (seenA f (dN f jj) jj cl ≠ -1)) (cc + 1) : Nat) : Int))), (0, .ref q0), (2, .int (zI ((jj : Nat) : Int)))] := lv_c (l1 := []) (l2 := [(1, .int (zI ((sm (fun q => fillL f q) jj + ct (fun cl => decide (seenA f (dN f jj) jj cl ≠ -1)) (cc + 1) : Nat) : Int))), (0, .ref q0), (2, .int (zI ((jj : Nat) : Int)))]) hl (show ((cc : Nat) : Int) + 1 = (((cc + 1) : Nat) : Int) from by omega)
                exact ih16 (cc + 1) (by omega) (by omega) _ _ hP hD hS ls (lv_sub hl [2, 1, 3, 0] rfl)
              · refine z_iconst hx hb dX10_dots_39 ?_
                refine lv_goto (tgt := 44) hx hb dX10_dots_40 (by decide) ?_
                refine z_iadd hx hb dX10_dots_44 ?_
                refine lv_istore_n (lv' := [(1, .int (zI (((sm (fun q => fillL f q) jj + ct (fun cl => decide (seenA f (dN f jj) jj cl ≠ -1)) cc : Nat) : Int) + 1))), (0, .ref q0), (2, .int (zI ((jj : Nat) : Int))), (3, .int (zI ((cc : Nat) : Int)))]) hx hb dX10_dots_45 rfl hl (by decide) rfl (fun ls hl => ?_)
                refine lv_iinc (v := zI (((cc : Nat) : Int) + 1)) (lv' := [(3, .int (zI (((cc : Nat) : Int) + 1))), (1, .int (zI (((sm (fun q => fillL f q) jj + ct (fun cl => decide (seenA f (dN f jj) jj cl ≠ -1)) cc : Nat) : Int) + 1))), (0, .ref q0), (2, .int (zI ((jj : Nat) : Int)))]) hx hb dX10_dots_46 hl (k := 3) rfl (zI_add _ _) (by decide) rfl (fun ls hl => ?_)
                refine lv_goto (tgt := 16) hx hb dX10_dots_49 (by decide) ?_
                have hl : lv_has ls 4 [(3, .int (zI (((cc : Nat) : Int) + 1))), (1, .int (zI ((sm (fun q => fillL f q) jj + ct (fun cl => decide (seenA f (dN f jj) jj cl ≠ -1)) (cc + 1) : Nat) : Int))), (0, .ref q0), (2, .int (zI ((jj : Nat) : Int)))] := lv_c (l1 := [(3, .int (zI (((cc : Nat) : Int) + 1)))]) (l2 := [(0, .ref q0), (2, .int (zI ((jj : Nat) : Int)))]) hl (show ((sm (fun q => fillL f q) jj + ct (fun cl => decide (seenA f (dN f jj) jj cl ≠ -1)) cc : Nat) : Int) + 1 = ((sm (fun q => fillL f q) jj + ct (fun cl => decide (seenA f (dN f jj) jj cl ≠ -1)) (cc + 1) : Nat) : Int) from dbz_1 (p := (fun cl => decide (seenA f (dN f jj) jj cl ≠ -1))) (decide_eq_true c_36))
                have hl : lv_has ls 4 [(3, .int (zI (((cc + 1) : Nat) : Int))), (1, .int (zI ((sm (fun q => fillL f q) jj + ct (fun cl => decide (seenA f (dN f jj) jj cl ≠ -1)) (cc + 1) : Nat) : Int))), (0, .ref q0), (2, .int (zI ((jj : Nat) : Int)))] := lv_c (l1 := []) (l2 := [(1, .int (zI ((sm (fun q => fillL f q) jj + ct (fun cl => decide (seenA f (dN f jj) jj cl ≠ -1)) (cc + 1) : Nat) : Int))), (0, .ref q0), (2, .int (zI ((jj : Nat) : Int)))]) hl (show ((cc : Nat) : Int) + 1 = (((cc + 1) : Nat) : Int) from by omega)
                exact ih16 (cc + 1) (by omega) (by omega) _ _ hP hD hS ls (lv_sub hl [2, 1, 3, 0] rfl)
        have hl : lv_has ls 4 [(3, .int (zI 0)), (0, .ref q0), (1, .int (zI ((sm (fun q => fillL f q) jj + ct (fun cl => decide (seenA f (dN f jj) jj cl ≠ -1)) 0 : Nat) : Int))), (2, .int (zI ((jj : Nat) : Int)))] := lv_c (l1 := [(3, .int (zI 0)), (0, .ref q0)]) (l2 := [(2, .int (zI ((jj : Nat) : Int)))]) hl (show ((sm (fun q => fillL f q) jj : Nat) : Int) = ((sm (fun q => fillL f q) jj + ct (fun cl => decide (seenA f (dN f jj) jj cl ≠ -1)) 0 : Nat) : Int) from rfl)
        have hl : lv_has ls 4 [(3, .int (zI ((0 : Nat) : Int))), (0, .ref q0), (1, .int (zI ((sm (fun q => fillL f q) jj + ct (fun cl => decide (seenA f (dN f jj) jj cl ≠ -1)) 0 : Nat) : Int))), (2, .int (zI ((jj : Nat) : Int)))] := lv_c (l1 := []) (l2 := [(0, .ref q0), (1, .int (zI ((sm (fun q => fillL f q) jj + ct (fun cl => decide (seenA f (dN f jj) jj cl ≠ -1)) 0 : Nat) : Int))), (2, .int (zI ((jj : Nat) : Int)))]) hl (show 0 = ((0 : Nat) : Int) from rfl)
        exact L16 _ 0 (by decide) (Nat.lt_succ_self _) _ _ hP hD hS ls (lv_sub hl [1, 2, 3, 0] rfl)
  have hl : lv_has ls 4 [(2, .int (zI 0)), (1, .int (zI ((sm (fun q => fillL f q) 0 : Nat) : Int))), (0, .ref q0)] := lv_c (l1 := [(2, .int (zI 0))]) (l2 := [(0, .ref q0)]) hl (show 0 = ((sm (fun q => fillL f q) 0 : Nat) : Int) from rfl)
  have hl : lv_has ls 4 [(2, .int (zI ((0 : Nat) : Int))), (1, .int (zI ((sm (fun q => fillL f q) 0 : Nat) : Int))), (0, .ref q0)] := lv_c (l1 := []) (l2 := [(1, .int (zI ((sm (fun q => fillL f q) 0 : Nat) : Int))), (0, .ref q0)]) hl (show 0 = ((0 : Nat) : Int) from rfl)
  exact L8 _ 0 (by decide) (Nat.lt_succ_self _) _ _ hP hD hS ls (lv_sub hl [2, 1, 0] rfl)
set_option maxHeartbeats 4000000 in
set_option maxRecDepth 100000 in
theorem m_wrong (l : Launch) (D : va_G) (k : Kt) (q0 : Nat) (qn : Nat) (qa : Nat) (qp : Nat) (qi : Nat) (qs : Nat) (qk : Nat) (qb : Nat) (qt : Nat) (qh : Nat) (qe : Nat) (de : Nat) (sv : Int) (bn : Nat) (f : St) (B : Int) (hV : Va B f) (hB : B < 1000000) (ts : Nat → Int) (bk : Nat → Int) (hbk : BoOK (fun q => bk (3 * q)) (fun q => bk (3 * q + 1)) (fun q => bk (3 * q + 2)) bn) : MI l D k yX10_wrong wsX10_wrong 6 136 [.ref q0] [(q0, .inr (10, [.ref qn, .ref qa, .ref qp, .int (zI ((de : Nat) : Int)), .ref qi, .ref qs, .ref qk, .long (zL sv), .ref qb, .int (zI ((bn : Nat) : Int)), .ref qt, .ref qh, .ref qe])), (qn, .inl (k.1, 132, .inl (zF f))), (qt, .inl (k.1, 24, .inl (zF ts))), (qb, .inl (k.1, 60, .inl (zF bk)))] (fun (r : Int32) (u : Nat → Int) => r = zI (wrF f (fun q => bk (3 * q)) (fun q => bk (3 * q + 1)) (fun q => bk (3 * q + 2)) bn) ∧ True) (fun u => [(q0, .inr (10, [.ref qn, .ref qa, .ref qp, .int (zI ((de : Nat) : Int)), .ref qi, .ref qs, .ref qk, .long (zL sv), .ref qb, .int (zI ((bn : Nat) : Int)), .ref qt, .ref qh, .ref qe])), (qn, .inl (k.1, 132, .inl (zF f))), (qt, .inl (k.1, 24, .inl (zF u))), (qb, .inl (k.1, 60, .inl (zF bk)))]) := by
  refine Met.ofW (cc := cX10_wrong) (maxL := 2) (ret := (some .int)) (by decide) rfl ?_
  intro p e s m args below meth c s₁ Bd hml hv
  obtain ⟨rfl, hP, hK, hD0⟩ := hv
  have hx := Bd.exec
  have hb := Bd.bytes
  have hr := Bd.returns
  have hts := atoms_spec (ws := wsX10_wrong) Bd.pre
  have hown : s.vm.findClass RX10 = some m.cls := findClass_of_methodNamed Bd.named
  have hlocks := Bd.notSynchronized
  have hSf : CallFix p m c cX10_wrong 2 s ([.ref q0] : List Value).toArray wsX10_wrong RX10 := ⟨hx, hb, hml, hown, hts⟩
  have hD := fA_D hD0
  have hS : va_S (fA [(q0, .inr (10, [.ref qn, .ref qa, .ref qp, .int (zI ((de : Nat) : Int)), .ref qi, .ref qs, .ref qk, .long (zL sv), .ref qb, .int (zI ((bn : Nat) : Int)), .ref qt, .ref qh, .ref qe])), (qn, .inl (k.1, 132, .inl (zF f))), (qt, .inl (k.1, 24, .inl (zF ts))), (qb, .inl (k.1, 60, .inl (zF bk)))]) s.heap s.heap [] := va_S.rf
  generalize hAe : fA [(q0, .inr (10, [.ref qn, .ref qa, .ref qp, .int (zI ((de : Nat) : Int)), .ref qi, .ref qs, .ref qk, .long (zL sv), .ref qb, .int (zI ((bn : Nat) : Int)), .ref qt, .ref qh, .ref qe])), (qn, .inl (k.1, 132, .inl (zF f))), (qt, .inl (k.1, 24, .inl (zF ts))), (qb, .inl (k.1, 60, .inl (zF bk)))] = A at hD hS ⊢
  have hP : va_P D vwCl [(q0, .inr (10, [.ref qn, .ref qa, .ref qp, .int (zI ((de : Nat) : Int)), .ref qi, .ref qs, .ref qk, .long (zL sv), .ref qb, .int (zI ((bn : Nat) : Int)), .ref qt, .ref qh, .ref qe])), (qn, .inl (k.1, 132, .inl (zF f))), (qt, .inl (k.1, 24, .inl (zF ts))), (qb, .inl (k.1, 60, .inl (zF bk)))] s.heap := hP
  have hinX10 : ∀ w ∈ u_ws RX10 TX10 13, w ∈ wsX10_wrong := by decide +kernel
  have fl94 := hts (.fieldLink RX10 94 "DotObjectsModel" "entries" "I") (by decide +kernel)
  have fl33 := hts (.fieldLink RX10 33 "DotObjectsModel" "sets" "[I") (by decide +kernel)
  have fl30 := hts (.fieldLink RX10 30 "DotObjectsModel" "book" "[I") (by decide +kernel)
  have hl := lv_entry ([.ref q0]) (n := 2) (Nat.le_of_ble_eq_true rfl)
  rw [lg_entry_eq]
  generalize (lg_sl ([.ref q0]) ++ List.replicate (2 - (lg_sl ([.ref q0])).length) Slot.unset).toArray = ls at hl ⊢
  have hl : lv_has ls 2 [(0, .ref q0)] := hl
  have hb20 := hbk.1
  refine lv_aload_n hx hb dX10_wrong_0 rfl (lv_at hl 0 rfl) ?_
  refine muV (n := 0) (As := []) (rest := []) hSf (m_draws l D k q0 qn qa qp qi qs qk qb qt qh qe de sv bn f B hV hB ts) gX10_wrong_X10_draws rfl (by decide +kernel) ⟨Nat.le_of_ble_eq_true rfl, Nat.le_of_ble_eq_true rfl⟩ hK hP hD hS [0, 1, 2] rfl rfl (by decide) (fun _ => rfl) (fun _ => rfl) 0 rfl rfl rfl hl.1 rfl (Nat.le_of_ble_eq_true rfl) dX10_wrong_1 ⟨Nat.zero_le _, Nat.zero_le _⟩ (fun u_1 H locs h_1 hP hD hS => ?_)
  have hP : va_P D vwCl [(q0, .inr (10, [.ref qn, .ref qa, .ref qp, .int (zI ((de : Nat) : Int)), .ref qi, .ref qs, .ref qk, .long (zL sv), .ref qb, .int (zI ((bn : Nat) : Int)), .ref qt, .ref qh, .ref qe])), (qn, .inl (k.1, 132, .inl (zF f))), (qt, .inl (k.1, 24, .inl (zF u_1))), (qb, .inl (k.1, 60, .inl (zF bk)))] H := hP
  have hD : va_D A [(q0, .inr (10, [.ref qn, .ref qa, .ref qp, .int (zI ((de : Nat) : Int)), .ref qi, .ref qs, .ref qk, .long (zL sv), .ref qb, .int (zI ((bn : Nat) : Int)), .ref qt, .ref qh, .ref qe])), (qn, .inl (k.1, 132, .inl (zF f))), (qt, .inl (k.1, 24, .inl (zF u_1))), (qb, .inl (k.1, 60, .inl (zF bk)))] := hD
  refine z_iconst hx hb dX10_wrong_4 ?_
  refine lv_istore_n (lv' := [(1, .int (zI 0)), (0, .ref q0)]) hx hb dX10_wrong_5 rfl hl (by decide) rfl (fun ls hl => ?_)
  have L6 : ∀ (NN6 : Nat), ∀ (qq : Nat), (qq ≤ bn) → (∀ i, i < qq → wrP f (fun q => bk (3 * q)) (fun q => bk (3 * q + 1)) (fun q => bk (3 * q + 2)) i = false) → bn - qq < NN6 → ∀ (H : Heap) (locs : List Loc), va_P D vwCl [(q0, .inr (10, [.ref qn, .ref qa, .ref qp, .int (zI ((de : Nat) : Int)), .ref qi, .ref qs, .ref qk, .long (zL sv), .ref qb, .int (zI ((bn : Nat) : Int)), .ref qt, .ref qh, .ref qe])), (qn, .inl (k.1, 132, .inl (zF f))), (qt, .inl (k.1, 24, .inl (zF u_1))), (qb, .inl (k.1, 60, .inl (zF bk)))] H → va_D A [(q0, .inr (10, [.ref qn, .ref qa, .ref qp, .int (zI ((de : Nat) : Int)), .ref qi, .ref qs, .ref qk, .long (zL sv), .ref qb, .int (zI ((bn : Nat) : Int)), .ref qt, .ref qh, .ref qe])), (qn, .inl (k.1, 132, .inl (zF f))), (qt, .inl (k.1, 24, .inl (zF u_1))), (qb, .inl (k.1, 60, .inl (zF bk)))] → va_S A s.heap H locs → ∀ (ls : Array Slot), lv_has ls 2 [(0, .ref q0), (1, .int (zI ((qq : Nat) : Int)))] → W p l e (headSpec wsX10_wrong { frames := 6, cells := 0, slots := 0, locals := 136 }).room s m ([.ref q0] : List Value).toArray below meth c H locs 0 0 (MQ below (va_Qi (fun (r : Int32) (u : Nat → Int) => r = zI (wrF f (fun q => bk (3 * q)) (fun q => bk (3 * q + 1)) (fun q => bk (3 * q + 2)) bn) ∧ True) (fun (u : Nat → Int) t => va_P D vwCl [(q0, .inr (10, [.ref qn, .ref qa, .ref qp, .int (zI ((de : Nat) : Int)), .ref qi, .ref qs, .ref qk, .long (zL sv), .ref qb, .int (zI ((bn : Nat) : Int)), .ref qt, .ref qh, .ref qe])), (qn, .inl (k.1, 132, .inl (zF f))), (qt, .inl (k.1, 24, .inl (zF u))), (qb, .inl (k.1, 60, .inl (zF bk)))] t.heap) A) ([.ref q0] : List Value).toArray s 0 0 A) (F0 m 6 ls []) := by
    intro NN6
    induction NN6 with
    | zero => intro qq _ _ hN; exact absurd hN (Nat.not_lt_zero _)
    | succ NN6 ih6 =>
      intro qq hqq hno hN H locs hP hD hS ls hl
      refine lv_iload_n hx hb dX10_wrong_6 rfl (lv_at hl 1 rfl) ?_
      refine lv_aload_n hx hb dX10_wrong_7 rfl (lv_at hl 0 rfl) ?_
      refine va_get (D := D) (ci := 10) (v := .int (zI ((bn : Nat) : Int))) (C := RX10) (T := TX10) (N := 13) hx hb hts hinX10 hown hK.1 hP 0 rfl rfl 9 (by decide) fl94 (fun _ h9 => h9) rfl dX10_wrong_8 ?_
      refine z_icmp_ge (tgt := 70) hx hb dX10_wrong_11 (by decide) (by omega) (by omega) (fun c_11 => ?_) (fun c_11 => ?_)
      · refine z_iconst hx hb dX10_wrong_70 ?_
        exact W.iret hx hb hr (fun t ht hW => ⟨⟨_, u_1, rfl, ⟨zc (by have he := fsN_eq (p := wrP f (fun q => bk (3 * q)) (fun q => bk (3 * q + 1)) (fun q => bk (3 * q + 2))) hno (show qq ≤ bn by omega) (Or.inl (by omega)); unfold wrF; rw [← he, if_neg (by omega)]), trivial⟩, by show va_P D vwCl _ _; rw [ht]; exact hP⟩, hS.F ht⟩) hS.2.2 dX10_wrong_71
      · have hbq : (0 ≤ bk (3 * qq) ∧ bk (3 * qq) < 24) ∧ (0 ≤ bk (3 * qq + 1) ∧ bk (3 * qq + 1) < 32) ∧ (0 ≤ bk (3 * qq + 2) ∧ bk (3 * qq + 2) ≤ 7) := hbk.2 qq (by omega)
        have hds := dN_lt hV (bk (3 * qq)).toNat
        have hcr := colA_rg hV (dN f (bk (3 * qq)).toNat) (bk (3 * qq)).toNat (bk (3 * qq + 1)).toNat
        refine lv_aload_n hx hb dX10_wrong_14 rfl (lv_at hl 0 rfl) ?_
        refine lv_aload_n hx hb dX10_wrong_15 rfl (lv_at hl 0 rfl) ?_
        refine va_get (D := D) (ci := 10) (v := .ref qt) (C := RX10) (T := TX10) (N := 13) hx hb hts hinX10 hown hK.1 hP 0 rfl rfl 10 (by decide) fl33 (fun _ h9 => h9) rfl dX10_wrong_16 ?_
        refine lv_aload_n hx hb dX10_wrong_19 rfl (lv_at hl 0 rfl) ?_
        refine va_get (D := D) (ci := 10) (v := .ref qb) (C := RX10) (T := TX10) (N := 13) hx hb hts hinX10 hown hK.1 hP 0 rfl rfl 8 (by decide) fl30 (fun _ h9 => h9) rfl dX10_wrong_20 ?_
        refine z_iconst hx hb dX10_wrong_23 ?_
        refine lv_iload_n hx hb dX10_wrong_24 rfl (lv_at hl 1 rfl) ?_
        refine z_imul hx hb dX10_wrong_25 ?_
        refine z_ald hx hb hK hP 3 rfl (3 * qq) (by omega) (by omega) (Nat.le_of_ble_eq_true rfl) dX10_wrong_26 ?_
        refine z_ald hx hb hK hP 2 rfl ((bk (3 * qq)).toNat) (by omega) (by omega) (Nat.le_of_ble_eq_true rfl) dX10_wrong_27 ?_
        refine te (zc (show u_1 ((bk (3 * qq)).toNat) = ((dN f (bk (3 * qq)).toNat : Nat) : Int) from h_1 _ (by omega))) ?_
        refine lv_aload_n hx hb dX10_wrong_28 rfl (lv_at hl 0 rfl) ?_
        refine va_get (D := D) (ci := 10) (v := .ref qb) (C := RX10) (T := TX10) (N := 13) hx hb hts hinX10 hown hK.1 hP 0 rfl rfl 8 (by decide) fl30 (fun _ h9 => h9) rfl dX10_wrong_29 ?_
        refine z_iconst hx hb dX10_wrong_32 ?_
        refine lv_iload_n hx hb dX10_wrong_33 rfl (lv_at hl 1 rfl) ?_
        refine z_imul hx hb dX10_wrong_34 ?_
        refine z_ald hx hb hK hP 3 rfl (3 * qq) (by omega) (by omega) (Nat.le_of_ble_eq_true rfl) dX10_wrong_35 ?_
        refine lv_aload_n hx hb dX10_wrong_36 rfl (lv_at hl 0 rfl) ?_
        refine va_get (D := D) (ci := 10) (v := .ref qb) (C := RX10) (T := TX10) (N := 13) hx hb hts hinX10 hown hK.1 hP 0 rfl rfl 8 (by decide) fl30 (fun _ h9 => h9) rfl dX10_wrong_37 ?_
        refine z_iconst hx hb dX10_wrong_40 ?_
        refine lv_iload_n hx hb dX10_wrong_41 rfl (lv_at hl 1 rfl) ?_
        refine z_imul hx hb dX10_wrong_42 ?_
        refine z_iconst hx hb dX10_wrong_43 ?_
        refine z_iadd hx hb dX10_wrong_44 ?_
        refine z_ald hx hb hK hP 3 rfl (3 * qq + 1) (by omega) (by omega) (Nat.le_of_ble_eq_true rfl) dX10_wrong_45 ?_
        refine roV (n := 3) (As := [.int (zI (((dN f (bk (3 * qq)).toNat) : Nat) : Int)), .int (zI ((((bk (3 * qq)).toNat) : Nat) : Int)), .int (zI ((((bk (3 * qq + 1)).toNat) : Nat) : Int))]) (rest := []) hSf (m_colourAt l D k q0 qn qa qp qi qs qk qb qt qh qe de sv bn f B hV hB (dN f (bk (3 * qq)).toNat) ((bk (3 * qq)).toNat) ((bk (3 * qq + 1)).toNat) (by omega) (by omega) (by omega)) gX10_wrong_X10_colourAt rfl (by decide +kernel) ⟨Nat.le_of_ble_eq_true rfl, Nat.le_of_ble_eq_true rfl⟩ hK hP [0, 1] rfl 0 rfl rfl rfl hl.1 (by rw [show zI (bk (3 * qq)) = zI ((((bk (3 * qq)).toNat) : Nat) : Int) from zc (by omega)]; rw [show zI (bk (3 * qq + 1)) = zI ((((bk (3 * qq + 1)).toNat) : Nat) : Int) from zc (by omega)]; rfl) (Nat.le_of_ble_eq_true rfl) dX10_wrong_46 ⟨Nat.zero_le _, Nat.zero_le _⟩ (fun r_46 h_46 => ?_)
        subst h_46
        refine lv_aload_n hx hb dX10_wrong_49 rfl (lv_at hl 0 rfl) ?_
        refine va_get (D := D) (ci := 10) (v := .ref qb) (C := RX10) (T := TX10) (N := 13) hx hb hts hinX10 hown hK.1 hP 0 rfl rfl 8 (by decide) fl30 (fun _ h9 => h9) rfl dX10_wrong_50 ?_
        refine z_iconst hx hb dX10_wrong_53 ?_
        refine lv_iload_n hx hb dX10_wrong_54 rfl (lv_at hl 1 rfl) ?_
        refine z_imul hx hb dX10_wrong_55 ?_
        refine z_iconst hx hb dX10_wrong_56 ?_
        refine z_iadd hx hb dX10_wrong_57 ?_
        refine z_ald hx hb hK hP 3 rfl (3 * qq + 2) (by omega) (by omega) (Nat.le_of_ble_eq_true rfl) dX10_wrong_58 ?_
        refine z_icmp_eq (tgt := 64) hx hb dX10_wrong_59 (by decide) (by omega) (by omega) (fun c_59 => ?_) (fun c_59 => ?_)
        · refine lv_iinc (v := zI (((qq : Nat) : Int) + 1)) (lv' := [(1, .int (zI (((qq : Nat) : Int) + 1))), (0, .ref q0)]) hx hb dX10_wrong_64 hl (k := 1) rfl (zI_add _ _) (by decide) rfl (fun ls hl => ?_)
          refine lv_goto (tgt := 6) hx hb dX10_wrong_67 (by decide) ?_
          have hl : lv_has ls 2 [(1, .int (zI (((qq + 1) : Nat) : Int))), (0, .ref q0)] := lv_c (l1 := []) (l2 := [(0, .ref q0)]) hl (show ((qq : Nat) : Int) + 1 = (((qq + 1) : Nat) : Int) from by omega)
          exact ih6 (qq + 1) (by omega) (lt_s hno (decide_eq_false (fun hz => hz c_59))) (by omega) _ _ hP hD hS ls (lv_sub hl [1, 0] rfl)
        · refine lv_iload_n hx hb dX10_wrong_62 rfl (lv_at hl 1 rfl) ?_
          exact W.iret hx hb hr (fun t ht hW => ⟨⟨_, u_1, rfl, ⟨zc (by have he := fsN_eq (p := wrP f (fun q => bk (3 * q)) (fun q => bk (3 * q + 1)) (fun q => bk (3 * q + 2))) hno (show qq ≤ bn by omega) (Or.inr (decide_eq_true c_59)); unfold wrF; rw [← he, if_pos (by omega)]), trivial⟩, by show va_P D vwCl _ _; rw [ht]; exact hP⟩, hS.F ht⟩) hS.2.2 dX10_wrong_63
  have hl : lv_has ls 2 [(1, .int (zI ((0 : Nat) : Int))), (0, .ref q0)] := lv_c (l1 := []) (l2 := [(0, .ref q0)]) hl (show 0 = ((0 : Nat) : Int) from rfl)
  exact L6 _ 0 (Nat.zero_le _) (fun i hi => absurd hi (Nat.not_lt_zero _)) (Nat.lt_succ_self _) _ _ hP hD hS ls (lv_sub hl [1, 0] rfl)
set_option maxHeartbeats 4000000 in
set_option maxRecDepth 100000 in
theorem m_told (l : Launch) (D : va_G) (k : Kt) (q0 : Nat) (qn : Nat) (qa : Nat) (qp : Nat) (qi : Nat) (qs : Nat) (qk : Nat) (qb : Nat) (qt : Nat) (qh : Nat) (qe : Nat) (de : Nat) (sv : Int) (bn : Nat) (f : St) (B : Int) (hV : Va B f) (hB : B < 1000000) (ts : Nat → Int) (hd : Nat → Int) (en : Nat → Int) (bk : Nat → Int) (hbk : BoOK (fun q => bk (3 * q)) (fun q => bk (3 * q + 1)) (fun q => bk (3 * q + 2)) bn) (x1 : Int) (hx1 : -2147483648 ≤ x1 ∧ x1 < 2147483648) : MI l D k yX10_told wsX10_told 8 185 [.ref q0, .int (zI x1)] [(q0, .inr (10, [.ref qn, .ref qa, .ref qp, .int (zI ((de : Nat) : Int)), .ref qi, .ref qs, .ref qk, .long (zL sv), .ref qb, .int (zI ((bn : Nat) : Int)), .ref qt, .ref qh, .ref qe])), (qn, .inl (k.1, 132, .inl (zF f))), (qt, .inl (k.1, 24, .inl (zF ts))), (qb, .inl (k.1, 60, .inl (zF bk))), (qh, .inl (k.1, 12, .inl (zF hd))), (qe, .inl (k.1, 12, .inl (zF en)))] (fun (r : Int32) (u : (Nat → Int) × (Nat → Int) × (Nat → Int)) => r = zI (vTold f bn de (wrF f (fun q => bk (3 * q)) (fun q => bk (3 * q + 1)) (fun q => bk (3 * q + 2)) bn) x1) ∧ True) (fun u => [(q0, .inr (10, [.ref qn, .ref qa, .ref qp, .int (zI ((de : Nat) : Int)), .ref qi, .ref qs, .ref qk, .long (zL sv), .ref qb, .int (zI ((bn : Nat) : Int)), .ref qt, .ref qh, .ref qe])), (qn, .inl (k.1, 132, .inl (zF f))), (qt, .inl (k.1, 24, .inl (zF u.1))), (qb, .inl (k.1, 60, .inl (zF bk))), (qh, .inl (k.1, 12, .inl (zF u.2.1))), (qe, .inl (k.1, 12, .inl (zF u.2.2)))]) := by
  refine Met.ofW (cc := cX10_told) (maxL := 2) (ret := (some .int)) (by decide) rfl ?_
  intro p e s m args below meth c s₁ Bd hml hv
  obtain ⟨rfl, hP, hK, hD0⟩ := hv
  have hx := Bd.exec
  have hb := Bd.bytes
  have hr := Bd.returns
  have hts := atoms_spec (ws := wsX10_told) Bd.pre
  have hown : s.vm.findClass RX10 = some m.cls := findClass_of_methodNamed Bd.named
  have hlocks := Bd.notSynchronized
  have hSf : CallFix p m c cX10_told 2 s ([.ref q0, .int (zI x1)] : List Value).toArray wsX10_told RX10 := ⟨hx, hb, hml, hown, hts⟩
  have hD := fA_D hD0
  have hS : va_S (fA [(q0, .inr (10, [.ref qn, .ref qa, .ref qp, .int (zI ((de : Nat) : Int)), .ref qi, .ref qs, .ref qk, .long (zL sv), .ref qb, .int (zI ((bn : Nat) : Int)), .ref qt, .ref qh, .ref qe])), (qn, .inl (k.1, 132, .inl (zF f))), (qt, .inl (k.1, 24, .inl (zF ts))), (qb, .inl (k.1, 60, .inl (zF bk))), (qh, .inl (k.1, 12, .inl (zF hd))), (qe, .inl (k.1, 12, .inl (zF en)))]) s.heap s.heap [] := va_S.rf
  generalize hAe : fA [(q0, .inr (10, [.ref qn, .ref qa, .ref qp, .int (zI ((de : Nat) : Int)), .ref qi, .ref qs, .ref qk, .long (zL sv), .ref qb, .int (zI ((bn : Nat) : Int)), .ref qt, .ref qh, .ref qe])), (qn, .inl (k.1, 132, .inl (zF f))), (qt, .inl (k.1, 24, .inl (zF ts))), (qb, .inl (k.1, 60, .inl (zF bk))), (qh, .inl (k.1, 12, .inl (zF hd))), (qe, .inl (k.1, 12, .inl (zF en)))] = A at hD hS ⊢
  have hP : va_P D vwCl [(q0, .inr (10, [.ref qn, .ref qa, .ref qp, .int (zI ((de : Nat) : Int)), .ref qi, .ref qs, .ref qk, .long (zL sv), .ref qb, .int (zI ((bn : Nat) : Int)), .ref qt, .ref qh, .ref qe])), (qn, .inl (k.1, 132, .inl (zF f))), (qt, .inl (k.1, 24, .inl (zF ts))), (qb, .inl (k.1, 60, .inl (zF bk))), (qh, .inl (k.1, 12, .inl (zF hd))), (qe, .inl (k.1, 12, .inl (zF en)))] s.heap := hP
  have hinX10 : ∀ w ∈ u_ws RX10 TX10 13, w ∈ wsX10_told := by decide +kernel
  have fl7 := hts (.fieldLink RX10 7 "DotObjectsModel" "now" "[I") (by decide +kernel)
  have fl94 := hts (.fieldLink RX10 94 "DotObjectsModel" "entries" "I") (by decide +kernel)
  have fl46 := hts (.fieldLink RX10 46 "DotObjectsModel" "deeds" "I") (by decide +kernel)
  have hl := lv_entry ([.ref q0, .int (zI x1)]) (n := 2) (Nat.le_of_ble_eq_true rfl)
  rw [lg_entry_eq]
  generalize (lg_sl ([.ref q0, .int (zI x1)]) ++ List.replicate (2 - (lg_sl ([.ref q0, .int (zI x1)])).length) Slot.unset).toArray = ls at hl ⊢
  have hl : lv_has ls 2 [(0, .ref q0), (1, .int (zI x1))] := hl
  refine lv_iload_n hx hb dX10_told_0 rfl (lv_at hl 1 rfl) ?_
  rcases sw_cases (x := x1) (lo := 0) (hi := 11) with hsw | hsw
  · refine lv_tableOut (tgt := 111) hx hb dX10_told_1 (by rw [zI_toInt (by omega)]; omega) (by decide) ?_
    refine lv_ldc hx hb hown (hts (.constant RX10 112 (-1000000002)) (by decide +kernel)) dX10_told_111 ?_
    refine te (show (-1000000002 : Int32) = zI (-1000000002) from by decide +kernel) ?_
    exact W.iret hx hb hr (fun t ht hW => ⟨⟨_, (ts, hd, en), rfl, ⟨zc (by unfold vTold; rw [if_neg (by omega), if_neg (by omega), if_neg (by omega), if_neg (by omega), if_neg (by omega), if_neg (by omega), if_neg (by omega), if_neg (by omega), if_neg (by omega), if_neg (by omega), if_neg (by omega), if_neg (by omega)]), trivial⟩, by show va_P D vwCl _ _; rw [ht]; exact hP⟩, hS.F ht⟩) hS.2.2 dX10_told_113
  · rcases (show x1 = 0 ∨ x1 = 1 ∨ x1 = 2 ∨ x1 = 3 ∨ x1 = 4 ∨ x1 = 5 ∨ x1 = 6 ∨ x1 = 7 ∨ x1 = 8 ∨ x1 = 9 ∨ x1 = 10 ∨ x1 = 11 from by omega) with hsw | hsw | hsw | hsw | hsw | hsw | hsw | hsw | hsw | hsw | hsw | hsw
    · refine lv_tableIn (off := 63) (tgt := 64) hx hb dX10_told_1 (by rw [zI_toInt (by omega)]; omega) (by rw [zI_toInt (by omega)]; omega) (by rw [zI_toInt (by omega), hsw]; decide) (by decide) ?_
      refine lv_aload_n hx hb dX10_told_64 rfl (lv_at hl 0 rfl) ?_
      refine va_get (D := D) (ci := 10) (v := .ref qn) (C := RX10) (T := TX10) (N := 13) hx hb hts hinX10 hown hK.1 hP 0 rfl rfl 0 (by decide) fl7 (fun _ h9 => h9) rfl dX10_told_65 ?_
      refine lv_iload_n hx hb dX10_told_68 rfl (lv_at hl 1 rfl) ?_
      refine z_ald hx hb hK hP 1 rfl (x1.toNat) (by omega) (by omega) (Nat.le_of_ble_eq_true rfl) dX10_told_69 ?_
      exact W.iret hx hb hr (fun t ht hW => ⟨⟨_, (ts, hd, en), rfl, ⟨zc (by rw [hsw]; rfl), trivial⟩, by show va_P D vwCl _ _; rw [ht]; exact hP⟩, hS.F ht⟩) hS.2.2 dX10_told_70
    · refine lv_tableIn (off := 63) (tgt := 64) hx hb dX10_told_1 (by rw [zI_toInt (by omega)]; omega) (by rw [zI_toInt (by omega)]; omega) (by rw [zI_toInt (by omega), hsw]; decide) (by decide) ?_
      refine lv_aload_n hx hb dX10_told_64 rfl (lv_at hl 0 rfl) ?_
      refine va_get (D := D) (ci := 10) (v := .ref qn) (C := RX10) (T := TX10) (N := 13) hx hb hts hinX10 hown hK.1 hP 0 rfl rfl 0 (by decide) fl7 (fun _ h9 => h9) rfl dX10_told_65 ?_
      refine lv_iload_n hx hb dX10_told_68 rfl (lv_at hl 1 rfl) ?_
      refine z_ald hx hb hK hP 1 rfl (x1.toNat) (by omega) (by omega) (Nat.le_of_ble_eq_true rfl) dX10_told_69 ?_
      exact W.iret hx hb hr (fun t ht hW => ⟨⟨_, (ts, hd, en), rfl, ⟨zc (by rw [hsw]; rfl), trivial⟩, by show va_P D vwCl _ _; rw [ht]; exact hP⟩, hS.F ht⟩) hS.2.2 dX10_told_70
    · refine lv_tableIn (off := 63) (tgt := 64) hx hb dX10_told_1 (by rw [zI_toInt (by omega)]; omega) (by rw [zI_toInt (by omega)]; omega) (by rw [zI_toInt (by omega), hsw]; decide) (by decide) ?_
      refine lv_aload_n hx hb dX10_told_64 rfl (lv_at hl 0 rfl) ?_
      refine va_get (D := D) (ci := 10) (v := .ref qn) (C := RX10) (T := TX10) (N := 13) hx hb hts hinX10 hown hK.1 hP 0 rfl rfl 0 (by decide) fl7 (fun _ h9 => h9) rfl dX10_told_65 ?_
      refine lv_iload_n hx hb dX10_told_68 rfl (lv_at hl 1 rfl) ?_
      refine z_ald hx hb hK hP 1 rfl (x1.toNat) (by omega) (by omega) (Nat.le_of_ble_eq_true rfl) dX10_told_69 ?_
      exact W.iret hx hb hr (fun t ht hW => ⟨⟨_, (ts, hd, en), rfl, ⟨zc (by rw [hsw]; rfl), trivial⟩, by show va_P D vwCl _ _; rw [ht]; exact hP⟩, hS.F ht⟩) hS.2.2 dX10_told_70
    · refine lv_tableIn (off := 63) (tgt := 64) hx hb dX10_told_1 (by rw [zI_toInt (by omega)]; omega) (by rw [zI_toInt (by omega)]; omega) (by rw [zI_toInt (by omega), hsw]; decide) (by decide) ?_
      refine lv_aload_n hx hb dX10_told_64 rfl (lv_at hl 0 rfl) ?_
      refine va_get (D := D) (ci := 10) (v := .ref qn) (C := RX10) (T := TX10) (N := 13) hx hb hts hinX10 hown hK.1 hP 0 rfl rfl 0 (by decide) fl7 (fun _ h9 => h9) rfl dX10_told_65 ?_
      refine lv_iload_n hx hb dX10_told_68 rfl (lv_at hl 1 rfl) ?_
      refine z_ald hx hb hK hP 1 rfl (x1.toNat) (by omega) (by omega) (Nat.le_of_ble_eq_true rfl) dX10_told_69 ?_
      exact W.iret hx hb hr (fun t ht hW => ⟨⟨_, (ts, hd, en), rfl, ⟨zc (by rw [hsw]; rfl), trivial⟩, by show va_P D vwCl _ _; rw [ht]; exact hP⟩, hS.F ht⟩) hS.2.2 dX10_told_70
    · refine lv_tableIn (off := 70) (tgt := 71) hx hb dX10_told_1 (by rw [zI_toInt (by omega)]; omega) (by rw [zI_toInt (by omega)]; omega) (by rw [zI_toInt (by omega), hsw]; decide) (by decide) ?_
      refine lv_aload_n hx hb dX10_told_71 rfl (lv_at hl 0 rfl) ?_
      refine miV (n := 0) (As := []) (rest := []) hSf (m_missing l D k q0 qn qa qp qi qs qk qb qt qh qe de sv bn f B hV hB ts) gX10_told_X10_missing rfl (by decide +kernel) ⟨Nat.le_of_ble_eq_true rfl, Nat.le_of_ble_eq_true rfl⟩ hK hP hD hS [0, 1, 2] rfl rfl (by decide) (fun _ => rfl) (fun _ => rfl) 0 rfl rfl rfl hl.1 rfl (Nat.le_of_ble_eq_true rfl) dX10_told_72 ⟨Nat.zero_le _, Nat.zero_le _⟩ (fun r_72 u_72 H locs h_72 hP hD hS => ?_)
      have hP : va_P D vwCl [(q0, .inr (10, [.ref qn, .ref qa, .ref qp, .int (zI ((de : Nat) : Int)), .ref qi, .ref qs, .ref qk, .long (zL sv), .ref qb, .int (zI ((bn : Nat) : Int)), .ref qt, .ref qh, .ref qe])), (qn, .inl (k.1, 132, .inl (zF f))), (qt, .inl (k.1, 24, .inl (zF u_72))), (qb, .inl (k.1, 60, .inl (zF bk))), (qh, .inl (k.1, 12, .inl (zF hd))), (qe, .inl (k.1, 12, .inl (zF en)))] H := hP
      have hD : va_D A [(q0, .inr (10, [.ref qn, .ref qa, .ref qp, .int (zI ((de : Nat) : Int)), .ref qi, .ref qs, .ref qk, .long (zL sv), .ref qb, .int (zI ((bn : Nat) : Int)), .ref qt, .ref qh, .ref qe])), (qn, .inl (k.1, 132, .inl (zF f))), (qt, .inl (k.1, 24, .inl (zF u_72))), (qb, .inl (k.1, 60, .inl (zF bk))), (qh, .inl (k.1, 12, .inl (zF hd))), (qe, .inl (k.1, 12, .inl (zF en)))] := hD
      obtain ⟨he_72, h_72⟩ := h_72
      subst he_72
      exact W.iret hx hb hr (fun t ht hW => ⟨⟨_, (u_72, hd, en), rfl, ⟨zc (by rw [hsw]; rfl), trivial⟩, by show va_P D vwCl _ _; rw [ht]; exact hP⟩, hS.F ht⟩) hS.2.2 dX10_told_75
    · refine lv_tableIn (off := 75) (tgt := 76) hx hb dX10_told_1 (by rw [zI_toInt (by omega)]; omega) (by rw [zI_toInt (by omega)]; omega) (by rw [zI_toInt (by omega), hsw]; decide) (by decide) ?_
      refine lv_aload_n hx hb dX10_told_76 rfl (lv_at hl 0 rfl) ?_
      refine miV (n := 0) (As := []) (rest := []) hSf (m_bestRule l D k q0 qn qa qp qi qs qk qb qt qh qe de sv bn f B hV hB ts) gX10_told_X10_bestRule rfl (by decide +kernel) ⟨Nat.le_of_ble_eq_true rfl, Nat.le_of_ble_eq_true rfl⟩ hK hP hD hS [0, 1, 2] rfl rfl (by decide) (fun _ => rfl) (fun _ => rfl) 0 rfl rfl rfl hl.1 rfl (Nat.le_of_ble_eq_true rfl) dX10_told_77 ⟨Nat.zero_le _, Nat.zero_le _⟩ (fun r_77 u_77 H locs h_77 hP hD hS => ?_)
      have hP : va_P D vwCl [(q0, .inr (10, [.ref qn, .ref qa, .ref qp, .int (zI ((de : Nat) : Int)), .ref qi, .ref qs, .ref qk, .long (zL sv), .ref qb, .int (zI ((bn : Nat) : Int)), .ref qt, .ref qh, .ref qe])), (qn, .inl (k.1, 132, .inl (zF f))), (qt, .inl (k.1, 24, .inl (zF u_77))), (qb, .inl (k.1, 60, .inl (zF bk))), (qh, .inl (k.1, 12, .inl (zF hd))), (qe, .inl (k.1, 12, .inl (zF en)))] H := hP
      have hD : va_D A [(q0, .inr (10, [.ref qn, .ref qa, .ref qp, .int (zI ((de : Nat) : Int)), .ref qi, .ref qs, .ref qk, .long (zL sv), .ref qb, .int (zI ((bn : Nat) : Int)), .ref qt, .ref qh, .ref qe])), (qn, .inl (k.1, 132, .inl (zF f))), (qt, .inl (k.1, 24, .inl (zF u_77))), (qb, .inl (k.1, 60, .inl (zF bk))), (qh, .inl (k.1, 12, .inl (zF hd))), (qe, .inl (k.1, 12, .inl (zF en)))] := hD
      obtain ⟨he_77, h_77⟩ := h_77
      subst he_77
      exact W.iret hx hb hr (fun t ht hW => ⟨⟨_, (u_77, hd, en), rfl, ⟨zc (by rw [hsw]; rfl), trivial⟩, by show va_P D vwCl _ _; rw [ht]; exact hP⟩, hS.F ht⟩) hS.2.2 dX10_told_80
    · refine lv_tableIn (off := 80) (tgt := 81) hx hb dX10_told_1 (by rw [zI_toInt (by omega)]; omega) (by rw [zI_toInt (by omega)]; omega) (by rw [zI_toInt (by omega), hsw]; decide) (by decide) ?_
      refine lv_aload_n hx hb dX10_told_81 rfl (lv_at hl 0 rfl) ?_
      refine roV (n := 0) (As := []) (rest := []) hSf (m_enough l D k q0 qn qa qp qi qs qk qb qt qh qe de sv bn f B hV hB) gX10_told_X10_enough rfl (by decide +kernel) ⟨Nat.le_of_ble_eq_true rfl, Nat.le_of_ble_eq_true rfl⟩ hK hP [0, 1] rfl 0 rfl rfl rfl hl.1 rfl (Nat.le_of_ble_eq_true rfl) dX10_told_82 ⟨Nat.zero_le _, Nat.zero_le _⟩ (fun r_82 h_82 => ?_)
      subst h_82
      exact W.iret hx hb hr (fun t ht hW => ⟨⟨_, (ts, hd, en), rfl, ⟨zc (by rw [hsw]; rfl), trivial⟩, by show va_P D vwCl _ _; rw [ht]; exact hP⟩, hS.F ht⟩) hS.2.2 dX10_told_85
    · refine lv_tableIn (off := 85) (tgt := 86) hx hb dX10_told_1 (by rw [zI_toInt (by omega)]; omega) (by rw [zI_toInt (by omega)]; omega) (by rw [zI_toInt (by omega), hsw]; decide) (by decide) ?_
      refine lv_aload_n hx hb dX10_told_86 rfl (lv_at hl 0 rfl) ?_
      refine miV (n := 0) (As := []) (rest := []) hSf (m_holds l D k q0 qn qa qp qi qs qk qb qt qh qe de sv bn f B hV hB hd en) gX10_told_X10_holds rfl (by decide +kernel) ⟨Nat.le_of_ble_eq_true rfl, Nat.le_of_ble_eq_true rfl⟩ hK hP hD hS [0, 1, 4, 5] rfl rfl (by decide) (fun _ => rfl) (fun _ => rfl) 0 rfl rfl rfl hl.1 rfl (Nat.le_of_ble_eq_true rfl) dX10_told_87 ⟨Nat.zero_le _, Nat.zero_le _⟩ (fun r_87 u_87 H locs h_87 hP hD hS => ?_)
      have hP : va_P D vwCl [(q0, .inr (10, [.ref qn, .ref qa, .ref qp, .int (zI ((de : Nat) : Int)), .ref qi, .ref qs, .ref qk, .long (zL sv), .ref qb, .int (zI ((bn : Nat) : Int)), .ref qt, .ref qh, .ref qe])), (qn, .inl (k.1, 132, .inl (zF f))), (qt, .inl (k.1, 24, .inl (zF ts))), (qb, .inl (k.1, 60, .inl (zF bk))), (qh, .inl (k.1, 12, .inl (zF u_87.1))), (qe, .inl (k.1, 12, .inl (zF u_87.2)))] H := hP
      have hD : va_D A [(q0, .inr (10, [.ref qn, .ref qa, .ref qp, .int (zI ((de : Nat) : Int)), .ref qi, .ref qs, .ref qk, .long (zL sv), .ref qb, .int (zI ((bn : Nat) : Int)), .ref qt, .ref qh, .ref qe])), (qn, .inl (k.1, 132, .inl (zF f))), (qt, .inl (k.1, 24, .inl (zF ts))), (qb, .inl (k.1, 60, .inl (zF bk))), (qh, .inl (k.1, 12, .inl (zF u_87.1))), (qe, .inl (k.1, 12, .inl (zF u_87.2)))] := hD
      obtain ⟨he_87, h_87⟩ := h_87
      subst he_87
      exact W.iret hx hb hr (fun t ht hW => ⟨⟨_, (ts, u_87.1, u_87.2), rfl, ⟨zc (by rw [hsw]; rfl), trivial⟩, by show va_P D vwCl _ _; rw [ht]; exact hP⟩, hS.F ht⟩) hS.2.2 dX10_told_90
    · refine lv_tableIn (off := 90) (tgt := 91) hx hb dX10_told_1 (by rw [zI_toInt (by omega)]; omega) (by rw [zI_toInt (by omega)]; omega) (by rw [zI_toInt (by omega), hsw]; decide) (by decide) ?_
      refine lv_aload_n hx hb dX10_told_91 rfl (lv_at hl 0 rfl) ?_
      refine miV (n := 0) (As := []) (rest := []) hSf (m_dots l D k q0 qn qa qp qi qs qk qb qt qh qe de sv bn f B hV hB ts) gX10_told_X10_dots rfl (by decide +kernel) ⟨Nat.le_of_ble_eq_true rfl, Nat.le_of_ble_eq_true rfl⟩ hK hP hD hS [0, 1, 2] rfl rfl (by decide) (fun _ => rfl) (fun _ => rfl) 0 rfl rfl rfl hl.1 rfl (Nat.le_of_ble_eq_true rfl) dX10_told_92 ⟨Nat.zero_le _, Nat.zero_le _⟩ (fun r_92 u_92 H locs h_92 hP hD hS => ?_)
      have hP : va_P D vwCl [(q0, .inr (10, [.ref qn, .ref qa, .ref qp, .int (zI ((de : Nat) : Int)), .ref qi, .ref qs, .ref qk, .long (zL sv), .ref qb, .int (zI ((bn : Nat) : Int)), .ref qt, .ref qh, .ref qe])), (qn, .inl (k.1, 132, .inl (zF f))), (qt, .inl (k.1, 24, .inl (zF u_92))), (qb, .inl (k.1, 60, .inl (zF bk))), (qh, .inl (k.1, 12, .inl (zF hd))), (qe, .inl (k.1, 12, .inl (zF en)))] H := hP
      have hD : va_D A [(q0, .inr (10, [.ref qn, .ref qa, .ref qp, .int (zI ((de : Nat) : Int)), .ref qi, .ref qs, .ref qk, .long (zL sv), .ref qb, .int (zI ((bn : Nat) : Int)), .ref qt, .ref qh, .ref qe])), (qn, .inl (k.1, 132, .inl (zF f))), (qt, .inl (k.1, 24, .inl (zF u_92))), (qb, .inl (k.1, 60, .inl (zF bk))), (qh, .inl (k.1, 12, .inl (zF hd))), (qe, .inl (k.1, 12, .inl (zF en)))] := hD
      obtain ⟨he_92, h_92⟩ := h_92
      subst he_92
      exact W.iret hx hb hr (fun t ht hW => ⟨⟨_, (u_92, hd, en), rfl, ⟨zc (by rw [hsw]; rfl), trivial⟩, by show va_P D vwCl _ _; rw [ht]; exact hP⟩, hS.F ht⟩) hS.2.2 dX10_told_95
    · refine lv_tableIn (off := 95) (tgt := 96) hx hb dX10_told_1 (by rw [zI_toInt (by omega)]; omega) (by rw [zI_toInt (by omega)]; omega) (by rw [zI_toInt (by omega), hsw]; decide) (by decide) ?_
      refine lv_aload_n hx hb dX10_told_96 rfl (lv_at hl 0 rfl) ?_
      refine va_get (D := D) (ci := 10) (v := .int (zI ((bn : Nat) : Int))) (C := RX10) (T := TX10) (N := 13) hx hb hts hinX10 hown hK.1 hP 0 rfl rfl 9 (by decide) fl94 (fun _ h9 => h9) rfl dX10_told_97 ?_
      exact W.iret hx hb hr (fun t ht hW => ⟨⟨_, (ts, hd, en), rfl, ⟨zc (by rw [hsw]; rfl), trivial⟩, by show va_P D vwCl _ _; rw [ht]; exact hP⟩, hS.F ht⟩) hS.2.2 dX10_told_100
    · refine lv_tableIn (off := 100) (tgt := 101) hx hb dX10_told_1 (by rw [zI_toInt (by omega)]; omega) (by rw [zI_toInt (by omega)]; omega) (by rw [zI_toInt (by omega), hsw]; decide) (by decide) ?_
      refine lv_aload_n hx hb dX10_told_101 rfl (lv_at hl 0 rfl) ?_
      refine miV (n := 0) (As := []) (rest := []) hSf (m_wrong l D k q0 qn qa qp qi qs qk qb qt qh qe de sv bn f B hV hB ts bk hbk) gX10_told_X10_wrong rfl (by decide +kernel) ⟨Nat.le_of_ble_eq_true rfl, Nat.le_of_ble_eq_true rfl⟩ hK hP hD hS [0, 1, 2, 3] rfl rfl (by decide) (fun _ => rfl) (fun _ => rfl) 0 rfl rfl rfl hl.1 rfl (Nat.le_of_ble_eq_true rfl) dX10_told_102 ⟨Nat.zero_le _, Nat.zero_le _⟩ (fun r_102 u_102 H locs h_102 hP hD hS => ?_)
      have hP : va_P D vwCl [(q0, .inr (10, [.ref qn, .ref qa, .ref qp, .int (zI ((de : Nat) : Int)), .ref qi, .ref qs, .ref qk, .long (zL sv), .ref qb, .int (zI ((bn : Nat) : Int)), .ref qt, .ref qh, .ref qe])), (qn, .inl (k.1, 132, .inl (zF f))), (qt, .inl (k.1, 24, .inl (zF u_102))), (qb, .inl (k.1, 60, .inl (zF bk))), (qh, .inl (k.1, 12, .inl (zF hd))), (qe, .inl (k.1, 12, .inl (zF en)))] H := hP
      have hD : va_D A [(q0, .inr (10, [.ref qn, .ref qa, .ref qp, .int (zI ((de : Nat) : Int)), .ref qi, .ref qs, .ref qk, .long (zL sv), .ref qb, .int (zI ((bn : Nat) : Int)), .ref qt, .ref qh, .ref qe])), (qn, .inl (k.1, 132, .inl (zF f))), (qt, .inl (k.1, 24, .inl (zF u_102))), (qb, .inl (k.1, 60, .inl (zF bk))), (qh, .inl (k.1, 12, .inl (zF hd))), (qe, .inl (k.1, 12, .inl (zF en)))] := hD
      obtain ⟨he_102, h_102⟩ := h_102
      subst he_102
      exact W.iret hx hb hr (fun t ht hW => ⟨⟨_, (u_102, hd, en), rfl, ⟨zc (by rw [hsw]; rfl), trivial⟩, by show va_P D vwCl _ _; rw [ht]; exact hP⟩, hS.F ht⟩) hS.2.2 dX10_told_105
    · refine lv_tableIn (off := 105) (tgt := 106) hx hb dX10_told_1 (by rw [zI_toInt (by omega)]; omega) (by rw [zI_toInt (by omega)]; omega) (by rw [zI_toInt (by omega), hsw]; decide) (by decide) ?_
      refine lv_aload_n hx hb dX10_told_106 rfl (lv_at hl 0 rfl) ?_
      refine va_get (D := D) (ci := 10) (v := .int (zI ((de : Nat) : Int))) (C := RX10) (T := TX10) (N := 13) hx hb hts hinX10 hown hK.1 hP 0 rfl rfl 3 (by decide) fl46 (fun _ h9 => h9) rfl dX10_told_107 ?_
      exact W.iret hx hb hr (fun t ht hW => ⟨⟨_, (ts, hd, en), rfl, ⟨zc (by rw [hsw]; rfl), trivial⟩, by show va_P D vwCl _ _; rw [ht]; exact hP⟩, hS.F ht⟩) hS.2.2 dX10_told_110
set_option maxHeartbeats 4000000 in
set_option maxRecDepth 100000 in
theorem m_dotsOf (l : Launch) (D : va_G) (k : Kt) (q0 : Nat) (qn : Nat) (qa : Nat) (qp : Nat) (qi : Nat) (qs : Nat) (qk : Nat) (qb : Nat) (qt : Nat) (qh : Nat) (qe : Nat) (de : Nat) (sv : Int) (bn : Nat) (f : St) (B : Int) (hV : Va B f) (hB : B < 1000000) (ts : Nat → Int) (t1 : Nat) (ht1 : t1 < nT f) (w1 : Int) (hw1 : 0 ≤ w1 ∧ w1 ≤ 1) : MI l D k yX10_dotsOf wsX10_dotsOf 6 136 [.ref q0, .int (zI ((t1 : Nat) : Int)), .int (zI w1)] [(q0, .inr (10, [.ref qn, .ref qa, .ref qp, .int (zI ((de : Nat) : Int)), .ref qi, .ref qs, .ref qk, .long (zL sv), .ref qb, .int (zI ((bn : Nat) : Int)), .ref qt, .ref qh, .ref qe])), (qn, .inl (k.1, 132, .inl (zF f))), (qt, .inl (k.1, 24, .inl (zF ts)))] (fun (r : Int32) (u : Nat → Int) => r = zI ((sm (fun q => doL f w1 t1 q) 24 : Nat) : Int) ∧ True) (fun u => [(q0, .inr (10, [.ref qn, .ref qa, .ref qp, .int (zI ((de : Nat) : Int)), .ref qi, .ref qs, .ref qk, .long (zL sv), .ref qb, .int (zI ((bn : Nat) : Int)), .ref qt, .ref qh, .ref qe])), (qn, .inl (k.1, 132, .inl (zF f))), (qt, .inl (k.1, 24, .inl (zF u)))]) := by
  refine Met.ofW (cc := cX10_dotsOf) (maxL := 7) (ret := (some .int)) (by decide) rfl ?_
  intro p e s m args below meth c s₁ Bd hml hv
  obtain ⟨rfl, hP, hK, hD0⟩ := hv
  have hx := Bd.exec
  have hb := Bd.bytes
  have hr := Bd.returns
  have hts := atoms_spec (ws := wsX10_dotsOf) Bd.pre
  have hown : s.vm.findClass RX10 = some m.cls := findClass_of_methodNamed Bd.named
  have hlocks := Bd.notSynchronized
  have hSf : CallFix p m c cX10_dotsOf 7 s ([.ref q0, .int (zI ((t1 : Nat) : Int)), .int (zI w1)] : List Value).toArray wsX10_dotsOf RX10 := ⟨hx, hb, hml, hown, hts⟩
  have hD := fA_D hD0
  have hS : va_S (fA [(q0, .inr (10, [.ref qn, .ref qa, .ref qp, .int (zI ((de : Nat) : Int)), .ref qi, .ref qs, .ref qk, .long (zL sv), .ref qb, .int (zI ((bn : Nat) : Int)), .ref qt, .ref qh, .ref qe])), (qn, .inl (k.1, 132, .inl (zF f))), (qt, .inl (k.1, 24, .inl (zF ts)))]) s.heap s.heap [] := va_S.rf
  generalize hAe : fA [(q0, .inr (10, [.ref qn, .ref qa, .ref qp, .int (zI ((de : Nat) : Int)), .ref qi, .ref qs, .ref qk, .long (zL sv), .ref qb, .int (zI ((bn : Nat) : Int)), .ref qt, .ref qh, .ref qe])), (qn, .inl (k.1, 132, .inl (zF f))), (qt, .inl (k.1, 24, .inl (zF ts)))] = A at hD hS ⊢
  have hP : va_P D vwCl [(q0, .inr (10, [.ref qn, .ref qa, .ref qp, .int (zI ((de : Nat) : Int)), .ref qi, .ref qs, .ref qk, .long (zL sv), .ref qb, .int (zI ((bn : Nat) : Int)), .ref qt, .ref qh, .ref qe])), (qn, .inl (k.1, 132, .inl (zF f))), (qt, .inl (k.1, 24, .inl (zF ts)))] s.heap := hP
  have hinX10 : ∀ w ∈ u_ws RX10 TX10 13, w ∈ wsX10_dotsOf := by decide +kernel
  have fl33 := hts (.fieldLink RX10 33 "DotObjectsModel" "sets" "[I") (by decide +kernel)
  have hl := lv_entry ([.ref q0, .int (zI ((t1 : Nat) : Int)), .int (zI w1)]) (n := 7) (Nat.le_of_ble_eq_true rfl)
  rw [lg_entry_eq]
  generalize (lg_sl ([.ref q0, .int (zI ((t1 : Nat) : Int)), .int (zI w1)]) ++ List.replicate (7 - (lg_sl ([.ref q0, .int (zI ((t1 : Nat) : Int)), .int (zI w1)])).length) Slot.unset).toArray = ls at hl ⊢
  have hl : lv_has ls 7 [(0, .ref q0), (1, .int (zI ((t1 : Nat) : Int))), (2, .int (zI w1))] := hl
  have hn := hV.n
  refine z_iconst hx hb dX10_dotsOf_0 ?_
  refine lv_istore_n (lv' := [(3, .int (zI 0)), (0, .ref q0), (1, .int (zI ((t1 : Nat) : Int))), (2, .int (zI w1))]) hx hb dX10_dotsOf_1 rfl hl (by decide) rfl (fun ls hl => ?_)
  refine lv_aload_n hx hb dX10_dotsOf_2 rfl (lv_at hl 1 rfl) ?_
  refine muV (n := 0) (As := []) (rest := []) hSf (m_draws l D k q0 qn qa qp qi qs qk qb qt qh qe de sv bn f B hV hB ts) gX10_dotsOf_X10_draws rfl (by decide +kernel) ⟨Nat.le_of_ble_eq_true rfl, Nat.le_of_ble_eq_true rfl⟩ hK hP hD hS [0, 1, 2] rfl rfl (by decide) (fun _ => rfl) (fun _ => rfl) 0 rfl rfl rfl hl.1 rfl (Nat.le_of_ble_eq_true rfl) dX10_dotsOf_3 ⟨Nat.zero_le _, Nat.zero_le _⟩ (fun u_3 H locs h_3 hP hD hS => ?_)
  have hP : va_P D vwCl [(q0, .inr (10, [.ref qn, .ref qa, .ref qp, .int (zI ((de : Nat) : Int)), .ref qi, .ref qs, .ref qk, .long (zL sv), .ref qb, .int (zI ((bn : Nat) : Int)), .ref qt, .ref qh, .ref qe])), (qn, .inl (k.1, 132, .inl (zF f))), (qt, .inl (k.1, 24, .inl (zF u_3)))] H := hP
  have hD : va_D A [(q0, .inr (10, [.ref qn, .ref qa, .ref qp, .int (zI ((de : Nat) : Int)), .ref qi, .ref qs, .ref qk, .long (zL sv), .ref qb, .int (zI ((bn : Nat) : Int)), .ref qt, .ref qh, .ref qe])), (qn, .inl (k.1, 132, .inl (zF f))), (qt, .inl (k.1, 24, .inl (zF u_3)))] := hD
  refine z_iconst hx hb dX10_dotsOf_6 ?_
  refine lv_istore (lv' := [(4, .int (zI 0)), (3, .int (zI 0)), (0, .ref q0), (1, .int (zI ((t1 : Nat) : Int))), (2, .int (zI w1))]) hx hb dX10_dotsOf_7 hl (by decide) rfl (fun ls hl => ?_)
  have L9 : ∀ (NN9 : Nat), ∀ (jj : Nat), (jj ≤ 24) → 24 - jj < NN9 → ∀ (H : Heap) (locs : List Loc), va_P D vwCl [(q0, .inr (10, [.ref qn, .ref qa, .ref qp, .int (zI ((de : Nat) : Int)), .ref qi, .ref qs, .ref qk, .long (zL sv), .ref qb, .int (zI ((bn : Nat) : Int)), .ref qt, .ref qh, .ref qe])), (qn, .inl (k.1, 132, .inl (zF f))), (qt, .inl (k.1, 24, .inl (zF u_3)))] H → va_D A [(q0, .inr (10, [.ref qn, .ref qa, .ref qp, .int (zI ((de : Nat) : Int)), .ref qi, .ref qs, .ref qk, .long (zL sv), .ref qb, .int (zI ((bn : Nat) : Int)), .ref qt, .ref qh, .ref qe])), (qn, .inl (k.1, 132, .inl (zF f))), (qt, .inl (k.1, 24, .inl (zF u_3)))] → va_S A s.heap H locs → ∀ (ls : Array Slot), lv_has ls 7 [(0, .ref q0), (1, .int (zI ((t1 : Nat) : Int))), (2, .int (zI w1)), (3, .int (zI ((sm (fun q => doL f w1 t1 q) jj : Nat) : Int))), (4, .int (zI ((jj : Nat) : Int)))] → W p l e (headSpec wsX10_dotsOf { frames := 6, cells := 0, slots := 0, locals := 136 }).room s m ([.ref q0, .int (zI ((t1 : Nat) : Int)), .int (zI w1)] : List Value).toArray below meth c H locs 0 0 (MQ below (va_Qi (fun (r : Int32) (u : Nat → Int) => r = zI ((sm (fun q => doL f w1 t1 q) 24 : Nat) : Int) ∧ True) (fun (u : Nat → Int) t => va_P D vwCl [(q0, .inr (10, [.ref qn, .ref qa, .ref qp, .int (zI ((de : Nat) : Int)), .ref qi, .ref qs, .ref qk, .long (zL sv), .ref qb, .int (zI ((bn : Nat) : Int)), .ref qt, .ref qh, .ref qe])), (qn, .inl (k.1, 132, .inl (zF f))), (qt, .inl (k.1, 24, .inl (zF u)))] t.heap) A) ([.ref q0, .int (zI ((t1 : Nat) : Int)), .int (zI w1)] : List Value).toArray s 0 0 A) (F0 m 9 ls []) := by
    intro NN9
    induction NN9 with
    | zero => intro jj _ hN; exact absurd hN (Nat.not_lt_zero _)
    | succ NN9 ih9 =>
      intro jj hjj hN H locs hP hD hS ls hl
      refine lv_iload hx hb dX10_dotsOf_9 (lv_at hl 4 rfl) ?_
      refine z_bipush hx hb dX10_dotsOf_11 (by decide +kernel) ?_
      refine z_icmp_ge (tgt := 124) hx hb dX10_dotsOf_13 (by decide) (by omega) (by omega) (fun c_13 => ?_) (fun c_13 => ?_)
      · have hj24 : jj = 24 := by omega
        refine lv_iload_n hx hb dX10_dotsOf_124 rfl (lv_at hl 3 rfl) ?_
        exact W.iret hx hb hr (fun t ht hW => ⟨⟨_, u_3, rfl, ⟨zc (by rw [hj24]), trivial⟩, by show va_P D vwCl _ _; rw [ht]; exact hP⟩, hS.F ht⟩) hS.2.2 dX10_dotsOf_125
      · have hds := dN_lt hV jj
        refine z_iconst hx hb dX10_dotsOf_16 ?_
        refine lv_istore (lv' := [(5, .int (zI 0)), (0, .ref q0), (1, .int (zI ((t1 : Nat) : Int))), (2, .int (zI w1)), (3, .int (zI ((sm (fun q => doL f w1 t1 q) jj : Nat) : Int))), (4, .int (zI ((jj : Nat) : Int)))]) hx hb dX10_dotsOf_17 hl (by decide) rfl (fun ls hl => ?_)
        have L19 : ∀ (NN19 : Nat), ∀ (cc : Nat), (cc ≤ 32) → (cc = 0 ∨ (dN f jj).testBit t1 = true) → 32 - cc < NN19 → ∀ (H : Heap) (locs : List Loc), va_P D vwCl [(q0, .inr (10, [.ref qn, .ref qa, .ref qp, .int (zI ((de : Nat) : Int)), .ref qi, .ref qs, .ref qk, .long (zL sv), .ref qb, .int (zI ((bn : Nat) : Int)), .ref qt, .ref qh, .ref qe])), (qn, .inl (k.1, 132, .inl (zF f))), (qt, .inl (k.1, 24, .inl (zF u_3)))] H → va_D A [(q0, .inr (10, [.ref qn, .ref qa, .ref qp, .int (zI ((de : Nat) : Int)), .ref qi, .ref qs, .ref qk, .long (zL sv), .ref qb, .int (zI ((bn : Nat) : Int)), .ref qt, .ref qh, .ref qe])), (qn, .inl (k.1, 132, .inl (zF f))), (qt, .inl (k.1, 24, .inl (zF u_3)))] → va_S A s.heap H locs → ∀ (ls : Array Slot), lv_has ls 7 [(0, .ref q0), (1, .int (zI ((t1 : Nat) : Int))), (2, .int (zI w1)), (3, .int (zI ((sm (fun q => doL f w1 t1 q) jj + ct (doP f w1 t1 jj) cc : Nat) : Int))), (4, .int (zI ((jj : Nat) : Int))), (5, .int (zI ((cc : Nat) : Int)))] → W p l e (headSpec wsX10_dotsOf { frames := 6, cells := 0, slots := 0, locals := 136 }).room s m ([.ref q0, .int (zI ((t1 : Nat) : Int)), .int (zI w1)] : List Value).toArray below meth c H locs 0 0 (MQ below (va_Qi (fun (r : Int32) (u : Nat → Int) => r = zI ((sm (fun q => doL f w1 t1 q) 24 : Nat) : Int) ∧ True) (fun (u : Nat → Int) t => va_P D vwCl [(q0, .inr (10, [.ref qn, .ref qa, .ref qp, .int (zI ((de : Nat) : Int)), .ref qi, .ref qs, .ref qk, .long (zL sv), .ref qb, .int (zI ((bn : Nat) : Int)), .ref qt, .ref qh, .ref qe])), (qn, .inl (k.1, 132, .inl (zF f))), (qt, .inl (k.1, 24, .inl (zF u)))] t.heap) A) ([.ref q0, .int (zI ((t1 : Nat) : Int)), .int (zI w1)] : List Value).toArray s 0 0 A) (F0 m 19 ls []) := by
          intro NN19
          induction NN19 with
          | zero => intro cc _ _ hN; exact absurd hN (Nat.not_lt_zero _)
          | succ NN19 ih19 =>
            intro cc hcc hz hN H locs hP hD hS ls hl
            refine lv_iload hx hb dX10_dotsOf_19 (lv_at hl 5 rfl) ?_
            refine z_bipush hx hb dX10_dotsOf_21 (by decide +kernel) ?_
            refine z_icmp_ge (tgt := 118) hx hb dX10_dotsOf_23 (by decide) (by omega) (by omega) (fun c_23 => ?_) (fun c_23 => ?_)
            · have hc32 : cc = 32 := by omega
              refine lv_iinc (v := zI (((jj : Nat) : Int) + 1)) (lv' := [(4, .int (zI (((jj : Nat) : Int) + 1))), (0, .ref q0), (1, .int (zI ((t1 : Nat) : Int))), (2, .int (zI w1)), (3, .int (zI ((sm (fun q => doL f w1 t1 q) jj + ct (doP f w1 t1 jj) cc : Nat) : Int))), (5, .int (zI ((cc : Nat) : Int)))]) hx hb dX10_dotsOf_118 hl (k := 4) rfl (zI_add _ _) (by decide) rfl (fun ls hl => ?_)
              refine lv_goto (tgt := 9) hx hb dX10_dotsOf_121 (by decide) ?_
              have hl : lv_has ls 7 [(4, .int (zI (((jj : Nat) : Int) + 1))), (0, .ref q0), (1, .int (zI ((t1 : Nat) : Int))), (2, .int (zI w1)), (3, .int (zI ((sm (fun q => doL f w1 t1 q) (jj + 1) : Nat) : Int))), (5, .int (zI ((cc : Nat) : Int)))] := lv_c (l1 := [(4, .int (zI (((jj : Nat) : Int) + 1))), (0, .ref q0), (1, .int (zI ((t1 : Nat) : Int))), (2, .int (zI w1))]) (l2 := [(5, .int (zI ((cc : Nat) : Int)))]) hl (show ((sm (fun q => doL f w1 t1 q) jj + ct (doP f w1 t1 jj) cc : Nat) : Int) = ((sm (fun q => doL f w1 t1 q) (jj + 1) : Nat) : Int) from dof_y hc32 hz)
              have hl : lv_has ls 7 [(4, .int (zI (((jj + 1) : Nat) : Int))), (0, .ref q0), (1, .int (zI ((t1 : Nat) : Int))), (2, .int (zI w1)), (3, .int (zI ((sm (fun q => doL f w1 t1 q) (jj + 1) : Nat) : Int))), (5, .int (zI ((cc : Nat) : Int)))] := lv_c (l1 := []) (l2 := [(0, .ref q0), (1, .int (zI ((t1 : Nat) : Int))), (2, .int (zI w1)), (3, .int (zI ((sm (fun q => doL f w1 t1 q) (jj + 1) : Nat) : Int))), (5, .int (zI ((cc : Nat) : Int)))]) hl (show ((jj : Nat) : Int) + 1 = (((jj + 1) : Nat) : Int) from by omega)
              exact ih9 (jj + 1) (by omega) (by omega) _ _ hP hD hS ls (lv_sub hl [1, 2, 3, 4, 0] rfl)
            · have hsr := seenA_rg hV (dN f jj) jj cc
              refine lv_aload_n hx hb dX10_dotsOf_26 rfl (lv_at hl 0 rfl) ?_
              refine va_get (D := D) (ci := 10) (v := .ref qt) (C := RX10) (T := TX10) (N := 13) hx hb hts hinX10 hown hK.1 hP 0 rfl rfl 10 (by decide) fl33 (fun _ h9 => h9) rfl dX10_dotsOf_27 ?_
              refine lv_iload hx hb dX10_dotsOf_30 (lv_at hl 4 rfl) ?_
              refine z_ald hx hb hK hP 2 rfl (jj) (by omega) (by omega) (Nat.le_of_ble_eq_true rfl) dX10_dotsOf_32 ?_
              refine te (zc (show u_3 jj = ((dN f jj : Nat) : Int) from h_3 _ (by omega))) ?_
              refine lv_iload_n hx hb dX10_dotsOf_33 rfl (lv_at hl 1 rfl) ?_
              refine roS (n := 2) (As := [.int (zI (((dN f jj) : Nat) : Int)), .int (zI ((t1 : Nat) : Int))]) (rest := []) hSf (m_has l D k (dN f jj) t1 (by omega) (by omega)) gX10_dotsOf_X10_has rfl (by decide +kernel) ⟨Nat.le_of_ble_eq_true rfl, Nat.le_of_ble_eq_true rfl⟩ hK hP [] rfl rfl hl.1 rfl (Nat.le_of_ble_eq_true rfl) dX10_dotsOf_34 ⟨Nat.zero_le _, Nat.zero_le _⟩ (fun r_34 h_34 => ?_)
              subst h_34
              refine z_if_eqb (tgt := 118) hx hb dX10_dotsOf_37 (by decide) (fun c_37 => ?_) (fun c_37 => ?_)
              · refine lv_iinc (v := zI (((jj : Nat) : Int) + 1)) (lv' := [(4, .int (zI (((jj : Nat) : Int) + 1))), (0, .ref q0), (1, .int (zI ((t1 : Nat) : Int))), (2, .int (zI w1)), (3, .int (zI ((sm (fun q => doL f w1 t1 q) jj + ct (doP f w1 t1 jj) cc : Nat) : Int))), (5, .int (zI ((cc : Nat) : Int)))]) hx hb dX10_dotsOf_118 hl (k := 4) rfl (zI_add _ _) (by decide) rfl (fun ls hl => ?_)
                refine lv_goto (tgt := 9) hx hb dX10_dotsOf_121 (by decide) ?_
                have hl : lv_has ls 7 [(4, .int (zI (((jj : Nat) : Int) + 1))), (0, .ref q0), (1, .int (zI ((t1 : Nat) : Int))), (2, .int (zI w1)), (3, .int (zI ((sm (fun q => doL f w1 t1 q) (jj + 1) : Nat) : Int))), (5, .int (zI ((cc : Nat) : Int)))] := lv_c (l1 := [(4, .int (zI (((jj : Nat) : Int) + 1))), (0, .ref q0), (1, .int (zI ((t1 : Nat) : Int))), (2, .int (zI w1))]) (l2 := [(5, .int (zI ((cc : Nat) : Int)))]) hl (show ((sm (fun q => doL f w1 t1 q) jj + ct (doP f w1 t1 jj) cc : Nat) : Int) = ((sm (fun q => doL f w1 t1 q) (jj + 1) : Nat) : Int) from dof_n hV hz c_37)
                have hl : lv_has ls 7 [(4, .int (zI (((jj + 1) : Nat) : Int))), (0, .ref q0), (1, .int (zI ((t1 : Nat) : Int))), (2, .int (zI w1)), (3, .int (zI ((sm (fun q => doL f w1 t1 q) (jj + 1) : Nat) : Int))), (5, .int (zI ((cc : Nat) : Int)))] := lv_c (l1 := []) (l2 := [(0, .ref q0), (1, .int (zI ((t1 : Nat) : Int))), (2, .int (zI w1)), (3, .int (zI ((sm (fun q => doL f w1 t1 q) (jj + 1) : Nat) : Int))), (5, .int (zI ((cc : Nat) : Int)))]) hl (show ((jj : Nat) : Int) + 1 = (((jj + 1) : Nat) : Int) from by omega)
                exact ih9 (jj + 1) (by omega) (by omega) _ _ hP hD hS ls (lv_sub hl [1, 2, 3, 4, 0] rfl)
              · refine lv_aload_n hx hb dX10_dotsOf_40 rfl (lv_at hl 0 rfl) ?_
                refine lv_iload_n hx hb dX10_dotsOf_41 rfl (lv_at hl 1 rfl) ?_
                refine lv_iload hx hb dX10_dotsOf_42 (lv_at hl 4 rfl) ?_
                refine lv_iload hx hb dX10_dotsOf_44 (lv_at hl 5 rfl) ?_
                refine roV (n := 3) (As := [.int (zI ((t1 : Nat) : Int)), .int (zI ((jj : Nat) : Int)), .int (zI ((cc : Nat) : Int))]) (rest := []) hSf (m_hasDot l D k q0 qn qa qp qi qs qk qb qt qh qe de sv bn f B hV hB t1 jj cc (by omega) (by omega) (by omega)) gX10_dotsOf_X10_hasDot rfl (by decide +kernel) ⟨Nat.le_of_ble_eq_true rfl, Nat.le_of_ble_eq_true rfl⟩ hK hP [0, 1] rfl 0 rfl rfl rfl hl.1 rfl (Nat.le_of_ble_eq_true rfl) dX10_dotsOf_46 ⟨Nat.zero_le _, Nat.zero_le _⟩ (fun r_46 h_46 => ?_)
                subst h_46
                refine z_if_eqb (tgt := 75) hx hb dX10_dotsOf_49 (by decide) (fun c_49 => ?_) (fun c_49 => ?_)
                · refine z_iconst hx hb dX10_dotsOf_75 ?_
                  refine lv_istore (lv' := [(6, .int (zI 0)), (0, .ref q0), (1, .int (zI ((t1 : Nat) : Int))), (2, .int (zI w1)), (3, .int (zI ((sm (fun q => doL f w1 t1 q) jj + ct (doP f w1 t1 jj) cc : Nat) : Int))), (4, .int (zI ((jj : Nat) : Int))), (5, .int (zI ((cc : Nat) : Int)))]) hx hb dX10_dotsOf_76 hl (by decide) rfl (fun ls hl => ?_)
                  refine lv_iload_n hx hb dX10_dotsOf_78 rfl (lv_at hl 4 rfl) ?_
                  refine lv_aload_n hx hb dX10_dotsOf_79 rfl (lv_at hl 1 rfl) ?_
                  refine lv_iload_n hx hb dX10_dotsOf_80 rfl (lv_at hl 2 rfl) ?_
                  refine lv_iload hx hb dX10_dotsOf_81 (lv_at hl 5 rfl) ?_
                  refine lv_iload hx hb dX10_dotsOf_83 (lv_at hl 6 rfl) ?_
                  refine roV (n := 3) (As := [.int (zI ((t1 : Nat) : Int)), .int (zI ((jj : Nat) : Int)), .int (zI ((cc : Nat) : Int))]) (rest := [.int (zI ((sm (fun q => doL f w1 t1 q) jj + ct (doP f w1 t1 jj) cc : Nat) : Int))]) hSf (m_hasDot l D k q0 qn qa qp qi qs qk qb qt qh qe de sv bn f B hV hB t1 jj cc (by omega) (by omega) (by omega)) gX10_dotsOf_X10_hasDot rfl (by decide +kernel) ⟨Nat.le_of_ble_eq_true rfl, Nat.le_of_ble_eq_true rfl⟩ hK hP [0, 1] rfl 0 rfl rfl rfl hl.1 rfl (Nat.le_of_ble_eq_true rfl) dX10_dotsOf_85 ⟨Nat.zero_le _, Nat.zero_le _⟩ (fun r_85 h_85 => ?_)
                  subst h_85
                  refine z_if_eqb (tgt := 109) hx hb dX10_dotsOf_88 (by decide) (fun c_88 => ?_) (fun c_88 => ?_)
                  · refine z_iconst hx hb dX10_dotsOf_109 ?_
                    refine z_iadd hx hb dX10_dotsOf_110 ?_
                    refine lv_istore_n (lv' := [(3, .int (zI (((sm (fun q => doL f w1 t1 q) jj + ct (doP f w1 t1 jj) cc : Nat) : Int) + 0))), (6, .int (zI 0)), (0, .ref q0), (1, .int (zI ((t1 : Nat) : Int))), (2, .int (zI w1)), (4, .int (zI ((jj : Nat) : Int))), (5, .int (zI ((cc : Nat) : Int)))]) hx hb dX10_dotsOf_111 rfl hl (by decide) rfl (fun ls hl => ?_)
                    refine lv_iinc (v := zI (((cc : Nat) : Int) + 1)) (lv' := [(5, .int (zI (((cc : Nat) : Int) + 1))), (3, .int (zI (((sm (fun q => doL f w1 t1 q) jj + ct (doP f w1 t1 jj) cc : Nat) : Int) + 0))), (6, .int (zI 0)), (0, .ref q0), (1, .int (zI ((t1 : Nat) : Int))), (2, .int (zI w1)), (4, .int (zI ((jj : Nat) : Int)))]) hx hb dX10_dotsOf_112 hl (k := 6) rfl (zI_add _ _) (by decide) rfl (fun ls hl => ?_)
                    refine lv_goto (tgt := 19) hx hb dX10_dotsOf_115 (by decide) ?_
                    have hl : lv_has ls 7 [(5, .int (zI (((cc : Nat) : Int) + 1))), (3, .int (zI ((sm (fun q => doL f w1 t1 q) jj + ct (doP f w1 t1 jj) (cc + 1) : Nat) : Int))), (6, .int (zI 0)), (0, .ref q0), (1, .int (zI ((t1 : Nat) : Int))), (2, .int (zI w1)), (4, .int (zI ((jj : Nat) : Int)))] := lv_c (l1 := [(5, .int (zI (((cc : Nat) : Int) + 1)))]) (l2 := [(6, .int (zI 0)), (0, .ref q0), (1, .int (zI ((t1 : Nat) : Int))), (2, .int (zI w1)), (4, .int (zI ((jj : Nat) : Int)))]) hl (show ((sm (fun q => doL f w1 t1 q) jj + ct (doP f w1 t1 jj) cc : Nat) : Int) + 0 = ((sm (fun q => doL f w1 t1 q) jj + ct (doP f w1 t1 jj) (cc + 1) : Nat) : Int) from dbz_0 (p := doP f w1 t1 jj) (doP_d hV c_49))
                    have hl : lv_has ls 7 [(5, .int (zI (((cc + 1) : Nat) : Int))), (3, .int (zI ((sm (fun q => doL f w1 t1 q) jj + ct (doP f w1 t1 jj) (cc + 1) : Nat) : Int))), (6, .int (zI 0)), (0, .ref q0), (1, .int (zI ((t1 : Nat) : Int))), (2, .int (zI w1)), (4, .int (zI ((jj : Nat) : Int)))] := lv_c (l1 := []) (l2 := [(3, .int (zI ((sm (fun q => doL f w1 t1 q) jj + ct (doP f w1 t1 jj) (cc + 1) : Nat) : Int))), (6, .int (zI 0)), (0, .ref q0), (1, .int (zI ((t1 : Nat) : Int))), (2, .int (zI w1)), (4, .int (zI ((jj : Nat) : Int)))]) hl (show ((cc : Nat) : Int) + 1 = (((cc + 1) : Nat) : Int) from by omega)
                    exact ih19 (cc + 1) (by omega) (Or.inr c_37) (by omega) _ _ hP hD hS ls (lv_sub hl [3, 4, 5, 1, 6, 0] rfl)
                  · rw [c_49] at c_88; cases c_88
                · refine lv_aload_n hx hb dX10_dotsOf_52 rfl (lv_at hl 0 rfl) ?_
                  refine lv_aload_n hx hb dX10_dotsOf_53 rfl (lv_at hl 0 rfl) ?_
                  refine va_get (D := D) (ci := 10) (v := .ref qt) (C := RX10) (T := TX10) (N := 13) hx hb hts hinX10 hown hK.1 hP 0 rfl rfl 10 (by decide) fl33 (fun _ h9 => h9) rfl dX10_dotsOf_54 ?_
                  refine lv_iload hx hb dX10_dotsOf_57 (lv_at hl 4 rfl) ?_
                  refine z_ald hx hb hK hP 2 rfl (jj) (by omega) (by omega) (Nat.le_of_ble_eq_true rfl) dX10_dotsOf_59 ?_
                  refine te (zc (show u_3 jj = ((dN f jj : Nat) : Int) from h_3 _ (by omega))) ?_
                  refine lv_iload hx hb dX10_dotsOf_60 (lv_at hl 4 rfl) ?_
                  refine lv_iload hx hb dX10_dotsOf_62 (lv_at hl 5 rfl) ?_
                  refine roV (n := 3) (As := [.int (zI (((dN f jj) : Nat) : Int)), .int (zI ((jj : Nat) : Int)), .int (zI ((cc : Nat) : Int))]) (rest := []) hSf (m_seenAt l D k q0 qn qa qp qi qs qk qb qt qh qe de sv bn f B hV hB (dN f jj) jj cc (by omega) (by omega) (by omega)) gX10_dotsOf_X10_seenAt rfl (by decide +kernel) ⟨Nat.le_of_ble_eq_true rfl, Nat.le_of_ble_eq_true rfl⟩ hK hP [0, 1] rfl 0 rfl rfl rfl hl.1 rfl (Nat.le_of_ble_eq_true rfl) dX10_dotsOf_64 ⟨Nat.zero_le _, Nat.zero_le _⟩ (fun r_64 h_64 => ?_)
                  subst h_64
                  refine lv_iload_n hx hb dX10_dotsOf_67 rfl (lv_at hl 1 rfl) ?_
                  refine z_icmp_ne (tgt := 75) hx hb dX10_dotsOf_68 (by decide) (by omega) (by omega) (fun c_68 => ?_) (fun c_68 => ?_)
                  · refine z_iconst hx hb dX10_dotsOf_75 ?_
                    refine lv_istore (lv' := [(6, .int (zI 0)), (0, .ref q0), (1, .int (zI ((t1 : Nat) : Int))), (2, .int (zI w1)), (3, .int (zI ((sm (fun q => doL f w1 t1 q) jj + ct (doP f w1 t1 jj) cc : Nat) : Int))), (4, .int (zI ((jj : Nat) : Int))), (5, .int (zI ((cc : Nat) : Int)))]) hx hb dX10_dotsOf_76 hl (by decide) rfl (fun ls hl => ?_)
                    refine lv_iload_n hx hb dX10_dotsOf_78 rfl (lv_at hl 4 rfl) ?_
                    refine lv_aload_n hx hb dX10_dotsOf_79 rfl (lv_at hl 1 rfl) ?_
                    refine lv_iload_n hx hb dX10_dotsOf_80 rfl (lv_at hl 2 rfl) ?_
                    refine lv_iload hx hb dX10_dotsOf_81 (lv_at hl 5 rfl) ?_
                    refine lv_iload hx hb dX10_dotsOf_83 (lv_at hl 6 rfl) ?_
                    refine roV (n := 3) (As := [.int (zI ((t1 : Nat) : Int)), .int (zI ((jj : Nat) : Int)), .int (zI ((cc : Nat) : Int))]) (rest := [.int (zI ((sm (fun q => doL f w1 t1 q) jj + ct (doP f w1 t1 jj) cc : Nat) : Int))]) hSf (m_hasDot l D k q0 qn qa qp qi qs qk qb qt qh qe de sv bn f B hV hB t1 jj cc (by omega) (by omega) (by omega)) gX10_dotsOf_X10_hasDot rfl (by decide +kernel) ⟨Nat.le_of_ble_eq_true rfl, Nat.le_of_ble_eq_true rfl⟩ hK hP [0, 1] rfl 0 rfl rfl rfl hl.1 rfl (Nat.le_of_ble_eq_true rfl) dX10_dotsOf_85 ⟨Nat.zero_le _, Nat.zero_le _⟩ (fun r_85 h_85 => ?_)
                    subst h_85
                    refine z_if_eqb (tgt := 109) hx hb dX10_dotsOf_88 (by decide) (fun c_88 => ?_) (fun c_88 => ?_)
                    · rw [c_49] at c_88; cases c_88
                    · refine lv_iload hx hb dX10_dotsOf_91 (lv_at hl 0 rfl) ?_
                      refine lv_iload_n hx hb dX10_dotsOf_93 rfl (lv_at hl 3 rfl) ?_
                      refine z_if_ne (tgt := 101) hx hb dX10_dotsOf_94 (by decide) (by omega) (fun c_94 => ?_) (fun c_94 => ?_)
                      · refine z_iconst hx hb dX10_dotsOf_101 ?_
                        refine z_icmp_ne (tgt := 109) hx hb dX10_dotsOf_102 (by decide) (by omega) (by omega) (fun c_102 => ?_) (fun c_102 => ?_)
                        · exact absurd rfl c_102
                        · refine z_iconst hx hb dX10_dotsOf_105 ?_
                          refine lv_goto (tgt := 110) hx hb dX10_dotsOf_106 (by decide) ?_
                          refine z_iadd hx hb dX10_dotsOf_110 ?_
                          refine lv_istore_n (lv' := [(3, .int (zI (((sm (fun q => doL f w1 t1 q) jj + ct (doP f w1 t1 jj) cc : Nat) : Int) + 1))), (6, .int (zI 0)), (0, .ref q0), (1, .int (zI ((t1 : Nat) : Int))), (2, .int (zI w1)), (4, .int (zI ((jj : Nat) : Int))), (5, .int (zI ((cc : Nat) : Int)))]) hx hb dX10_dotsOf_111 rfl hl (by decide) rfl (fun ls hl => ?_)
                          refine lv_iinc (v := zI (((cc : Nat) : Int) + 1)) (lv' := [(5, .int (zI (((cc : Nat) : Int) + 1))), (3, .int (zI (((sm (fun q => doL f w1 t1 q) jj + ct (doP f w1 t1 jj) cc : Nat) : Int) + 1))), (6, .int (zI 0)), (0, .ref q0), (1, .int (zI ((t1 : Nat) : Int))), (2, .int (zI w1)), (4, .int (zI ((jj : Nat) : Int)))]) hx hb dX10_dotsOf_112 hl (k := 6) rfl (zI_add _ _) (by decide) rfl (fun ls hl => ?_)
                          refine lv_goto (tgt := 19) hx hb dX10_dotsOf_115 (by decide) ?_
                          have hl : lv_has ls 7 [(5, .int (zI (((cc : Nat) : Int) + 1))), (3, .int (zI ((sm (fun q => doL f w1 t1 q) jj + ct (doP f w1 t1 jj) (cc + 1) : Nat) : Int))), (6, .int (zI 0)), (0, .ref q0), (1, .int (zI ((t1 : Nat) : Int))), (2, .int (zI w1)), (4, .int (zI ((jj : Nat) : Int)))] := lv_c (l1 := [(5, .int (zI (((cc : Nat) : Int) + 1)))]) (l2 := [(6, .int (zI 0)), (0, .ref q0), (1, .int (zI ((t1 : Nat) : Int))), (2, .int (zI w1)), (4, .int (zI ((jj : Nat) : Int)))]) hl (show ((sm (fun q => doL f w1 t1 q) jj + ct (doP f w1 t1 jj) cc : Nat) : Int) + 1 = ((sm (fun q => doL f w1 t1 q) jj + ct (doP f w1 t1 jj) (cc + 1) : Nat) : Int) from dbz_1 (p := doP f w1 t1 jj) (doP_1y c_94 c_49 c_68))
                          have hl : lv_has ls 7 [(5, .int (zI (((cc + 1) : Nat) : Int))), (3, .int (zI ((sm (fun q => doL f w1 t1 q) jj + ct (doP f w1 t1 jj) (cc + 1) : Nat) : Int))), (6, .int (zI 0)), (0, .ref q0), (1, .int (zI ((t1 : Nat) : Int))), (2, .int (zI w1)), (4, .int (zI ((jj : Nat) : Int)))] := lv_c (l1 := []) (l2 := [(3, .int (zI ((sm (fun q => doL f w1 t1 q) jj + ct (doP f w1 t1 jj) (cc + 1) : Nat) : Int))), (6, .int (zI 0)), (0, .ref q0), (1, .int (zI ((t1 : Nat) : Int))), (2, .int (zI w1)), (4, .int (zI ((jj : Nat) : Int)))]) hl (show ((cc : Nat) : Int) + 1 = (((cc + 1) : Nat) : Int) from by omega)
                          exact ih19 (cc + 1) (by omega) (Or.inr c_37) (by omega) _ _ hP hD hS ls (lv_sub hl [3, 4, 5, 1, 6, 0] rfl)
                      · refine z_iconst hx hb dX10_dotsOf_97 ?_
                        refine lv_goto (tgt := 102) hx hb dX10_dotsOf_98 (by decide) ?_
                        refine z_icmp_ne (tgt := 109) hx hb dX10_dotsOf_102 (by decide) (by omega) (by omega) (fun c_102 => ?_) (fun c_102 => ?_)
                        · refine z_iconst hx hb dX10_dotsOf_109 ?_
                          refine z_iadd hx hb dX10_dotsOf_110 ?_
                          refine lv_istore_n (lv' := [(3, .int (zI (((sm (fun q => doL f w1 t1 q) jj + ct (doP f w1 t1 jj) cc : Nat) : Int) + 0))), (6, .int (zI 0)), (0, .ref q0), (1, .int (zI ((t1 : Nat) : Int))), (2, .int (zI w1)), (4, .int (zI ((jj : Nat) : Int))), (5, .int (zI ((cc : Nat) : Int)))]) hx hb dX10_dotsOf_111 rfl hl (by decide) rfl (fun ls hl => ?_)
                          refine lv_iinc (v := zI (((cc : Nat) : Int) + 1)) (lv' := [(5, .int (zI (((cc : Nat) : Int) + 1))), (3, .int (zI (((sm (fun q => doL f w1 t1 q) jj + ct (doP f w1 t1 jj) cc : Nat) : Int) + 0))), (6, .int (zI 0)), (0, .ref q0), (1, .int (zI ((t1 : Nat) : Int))), (2, .int (zI w1)), (4, .int (zI ((jj : Nat) : Int)))]) hx hb dX10_dotsOf_112 hl (k := 6) rfl (zI_add _ _) (by decide) rfl (fun ls hl => ?_)
                          refine lv_goto (tgt := 19) hx hb dX10_dotsOf_115 (by decide) ?_
                          have hl : lv_has ls 7 [(5, .int (zI (((cc : Nat) : Int) + 1))), (3, .int (zI ((sm (fun q => doL f w1 t1 q) jj + ct (doP f w1 t1 jj) (cc + 1) : Nat) : Int))), (6, .int (zI 0)), (0, .ref q0), (1, .int (zI ((t1 : Nat) : Int))), (2, .int (zI w1)), (4, .int (zI ((jj : Nat) : Int)))] := lv_c (l1 := [(5, .int (zI (((cc : Nat) : Int) + 1)))]) (l2 := [(6, .int (zI 0)), (0, .ref q0), (1, .int (zI ((t1 : Nat) : Int))), (2, .int (zI w1)), (4, .int (zI ((jj : Nat) : Int)))]) hl (show ((sm (fun q => doL f w1 t1 q) jj + ct (doP f w1 t1 jj) cc : Nat) : Int) + 0 = ((sm (fun q => doL f w1 t1 q) jj + ct (doP f w1 t1 jj) (cc + 1) : Nat) : Int) from dbz_0 (p := doP f w1 t1 jj) (doP_0n c_94 c_68))
                          have hl : lv_has ls 7 [(5, .int (zI (((cc + 1) : Nat) : Int))), (3, .int (zI ((sm (fun q => doL f w1 t1 q) jj + ct (doP f w1 t1 jj) (cc + 1) : Nat) : Int))), (6, .int (zI 0)), (0, .ref q0), (1, .int (zI ((t1 : Nat) : Int))), (2, .int (zI w1)), (4, .int (zI ((jj : Nat) : Int)))] := lv_c (l1 := []) (l2 := [(3, .int (zI ((sm (fun q => doL f w1 t1 q) jj + ct (doP f w1 t1 jj) (cc + 1) : Nat) : Int))), (6, .int (zI 0)), (0, .ref q0), (1, .int (zI ((t1 : Nat) : Int))), (2, .int (zI w1)), (4, .int (zI ((jj : Nat) : Int)))]) hl (show ((cc : Nat) : Int) + 1 = (((cc + 1) : Nat) : Int) from by omega)
                          exact ih19 (cc + 1) (by omega) (Or.inr c_37) (by omega) _ _ hP hD hS ls (lv_sub hl [3, 4, 5, 1, 6, 0] rfl)
                        · exact absurd c_102 (by decide)
                  · refine z_iconst hx hb dX10_dotsOf_71 ?_
                    refine lv_goto (tgt := 76) hx hb dX10_dotsOf_72 (by decide) ?_
                    refine lv_istore (lv' := [(6, .int (zI 1)), (0, .ref q0), (1, .int (zI ((t1 : Nat) : Int))), (2, .int (zI w1)), (3, .int (zI ((sm (fun q => doL f w1 t1 q) jj + ct (doP f w1 t1 jj) cc : Nat) : Int))), (4, .int (zI ((jj : Nat) : Int))), (5, .int (zI ((cc : Nat) : Int)))]) hx hb dX10_dotsOf_76 hl (by decide) rfl (fun ls hl => ?_)
                    refine lv_iload_n hx hb dX10_dotsOf_78 rfl (lv_at hl 4 rfl) ?_
                    refine lv_aload_n hx hb dX10_dotsOf_79 rfl (lv_at hl 1 rfl) ?_
                    refine lv_iload_n hx hb dX10_dotsOf_80 rfl (lv_at hl 2 rfl) ?_
                    refine lv_iload hx hb dX10_dotsOf_81 (lv_at hl 5 rfl) ?_
                    refine lv_iload hx hb dX10_dotsOf_83 (lv_at hl 6 rfl) ?_
                    refine roV (n := 3) (As := [.int (zI ((t1 : Nat) : Int)), .int (zI ((jj : Nat) : Int)), .int (zI ((cc : Nat) : Int))]) (rest := [.int (zI ((sm (fun q => doL f w1 t1 q) jj + ct (doP f w1 t1 jj) cc : Nat) : Int))]) hSf (m_hasDot l D k q0 qn qa qp qi qs qk qb qt qh qe de sv bn f B hV hB t1 jj cc (by omega) (by omega) (by omega)) gX10_dotsOf_X10_hasDot rfl (by decide +kernel) ⟨Nat.le_of_ble_eq_true rfl, Nat.le_of_ble_eq_true rfl⟩ hK hP [0, 1] rfl 0 rfl rfl rfl hl.1 rfl (Nat.le_of_ble_eq_true rfl) dX10_dotsOf_85 ⟨Nat.zero_le _, Nat.zero_le _⟩ (fun r_85 h_85 => ?_)
                    subst h_85
                    refine z_if_eqb (tgt := 109) hx hb dX10_dotsOf_88 (by decide) (fun c_88 => ?_) (fun c_88 => ?_)
                    · rw [c_49] at c_88; cases c_88
                    · refine lv_iload hx hb dX10_dotsOf_91 (lv_at hl 0 rfl) ?_
                      refine lv_iload_n hx hb dX10_dotsOf_93 rfl (lv_at hl 3 rfl) ?_
                      refine z_if_ne (tgt := 101) hx hb dX10_dotsOf_94 (by decide) (by omega) (fun c_94 => ?_) (fun c_94 => ?_)
                      · refine z_iconst hx hb dX10_dotsOf_101 ?_
                        refine z_icmp_ne (tgt := 109) hx hb dX10_dotsOf_102 (by decide) (by omega) (by omega) (fun c_102 => ?_) (fun c_102 => ?_)
                        · refine z_iconst hx hb dX10_dotsOf_109 ?_
                          refine z_iadd hx hb dX10_dotsOf_110 ?_
                          refine lv_istore_n (lv' := [(3, .int (zI (((sm (fun q => doL f w1 t1 q) jj + ct (doP f w1 t1 jj) cc : Nat) : Int) + 0))), (6, .int (zI 1)), (0, .ref q0), (1, .int (zI ((t1 : Nat) : Int))), (2, .int (zI w1)), (4, .int (zI ((jj : Nat) : Int))), (5, .int (zI ((cc : Nat) : Int)))]) hx hb dX10_dotsOf_111 rfl hl (by decide) rfl (fun ls hl => ?_)
                          refine lv_iinc (v := zI (((cc : Nat) : Int) + 1)) (lv' := [(5, .int (zI (((cc : Nat) : Int) + 1))), (3, .int (zI (((sm (fun q => doL f w1 t1 q) jj + ct (doP f w1 t1 jj) cc : Nat) : Int) + 0))), (6, .int (zI 1)), (0, .ref q0), (1, .int (zI ((t1 : Nat) : Int))), (2, .int (zI w1)), (4, .int (zI ((jj : Nat) : Int)))]) hx hb dX10_dotsOf_112 hl (k := 6) rfl (zI_add _ _) (by decide) rfl (fun ls hl => ?_)
                          refine lv_goto (tgt := 19) hx hb dX10_dotsOf_115 (by decide) ?_
                          have hl : lv_has ls 7 [(5, .int (zI (((cc : Nat) : Int) + 1))), (3, .int (zI ((sm (fun q => doL f w1 t1 q) jj + ct (doP f w1 t1 jj) (cc + 1) : Nat) : Int))), (6, .int (zI 1)), (0, .ref q0), (1, .int (zI ((t1 : Nat) : Int))), (2, .int (zI w1)), (4, .int (zI ((jj : Nat) : Int)))] := lv_c (l1 := [(5, .int (zI (((cc : Nat) : Int) + 1)))]) (l2 := [(6, .int (zI 1)), (0, .ref q0), (1, .int (zI ((t1 : Nat) : Int))), (2, .int (zI w1)), (4, .int (zI ((jj : Nat) : Int)))]) hl (show ((sm (fun q => doL f w1 t1 q) jj + ct (doP f w1 t1 jj) cc : Nat) : Int) + 0 = ((sm (fun q => doL f w1 t1 q) jj + ct (doP f w1 t1 jj) (cc + 1) : Nat) : Int) from dbz_0 (p := doP f w1 t1 jj) (doP_1n c_94 c_68))
                          have hl : lv_has ls 7 [(5, .int (zI (((cc + 1) : Nat) : Int))), (3, .int (zI ((sm (fun q => doL f w1 t1 q) jj + ct (doP f w1 t1 jj) (cc + 1) : Nat) : Int))), (6, .int (zI 1)), (0, .ref q0), (1, .int (zI ((t1 : Nat) : Int))), (2, .int (zI w1)), (4, .int (zI ((jj : Nat) : Int)))] := lv_c (l1 := []) (l2 := [(3, .int (zI ((sm (fun q => doL f w1 t1 q) jj + ct (doP f w1 t1 jj) (cc + 1) : Nat) : Int))), (6, .int (zI 1)), (0, .ref q0), (1, .int (zI ((t1 : Nat) : Int))), (2, .int (zI w1)), (4, .int (zI ((jj : Nat) : Int)))]) hl (show ((cc : Nat) : Int) + 1 = (((cc + 1) : Nat) : Int) from by omega)
                          exact ih19 (cc + 1) (by omega) (Or.inr c_37) (by omega) _ _ hP hD hS ls (lv_sub hl [3, 4, 5, 1, 6, 0] rfl)
                        · exact absurd c_102 (by decide)
                      · refine z_iconst hx hb dX10_dotsOf_97 ?_
                        refine lv_goto (tgt := 102) hx hb dX10_dotsOf_98 (by decide) ?_
                        refine z_icmp_ne (tgt := 109) hx hb dX10_dotsOf_102 (by decide) (by omega) (by omega) (fun c_102 => ?_) (fun c_102 => ?_)
                        · exact absurd rfl c_102
                        · refine z_iconst hx hb dX10_dotsOf_105 ?_
                          refine lv_goto (tgt := 110) hx hb dX10_dotsOf_106 (by decide) ?_
                          refine z_iadd hx hb dX10_dotsOf_110 ?_
                          refine lv_istore_n (lv' := [(3, .int (zI (((sm (fun q => doL f w1 t1 q) jj + ct (doP f w1 t1 jj) cc : Nat) : Int) + 1))), (6, .int (zI 1)), (0, .ref q0), (1, .int (zI ((t1 : Nat) : Int))), (2, .int (zI w1)), (4, .int (zI ((jj : Nat) : Int))), (5, .int (zI ((cc : Nat) : Int)))]) hx hb dX10_dotsOf_111 rfl hl (by decide) rfl (fun ls hl => ?_)
                          refine lv_iinc (v := zI (((cc : Nat) : Int) + 1)) (lv' := [(5, .int (zI (((cc : Nat) : Int) + 1))), (3, .int (zI (((sm (fun q => doL f w1 t1 q) jj + ct (doP f w1 t1 jj) cc : Nat) : Int) + 1))), (6, .int (zI 1)), (0, .ref q0), (1, .int (zI ((t1 : Nat) : Int))), (2, .int (zI w1)), (4, .int (zI ((jj : Nat) : Int)))]) hx hb dX10_dotsOf_112 hl (k := 6) rfl (zI_add _ _) (by decide) rfl (fun ls hl => ?_)
                          refine lv_goto (tgt := 19) hx hb dX10_dotsOf_115 (by decide) ?_
                          have hl : lv_has ls 7 [(5, .int (zI (((cc : Nat) : Int) + 1))), (3, .int (zI ((sm (fun q => doL f w1 t1 q) jj + ct (doP f w1 t1 jj) (cc + 1) : Nat) : Int))), (6, .int (zI 1)), (0, .ref q0), (1, .int (zI ((t1 : Nat) : Int))), (2, .int (zI w1)), (4, .int (zI ((jj : Nat) : Int)))] := lv_c (l1 := [(5, .int (zI (((cc : Nat) : Int) + 1)))]) (l2 := [(6, .int (zI 1)), (0, .ref q0), (1, .int (zI ((t1 : Nat) : Int))), (2, .int (zI w1)), (4, .int (zI ((jj : Nat) : Int)))]) hl (show ((sm (fun q => doL f w1 t1 q) jj + ct (doP f w1 t1 jj) cc : Nat) : Int) + 1 = ((sm (fun q => doL f w1 t1 q) jj + ct (doP f w1 t1 jj) (cc + 1) : Nat) : Int) from dbz_1 (p := doP f w1 t1 jj) (doP_0y c_94 c_68))
                          have hl : lv_has ls 7 [(5, .int (zI (((cc + 1) : Nat) : Int))), (3, .int (zI ((sm (fun q => doL f w1 t1 q) jj + ct (doP f w1 t1 jj) (cc + 1) : Nat) : Int))), (6, .int (zI 1)), (0, .ref q0), (1, .int (zI ((t1 : Nat) : Int))), (2, .int (zI w1)), (4, .int (zI ((jj : Nat) : Int)))] := lv_c (l1 := []) (l2 := [(3, .int (zI ((sm (fun q => doL f w1 t1 q) jj + ct (doP f w1 t1 jj) (cc + 1) : Nat) : Int))), (6, .int (zI 1)), (0, .ref q0), (1, .int (zI ((t1 : Nat) : Int))), (2, .int (zI w1)), (4, .int (zI ((jj : Nat) : Int)))]) hl (show ((cc : Nat) : Int) + 1 = (((cc + 1) : Nat) : Int) from by omega)
                          exact ih19 (cc + 1) (by omega) (Or.inr c_37) (by omega) _ _ hP hD hS ls (lv_sub hl [3, 4, 5, 1, 6, 0] rfl)
        have hl : lv_has ls 7 [(5, .int (zI 0)), (0, .ref q0), (1, .int (zI ((t1 : Nat) : Int))), (2, .int (zI w1)), (3, .int (zI ((sm (fun q => doL f w1 t1 q) jj + ct (doP f w1 t1 jj) 0 : Nat) : Int))), (4, .int (zI ((jj : Nat) : Int)))] := lv_c (l1 := [(5, .int (zI 0)), (0, .ref q0), (1, .int (zI ((t1 : Nat) : Int))), (2, .int (zI w1))]) (l2 := [(4, .int (zI ((jj : Nat) : Int)))]) hl (show ((sm (fun q => doL f w1 t1 q) jj : Nat) : Int) = ((sm (fun q => doL f w1 t1 q) jj + ct (doP f w1 t1 jj) 0 : Nat) : Int) from rfl)
        have hl : lv_has ls 7 [(5, .int (zI ((0 : Nat) : Int))), (0, .ref q0), (1, .int (zI ((t1 : Nat) : Int))), (2, .int (zI w1)), (3, .int (zI ((sm (fun q => doL f w1 t1 q) jj + ct (doP f w1 t1 jj) 0 : Nat) : Int))), (4, .int (zI ((jj : Nat) : Int)))] := lv_c (l1 := []) (l2 := [(0, .ref q0), (1, .int (zI ((t1 : Nat) : Int))), (2, .int (zI w1)), (3, .int (zI ((sm (fun q => doL f w1 t1 q) jj + ct (doP f w1 t1 jj) 0 : Nat) : Int))), (4, .int (zI ((jj : Nat) : Int)))]) hl (show 0 = ((0 : Nat) : Int) from rfl)
        exact L19 _ 0 (by decide) (Or.inl rfl) (Nat.lt_succ_self _) _ _ hP hD hS ls (lv_sub hl [1, 2, 3, 4, 5, 0] rfl)
  have hl : lv_has ls 7 [(4, .int (zI 0)), (3, .int (zI ((sm (fun q => doL f w1 t1 q) 0 : Nat) : Int))), (0, .ref q0), (1, .int (zI ((t1 : Nat) : Int))), (2, .int (zI w1))] := lv_c (l1 := [(4, .int (zI 0))]) (l2 := [(0, .ref q0), (1, .int (zI ((t1 : Nat) : Int))), (2, .int (zI w1))]) hl (show 0 = ((sm (fun q => doL f w1 t1 q) 0 : Nat) : Int) from rfl)
  have hl : lv_has ls 7 [(4, .int (zI ((0 : Nat) : Int))), (3, .int (zI ((sm (fun q => doL f w1 t1 q) 0 : Nat) : Int))), (0, .ref q0), (1, .int (zI ((t1 : Nat) : Int))), (2, .int (zI w1))] := lv_c (l1 := []) (l2 := [(3, .int (zI ((sm (fun q => doL f w1 t1 q) 0 : Nat) : Int))), (0, .ref q0), (1, .int (zI ((t1 : Nat) : Int))), (2, .int (zI w1))]) hl (show 0 = ((0 : Nat) : Int) from rfl)
  exact L9 _ 0 (by decide) (Nat.lt_succ_self _) _ _ hP hD hS ls (lv_sub hl [2, 3, 4, 1, 0] rfl)
set_option maxHeartbeats 4000000 in
set_option maxRecDepth 100000 in
theorem m_droppedOf (l : Launch) (D : va_G) (k : Kt) (q0 : Nat) (qn : Nat) (qa : Nat) (qp : Nat) (qi : Nat) (qs : Nat) (qk : Nat) (qb : Nat) (qt : Nat) (qh : Nat) (qe : Nat) (de : Nat) (sv : Int) (bn : Nat) (f : St) (B : Int) (hV : Va B f) (hB : B < 1000000) (t1 : Nat) (ht1 : t1 < nT f) : RO l D k yX10_droppedOf wsX10_droppedOf 5 115 [.ref q0, .int (zI ((t1 : Nat) : Int))] [(q0, .inr (10, [.ref qn, .ref qa, .ref qp, .int (zI ((de : Nat) : Int)), .ref qi, .ref qs, .ref qk, .long (zL sv), .ref qb, .int (zI ((bn : Nat) : Int)), .ref qt, .ref qh, .ref qe])), (qn, .inl (k.1, 132, .inl (zF f)))] (fun r => r = zI ((drpS f t1 : Nat) : Int)) := by
  refine Met.ofW (cc := cX10_droppedOf) (maxL := 4) (ret := (some .int)) (by decide) rfl ?_
  intro p e s m args below meth c s₁ Bd hml hv
  obtain ⟨rfl, hP, hK⟩ := hv
  have hx := Bd.exec
  have hb := Bd.bytes
  have hr := Bd.returns
  have hts := atoms_spec (ws := wsX10_droppedOf) Bd.pre
  have hown : s.vm.findClass RX10 = some m.cls := findClass_of_methodNamed Bd.named
  have hlocks := Bd.notSynchronized
  have hSf : CallFix p m c cX10_droppedOf 4 s ([.ref q0, .int (zI ((t1 : Nat) : Int))] : List Value).toArray wsX10_droppedOf RX10 := ⟨hx, hb, hml, hown, hts⟩
  have hl := lv_entry ([.ref q0, .int (zI ((t1 : Nat) : Int))]) (n := 4) (Nat.le_of_ble_eq_true rfl)
  rw [lg_entry_eq]
  generalize (lg_sl ([.ref q0, .int (zI ((t1 : Nat) : Int))]) ++ List.replicate (4 - (lg_sl ([.ref q0, .int (zI ((t1 : Nat) : Int))])).length) Slot.unset).toArray = ls at hl ⊢
  have hl : lv_has ls 4 [(0, .ref q0), (1, .int (zI ((t1 : Nat) : Int)))] := hl
  have hn := hV.n
  refine z_iconst hx hb dX10_droppedOf_0 ?_
  refine lv_istore_n (lv' := [(2, .int (zI 0)), (0, .ref q0), (1, .int (zI ((t1 : Nat) : Int)))]) hx hb dX10_droppedOf_1 rfl hl (by decide) rfl (fun ls hl => ?_)
  refine z_iconst hx hb dX10_droppedOf_2 ?_
  refine lv_istore_n (lv' := [(3, .int (zI 0)), (2, .int (zI 0)), (0, .ref q0), (1, .int (zI ((t1 : Nat) : Int)))]) hx hb dX10_droppedOf_3 rfl hl (by decide) rfl (fun ls hl => ?_)
  have L4 : ∀ (NN4 : Nat), ∀ (jj : Nat), (jj ≤ 24) → 24 - jj < NN4 → ∀ (ls : Array Slot), lv_has ls 4 [(0, .ref q0), (1, .int (zI ((t1 : Nat) : Int))), (2, .int (zI ((setP (fun q => onL f t1 q && !(dN f q).testBit t1) jj : Nat) : Int))), (3, .int (zI ((jj : Nat) : Int)))] → W p l e (headSpec wsX10_droppedOf { frames := 5, cells := 0, slots := 0, locals := 115 }).room s m ([.ref q0, .int (zI ((t1 : Nat) : Int))] : List Value).toArray below meth c s.heap [] 0 0 (MQ below (vp_Si (fun r => r = zI ((drpS f t1 : Nat) : Int))) ([.ref q0, .int (zI ((t1 : Nat) : Int))] : List Value).toArray s 0 0 (fun _ => False)) (F0 m 4 ls []) := by
    intro NN4
    induction NN4 with
    | zero => intro jj _ hN; exact absurd hN (Nat.not_lt_zero _)
    | succ NN4 ih4 =>
      intro jj hjj hN ls hl
      refine lv_iload_n hx hb dX10_droppedOf_4 rfl (lv_at hl 3 rfl) ?_
      refine z_bipush hx hb dX10_droppedOf_5 (by decide +kernel) ?_
      refine z_icmp_ge (tgt := 47) hx hb dX10_droppedOf_7 (by decide) (by omega) (by omega) (fun c_7 => ?_) (fun c_7 => ?_)
      · have hj24 : jj = 24 := by omega
        refine lv_iload_n hx hb dX10_droppedOf_47 rfl (lv_at hl 2 rfl) ?_
        exact W.iret hx hb hr (fun t ht hW => ⟨_, rfl, zc (by rw [hj24]; rfl), ht⟩) (fun q hq => by cases hq) dX10_droppedOf_48
      · have hds := dN_lt hV jj
        refine lv_iload_n hx hb dX10_droppedOf_10 rfl (lv_at hl 2 rfl) ?_
        refine lv_aload_n hx hb dX10_droppedOf_11 rfl (lv_at hl 0 rfl) ?_
        refine lv_iload_n hx hb dX10_droppedOf_12 rfl (lv_at hl 1 rfl) ?_
        refine lv_iload_n hx hb dX10_droppedOf_13 rfl (lv_at hl 3 rfl) ?_
        refine roV (n := 2) (As := [.int (zI ((t1 : Nat) : Int)), .int (zI ((jj : Nat) : Int))]) (rest := [.int (zI ((setP (fun q => onL f t1 q && !(dN f q).testBit t1) jj : Nat) : Int))]) hSf (m_isOn l D k q0 qn qa qp qi qs qk qb qt qh qe de sv bn f B hV hB t1 jj (by omega) (by omega)) gX10_droppedOf_X10_isOn rfl (by decide +kernel) ⟨Nat.le_of_ble_eq_true rfl, Nat.le_of_ble_eq_true rfl⟩ hK hP [0, 1] rfl 0 rfl rfl rfl hl.1 rfl (Nat.le_of_ble_eq_true rfl) dX10_droppedOf_14 ⟨Nat.zero_le _, Nat.zero_le _⟩ (fun r_14 h_14 => ?_)
        subst h_14
        refine z_if_eqb (tgt := 38) hx hb dX10_droppedOf_17 (by decide) (fun c_17 => ?_) (fun c_17 => ?_)
        · refine z_iconst hx hb dX10_droppedOf_38 ?_
          refine z_ior hx hb dX10_droppedOf_39 (setP (fun q => onL f t1 q && !(dN f q).testBit t1) jj) (0) (by omega) (by omega) ?_
          refine lv_istore_n (lv' := [(2, .int (zI (((setP (fun q => onL f t1 q && !(dN f q).testBit t1) jj) ||| 0 : Nat) : Int))), (0, .ref q0), (1, .int (zI ((t1 : Nat) : Int))), (3, .int (zI ((jj : Nat) : Int)))]) hx hb dX10_droppedOf_40 rfl hl (by decide) rfl (fun ls hl => ?_)
          refine lv_iinc (v := zI (((jj : Nat) : Int) + 1)) (lv' := [(3, .int (zI (((jj : Nat) : Int) + 1))), (2, .int (zI (((setP (fun q => onL f t1 q && !(dN f q).testBit t1) jj) ||| 0 : Nat) : Int))), (0, .ref q0), (1, .int (zI ((t1 : Nat) : Int)))]) hx hb dX10_droppedOf_41 hl (k := 3) rfl (zI_add _ _) (by decide) rfl (fun ls hl => ?_)
          refine lv_goto (tgt := 4) hx hb dX10_droppedOf_44 (by decide) ?_
          have hl : lv_has ls 4 [(3, .int (zI (((jj : Nat) : Int) + 1))), (2, .int (zI ((setP (fun q => onL f t1 q && !(dN f q).testBit t1) (jj + 1) : Nat) : Int))), (0, .ref q0), (1, .int (zI ((t1 : Nat) : Int)))] := lv_c (l1 := [(3, .int (zI (((jj : Nat) : Int) + 1)))]) (l2 := [(0, .ref q0), (1, .int (zI ((t1 : Nat) : Int)))]) hl (show (((setP (fun q => onL f t1 q && !(dN f q).testBit t1) jj) ||| 0 : Nat) : Int) = ((setP (fun q => onL f t1 q && !(dN f q).testBit t1) (jj + 1) : Nat) : Int) from congrArg Nat.cast ((Nat.or_zero _).trans (setP_f (p := (fun q => onL f t1 q && !(dN f q).testBit t1)) (by show (onL f t1 jj && !(dN f jj).testBit t1) = false; rw [c_17, Bool.false_and]))))
          have hl : lv_has ls 4 [(3, .int (zI (((jj + 1) : Nat) : Int))), (2, .int (zI ((setP (fun q => onL f t1 q && !(dN f q).testBit t1) (jj + 1) : Nat) : Int))), (0, .ref q0), (1, .int (zI ((t1 : Nat) : Int)))] := lv_c (l1 := []) (l2 := [(2, .int (zI ((setP (fun q => onL f t1 q && !(dN f q).testBit t1) (jj + 1) : Nat) : Int))), (0, .ref q0), (1, .int (zI ((t1 : Nat) : Int)))]) hl (show ((jj : Nat) : Int) + 1 = (((jj + 1) : Nat) : Int) from by omega)
          exact ih4 (jj + 1) (by omega) (by omega) ls (lv_sub hl [2, 3, 1, 0] rfl)
        · refine lv_aload_n hx hb dX10_droppedOf_20 rfl (lv_at hl 0 rfl) ?_
          refine lv_iload_n hx hb dX10_droppedOf_21 rfl (lv_at hl 3 rfl) ?_
          refine roV (n := 1) (As := [.int (zI ((jj : Nat) : Int))]) (rest := [.int (zI ((setP (fun q => onL f t1 q && !(dN f q).testBit t1) jj : Nat) : Int))]) hSf (m_drawnOn l D k q0 qn qa qp qi qs qk qb qt qh qe de sv bn f B hV hB jj (by omega)) gX10_droppedOf_X10_drawnOn rfl (by decide +kernel) ⟨Nat.le_of_ble_eq_true rfl, Nat.le_of_ble_eq_true rfl⟩ hK hP [0, 1] rfl 0 rfl rfl rfl hl.1 rfl (Nat.le_of_ble_eq_true rfl) dX10_droppedOf_22 ⟨Nat.zero_le _, Nat.zero_le _⟩ (fun r_22 h_22 => ?_)
          subst h_22
          refine lv_iload_n hx hb dX10_droppedOf_25 rfl (lv_at hl 1 rfl) ?_
          refine roS (n := 2) (As := [.int (zI (((dN f jj) : Nat) : Int)), .int (zI ((t1 : Nat) : Int))]) (rest := [.int (zI ((setP (fun q => onL f t1 q && !(dN f q).testBit t1) jj : Nat) : Int))]) hSf (m_has l D k (dN f jj) t1 (by omega) (by omega)) gX10_droppedOf_X10_has rfl (by decide +kernel) ⟨Nat.le_of_ble_eq_true rfl, Nat.le_of_ble_eq_true rfl⟩ hK hP [] rfl rfl hl.1 rfl (Nat.le_of_ble_eq_true rfl) dX10_droppedOf_26 ⟨Nat.zero_le _, Nat.zero_le _⟩ (fun r_26 h_26 => ?_)
          subst h_26
          refine z_if_neb (tgt := 38) hx hb dX10_droppedOf_29 (by decide) (fun c_29 => ?_) (fun c_29 => ?_)
          · refine z_iconst hx hb dX10_droppedOf_38 ?_
            refine z_ior hx hb dX10_droppedOf_39 (setP (fun q => onL f t1 q && !(dN f q).testBit t1) jj) (0) (by omega) (by omega) ?_
            refine lv_istore_n (lv' := [(2, .int (zI (((setP (fun q => onL f t1 q && !(dN f q).testBit t1) jj) ||| 0 : Nat) : Int))), (0, .ref q0), (1, .int (zI ((t1 : Nat) : Int))), (3, .int (zI ((jj : Nat) : Int)))]) hx hb dX10_droppedOf_40 rfl hl (by decide) rfl (fun ls hl => ?_)
            refine lv_iinc (v := zI (((jj : Nat) : Int) + 1)) (lv' := [(3, .int (zI (((jj : Nat) : Int) + 1))), (2, .int (zI (((setP (fun q => onL f t1 q && !(dN f q).testBit t1) jj) ||| 0 : Nat) : Int))), (0, .ref q0), (1, .int (zI ((t1 : Nat) : Int)))]) hx hb dX10_droppedOf_41 hl (k := 3) rfl (zI_add _ _) (by decide) rfl (fun ls hl => ?_)
            refine lv_goto (tgt := 4) hx hb dX10_droppedOf_44 (by decide) ?_
            have hl : lv_has ls 4 [(3, .int (zI (((jj : Nat) : Int) + 1))), (2, .int (zI ((setP (fun q => onL f t1 q && !(dN f q).testBit t1) (jj + 1) : Nat) : Int))), (0, .ref q0), (1, .int (zI ((t1 : Nat) : Int)))] := lv_c (l1 := [(3, .int (zI (((jj : Nat) : Int) + 1)))]) (l2 := [(0, .ref q0), (1, .int (zI ((t1 : Nat) : Int)))]) hl (show (((setP (fun q => onL f t1 q && !(dN f q).testBit t1) jj) ||| 0 : Nat) : Int) = ((setP (fun q => onL f t1 q && !(dN f q).testBit t1) (jj + 1) : Nat) : Int) from congrArg Nat.cast ((Nat.or_zero _).trans (setP_f (p := (fun q => onL f t1 q && !(dN f q).testBit t1)) (by show (onL f t1 jj && !(dN f jj).testBit t1) = false; rw [c_29, Bool.not_true, Bool.and_false]))))
            have hl : lv_has ls 4 [(3, .int (zI (((jj + 1) : Nat) : Int))), (2, .int (zI ((setP (fun q => onL f t1 q && !(dN f q).testBit t1) (jj + 1) : Nat) : Int))), (0, .ref q0), (1, .int (zI ((t1 : Nat) : Int)))] := lv_c (l1 := []) (l2 := [(2, .int (zI ((setP (fun q => onL f t1 q && !(dN f q).testBit t1) (jj + 1) : Nat) : Int))), (0, .ref q0), (1, .int (zI ((t1 : Nat) : Int)))]) hl (show ((jj : Nat) : Int) + 1 = (((jj + 1) : Nat) : Int) from by omega)
            exact ih4 (jj + 1) (by omega) (by omega) ls (lv_sub hl [2, 3, 1, 0] rfl)
          · refine z_iconst hx hb dX10_droppedOf_32 ?_
            refine lv_iload_n hx hb dX10_droppedOf_33 rfl (lv_at hl 3 rfl) ?_
            refine z_ishl hx hb dX10_droppedOf_34 (1) (jj) (by omega) (by omega) (by omega) (sh1_lt (n := 24) (by omega) (by decide)) ?_
            refine lv_goto (tgt := 39) hx hb dX10_droppedOf_35 (by decide) ?_
            refine z_ior hx hb dX10_droppedOf_39 (setP (fun q => onL f t1 q && !(dN f q).testBit t1) jj) (1 <<< jj) (by omega) (by omega) ?_
            refine lv_istore_n (lv' := [(2, .int (zI (((setP (fun q => onL f t1 q && !(dN f q).testBit t1) jj) ||| (1 <<< jj) : Nat) : Int))), (0, .ref q0), (1, .int (zI ((t1 : Nat) : Int))), (3, .int (zI ((jj : Nat) : Int)))]) hx hb dX10_droppedOf_40 rfl hl (by decide) rfl (fun ls hl => ?_)
            refine lv_iinc (v := zI (((jj : Nat) : Int) + 1)) (lv' := [(3, .int (zI (((jj : Nat) : Int) + 1))), (2, .int (zI (((setP (fun q => onL f t1 q && !(dN f q).testBit t1) jj) ||| (1 <<< jj) : Nat) : Int))), (0, .ref q0), (1, .int (zI ((t1 : Nat) : Int)))]) hx hb dX10_droppedOf_41 hl (k := 3) rfl (zI_add _ _) (by decide) rfl (fun ls hl => ?_)
            refine lv_goto (tgt := 4) hx hb dX10_droppedOf_44 (by decide) ?_
            have hl : lv_has ls 4 [(3, .int (zI (((jj : Nat) : Int) + 1))), (2, .int (zI ((setP (fun q => onL f t1 q && !(dN f q).testBit t1) (jj + 1) : Nat) : Int))), (0, .ref q0), (1, .int (zI ((t1 : Nat) : Int)))] := lv_c (l1 := [(3, .int (zI (((jj : Nat) : Int) + 1)))]) (l2 := [(0, .ref q0), (1, .int (zI ((t1 : Nat) : Int)))]) hl (show (((setP (fun q => onL f t1 q && !(dN f q).testBit t1) jj) ||| (1 <<< jj) : Nat) : Int) = ((setP (fun q => onL f t1 q && !(dN f q).testBit t1) (jj + 1) : Nat) : Int) from congrArg Nat.cast (setP_t (p := (fun q => onL f t1 q && !(dN f q).testBit t1)) (by show (onL f t1 jj && !(dN f jj).testBit t1) = true; rw [c_17, c_29]; rfl)))
            have hl : lv_has ls 4 [(3, .int (zI (((jj + 1) : Nat) : Int))), (2, .int (zI ((setP (fun q => onL f t1 q && !(dN f q).testBit t1) (jj + 1) : Nat) : Int))), (0, .ref q0), (1, .int (zI ((t1 : Nat) : Int)))] := lv_c (l1 := []) (l2 := [(2, .int (zI ((setP (fun q => onL f t1 q && !(dN f q).testBit t1) (jj + 1) : Nat) : Int))), (0, .ref q0), (1, .int (zI ((t1 : Nat) : Int)))]) hl (show ((jj : Nat) : Int) + 1 = (((jj + 1) : Nat) : Int) from by omega)
            exact ih4 (jj + 1) (by omega) (by omega) ls (lv_sub hl [2, 3, 1, 0] rfl)
  have hl : lv_has ls 4 [(3, .int (zI 0)), (2, .int (zI ((setP (fun q => onL f t1 q && !(dN f q).testBit t1) 0 : Nat) : Int))), (0, .ref q0), (1, .int (zI ((t1 : Nat) : Int)))] := lv_c (l1 := [(3, .int (zI 0))]) (l2 := [(0, .ref q0), (1, .int (zI ((t1 : Nat) : Int)))]) hl (show 0 = ((setP (fun q => onL f t1 q && !(dN f q).testBit t1) 0 : Nat) : Int) from rfl)
  have hl : lv_has ls 4 [(3, .int (zI ((0 : Nat) : Int))), (2, .int (zI ((setP (fun q => onL f t1 q && !(dN f q).testBit t1) 0 : Nat) : Int))), (0, .ref q0), (1, .int (zI ((t1 : Nat) : Int)))] := lv_c (l1 := []) (l2 := [(2, .int (zI ((setP (fun q => onL f t1 q && !(dN f q).testBit t1) 0 : Nat) : Int))), (0, .ref q0), (1, .int (zI ((t1 : Nat) : Int)))]) hl (show 0 = ((0 : Nat) : Int) from rfl)
  exact L4 _ 0 (by decide) (Nat.lt_succ_self _) ls (lv_sub hl [2, 3, 1, 0] rfl)
set_option maxHeartbeats 4000000 in
set_option maxRecDepth 100000 in
theorem m_meets (l : Launch) (D : va_G) (k : Kt) (q0 : Nat) (qn : Nat) (qa : Nat) (qp : Nat) (qi : Nat) (qs : Nat) (qk : Nat) (qb : Nat) (qt : Nat) (qh : Nat) (qe : Nat) (de : Nat) (sv : Int) (bn : Nat) (f : St) (B : Int) (hV : Va B f) (hB : B < 1000000) (ts : Nat → Int) (t1 : Nat) (ht1 : t1 < nT f) (w1 : Int) (hw1 : 0 ≤ w1 ∧ w1 ≤ 1) : MI l D k yX10_meets wsX10_meets 6 136 [.ref q0, .int (zI ((t1 : Nat) : Int)), .int (zI w1)] [(q0, .inr (10, [.ref qn, .ref qa, .ref qp, .int (zI ((de : Nat) : Int)), .ref qi, .ref qs, .ref qk, .long (zL sv), .ref qb, .int (zI ((bn : Nat) : Int)), .ref qt, .ref qh, .ref qe])), (qn, .inl (k.1, 132, .inl (zF f))), (qt, .inl (k.1, 24, .inl (zF ts)))] (fun (r : Int32) (u : Nat → Int) => r = zI ((orS (fun q => tchN f q (mG f w1 q) t1) 24 : Nat) : Int) ∧ True) (fun u => [(q0, .inr (10, [.ref qn, .ref qa, .ref qp, .int (zI ((de : Nat) : Int)), .ref qi, .ref qs, .ref qk, .long (zL sv), .ref qb, .int (zI ((bn : Nat) : Int)), .ref qt, .ref qh, .ref qe])), (qn, .inl (k.1, 132, .inl (zF f))), (qt, .inl (k.1, 24, .inl (zF u)))]) := by
  refine Met.ofW (cc := cX10_meets) (maxL := 8) (ret := (some .int)) (by decide) rfl ?_
  intro p e s m args below meth c s₁ Bd hml hv
  obtain ⟨rfl, hP, hK, hD0⟩ := hv
  have hx := Bd.exec
  have hb := Bd.bytes
  have hr := Bd.returns
  have hts := atoms_spec (ws := wsX10_meets) Bd.pre
  have hown : s.vm.findClass RX10 = some m.cls := findClass_of_methodNamed Bd.named
  have hlocks := Bd.notSynchronized
  have hSf : CallFix p m c cX10_meets 8 s ([.ref q0, .int (zI ((t1 : Nat) : Int)), .int (zI w1)] : List Value).toArray wsX10_meets RX10 := ⟨hx, hb, hml, hown, hts⟩
  have hD := fA_D hD0
  have hS : va_S (fA [(q0, .inr (10, [.ref qn, .ref qa, .ref qp, .int (zI ((de : Nat) : Int)), .ref qi, .ref qs, .ref qk, .long (zL sv), .ref qb, .int (zI ((bn : Nat) : Int)), .ref qt, .ref qh, .ref qe])), (qn, .inl (k.1, 132, .inl (zF f))), (qt, .inl (k.1, 24, .inl (zF ts)))]) s.heap s.heap [] := va_S.rf
  generalize hAe : fA [(q0, .inr (10, [.ref qn, .ref qa, .ref qp, .int (zI ((de : Nat) : Int)), .ref qi, .ref qs, .ref qk, .long (zL sv), .ref qb, .int (zI ((bn : Nat) : Int)), .ref qt, .ref qh, .ref qe])), (qn, .inl (k.1, 132, .inl (zF f))), (qt, .inl (k.1, 24, .inl (zF ts)))] = A at hD hS ⊢
  have hP : va_P D vwCl [(q0, .inr (10, [.ref qn, .ref qa, .ref qp, .int (zI ((de : Nat) : Int)), .ref qi, .ref qs, .ref qk, .long (zL sv), .ref qb, .int (zI ((bn : Nat) : Int)), .ref qt, .ref qh, .ref qe])), (qn, .inl (k.1, 132, .inl (zF f))), (qt, .inl (k.1, 24, .inl (zF ts)))] s.heap := hP
  have hinX10 : ∀ w ∈ u_ws RX10 TX10 13, w ∈ wsX10_meets := by decide +kernel
  have fl7 := hts (.fieldLink RX10 7 "DotObjectsModel" "now" "[I") (by decide +kernel)
  have fl33 := hts (.fieldLink RX10 33 "DotObjectsModel" "sets" "[I") (by decide +kernel)
  have hl := lv_entry ([.ref q0, .int (zI ((t1 : Nat) : Int)), .int (zI w1)]) (n := 8) (Nat.le_of_ble_eq_true rfl)
  rw [lg_entry_eq]
  generalize (lg_sl ([.ref q0, .int (zI ((t1 : Nat) : Int)), .int (zI w1)]) ++ List.replicate (8 - (lg_sl ([.ref q0, .int (zI ((t1 : Nat) : Int)), .int (zI w1)])).length) Slot.unset).toArray = ls at hl ⊢
  have hl : lv_has ls 8 [(0, .ref q0), (1, .int (zI ((t1 : Nat) : Int))), (2, .int (zI w1))] := hl
  have hn := hV.n
  have hv0 := hV.1
  refine z_iconst hx hb dX10_meets_0 ?_
  refine lv_istore_n (lv' := [(3, .int (zI 0)), (0, .ref q0), (1, .int (zI ((t1 : Nat) : Int))), (2, .int (zI w1))]) hx hb dX10_meets_1 rfl hl (by decide) rfl (fun ls hl => ?_)
  refine lv_aload_n hx hb dX10_meets_2 rfl (lv_at hl 1 rfl) ?_
  refine muV (n := 0) (As := []) (rest := []) hSf (m_draws l D k q0 qn qa qp qi qs qk qb qt qh qe de sv bn f B hV hB ts) gX10_meets_X10_draws rfl (by decide +kernel) ⟨Nat.le_of_ble_eq_true rfl, Nat.le_of_ble_eq_true rfl⟩ hK hP hD hS [0, 1, 2] rfl rfl (by decide) (fun _ => rfl) (fun _ => rfl) 0 rfl rfl rfl hl.1 rfl (Nat.le_of_ble_eq_true rfl) dX10_meets_3 ⟨Nat.zero_le _, Nat.zero_le _⟩ (fun u_3 H locs h_3 hP hD hS => ?_)
  have hP : va_P D vwCl [(q0, .inr (10, [.ref qn, .ref qa, .ref qp, .int (zI ((de : Nat) : Int)), .ref qi, .ref qs, .ref qk, .long (zL sv), .ref qb, .int (zI ((bn : Nat) : Int)), .ref qt, .ref qh, .ref qe])), (qn, .inl (k.1, 132, .inl (zF f))), (qt, .inl (k.1, 24, .inl (zF u_3)))] H := hP
  have hD : va_D A [(q0, .inr (10, [.ref qn, .ref qa, .ref qp, .int (zI ((de : Nat) : Int)), .ref qi, .ref qs, .ref qk, .long (zL sv), .ref qb, .int (zI ((bn : Nat) : Int)), .ref qt, .ref qh, .ref qe])), (qn, .inl (k.1, 132, .inl (zF f))), (qt, .inl (k.1, 24, .inl (zF u_3)))] := hD
  refine z_iconst hx hb dX10_meets_6 ?_
  refine lv_istore (lv' := [(4, .int (zI 0)), (3, .int (zI 0)), (0, .ref q0), (1, .int (zI ((t1 : Nat) : Int))), (2, .int (zI w1))]) hx hb dX10_meets_7 hl (by decide) rfl (fun ls hl => ?_)
  have L9 : ∀ (NN9 : Nat), ∀ (jj : Nat), (jj ≤ 24) → 24 - jj < NN9 → ∀ (H : Heap) (locs : List Loc), va_P D vwCl [(q0, .inr (10, [.ref qn, .ref qa, .ref qp, .int (zI ((de : Nat) : Int)), .ref qi, .ref qs, .ref qk, .long (zL sv), .ref qb, .int (zI ((bn : Nat) : Int)), .ref qt, .ref qh, .ref qe])), (qn, .inl (k.1, 132, .inl (zF f))), (qt, .inl (k.1, 24, .inl (zF u_3)))] H → va_D A [(q0, .inr (10, [.ref qn, .ref qa, .ref qp, .int (zI ((de : Nat) : Int)), .ref qi, .ref qs, .ref qk, .long (zL sv), .ref qb, .int (zI ((bn : Nat) : Int)), .ref qt, .ref qh, .ref qe])), (qn, .inl (k.1, 132, .inl (zF f))), (qt, .inl (k.1, 24, .inl (zF u_3)))] → va_S A s.heap H locs → ∀ (ls : Array Slot), lv_has ls 8 [(0, .ref q0), (1, .int (zI ((t1 : Nat) : Int))), (2, .int (zI w1)), (3, .int (zI ((orS (fun q => tchN f q (mG f w1 q) t1) jj : Nat) : Int))), (4, .int (zI ((jj : Nat) : Int)))] → W p l e (headSpec wsX10_meets { frames := 6, cells := 0, slots := 0, locals := 136 }).room s m ([.ref q0, .int (zI ((t1 : Nat) : Int)), .int (zI w1)] : List Value).toArray below meth c H locs 0 0 (MQ below (va_Qi (fun (r : Int32) (u : Nat → Int) => r = zI ((orS (fun q => tchN f q (mG f w1 q) t1) 24 : Nat) : Int) ∧ True) (fun (u : Nat → Int) t => va_P D vwCl [(q0, .inr (10, [.ref qn, .ref qa, .ref qp, .int (zI ((de : Nat) : Int)), .ref qi, .ref qs, .ref qk, .long (zL sv), .ref qb, .int (zI ((bn : Nat) : Int)), .ref qt, .ref qh, .ref qe])), (qn, .inl (k.1, 132, .inl (zF f))), (qt, .inl (k.1, 24, .inl (zF u)))] t.heap) A) ([.ref q0, .int (zI ((t1 : Nat) : Int)), .int (zI w1)] : List Value).toArray s 0 0 A) (F0 m 9 ls []) := by
    intro NN9
    induction NN9 with
    | zero => intro jj _ hN; exact absurd hN (Nat.not_lt_zero _)
    | succ NN9 ih9 =>
      intro jj hjj hN H locs hP hD hS ls hl
      refine lv_iload hx hb dX10_meets_9 (lv_at hl 4 rfl) ?_
      refine z_bipush hx hb dX10_meets_11 (by decide +kernel) ?_
      refine z_icmp_ge (tgt := 141) hx hb dX10_meets_13 (by decide) (by omega) (by omega) (fun c_13 => ?_) (fun c_13 => ?_)
      · have hj24 : jj = 24 := by omega
        refine lv_iload_n hx hb dX10_meets_141 rfl (lv_at hl 3 rfl) ?_
        exact W.iret hx hb hr (fun t ht hW => ⟨⟨_, u_3, rfl, ⟨zc (by rw [hj24]), trivial⟩, by show va_P D vwCl _ _; rw [ht]; exact hP⟩, hS.F ht⟩) hS.2.2 dX10_meets_142
      · have hml2 := mG_lt hV w1 jj
        have L36 : ∀ (H : Heap) (locs : List Loc), va_P D vwCl [(q0, .inr (10, [.ref qn, .ref qa, .ref qp, .int (zI ((de : Nat) : Int)), .ref qi, .ref qs, .ref qk, .long (zL sv), .ref qb, .int (zI ((bn : Nat) : Int)), .ref qt, .ref qh, .ref qe])), (qn, .inl (k.1, 132, .inl (zF f))), (qt, .inl (k.1, 24, .inl (zF u_3)))] H → va_D A [(q0, .inr (10, [.ref qn, .ref qa, .ref qp, .int (zI ((de : Nat) : Int)), .ref qi, .ref qs, .ref qk, .long (zL sv), .ref qb, .int (zI ((bn : Nat) : Int)), .ref qt, .ref qh, .ref qe])), (qn, .inl (k.1, 132, .inl (zF f))), (qt, .inl (k.1, 24, .inl (zF u_3)))] → va_S A s.heap H locs → ∀ (ls : Array Slot), lv_has ls 8 [(0, .ref q0), (1, .int (zI ((t1 : Nat) : Int))), (2, .int (zI w1)), (3, .int (zI ((orS (fun q => tchN f q (mG f w1 q) t1) jj : Nat) : Int))), (4, .int (zI ((jj : Nat) : Int)))] → W p l e (headSpec wsX10_meets { frames := 6, cells := 0, slots := 0, locals := 136 }).room s m ([.ref q0, .int (zI ((t1 : Nat) : Int)), .int (zI w1)] : List Value).toArray below meth c H locs 0 0 (MQ below (va_Qi (fun (r : Int32) (u : Nat → Int) => r = zI ((orS (fun q => tchN f q (mG f w1 q) t1) 24 : Nat) : Int) ∧ True) (fun (u : Nat → Int) t => va_P D vwCl [(q0, .inr (10, [.ref qn, .ref qa, .ref qp, .int (zI ((de : Nat) : Int)), .ref qi, .ref qs, .ref qk, .long (zL sv), .ref qb, .int (zI ((bn : Nat) : Int)), .ref qt, .ref qh, .ref qe])), (qn, .inl (k.1, 132, .inl (zF f))), (qt, .inl (k.1, 24, .inl (zF u)))] t.heap) A) ([.ref q0, .int (zI ((t1 : Nat) : Int)), .int (zI w1)] : List Value).toArray s 0 0 A) (F0 m 36 ls [.int (zI ((mG f w1 jj : Nat) : Int))]) := by
          intro   H locs hP hD hS ls hl
          refine lv_istore (lv' := [(5, .int (zI ((mG f w1 jj : Nat) : Int))), (0, .ref q0), (1, .int (zI ((t1 : Nat) : Int))), (2, .int (zI w1)), (3, .int (zI ((orS (fun q => tchN f q (mG f w1 q) t1) jj : Nat) : Int))), (4, .int (zI ((jj : Nat) : Int)))]) hx hb dX10_meets_36 hl (by decide) rfl (fun ls hl => ?_)
          refine z_iconst hx hb dX10_meets_38 ?_
          refine lv_istore (lv' := [(6, .int (zI 0)), (5, .int (zI ((mG f w1 jj : Nat) : Int))), (0, .ref q0), (1, .int (zI ((t1 : Nat) : Int))), (2, .int (zI w1)), (3, .int (zI ((orS (fun q => tchN f q (mG f w1 q) t1) jj : Nat) : Int))), (4, .int (zI ((jj : Nat) : Int)))]) hx hb dX10_meets_39 hl (by decide) rfl (fun ls hl => ?_)
          have L41 : ∀ (NN41 : Nat), ∀ (cc : Nat) (A1 : Nat), (cc ≤ 32) → (mtI f (fun q => tchN f q (mG f w1 q) t1) jj (mG f w1 jj) t1 cc 0 A1) → (cc = 0 ∧ A1 = orS (fun q => tchN f q (mG f w1 q) t1) jj ∨ (mG f w1 jj).testBit t1 = true) → 32 - cc < NN41 → ∀ (H : Heap) (locs : List Loc), va_P D vwCl [(q0, .inr (10, [.ref qn, .ref qa, .ref qp, .int (zI ((de : Nat) : Int)), .ref qi, .ref qs, .ref qk, .long (zL sv), .ref qb, .int (zI ((bn : Nat) : Int)), .ref qt, .ref qh, .ref qe])), (qn, .inl (k.1, 132, .inl (zF f))), (qt, .inl (k.1, 24, .inl (zF u_3)))] H → va_D A [(q0, .inr (10, [.ref qn, .ref qa, .ref qp, .int (zI ((de : Nat) : Int)), .ref qi, .ref qs, .ref qk, .long (zL sv), .ref qb, .int (zI ((bn : Nat) : Int)), .ref qt, .ref qh, .ref qe])), (qn, .inl (k.1, 132, .inl (zF f))), (qt, .inl (k.1, 24, .inl (zF u_3)))] → va_S A s.heap H locs → ∀ (ls : Array Slot), lv_has ls 8 [(0, .ref q0), (1, .int (zI ((t1 : Nat) : Int))), (2, .int (zI w1)), (4, .int (zI ((jj : Nat) : Int))), (5, .int (zI ((mG f w1 jj : Nat) : Int))), (3, .int (zI ((A1 : Nat) : Int))), (6, .int (zI ((cc : Nat) : Int)))] → W p l e (headSpec wsX10_meets { frames := 6, cells := 0, slots := 0, locals := 136 }).room s m ([.ref q0, .int (zI ((t1 : Nat) : Int)), .int (zI w1)] : List Value).toArray below meth c H locs 0 0 (MQ below (va_Qi (fun (r : Int32) (u : Nat → Int) => r = zI ((orS (fun q => tchN f q (mG f w1 q) t1) 24 : Nat) : Int) ∧ True) (fun (u : Nat → Int) t => va_P D vwCl [(q0, .inr (10, [.ref qn, .ref qa, .ref qp, .int (zI ((de : Nat) : Int)), .ref qi, .ref qs, .ref qk, .long (zL sv), .ref qb, .int (zI ((bn : Nat) : Int)), .ref qt, .ref qh, .ref qe])), (qn, .inl (k.1, 132, .inl (zF f))), (qt, .inl (k.1, 24, .inl (zF u)))] t.heap) A) ([.ref q0, .int (zI ((t1 : Nat) : Int)), .int (zI w1)] : List Value).toArray s 0 0 A) (F0 m 41 ls []) := by
            intro NN41
            induction NN41 with
            | zero => intro cc A1 _ _ _ hN; exact absurd hN (Nat.not_lt_zero _)
            | succ NN41 ih41 =>
              intro cc A1 hcc hI1 hz hN H locs hP hD hS ls hl
              refine lv_iload hx hb dX10_meets_41 (lv_at hl 6 rfl) ?_
              refine z_bipush hx hb dX10_meets_43 (by decide +kernel) ?_
              refine z_icmp_ge (tgt := 135) hx hb dX10_meets_45 (by decide) (by omega) (by omega) (fun c_45 => ?_) (fun c_45 => ?_)
              · have hc32 : cc = 32 := by omega
                refine lv_iinc (v := zI (((jj : Nat) : Int) + 1)) (lv' := [(4, .int (zI (((jj : Nat) : Int) + 1))), (0, .ref q0), (1, .int (zI ((t1 : Nat) : Int))), (2, .int (zI w1)), (5, .int (zI ((mG f w1 jj : Nat) : Int))), (3, .int (zI ((A1 : Nat) : Int))), (6, .int (zI ((cc : Nat) : Int)))]) hx hb dX10_meets_135 hl (k := 3) rfl (zI_add _ _) (by decide) rfl (fun ls hl => ?_)
                refine lv_goto (tgt := 9) hx hb dX10_meets_138 (by decide) ?_
                have hl : lv_has ls 8 [(4, .int (zI (((jj : Nat) : Int) + 1))), (0, .ref q0), (1, .int (zI ((t1 : Nat) : Int))), (2, .int (zI w1)), (5, .int (zI ((mG f w1 jj : Nat) : Int))), (3, .int (zI ((orS (fun q => tchN f q (mG f w1 q) t1) (jj + 1) : Nat) : Int))), (6, .int (zI ((cc : Nat) : Int)))] := lv_c (l1 := [(4, .int (zI (((jj : Nat) : Int) + 1))), (0, .ref q0), (1, .int (zI ((t1 : Nat) : Int))), (2, .int (zI w1)), (5, .int (zI ((mG f w1 jj : Nat) : Int)))]) (l2 := [(6, .int (zI ((cc : Nat) : Int)))]) hl (show ((A1 : Nat) : Int) = ((orS (fun q => tchN f q (mG f w1 q) t1) (jj + 1) : Nat) : Int) from congrArg Nat.cast (mt_e (G := mG f w1) hc32 hI1 hz))
                have hl : lv_has ls 8 [(4, .int (zI (((jj + 1) : Nat) : Int))), (0, .ref q0), (1, .int (zI ((t1 : Nat) : Int))), (2, .int (zI w1)), (5, .int (zI ((mG f w1 jj : Nat) : Int))), (3, .int (zI ((orS (fun q => tchN f q (mG f w1 q) t1) (jj + 1) : Nat) : Int))), (6, .int (zI ((cc : Nat) : Int)))] := lv_c (l1 := []) (l2 := [(0, .ref q0), (1, .int (zI ((t1 : Nat) : Int))), (2, .int (zI w1)), (5, .int (zI ((mG f w1 jj : Nat) : Int))), (3, .int (zI ((orS (fun q => tchN f q (mG f w1 q) t1) (jj + 1) : Nat) : Int))), (6, .int (zI ((cc : Nat) : Int)))]) hl (show ((jj : Nat) : Int) + 1 = (((jj + 1) : Nat) : Int) from by omega)
                exact ih9 (jj + 1) (by omega) (by omega) _ _ hP hD hS ls (lv_sub hl [1, 2, 3, 5, 0] rfl)
              · refine lv_iload hx hb dX10_meets_48 (lv_at hl 4 rfl) ?_
                refine lv_iload_n hx hb dX10_meets_50 rfl (lv_at hl 1 rfl) ?_
                refine roS (n := 2) (As := [.int (zI (((mG f w1 jj) : Nat) : Int)), .int (zI ((t1 : Nat) : Int))]) (rest := []) hSf (m_has l D k (mG f w1 jj) t1 (by omega) (by omega)) gX10_meets_X10_has rfl (by decide +kernel) ⟨Nat.le_of_ble_eq_true rfl, Nat.le_of_ble_eq_true rfl⟩ hK hP [] rfl rfl hl.1 rfl (Nat.le_of_ble_eq_true rfl) dX10_meets_51 ⟨Nat.zero_le _, Nat.zero_le _⟩ (fun r_51 h_51 => ?_)
                subst h_51
                refine z_if_eqb (tgt := 135) hx hb dX10_meets_54 (by decide) (fun c_54 => ?_) (fun c_54 => ?_)
                · refine lv_iinc (v := zI (((jj : Nat) : Int) + 1)) (lv' := [(4, .int (zI (((jj : Nat) : Int) + 1))), (0, .ref q0), (1, .int (zI ((t1 : Nat) : Int))), (2, .int (zI w1)), (5, .int (zI ((mG f w1 jj : Nat) : Int))), (3, .int (zI ((A1 : Nat) : Int))), (6, .int (zI ((cc : Nat) : Int)))]) hx hb dX10_meets_135 hl (k := 3) rfl (zI_add _ _) (by decide) rfl (fun ls hl => ?_)
                  refine lv_goto (tgt := 9) hx hb dX10_meets_138 (by decide) ?_
                  have hl : lv_has ls 8 [(4, .int (zI (((jj : Nat) : Int) + 1))), (0, .ref q0), (1, .int (zI ((t1 : Nat) : Int))), (2, .int (zI w1)), (5, .int (zI ((mG f w1 jj : Nat) : Int))), (3, .int (zI ((orS (fun q => tchN f q (mG f w1 q) t1) (jj + 1) : Nat) : Int))), (6, .int (zI ((cc : Nat) : Int)))] := lv_c (l1 := [(4, .int (zI (((jj : Nat) : Int) + 1))), (0, .ref q0), (1, .int (zI ((t1 : Nat) : Int))), (2, .int (zI w1)), (5, .int (zI ((mG f w1 jj : Nat) : Int)))]) (l2 := [(6, .int (zI ((cc : Nat) : Int)))]) hl (show ((A1 : Nat) : Int) = ((orS (fun q => tchN f q (mG f w1 q) t1) (jj + 1) : Nat) : Int) from congrArg Nat.cast (mt_o (G := mG f w1) hz c_54))
                  have hl : lv_has ls 8 [(4, .int (zI (((jj + 1) : Nat) : Int))), (0, .ref q0), (1, .int (zI ((t1 : Nat) : Int))), (2, .int (zI w1)), (5, .int (zI ((mG f w1 jj : Nat) : Int))), (3, .int (zI ((orS (fun q => tchN f q (mG f w1 q) t1) (jj + 1) : Nat) : Int))), (6, .int (zI ((cc : Nat) : Int)))] := lv_c (l1 := []) (l2 := [(0, .ref q0), (1, .int (zI ((t1 : Nat) : Int))), (2, .int (zI w1)), (5, .int (zI ((mG f w1 jj : Nat) : Int))), (3, .int (zI ((orS (fun q => tchN f q (mG f w1 q) t1) (jj + 1) : Nat) : Int))), (6, .int (zI ((cc : Nat) : Int)))]) hl (show ((jj : Nat) : Int) + 1 = (((jj + 1) : Nat) : Int) from by omega)
                  exact ih9 (jj + 1) (by omega) (by omega) _ _ hP hD hS ls (lv_sub hl [1, 2, 3, 5, 0] rfl)
                · refine z_iconst hx hb dX10_meets_57 ?_
                  refine lv_istore (lv' := [(7, .int (zI 0)), (0, .ref q0), (1, .int (zI ((t1 : Nat) : Int))), (2, .int (zI w1)), (4, .int (zI ((jj : Nat) : Int))), (5, .int (zI ((mG f w1 jj : Nat) : Int))), (3, .int (zI ((A1 : Nat) : Int))), (6, .int (zI ((cc : Nat) : Int)))]) hx hb dX10_meets_58 hl (by decide) rfl (fun ls hl => ?_)
                  have L60 : ∀ (NN60 : Nat), ∀ (uu : Nat) (A2 : Nat), (uu ≤ nT f) → (mtI f (fun q => tchN f q (mG f w1 q) t1) jj (mG f w1 jj) t1 cc uu A2) → nT f - uu < NN60 → ∀ (H : Heap) (locs : List Loc), va_P D vwCl [(q0, .inr (10, [.ref qn, .ref qa, .ref qp, .int (zI ((de : Nat) : Int)), .ref qi, .ref qs, .ref qk, .long (zL sv), .ref qb, .int (zI ((bn : Nat) : Int)), .ref qt, .ref qh, .ref qe])), (qn, .inl (k.1, 132, .inl (zF f))), (qt, .inl (k.1, 24, .inl (zF u_3)))] H → va_D A [(q0, .inr (10, [.ref qn, .ref qa, .ref qp, .int (zI ((de : Nat) : Int)), .ref qi, .ref qs, .ref qk, .long (zL sv), .ref qb, .int (zI ((bn : Nat) : Int)), .ref qt, .ref qh, .ref qe])), (qn, .inl (k.1, 132, .inl (zF f))), (qt, .inl (k.1, 24, .inl (zF u_3)))] → va_S A s.heap H locs → ∀ (ls : Array Slot), lv_has ls 8 [(0, .ref q0), (1, .int (zI ((t1 : Nat) : Int))), (2, .int (zI w1)), (4, .int (zI ((jj : Nat) : Int))), (5, .int (zI ((mG f w1 jj : Nat) : Int))), (3, .int (zI ((A2 : Nat) : Int))), (6, .int (zI ((cc : Nat) : Int))), (7, .int (zI ((uu : Nat) : Int)))] → W p l e (headSpec wsX10_meets { frames := 6, cells := 0, slots := 0, locals := 136 }).room s m ([.ref q0, .int (zI ((t1 : Nat) : Int)), .int (zI w1)] : List Value).toArray below meth c H locs 0 0 (MQ below (va_Qi (fun (r : Int32) (u : Nat → Int) => r = zI ((orS (fun q => tchN f q (mG f w1 q) t1) 24 : Nat) : Int) ∧ True) (fun (u : Nat → Int) t => va_P D vwCl [(q0, .inr (10, [.ref qn, .ref qa, .ref qp, .int (zI ((de : Nat) : Int)), .ref qi, .ref qs, .ref qk, .long (zL sv), .ref qb, .int (zI ((bn : Nat) : Int)), .ref qt, .ref qh, .ref qe])), (qn, .inl (k.1, 132, .inl (zF f))), (qt, .inl (k.1, 24, .inl (zF u)))] t.heap) A) ([.ref q0, .int (zI ((t1 : Nat) : Int)), .int (zI w1)] : List Value).toArray s 0 0 A) (F0 m 60 ls []) := by
                    intro NN60
                    induction NN60 with
                    | zero => intro uu A2 _ _ hN; exact absurd hN (Nat.not_lt_zero _)
                    | succ NN60 ih60 =>
                      intro uu A2 huu hI2 hN H locs hP hD hS ls hl
                      refine lv_iload hx hb dX10_meets_60 (lv_at hl 7 rfl) ?_
                      refine lv_aload_n hx hb dX10_meets_62 rfl (lv_at hl 0 rfl) ?_
                      refine va_get (D := D) (ci := 10) (v := .ref qn) (C := RX10) (T := TX10) (N := 13) hx hb hts hinX10 hown hK.1 hP 0 rfl rfl 0 (by decide) fl7 (fun _ h9 => h9) rfl dX10_meets_63 ?_
                      refine z_iconst hx hb dX10_meets_66 ?_
                      refine z_ald hx hb hK hP 1 rfl (0) (by omega) (by omega) (Nat.le_of_ble_eq_true rfl) dX10_meets_67 ?_
                      refine z_icmp_ge (tgt := 129) hx hb dX10_meets_68 (by decide) (by omega) (by omega) (fun c_68 => ?_) (fun c_68 => ?_)
                      · have huu2 : uu = nT f := by omega
                        refine lv_iinc (v := zI (((cc : Nat) : Int) + 1)) (lv' := [(6, .int (zI (((cc : Nat) : Int) + 1))), (0, .ref q0), (1, .int (zI ((t1 : Nat) : Int))), (2, .int (zI w1)), (4, .int (zI ((jj : Nat) : Int))), (5, .int (zI ((mG f w1 jj : Nat) : Int))), (3, .int (zI ((A2 : Nat) : Int))), (7, .int (zI ((uu : Nat) : Int)))]) hx hb dX10_meets_129 hl (k := 6) rfl (zI_add _ _) (by decide) rfl (fun ls hl => ?_)
                        refine lv_goto (tgt := 41) hx hb dX10_meets_132 (by decide) ?_
                        have hl : lv_has ls 8 [(6, .int (zI (((cc + 1) : Nat) : Int))), (0, .ref q0), (1, .int (zI ((t1 : Nat) : Int))), (2, .int (zI w1)), (4, .int (zI ((jj : Nat) : Int))), (5, .int (zI ((mG f w1 jj : Nat) : Int))), (3, .int (zI ((A2 : Nat) : Int))), (7, .int (zI ((uu : Nat) : Int)))] := lv_c (l1 := []) (l2 := [(0, .ref q0), (1, .int (zI ((t1 : Nat) : Int))), (2, .int (zI w1)), (4, .int (zI ((jj : Nat) : Int))), (5, .int (zI ((mG f w1 jj : Nat) : Int))), (3, .int (zI ((A2 : Nat) : Int))), (7, .int (zI ((uu : Nat) : Int)))]) hl (show ((cc : Nat) : Int) + 1 = (((cc + 1) : Nat) : Int) from by omega)
                        exact ih41 (cc + 1) A2 (by omega) (mtI_c (by rw [← huu2]; exact hI2)) (Or.inr c_54) (by omega) _ _ hP hD hS ls (lv_sub hl [1, 2, 3, 4, 5, 6, 0] rfl)
                      · refine lv_iload_n hx hb dX10_meets_71 rfl (lv_at hl 5 rfl) ?_
                        refine lv_iload hx hb dX10_meets_72 (lv_at hl 7 rfl) ?_
                        refine lv_iload_n hx hb dX10_meets_74 rfl (lv_at hl 1 rfl) ?_
                        refine z_icmp_eq (tgt := 120) hx hb dX10_meets_75 (by decide) (by omega) (by omega) (fun c_75 => ?_) (fun c_75 => ?_)
                        · refine z_iconst hx hb dX10_meets_120 ?_
                          refine z_ior hx hb dX10_meets_121 (A2) (0) (by omega) (by omega) ?_
                          refine lv_istore_n (lv' := [(3, .int (zI ((A2 ||| 0 : Nat) : Int))), (0, .ref q0), (1, .int (zI ((t1 : Nat) : Int))), (2, .int (zI w1)), (4, .int (zI ((jj : Nat) : Int))), (5, .int (zI ((mG f w1 jj : Nat) : Int))), (6, .int (zI ((cc : Nat) : Int))), (7, .int (zI ((uu : Nat) : Int)))]) hx hb dX10_meets_122 rfl hl (by decide) rfl (fun ls hl => ?_)
                          refine lv_iinc (v := zI (((uu : Nat) : Int) + 1)) (lv' := [(7, .int (zI (((uu : Nat) : Int) + 1))), (3, .int (zI ((A2 ||| 0 : Nat) : Int))), (0, .ref q0), (1, .int (zI ((t1 : Nat) : Int))), (2, .int (zI w1)), (4, .int (zI ((jj : Nat) : Int))), (5, .int (zI ((mG f w1 jj : Nat) : Int))), (6, .int (zI ((cc : Nat) : Int)))]) hx hb dX10_meets_123 hl (k := 7) rfl (zI_add _ _) (by decide) rfl (fun ls hl => ?_)
                          refine lv_goto (tgt := 60) hx hb dX10_meets_126 (by decide) ?_
                          have hl : lv_has ls 8 [(7, .int (zI (((uu + 1) : Nat) : Int))), (3, .int (zI ((A2 ||| 0 : Nat) : Int))), (0, .ref q0), (1, .int (zI ((t1 : Nat) : Int))), (2, .int (zI w1)), (4, .int (zI ((jj : Nat) : Int))), (5, .int (zI ((mG f w1 jj : Nat) : Int))), (6, .int (zI ((cc : Nat) : Int)))] := lv_c (l1 := []) (l2 := [(3, .int (zI ((A2 ||| 0 : Nat) : Int))), (0, .ref q0), (1, .int (zI ((t1 : Nat) : Int))), (2, .int (zI w1)), (4, .int (zI ((jj : Nat) : Int))), (5, .int (zI ((mG f w1 jj : Nat) : Int))), (6, .int (zI ((cc : Nat) : Int)))]) hl (show ((uu : Nat) : Int) + 1 = (((uu + 1) : Nat) : Int) from by omega)
                          exact ih60 (uu + 1) (A2 ||| 0) (by omega) (mtI_n hI2 (Or.inl (by omega))) (by omega) _ _ hP hD hS ls (lv_sub hl [2, 3, 4, 5, 6, 1, 7, 0] rfl)
                        · refine lv_iload hx hb dX10_meets_78 (lv_at hl 4 rfl) ?_
                          refine lv_iload hx hb dX10_meets_80 (lv_at hl 7 rfl) ?_
                          refine roS (n := 2) (As := [.int (zI (((mG f w1 jj) : Nat) : Int)), .int (zI ((uu : Nat) : Int))]) (rest := [.int (zI ((A2 : Nat) : Int))]) hSf (m_has l D k (mG f w1 jj) uu (by omega) (by omega)) gX10_meets_X10_has rfl (by decide +kernel) ⟨Nat.le_of_ble_eq_true rfl, Nat.le_of_ble_eq_true rfl⟩ hK hP [] rfl rfl hl.1 rfl (Nat.le_of_ble_eq_true rfl) dX10_meets_82 ⟨Nat.zero_le _, Nat.zero_le _⟩ (fun r_82 h_82 => ?_)
                          subst h_82
                          refine z_if_eqb (tgt := 120) hx hb dX10_meets_85 (by decide) (fun c_85 => ?_) (fun c_85 => ?_)
                          · refine z_iconst hx hb dX10_meets_120 ?_
                            refine z_ior hx hb dX10_meets_121 (A2) (0) (by omega) (by omega) ?_
                            refine lv_istore_n (lv' := [(3, .int (zI ((A2 ||| 0 : Nat) : Int))), (0, .ref q0), (1, .int (zI ((t1 : Nat) : Int))), (2, .int (zI w1)), (4, .int (zI ((jj : Nat) : Int))), (5, .int (zI ((mG f w1 jj : Nat) : Int))), (6, .int (zI ((cc : Nat) : Int))), (7, .int (zI ((uu : Nat) : Int)))]) hx hb dX10_meets_122 rfl hl (by decide) rfl (fun ls hl => ?_)
                            refine lv_iinc (v := zI (((uu : Nat) : Int) + 1)) (lv' := [(7, .int (zI (((uu : Nat) : Int) + 1))), (3, .int (zI ((A2 ||| 0 : Nat) : Int))), (0, .ref q0), (1, .int (zI ((t1 : Nat) : Int))), (2, .int (zI w1)), (4, .int (zI ((jj : Nat) : Int))), (5, .int (zI ((mG f w1 jj : Nat) : Int))), (6, .int (zI ((cc : Nat) : Int)))]) hx hb dX10_meets_123 hl (k := 7) rfl (zI_add _ _) (by decide) rfl (fun ls hl => ?_)
                            refine lv_goto (tgt := 60) hx hb dX10_meets_126 (by decide) ?_
                            have hl : lv_has ls 8 [(7, .int (zI (((uu + 1) : Nat) : Int))), (3, .int (zI ((A2 ||| 0 : Nat) : Int))), (0, .ref q0), (1, .int (zI ((t1 : Nat) : Int))), (2, .int (zI w1)), (4, .int (zI ((jj : Nat) : Int))), (5, .int (zI ((mG f w1 jj : Nat) : Int))), (6, .int (zI ((cc : Nat) : Int)))] := lv_c (l1 := []) (l2 := [(3, .int (zI ((A2 ||| 0 : Nat) : Int))), (0, .ref q0), (1, .int (zI ((t1 : Nat) : Int))), (2, .int (zI w1)), (4, .int (zI ((jj : Nat) : Int))), (5, .int (zI ((mG f w1 jj : Nat) : Int))), (6, .int (zI ((cc : Nat) : Int)))]) hl (show ((uu : Nat) : Int) + 1 = (((uu + 1) : Nat) : Int) from by omega)
                            exact ih60 (uu + 1) (A2 ||| 0) (by omega) (mtI_n hI2 (Or.inr (Or.inl c_85))) (by omega) _ _ hP hD hS ls (lv_sub hl [2, 3, 4, 5, 6, 1, 7, 0] rfl)
                          · refine lv_aload_n hx hb dX10_meets_88 rfl (lv_at hl 0 rfl) ?_
                            refine lv_iload_n hx hb dX10_meets_89 rfl (lv_at hl 1 rfl) ?_
                            refine lv_iload hx hb dX10_meets_90 (lv_at hl 3 rfl) ?_
                            refine lv_iload hx hb dX10_meets_92 (lv_at hl 6 rfl) ?_
                            refine roV (n := 3) (As := [.int (zI ((t1 : Nat) : Int)), .int (zI ((jj : Nat) : Int)), .int (zI ((cc : Nat) : Int))]) (rest := [.int (zI ((A2 : Nat) : Int))]) hSf (m_hasDot l D k q0 qn qa qp qi qs qk qb qt qh qe de sv bn f B hV hB t1 jj cc (by omega) (by omega) (by omega)) gX10_meets_X10_hasDot rfl (by decide +kernel) ⟨Nat.le_of_ble_eq_true rfl, Nat.le_of_ble_eq_true rfl⟩ hK hP [0, 1] rfl 0 rfl rfl rfl hl.1 rfl (Nat.le_of_ble_eq_true rfl) dX10_meets_94 ⟨Nat.zero_le _, Nat.zero_le _⟩ (fun r_94 h_94 => ?_)
                            subst h_94
                            refine z_if_eqb (tgt := 120) hx hb dX10_meets_97 (by decide) (fun c_97 => ?_) (fun c_97 => ?_)
                            · refine z_iconst hx hb dX10_meets_120 ?_
                              refine z_ior hx hb dX10_meets_121 (A2) (0) (by omega) (by omega) ?_
                              refine lv_istore_n (lv' := [(3, .int (zI ((A2 ||| 0 : Nat) : Int))), (0, .ref q0), (1, .int (zI ((t1 : Nat) : Int))), (2, .int (zI w1)), (4, .int (zI ((jj : Nat) : Int))), (5, .int (zI ((mG f w1 jj : Nat) : Int))), (6, .int (zI ((cc : Nat) : Int))), (7, .int (zI ((uu : Nat) : Int)))]) hx hb dX10_meets_122 rfl hl (by decide) rfl (fun ls hl => ?_)
                              refine lv_iinc (v := zI (((uu : Nat) : Int) + 1)) (lv' := [(7, .int (zI (((uu : Nat) : Int) + 1))), (3, .int (zI ((A2 ||| 0 : Nat) : Int))), (0, .ref q0), (1, .int (zI ((t1 : Nat) : Int))), (2, .int (zI w1)), (4, .int (zI ((jj : Nat) : Int))), (5, .int (zI ((mG f w1 jj : Nat) : Int))), (6, .int (zI ((cc : Nat) : Int)))]) hx hb dX10_meets_123 hl (k := 7) rfl (zI_add _ _) (by decide) rfl (fun ls hl => ?_)
                              refine lv_goto (tgt := 60) hx hb dX10_meets_126 (by decide) ?_
                              have hl : lv_has ls 8 [(7, .int (zI (((uu + 1) : Nat) : Int))), (3, .int (zI ((A2 ||| 0 : Nat) : Int))), (0, .ref q0), (1, .int (zI ((t1 : Nat) : Int))), (2, .int (zI w1)), (4, .int (zI ((jj : Nat) : Int))), (5, .int (zI ((mG f w1 jj : Nat) : Int))), (6, .int (zI ((cc : Nat) : Int)))] := lv_c (l1 := []) (l2 := [(3, .int (zI ((A2 ||| 0 : Nat) : Int))), (0, .ref q0), (1, .int (zI ((t1 : Nat) : Int))), (2, .int (zI w1)), (4, .int (zI ((jj : Nat) : Int))), (5, .int (zI ((mG f w1 jj : Nat) : Int))), (6, .int (zI ((cc : Nat) : Int)))]) hl (show ((uu : Nat) : Int) + 1 = (((uu + 1) : Nat) : Int) from by omega)
                              exact ih60 (uu + 1) (A2 ||| 0) (by omega) (mtI_n hI2 (Or.inr (Or.inr (by unfold bo; rw [c_97]; rfl)))) (by omega) _ _ hP hD hS ls (lv_sub hl [2, 3, 4, 5, 6, 1, 7, 0] rfl)
                            · refine lv_aload_n hx hb dX10_meets_100 rfl (lv_at hl 0 rfl) ?_
                              refine lv_iload hx hb dX10_meets_101 (lv_at hl 7 rfl) ?_
                              refine lv_iload hx hb dX10_meets_103 (lv_at hl 3 rfl) ?_
                              refine lv_iload hx hb dX10_meets_105 (lv_at hl 6 rfl) ?_
                              refine roV (n := 3) (As := [.int (zI ((uu : Nat) : Int)), .int (zI ((jj : Nat) : Int)), .int (zI ((cc : Nat) : Int))]) (rest := [.int (zI ((A2 : Nat) : Int))]) hSf (m_hasDot l D k q0 qn qa qp qi qs qk qb qt qh qe de sv bn f B hV hB uu jj cc (by omega) (by omega) (by omega)) gX10_meets_X10_hasDot rfl (by decide +kernel) ⟨Nat.le_of_ble_eq_true rfl, Nat.le_of_ble_eq_true rfl⟩ hK hP [0, 1] rfl 0 rfl rfl rfl hl.1 rfl (Nat.le_of_ble_eq_true rfl) dX10_meets_107 ⟨Nat.zero_le _, Nat.zero_le _⟩ (fun r_107 h_107 => ?_)
                              subst h_107
                              refine z_if_eqb (tgt := 120) hx hb dX10_meets_110 (by decide) (fun c_110 => ?_) (fun c_110 => ?_)
                              · refine z_iconst hx hb dX10_meets_120 ?_
                                refine z_ior hx hb dX10_meets_121 (A2) (0) (by omega) (by omega) ?_
                                refine lv_istore_n (lv' := [(3, .int (zI ((A2 ||| 0 : Nat) : Int))), (0, .ref q0), (1, .int (zI ((t1 : Nat) : Int))), (2, .int (zI w1)), (4, .int (zI ((jj : Nat) : Int))), (5, .int (zI ((mG f w1 jj : Nat) : Int))), (6, .int (zI ((cc : Nat) : Int))), (7, .int (zI ((uu : Nat) : Int)))]) hx hb dX10_meets_122 rfl hl (by decide) rfl (fun ls hl => ?_)
                                refine lv_iinc (v := zI (((uu : Nat) : Int) + 1)) (lv' := [(7, .int (zI (((uu : Nat) : Int) + 1))), (3, .int (zI ((A2 ||| 0 : Nat) : Int))), (0, .ref q0), (1, .int (zI ((t1 : Nat) : Int))), (2, .int (zI w1)), (4, .int (zI ((jj : Nat) : Int))), (5, .int (zI ((mG f w1 jj : Nat) : Int))), (6, .int (zI ((cc : Nat) : Int)))]) hx hb dX10_meets_123 hl (k := 7) rfl (zI_add _ _) (by decide) rfl (fun ls hl => ?_)
                                refine lv_goto (tgt := 60) hx hb dX10_meets_126 (by decide) ?_
                                have hl : lv_has ls 8 [(7, .int (zI (((uu + 1) : Nat) : Int))), (3, .int (zI ((A2 ||| 0 : Nat) : Int))), (0, .ref q0), (1, .int (zI ((t1 : Nat) : Int))), (2, .int (zI w1)), (4, .int (zI ((jj : Nat) : Int))), (5, .int (zI ((mG f w1 jj : Nat) : Int))), (6, .int (zI ((cc : Nat) : Int)))] := lv_c (l1 := []) (l2 := [(3, .int (zI ((A2 ||| 0 : Nat) : Int))), (0, .ref q0), (1, .int (zI ((t1 : Nat) : Int))), (2, .int (zI w1)), (4, .int (zI ((jj : Nat) : Int))), (5, .int (zI ((mG f w1 jj : Nat) : Int))), (6, .int (zI ((cc : Nat) : Int)))]) hl (show ((uu : Nat) : Int) + 1 = (((uu + 1) : Nat) : Int) from by omega)
                                exact ih60 (uu + 1) (A2 ||| 0) (by omega) (mtI_n hI2 (Or.inr (Or.inr (by unfold bo; rw [c_110, Bool.and_false])))) (by omega) _ _ hP hD hS ls (lv_sub hl [2, 3, 4, 5, 6, 1, 7, 0] rfl)
                              · refine z_iconst hx hb dX10_meets_113 ?_
                                refine lv_iload hx hb dX10_meets_114 (lv_at hl 7 rfl) ?_
                                refine z_ishl hx hb dX10_meets_116 (1) (uu) (by omega) (by omega) (by omega) (sh1_lt (n := 12) (by omega) (by decide)) ?_
                                refine lv_goto (tgt := 121) hx hb dX10_meets_117 (by decide) ?_
                                refine z_ior hx hb dX10_meets_121 (A2) (1 <<< uu) (by omega) (by omega) ?_
                                refine lv_istore_n (lv' := [(3, .int (zI ((A2 ||| (1 <<< uu) : Nat) : Int))), (0, .ref q0), (1, .int (zI ((t1 : Nat) : Int))), (2, .int (zI w1)), (4, .int (zI ((jj : Nat) : Int))), (5, .int (zI ((mG f w1 jj : Nat) : Int))), (6, .int (zI ((cc : Nat) : Int))), (7, .int (zI ((uu : Nat) : Int)))]) hx hb dX10_meets_122 rfl hl (by decide) rfl (fun ls hl => ?_)
                                refine lv_iinc (v := zI (((uu : Nat) : Int) + 1)) (lv' := [(7, .int (zI (((uu : Nat) : Int) + 1))), (3, .int (zI ((A2 ||| (1 <<< uu) : Nat) : Int))), (0, .ref q0), (1, .int (zI ((t1 : Nat) : Int))), (2, .int (zI w1)), (4, .int (zI ((jj : Nat) : Int))), (5, .int (zI ((mG f w1 jj : Nat) : Int))), (6, .int (zI ((cc : Nat) : Int)))]) hx hb dX10_meets_123 hl (k := 7) rfl (zI_add _ _) (by decide) rfl (fun ls hl => ?_)
                                refine lv_goto (tgt := 60) hx hb dX10_meets_126 (by decide) ?_
                                have hl : lv_has ls 8 [(7, .int (zI (((uu + 1) : Nat) : Int))), (3, .int (zI ((A2 ||| (1 <<< uu) : Nat) : Int))), (0, .ref q0), (1, .int (zI ((t1 : Nat) : Int))), (2, .int (zI w1)), (4, .int (zI ((jj : Nat) : Int))), (5, .int (zI ((mG f w1 jj : Nat) : Int))), (6, .int (zI ((cc : Nat) : Int)))] := lv_c (l1 := []) (l2 := [(3, .int (zI ((A2 ||| (1 <<< uu) : Nat) : Int))), (0, .ref q0), (1, .int (zI ((t1 : Nat) : Int))), (2, .int (zI w1)), (4, .int (zI ((jj : Nat) : Int))), (5, .int (zI ((mG f w1 jj : Nat) : Int))), (6, .int (zI ((cc : Nat) : Int)))]) hl (show ((uu : Nat) : Int) + 1 = (((uu + 1) : Nat) : Int) from by omega)
                                exact ih60 (uu + 1) (A2 ||| 1 <<< uu) (by omega) (mtI_y hI2 (by omega) (by omega) c_85 (by unfold bo; rw [c_97, c_110]; rfl)) (by omega) _ _ hP hD hS ls (lv_sub hl [2, 3, 4, 5, 6, 1, 7, 0] rfl)
                  have hl : lv_has ls 8 [(7, .int (zI ((0 : Nat) : Int))), (0, .ref q0), (1, .int (zI ((t1 : Nat) : Int))), (2, .int (zI w1)), (4, .int (zI ((jj : Nat) : Int))), (5, .int (zI ((mG f w1 jj : Nat) : Int))), (3, .int (zI ((A1 : Nat) : Int))), (6, .int (zI ((cc : Nat) : Int)))] := lv_c (l1 := []) (l2 := [(0, .ref q0), (1, .int (zI ((t1 : Nat) : Int))), (2, .int (zI w1)), (4, .int (zI ((jj : Nat) : Int))), (5, .int (zI ((mG f w1 jj : Nat) : Int))), (3, .int (zI ((A1 : Nat) : Int))), (6, .int (zI ((cc : Nat) : Int)))]) hl (show 0 = ((0 : Nat) : Int) from rfl)
                  exact L60 _ 0 A1 (Nat.zero_le _) hI1 (Nat.lt_succ_self _) _ _ hP hD hS ls (lv_sub hl [1, 2, 3, 4, 5, 6, 7, 0] rfl)
          have hl : lv_has ls 8 [(6, .int (zI ((0 : Nat) : Int))), (5, .int (zI ((mG f w1 jj : Nat) : Int))), (0, .ref q0), (1, .int (zI ((t1 : Nat) : Int))), (2, .int (zI w1)), (3, .int (zI ((orS (fun q => tchN f q (mG f w1 q) t1) jj : Nat) : Int))), (4, .int (zI ((jj : Nat) : Int)))] := lv_c (l1 := []) (l2 := [(5, .int (zI ((mG f w1 jj : Nat) : Int))), (0, .ref q0), (1, .int (zI ((t1 : Nat) : Int))), (2, .int (zI w1)), (3, .int (zI ((orS (fun q => tchN f q (mG f w1 q) t1) jj : Nat) : Int))), (4, .int (zI ((jj : Nat) : Int)))]) hl (show 0 = ((0 : Nat) : Int) from rfl)
          exact L41 _ 0 (orS (fun q => tchN f q (mG f w1 q) t1) jj) (by decide) mtI_0 (Or.inl ⟨rfl, rfl⟩) (Nat.lt_succ_self _) _ _ hP hD hS ls (lv_sub hl [2, 3, 4, 6, 1, 5, 0] rfl)
        refine lv_iload_n hx hb dX10_meets_16 rfl (lv_at hl 2 rfl) ?_
        refine z_if_eq (tgt := 29) hx hb dX10_meets_17 (by decide) (by omega) (fun c_17 => ?_) (fun c_17 => ?_)
        · refine lv_aload_n hx hb dX10_meets_29 rfl (lv_at hl 0 rfl) ?_
          refine va_get (D := D) (ci := 10) (v := .ref qt) (C := RX10) (T := TX10) (N := 13) hx hb hts hinX10 hown hK.1 hP 0 rfl rfl 10 (by decide) fl33 (fun _ h9 => h9) rfl dX10_meets_30 ?_
          refine lv_iload hx hb dX10_meets_33 (lv_at hl 4 rfl) ?_
          refine z_ald hx hb hK hP 2 rfl (jj) (by omega) (by omega) (Nat.le_of_ble_eq_true rfl) dX10_meets_35 ?_
          refine te (zc (show u_3 jj = ((mG f w1 jj : Nat) : Int) from (h_3 _ (by omega)).trans (congrArg Nat.cast (if_pos c_17).symm))) ?_
          exact L36 _ _ hP hD hS ls (lv_sub hl [0, 1, 2, 3, 4] rfl)
        · refine lv_aload_n hx hb dX10_meets_20 rfl (lv_at hl 0 rfl) ?_
          refine lv_iload hx hb dX10_meets_21 (lv_at hl 4 rfl) ?_
          refine roV (n := 1) (As := [.int (zI ((jj : Nat) : Int))]) (rest := []) hSf (m_onLine l D k q0 qn qa qp qi qs qk qb qt qh qe de sv bn f B hV hB jj (by omega)) gX10_meets_X10_onLine rfl (by decide +kernel) ⟨Nat.le_of_ble_eq_true rfl, Nat.le_of_ble_eq_true rfl⟩ hK hP [0, 1] rfl 0 rfl rfl rfl hl.1 rfl (Nat.le_of_ble_eq_true rfl) dX10_meets_23 ⟨Nat.zero_le _, Nat.zero_le _⟩ (fun r_23 h_23 => ?_)
          subst h_23
          refine te (zc (show ((onS f jj : Nat) : Int) = ((mG f w1 jj : Nat) : Int) from congrArg Nat.cast (if_neg c_17).symm)) ?_
          refine lv_goto (tgt := 36) hx hb dX10_meets_26 (by decide) ?_
          exact L36 _ _ hP hD hS ls (lv_sub hl [0, 1, 2, 3, 4] rfl)
  have hl : lv_has ls 8 [(4, .int (zI 0)), (3, .int (zI ((orS (fun q => tchN f q (mG f w1 q) t1) 0 : Nat) : Int))), (0, .ref q0), (1, .int (zI ((t1 : Nat) : Int))), (2, .int (zI w1))] := lv_c (l1 := [(4, .int (zI 0))]) (l2 := [(0, .ref q0), (1, .int (zI ((t1 : Nat) : Int))), (2, .int (zI w1))]) hl (show 0 = ((orS (fun q => tchN f q (mG f w1 q) t1) 0 : Nat) : Int) from rfl)
  have hl : lv_has ls 8 [(4, .int (zI ((0 : Nat) : Int))), (3, .int (zI ((orS (fun q => tchN f q (mG f w1 q) t1) 0 : Nat) : Int))), (0, .ref q0), (1, .int (zI ((t1 : Nat) : Int))), (2, .int (zI w1))] := lv_c (l1 := []) (l2 := [(3, .int (zI ((orS (fun q => tchN f q (mG f w1 q) t1) 0 : Nat) : Int))), (0, .ref q0), (1, .int (zI ((t1 : Nat) : Int))), (2, .int (zI w1))]) hl (show 0 = ((0 : Nat) : Int) from rfl)
  exact L9 _ 0 (by decide) (Nat.lt_succ_self _) _ _ hP hD hS ls (lv_sub hl [2, 3, 4, 1, 0] rfl)
set_option maxHeartbeats 4000000 in
set_option maxRecDepth 100000 in
theorem m_thing (l : Launch) (D : va_G) (k : Kt) (q0 : Nat) (qn : Nat) (qa : Nat) (qp : Nat) (qi : Nat) (qs : Nat) (qk : Nat) (qb : Nat) (qt : Nat) (qh : Nat) (qe : Nat) (de : Nat) (sv : Int) (bn : Nat) (f : St) (B : Int) (hV : Va B f) (hB : B < 1000000) (ts : Nat → Int) (hd : Nat → Int) (en : Nat → Int) (x1 : Int) (x2 : Int) (hx1 : -2147483648 ≤ x1 ∧ x1 < 2147483648) (hx2 : -2147483648 ≤ x2 ∧ x2 < 2147483648) : MI l D k yX10_thing wsX10_thing 7 163 [.ref q0, .int (zI x1), .int (zI x2)] [(q0, .inr (10, [.ref qn, .ref qa, .ref qp, .int (zI ((de : Nat) : Int)), .ref qi, .ref qs, .ref qk, .long (zL sv), .ref qb, .int (zI ((bn : Nat) : Int)), .ref qt, .ref qh, .ref qe])), (qn, .inl (k.1, 132, .inl (zF f))), (qt, .inl (k.1, 24, .inl (zF ts))), (qh, .inl (k.1, 12, .inl (zF hd))), (qe, .inl (k.1, 12, .inl (zF en)))] (fun (r : Int32) (u : (Nat → Int) × (Nat → Int) × (Nat → Int)) => r = zI (vThing f x1 x2) ∧ True) (fun u => [(q0, .inr (10, [.ref qn, .ref qa, .ref qp, .int (zI ((de : Nat) : Int)), .ref qi, .ref qs, .ref qk, .long (zL sv), .ref qb, .int (zI ((bn : Nat) : Int)), .ref qt, .ref qh, .ref qe])), (qn, .inl (k.1, 132, .inl (zF f))), (qt, .inl (k.1, 24, .inl (zF u.1))), (qh, .inl (k.1, 12, .inl (zF u.2.1))), (qe, .inl (k.1, 12, .inl (zF u.2.2)))]) := by
  refine Met.ofW (cc := cX10_thing) (maxL := 3) (ret := (some .int)) (by decide) rfl ?_
  intro p e s m args below meth c s₁ Bd hml hv
  obtain ⟨rfl, hP, hK, hD0⟩ := hv
  have hx := Bd.exec
  have hb := Bd.bytes
  have hr := Bd.returns
  have hts := atoms_spec (ws := wsX10_thing) Bd.pre
  have hown : s.vm.findClass RX10 = some m.cls := findClass_of_methodNamed Bd.named
  have hlocks := Bd.notSynchronized
  have hSf : CallFix p m c cX10_thing 3 s ([.ref q0, .int (zI x1), .int (zI x2)] : List Value).toArray wsX10_thing RX10 := ⟨hx, hb, hml, hown, hts⟩
  have hD := fA_D hD0
  have hS : va_S (fA [(q0, .inr (10, [.ref qn, .ref qa, .ref qp, .int (zI ((de : Nat) : Int)), .ref qi, .ref qs, .ref qk, .long (zL sv), .ref qb, .int (zI ((bn : Nat) : Int)), .ref qt, .ref qh, .ref qe])), (qn, .inl (k.1, 132, .inl (zF f))), (qt, .inl (k.1, 24, .inl (zF ts))), (qh, .inl (k.1, 12, .inl (zF hd))), (qe, .inl (k.1, 12, .inl (zF en)))]) s.heap s.heap [] := va_S.rf
  generalize hAe : fA [(q0, .inr (10, [.ref qn, .ref qa, .ref qp, .int (zI ((de : Nat) : Int)), .ref qi, .ref qs, .ref qk, .long (zL sv), .ref qb, .int (zI ((bn : Nat) : Int)), .ref qt, .ref qh, .ref qe])), (qn, .inl (k.1, 132, .inl (zF f))), (qt, .inl (k.1, 24, .inl (zF ts))), (qh, .inl (k.1, 12, .inl (zF hd))), (qe, .inl (k.1, 12, .inl (zF en)))] = A at hD hS ⊢
  have hP : va_P D vwCl [(q0, .inr (10, [.ref qn, .ref qa, .ref qp, .int (zI ((de : Nat) : Int)), .ref qi, .ref qs, .ref qk, .long (zL sv), .ref qb, .int (zI ((bn : Nat) : Int)), .ref qt, .ref qh, .ref qe])), (qn, .inl (k.1, 132, .inl (zF f))), (qt, .inl (k.1, 24, .inl (zF ts))), (qh, .inl (k.1, 12, .inl (zF hd))), (qe, .inl (k.1, 12, .inl (zF en)))] s.heap := hP
  have hinX10 : ∀ w ∈ u_ws RX10 TX10 13, w ∈ wsX10_thing := by decide +kernel
  have fl36 := hts (.fieldLink RX10 36 "DotObjectsModel" "holder" "[I") (by decide +kernel)
  have hl := lv_entry ([.ref q0, .int (zI x1), .int (zI x2)]) (n := 3) (Nat.le_of_ble_eq_true rfl)
  rw [lg_entry_eq]
  generalize (lg_sl ([.ref q0, .int (zI x1), .int (zI x2)]) ++ List.replicate (3 - (lg_sl ([.ref q0, .int (zI x1), .int (zI x2)])).length) Slot.unset).toArray = ls at hl ⊢
  have hl : lv_has ls 3 [(0, .ref q0), (1, .int (zI x1)), (2, .int (zI x2))] := hl
  have hv0 := hV.1
  have hn := hV.n
  refine lv_aload_n hx hb dX10_thing_0 rfl (lv_at hl 0 rfl) ?_
  refine lv_iload_n hx hb dX10_thing_1 rfl (lv_at hl 1 rfl) ?_
  refine roV (n := 1) (As := [.int (zI x1)]) (rest := []) hSf (m_isThing l D k q0 qn qa qp qi qs qk qb qt qh qe de sv bn f B hV hB x1 (by omega)) gX10_thing_X10_isThing rfl (by decide +kernel) ⟨Nat.le_of_ble_eq_true rfl, Nat.le_of_ble_eq_true rfl⟩ hK hP [0, 1] rfl 0 rfl rfl rfl hl.1 rfl (Nat.le_of_ble_eq_true rfl) dX10_thing_2 ⟨Nat.zero_le _, Nat.zero_le _⟩ (fun r_2 h_2 => ?_)
  subst h_2
  refine z_if_neb (tgt := 11) hx hb dX10_thing_5 (by decide) (fun c_5 => ?_) (fun c_5 => ?_)
  · simp only [Bool.and_eq_true, decide_eq_true_eq] at c_5
    refine lv_iload_n hx hb dX10_thing_11 rfl (lv_at hl 2 rfl) ?_
    rcases sw_cases (x := x2) (lo := 0) (hi := 13) with hsw | hsw
    · refine lv_tableOut (tgt := 147) hx hb dX10_thing_12 (by rw [zI_toInt (by omega)]; omega) (by decide) ?_
      refine lv_ldc hx hb hown (hts (.constant RX10 112 (-1000000002)) (by decide +kernel)) dX10_thing_147 ?_
      refine te (show (-1000000002 : Int32) = zI (-1000000002) from by decide +kernel) ?_
      exact W.iret hx hb hr (fun t ht hW => ⟨⟨_, (ts, hd, en), rfl, ⟨zc (by unfold vThing; rw [if_pos (by omega), if_neg (by omega), if_neg (by omega), if_neg (by omega), if_neg (by omega), if_neg (by omega), if_neg (by omega), if_neg (by omega), if_neg (by omega), if_neg (by omega), if_neg (by omega), if_neg (by omega), if_neg (by omega), if_neg (by omega), if_neg (by omega)]), trivial⟩, by show va_P D vwCl _ _; rw [ht]; exact hP⟩, hS.F ht⟩) hS.2.2 dX10_thing_149
    · rcases (show x2 = 0 ∨ x2 = 1 ∨ x2 = 2 ∨ x2 = 3 ∨ x2 = 4 ∨ x2 = 5 ∨ x2 = 6 ∨ x2 = 7 ∨ x2 = 8 ∨ x2 = 9 ∨ x2 = 10 ∨ x2 = 11 ∨ x2 = 12 ∨ x2 = 13 from by omega) with hsw | hsw | hsw | hsw | hsw | hsw | hsw | hsw | hsw | hsw | hsw | hsw | hsw | hsw
      · refine lv_tableIn (off := 72) (tgt := 84) hx hb dX10_thing_12 (by rw [zI_toInt (by omega)]; omega) (by rw [zI_toInt (by omega)]; omega) (by rw [zI_toInt (by omega), hsw]; decide) (by decide) ?_
        refine lv_aload_n hx hb dX10_thing_84 rfl (lv_at hl 0 rfl) ?_
        refine lv_iload_n hx hb dX10_thing_85 rfl (lv_at hl 1 rfl) ?_
        refine lv_iload_n hx hb dX10_thing_86 rfl (lv_at hl 2 rfl) ?_
        refine roV (n := 2) (As := [.int (zI ((x1.toNat : Nat) : Int)), .int (zI ((x2.toNat : Nat) : Int))]) (rest := []) hSf (m_of l D k q0 qn qa qp qi qs qk qb qt qh qe de sv bn f x1.toNat x2.toNat (by omega) (by omega)) gX10_thing_X10_of rfl (by decide +kernel) ⟨Nat.le_of_ble_eq_true rfl, Nat.le_of_ble_eq_true rfl⟩ hK hP [0, 1] rfl 0 rfl rfl rfl hl.1 (by rw [show zI x1 = zI ((x1.toNat : Nat) : Int) from zc (by omega)]; rw [show zI x2 = zI ((x2.toNat : Nat) : Int) from zc (by omega)]; rfl) (Nat.le_of_ble_eq_true rfl) dX10_thing_87 ⟨Nat.zero_le _, Nat.zero_le _⟩ (fun r_87 h_87 => ?_)
        subst h_87
        refine z_bipush hx hb dX10_thing_90 (by decide +kernel) ?_
        refine z_iadd hx hb dX10_thing_92 ?_
        exact W.iret hx hb hr (fun t ht hW => ⟨⟨_, (ts, hd, en), rfl, ⟨zc (by unfold vThing; rw [if_pos (by omega), hsw]; rfl), trivial⟩, by show va_P D vwCl _ _; rw [ht]; exact hP⟩, hS.F ht⟩) hS.2.2 dX10_thing_93
      · refine lv_tableIn (off := 72) (tgt := 84) hx hb dX10_thing_12 (by rw [zI_toInt (by omega)]; omega) (by rw [zI_toInt (by omega)]; omega) (by rw [zI_toInt (by omega), hsw]; decide) (by decide) ?_
        refine lv_aload_n hx hb dX10_thing_84 rfl (lv_at hl 0 rfl) ?_
        refine lv_iload_n hx hb dX10_thing_85 rfl (lv_at hl 1 rfl) ?_
        refine lv_iload_n hx hb dX10_thing_86 rfl (lv_at hl 2 rfl) ?_
        refine roV (n := 2) (As := [.int (zI ((x1.toNat : Nat) : Int)), .int (zI ((x2.toNat : Nat) : Int))]) (rest := []) hSf (m_of l D k q0 qn qa qp qi qs qk qb qt qh qe de sv bn f x1.toNat x2.toNat (by omega) (by omega)) gX10_thing_X10_of rfl (by decide +kernel) ⟨Nat.le_of_ble_eq_true rfl, Nat.le_of_ble_eq_true rfl⟩ hK hP [0, 1] rfl 0 rfl rfl rfl hl.1 (by rw [show zI x1 = zI ((x1.toNat : Nat) : Int) from zc (by omega)]; rw [show zI x2 = zI ((x2.toNat : Nat) : Int) from zc (by omega)]; rfl) (Nat.le_of_ble_eq_true rfl) dX10_thing_87 ⟨Nat.zero_le _, Nat.zero_le _⟩ (fun r_87 h_87 => ?_)
        subst h_87
        refine z_bipush hx hb dX10_thing_90 (by decide +kernel) ?_
        refine z_iadd hx hb dX10_thing_92 ?_
        exact W.iret hx hb hr (fun t ht hW => ⟨⟨_, (ts, hd, en), rfl, ⟨zc (by unfold vThing; rw [if_pos (by omega), hsw]; rfl), trivial⟩, by show va_P D vwCl _ _; rw [ht]; exact hP⟩, hS.F ht⟩) hS.2.2 dX10_thing_93
      · refine lv_tableIn (off := 82) (tgt := 94) hx hb dX10_thing_12 (by rw [zI_toInt (by omega)]; omega) (by rw [zI_toInt (by omega)]; omega) (by rw [zI_toInt (by omega), hsw]; decide) (by decide) ?_
        refine lv_aload_n hx hb dX10_thing_94 rfl (lv_at hl 0 rfl) ?_
        refine lv_iload_n hx hb dX10_thing_95 rfl (lv_at hl 1 rfl) ?_
        refine lv_iload_n hx hb dX10_thing_96 rfl (lv_at hl 2 rfl) ?_
        refine roV (n := 2) (As := [.int (zI ((x1.toNat : Nat) : Int)), .int (zI ((x2.toNat : Nat) : Int))]) (rest := []) hSf (m_of l D k q0 qn qa qp qi qs qk qb qt qh qe de sv bn f x1.toNat x2.toNat (by omega) (by omega)) gX10_thing_X10_of rfl (by decide +kernel) ⟨Nat.le_of_ble_eq_true rfl, Nat.le_of_ble_eq_true rfl⟩ hK hP [0, 1] rfl 0 rfl rfl rfl hl.1 (by rw [show zI x1 = zI ((x1.toNat : Nat) : Int) from zc (by omega)]; rw [show zI x2 = zI ((x2.toNat : Nat) : Int) from zc (by omega)]; rfl) (Nat.le_of_ble_eq_true rfl) dX10_thing_97 ⟨Nat.zero_le _, Nat.zero_le _⟩ (fun r_97 h_97 => ?_)
        subst h_97
        exact W.iret hx hb hr (fun t ht hW => ⟨⟨_, (ts, hd, en), rfl, ⟨zc (by unfold vThing; rw [if_pos (by omega), hsw]; rfl), trivial⟩, by show va_P D vwCl _ _; rw [ht]; exact hP⟩, hS.F ht⟩) hS.2.2 dX10_thing_100
      · refine lv_tableIn (off := 82) (tgt := 94) hx hb dX10_thing_12 (by rw [zI_toInt (by omega)]; omega) (by rw [zI_toInt (by omega)]; omega) (by rw [zI_toInt (by omega), hsw]; decide) (by decide) ?_
        refine lv_aload_n hx hb dX10_thing_94 rfl (lv_at hl 0 rfl) ?_
        refine lv_iload_n hx hb dX10_thing_95 rfl (lv_at hl 1 rfl) ?_
        refine lv_iload_n hx hb dX10_thing_96 rfl (lv_at hl 2 rfl) ?_
        refine roV (n := 2) (As := [.int (zI ((x1.toNat : Nat) : Int)), .int (zI ((x2.toNat : Nat) : Int))]) (rest := []) hSf (m_of l D k q0 qn qa qp qi qs qk qb qt qh qe de sv bn f x1.toNat x2.toNat (by omega) (by omega)) gX10_thing_X10_of rfl (by decide +kernel) ⟨Nat.le_of_ble_eq_true rfl, Nat.le_of_ble_eq_true rfl⟩ hK hP [0, 1] rfl 0 rfl rfl rfl hl.1 (by rw [show zI x1 = zI ((x1.toNat : Nat) : Int) from zc (by omega)]; rw [show zI x2 = zI ((x2.toNat : Nat) : Int) from zc (by omega)]; rfl) (Nat.le_of_ble_eq_true rfl) dX10_thing_97 ⟨Nat.zero_le _, Nat.zero_le _⟩ (fun r_97 h_97 => ?_)
        subst h_97
        exact W.iret hx hb hr (fun t ht hW => ⟨⟨_, (ts, hd, en), rfl, ⟨zc (by unfold vThing; rw [if_pos (by omega), hsw]; rfl), trivial⟩, by show va_P D vwCl _ _; rw [ht]; exact hP⟩, hS.F ht⟩) hS.2.2 dX10_thing_100
      · refine lv_tableIn (off := 82) (tgt := 94) hx hb dX10_thing_12 (by rw [zI_toInt (by omega)]; omega) (by rw [zI_toInt (by omega)]; omega) (by rw [zI_toInt (by omega), hsw]; decide) (by decide) ?_
        refine lv_aload_n hx hb dX10_thing_94 rfl (lv_at hl 0 rfl) ?_
        refine lv_iload_n hx hb dX10_thing_95 rfl (lv_at hl 1 rfl) ?_
        refine lv_iload_n hx hb dX10_thing_96 rfl (lv_at hl 2 rfl) ?_
        refine roV (n := 2) (As := [.int (zI ((x1.toNat : Nat) : Int)), .int (zI ((x2.toNat : Nat) : Int))]) (rest := []) hSf (m_of l D k q0 qn qa qp qi qs qk qb qt qh qe de sv bn f x1.toNat x2.toNat (by omega) (by omega)) gX10_thing_X10_of rfl (by decide +kernel) ⟨Nat.le_of_ble_eq_true rfl, Nat.le_of_ble_eq_true rfl⟩ hK hP [0, 1] rfl 0 rfl rfl rfl hl.1 (by rw [show zI x1 = zI ((x1.toNat : Nat) : Int) from zc (by omega)]; rw [show zI x2 = zI ((x2.toNat : Nat) : Int) from zc (by omega)]; rfl) (Nat.le_of_ble_eq_true rfl) dX10_thing_97 ⟨Nat.zero_le _, Nat.zero_le _⟩ (fun r_97 h_97 => ?_)
        subst h_97
        exact W.iret hx hb hr (fun t ht hW => ⟨⟨_, (ts, hd, en), rfl, ⟨zc (by unfold vThing; rw [if_pos (by omega), hsw]; rfl), trivial⟩, by show va_P D vwCl _ _; rw [ht]; exact hP⟩, hS.F ht⟩) hS.2.2 dX10_thing_100
      · refine lv_tableIn (off := 82) (tgt := 94) hx hb dX10_thing_12 (by rw [zI_toInt (by omega)]; omega) (by rw [zI_toInt (by omega)]; omega) (by rw [zI_toInt (by omega), hsw]; decide) (by decide) ?_
        refine lv_aload_n hx hb dX10_thing_94 rfl (lv_at hl 0 rfl) ?_
        refine lv_iload_n hx hb dX10_thing_95 rfl (lv_at hl 1 rfl) ?_
        refine lv_iload_n hx hb dX10_thing_96 rfl (lv_at hl 2 rfl) ?_
        refine roV (n := 2) (As := [.int (zI ((x1.toNat : Nat) : Int)), .int (zI ((x2.toNat : Nat) : Int))]) (rest := []) hSf (m_of l D k q0 qn qa qp qi qs qk qb qt qh qe de sv bn f x1.toNat x2.toNat (by omega) (by omega)) gX10_thing_X10_of rfl (by decide +kernel) ⟨Nat.le_of_ble_eq_true rfl, Nat.le_of_ble_eq_true rfl⟩ hK hP [0, 1] rfl 0 rfl rfl rfl hl.1 (by rw [show zI x1 = zI ((x1.toNat : Nat) : Int) from zc (by omega)]; rw [show zI x2 = zI ((x2.toNat : Nat) : Int) from zc (by omega)]; rfl) (Nat.le_of_ble_eq_true rfl) dX10_thing_97 ⟨Nat.zero_le _, Nat.zero_le _⟩ (fun r_97 h_97 => ?_)
        subst h_97
        exact W.iret hx hb hr (fun t ht hW => ⟨⟨_, (ts, hd, en), rfl, ⟨zc (by unfold vThing; rw [if_pos (by omega), hsw]; rfl), trivial⟩, by show va_P D vwCl _ _; rw [ht]; exact hP⟩, hS.F ht⟩) hS.2.2 dX10_thing_100
      · refine lv_tableIn (off := 72) (tgt := 84) hx hb dX10_thing_12 (by rw [zI_toInt (by omega)]; omega) (by rw [zI_toInt (by omega)]; omega) (by rw [zI_toInt (by omega), hsw]; decide) (by decide) ?_
        refine lv_aload_n hx hb dX10_thing_84 rfl (lv_at hl 0 rfl) ?_
        refine lv_iload_n hx hb dX10_thing_85 rfl (lv_at hl 1 rfl) ?_
        refine lv_iload_n hx hb dX10_thing_86 rfl (lv_at hl 2 rfl) ?_
        refine roV (n := 2) (As := [.int (zI ((x1.toNat : Nat) : Int)), .int (zI ((x2.toNat : Nat) : Int))]) (rest := []) hSf (m_of l D k q0 qn qa qp qi qs qk qb qt qh qe de sv bn f x1.toNat x2.toNat (by omega) (by omega)) gX10_thing_X10_of rfl (by decide +kernel) ⟨Nat.le_of_ble_eq_true rfl, Nat.le_of_ble_eq_true rfl⟩ hK hP [0, 1] rfl 0 rfl rfl rfl hl.1 (by rw [show zI x1 = zI ((x1.toNat : Nat) : Int) from zc (by omega)]; rw [show zI x2 = zI ((x2.toNat : Nat) : Int) from zc (by omega)]; rfl) (Nat.le_of_ble_eq_true rfl) dX10_thing_87 ⟨Nat.zero_le _, Nat.zero_le _⟩ (fun r_87 h_87 => ?_)
        subst h_87
        refine z_bipush hx hb dX10_thing_90 (by decide +kernel) ?_
        refine z_iadd hx hb dX10_thing_92 ?_
        exact W.iret hx hb hr (fun t ht hW => ⟨⟨_, (ts, hd, en), rfl, ⟨zc (by unfold vThing; rw [if_pos (by omega), hsw]; rfl), trivial⟩, by show va_P D vwCl _ _; rw [ht]; exact hP⟩, hS.F ht⟩) hS.2.2 dX10_thing_93
      · refine lv_tableIn (off := 72) (tgt := 84) hx hb dX10_thing_12 (by rw [zI_toInt (by omega)]; omega) (by rw [zI_toInt (by omega)]; omega) (by rw [zI_toInt (by omega), hsw]; decide) (by decide) ?_
        refine lv_aload_n hx hb dX10_thing_84 rfl (lv_at hl 0 rfl) ?_
        refine lv_iload_n hx hb dX10_thing_85 rfl (lv_at hl 1 rfl) ?_
        refine lv_iload_n hx hb dX10_thing_86 rfl (lv_at hl 2 rfl) ?_
        refine roV (n := 2) (As := [.int (zI ((x1.toNat : Nat) : Int)), .int (zI ((x2.toNat : Nat) : Int))]) (rest := []) hSf (m_of l D k q0 qn qa qp qi qs qk qb qt qh qe de sv bn f x1.toNat x2.toNat (by omega) (by omega)) gX10_thing_X10_of rfl (by decide +kernel) ⟨Nat.le_of_ble_eq_true rfl, Nat.le_of_ble_eq_true rfl⟩ hK hP [0, 1] rfl 0 rfl rfl rfl hl.1 (by rw [show zI x1 = zI ((x1.toNat : Nat) : Int) from zc (by omega)]; rw [show zI x2 = zI ((x2.toNat : Nat) : Int) from zc (by omega)]; rfl) (Nat.le_of_ble_eq_true rfl) dX10_thing_87 ⟨Nat.zero_le _, Nat.zero_le _⟩ (fun r_87 h_87 => ?_)
        subst h_87
        refine z_bipush hx hb dX10_thing_90 (by decide +kernel) ?_
        refine z_iadd hx hb dX10_thing_92 ?_
        exact W.iret hx hb hr (fun t ht hW => ⟨⟨_, (ts, hd, en), rfl, ⟨zc (by unfold vThing; rw [if_pos (by omega), hsw]; rfl), trivial⟩, by show va_P D vwCl _ _; rw [ht]; exact hP⟩, hS.F ht⟩) hS.2.2 dX10_thing_93
      · refine lv_tableIn (off := 89) (tgt := 101) hx hb dX10_thing_12 (by rw [zI_toInt (by omega)]; omega) (by rw [zI_toInt (by omega)]; omega) (by rw [zI_toInt (by omega), hsw]; decide) (by decide) ?_
        refine lv_aload_n hx hb dX10_thing_101 rfl (lv_at hl 0 rfl) ?_
        refine lv_iload_n hx hb dX10_thing_102 rfl (lv_at hl 1 rfl) ?_
        refine z_iconst hx hb dX10_thing_103 ?_
        refine miV (n := 2) (As := [.int (zI ((x1.toNat : Nat) : Int)), .int (zI 0)]) (rest := []) hSf (m_dotsOf l D k q0 qn qa qp qi qs qk qb qt qh qe de sv bn f B hV hB ts x1.toNat (by omega) 0 (by omega)) gX10_thing_X10_dotsOf rfl (by decide +kernel) ⟨Nat.le_of_ble_eq_true rfl, Nat.le_of_ble_eq_true rfl⟩ hK hP hD hS [0, 1, 2] rfl rfl (by decide) (fun _ => rfl) (fun _ => rfl) 0 rfl rfl rfl hl.1 (by rw [show zI x1 = zI ((x1.toNat : Nat) : Int) from zc (by omega)]; rfl) (Nat.le_of_ble_eq_true rfl) dX10_thing_104 ⟨Nat.zero_le _, Nat.zero_le _⟩ (fun r_104 u_104 H locs h_104 hP hD hS => ?_)
        have hP : va_P D vwCl [(q0, .inr (10, [.ref qn, .ref qa, .ref qp, .int (zI ((de : Nat) : Int)), .ref qi, .ref qs, .ref qk, .long (zL sv), .ref qb, .int (zI ((bn : Nat) : Int)), .ref qt, .ref qh, .ref qe])), (qn, .inl (k.1, 132, .inl (zF f))), (qt, .inl (k.1, 24, .inl (zF u_104))), (qh, .inl (k.1, 12, .inl (zF hd))), (qe, .inl (k.1, 12, .inl (zF en)))] H := hP
        have hD : va_D A [(q0, .inr (10, [.ref qn, .ref qa, .ref qp, .int (zI ((de : Nat) : Int)), .ref qi, .ref qs, .ref qk, .long (zL sv), .ref qb, .int (zI ((bn : Nat) : Int)), .ref qt, .ref qh, .ref qe])), (qn, .inl (k.1, 132, .inl (zF f))), (qt, .inl (k.1, 24, .inl (zF u_104))), (qh, .inl (k.1, 12, .inl (zF hd))), (qe, .inl (k.1, 12, .inl (zF en)))] := hD
        obtain ⟨he_104, h_104⟩ := h_104
        subst he_104
        refine te (zc (show ((sm (fun q => doL f 0 x1.toNat q) 24 : Nat) : Int) = ((sm (fun q => seeL f x1.toNat q) 24 : Nat) : Int) from congrArg Nat.cast (doL0 _ _ _))) ?_
        exact W.iret hx hb hr (fun t ht hW => ⟨⟨_, (u_104, hd, en), rfl, ⟨zc (by unfold vThing; rw [if_pos (by omega), hsw]; rfl), trivial⟩, by show va_P D vwCl _ _; rw [ht]; exact hP⟩, hS.F ht⟩) hS.2.2 dX10_thing_107
      · refine lv_tableIn (off := 96) (tgt := 108) hx hb dX10_thing_12 (by rw [zI_toInt (by omega)]; omega) (by rw [zI_toInt (by omega)]; omega) (by rw [zI_toInt (by omega), hsw]; decide) (by decide) ?_
        refine lv_aload_n hx hb dX10_thing_108 rfl (lv_at hl 0 rfl) ?_
        refine lv_iload_n hx hb dX10_thing_109 rfl (lv_at hl 1 rfl) ?_
        refine z_iconst hx hb dX10_thing_110 ?_
        refine miV (n := 2) (As := [.int (zI ((x1.toNat : Nat) : Int)), .int (zI 1)]) (rest := []) hSf (m_dotsOf l D k q0 qn qa qp qi qs qk qb qt qh qe de sv bn f B hV hB ts x1.toNat (by omega) 1 (by omega)) gX10_thing_X10_dotsOf rfl (by decide +kernel) ⟨Nat.le_of_ble_eq_true rfl, Nat.le_of_ble_eq_true rfl⟩ hK hP hD hS [0, 1, 2] rfl rfl (by decide) (fun _ => rfl) (fun _ => rfl) 0 rfl rfl rfl hl.1 (by rw [show zI x1 = zI ((x1.toNat : Nat) : Int) from zc (by omega)]; rfl) (Nat.le_of_ble_eq_true rfl) dX10_thing_111 ⟨Nat.zero_le _, Nat.zero_le _⟩ (fun r_111 u_111 H locs h_111 hP hD hS => ?_)
        have hP : va_P D vwCl [(q0, .inr (10, [.ref qn, .ref qa, .ref qp, .int (zI ((de : Nat) : Int)), .ref qi, .ref qs, .ref qk, .long (zL sv), .ref qb, .int (zI ((bn : Nat) : Int)), .ref qt, .ref qh, .ref qe])), (qn, .inl (k.1, 132, .inl (zF f))), (qt, .inl (k.1, 24, .inl (zF u_111))), (qh, .inl (k.1, 12, .inl (zF hd))), (qe, .inl (k.1, 12, .inl (zF en)))] H := hP
        have hD : va_D A [(q0, .inr (10, [.ref qn, .ref qa, .ref qp, .int (zI ((de : Nat) : Int)), .ref qi, .ref qs, .ref qk, .long (zL sv), .ref qb, .int (zI ((bn : Nat) : Int)), .ref qt, .ref qh, .ref qe])), (qn, .inl (k.1, 132, .inl (zF f))), (qt, .inl (k.1, 24, .inl (zF u_111))), (qh, .inl (k.1, 12, .inl (zF hd))), (qe, .inl (k.1, 12, .inl (zF en)))] := hD
        obtain ⟨he_111, h_111⟩ := h_111
        subst he_111
        refine te (zc (show ((sm (fun q => doL f 1 x1.toNat q) 24 : Nat) : Int) = ((sm (fun q => covL f x1.toNat q) 24 : Nat) : Int) from congrArg Nat.cast (doL1 _ _ _))) ?_
        exact W.iret hx hb hr (fun t ht hW => ⟨⟨_, (u_111, hd, en), rfl, ⟨zc (by unfold vThing; rw [if_pos (by omega), hsw]; rfl), trivial⟩, by show va_P D vwCl _ _; rw [ht]; exact hP⟩, hS.F ht⟩) hS.2.2 dX10_thing_114
      · refine lv_tableIn (off := 103) (tgt := 115) hx hb dX10_thing_12 (by rw [zI_toInt (by omega)]; omega) (by rw [zI_toInt (by omega)]; omega) (by rw [zI_toInt (by omega), hsw]; decide) (by decide) ?_
        refine lv_aload_n hx hb dX10_thing_115 rfl (lv_at hl 0 rfl) ?_
        refine lv_iload_n hx hb dX10_thing_116 rfl (lv_at hl 1 rfl) ?_
        refine roV (n := 1) (As := [.int (zI ((x1.toNat : Nat) : Int))]) (rest := []) hSf (m_droppedOf l D k q0 qn qa qp qi qs qk qb qt qh qe de sv bn f B hV hB x1.toNat (by omega)) gX10_thing_X10_droppedOf rfl (by decide +kernel) ⟨Nat.le_of_ble_eq_true rfl, Nat.le_of_ble_eq_true rfl⟩ hK hP [0, 1] rfl 0 rfl rfl rfl hl.1 (by rw [show zI x1 = zI ((x1.toNat : Nat) : Int) from zc (by omega)]; rfl) (Nat.le_of_ble_eq_true rfl) dX10_thing_117 ⟨Nat.zero_le _, Nat.zero_le _⟩ (fun r_117 h_117 => ?_)
        subst h_117
        exact W.iret hx hb hr (fun t ht hW => ⟨⟨_, (ts, hd, en), rfl, ⟨zc (by unfold vThing; rw [if_pos (by omega), hsw]; rfl), trivial⟩, by show va_P D vwCl _ _; rw [ht]; exact hP⟩, hS.F ht⟩) hS.2.2 dX10_thing_120
      · refine lv_tableIn (off := 109) (tgt := 121) hx hb dX10_thing_12 (by rw [zI_toInt (by omega)]; omega) (by rw [zI_toInt (by omega)]; omega) (by rw [zI_toInt (by omega), hsw]; decide) (by decide) ?_
        refine lv_aload_n hx hb dX10_thing_121 rfl (lv_at hl 0 rfl) ?_
        refine miV (n := 0) (As := []) (rest := []) hSf (m_holds l D k q0 qn qa qp qi qs qk qb qt qh qe de sv bn f B hV hB hd en) gX10_thing_X10_holds rfl (by decide +kernel) ⟨Nat.le_of_ble_eq_true rfl, Nat.le_of_ble_eq_true rfl⟩ hK hP hD hS [0, 1, 3, 4] rfl rfl (by decide) (fun _ => rfl) (fun _ => rfl) 0 rfl rfl rfl hl.1 rfl (Nat.le_of_ble_eq_true rfl) dX10_thing_122 ⟨Nat.zero_le _, Nat.zero_le _⟩ (fun r_122 u_122 H locs h_122 hP hD hS => ?_)
        have hP : va_P D vwCl [(q0, .inr (10, [.ref qn, .ref qa, .ref qp, .int (zI ((de : Nat) : Int)), .ref qi, .ref qs, .ref qk, .long (zL sv), .ref qb, .int (zI ((bn : Nat) : Int)), .ref qt, .ref qh, .ref qe])), (qn, .inl (k.1, 132, .inl (zF f))), (qt, .inl (k.1, 24, .inl (zF ts))), (qh, .inl (k.1, 12, .inl (zF u_122.1))), (qe, .inl (k.1, 12, .inl (zF u_122.2)))] H := hP
        have hD : va_D A [(q0, .inr (10, [.ref qn, .ref qa, .ref qp, .int (zI ((de : Nat) : Int)), .ref qi, .ref qs, .ref qk, .long (zL sv), .ref qb, .int (zI ((bn : Nat) : Int)), .ref qt, .ref qh, .ref qe])), (qn, .inl (k.1, 132, .inl (zF f))), (qt, .inl (k.1, 24, .inl (zF ts))), (qh, .inl (k.1, 12, .inl (zF u_122.1))), (qe, .inl (k.1, 12, .inl (zF u_122.2)))] := hD
        obtain ⟨he_122, h_122⟩ := h_122
        subst he_122
        refine lv_pop hx hb dX10_thing_125 rfl ?_
        refine lv_aload_n hx hb dX10_thing_126 rfl (lv_at hl 0 rfl) ?_
        refine va_get (D := D) (ci := 10) (v := .ref qh) (C := RX10) (T := TX10) (N := 13) hx hb hts hinX10 hown hK.1 hP 0 rfl rfl 11 (by decide) fl36 (fun _ h9 => h9) rfl dX10_thing_127 ?_
        refine lv_iload_n hx hb dX10_thing_130 rfl (lv_at hl 1 rfl) ?_
        refine z_ald hx hb hK hP 3 rfl (x1.toNat) (by omega) (by omega) (Nat.le_of_ble_eq_true rfl) dX10_thing_131 ?_
        refine te (zc (show u_122.1 x1.toNat = (hsF f).2.2 x1.toNat from h_122 _ (by omega))) ?_
        exact W.iret hx hb hr (fun t ht hW => ⟨⟨_, (ts, u_122.1, u_122.2), rfl, ⟨zc (by unfold vThing; rw [if_pos (by omega), hsw]; rfl), trivial⟩, by show va_P D vwCl _ _; rw [ht]; exact hP⟩, hS.F ht⟩) hS.2.2 dX10_thing_132
      · refine lv_tableIn (off := 121) (tgt := 133) hx hb dX10_thing_12 (by rw [zI_toInt (by omega)]; omega) (by rw [zI_toInt (by omega)]; omega) (by rw [zI_toInt (by omega), hsw]; decide) (by decide) ?_
        refine lv_aload_n hx hb dX10_thing_133 rfl (lv_at hl 0 rfl) ?_
        refine lv_iload_n hx hb dX10_thing_134 rfl (lv_at hl 1 rfl) ?_
        refine z_iconst hx hb dX10_thing_135 ?_
        refine miV (n := 2) (As := [.int (zI ((x1.toNat : Nat) : Int)), .int (zI 0)]) (rest := []) hSf (m_meets l D k q0 qn qa qp qi qs qk qb qt qh qe de sv bn f B hV hB ts x1.toNat (by omega) 0 (by omega)) gX10_thing_X10_meets rfl (by decide +kernel) ⟨Nat.le_of_ble_eq_true rfl, Nat.le_of_ble_eq_true rfl⟩ hK hP hD hS [0, 1, 2] rfl rfl (by decide) (fun _ => rfl) (fun _ => rfl) 0 rfl rfl rfl hl.1 (by rw [show zI x1 = zI ((x1.toNat : Nat) : Int) from zc (by omega)]; rfl) (Nat.le_of_ble_eq_true rfl) dX10_thing_136 ⟨Nat.zero_le _, Nat.zero_le _⟩ (fun r_136 u_136 H locs h_136 hP hD hS => ?_)
        have hP : va_P D vwCl [(q0, .inr (10, [.ref qn, .ref qa, .ref qp, .int (zI ((de : Nat) : Int)), .ref qi, .ref qs, .ref qk, .long (zL sv), .ref qb, .int (zI ((bn : Nat) : Int)), .ref qt, .ref qh, .ref qe])), (qn, .inl (k.1, 132, .inl (zF f))), (qt, .inl (k.1, 24, .inl (zF u_136))), (qh, .inl (k.1, 12, .inl (zF hd))), (qe, .inl (k.1, 12, .inl (zF en)))] H := hP
        have hD : va_D A [(q0, .inr (10, [.ref qn, .ref qa, .ref qp, .int (zI ((de : Nat) : Int)), .ref qi, .ref qs, .ref qk, .long (zL sv), .ref qb, .int (zI ((bn : Nat) : Int)), .ref qt, .ref qh, .ref qe])), (qn, .inl (k.1, 132, .inl (zF f))), (qt, .inl (k.1, 24, .inl (zF u_136))), (qh, .inl (k.1, 12, .inl (zF hd))), (qe, .inl (k.1, 12, .inl (zF en)))] := hD
        obtain ⟨he_136, h_136⟩ := h_136
        subst he_136
        refine te (zc (show ((orS (fun q => tchN f q (mG f 0 q) x1.toNat) 24 : Nat) : Int) = ((orS (fun q => tchN f q (dN f q) x1.toNat) 24 : Nat) : Int) from congrArg Nat.cast (mG0 _ _ _))) ?_
        exact W.iret hx hb hr (fun t ht hW => ⟨⟨_, (u_136, hd, en), rfl, ⟨zc (by unfold vThing; rw [if_pos (by omega), hsw]; rfl), trivial⟩, by show va_P D vwCl _ _; rw [ht]; exact hP⟩, hS.F ht⟩) hS.2.2 dX10_thing_139
      · refine lv_tableIn (off := 128) (tgt := 140) hx hb dX10_thing_12 (by rw [zI_toInt (by omega)]; omega) (by rw [zI_toInt (by omega)]; omega) (by rw [zI_toInt (by omega), hsw]; decide) (by decide) ?_
        refine lv_aload_n hx hb dX10_thing_140 rfl (lv_at hl 0 rfl) ?_
        refine lv_iload_n hx hb dX10_thing_141 rfl (lv_at hl 1 rfl) ?_
        refine z_iconst hx hb dX10_thing_142 ?_
        refine miV (n := 2) (As := [.int (zI ((x1.toNat : Nat) : Int)), .int (zI 1)]) (rest := []) hSf (m_meets l D k q0 qn qa qp qi qs qk qb qt qh qe de sv bn f B hV hB ts x1.toNat (by omega) 1 (by omega)) gX10_thing_X10_meets rfl (by decide +kernel) ⟨Nat.le_of_ble_eq_true rfl, Nat.le_of_ble_eq_true rfl⟩ hK hP hD hS [0, 1, 2] rfl rfl (by decide) (fun _ => rfl) (fun _ => rfl) 0 rfl rfl rfl hl.1 (by rw [show zI x1 = zI ((x1.toNat : Nat) : Int) from zc (by omega)]; rfl) (Nat.le_of_ble_eq_true rfl) dX10_thing_143 ⟨Nat.zero_le _, Nat.zero_le _⟩ (fun r_143 u_143 H locs h_143 hP hD hS => ?_)
        have hP : va_P D vwCl [(q0, .inr (10, [.ref qn, .ref qa, .ref qp, .int (zI ((de : Nat) : Int)), .ref qi, .ref qs, .ref qk, .long (zL sv), .ref qb, .int (zI ((bn : Nat) : Int)), .ref qt, .ref qh, .ref qe])), (qn, .inl (k.1, 132, .inl (zF f))), (qt, .inl (k.1, 24, .inl (zF u_143))), (qh, .inl (k.1, 12, .inl (zF hd))), (qe, .inl (k.1, 12, .inl (zF en)))] H := hP
        have hD : va_D A [(q0, .inr (10, [.ref qn, .ref qa, .ref qp, .int (zI ((de : Nat) : Int)), .ref qi, .ref qs, .ref qk, .long (zL sv), .ref qb, .int (zI ((bn : Nat) : Int)), .ref qt, .ref qh, .ref qe])), (qn, .inl (k.1, 132, .inl (zF f))), (qt, .inl (k.1, 24, .inl (zF u_143))), (qh, .inl (k.1, 12, .inl (zF hd))), (qe, .inl (k.1, 12, .inl (zF en)))] := hD
        obtain ⟨he_143, h_143⟩ := h_143
        subst he_143
        refine te (zc (show ((orS (fun q => tchN f q (mG f 1 q) x1.toNat) 24 : Nat) : Int) = ((orS (fun q => tchN f q (onS f q) x1.toNat) 24 : Nat) : Int) from congrArg Nat.cast (mG1 _ _ _))) ?_
        exact W.iret hx hb hr (fun t ht hW => ⟨⟨_, (u_143, hd, en), rfl, ⟨zc (by unfold vThing; rw [if_pos (by omega), hsw]; rfl), trivial⟩, by show va_P D vwCl _ _; rw [ht]; exact hP⟩, hS.F ht⟩) hS.2.2 dX10_thing_146
  · simp only [Bool.and_eq_false_iff, decide_eq_false_iff_not] at c_5
    refine lv_ldc hx hb hown (hts (.constant RX10 117 (-1000000001)) (by decide +kernel)) dX10_thing_8 ?_
    refine te (show (-1000000001 : Int32) = zI (-1000000001) from by decide +kernel) ?_
    exact W.iret hx hb hr (fun t ht hW => ⟨⟨_, (ts, hd, en), rfl, ⟨zc (by unfold vThing; rw [if_neg (by omega)]), trivial⟩, by show va_P D vwCl _ _; rw [ht]; exact hP⟩, hS.F ht⟩) hS.2.2 dX10_thing_10
set_option maxHeartbeats 4000000 in
set_option maxRecDepth 100000 in
theorem m_dot (l : Launch) (D : va_G) (k : Kt) (q0 : Nat) (qn : Nat) (qa : Nat) (qp : Nat) (qi : Nat) (qs : Nat) (qk : Nat) (qb : Nat) (qt : Nat) (qh : Nat) (qe : Nat) (de : Nat) (sv : Int) (bn : Nat) (f : St) (B : Int) (hV : Va B f) (hB : B < 1000000) (x1 : Int) (x2 : Int) (x3 : Int) (hx1 : -2147483648 ≤ x1 ∧ x1 < 2147483648) (hx2 : -2147483648 ≤ x2 ∧ x2 < 2147483648) (hx3 : -2147483648 ≤ x3 ∧ x3 < 2147483648) : RO l D k yX10_dot wsX10_dot 5 115 [.ref q0, .int (zI x1), .int (zI x2), .int (zI x3)] [(q0, .inr (10, [.ref qn, .ref qa, .ref qp, .int (zI ((de : Nat) : Int)), .ref qi, .ref qs, .ref qk, .long (zL sv), .ref qb, .int (zI ((bn : Nat) : Int)), .ref qt, .ref qh, .ref qe])), (qn, .inl (k.1, 132, .inl (zF f)))] (fun r => r = zI (vDot f x1 x2 x3)) := by
  refine Met.ofW (cc := cX10_dot) (maxL := 4) (ret := (some .int)) (by decide) rfl ?_
  intro p e s m args below meth c s₁ Bd hml hv
  obtain ⟨rfl, hP, hK⟩ := hv
  have hx := Bd.exec
  have hb := Bd.bytes
  have hr := Bd.returns
  have hts := atoms_spec (ws := wsX10_dot) Bd.pre
  have hown : s.vm.findClass RX10 = some m.cls := findClass_of_methodNamed Bd.named
  have hlocks := Bd.notSynchronized
  have hSf : CallFix p m c cX10_dot 4 s ([.ref q0, .int (zI x1), .int (zI x2), .int (zI x3)] : List Value).toArray wsX10_dot RX10 := ⟨hx, hb, hml, hown, hts⟩
  have hl := lv_entry ([.ref q0, .int (zI x1), .int (zI x2), .int (zI x3)]) (n := 4) (Nat.le_of_ble_eq_true rfl)
  rw [lg_entry_eq]
  generalize (lg_sl ([.ref q0, .int (zI x1), .int (zI x2), .int (zI x3)]) ++ List.replicate (4 - (lg_sl ([.ref q0, .int (zI x1), .int (zI x2), .int (zI x3)])).length) Slot.unset).toArray = ls at hl ⊢
  have hl : lv_has ls 4 [(0, .ref q0), (1, .int (zI x1)), (2, .int (zI x2)), (3, .int (zI x3))] := hl
  have hds := dN_lt hV x1.toNat
  have hos := onS_lt hV x1.toNat
  refine lv_iload_n hx hb dX10_dot_0 rfl (lv_at hl 1 rfl) ?_
  refine z_iconst hx hb dX10_dot_1 ?_
  refine z_bipush hx hb dX10_dot_2 (by decide +kernel) ?_
  refine roS (n := 3) (As := [.int (zI x1), .int (zI 0), .int (zI 23)]) (rest := []) hSf (m_in l D k x1 0 23 (by omega) (by omega) (by omega)) gX10_dot_X10_in rfl (by decide +kernel) ⟨Nat.le_of_ble_eq_true rfl, Nat.le_of_ble_eq_true rfl⟩ hK hP [] rfl rfl hl.1 rfl (Nat.le_of_ble_eq_true rfl) dX10_dot_4 ⟨Nat.zero_le _, Nat.zero_le _⟩ (fun r_4 h_4 => ?_)
  subst h_4
  refine z_if_eqb (tgt := 29) hx hb dX10_dot_7 (by decide) (fun c_7 => ?_) (fun c_7 => ?_)
  · simp only [Bool.and_eq_false_iff, decide_eq_false_iff_not] at c_7
    refine lv_ldc hx hb hown (hts (.constant RX10 112 (-1000000002)) (by decide +kernel)) dX10_dot_29 ?_
    refine te (show (-1000000002 : Int32) = zI (-1000000002) from by decide +kernel) ?_
    exact W.iret hx hb hr (fun t ht hW => ⟨_, rfl, zc (by unfold vDot; rw [if_neg (by omega)]), ht⟩) (fun q hq => by cases hq) dX10_dot_31
  · simp only [Bool.and_eq_true, decide_eq_true_eq] at c_7
    refine lv_iload_n hx hb dX10_dot_10 rfl (lv_at hl 2 rfl) ?_
    refine z_iconst hx hb dX10_dot_11 ?_
    refine z_bipush hx hb dX10_dot_12 (by decide +kernel) ?_
    refine roS (n := 3) (As := [.int (zI x2), .int (zI 0), .int (zI 31)]) (rest := []) hSf (m_in l D k x2 0 31 (by omega) (by omega) (by omega)) gX10_dot_X10_in rfl (by decide +kernel) ⟨Nat.le_of_ble_eq_true rfl, Nat.le_of_ble_eq_true rfl⟩ hK hP [] rfl rfl hl.1 rfl (Nat.le_of_ble_eq_true rfl) dX10_dot_14 ⟨Nat.zero_le _, Nat.zero_le _⟩ (fun r_14 h_14 => ?_)
    subst h_14
    refine z_if_eqb (tgt := 29) hx hb dX10_dot_17 (by decide) (fun c_17 => ?_) (fun c_17 => ?_)
    · simp only [Bool.and_eq_false_iff, decide_eq_false_iff_not] at c_17
      refine lv_ldc hx hb hown (hts (.constant RX10 112 (-1000000002)) (by decide +kernel)) dX10_dot_29 ?_
      refine te (show (-1000000002 : Int32) = zI (-1000000002) from by decide +kernel) ?_
      exact W.iret hx hb hr (fun t ht hW => ⟨_, rfl, zc (by unfold vDot; rw [if_neg (by omega)]), ht⟩) (fun q hq => by cases hq) dX10_dot_31
    · simp only [Bool.and_eq_true, decide_eq_true_eq] at c_17
      refine lv_iload_n hx hb dX10_dot_20 rfl (lv_at hl 3 rfl) ?_
      refine z_iconst hx hb dX10_dot_21 ?_
      refine z_iconst hx hb dX10_dot_22 ?_
      refine roS (n := 3) (As := [.int (zI x3), .int (zI 0), .int (zI 2)]) (rest := []) hSf (m_in l D k x3 0 2 (by omega) (by omega) (by omega)) gX10_dot_X10_in rfl (by decide +kernel) ⟨Nat.le_of_ble_eq_true rfl, Nat.le_of_ble_eq_true rfl⟩ hK hP [] rfl rfl hl.1 rfl (Nat.le_of_ble_eq_true rfl) dX10_dot_23 ⟨Nat.zero_le _, Nat.zero_le _⟩ (fun r_23 h_23 => ?_)
      subst h_23
      refine z_if_neb (tgt := 32) hx hb dX10_dot_26 (by decide) (fun c_26 => ?_) (fun c_26 => ?_)
      · simp only [Bool.and_eq_true, decide_eq_true_eq] at c_26
        refine lv_iload_n hx hb dX10_dot_32 rfl (lv_at hl 3 rfl) ?_
        refine z_iconst hx hb dX10_dot_33 ?_
        refine z_icmp_ne (tgt := 51) hx hb dX10_dot_34 (by decide) (by omega) (by omega) (fun c_34 => ?_) (fun c_34 => ?_)
        · refine lv_aload_n hx hb dX10_dot_51 rfl (lv_at hl 0 rfl) ?_
          refine lv_iload_n hx hb dX10_dot_52 rfl (lv_at hl 3 rfl) ?_
          refine z_if_ne (tgt := 64) hx hb dX10_dot_53 (by decide) (by omega) (fun c_53 => ?_) (fun c_53 => ?_)
          · refine lv_aload_n hx hb dX10_dot_64 rfl (lv_at hl 0 rfl) ?_
            refine lv_iload_n hx hb dX10_dot_65 rfl (lv_at hl 1 rfl) ?_
            refine roV (n := 1) (As := [.int (zI ((x1.toNat : Nat) : Int))]) (rest := [.ref q0]) hSf (m_onLine l D k q0 qn qa qp qi qs qk qb qt qh qe de sv bn f B hV hB x1.toNat (by omega)) gX10_dot_X10_onLine rfl (by decide +kernel) ⟨Nat.le_of_ble_eq_true rfl, Nat.le_of_ble_eq_true rfl⟩ hK hP [0, 1] rfl 0 rfl rfl rfl hl.1 (by rw [show zI x1 = zI ((x1.toNat : Nat) : Int) from zc (by omega)]; rfl) (Nat.le_of_ble_eq_true rfl) dX10_dot_66 ⟨Nat.zero_le _, Nat.zero_le _⟩ (fun r_66 h_66 => ?_)
            subst h_66
            refine lv_iload_n hx hb dX10_dot_69 rfl (lv_at hl 1 rfl) ?_
            refine lv_iload_n hx hb dX10_dot_70 rfl (lv_at hl 2 rfl) ?_
            refine roV (n := 3) (As := [.int (zI (((onS f x1.toNat) : Nat) : Int)), .int (zI ((x1.toNat : Nat) : Int)), .int (zI ((x2.toNat : Nat) : Int))]) (rest := []) hSf (m_colourAt l D k q0 qn qa qp qi qs qk qb qt qh qe de sv bn f B hV hB (onS f x1.toNat) x1.toNat x2.toNat (by omega) (by omega) (by omega)) gX10_dot_X10_colourAt rfl (by decide +kernel) ⟨Nat.le_of_ble_eq_true rfl, Nat.le_of_ble_eq_true rfl⟩ hK hP [0, 1] rfl 0 rfl rfl rfl hl.1 (by rw [show zI x1 = zI ((x1.toNat : Nat) : Int) from zc (by omega)]; rw [show zI x2 = zI ((x2.toNat : Nat) : Int) from zc (by omega)]; rfl) (Nat.le_of_ble_eq_true rfl) dX10_dot_71 ⟨Nat.zero_le _, Nat.zero_le _⟩ (fun r_71 h_71 => ?_)
            subst h_71
            exact W.iret hx hb hr (fun t ht hW => ⟨_, rfl, zc (by unfold vDot; rw [if_pos (by omega), if_neg (by omega), if_neg (by omega), if_pos (by omega)]), ht⟩) (fun q hq => by cases hq) dX10_dot_74
          · refine lv_aload_n hx hb dX10_dot_56 rfl (lv_at hl 0 rfl) ?_
            refine lv_iload_n hx hb dX10_dot_57 rfl (lv_at hl 1 rfl) ?_
            refine roV (n := 1) (As := [.int (zI ((x1.toNat : Nat) : Int))]) (rest := [.ref q0]) hSf (m_drawnOn l D k q0 qn qa qp qi qs qk qb qt qh qe de sv bn f B hV hB x1.toNat (by omega)) gX10_dot_X10_drawnOn rfl (by decide +kernel) ⟨Nat.le_of_ble_eq_true rfl, Nat.le_of_ble_eq_true rfl⟩ hK hP [0, 1] rfl 0 rfl rfl rfl hl.1 (by rw [show zI x1 = zI ((x1.toNat : Nat) : Int) from zc (by omega)]; rfl) (Nat.le_of_ble_eq_true rfl) dX10_dot_58 ⟨Nat.zero_le _, Nat.zero_le _⟩ (fun r_58 h_58 => ?_)
            subst h_58
            refine lv_goto (tgt := 69) hx hb dX10_dot_61 (by decide) ?_
            refine lv_iload_n hx hb dX10_dot_69 rfl (lv_at hl 1 rfl) ?_
            refine lv_iload_n hx hb dX10_dot_70 rfl (lv_at hl 2 rfl) ?_
            refine roV (n := 3) (As := [.int (zI (((dN f x1.toNat) : Nat) : Int)), .int (zI ((x1.toNat : Nat) : Int)), .int (zI ((x2.toNat : Nat) : Int))]) (rest := []) hSf (m_colourAt l D k q0 qn qa qp qi qs qk qb qt qh qe de sv bn f B hV hB (dN f x1.toNat) x1.toNat x2.toNat (by omega) (by omega) (by omega)) gX10_dot_X10_colourAt rfl (by decide +kernel) ⟨Nat.le_of_ble_eq_true rfl, Nat.le_of_ble_eq_true rfl⟩ hK hP [0, 1] rfl 0 rfl rfl rfl hl.1 (by rw [show zI x1 = zI ((x1.toNat : Nat) : Int) from zc (by omega)]; rw [show zI x2 = zI ((x2.toNat : Nat) : Int) from zc (by omega)]; rfl) (Nat.le_of_ble_eq_true rfl) dX10_dot_71 ⟨Nat.zero_le _, Nat.zero_le _⟩ (fun r_71 h_71 => ?_)
            subst h_71
            exact W.iret hx hb hr (fun t ht hW => ⟨_, rfl, zc (by unfold vDot; rw [if_pos (by omega), if_pos (by omega)]), ht⟩) (fun q hq => by cases hq) dX10_dot_74
        · refine lv_aload_n hx hb dX10_dot_37 rfl (lv_at hl 0 rfl) ?_
          refine lv_aload_n hx hb dX10_dot_38 rfl (lv_at hl 0 rfl) ?_
          refine lv_iload_n hx hb dX10_dot_39 rfl (lv_at hl 1 rfl) ?_
          refine roV (n := 1) (As := [.int (zI ((x1.toNat : Nat) : Int))]) (rest := [.ref q0]) hSf (m_drawnOn l D k q0 qn qa qp qi qs qk qb qt qh qe de sv bn f B hV hB x1.toNat (by omega)) gX10_dot_X10_drawnOn rfl (by decide +kernel) ⟨Nat.le_of_ble_eq_true rfl, Nat.le_of_ble_eq_true rfl⟩ hK hP [0, 1] rfl 0 rfl rfl rfl hl.1 (by rw [show zI x1 = zI ((x1.toNat : Nat) : Int) from zc (by omega)]; rfl) (Nat.le_of_ble_eq_true rfl) dX10_dot_40 ⟨Nat.zero_le _, Nat.zero_le _⟩ (fun r_40 h_40 => ?_)
          subst h_40
          refine lv_iload_n hx hb dX10_dot_43 rfl (lv_at hl 1 rfl) ?_
          refine lv_iload_n hx hb dX10_dot_44 rfl (lv_at hl 2 rfl) ?_
          refine roV (n := 3) (As := [.int (zI (((dN f x1.toNat) : Nat) : Int)), .int (zI ((x1.toNat : Nat) : Int)), .int (zI ((x2.toNat : Nat) : Int))]) (rest := []) hSf (m_seenAt l D k q0 qn qa qp qi qs qk qb qt qh qe de sv bn f B hV hB (dN f x1.toNat) x1.toNat x2.toNat (by omega) (by omega) (by omega)) gX10_dot_X10_seenAt rfl (by decide +kernel) ⟨Nat.le_of_ble_eq_true rfl, Nat.le_of_ble_eq_true rfl⟩ hK hP [0, 1] rfl 0 rfl rfl rfl hl.1 (by rw [show zI x1 = zI ((x1.toNat : Nat) : Int) from zc (by omega)]; rw [show zI x2 = zI ((x2.toNat : Nat) : Int) from zc (by omega)]; rfl) (Nat.le_of_ble_eq_true rfl) dX10_dot_45 ⟨Nat.zero_le _, Nat.zero_le _⟩ (fun r_45 h_45 => ?_)
          subst h_45
          refine lv_goto (tgt := 74) hx hb dX10_dot_48 (by decide) ?_
          exact W.iret hx hb hr (fun t ht hW => ⟨_, rfl, zc (by unfold vDot; rw [if_pos (by omega), if_neg (by omega), if_pos (by omega)]), ht⟩) (fun q hq => by cases hq) dX10_dot_74
      · simp only [Bool.and_eq_false_iff, decide_eq_false_iff_not] at c_26
        refine lv_ldc hx hb hown (hts (.constant RX10 112 (-1000000002)) (by decide +kernel)) dX10_dot_29 ?_
        refine te (show (-1000000002 : Int32) = zI (-1000000002) from by decide +kernel) ?_
        exact W.iret hx hb hr (fun t ht hW => ⟨_, rfl, zc (by unfold vDot; rw [if_pos (by omega), if_neg (by omega), if_neg (by omega), if_neg (by omega)]), ht⟩) (fun q hq => by cases hq) dX10_dot_31
set_option maxHeartbeats 4000000 in
set_option maxRecDepth 100000 in
theorem m_line (l : Launch) (D : va_G) (k : Kt) (q0 : Nat) (qn : Nat) (qa : Nat) (qp : Nat) (qi : Nat) (qs : Nat) (qk : Nat) (qb : Nat) (qt : Nat) (qh : Nat) (qe : Nat) (de : Nat) (sv : Int) (bn : Nat) (f : St) (B : Int) (hV : Va B f) (hB : B < 1000000) (x1 : Int) (x2 : Int) (hx1 : -2147483648 ≤ x1 ∧ x1 < 2147483648) (hx2 : -2147483648 ≤ x2 ∧ x2 < 2147483648) : ML l D k yX10_line wsX10_line 5 115 [.ref q0, .int (zI x1), .int (zI x2)] [(q0, .inr (10, [.ref qn, .ref qa, .ref qp, .int (zI ((de : Nat) : Int)), .ref qi, .ref qs, .ref qk, .long (zL sv), .ref qb, .int (zI ((bn : Nat) : Int)), .ref qt, .ref qh, .ref qe])), (qn, .inl (k.1, 132, .inl (zF f)))] (fun (r : Int64) (u : Unit) => r = zL (vLine f x1 x2) ∧ True) (fun u => [(q0, .inr (10, [.ref qn, .ref qa, .ref qp, .int (zI ((de : Nat) : Int)), .ref qi, .ref qs, .ref qk, .long (zL sv), .ref qb, .int (zI ((bn : Nat) : Int)), .ref qt, .ref qh, .ref qe])), (qn, .inl (k.1, 132, .inl (zF f)))]) := by
  refine Met.ofW (cc := cX10_line) (maxL := 7) (ret := (some .long)) (by decide) rfl ?_
  intro p e s m args below meth c s₁ Bd hml hv
  obtain ⟨rfl, hP, hK, hD0⟩ := hv
  have hx := Bd.exec
  have hb := Bd.bytes
  have hr := Bd.returns
  have hts := atoms_spec (ws := wsX10_line) Bd.pre
  have hown : s.vm.findClass RX10 = some m.cls := findClass_of_methodNamed Bd.named
  have hlocks := Bd.notSynchronized
  have hSf : CallFix p m c cX10_line 7 s ([.ref q0, .int (zI x1), .int (zI x2)] : List Value).toArray wsX10_line RX10 := ⟨hx, hb, hml, hown, hts⟩
  have hD := fA_D hD0
  have hS : va_S (fA [(q0, .inr (10, [.ref qn, .ref qa, .ref qp, .int (zI ((de : Nat) : Int)), .ref qi, .ref qs, .ref qk, .long (zL sv), .ref qb, .int (zI ((bn : Nat) : Int)), .ref qt, .ref qh, .ref qe])), (qn, .inl (k.1, 132, .inl (zF f)))]) s.heap s.heap [] := va_S.rf
  generalize hAe : fA [(q0, .inr (10, [.ref qn, .ref qa, .ref qp, .int (zI ((de : Nat) : Int)), .ref qi, .ref qs, .ref qk, .long (zL sv), .ref qb, .int (zI ((bn : Nat) : Int)), .ref qt, .ref qh, .ref qe])), (qn, .inl (k.1, 132, .inl (zF f)))] = A at hD hS ⊢
  have hP : va_P D vwCl [(q0, .inr (10, [.ref qn, .ref qa, .ref qp, .int (zI ((de : Nat) : Int)), .ref qi, .ref qs, .ref qk, .long (zL sv), .ref qb, .int (zI ((bn : Nat) : Int)), .ref qt, .ref qh, .ref qe])), (qn, .inl (k.1, 132, .inl (zF f)))] s.heap := hP
  have hl := lv_entry ([.ref q0, .int (zI x1), .int (zI x2)]) (n := 7) (Nat.le_of_ble_eq_true rfl)
  rw [lg_entry_eq]
  generalize (lg_sl ([.ref q0, .int (zI x1), .int (zI x2)]) ++ List.replicate (7 - (lg_sl ([.ref q0, .int (zI x1), .int (zI x2)])).length) Slot.unset).toArray = ls at hl ⊢
  have hl : lv_has ls 7 [(0, .ref q0), (1, .int (zI x1)), (2, .int (zI x2))] := hl
  have hds := dN_lt hV x1.toNat
  refine lv_iload_n hx hb dX10_line_0 rfl (lv_at hl 1 rfl) ?_
  refine z_iconst hx hb dX10_line_1 ?_
  refine z_bipush hx hb dX10_line_2 (by decide +kernel) ?_
  refine roS (n := 3) (As := [.int (zI x1), .int (zI 0), .int (zI 23)]) (rest := []) hSf (m_in l D k x1 0 23 (by omega) (by omega) (by omega)) gX10_line_X10_in rfl (by decide +kernel) ⟨Nat.le_of_ble_eq_true rfl, Nat.le_of_ble_eq_true rfl⟩ hK hP [] rfl rfl hl.1 rfl (Nat.le_of_ble_eq_true rfl) dX10_line_4 ⟨Nat.zero_le _, Nat.zero_le _⟩ (fun r_4 h_4 => ?_)
  subst h_4
  refine z_if_eqb (tgt := 19) hx hb dX10_line_7 (by decide) (fun c_7 => ?_) (fun c_7 => ?_)
  · simp only [Bool.and_eq_false_iff, decide_eq_false_iff_not] at c_7
    refine lv_ldc2 hx hb hown (hts (.constantLong RX10 128 (-1)) (by decide +kernel)) dX10_line_19 ?_
    refine tel (show (-1 : Int64) = zL (-1) from by decide +kernel) ?_
    exact W.lret hx hb hr (fun t ht hW => ⟨⟨_, (), rfl, ⟨zcl (by unfold vLine; rw [if_neg (by omega)]), trivial⟩, by show va_P D vwCl _ _; rw [ht]; exact hP⟩, hS.F ht⟩) hS.2.2 dX10_line_22
  · simp only [Bool.and_eq_true, decide_eq_true_eq] at c_7
    refine lv_iload_n hx hb dX10_line_10 rfl (lv_at hl 2 rfl) ?_
    refine z_iconst hx hb dX10_line_11 ?_
    refine z_iconst hx hb dX10_line_12 ?_
    refine roS (n := 3) (As := [.int (zI x2), .int (zI 0), .int (zI 3)]) (rest := []) hSf (m_in l D k x2 0 3 (by omega) (by omega) (by omega)) gX10_line_X10_in rfl (by decide +kernel) ⟨Nat.le_of_ble_eq_true rfl, Nat.le_of_ble_eq_true rfl⟩ hK hP [] rfl rfl hl.1 rfl (Nat.le_of_ble_eq_true rfl) dX10_line_13 ⟨Nat.zero_le _, Nat.zero_le _⟩ (fun r_13 h_13 => ?_)
    subst h_13
    refine z_if_neb (tgt := 23) hx hb dX10_line_16 (by decide) (fun c_16 => ?_) (fun c_16 => ?_)
    · simp only [Bool.and_eq_true, decide_eq_true_eq] at c_16
      refine lv_aload_n hx hb dX10_line_23 rfl (lv_at hl 0 rfl) ?_
      refine lv_iload_n hx hb dX10_line_24 rfl (lv_at hl 1 rfl) ?_
      refine roV (n := 1) (As := [.int (zI ((x1.toNat : Nat) : Int))]) (rest := []) hSf (m_drawnOn l D k q0 qn qa qp qi qs qk qb qt qh qe de sv bn f B hV hB x1.toNat (by omega)) gX10_line_X10_drawnOn rfl (by decide +kernel) ⟨Nat.le_of_ble_eq_true rfl, Nat.le_of_ble_eq_true rfl⟩ hK hP [0, 1] rfl 0 rfl rfl rfl hl.1 (by rw [show zI x1 = zI ((x1.toNat : Nat) : Int) from zc (by omega)]; rfl) (Nat.le_of_ble_eq_true rfl) dX10_line_25 ⟨Nat.zero_le _, Nat.zero_le _⟩ (fun r_25 h_25 => ?_)
      subst h_25
      refine lv_istore_n (lv' := [(3, .int (zI ((dN f x1.toNat : Nat) : Int))), (0, .ref q0), (1, .int (zI x1)), (2, .int (zI x2))]) hx hb dX10_line_28 rfl hl (by decide) rfl (fun ls hl => ?_)
      refine lv_lconst (v := zL 0) hx hb dX10_line_29 (by decide +kernel) ?_
      refine lv_lstore (lv' := [(4, .long (zL 0)), (3, .int (zI ((dN f x1.toNat : Nat) : Int))), (0, .ref q0), (1, .int (zI x1)), (2, .int (zI x2))]) hx hb dX10_line_30 hl (by decide) rfl (fun ls hl => ?_)
      refine z_bipush hx hb dX10_line_32 (by decide +kernel) ?_
      refine lv_iload_n hx hb dX10_line_34 rfl (lv_at hl 4 rfl) ?_
      refine z_imul hx hb dX10_line_35 ?_
      refine lv_istore (lv' := [(6, .int (zI (8 * x2))), (4, .long (zL 0)), (3, .int (zI ((dN f x1.toNat : Nat) : Int))), (0, .ref q0), (1, .int (zI x1)), (2, .int (zI x2))]) hx hb dX10_line_36 hl (by decide) rfl (fun ls hl => ?_)
      have L38 : ∀ (NN38 : Nat), ∀ (jj : Nat), (jj ≤ 8) → 8 - jj < NN38 → ∀ (H : Heap) (locs : List Loc), va_P D vwCl [(q0, .inr (10, [.ref qn, .ref qa, .ref qp, .int (zI ((de : Nat) : Int)), .ref qi, .ref qs, .ref qk, .long (zL sv), .ref qb, .int (zI ((bn : Nat) : Int)), .ref qt, .ref qh, .ref qe])), (qn, .inl (k.1, 132, .inl (zF f)))] H → va_D A [(q0, .inr (10, [.ref qn, .ref qa, .ref qp, .int (zI ((de : Nat) : Int)), .ref qi, .ref qs, .ref qk, .long (zL sv), .ref qb, .int (zI ((bn : Nat) : Int)), .ref qt, .ref qh, .ref qe])), (qn, .inl (k.1, 132, .inl (zF f)))] → va_S A s.heap H locs → ∀ (ls : Array Slot), lv_has ls 7 [(0, .ref q0), (1, .int (zI x1)), (2, .int (zI x2)), (3, .int (zI ((dN f x1.toNat : Nat) : Int))), (4, .long (zL (liN f x1.toNat x2.toNat jj))), (6, .int (zI (8 * x2 + ((jj : Nat) : Int))))] → W p l e (headSpec wsX10_line { frames := 5, cells := 0, slots := 0, locals := 115 }).room s m ([.ref q0, .int (zI x1), .int (zI x2)] : List Value).toArray below meth c H locs 0 0 (MQ below (va_Ql (fun (r : Int64) (u : Unit) => r = zL (vLine f x1 x2) ∧ True) (fun (u : Unit) t => va_P D vwCl [(q0, .inr (10, [.ref qn, .ref qa, .ref qp, .int (zI ((de : Nat) : Int)), .ref qi, .ref qs, .ref qk, .long (zL sv), .ref qb, .int (zI ((bn : Nat) : Int)), .ref qt, .ref qh, .ref qe])), (qn, .inl (k.1, 132, .inl (zF f)))] t.heap) A) ([.ref q0, .int (zI x1), .int (zI x2)] : List Value).toArray s 0 0 A) (F0 m 38 ls []) := by
        intro NN38
        induction NN38 with
        | zero => intro jj _ hN; exact absurd hN (Nat.not_lt_zero _)
        | succ NN38 ih38 =>
          intro jj hjj hN H locs hP hD hS ls hl
          refine lv_iload hx hb dX10_line_38 (lv_at hl 5 rfl) ?_
          refine z_bipush hx hb dX10_line_40 (by decide +kernel) ?_
          refine lv_iload_n hx hb dX10_line_42 rfl (lv_at hl 2 rfl) ?_
          refine z_imul hx hb dX10_line_43 ?_
          refine z_bipush hx hb dX10_line_44 (by decide +kernel) ?_
          refine z_iadd hx hb dX10_line_46 ?_
          refine z_icmp_ge (tgt := 74) hx hb dX10_line_47 (by decide) (by omega) (by omega) (fun c_47 => ?_) (fun c_47 => ?_)
          · have hj8 : jj = 8 := by omega
            refine lv_lload hx hb dX10_line_74 (lv_at hl 4 rfl) ?_
            exact W.lret hx hb hr (fun t ht hW => ⟨⟨_, (), rfl, ⟨zcl (by unfold vLine; rw [if_pos (by omega), hj8]), trivial⟩, by show va_P D vwCl _ _; rw [ht]; exact hP⟩, hS.F ht⟩) hS.2.2 dX10_line_76
          · have hcr := colA_rg hV (dN f x1.toNat) x1.toNat (8 * x2.toNat + jj)
            refine lv_ldc2 hx hb hown (hts (.constantLong RX10 130 (8)) (by decide +kernel)) dX10_line_50 ?_
            refine tel (show (8 : Int64) = zL (8) from by decide +kernel) ?_
            refine lv_lload hx hb dX10_line_53 (lv_at hl 4 rfl) ?_
            refine lv_lmul hx hb dX10_line_55 (tel (zL_mul _ _) ?_)
            refine lv_aload_n hx hb dX10_line_56 rfl (lv_at hl 0 rfl) ?_
            refine lv_iload_n hx hb dX10_line_57 rfl (lv_at hl 3 rfl) ?_
            refine lv_iload_n hx hb dX10_line_58 rfl (lv_at hl 1 rfl) ?_
            refine lv_iload hx hb dX10_line_59 (lv_at hl 5 rfl) ?_
            refine roV (n := 3) (As := [.int (zI (((dN f x1.toNat) : Nat) : Int)), .int (zI ((x1.toNat : Nat) : Int)), .int (zI (((8 * x2.toNat + jj) : Nat) : Int))]) (rest := [.long (zL (8 * (liN f x1.toNat x2.toNat jj)))]) hSf (m_colourAt l D k q0 qn qa qp qi qs qk qb qt qh qe de sv bn f B hV hB (dN f x1.toNat) x1.toNat (8 * x2.toNat + jj) (by omega) (by omega) (by omega)) gX10_line_X10_colourAt rfl (by decide +kernel) ⟨Nat.le_of_ble_eq_true rfl, Nat.le_of_ble_eq_true rfl⟩ hK hP [0, 1] rfl 0 rfl rfl rfl hl.1 (by rw [show zI x1 = zI ((x1.toNat : Nat) : Int) from zc (by omega)]; rw [show zI (8 * x2 + ((jj : Nat) : Int)) = zI (((8 * x2.toNat + jj) : Nat) : Int) from zc (by omega)]; rfl) (Nat.le_of_ble_eq_true rfl) dX10_line_61 ⟨Nat.zero_le _, Nat.zero_le _⟩ (fun r_61 h_61 => ?_)
            subst h_61
            refine lv_i2l (v := zL (colA f (dN f x1.toNat) x1.toNat (8 * x2.toNat + jj))) hx hb dX10_line_64 (zI_l (by omega)) ?_
            refine lv_ladd hx hb dX10_line_65 (tel (zL_add _ _) ?_)
            refine tel (zcl (show (8 * (liN f x1.toNat x2.toNat jj)) + (colA f (dN f x1.toNat) x1.toNat (8 * x2.toNat + jj)) = liN f x1.toNat x2.toNat (jj + 1) from by rw [liN]; omega)) ?_
            refine lv_lstore (lv' := [(4, .long (zL (liN f x1.toNat x2.toNat (jj + 1)))), (0, .ref q0), (1, .int (zI x1)), (2, .int (zI x2)), (3, .int (zI ((dN f x1.toNat : Nat) : Int))), (6, .int (zI (8 * x2 + ((jj : Nat) : Int))))]) hx hb dX10_line_66 hl (by decide) rfl (fun ls hl => ?_)
            refine lv_iinc (v := zI ((8 * x2 + ((jj : Nat) : Int)) + 1)) (lv' := [(6, .int (zI ((8 * x2 + ((jj : Nat) : Int)) + 1))), (4, .long (zL (liN f x1.toNat x2.toNat (jj + 1)))), (0, .ref q0), (1, .int (zI x1)), (2, .int (zI x2)), (3, .int (zI ((dN f x1.toNat : Nat) : Int)))]) hx hb dX10_line_68 hl (k := 5) rfl (zI_add _ _) (by decide) rfl (fun ls hl => ?_)
            refine lv_goto (tgt := 38) hx hb dX10_line_71 (by decide) ?_
            have hl : lv_has ls 7 [(6, .int (zI (8 * x2 + (((jj + 1) : Nat) : Int)))), (4, .long (zL (liN f x1.toNat x2.toNat (jj + 1)))), (0, .ref q0), (1, .int (zI x1)), (2, .int (zI x2)), (3, .int (zI ((dN f x1.toNat : Nat) : Int)))] := lv_c (l1 := []) (l2 := [(4, .long (zL (liN f x1.toNat x2.toNat (jj + 1)))), (0, .ref q0), (1, .int (zI x1)), (2, .int (zI x2)), (3, .int (zI ((dN f x1.toNat : Nat) : Int)))]) hl (show (8 * x2 + ((jj : Nat) : Int)) + 1 = 8 * x2 + (((jj + 1) : Nat) : Int) from by omega)
            exact ih38 (jj + 1) (by omega) (by omega) _ _ hP hD hS ls (lv_sub hl [2, 3, 4, 5, 1, 0] rfl)
      have hl : lv_has ls 7 [(6, .int (zI (8 * x2 + ((0 : Nat) : Int)))), (4, .long (zL 0)), (3, .int (zI ((dN f x1.toNat : Nat) : Int))), (0, .ref q0), (1, .int (zI x1)), (2, .int (zI x2))] := lv_c (l1 := []) (l2 := [(4, .long (zL 0)), (3, .int (zI ((dN f x1.toNat : Nat) : Int))), (0, .ref q0), (1, .int (zI x1)), (2, .int (zI x2))]) hl (show 8 * x2 = 8 * x2 + ((0 : Nat) : Int) from by omega)
      exact L38 _ 0 (by decide) (Nat.lt_succ_self _) _ _ hP hD hS ls (lv_sub hl [3, 4, 5, 2, 1, 0] rfl)
    · simp only [Bool.and_eq_false_iff, decide_eq_false_iff_not] at c_16
      refine lv_ldc2 hx hb hown (hts (.constantLong RX10 128 (-1)) (by decide +kernel)) dX10_line_19 ?_
      refine tel (show (-1 : Int64) = zL (-1) from by decide +kernel) ?_
      exact W.lret hx hb hr (fun t ht hW => ⟨⟨_, (), rfl, ⟨zcl (by unfold vLine; rw [if_neg (by omega)]), trivial⟩, by show va_P D vwCl _ _; rw [ht]; exact hP⟩, hS.F ht⟩) hS.2.2 dX10_line_22
set_option maxHeartbeats 4000000 in
set_option maxRecDepth 100000 in
theorem m_drawn (l : Launch) (D : va_G) (k : Kt) (q0 : Nat) (qn : Nat) (qa : Nat) (qp : Nat) (qi : Nat) (qs : Nat) (qk : Nat) (qb : Nat) (qt : Nat) (qh : Nat) (qe : Nat) (de : Nat) (sv : Int) (bn : Nat) (f : St) (B : Int) (hV : Va B f) (hB : B < 1000000) (x1 : Int) (x2 : Int) (hx1 : -2147483648 ≤ x1 ∧ x1 < 2147483648) (hx2 : -2147483648 ≤ x2 ∧ x2 < 2147483648) : RO l D k yX10_drawn wsX10_drawn 5 115 [.ref q0, .int (zI x1), .int (zI x2)] [(q0, .inr (10, [.ref qn, .ref qa, .ref qp, .int (zI ((de : Nat) : Int)), .ref qi, .ref qs, .ref qk, .long (zL sv), .ref qb, .int (zI ((bn : Nat) : Int)), .ref qt, .ref qh, .ref qe])), (qn, .inl (k.1, 132, .inl (zF f)))] (fun r => r = zI (vDrawn f x1 x2)) := by
  refine Met.ofW (cc := cX10_drawn) (maxL := 3) (ret := (some .int)) (by decide) rfl ?_
  intro p e s m args below meth c s₁ Bd hml hv
  obtain ⟨rfl, hP, hK⟩ := hv
  have hx := Bd.exec
  have hb := Bd.bytes
  have hr := Bd.returns
  have hts := atoms_spec (ws := wsX10_drawn) Bd.pre
  have hown : s.vm.findClass RX10 = some m.cls := findClass_of_methodNamed Bd.named
  have hlocks := Bd.notSynchronized
  have hSf : CallFix p m c cX10_drawn 3 s ([.ref q0, .int (zI x1), .int (zI x2)] : List Value).toArray wsX10_drawn RX10 := ⟨hx, hb, hml, hown, hts⟩
  have hl := lv_entry ([.ref q0, .int (zI x1), .int (zI x2)]) (n := 3) (Nat.le_of_ble_eq_true rfl)
  rw [lg_entry_eq]
  generalize (lg_sl ([.ref q0, .int (zI x1), .int (zI x2)]) ++ List.replicate (3 - (lg_sl ([.ref q0, .int (zI x1), .int (zI x2)])).length) Slot.unset).toArray = ls at hl ⊢
  have hl : lv_has ls 3 [(0, .ref q0), (1, .int (zI x1)), (2, .int (zI x2))] := hl
  refine lv_iload_n hx hb dX10_drawn_0 rfl (lv_at hl 1 rfl) ?_
  refine z_iconst hx hb dX10_drawn_1 ?_
  refine z_bipush hx hb dX10_drawn_2 (by decide +kernel) ?_
  refine roS (n := 3) (As := [.int (zI x1), .int (zI 0), .int (zI 23)]) (rest := []) hSf (m_in l D k x1 0 23 (by omega) (by omega) (by omega)) gX10_drawn_X10_in rfl (by decide +kernel) ⟨Nat.le_of_ble_eq_true rfl, Nat.le_of_ble_eq_true rfl⟩ hK hP [] rfl rfl hl.1 rfl (Nat.le_of_ble_eq_true rfl) dX10_drawn_4 ⟨Nat.zero_le _, Nat.zero_le _⟩ (fun r_4 h_4 => ?_)
  subst h_4
  refine z_if_eqb (tgt := 19) hx hb dX10_drawn_7 (by decide) (fun c_7 => ?_) (fun c_7 => ?_)
  · simp only [Bool.and_eq_false_iff, decide_eq_false_iff_not] at c_7
    refine lv_ldc hx hb hown (hts (.constant RX10 112 (-1000000002)) (by decide +kernel)) dX10_drawn_19 ?_
    refine te (show (-1000000002 : Int32) = zI (-1000000002) from by decide +kernel) ?_
    exact W.iret hx hb hr (fun t ht hW => ⟨_, rfl, zc (by unfold vDrawn; rw [if_neg (by omega)]), ht⟩) (fun q hq => by cases hq) dX10_drawn_21
  · simp only [Bool.and_eq_true, decide_eq_true_eq] at c_7
    refine lv_iload_n hx hb dX10_drawn_10 rfl (lv_at hl 2 rfl) ?_
    refine z_iconst hx hb dX10_drawn_11 ?_
    refine z_iconst hx hb dX10_drawn_12 ?_
    refine roS (n := 3) (As := [.int (zI x2), .int (zI 0), .int (zI 1)]) (rest := []) hSf (m_in l D k x2 0 1 (by omega) (by omega) (by omega)) gX10_drawn_X10_in rfl (by decide +kernel) ⟨Nat.le_of_ble_eq_true rfl, Nat.le_of_ble_eq_true rfl⟩ hK hP [] rfl rfl hl.1 rfl (Nat.le_of_ble_eq_true rfl) dX10_drawn_13 ⟨Nat.zero_le _, Nat.zero_le _⟩ (fun r_13 h_13 => ?_)
    subst h_13
    refine z_if_neb (tgt := 22) hx hb dX10_drawn_16 (by decide) (fun c_16 => ?_) (fun c_16 => ?_)
    · simp only [Bool.and_eq_true, decide_eq_true_eq] at c_16
      refine lv_iload_n hx hb dX10_drawn_22 rfl (lv_at hl 2 rfl) ?_
      refine z_if_ne (tgt := 34) hx hb dX10_drawn_23 (by decide) (by omega) (fun c_23 => ?_) (fun c_23 => ?_)
      · refine lv_aload_n hx hb dX10_drawn_34 rfl (lv_at hl 0 rfl) ?_
        refine lv_iload_n hx hb dX10_drawn_35 rfl (lv_at hl 1 rfl) ?_
        refine roV (n := 1) (As := [.int (zI ((x1.toNat : Nat) : Int))]) (rest := []) hSf (m_onLine l D k q0 qn qa qp qi qs qk qb qt qh qe de sv bn f B hV hB x1.toNat (by omega)) gX10_drawn_X10_onLine rfl (by decide +kernel) ⟨Nat.le_of_ble_eq_true rfl, Nat.le_of_ble_eq_true rfl⟩ hK hP [0, 1] rfl 0 rfl rfl rfl hl.1 (by rw [show zI x1 = zI ((x1.toNat : Nat) : Int) from zc (by omega)]; rfl) (Nat.le_of_ble_eq_true rfl) dX10_drawn_36 ⟨Nat.zero_le _, Nat.zero_le _⟩ (fun r_36 h_36 => ?_)
        subst h_36
        refine lv_aload_n hx hb dX10_drawn_39 rfl (lv_at hl 0 rfl) ?_
        refine lv_iload_n hx hb dX10_drawn_40 rfl (lv_at hl 1 rfl) ?_
        refine roV (n := 1) (As := [.int (zI ((x1.toNat : Nat) : Int))]) (rest := [.int (zI ((onS f x1.toNat : Nat) : Int))]) hSf (m_drawnOn l D k q0 qn qa qp qi qs qk qb qt qh qe de sv bn f B hV hB x1.toNat (by omega)) gX10_drawn_X10_drawnOn rfl (by decide +kernel) ⟨Nat.le_of_ble_eq_true rfl, Nat.le_of_ble_eq_true rfl⟩ hK hP [0, 1] rfl 0 rfl rfl rfl hl.1 (by rw [show zI x1 = zI ((x1.toNat : Nat) : Int) from zc (by omega)]; rfl) (Nat.le_of_ble_eq_true rfl) dX10_drawn_41 ⟨Nat.zero_le _, Nat.zero_le _⟩ (fun r_41 h_41 => ?_)
        subst h_41
        refine z_iconst hx hb dX10_drawn_44 ?_
        refine z_not hx hb dX10_drawn_45 (dN f x1.toNat) (by omega) (Nat.lt_trans (dN_lt hV x1.toNat) (by decide)) ?_
        refine z_iand hx hb dX10_drawn_46 (onS f x1.toNat) (2 ^ 32 - ((dN f x1.toNat) + 1)) (by omega) (by omega) ?_
        exact W.iret hx hb hr (fun t ht hW => ⟨_, rfl, zc (by unfold vDrawn; rw [if_pos (by omega), if_neg (by omega)]), ht⟩) (fun q hq => by cases hq) dX10_drawn_47
      · refine lv_aload_n hx hb dX10_drawn_26 rfl (lv_at hl 0 rfl) ?_
        refine lv_iload_n hx hb dX10_drawn_27 rfl (lv_at hl 1 rfl) ?_
        refine roV (n := 1) (As := [.int (zI ((x1.toNat : Nat) : Int))]) (rest := []) hSf (m_drawnOn l D k q0 qn qa qp qi qs qk qb qt qh qe de sv bn f B hV hB x1.toNat (by omega)) gX10_drawn_X10_drawnOn rfl (by decide +kernel) ⟨Nat.le_of_ble_eq_true rfl, Nat.le_of_ble_eq_true rfl⟩ hK hP [0, 1] rfl 0 rfl rfl rfl hl.1 (by rw [show zI x1 = zI ((x1.toNat : Nat) : Int) from zc (by omega)]; rfl) (Nat.le_of_ble_eq_true rfl) dX10_drawn_28 ⟨Nat.zero_le _, Nat.zero_le _⟩ (fun r_28 h_28 => ?_)
        subst h_28
        refine lv_goto (tgt := 47) hx hb dX10_drawn_31 (by decide) ?_
        exact W.iret hx hb hr (fun t ht hW => ⟨_, rfl, zc (by unfold vDrawn; rw [if_pos (by omega), if_pos (by omega)]), ht⟩) (fun q hq => by cases hq) dX10_drawn_47
    · simp only [Bool.and_eq_false_iff, decide_eq_false_iff_not] at c_16
      refine lv_ldc hx hb hown (hts (.constant RX10 112 (-1000000002)) (by decide +kernel)) dX10_drawn_19 ?_
      refine te (show (-1000000002 : Int32) = zI (-1000000002) from by decide +kernel) ?_
      exact W.iret hx hb hr (fun t ht hW => ⟨_, rfl, zc (by unfold vDrawn; rw [if_neg (by omega)]), ht⟩) (fun q hq => by cases hq) dX10_drawn_21
set_option maxHeartbeats 4000000 in
set_option maxRecDepth 100000 in
theorem m_pictureRow (l : Launch) (D : va_G) (k : Kt) (q0 : Nat) (qn : Nat) (qa : Nat) (qp : Nat) (qi : Nat) (qs : Nat) (qk : Nat) (qb : Nat) (qt : Nat) (qh : Nat) (qe : Nat) (de : Nat) (sv : Int) (bn : Nat) (f : St) (B : Int) (hV : Va B f) (hB : B < 1000000) (x1 : Int) (x2 : Int) (hx1 : -2147483648 ≤ x1 ∧ x1 < 2147483648) (hx2 : -2147483648 ≤ x2 ∧ x2 < 2147483648) : RO l D k yX10_pictureRow wsX10_pictureRow 1 22 [.ref q0, .int (zI x1), .int (zI x2)] [(q0, .inr (10, [.ref qn, .ref qa, .ref qp, .int (zI ((de : Nat) : Int)), .ref qi, .ref qs, .ref qk, .long (zL sv), .ref qb, .int (zI ((bn : Nat) : Int)), .ref qt, .ref qh, .ref qe])), (qn, .inl (k.1, 132, .inl (zF f)))] (fun r => r = zI (vPic f x1 x2)) := by
  refine Met.ofW (cc := cX10_pictureRow) (maxL := 3) (ret := (some .int)) (by decide) rfl ?_
  intro p e s m args below meth c s₁ Bd hml hv
  obtain ⟨rfl, hP, hK⟩ := hv
  have hx := Bd.exec
  have hb := Bd.bytes
  have hr := Bd.returns
  have hts := atoms_spec (ws := wsX10_pictureRow) Bd.pre
  have hown : s.vm.findClass RX10 = some m.cls := findClass_of_methodNamed Bd.named
  have hlocks := Bd.notSynchronized
  have hSf : CallFix p m c cX10_pictureRow 3 s ([.ref q0, .int (zI x1), .int (zI x2)] : List Value).toArray wsX10_pictureRow RX10 := ⟨hx, hb, hml, hown, hts⟩
  have hinX10 : ∀ w ∈ u_ws RX10 TX10 13, w ∈ wsX10_pictureRow := by decide +kernel
  have fl7 := hts (.fieldLink RX10 7 "DotObjectsModel" "now" "[I") (by decide +kernel)
  have hl := lv_entry ([.ref q0, .int (zI x1), .int (zI x2)]) (n := 3) (Nat.le_of_ble_eq_true rfl)
  rw [lg_entry_eq]
  generalize (lg_sl ([.ref q0, .int (zI x1), .int (zI x2)]) ++ List.replicate (3 - (lg_sl ([.ref q0, .int (zI x1), .int (zI x2)])).length) Slot.unset).toArray = ls at hl ⊢
  have hl : lv_has ls 3 [(0, .ref q0), (1, .int (zI x1)), (2, .int (zI x2))] := hl
  refine lv_iload_n hx hb dX10_pictureRow_0 rfl (lv_at hl 1 rfl) ?_
  refine z_iconst hx hb dX10_pictureRow_1 ?_
  refine z_iconst hx hb dX10_pictureRow_2 ?_
  refine roS (n := 3) (As := [.int (zI x1), .int (zI 0), .int (zI 3)]) (rest := []) hSf (m_in l D k x1 0 3 (by omega) (by omega) (by omega)) gX10_pictureRow_X10_in rfl (by decide +kernel) ⟨Nat.le_of_ble_eq_true rfl, Nat.le_of_ble_eq_true rfl⟩ hK hP [] rfl rfl hl.1 rfl (Nat.le_of_ble_eq_true rfl) dX10_pictureRow_3 ⟨Nat.zero_le _, Nat.zero_le _⟩ (fun r_3 h_3 => ?_)
  subst h_3
  refine z_if_neb (tgt := 14) hx hb dX10_pictureRow_6 (by decide) (fun c_6 => ?_) (fun c_6 => ?_)
  · simp only [Bool.and_eq_true, decide_eq_true_eq] at c_6
    refine lv_iload_n hx hb dX10_pictureRow_14 rfl (lv_at hl 2 rfl) ?_
    refine z_iconst hx hb dX10_pictureRow_15 ?_
    refine z_bipush hx hb dX10_pictureRow_16 (by decide +kernel) ?_
    refine roS (n := 3) (As := [.int (zI x2), .int (zI 0), .int (zI 7)]) (rest := []) hSf (m_in l D k x2 0 7 (by omega) (by omega) (by omega)) gX10_pictureRow_X10_in rfl (by decide +kernel) ⟨Nat.le_of_ble_eq_true rfl, Nat.le_of_ble_eq_true rfl⟩ hK hP [] rfl rfl hl.1 rfl (Nat.le_of_ble_eq_true rfl) dX10_pictureRow_18 ⟨Nat.zero_le _, Nat.zero_le _⟩ (fun r_18 h_18 => ?_)
    subst h_18
    refine z_if_eqb (tgt := 40) hx hb dX10_pictureRow_21 (by decide) (fun c_21 => ?_) (fun c_21 => ?_)
    · simp only [Bool.and_eq_false_iff, decide_eq_false_iff_not] at c_21
      refine lv_ldc hx hb hown (hts (.constant RX10 112 (-1000000002)) (by decide +kernel)) dX10_pictureRow_40 ?_
      refine te (show (-1000000002 : Int32) = zI (-1000000002) from by decide +kernel) ?_
      exact W.iret hx hb hr (fun t ht hW => ⟨_, rfl, zc (by unfold vPic; rw [if_pos (by omega), if_neg (by omega)]), ht⟩) (fun q hq => by cases hq) dX10_pictureRow_42
    · simp only [Bool.and_eq_true, decide_eq_true_eq] at c_21
      refine lv_aload_n hx hb dX10_pictureRow_24 rfl (lv_at hl 0 rfl) ?_
      refine va_get (D := D) (ci := 10) (v := .ref qn) (C := RX10) (T := TX10) (N := 13) hx hb hts hinX10 hown hK.1 hP 0 rfl rfl 0 (by decide) fl7 (fun _ h9 => h9) rfl dX10_pictureRow_25 ?_
      refine z_iconst hx hb dX10_pictureRow_28 ?_
      refine z_bipush hx hb dX10_pictureRow_29 (by decide +kernel) ?_
      refine lv_iload_n hx hb dX10_pictureRow_31 rfl (lv_at hl 1 rfl) ?_
      refine z_imul hx hb dX10_pictureRow_32 ?_
      refine z_iadd hx hb dX10_pictureRow_33 ?_
      refine lv_iload_n hx hb dX10_pictureRow_34 rfl (lv_at hl 2 rfl) ?_
      refine z_iadd hx hb dX10_pictureRow_35 ?_
      refine z_ald hx hb hK hP 1 rfl (4 + 8 * x1.toNat + x2.toNat) (by omega) (by omega) (Nat.le_of_ble_eq_true rfl) dX10_pictureRow_36 ?_
      refine lv_goto (tgt := 42) hx hb dX10_pictureRow_37 (by decide) ?_
      exact W.iret hx hb hr (fun t ht hW => ⟨_, rfl, zc (by unfold vPic; rw [if_pos (by omega), if_pos (by omega)]), ht⟩) (fun q hq => by cases hq) dX10_pictureRow_42
  · simp only [Bool.and_eq_false_iff, decide_eq_false_iff_not] at c_6
    refine lv_ldc hx hb hown (hts (.constant RX10 117 (-1000000001)) (by decide +kernel)) dX10_pictureRow_9 ?_
    refine te (show (-1000000001 : Int32) = zI (-1000000001) from by decide +kernel) ?_
    refine lv_goto (tgt := 42) hx hb dX10_pictureRow_11 (by decide) ?_
    exact W.iret hx hb hr (fun t ht hW => ⟨_, rfl, zc (by unfold vPic; rw [if_neg (by omega)]), ht⟩) (fun q hq => by cases hq) dX10_pictureRow_42
