/-! CALLS IN A LONG WORLD: the new world is told in the open -/
theorem jnc {D : va_G} {cl : List vw_C} {base w1 b2 : va_W} {H H1 : Heap} {F : Nat → Prop} (hPb : va_P D cl base H) (is ir : List Nat) (n : Nat) (hF : ∀ (i : Nat) (q : Nat × va_E), i ∉ is → base[i]? = some q → ¬ F q.1) (hk : ∀ q : Nat, q < H.size → ¬ F q → H1[q]? = H[q]?) (hP1 : va_P D cl w1 H1) (h1 : is.map (fun i => b2[i]?) = w1.map some) (h2 : ir.map (fun i => b2[i]?) = ir.map (fun i => base[i]?)) (hn : b2.length = n) (h3 : ∀ i, i < n → i ∈ is ∨ (i ∈ ir ∧ i ∉ is)) : va_P D cl b2 H1 := fun i q hq => by
  have hi : i < n := by rw [← hn]; exact (List.getElem?_eq_some_iff.mp hq).1
  rcases h3 i hi with h | ⟨h, h'⟩
  · obtain ⟨j, hj⟩ := List.getElem?_of_mem h
    have e1 : (is.map (fun i => b2[i]?))[j]? = some (some q) := by rw [List.getElem?_map, hj]; show some (b2[i]?) = _; rw [hq]
    rw [h1, List.getElem?_map] at e1
    cases hw : w1[j]? with
    | none => rw [hw] at e1; cases e1
    | some q1 =>
      rw [hw] at e1
      have e2 : q1 = q := Option.some.inj (Option.some.inj e1)
      exact hP1 j q (e2 ▸ hw)
  · obtain ⟨j, hj⟩ := List.getElem?_of_mem h
    have e1 : (ir.map (fun i => b2[i]?))[j]? = some (some q) := by rw [List.getElem?_map, hj]; show some (b2[i]?) = _; rw [hq]
    rw [h2, List.getElem?_map, hj] at e1
    have e2 : base[i]? = some q := Option.some.inj e1
    exact (hPb i q e2).kept (hk q.1 (hPb i q e2).lt (hF i q h' e2))
theorem wcF {A0 : Nat → Prop} {base R wc : va_W} (hD : va_D A0 (base ++ R)) (is : List Nat) (hC : is.map (fun i => base[i]?) = wc.map some) : ∀ (i : Nat) (q : Nat × va_E), i ∉ is → base[i]? = some q → ¬ fA wc q.1 := fun i q hi hq hf => by
  obtain ⟨j, e, hj⟩ := hf
  obtain ⟨i2, h3, h4⟩ := is_get hC hj
  have h5 := (D_l hD).1 i i2 q (q.1, e) hq h4 rfl
  subst h5
  exact hi (List.mem_of_getElem? h3)
section OK3
variable {p : Program} {l : Launch} {e : Env} {R : Room} {s : State} {m : MethodId} {args : Array Value} {below : List Frame} {meth : Method} {c : Code} {H H0 : Heap} {locs : List Loc} {cells slots : Nat} {Q : State → Prop}
  {Ts wy wy' : List Cond} {cc bytes : ByteArray} {nL maxL index n pc fr lo ci N : Nat} {own C host : String} {T : u_T} {y : MethodName} {ret : Option FieldType} {b : Nat} {fs : List Value}
  {As rest st0 : List Value} {ls : Array Slot} {D : va_G} {k : Kt} {base Rw wc : va_W} {A0 : Nat → Prop}
theorem jn2 {w1 b2 : va_W} {H1 : Heap} (hP : va_P D vwCl (base ++ Rw) H) (hD : va_D A0 (base ++ Rw)) (is ir : List Nat) (nn : Nat) (hC : is.map (fun i => base[i]?) = wc.map some) (hk : ∀ q : Nat, q < H.size → ¬ fA wc q → H1[q]? = H[q]?) (hP1 : va_P D vwCl w1 H1) (h1 : is.map (fun i => b2[i]?) = w1.map some) (h2 : ir.map (fun i => b2[i]?) = ir.map (fun i => base[i]?)) (hn : b2.length = nn) (h3 : ∀ i, i < nn → i ∈ is ∨ (i ∈ ir ∧ i ∉ is)) (h4 : b2.map Prod.fst = base.map Prod.fst) : va_P D vwCl (b2 ++ Rw) H1 ∧ va_D A0 (b2 ++ Rw) := by
  refine ⟨(jnc (P_l hP) is ir nn (wcF hD is hC) hk hP1 h1 h2 hn h3).app (fun i q hq => (P_r hP i q hq).kept (hk q.1 (P_r hP i q hq).lt (fun hf => ?_))), D_addr (by rw [List.map_append, List.map_append, h4]) hD⟩
  obtain ⟨j, e, hj⟩ := hf
  obtain ⟨i2, h5, h6⟩ := is_get hC hj
  exact D_x hD i2 i (q.1, e) q h6 hq rfl
theorem miV2 {Sy : Type} {post : Int32 → Sy → Prop} {w' : Sy → va_W} (S : CallFix p m c cc nL s args Ts own) (hM : MI l D k y wy fr lo (.ref b :: As) wc post w') (hG : GoodIn Ts (wsV own index C y wy)) (hw : wy = Cond.code y bytes maxL ret :: wy') (hd : y.cls = C ∧ y.cls ≠ "java/lang/invoke/MethodHandle" ∧ y.cls ≠ "java/lang/invoke/VarHandle" ∧ (parseMethodDescriptor y.desc).map (fun d => d.parameters.length) = some n) (hR : fr + 1 ≤ R.frames ∧ 8 + (maxL + 11) + lo ≤ R.locals)
    (hK : GW D k s) (hP : va_P D vwCl (base ++ Rw) H) (hD : va_D A0 (base ++ Rw)) (hS : va_S A0 H0 H locs) (is ir : List Nat) (nn : Nat) (b2 : Sy → va_W) (hC : is.map (fun i => base[i]?) = wc.map some) (hnd : va_nd is = true) (h1 : ∀ u, is.map (fun i => (b2 u)[i]?) = (w' u).map some) (h2 : ∀ u, ir.map (fun i => (b2 u)[i]?) = ir.map (fun i => base[i]?)) (hln : ∀ u, (b2 u).length = nn) (h3 : ∀ i, i < nn → i ∈ is ∨ (i ∈ ir ∧ i ∉ is)) (h4 : ∀ u, (b2 u).map Prod.fst = base.map Prod.fst) (q0 : Nat) (he : wc[q0]? = some (b, .inr (ci, fs))) (hc : vwCl[ci]? = some (C, T, N)) (hn : As.length = n) (hsz : ls.size = nL) (hst : st0 = As.reverse ++ .ref b :: rest) (hW : (rest.map fun v => v.category).sum ≤ 8) (hdg : decode cc pc = .ok (.invokevirtual index, 3)) (hf : cells ≤ R.cells ∧ slots ≤ R.slots)
    (kk : ∀ (r : Int32) (u : Sy) (H1 : Heap) (locs1 : List Loc), post r u → va_P D vwCl (b2 u ++ Rw) H1 → va_D A0 (b2 u ++ Rw) → va_S A0 H0 H1 locs1 → W p l e R s m args below meth c H1 locs1 cells slots Q (F0 m (pc + 3) ls (.int r :: rest))) : W p l e R s m args below meth c H locs cells slots Q (F0 m pc ls st0) := by
  have hPc : va_P D vwCl wc H := (P_l hP).sub is (fm_map is wc hC)
  have hDc : va_D (fun _ => True) wc := ((D_l hD).sub is hnd hC).weaken (fun _ _ _ _ => trivial)
  have hF := fA_sub (D_l hD) is hC
  refine va_calli (va_runV (g := F0 m pc ls st0) S hM (cwV n S.2.2.2.2 hG hw rfl rfl hd hR) ⟨blindM, va_recv hK.1 hPc hc he, fun U hU hW => ⟨rfl, by rw [hU]; exact hPc, hK.warm hW, hDc⟩⟩ rfl hn hsz hst (by show 2 * 0 + _ ≤ 8; omega) hdg hf) hS (fun q _ h => hF q h) hF (fun r u t H1 locs1 ht hvm hp hB hz1 hk1 hS1 => ?_)
  rw [ht] at hB
  obtain ⟨g1, g2⟩ := jn2 hP hD is ir nn hC hk1 hB (h1 u) (h2 u) (hln u) h3 (h4 u)
  exact kk r u H1 locs1 hp g1 g2 hS1
theorem mlV2 {Sy : Type} {post : Int64 → Sy → Prop} {w' : Sy → va_W} (S : CallFix p m c cc nL s args Ts own) (hM : ML l D k y wy fr lo (.ref b :: As) wc post w') (hG : GoodIn Ts (wsV own index C y wy)) (hw : wy = Cond.code y bytes maxL ret :: wy') (hd : y.cls = C ∧ y.cls ≠ "java/lang/invoke/MethodHandle" ∧ y.cls ≠ "java/lang/invoke/VarHandle" ∧ (parseMethodDescriptor y.desc).map (fun d => d.parameters.length) = some n) (hR : fr + 1 ≤ R.frames ∧ 8 + (maxL + 11) + lo ≤ R.locals)
    (hK : GW D k s) (hP : va_P D vwCl (base ++ Rw) H) (hD : va_D A0 (base ++ Rw)) (hS : va_S A0 H0 H locs) (is ir : List Nat) (nn : Nat) (b2 : Sy → va_W) (hC : is.map (fun i => base[i]?) = wc.map some) (hnd : va_nd is = true) (h1 : ∀ u, is.map (fun i => (b2 u)[i]?) = (w' u).map some) (h2 : ∀ u, ir.map (fun i => (b2 u)[i]?) = ir.map (fun i => base[i]?)) (hln : ∀ u, (b2 u).length = nn) (h3 : ∀ i, i < nn → i ∈ is ∨ (i ∈ ir ∧ i ∉ is)) (h4 : ∀ u, (b2 u).map Prod.fst = base.map Prod.fst) (q0 : Nat) (he : wc[q0]? = some (b, .inr (ci, fs))) (hc : vwCl[ci]? = some (C, T, N)) (hn : As.length = n) (hsz : ls.size = nL) (hst : st0 = As.reverse ++ .ref b :: rest) (hW : (rest.map fun v => v.category).sum ≤ 8) (hdg : decode cc pc = .ok (.invokevirtual index, 3)) (hf : cells ≤ R.cells ∧ slots ≤ R.slots)
    (kk : ∀ (r : Int64) (u : Sy) (H1 : Heap) (locs1 : List Loc), post r u → va_P D vwCl (b2 u ++ Rw) H1 → va_D A0 (b2 u ++ Rw) → va_S A0 H0 H1 locs1 → W p l e R s m args below meth c H1 locs1 cells slots Q (F0 m (pc + 3) ls (.long r :: rest))) : W p l e R s m args below meth c H locs cells slots Q (F0 m pc ls st0) := by
  have hPc : va_P D vwCl wc H := (P_l hP).sub is (fm_map is wc hC)
  have hDc : va_D (fun _ => True) wc := ((D_l hD).sub is hnd hC).weaken (fun _ _ _ _ => trivial)
  have hF := fA_sub (D_l hD) is hC
  refine va_calll (va_runV (g := F0 m pc ls st0) S hM (cwV n S.2.2.2.2 hG hw rfl rfl hd hR) ⟨blindM, va_recv hK.1 hPc hc he, fun U hU hW => ⟨rfl, by rw [hU]; exact hPc, hK.warm hW, hDc⟩⟩ rfl hn hsz hst (by show 2 * 0 + _ ≤ 8; omega) hdg hf) hS (fun q _ h => hF q h) hF (fun r u t H1 locs1 ht hvm hp hB hz1 hk1 hS1 => ?_)
  rw [ht] at hB
  obtain ⟨g1, g2⟩ := jn2 hP hD is ir nn hC hk1 hB (h1 u) (h2 u) (hln u) h3 (h4 u)
  exact kk r u H1 locs1 hp g1 g2 hS1
theorem roV2 {post : Int32 → Prop} (S : CallFix p m c cc nL s args Ts own) (hM : RO l D k y wy fr lo (.ref b :: As) wc post) (hG : GoodIn Ts (wsV own index C y wy)) (hw : wy = Cond.code y bytes maxL ret :: wy') (hd : y.cls = C ∧ y.cls ≠ "java/lang/invoke/MethodHandle" ∧ y.cls ≠ "java/lang/invoke/VarHandle" ∧ (parseMethodDescriptor y.desc).map (fun d => d.parameters.length) = some n) (hR : fr + 1 ≤ R.frames ∧ 8 + (maxL + 11) + lo ≤ R.locals)
    (hK : GW D k s) (hP : va_P D vwCl (base ++ Rw) H) (is : List Nat) (hC : is.map (fun i => base[i]?) = wc.map some) (q0 : Nat) (he : wc[q0]? = some (b, .inr (ci, fs))) (hc : vwCl[ci]? = some (C, T, N)) (hn : As.length = n) (hsz : ls.size = nL) (hst : st0 = As.reverse ++ .ref b :: rest) (hW : (rest.map fun v => v.category).sum ≤ 8) (hdg : decode cc pc = .ok (.invokevirtual index, 3)) (hf : cells ≤ R.cells ∧ slots ≤ R.slots)
    (kk : ∀ r : Int32, post r → W p l e R s m args below meth c H locs cells slots Q (F0 m (pc + 3) ls (.int r :: rest))) : W p l e R s m args below meth c H locs cells slots Q (F0 m pc ls st0) := roV S hM hG hw hd hR hK (P_l hP) is (fm_map is wc hC) q0 he hc hn hsz hst hW hdg hf kk
theorem miVR2 {Sy : Type} {post : Int32 → Sy → Prop} {w' rw' : Sy → va_W} (S : CallFix p m c cc nL s args Ts own) (hM : MI l D k y wy fr lo (.ref b :: As) (wc ++ Rw) post (fun u => w' u ++ rw' u)) (hG : GoodIn Ts (wsV own index C y wy)) (hw : wy = Cond.code y bytes maxL ret :: wy') (hd : y.cls = C ∧ y.cls ≠ "java/lang/invoke/MethodHandle" ∧ y.cls ≠ "java/lang/invoke/VarHandle" ∧ (parseMethodDescriptor y.desc).map (fun d => d.parameters.length) = some n) (hR : fr + 1 ≤ R.frames ∧ 8 + (maxL + 11) + lo ≤ R.locals)
    (hK : GW D k s) (hP : va_P D vwCl (base ++ Rw) H) (hD : va_D A0 (base ++ Rw)) (hS : va_S A0 H0 H locs) (is ir : List Nat) (nn : Nat) (b2 : Sy → va_W) (hC : is.map (fun i => base[i]?) = wc.map some) (hnd : va_nd is = true) (h1 : ∀ u, is.map (fun i => (b2 u)[i]?) = (w' u).map some) (h2 : ∀ u, ir.map (fun i => (b2 u)[i]?) = ir.map (fun i => base[i]?)) (hln : ∀ u, (b2 u).length = nn) (h3 : ∀ i, i < nn → i ∈ is ∨ (i ∈ ir ∧ i ∉ is)) (h4 : ∀ u, (b2 u).map Prod.fst = base.map Prod.fst) (hrw : ∀ u, (rw' u).map Prod.fst = Rw.map Prod.fst) (q0 : Nat) (he : wc[q0]? = some (b, .inr (ci, fs))) (hc : vwCl[ci]? = some (C, T, N)) (hn : As.length = n) (hsz : ls.size = nL) (hst : st0 = As.reverse ++ .ref b :: rest) (hW : (rest.map fun v => v.category).sum ≤ 8) (hdg : decode cc pc = .ok (.invokevirtual index, 3)) (hf : cells ≤ R.cells ∧ slots ≤ R.slots)
    (kk : ∀ (r : Int32) (u : Sy) (H1 : Heap) (locs1 : List Loc), post r u → va_P D vwCl (b2 u ++ rw' u) H1 → va_D A0 (b2 u ++ rw' u) → va_S A0 H0 H1 locs1 → W p l e R s m args below meth c H1 locs1 cells slots Q (F0 m (pc + 3) ls (.int r :: rest))) : W p l e R s m args below meth c H locs cells slots Q (F0 m pc ls st0) := by
  have hPw : va_P D vwCl wc H := (P_l hP).sub is (fm_map is wc hC)
  have hPc : va_P D vwCl (wc ++ Rw) H := hPw.app (P_r hP)
  have hDw := DcR hD is hnd hC
  have hDc : va_D (fun _ => True) (wc ++ Rw) := hDw.weaken (fun _ _ _ _ => trivial)
  have hF := fA_of hDw
  have he2 : (wc ++ Rw)[q0]? = some (b, .inr (ci, fs)) := by rw [List.getElem?_append_left (List.getElem?_eq_some_iff.mp he).1]; exact he
  refine va_calli (va_runV (g := F0 m pc ls st0) S hM (cwV n S.2.2.2.2 hG hw rfl rfl hd hR) ⟨blindM, va_recv hK.1 hPc hc he2, fun U hU hW => ⟨rfl, by rw [hU]; exact hPc, hK.warm hW, hDc⟩⟩ rfl hn hsz hst (by show 2 * 0 + _ ≤ 8; omega) hdg hf) hS (fun q _ h => hF q h) hF (fun r u t H1 locs1 ht hvm hp hB hz1 hk1 hS1 => ?_)
  rw [ht] at hB
  have g1 : va_P D vwCl (b2 u) H1 := jnc (P_l hP) is ir nn (fun i q hi hq hf2 => by
    obtain ⟨j, e, hj⟩ := hf2
    rcases List.mem_append.mp (List.mem_of_getElem? hj) with hm | hm
    · obtain ⟨j2, hj2⟩ := List.getElem?_of_mem hm
      exact wcF hD is hC i q hi hq ⟨j2, e, hj2⟩
    · obtain ⟨j2, hj2⟩ := List.getElem?_of_mem hm
      exact D_x hD i j2 q (q.1, e) hq hj2 rfl) hk1 (P_l hB) (h1 u) (h2 u) (hln u) h3
  exact kk r u H1 locs1 hp (g1.app (P_r hB)) (D_addr (by rw [List.map_append, List.map_append, h4 u, hrw u]) hD) hS1
end OK3
def LWb (k : Kt) (x9 h0 c0 h8 h5 a5 h6 s6 p6 h9 s9 p9 h4 b4 e4 h2 h7 c7 hq aq d2 hh eo h3 i3 j3 k3 h1 im m0 m1 sd kp q0 qn qa qp qi qs qk qb qt qh qe : Nat) (r : Nat → Nat) (f : St) (z : (Nat → Int) × ((Nat → Nat) × (Nat → Nat) × Nat) × ((Nat → Nat) × (Nat → Nat) × Nat)) (ho : Nat → Int) (en : Nat → Int) (us : Nat) (g : St) (oq : Nat → Int) (dr : Nat → Int) (h : HT) (ba : Nat → Int) (bb : Nat → Int) (bd : Nat → Int) (bn : Nat) (vd : Int) (mm : Nat → St) (ms : Nat → Int) (mk : Nat → Int) (gg : St) (az : Nat → Int) (pa : Nat → Int) (de : Nat) (mi : Nat → Int) (ns : Nat → Int) (nk : Nat → Int) (sv : Int) (bk : Nat → Int) (bm : Nat) (ts : Nat → Int) (hd : Nat → Int) (ne : Nat → Int) : va_W := [(x9, .inr (9, [.ref h0, .ref h8, .ref h4, .ref h2, .ref hh, .ref h3, .ref h1, .ref im, .ref sd, .ref kp])), (h0, .inr (7, [.ref c0])), (c0, .inl (k.1, 132, .inl (zF f))), (h8, .inr (8, [.ref h5, .ref h6, .ref h9])), (h5, .inr (5, [.ref a5])), (a5, .inl (k.1, 12, .inl (zF z.1))), (h6, .inr (6, [.ref s6, .ref p6, .int (zI ((z.2.1.2.2 : Nat) : Int))])), (s6, .inl (k.1, 12, .inl (zF (nF z.2.1.1)))), (p6, .inl (k.1, 3, .inl (zF (nF z.2.1.2.1)))), (h9, .inr (6, [.ref s9, .ref p9, .int (zI ((z.2.2.2.2 : Nat) : Int))])), (s9, .inl (k.1, 12, .inl (zF (nF z.2.2.1)))), (p9, .inl (k.1, 3, .inl (zF (nF z.2.2.2.1)))), (h4, .inr (4, [.ref b4, .ref e4, .int (zI ((us : Nat) : Int))])), (b4, .inl (k.1, 12, .inl (zF ho))), (e4, .inl (k.1, 12, .inl (zF en))), (h2, .inr (2, [.ref h7, .ref hq, .ref d2])), (h7, .inr (7, [.ref c7])), (c7, .inl (k.1, 132, .inl (zF g))), (hq, .inr (5, [.ref aq])), (aq, .inl (k.1, 12, .inl (zF oq))), (d2, .inl (k.1, 12, .inl (zF dr))), (hh, .inr (3, [.ref eo, .int (zI ((h.1 : Nat) : Int)), .int (zI ((h.2.1 : Nat) : Int))])), (eo, .inl (k.2.2.2, 20, .inr (.inr (.inr (.inr (eoF r)))))), (h3, .inr (0, [.ref i3, .ref j3, .ref k3, .int (zI ((bn : Nat) : Int))])), (i3, .inl (k.1, 20, .inl (zF ba))), (j3, .inl (k.1, 20, .inl (zF bb))), (k3, .inl (k.1, 20, .inl (zF bd))), (h1, .inr (1, [.int (zI vd)])), (im, .inl (k.2.2.2, 2, .inr (.inr (.inr (.inr (imF m0 m1)))))), (m0, .inl (k.1, 132, .inl (zF (mm 0)))), (m1, .inl (k.1, 132, .inl (zF (mm 1)))), (sd, .inl (k.1, 2, .inl (zF ms))), (kp, .inl (k.2.1, 2, .inl (zF mk))), (q0, .inr (10, [.ref qn, .ref qa, .ref qp, .int (zI ((de : Nat) : Int)), .ref qi, .ref qs, .ref qk, .long (zL sv), .ref qb, .int (zI ((bm : Nat) : Int)), .ref qt, .ref qh, .ref qe])), (qn, .inl (k.1, 132, .inl (zF gg))), (qa, .inl (k.1, 132, .inl (zF az))), (qp, .inl (k.1, 2640, .inl (zF pa))), (qi, .inl (k.1, 264, .inl (zF mi))), (qs, .inl (k.2.2.1, 2, .inr (.inl (zG ns)))), (qk, .inl (k.2.1, 2, .inl (zF nk))), (qb, .inl (k.1, 60, .inl (zF bk))), (qt, .inl (k.1, 24, .inl (zF ts))), (qh, .inl (k.1, 12, .inl (zF hd))), (qe, .inl (k.1, 12, .inl (zF ne)))]
abbrev LWf (k : Kt) (x9 h0 c0 h8 h5 a5 h6 s6 p6 h9 s9 p9 h4 b4 e4 h2 h7 c7 hq aq d2 hh eo h3 i3 j3 k3 h1 im m0 m1 sd kp q0 qn qa qp qi qs qk qb qt qh qe : Nat) (r : Nat → Nat) (f : St) (z : (Nat → Int) × ((Nat → Nat) × (Nat → Nat) × Nat) × ((Nat → Nat) × (Nat → Nat) × Nat)) (ho : Nat → Int) (en : Nat → Int) (us : Nat) (g : St) (oq : Nat → Int) (dr : Nat → Int) (h : HT) (ba : Nat → Int) (bb : Nat → Int) (bd : Nat → Int) (bn : Nat) (vd : Int) (mm : Nat → St) (ms : Nat → Int) (mk : Nat → Int) (gg : St) (az : Nat → Int) (pa : Nat → Int) (de : Nat) (mi : Nat → Int) (ns : Nat → Int) (nk : Nat → Int) (sv : Int) (bk : Nat → Int) (bm : Nat) (ts : Nat → Int) (hd : Nat → Int) (ne : Nat → Int) : va_W := LWb k x9 h0 c0 h8 h5 a5 h6 s6 p6 h9 s9 p9 h4 b4 e4 h2 h7 c7 hq aq d2 hh eo h3 i3 j3 k3 h1 im m0 m1 sd kp q0 qn qa qp qi qs qk qb qt qh qe r f z ho en us g oq dr h ba bb bd bn vd mm ms mk gg az pa de mi ns nk sv bk bm ts hd ne ++ rowsW k r h.2.2
