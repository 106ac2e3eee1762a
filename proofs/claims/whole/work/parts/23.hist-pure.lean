/-! EARLIER SCENES: twenty rows behind a world's other cells -/
def upE (E : Nat → St) (i : Nat) (v : St) : Nat → St := fun j => if j = i then v else E j
theorem upE_s {E : Nat → St} {i : Nat} {v : St} : upE E i v i = v := if_pos rfl
theorem upE_n {E : Nat → St} {i j : Nat} {v : St} (h : j ≠ i) : upE E i v j = E j := if_neg h
theorem upE_id (E : Nat → St) (i : Nat) : upE E i (E i) = E := by
  funext j
  unfold upE
  split
  · next h => rw [h]
  · rfl
def rowC (k : Kt) (r : Nat → Nat) (E : Nat → St) (i : Nat) : Nat × va_E := (r i, .inl (k.1, 132, .inl (zF (E i))))
def rowsW (k : Kt) (r : Nat → Nat) (E : Nat → St) : va_W := (List.range 20).map (rowC k r E)
def eoF (r : Nat → Nat) : Nat → Option Nat := fun i => if i < 20 then some (r i) else none
theorem rowsW_get {k : Kt} {r : Nat → Nat} {E : Nat → St} {i : Nat} (h : i < 20) : (rowsW k r E)[i]? = some (rowC k r E i) := by
  unfold rowsW
  rw [List.getElem?_map, List.getElem?_range h]
  rfl
theorem rowsW_set {k : Kt} {r : Nat → Nat} {E : Nat → St} {i : Nat} {v : St} (h : i < 20) : (rowsW k r E).set i (r i, .inl (k.1, 132, .inl (zF v))) = rowsW k r (upE E i v) := by
  apply List.ext_getElem?
  intro j
  by_cases hj : j < 20
  · rw [rowsW_get hj]
    by_cases e : i = j
    · subst e
      rw [List.getElem?_set_self (by unfold rowsW; simp; exact h)]
      unfold rowC
      rw [upE_s]
    · rw [List.getElem?_set_ne e, rowsW_get hj]
      unfold rowC
      rw [upE_n (Ne.symm e)]
  · rw [List.getElem?_eq_none (by unfold rowsW; simp; omega), List.getElem?_eq_none (by unfold rowsW; simp; omega)]
theorem rowsW_fst (k : Kt) (r : Nat → Nat) (E E2 : Nat → St) : (rowsW k r E).map Prod.fst = (rowsW k r E2).map Prod.fst := by
  unfold rowsW
  rw [List.map_map, List.map_map]
  rfl
theorem rh_get {k : Kt} {r : Nat → Nat} {E : Nat → St} {x0 x1 x2 x3 : Nat × va_E} {i : Nat} (h : i < 20) : ([x0, x1, x2, x3] ++ rowsW k r E)[i + 4]? = some (rowC k r E i) := rowsW_get h
theorem rh_hC {k : Kt} {r : Nat → Nat} {E : Nat → St} {x0 x1 x2 x3 : Nat × va_E} {i : Nat} (h : i < 20) : ([0, 1, i + 4] : List Nat).map (fun j => ([x0, x1, x2, x3] ++ rowsW k r E)[j]?) = [x0, x1, rowC k r E i].map some := by
  rw [List.map_cons, List.map_cons, List.map_cons, rh_get h]
  rfl
theorem fm_map {ws : va_W} : ∀ (is : List Nat) (wc : va_W), is.map (fun i => ws[i]?) = wc.map some → is.filterMap (fun i => ws[i]?) = wc
  | [], [], _ => rfl
  | [], x :: wc, h => by cases h
  | i :: is, [], h => by cases h
  | i :: is, x :: wc, h => by
    rw [List.map_cons, List.map_cons] at h
    have h1 := (List.cons.inj h).1
    rw [List.filterMap_cons, h1, fm_map is wc (List.cons.inj h).2]
theorem rh_hs {k : Kt} {r : Nat → Nat} {E : Nat → St} {x0 x1 x2 x3 : Nat × va_E} {i : Nat} (h : i < 20) : ([0, 1, i + 4] : List Nat).filterMap (fun j => ([x0, x1, x2, x3] ++ rowsW k r E)[j]?) = [x0, x1, rowC k r E i] := fm_map _ _ (rh_hC h)
theorem rh_nd (i : Nat) : va_nd [0, 1, i + 4] = true := by simp [va_nd]
theorem rh_sA {k : Kt} {r : Nat → Nat} {E : Nat → St} {x0 x1 x2 x3 y0 y1 : Nat × va_E} {i : Nat} {v : St} (h : i < 20) : sA ([x0, x1, x2, x3] ++ rowsW k r E) [0, 1, i + 4] [y0, y1, (r i, .inl (k.1, 132, .inl (zF v)))] = [y0, y1, x2, x3] ++ rowsW k r (upE E i v) := by
  rw [← rowsW_set h]
  rfl
theorem rh_ha {k : Kt} {r : Nat → Nat} {E : Nat → St} {x0 x1 x2 x3 y0 y1 : Nat × va_E} {i : Nat} {v : St} (h : i < 20) (h0 : y0.1 = x0.1) (h1 : y1.1 = x1.1) : (sA ([x0, x1, x2, x3] ++ rowsW k r E) [0, 1, i + 4] [y0, y1, (r i, .inl (k.1, 132, .inl (zF v)))]).map Prod.fst = ([x0, x1, x2, x3] ++ rowsW k r E).map Prod.fst := by
  rw [rh_sA h, List.map_append, List.map_append, rowsW_fst k r _ E]
  show y0.1 :: y1.1 :: _ = _
  rw [h0, h1]
  rfl
section ZQ
variable {p : Program} {l : Launch} {e : Env} {R : Room} {s : State} {m : MethodId} {args : Array Value} {below : List Frame} {meth : Method} {c : Code} {H H0 : Heap} {locs : List Loc} {cells slots : Nat} {Q : State → Prop}
variable {cc : ByteArray} {pc : Nat} {ls : Array Slot} {rest : List Value} {D : va_G} {k : Kt} {ws : va_W} {A : Nat → Prop}
theorem z_aald (hx : p.tables.exec = Jvm.exec) (hb : c.code = cc) (hK : GW D k s) (hP : va_P D vwCl ws H) (q0 : Nat) {a n b : Nat} {g : Nat → Option Nat} (ha : ws[q0]? = some (a, .inl (k.2.2.2, n, .inr (.inr (.inr (.inr g)))))) {i : Int} (E : Nat) (he : i = (E : Int)) (hE : E < n) (hn : n < 2147483648) (hg : g E = some b) (hdg : decode cc pc = .ok (.aaload, 1)) (kk : W p l e R s m args below meth c H locs cells slots Q (F0 m (pc + 1) ls (.ref b :: rest))) : W p l e R s m args below meth c H locs cells slots Q (F0 m pc ls (.int (zI i) :: .ref a :: rest)) := by
  subst he
  have hin := zI_vin hE hn
  have hcl := zI_cl (show E < 2147483648 by omega)
  have hlt : (zI (E : Int)).toNatClampNeg < n := by rw [hcl]; exact hE
  refine W.aald (v := va_rf (g (zI (E : Int)).toNatClampNeg)) (ty := .array .int) hx hb (hP q0 _ ha) ((hK.1.2 3 _ rfl).1 n (fun j => va_rf (g j))) rfl (fun q => by cases q) (by show ¬ (zI (E : Int) < 0 ∨ (arrV _ _ _).slots.size ≤ _); rw [arrV_size]; exact hin) (by show (arrV _ _ _).slots[_]? = _; rw [arrV_read _ _ hlt]) rfl rfl hdg ?_
  rw [hcl, hg]
  exact kk
end ZQ
theorem P_l {D : va_G} {cl : List vw_C} {a b : va_W} {H : Heap} (h : va_P D cl (a ++ b) H) : va_P D cl a H := fun i q hq => h i q (by rw [List.getElem?_append_left (List.getElem?_eq_some_iff.mp hq).1]; exact hq)
theorem P_r {D : va_G} {cl : List vw_C} {a b : va_W} {H : Heap} (h : va_P D cl (a ++ b) H) : va_P D cl b H := fun i q hq => h (a.length + i) q (by rw [List.getElem?_append_right (by omega), Nat.add_sub_cancel_left]; exact hq)
theorem D_l {A : Nat → Prop} {a b : va_W} (h : va_D A (a ++ b)) : va_D A a := by
  have e : ∀ (i : Nat) (q : Nat × va_E), a[i]? = some q → (a ++ b)[i]? = some q := fun i q hq => by rw [List.getElem?_append_left (List.getElem?_eq_some_iff.mp hq).1]; exact hq
  exact ⟨fun i j x y hx hy he => h.1 i j x y (e i x hx) (e j y hy) he, fun i q hq => h.2 i q (e i q hq)⟩
theorem D_r {A : Nat → Prop} {a b : va_W} (h : va_D A (a ++ b)) : va_D A b := by
  have e : ∀ (i : Nat) (q : Nat × va_E), b[i]? = some q → (a ++ b)[a.length + i]? = some q := fun i q hq => by rw [List.getElem?_append_right (by omega), Nat.add_sub_cancel_left]; exact hq
  exact ⟨fun i j x y hx hy he => by have := h.1 _ _ x y (e i x hx) (e j y hy) he; omega, fun i q hq => h.2 _ q (e i q hq)⟩
theorem D_x {A : Nat → Prop} {a b : va_W} (h : va_D A (a ++ b)) : ∀ (i j : Nat) (x y : Nat × va_E), a[i]? = some x → b[j]? = some y → x.1 ≠ y.1 := by
  intro i j x y hx hy he
  have hl := (List.getElem?_eq_some_iff.mp hx).1
  have := h.1 i (a.length + j) x y (by rw [List.getElem?_append_left hl]; exact hx) (by rw [List.getElem?_append_right (by omega), Nat.add_sub_cancel_left]; exact hy) he
  omega
theorem is_get {ws wc : va_W} {is : List Nat} (hC : is.map (fun i => ws[i]?) = wc.map some) {j : Nat} {q : Nat × va_E} (h : wc[j]? = some q) : ∃ i, is[j]? = some i ∧ ws[i]? = some q := by
  have h1 : (is.map (fun i => ws[i]?))[j]? = some (some q) := by rw [hC, List.getElem?_map, h]; rfl
  rw [List.getElem?_map] at h1
  cases hi : is[j]? with
  | none => rw [hi] at h1; cases h1
  | some i => rw [hi] at h1; exact ⟨i, rfl, Option.some.inj h1⟩
/-- as jn, with a block of cells behind that the callee has whole -/
theorem jnR {A0 : Nat → Prop} {D : va_G} {cl : List vw_C} {base wcb w1 rows rows' : va_W} {H H1 : Heap} (hP : va_P D cl (base ++ rows) H) (hD : va_D A0 (base ++ rows)) (is : List Nat) (hC : is.map (fun i => base[i]?) = wcb.map some) (hk : ∀ q : Nat, q < H.size → ¬ fA (wcb ++ rows) q → H1[q]? = H[q]?) (hP1 : va_P D cl (w1 ++ rows') H1) (hl : w1.length = is.length) (ha : (sA base is w1).map Prod.fst = base.map Prod.fst) (hr : rows'.map Prod.fst = rows.map Prod.fst) : va_P D cl (sA base is w1 ++ rows') H1 ∧ va_D A0 (sA base is w1 ++ rows') := by
  refine ⟨va_P.app (fun i q hq => ?_) (P_r hP1), D_addr (by rw [List.map_append, List.map_append, ha, hr]) hD⟩
  rcases sA_get is w1 base i q hl hq with ⟨h1, h2⟩ | ⟨j, h1⟩
  · refine (P_l hP i q h2).kept (hk q.1 (P_l hP i q h2).lt (fun hf => ?_))
    obtain ⟨j, e, hj⟩ := hf
    rcases List.mem_append.mp (List.mem_of_getElem? hj) with hm | hm
    · obtain ⟨j2, hj2⟩ := List.getElem?_of_mem hm
      obtain ⟨i2, h3, h4⟩ := is_get hC hj2
      have h5 := (D_l hD).1 i i2 q (q.1, e) h2 h4 rfl
      subst h5
      exact h1 (List.mem_of_getElem? h3)
    · obtain ⟨j2, hj2⟩ := List.getElem?_of_mem hm
      exact D_x hD i j2 q (q.1, e) h2 hj2 rfl
  · exact P_l hP1 j q h1
theorem DcR {A0 : Nat → Prop} {base wcb rows : va_W} (hD : va_D A0 (base ++ rows)) (is : List Nat) (hnd : va_nd is = true) (hC : is.map (fun i => base[i]?) = wcb.map some) : va_D A0 (wcb ++ rows) := va_D.app ((D_l hD).sub is hnd hC) (D_r hD) (fun i j x y hx hy => by
  obtain ⟨i2, -, h4⟩ := is_get hC hx
  exact D_x hD i2 j x y h4 hy)
theorem fA_of {A : Nat → Prop} {ws : va_W} (hD : va_D A ws) : ∀ q, fA ws q → A q := fun q ⟨i, e, h⟩ => hD.2 i (q, e) h
section OK2
variable {p : Program} {l : Launch} {e : Env} {R : Room} {s : State} {m : MethodId} {args : Array Value} {below : List Frame} {meth : Method} {c : Code} {H H0 : Heap} {locs : List Loc} {cells slots : Nat} {Q : State → Prop}
  {Ts wy wy' : List Cond} {cc bytes : ByteArray} {nL maxL index n pc fr lo ci N : Nat} {own C host : String} {T : u_T} {y : MethodName} {ret : Option FieldType} {b : Nat} {fs : List Value}
  {As rest st0 : List Value} {ls : Array Slot} {D : va_G} {k : Kt} {base wcb rows : va_W} {A0 : Nat → Prop}
theorem muVR {Sy : Type} {post : Sy → Prop} {w' rw' : Sy → va_W} (S : CallFix p m c cc nL s args Ts own) (hM : MU l D k y wy fr lo (.ref b :: As) (wcb ++ rows) post (fun u => w' u ++ rw' u)) (hG : GoodIn Ts (wsV own index C y wy)) (hw : wy = Cond.code y bytes maxL ret :: wy') (hd : y.cls = C ∧ y.cls ≠ "java/lang/invoke/MethodHandle" ∧ y.cls ≠ "java/lang/invoke/VarHandle" ∧ (parseMethodDescriptor y.desc).map (fun d => d.parameters.length) = some n) (hR : fr + 1 ≤ R.frames ∧ 8 + (maxL + 11) + lo ≤ R.locals)
    (hK : GW D k s) (hP : va_P D vwCl (base ++ rows) H) (hD : va_D A0 (base ++ rows)) (hS : va_S A0 H0 H locs) (is : List Nat) (hC : is.map (fun i => base[i]?) = wcb.map some) (hnd : va_nd is = true) (hl : ∀ u, (w' u).length = is.length) (ha : ∀ u, (sA base is (w' u)).map Prod.fst = base.map Prod.fst) (hr : ∀ u, (rw' u).map Prod.fst = rows.map Prod.fst) (q0 : Nat) (he : (wcb ++ rows)[q0]? = some (b, .inr (ci, fs))) (hc : vwCl[ci]? = some (C, T, N)) (hn : As.length = n) (hsz : ls.size = nL) (hst : st0 = As.reverse ++ .ref b :: rest) (hW : (rest.map fun v => v.category).sum ≤ 8) (hdg : decode cc pc = .ok (.invokevirtual index, 3)) (hf : cells ≤ R.cells ∧ slots ≤ R.slots)
    (kk : ∀ (u : Sy) (H1 : Heap) (locs1 : List Loc), post u → va_P D vwCl (sA base is (w' u) ++ rw' u) H1 → va_D A0 (sA base is (w' u) ++ rw' u) → va_S A0 H0 H1 locs1 → W p l e R s m args below meth c H1 locs1 cells slots Q (F0 m (pc + 3) ls rest)) : W p l e R s m args below meth c H locs cells slots Q (F0 m pc ls st0) := by
  have hPc : va_P D vwCl (wcb ++ rows) H := va_P.app ((P_l hP).sub is (fm_map is wcb hC)) (P_r hP)
  have hDc0 := DcR hD is hnd hC
  have hDc : va_D (fun _ => True) (wcb ++ rows) := hDc0.weaken (fun _ _ _ _ => trivial)
  have hF := fA_of hDc0
  refine va_callv (va_runV (g := F0 m pc ls st0) S hM (cwV n S.2.2.2.2 hG hw rfl rfl hd hR) ⟨blindM, va_recv hK.1 hPc hc he, fun U hU hW => ⟨rfl, by rw [hU]; exact hPc, hK.warm hW, hDc⟩⟩ rfl hn hsz hst (by show 2 * 0 + _ ≤ 8; omega) hdg hf) hS (fun q _ h => hF q h) hF (fun u t H1 locs1 ht hvm hp hB hz1 hk1 hS1 => ?_)
  rw [ht] at hB
  obtain ⟨h1, h2⟩ := jnR hP hD is hC hk1 hB (hl u) (ha u) (hr u)
  exact kk u H1 locs1 hp h1 h2 hS1
theorem miVR {Sy : Type} {post : Int32 → Sy → Prop} {w' rw' : Sy → va_W} (S : CallFix p m c cc nL s args Ts own) (hM : MI l D k y wy fr lo (.ref b :: As) (wcb ++ rows) post (fun u => w' u ++ rw' u)) (hG : GoodIn Ts (wsV own index C y wy)) (hw : wy = Cond.code y bytes maxL ret :: wy') (hd : y.cls = C ∧ y.cls ≠ "java/lang/invoke/MethodHandle" ∧ y.cls ≠ "java/lang/invoke/VarHandle" ∧ (parseMethodDescriptor y.desc).map (fun d => d.parameters.length) = some n) (hR : fr + 1 ≤ R.frames ∧ 8 + (maxL + 11) + lo ≤ R.locals)
    (hK : GW D k s) (hP : va_P D vwCl (base ++ rows) H) (hD : va_D A0 (base ++ rows)) (hS : va_S A0 H0 H locs) (is : List Nat) (hC : is.map (fun i => base[i]?) = wcb.map some) (hnd : va_nd is = true) (hl : ∀ u, (w' u).length = is.length) (ha : ∀ u, (sA base is (w' u)).map Prod.fst = base.map Prod.fst) (hr : ∀ u, (rw' u).map Prod.fst = rows.map Prod.fst) (q0 : Nat) (he : (wcb ++ rows)[q0]? = some (b, .inr (ci, fs))) (hc : vwCl[ci]? = some (C, T, N)) (hn : As.length = n) (hsz : ls.size = nL) (hst : st0 = As.reverse ++ .ref b :: rest) (hW : (rest.map fun v => v.category).sum ≤ 8) (hdg : decode cc pc = .ok (.invokevirtual index, 3)) (hf : cells ≤ R.cells ∧ slots ≤ R.slots)
    (kk : ∀ (r : Int32) (u : Sy) (H1 : Heap) (locs1 : List Loc), post r u → va_P D vwCl (sA base is (w' u) ++ rw' u) H1 → va_D A0 (sA base is (w' u) ++ rw' u) → va_S A0 H0 H1 locs1 → W p l e R s m args below meth c H1 locs1 cells slots Q (F0 m (pc + 3) ls (.int r :: rest))) : W p l e R s m args below meth c H locs cells slots Q (F0 m pc ls st0) := by
  have hPc : va_P D vwCl (wcb ++ rows) H := va_P.app ((P_l hP).sub is (fm_map is wcb hC)) (P_r hP)
  have hDc0 := DcR hD is hnd hC
  have hDc : va_D (fun _ => True) (wcb ++ rows) := hDc0.weaken (fun _ _ _ _ => trivial)
  have hF := fA_of hDc0
  refine va_calli (va_runV (g := F0 m pc ls st0) S hM (cwV n S.2.2.2.2 hG hw rfl rfl hd hR) ⟨blindM, va_recv hK.1 hPc hc he, fun U hU hW => ⟨rfl, by rw [hU]; exact hPc, hK.warm hW, hDc⟩⟩ rfl hn hsz hst (by show 2 * 0 + _ ≤ 8; omega) hdg hf) hS (fun q _ h => hF q h) hF (fun r u t H1 locs1 ht hvm hp hB hz1 hk1 hS1 => ?_)
  rw [ht] at hB
  obtain ⟨h1, h2⟩ := jnR hP hD is hC hk1 hB (hl u) (ha u) (hr u)
  exact kk r u H1 locs1 hp h1 h2 hS1
end OK2
