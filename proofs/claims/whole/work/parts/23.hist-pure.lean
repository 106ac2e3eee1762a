/-! EARLIER SCENES: twenty rows behind a world's other cells -/
def upE (E : Nat → St) (i : Nat) (v : St) : Nat → St := fun j => if j = i then v else E j
theorem upE_s {E : Nat → St} {i : Nat} {v : St} : upE E i v i = v := if_pos rfl
theorem upE_n {E : Nat → St} {i j : Nat} {v : St} (h : j ≠ i) : upE E i v j = E j := if_neg h
theorem upE_id (E : Nat → St) (i : Nat) : upE E i (E i) = E := by
  funext j
  unfold upE
  split
  · next h => rw [h]
  · rfl
def rowC (k : Kt) (r : Nat → Nat) (E : Nat → St) (i : Nat) : Nat × va_E := (r i, .inl (k.1, 132, .inl (zF (E i))))
def rowsW (k : Kt) (r : Nat → Nat) (E : Nat → St) : va_W := (List.range 20).map (rowC k r E)
def eoF (r : Nat → Nat) : Nat → Option Nat := fun i => if i < 20 then some (r i) else none
theorem rowsW_get {k : Kt} {r : Nat → Nat} {E : Nat → St} {i : Nat} (h : i < 20) : (rowsW k r E)[i]? = some (rowC k r E i) := by
  unfold rowsW
  rw [List.getElem?_map, List.getElem?_range h]
  rfl
theorem rowsW_set {k : Kt} {r : Nat → Nat} {E : Nat → St} {i : Nat} {v : St} (h : i < 20) : (rowsW k r E).set i (r i, .inl (k.1, 132, .inl (zF v))) = rowsW k r (upE E i v) := by
  apply List.ext_getElem?
  intro j
  by_cases hj : j < 20
  · rw [rowsW_get hj]
    by_cases e : i = j
    · subst e
      rw [List.getElem?_set_self (by unfold rowsW; simp; exact h)]
      unfold rowC
      rw [upE_s]
    · rw [List.getElem?_set_ne e, rowsW_get hj]
      unfold rowC
      rw [upE_n (Ne.symm e)]
  · rw [List.getElem?_eq_none (by unfold rowsW; simp; omega), List.getElem?_eq_none (by unfold rowsW; simp; omega)]
theorem rowsW_fst (k : Kt) (r : Nat → Nat) (E E2 : Nat → St) : (rowsW k r E).map Prod.fst = (rowsW k r E2).map Prod.fst := by
  unfold rowsW
  rw [List.map_map, List.map_map]
  rfl
theorem rh_get {k : Kt} {r : Nat → Nat} {E : Nat → St} {x0 x1 x2 x3 : Nat × va_E} {i : Nat} (h : i < 20) : ([x0, x1, x2, x3] ++ rowsW k r E)[i + 4]? = some (rowC k r E i) := rowsW_get h
theorem rh_hC {k : Kt} {r : Nat → Nat} {E : Nat → St} {x0 x1 x2 x3 : Nat × va_E} {i : Nat} (h : i < 20) : ([0, 1, i + 4] : List Nat).map (fun j => ([x0, x1, x2, x3] ++ rowsW k r E)[j]?) = [x0, x1, rowC k r E i].map some := by
  rw [List.map_cons, List.map_cons, List.map_cons, rh_get h]
  rfl
theorem fm_map {ws : va_W} : ∀ (is : List Nat) (wc : va_W), is.map (fun i => ws[i]?) = wc.map some → is.filterMap (fun i => ws[i]?) = wc
  | [], [], _ => rfl
  | [], x :: wc, h => by cases h
  | i :: is, [], h => by cases h
  | i :: is, x :: wc, h => by
    rw [List.map_cons, List.map_cons] at h
    have h1 := (List.cons.inj h).1
    rw [List.filterMap_cons, h1, fm_map is wc (List.cons.inj h).2]
theorem rh_hs {k : Kt} {r : Nat → Nat} {E : Nat → St} {x0 x1 x2 x3 : Nat × va_E} {i : Nat} (h : i < 20) : ([0, 1, i + 4] : List Nat).filterMap (fun j => ([x0, x1, x2, x3] ++ rowsW k r E)[j]?) = [x0, x1, rowC k r E i] := fm_map _ _ (rh_hC h)
theorem rh_nd (i : Nat) : va_nd [0, 1, i + 4] = true := by simp [va_nd]
theorem rh_sA {k : Kt} {r : Nat → Nat} {E : Nat → St} {x0 x1 x2 x3 y0 y1 : Nat × va_E} {i : Nat} {v : St} (h : i < 20) : sA ([x0, x1, x2, x3] ++ rowsW k r E) [0, 1, i + 4] [y0, y1, (r i, .inl (k.1, 132, .inl (zF v)))] = [y0, y1, x2, x3] ++ rowsW k r (upE E i v) := by
  rw [← rowsW_set h]
  rfl
theorem rh_ha {k : Kt} {r : Nat → Nat} {E : Nat → St} {x0 x1 x2 x3 y0 y1 : Nat × va_E} {i : Nat} {v : St} (h : i < 20) (h0 : y0.1 = x0.1) (h1 : y1.1 = x1.1) : (sA ([x0, x1, x2, x3] ++ rowsW k r E) [0, 1, i + 4] [y0, y1, (r i, .inl (k.1, 132, .inl (zF v)))]).map Prod.fst = ([x0, x1, x2, x3] ++ rowsW k r E).map Prod.fst := by
  rw [rh_sA h, List.map_append, List.map_append, rowsW_fst k r _ E]
  show y0.1 :: y1.1 :: _ = _
  rw [h0, h1]
  rfl
section ZQ
variable {p : Program} {l : Launch} {e : Env} {R : Room} {s : State} {m : MethodId} {args : Array Value} {below : List Frame} {meth : Method} {c : Code} {H H0 : Heap} {locs : List Loc} {cells slots : Nat} {Q : State → Prop}
variable {cc : ByteArray} {pc : Nat} {ls : Array Slot} {rest : List Value} {D : va_G} {k : Kt} {ws : va_W} {A : Nat → Prop}
theorem z_aald (hx : p.tables.exec = Jvm.exec) (hb : c.code = cc) (hK : GW D k s) (hP : va_P D vwCl ws H) (q0 : Nat) {a n b : Nat} {g : Nat → Option Nat} (ha : ws[q0]? = some (a, .inl (k.2.2.2, n, .inr (.inr (.inr (.inr g)))))) {i : Int} (E : Nat) (he : i = (E : Int)) (hE : E < n) (hn : n < 2147483648) (hg : g E = some b) (hdg : decode cc pc = .ok (.aaload, 1)) (kk : W p l e R s m args below meth c H locs cells slots Q (F0 m (pc + 1) ls (.ref b :: rest))) : W p l e R s m args below meth c H locs cells slots Q (F0 m pc ls (.int (zI i) :: .ref a :: rest)) := by
  subst he
  have hin := zI_vin hE hn
  have hcl := zI_cl (show E < 2147483648 by omega)
  have hlt : (zI (E : Int)).toNatClampNeg < n := by rw [hcl]; exact hE
  refine W.aald (v := va_rf (g (zI (E : Int)).toNatClampNeg)) (ty := .array .int) hx hb (hP q0 _ ha) ((hK.1.2 3 _ rfl).1 n (fun j => va_rf (g j))) rfl (fun q => by cases q) (by show ¬ (zI (E : Int) < 0 ∨ (arrV _ _ _).slots.size ≤ _); rw [arrV_size]; exact hin) (by show (arrV _ _ _).slots[_]? = _; rw [arrV_read _ _ hlt]) rfl rfl hdg ?_
  rw [hcl, hg]
  exact kk
end ZQ
