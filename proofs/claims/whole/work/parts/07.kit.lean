/-! OUR OWN KIT: contracts of methods that make no cells; read-only ones (RO), writing ones (MU, MI) -/
abbrev Kt : Type := ClassId × ClassId × ClassId × ClassId
abbrev KT (k : Kt) : List (ClassId × FieldType) := [(k.1, .int), (k.2.1, .boolean), (k.2.2.1, .long), (k.2.2.2, .array .int)]
def NN (U : State) : Prop := va_Nw (.methodLinkNest RX7 41 yX9_isWithin RX9) U ∧ va_Nw (.methodLinkNest RX6 34 yX9_isInSet RX9) U ∧ va_Nw (.methodLinkNest RX8 81 yX9_isInSet RX9) U
def GW (D : va_G) (k : Kt) (U : State) : Prop := va_K D vwCl (KT k) U ∧ NN U
theorem GW.warm {D : va_G} {k : Kt} {s U : State} (hW : s.WarmedH U.vm) (h : GW D k s) : GW D k U := ⟨va_K.moved hW.alike h.1, va_Nw.warmM hW h.2.1, va_Nw.warmM hW h.2.2.1, va_Nw.warmM hW h.2.2.2⟩
theorem GW.calling {D : va_G} {k : Kt} {U : State} {g : JFrame} {mk : MethodId} {a : Array Value} (h : GW D k U) : GW D k (U.calling g mk a) := ⟨va_K.moved (u := U) (U := U.calling g mk a) (Vm.Alike.refl U.vm) h.1, va_Nw.same rfl rfl h.2.1, va_Nw.same rfl rfl h.2.2.1, va_Nw.same rfl rfl h.2.2.2⟩
/-- the addresses of a world -/
def fA (ws : va_W) : Nat → Prop := fun q => ∃ (i : Nat) (e : va_E), ws[i]? = some (q, e)
theorem fA_D {ws : va_W} {A : Nat → Prop} (h : va_D A ws) : va_D (fA ws) ws := ⟨h.1, fun i q hq => ⟨i, q.2, hq⟩⟩
theorem D_addr {A : Nat → Prop} {ws ws' : va_W} (h : ws'.map Prod.fst = ws.map Prod.fst) (hD : va_D A ws) : va_D A ws' := by
  have key : ∀ (i : Nat) (q : Nat × va_E), ws'[i]? = some q → ∃ q0, ws[i]? = some q0 ∧ q0.1 = q.1 := by
    intro i q hq
    have h1 : (ws'.map Prod.fst)[i]? = some q.1 := by rw [List.getElem?_map, hq]; rfl
    rw [h, List.getElem?_map] at h1
    cases hw : ws[i]? with
    | none => rw [hw] at h1; cases h1
    | some q0 => rw [hw] at h1; exact ⟨q0, rfl, Option.some.inj h1⟩
  refine ⟨fun i j x y hi hj hxy => ?_, fun i q hq => ?_⟩
  · obtain ⟨x0, h1, h2⟩ := key i x hi
    obtain ⟨y0, h3, h4⟩ := key j y hj
    exact hD.1 i j x0 y0 h1 h3 (by rw [h2, h4, hxy])
  · obtain ⟨q0, h1, h2⟩ := key i q hq
    rw [← h2]
    exact hD.2 i q0 h1
theorem fA_sub {A : Nat → Prop} {ws wc : va_W} (hD : va_D A ws) (is : List Nat) (hC : is.map (fun i => ws[i]?) = wc.map some) : ∀ q, fA wc q → A q := by
  intro q h
  obtain ⟨i, e, h⟩ := h
  have h1 : (is.map (fun i => ws[i]?))[i]? = some (some (q, e)) := by rw [hC, List.getElem?_map, h]; rfl
  rw [List.getElem?_map] at h1
  cases hi : is[i]? with
  | none => rw [hi] at h1; cases h1
  | some j => rw [hi] at h1; exact hD.2 j (q, e) (Option.some.inj h1)
def sA : va_W → List Nat → va_W → va_W
  | ws, i :: is, x :: xs => sA (ws.set i x) is xs
  | ws, _, _ => ws
theorem sA_get : ∀ (is : List Nat) (xs ws : va_W) (i : Nat) (q : Nat × va_E), xs.length = is.length → (sA ws is xs)[i]? = some q → (i ∉ is ∧ ws[i]? = some q) ∨ ∃ j : Nat, xs[j]? = some q
  | [], xs, ws, i, q, hl, h => by
    cases xs with
    | nil => exact Or.inl ⟨List.not_mem_nil, h⟩
    | cons x xs => cases hl
  | j :: is, xs, ws, i, q, hl, h => by
    cases xs with
    | nil => cases hl
    | cons x xs =>
      rcases sA_get is xs (ws.set j x) i q (Nat.succ.inj hl) h with ⟨h1, h2⟩ | ⟨j', h1⟩
      · by_cases hij : i = j
        · subst hij
          by_cases hlt : i < ws.length
          · rw [List.getElem?_set_self hlt] at h2
            exact Or.inr ⟨0, h2⟩
          · rw [List.getElem?_eq_none (by rw [List.length_set]; omega)] at h2
            cases h2
        · rw [List.getElem?_set_ne (Ne.symm hij)] at h2
          exact Or.inl ⟨fun hm => by rcases List.mem_cons.mp hm with e | e; exact hij e; exact h1 e, h2⟩
      · exact Or.inr ⟨j' + 1, h1⟩
/-- behind a call that makes nothing: the callee's cells in their places, the others as they were -/
theorem jn {A0 : Nat → Prop} {D : va_G} {cl : List vw_C} {ws wc w1 : va_W} {H H1 : Heap} (hP : va_P D cl ws H) (hD : va_D A0 ws) (is : List Nat) (hC : is.map (fun i => ws[i]?) = wc.map some) (hk : ∀ q : Nat, q < H.size → ¬ fA wc q → H1[q]? = H[q]?) (hP1 : va_P D cl w1 H1) (hl : w1.length = is.length) (ha : (sA ws is w1).map Prod.fst = ws.map Prod.fst) : va_P D cl (sA ws is w1) H1 ∧ va_D A0 (sA ws is w1) := by
  refine ⟨fun i q hq => ?_, D_addr ha hD⟩
  rcases sA_get is w1 ws i q hl hq with ⟨h1, h2⟩ | ⟨j, h1⟩
  · refine (hP i q h2).kept (hk q.1 (hP i q h2).lt (fun hf => ?_))
    obtain ⟨j, e, hj⟩ := hf
    have h3 : (is.map (fun i => ws[i]?))[j]? = some (some (q.1, e)) := by rw [hC, List.getElem?_map, hj]; rfl
    rw [List.getElem?_map] at h3
    cases hi : is[j]? with
    | none => rw [hi] at h3; cases h3
    | some j' =>
      rw [hi] at h3
      have h4 : ws[j']? = some (q.1, e) := Option.some.inj h3
      have h5 := hD.1 i j' q (q.1, e) h2 h4 rfl
      subst h5
      exact h1 (List.mem_of_getElem? hi)
  · exact hP1 j q h1
/-- a contract that writes nothing: arguments, world, what its answer is -/
def RO (l : Launch) (D : va_G) (k : Kt) (y : MethodName) (wy : List Cond) (fr lo : Nat) (as : List Value) (ws : va_W) (post : Int32 → Prop) : Prop :=
  Met l y wy ({ frames := fr, cells := 0, slots := 0, locals := lo }) (va_Pc as (fun U => va_P D vwCl ws U.heap ∧ GW D k U)) (vp_Si post) 0 0 (fun _ => False)
/-- a contract that writes in its world, and answers nothing -/
def MU (l : Launch) (D : va_G) (k : Kt) (y : MethodName) (wy : List Cond) (fr lo : Nat) (as : List Value) (ws : va_W) {S : Type} (post : S → Prop) (w' : S → va_W) : Prop :=
  Met l y wy ({ frames := fr, cells := 0, slots := 0, locals := lo }) (va_Pc as (fun U => va_P D vwCl ws U.heap ∧ GW D k U ∧ va_D (fun _ => True) ws)) (va_Qv post (fun u t => va_P D vwCl (w' u) t.heap) (fA ws)) 0 0 (fA ws)
/-- a contract that writes in its world, and answers a number -/
def MI (l : Launch) (D : va_G) (k : Kt) (y : MethodName) (wy : List Cond) (fr lo : Nat) (as : List Value) (ws : va_W) {S : Type} (post : Int32 → S → Prop) (w' : S → va_W) : Prop :=
  Met l y wy ({ frames := fr, cells := 0, slots := 0, locals := lo }) (va_Pc as (fun U => va_P D vwCl ws U.heap ∧ GW D k U ∧ va_D (fun _ => True) ws)) (va_Qi post (fun u t => va_P D vwCl (w' u) t.heap) (fA ws)) 0 0 (fA ws)
/-- .. and answers a long -/
def ML (l : Launch) (D : va_G) (k : Kt) (y : MethodName) (wy : List Cond) (fr lo : Nat) (as : List Value) (ws : va_W) {S : Type} (post : Int64 → S → Prop) (w' : S → va_W) : Prop :=
  Met l y wy ({ frames := fr, cells := 0, slots := 0, locals := lo }) (va_Pc as (fun U => va_P D vwCl ws U.heap ∧ GW D k U ∧ va_D (fun _ => True) ws)) (va_Ql post (fun u t => va_P D vwCl (w' u) t.heap) (fA ws)) 0 0 (fA ws)
/-- .. and answers a cell that is told ahead -/
def MR (l : Launch) (D : va_G) (k : Kt) (y : MethodName) (wy : List Cond) (fr lo : Nat) (as : List Value) (ws : va_W) (ra : Nat) {S : Type} (post : S → Prop) (w' : S → va_W) : Prop :=
  Met l y wy ({ frames := fr, cells := 0, slots := 0, locals := lo }) (va_Pc as (fun U => va_P D vwCl ws U.heap ∧ GW D k U ∧ va_D (fun _ => True) ws)) (va_Qr post (fun u a t => a = ra ∧ va_P D vwCl (w' u) t.heap) (fA ws)) 0 0 (fA ws)
theorem blindR {as : List Value} {D : va_G} {k : Kt} {ws : va_W} : FrameBlind (va_Pc as (fun U => va_P D vwCl ws U.heap ∧ GW D k U)) := fun a U g mk q => ⟨q.1, q.2.1, q.2.2.calling⟩
theorem blindM {as : List Value} {D : va_G} {k : Kt} {ws : va_W} : FrameBlind (va_Pc as (fun U => va_P D vwCl ws U.heap ∧ GW D k U ∧ va_D (fun _ => True) ws)) := fun a U g mk q => ⟨q.1, q.2.1, q.2.2.1.calling, q.2.2.2⟩
section OK1
variable {p : Program} {l : Launch} {e : Env} {R : Room} {s : State} {m : MethodId} {args : Array Value} {below : List Frame} {meth : Method} {c : Code} {H H0 : Heap} {locs : List Loc} {cells slots : Nat} {Q : State → Prop}
  {Ts wy wy' : List Cond} {cc bytes : ByteArray} {nL maxL index n pc fr lo ci N : Nat} {own C host : String} {T : u_T} {y : MethodName} {ret : Option FieldType} {b : Nat} {fs : List Value}
  {As rest st0 : List Value} {ls : Array Slot} {D : va_G} {k : Kt} {ws wc : va_W} {A0 : Nat → Prop}
theorem te {x y : Int32} (h : x = y) (kk : W p l e R s m args below meth c H locs cells slots Q (F0 m pc ls (.int y :: rest))) : W p l e R s m args below meth c H locs cells slots Q (F0 m pc ls (.int x :: rest)) := h ▸ kk
theorem tel {x y : Int64} (h : x = y) (kk : W p l e R s m args below meth c H locs cells slots Q (F0 m pc ls (.long y :: rest))) : W p l e R s m args below meth c H locs cells slots Q (F0 m pc ls (.long x :: rest)) := h ▸ kk
theorem roV {post : Int32 → Prop} (S : CallFix p m c cc nL s args Ts own) (hM : RO l D k y wy fr lo (.ref b :: As) wc post) (hG : GoodIn Ts (wsV own index C y wy)) (hw : wy = Cond.code y bytes maxL ret :: wy') (hd : y.cls = C ∧ y.cls ≠ "java/lang/invoke/MethodHandle" ∧ y.cls ≠ "java/lang/invoke/VarHandle" ∧ (parseMethodDescriptor y.desc).map (fun d => d.parameters.length) = some n) (hR : fr + 1 ≤ R.frames ∧ 8 + (maxL + 11) + lo ≤ R.locals)
    (hK : GW D k s) (hP : va_P D vwCl ws H) (is : List Nat) (hs : is.filterMap (fun i => ws[i]?) = wc) (q0 : Nat) (he : wc[q0]? = some (b, .inr (ci, fs))) (hc : vwCl[ci]? = some (C, T, N)) (hn : As.length = n) (hsz : ls.size = nL) (hst : st0 = As.reverse ++ .ref b :: rest) (hW : (rest.map fun v => v.category).sum ≤ 8) (hdg : decode cc pc = .ok (.invokevirtual index, 3)) (hf : cells ≤ R.cells ∧ slots ≤ R.slots)
    (kk : ∀ r : Int32, post r → W p l e R s m args below meth c H locs cells slots Q (F0 m (pc + 3) ls (.int r :: rest))) : W p l e R s m args below meth c H locs cells slots Q (F0 m pc ls st0) := by
  have hPc := hP.sub is hs
  exact vp_callSi (va_runV (g := F0 m pc ls st0) S hM (cwV n S.2.2.2.2 hG hw rfl rfl hd hR) ⟨blindR, va_recv hK.1 hPc hc he, fun U hU hW => ⟨rfl, by rw [hU]; exact hPc, hK.warm hW⟩⟩ rfl hn hsz hst (by show 2 * 0 + _ ≤ 8; omega) hdg hf).run kk
theorem roS {post : Int32 → Prop} (S : CallFix p m c cc nL s args Ts own) (hM : RO l D k y wy fr lo As wc post) (hG : GoodIn Ts (va_wsS own index y wy)) (hw : wy = Cond.code y bytes maxL ret :: wy') (hd : y.cls ≠ "java/lang/invoke/MethodHandle" ∧ y.cls ≠ "java/lang/invoke/VarHandle" ∧ (parseMethodDescriptor y.desc).map (fun d => d.parameters.length) = some n) (hR : fr + 1 ≤ R.frames ∧ 8 + (maxL + 11) + lo ≤ R.locals)
    (hK : GW D k s) (hP : va_P D vwCl ws H) (is : List Nat) (hs : is.filterMap (fun i => ws[i]?) = wc) (hn : As.length = n) (hsz : ls.size = nL) (hst : st0 = As.reverse ++ rest) (hW : (rest.map fun v => v.category).sum ≤ 8) (hdg : decode cc pc = .ok (.invokestatic index, 3)) (hf : cells ≤ R.cells ∧ slots ≤ R.slots)
    (kk : ∀ r : Int32, post r → W p l e R s m args below meth c H locs cells slots Q (F0 m (pc + 3) ls (.int r :: rest))) : W p l e R s m args below meth c H locs cells slots Q (F0 m pc ls st0) := by
  have hPc := hP.sub is hs
  exact vp_callSi (va_runS (g := F0 m pc ls st0) S hM (va_cwS n S.2.2.2.2 hG hw rfl rfl hd hR) ⟨blindR, fun U hU hW => ⟨rfl, by rw [hU]; exact hPc, hK.warm hW⟩⟩ rfl hn hsz hst (by show 2 * 0 + _ ≤ 8; omega) hdg hf).run kk
theorem roSN {post : Int32 → Prop} (S : CallFix p m c cc nL s args Ts own) (hM : RO l D k y wy fr lo As wc post) (hG : GoodIn Ts wy) (hw : wy = Cond.code y bytes maxL ret :: wy') (hl : va_Nw (.methodLinkNest own index y host) s) (hini : (Cond.initialized y.cls).before args s = true) (hst0 : (Cond.static y).before args s = true) (hd : y.cls ≠ "java/lang/invoke/MethodHandle" ∧ y.cls ≠ "java/lang/invoke/VarHandle" ∧ (parseMethodDescriptor y.desc).map (fun d => d.parameters.length) = some n) (hR : fr + 1 ≤ R.frames ∧ 8 + (maxL + 11) + lo ≤ R.locals)
    (hK : GW D k s) (hP : va_P D vwCl ws H) (is : List Nat) (hs : is.filterMap (fun i => ws[i]?) = wc) (hn : As.length = n) (hsz : ls.size = nL) (hst : st0 = As.reverse ++ rest) (hW : (rest.map fun v => v.category).sum ≤ 8) (hdg : decode cc pc = .ok (.invokestatic index, 3)) (hf : cells ≤ R.cells ∧ slots ≤ R.slots)
    (kk : ∀ r : Int32, post r → W p l e R s m args below meth c H locs cells slots Q (F0 m (pc + 3) ls (.int r :: rest))) : W p l e R s m args below meth c H locs cells slots Q (F0 m pc ls st0) := by
  have hPc := hP.sub is hs
  exact vp_callSi (va_runSN (g := F0 m pc ls st0) S hM ⟨va_cnB n S.2.2.2.2 hG hw rfl rfl hl hini hd hR, hst0, trivial⟩ ⟨blindR, fun U hU hW => ⟨rfl, by rw [hU]; exact hPc, hK.warm hW⟩⟩ rfl hn hsz hst (by show 2 * 0 + _ ≤ 8; omega) hdg hf).run kk
theorem muV {Sy : Type} {post : Sy → Prop} {w' : Sy → va_W} (S : CallFix p m c cc nL s args Ts own) (hM : MU l D k y wy fr lo (.ref b :: As) wc post w') (hG : GoodIn Ts (wsV own index C y wy)) (hw : wy = Cond.code y bytes maxL ret :: wy') (hd : y.cls = C ∧ y.cls ≠ "java/lang/invoke/MethodHandle" ∧ y.cls ≠ "java/lang/invoke/VarHandle" ∧ (parseMethodDescriptor y.desc).map (fun d => d.parameters.length) = some n) (hR : fr + 1 ≤ R.frames ∧ 8 + (maxL + 11) + lo ≤ R.locals)
    (hK : GW D k s) (hP : va_P D vwCl ws H) (hD : va_D A0 ws) (hS : va_S A0 H0 H locs) (is : List Nat) (hs : is.filterMap (fun i => ws[i]?) = wc) (hC : is.map (fun i => ws[i]?) = wc.map some) (hnd : va_nd is = true) (hl : ∀ u, (w' u).length = is.length) (ha : ∀ u, (sA ws is (w' u)).map Prod.fst = ws.map Prod.fst) (q0 : Nat) (he : wc[q0]? = some (b, .inr (ci, fs))) (hc : vwCl[ci]? = some (C, T, N)) (hn : As.length = n) (hsz : ls.size = nL) (hst : st0 = As.reverse ++ .ref b :: rest) (hW : (rest.map fun v => v.category).sum ≤ 8) (hdg : decode cc pc = .ok (.invokevirtual index, 3)) (hf : cells ≤ R.cells ∧ slots ≤ R.slots)
    (kk : ∀ (u : Sy) (H1 : Heap) (locs1 : List Loc), post u → va_P D vwCl (sA ws is (w' u)) H1 → va_D A0 (sA ws is (w' u)) → va_S A0 H0 H1 locs1 → W p l e R s m args below meth c H1 locs1 cells slots Q (F0 m (pc + 3) ls rest)) : W p l e R s m args below meth c H locs cells slots Q (F0 m pc ls st0) := by
  have hPc := hP.sub is hs
  have hDc : va_D (fun _ => True) wc := (hD.sub is hnd hC).weaken (fun _ _ _ _ => trivial)
  have hF := fA_sub hD is hC
  refine va_callv (va_runV (g := F0 m pc ls st0) S hM (cwV n S.2.2.2.2 hG hw rfl rfl hd hR) ⟨blindM, va_recv hK.1 hPc hc he, fun U hU hW => ⟨rfl, by rw [hU]; exact hPc, hK.warm hW, hDc⟩⟩ rfl hn hsz hst (by show 2 * 0 + _ ≤ 8; omega) hdg hf) hS (fun q _ h => hF q h) hF (fun u t H1 locs1 ht hvm hp hB hz1 hk1 hS1 => ?_)
  rw [ht] at hB
  obtain ⟨h1, h2⟩ := jn hP hD is hC hk1 hB (hl u) (ha u)
  exact kk u H1 locs1 hp h1 h2 hS1
theorem miV {Sy : Type} {post : Int32 → Sy → Prop} {w' : Sy → va_W} (S : CallFix p m c cc nL s args Ts own) (hM : MI l D k y wy fr lo (.ref b :: As) wc post w') (hG : GoodIn Ts (wsV own index C y wy)) (hw : wy = Cond.code y bytes maxL ret :: wy') (hd : y.cls = C ∧ y.cls ≠ "java/lang/invoke/MethodHandle" ∧ y.cls ≠ "java/lang/invoke/VarHandle" ∧ (parseMethodDescriptor y.desc).map (fun d => d.parameters.length) = some n) (hR : fr + 1 ≤ R.frames ∧ 8 + (maxL + 11) + lo ≤ R.locals)
    (hK : GW D k s) (hP : va_P D vwCl ws H) (hD : va_D A0 ws) (hS : va_S A0 H0 H locs) (is : List Nat) (hs : is.filterMap (fun i => ws[i]?) = wc) (hC : is.map (fun i => ws[i]?) = wc.map some) (hnd : va_nd is = true) (hl : ∀ u, (w' u).length = is.length) (ha : ∀ u, (sA ws is (w' u)).map Prod.fst = ws.map Prod.fst) (q0 : Nat) (he : wc[q0]? = some (b, .inr (ci, fs))) (hc : vwCl[ci]? = some (C, T, N)) (hn : As.length = n) (hsz : ls.size = nL) (hst : st0 = As.reverse ++ .ref b :: rest) (hW : (rest.map fun v => v.category).sum ≤ 8) (hdg : decode cc pc = .ok (.invokevirtual index, 3)) (hf : cells ≤ R.cells ∧ slots ≤ R.slots)
    (kk : ∀ (r : Int32) (u : Sy) (H1 : Heap) (locs1 : List Loc), post r u → va_P D vwCl (sA ws is (w' u)) H1 → va_D A0 (sA ws is (w' u)) → va_S A0 H0 H1 locs1 → W p l e R s m args below meth c H1 locs1 cells slots Q (F0 m (pc + 3) ls (.int r :: rest))) : W p l e R s m args below meth c H locs cells slots Q (F0 m pc ls st0) := by
  have hPc := hP.sub is hs
  have hDc : va_D (fun _ => True) wc := (hD.sub is hnd hC).weaken (fun _ _ _ _ => trivial)
  have hF := fA_sub hD is hC
  refine va_calli (va_runV (g := F0 m pc ls st0) S hM (cwV n S.2.2.2.2 hG hw rfl rfl hd hR) ⟨blindM, va_recv hK.1 hPc hc he, fun U hU hW => ⟨rfl, by rw [hU]; exact hPc, hK.warm hW, hDc⟩⟩ rfl hn hsz hst (by show 2 * 0 + _ ≤ 8; omega) hdg hf) hS (fun q _ h => hF q h) hF (fun r u t H1 locs1 ht hvm hp hB hz1 hk1 hS1 => ?_)
  rw [ht] at hB
  obtain ⟨h1, h2⟩ := jn hP hD is hC hk1 hB (hl u) (ha u)
  exact kk r u H1 locs1 hp h1 h2 hS1
theorem mlV {Sy : Type} {post : Int64 → Sy → Prop} {w' : Sy → va_W} (S : CallFix p m c cc nL s args Ts own) (hM : ML l D k y wy fr lo (.ref b :: As) wc post w') (hG : GoodIn Ts (wsV own index C y wy)) (hw : wy = Cond.code y bytes maxL ret :: wy') (hd : y.cls = C ∧ y.cls ≠ "java/lang/invoke/MethodHandle" ∧ y.cls ≠ "java/lang/invoke/VarHandle" ∧ (parseMethodDescriptor y.desc).map (fun d => d.parameters.length) = some n) (hR : fr + 1 ≤ R.frames ∧ 8 + (maxL + 11) + lo ≤ R.locals)
    (hK : GW D k s) (hP : va_P D vwCl ws H) (hD : va_D A0 ws) (hS : va_S A0 H0 H locs) (is : List Nat) (hs : is.filterMap (fun i => ws[i]?) = wc) (hC : is.map (fun i => ws[i]?) = wc.map some) (hnd : va_nd is = true) (hl : ∀ u, (w' u).length = is.length) (ha : ∀ u, (sA ws is (w' u)).map Prod.fst = ws.map Prod.fst) (q0 : Nat) (he : wc[q0]? = some (b, .inr (ci, fs))) (hc : vwCl[ci]? = some (C, T, N)) (hn : As.length = n) (hsz : ls.size = nL) (hst : st0 = As.reverse ++ .ref b :: rest) (hW : (rest.map fun v => v.category).sum ≤ 8) (hdg : decode cc pc = .ok (.invokevirtual index, 3)) (hf : cells ≤ R.cells ∧ slots ≤ R.slots)
    (kk : ∀ (r : Int64) (u : Sy) (H1 : Heap) (locs1 : List Loc), post r u → va_P D vwCl (sA ws is (w' u)) H1 → va_D A0 (sA ws is (w' u)) → va_S A0 H0 H1 locs1 → W p l e R s m args below meth c H1 locs1 cells slots Q (F0 m (pc + 3) ls (.long r :: rest))) : W p l e R s m args below meth c H locs cells slots Q (F0 m pc ls st0) := by
  have hPc := hP.sub is hs
  have hDc : va_D (fun _ => True) wc := (hD.sub is hnd hC).weaken (fun _ _ _ _ => trivial)
  have hF := fA_sub hD is hC
  refine va_calll (va_runV (g := F0 m pc ls st0) S hM (cwV n S.2.2.2.2 hG hw rfl rfl hd hR) ⟨blindM, va_recv hK.1 hPc hc he, fun U hU hW => ⟨rfl, by rw [hU]; exact hPc, hK.warm hW, hDc⟩⟩ rfl hn hsz hst (by show 2 * 0 + _ ≤ 8; omega) hdg hf) hS (fun q _ h => hF q h) hF (fun r u t H1 locs1 ht hvm hp hB hz1 hk1 hS1 => ?_)
  rw [ht] at hB
  obtain ⟨h1, h2⟩ := jn hP hD is hC hk1 hB (hl u) (ha u)
  exact kk r u H1 locs1 hp h1 h2 hS1
theorem mrV {ra : Nat} {Sy : Type} {post : Sy → Prop} {w' : Sy → va_W} (S : CallFix p m c cc nL s args Ts own) (hM : MR l D k y wy fr lo (.ref b :: As) wc ra post w') (hG : GoodIn Ts (wsV own index C y wy)) (hw : wy = Cond.code y bytes maxL ret :: wy') (hd : y.cls = C ∧ y.cls ≠ "java/lang/invoke/MethodHandle" ∧ y.cls ≠ "java/lang/invoke/VarHandle" ∧ (parseMethodDescriptor y.desc).map (fun d => d.parameters.length) = some n) (hR : fr + 1 ≤ R.frames ∧ 8 + (maxL + 11) + lo ≤ R.locals)
    (hK : GW D k s) (hP : va_P D vwCl ws H) (hD : va_D A0 ws) (hS : va_S A0 H0 H locs) (is : List Nat) (hs : is.filterMap (fun i => ws[i]?) = wc) (hC : is.map (fun i => ws[i]?) = wc.map some) (hnd : va_nd is = true) (hl : ∀ u, (w' u).length = is.length) (ha : ∀ u, (sA ws is (w' u)).map Prod.fst = ws.map Prod.fst) (q0 : Nat) (he : wc[q0]? = some (b, .inr (ci, fs))) (hc : vwCl[ci]? = some (C, T, N)) (hn : As.length = n) (hsz : ls.size = nL) (hst : st0 = As.reverse ++ .ref b :: rest) (hW : (rest.map fun v => v.category).sum ≤ 8) (hdg : decode cc pc = .ok (.invokevirtual index, 3)) (hf : cells ≤ R.cells ∧ slots ≤ R.slots)
    (kk : ∀ (u : Sy) (H1 : Heap) (locs1 : List Loc), post u → va_P D vwCl (sA ws is (w' u)) H1 → va_D A0 (sA ws is (w' u)) → va_S A0 H0 H1 locs1 → W p l e R s m args below meth c H1 locs1 cells slots Q (F0 m (pc + 3) ls (.ref ra :: rest))) : W p l e R s m args below meth c H locs cells slots Q (F0 m pc ls st0) := by
  have hPc := hP.sub is hs
  have hDc : va_D (fun _ => True) wc := (hD.sub is hnd hC).weaken (fun _ _ _ _ => trivial)
  have hF := fA_sub hD is hC
  refine va_callr (va_runV (g := F0 m pc ls st0) S hM (cwV n S.2.2.2.2 hG hw rfl rfl hd hR) ⟨blindM, va_recv hK.1 hPc hc he, fun U hU hW => ⟨rfl, by rw [hU]; exact hPc, hK.warm hW, hDc⟩⟩ rfl hn hsz hst (by show 2 * 0 + _ ≤ 8; omega) hdg hf) hS (fun q _ h => hF q h) hF (fun u ra1 t H1 locs1 ht hvm hp hB hz1 hk1 hS1 => ?_)
  obtain ⟨he1, hB⟩ := hB
  subst he1
  rw [ht] at hB
  obtain ⟨h1, h2⟩ := jn hP hD is hC hk1 hB (hl u) (ha u)
  exact kk u H1 locs1 hp h1 h2 hS1
theorem muS {Sy : Type} {post : Sy → Prop} {w' : Sy → va_W} (S : CallFix p m c cc nL s args Ts own) (hM : MU l D k y wy fr lo As wc post w') (hG : GoodIn Ts (va_wsS own index y wy)) (hw : wy = Cond.code y bytes maxL ret :: wy') (hd : y.cls ≠ "java/lang/invoke/MethodHandle" ∧ y.cls ≠ "java/lang/invoke/VarHandle" ∧ (parseMethodDescriptor y.desc).map (fun d => d.parameters.length) = some n) (hR : fr + 1 ≤ R.frames ∧ 8 + (maxL + 11) + lo ≤ R.locals)
    (hK : GW D k s) (hP : va_P D vwCl ws H) (hD : va_D A0 ws) (hS : va_S A0 H0 H locs) (is : List Nat) (hs : is.filterMap (fun i => ws[i]?) = wc) (hC : is.map (fun i => ws[i]?) = wc.map some) (hnd : va_nd is = true) (hl : ∀ u, (w' u).length = is.length) (ha : ∀ u, (sA ws is (w' u)).map Prod.fst = ws.map Prod.fst) (hn : As.length = n) (hsz : ls.size = nL) (hst : st0 = As.reverse ++ rest) (hW : (rest.map fun v => v.category).sum ≤ 8) (hdg : decode cc pc = .ok (.invokestatic index, 3)) (hf : cells ≤ R.cells ∧ slots ≤ R.slots)
    (kk : ∀ (u : Sy) (H1 : Heap) (locs1 : List Loc), post u → va_P D vwCl (sA ws is (w' u)) H1 → va_D A0 (sA ws is (w' u)) → va_S A0 H0 H1 locs1 → W p l e R s m args below meth c H1 locs1 cells slots Q (F0 m (pc + 3) ls rest)) : W p l e R s m args below meth c H locs cells slots Q (F0 m pc ls st0) := by
  have hPc := hP.sub is hs
  have hDc : va_D (fun _ => True) wc := (hD.sub is hnd hC).weaken (fun _ _ _ _ => trivial)
  have hF := fA_sub hD is hC
  refine va_callv (va_runS (g := F0 m pc ls st0) S hM (va_cwS n S.2.2.2.2 hG hw rfl rfl hd hR) ⟨blindM, fun U hU hW => ⟨rfl, by rw [hU]; exact hPc, hK.warm hW, hDc⟩⟩ rfl hn hsz hst (by show 2 * 0 + _ ≤ 8; omega) hdg hf) hS (fun q _ h => hF q h) hF (fun u t H1 locs1 ht hvm hp hB hz1 hk1 hS1 => ?_)
  rw [ht] at hB
  obtain ⟨h1, h2⟩ := jn hP hD is hC hk1 hB (hl u) (ha u)
  exact kk u H1 locs1 hp h1 h2 hS1
end OK1
