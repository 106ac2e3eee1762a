/-! CONSTRUCTORS: contracts that make cells -/
theorem va_AOA.mv {t : FieldType} {u U : State} (hal : u.vm.Alike U.vm) (h : va_AOA t u) : va_AOA t U := by
  have h0 : (Cond.arrayOver (.array t)).holds #[] u none u [] = true := h
  simp only [Cond.holds, Cond.value, beq_iff_eq, Option.bind_eq_some_iff, Option.map_eq_some_iff] at h0
  obtain ⟨comp, h1, c, h2, k, h3, h4⟩ := h0
  obtain ⟨k', hk', he⟩ := hal.2.2 _ _ h3
  have hkk : k'.kind = k.kind := by rw [he]
  show (Cond.arrayOver (.array t)).holds #[] U none U [] = true
  simp only [Cond.holds, Cond.value, beq_iff_eq, Option.bind_eq_some_iff, Option.map_eq_some_iff]
  refine ⟨comp, by rw [hal.findClass]; exact h1, c, (hal.findIdx?_eqK _ (fun _ => rfl)).trans h2, k', hk', ?_⟩
  rw [hkk, hal.findClass]
  exact h4
def NC (U : State) : Prop := va_Nw (.methodLinkNest RX9 18 yX8_init RX9) U ∧ va_Nw (.methodLinkNest RX9 25 yX4_init RX9) U ∧ va_Nw (.methodLinkNest RX9 32 yX2_init RX9) U ∧ va_Nw (.methodLinkNest RX9 39 yX3_init RX9) U ∧ va_Nw (.methodLinkNest RX9 46 yX0_init RX9) U ∧ va_Nw (.methodLinkNest RX9 53 yX1_init RX9) U ∧ va_Nw (.methodLinkNest RX2 20 yX5_init RX9) U ∧ va_Nw (.methodLinkNest RX8 11 yX5_init RX9) U ∧ va_Nw (.methodLinkNest RX8 20 yX6_init RX9) U
def GC (D : va_G) (k : Kt) (U : State) : Prop := GW D k U ∧ NC U ∧ va_AOA .int U
theorem GC.warm {D : va_G} {k : Kt} {s U : State} (hW : s.WarmedH U.vm) (h : GC D k s) : GC D k U := ⟨h.1.warm hW, ⟨va_Nw.warmM hW h.2.1.1, va_Nw.warmM hW h.2.1.2.1, va_Nw.warmM hW h.2.1.2.2.1, va_Nw.warmM hW h.2.1.2.2.2.1, va_Nw.warmM hW h.2.1.2.2.2.2.1, va_Nw.warmM hW h.2.1.2.2.2.2.2.1, va_Nw.warmM hW h.2.1.2.2.2.2.2.2.1, va_Nw.warmM hW h.2.1.2.2.2.2.2.2.2.1, va_Nw.warmM hW h.2.1.2.2.2.2.2.2.2.2⟩, va_AOA.mv hW.alike h.2.2⟩
theorem GC.calling {D : va_G} {k : Kt} {U : State} {g : JFrame} {mk : MethodId} {a : Array Value} (h : GC D k U) : GC D k (U.calling g mk a) := ⟨h.1.calling, ⟨va_Nw.same rfl rfl h.2.1.1, va_Nw.same rfl rfl h.2.1.2.1, va_Nw.same rfl rfl h.2.1.2.2.1, va_Nw.same rfl rfl h.2.1.2.2.2.1, va_Nw.same rfl rfl h.2.1.2.2.2.2.1, va_Nw.same rfl rfl h.2.1.2.2.2.2.2.1, va_Nw.same rfl rfl h.2.1.2.2.2.2.2.2.1, va_Nw.same rfl rfl h.2.1.2.2.2.2.2.2.2.1, va_Nw.same rfl rfl h.2.1.2.2.2.2.2.2.2.2⟩, va_AOA.mv (u := U) (U := U.calling g mk a) (Vm.Alike.refl U.vm) h.2.2⟩
def MK (l : Launch) (D : va_G) (k : Kt) (y : MethodName) (wy : List Cond) (fr lo mc ms sz h0 ci : Nat) (fs : List Value) {S : Type} (w' : S → va_W) : Prop :=
  Met l y wy ({ frames := fr, cells := mc, slots := ms, locals := lo }) (va_Pc [.ref h0] (fun U => U.heap.size = sz ∧ va_P D vwCl [(h0, .inr (ci, fs))] U.heap ∧ GC D k U ∧ va_D (fun _ => True) [(h0, .inr (ci, fs))])) (va_Qv (fun _ : S => True) (fun u t => va_P D vwCl (w' u) t.heap ∧ va_D (va_A [(h0, .inr (ci, fs))] sz) (w' u)) (va_A [(h0, .inr (ci, fs))] sz)) mc ms (va_A [(h0, .inr (ci, fs))] sz)
theorem blindK {D : va_G} {k : Kt} {sz h0 ci : Nat} {fs : List Value} : FrameBlind (va_Pc [.ref h0] (fun U => U.heap.size = sz ∧ va_P D vwCl [(h0, .inr (ci, fs))] U.heap ∧ GC D k U ∧ va_D (fun _ => True) [(h0, .inr (ci, fs))])) := fun a U g mk q => ⟨q.1, q.2.1, q.2.2.1, q.2.2.2.1.calling, q.2.2.2.2⟩
theorem zL_0 : zL 0 = 0 := by decide +kernel
theorem kA_i {D : va_G} {cl : List vw_C} {k : Kt} {s : State} {cA : ClassId} (hK : va_K D cl (KT k) s) (h : va_K D cl (KT k ++ [(cA, .int)]) s) : cA = k.1 := Option.some.inj ((show s.vm.findClass ("[" ++ FieldType.int.toString) = some cA from (h.2 4 _ rfl).2).symm.trans (show s.vm.findClass ("[" ++ FieldType.int.toString) = some k.1 from (hK.2 0 _ rfl).2))
theorem kA_z {D : va_G} {cl : List vw_C} {k : Kt} {s : State} {cA : ClassId} (hK : va_K D cl (KT k) s) (h : va_K D cl (KT k ++ [(cA, .boolean)]) s) : cA = k.2.1 := Option.some.inj ((show s.vm.findClass ("[" ++ FieldType.boolean.toString) = some cA from (h.2 4 _ rfl).2).symm.trans (show s.vm.findClass ("[" ++ FieldType.boolean.toString) = some k.2.1 from (hK.2 1 _ rfl).2))
theorem kA_l {D : va_G} {cl : List vw_C} {k : Kt} {s : State} {cA : ClassId} (hK : va_K D cl (KT k) s) (h : va_K D cl (KT k ++ [(cA, .long)]) s) : cA = k.2.2.1 := Option.some.inj ((show s.vm.findClass ("[" ++ FieldType.long.toString) = some cA from (h.2 4 _ rfl).2).symm.trans (show s.vm.findClass ("[" ++ FieldType.long.toString) = some k.2.2.1 from (hK.2 2 _ rfl).2))
theorem kA_q {D : va_G} {cl : List vw_C} {k : Kt} {s : State} {cA : ClassId} (hK : va_K D cl (KT k) s) (h : va_K D cl (KT k ++ [(cA, .array .int)]) s) : cA = k.2.2.2 := Option.some.inj ((show s.vm.findClass ("[" ++ (FieldType.array .int).toString) = some cA from (h.2 4 _ rfl).2).symm.trans (show s.vm.findClass ("[" ++ (FieldType.array .int).toString) = some k.2.2.2 from (hK.2 3 _ rfl).2))
section OK2
variable {p : Program} {l : Launch} {e : Env} {R : Room} {s : State} {m : MethodId} {args : Array Value} {below : List Frame} {meth : Method} {c : Code} {H H0 : Heap} {locs : List Loc} {cells slots : Nat} {Q : State → Prop}
  {Ts wy wy' : List Cond} {cc bytes : ByteArray} {nL maxL index n pc fr lo ci N mc ms : Nat} {own C host : String} {T : u_T} {y : MethodName} {ret : Option FieldType} {b : Nat} {fs : List Value}
  {rest st0 : List Value} {ls : Array Slot} {D : va_G} {k : Kt} {ws wc : va_W} {A A0 : Nat → Prop}
theorem zI_len {N : Nat} (h : N < 2147483648) : ¬ zI (N : Int) < 0 ∧ (zI (N : Int)).toNatClampNeg = N := by
  have h1 : (zI (N : Int)).toInt = (N : Int) := zI_toInt (by omega)
  refine ⟨fun q => ?_, ?_⟩
  · have q2 : (zI (N : Int)).toInt < (0 : Int32).toInt := Int32.lt_iff_toInt_lt.mp q
    rw [h1] at q2
    have : (0 : Int32).toInt = 0 := by decide +kernel
    omega
  · show (zI (N : Int)).toInt.toNat = N
    rw [h1]
    omega
theorem z_newi (hx : p.tables.exec = Jvm.exec) (hb : c.code = cc) (harr : (Cond.arrayClass .int).before args s = true) (hK : GC D k s) (hP : va_P D vwCl ws H) (hD : va_D A ws) (hS : va_S A H0 H locs) (hA : ∀ q, H0.size ≤ q → A q) (N : Nat) (hN : N ≤ 100000) (hcells : cells + 1 ≤ R.cells) (hslots : slots + N ≤ R.slots) (hdg : decode cc pc = .ok (.newarray .int, 2))
    (kk : ∀ (q : Nat) (H1 : Heap), va_P D vwCl (ws ++ [(q, .inl (k.1, N, .inl (zF (fun _ => 0))))]) H1 → va_D A (ws ++ [(q, .inl (k.1, N, .inl (zF (fun _ => 0))))]) → va_S A H0 H1 locs → W p l e R s m args below meth c H1 locs (cells + 1) (slots + N) Q (F0 m (pc + 2) ls (.ref q :: rest))) : W p l e R s m args below meth c H locs cells slots Q (F0 m pc ls (.int (zI (N : Int)) :: rest)) := by
  obtain ⟨h1, h2⟩ := zI_len (N := N) (by omega)
  refine va_newa (atype := .int) (ty := .int) (a0 := (N, .inl (zF (fun _ => 0)))) hx hb harr rfl hK.1.1 hP hD hS hA (fun cA => ?_) h1 h2 (by show N * 4 ≤ _; omega) hcells hslots hdg (fun q cA H1 hK2 hP2 hD2 hS2 => ?_)
  · show arrV cA N (fun j => .int (zI 0)) = arrV cA N (fun _ => .int 0)
    rw [zI_0]
  · cases kA_i hK.1.1 hK2
    exact kk q H1 hP2 hD2 hS2
theorem z_newz (hx : p.tables.exec = Jvm.exec) (hb : c.code = cc) (harr : (Cond.arrayClass .boolean).before args s = true) (hK : GC D k s) (hP : va_P D vwCl ws H) (hD : va_D A ws) (hS : va_S A H0 H locs) (hA : ∀ q, H0.size ≤ q → A q) (N : Nat) (hN : N ≤ 100000) (hcells : cells + 1 ≤ R.cells) (hslots : slots + N ≤ R.slots) (hdg : decode cc pc = .ok (.newarray .boolean, 2))
    (kk : ∀ (q : Nat) (H1 : Heap), va_P D vwCl (ws ++ [(q, .inl (k.2.1, N, .inl (zF (fun _ => 0))))]) H1 → va_D A (ws ++ [(q, .inl (k.2.1, N, .inl (zF (fun _ => 0))))]) → va_S A H0 H1 locs → W p l e R s m args below meth c H1 locs (cells + 1) (slots + N) Q (F0 m (pc + 2) ls (.ref q :: rest))) : W p l e R s m args below meth c H locs cells slots Q (F0 m pc ls (.int (zI (N : Int)) :: rest)) := by
  obtain ⟨h1, h2⟩ := zI_len (N := N) (by omega)
  refine va_newa (atype := .boolean) (ty := .boolean) (a0 := (N, .inl (zF (fun _ => 0)))) hx hb harr rfl hK.1.1 hP hD hS hA (fun cA => ?_) h1 h2 (by show N * 1 ≤ _; omega) hcells hslots hdg (fun q cA H1 hK2 hP2 hD2 hS2 => ?_)
  · show arrV cA N (fun j => .int (zI 0)) = arrV cA N (fun _ => .int 0)
    rw [zI_0]
  · cases kA_z hK.1.1 hK2
    exact kk q H1 hP2 hD2 hS2
theorem z_newl (hx : p.tables.exec = Jvm.exec) (hb : c.code = cc) (harr : (Cond.arrayClass .long).before args s = true) (hK : GC D k s) (hP : va_P D vwCl ws H) (hD : va_D A ws) (hS : va_S A H0 H locs) (hA : ∀ q, H0.size ≤ q → A q) (N : Nat) (hN : N ≤ 100000) (hcells : cells + 1 ≤ R.cells) (hslots : slots + N ≤ R.slots) (hdg : decode cc pc = .ok (.newarray .long, 2))
    (kk : ∀ (q : Nat) (H1 : Heap), va_P D vwCl (ws ++ [(q, .inl (k.2.2.1, N, .inr (.inl (zG (fun _ => 0)))))]) H1 → va_D A (ws ++ [(q, .inl (k.2.2.1, N, .inr (.inl (zG (fun _ => 0)))))]) → va_S A H0 H1 locs → W p l e R s m args below meth c H1 locs (cells + 1) (slots + N) Q (F0 m (pc + 2) ls (.ref q :: rest))) : W p l e R s m args below meth c H locs cells slots Q (F0 m pc ls (.int (zI (N : Int)) :: rest)) := by
  obtain ⟨h1, h2⟩ := zI_len (N := N) (by omega)
  refine va_newa (atype := .long) (ty := .long) (a0 := (N, .inr (.inl (zG (fun _ => 0))))) hx hb harr rfl hK.1.1 hP hD hS hA (fun cA => ?_) h1 h2 (by show N * 8 ≤ _; omega) hcells hslots hdg (fun q cA H1 hK2 hP2 hD2 hS2 => ?_)
  · show arrV cA N (fun j => .long (zL 0)) = arrV cA N (fun _ => .long 0)
    rw [zL_0]
  · cases kA_l hK.1.1 hK2
    exact kk q H1 hP2 hD2 hS2
/-- new int[N][M] -/
theorem z_mna (hx : p.tables.exec = Jvm.exec) (hb : c.code = cc) (hown : s.vm.findClass own = some m.cls) (hcl : (Cond.classLink own index "[[I").before args s = true) (harr : (Cond.arrayClass .int).before args s = true) (hK : GC D k s) (hP : va_P D vwCl ws H) (hD : va_D A ws) (hS : va_S A H0 H locs) (hA : ∀ q, H0.size ≤ q → A q) (N M : Nat) (hN : N ≤ 1000) (hM : M ≤ 1000) (hcells : cells + (1 + N) ≤ R.cells) (hslots : slots + (N + N * M) ≤ R.slots) (hdg : decode cc pc = .ok (.multianewarray index 2, 4))
    (kk : ∀ (q : Nat) (r : Nat → Nat) (H1 : Heap), va_P D vwCl ((ws ++ [(q, .inl (k.2.2.2, N, .inr (.inr (.inr (.inr (fun i => if i < N then some (r i) else none))))))]) ++ (List.range N).map (fun i => (r i, .inl (k.1, M, .inl (zF (fun _ => 0)))))) H1 → va_D A ((ws ++ [(q, .inl (k.2.2.2, N, .inr (.inr (.inr (.inr (fun i => if i < N then some (r i) else none))))))]) ++ (List.range N).map (fun i => (r i, .inl (k.1, M, .inl (zF (fun _ => 0)))))) → va_S A H0 H1 locs → W p l e R s m args below meth c H1 locs (cells + 1 + N) (slots + N + N * M) Q (F0 m (pc + 4) ls (.ref q :: rest))) : W p l e R s m args below meth c H locs cells slots Q (F0 m pc ls (.int (zI (M : Int)) :: .int (zI (N : Int)) :: rest)) := by
  obtain ⟨h1, h2⟩ := zI_len (N := N) (by omega)
  obtain ⟨h3, h4⟩ := zI_len (N := M) (by omega)
  have hrow : ∀ (r : Nat → Nat), va_pl ([] ++ (List.range N).map r) (vr_up (fun _ => .inl (k.1, M, .inl (zF (fun _ => 0)))) ((List.range N).map r) (.inl (k.1, M, .inl (zF (fun _ => 0))))) = (List.range N).map (fun i => (r i, .inl (k.1, M, .inl (zF (fun _ => 0))))) := fun r => by
    unfold va_pl
    rw [List.nil_append, List.map_map]
    apply List.map_congr_left
    intro a ha
    show (r a, vr_up _ _ _ (r a)) = _
    rw [vr_up_in (List.mem_map.mpr ⟨a, ha, rfl⟩)]
  refine va_mna (X := ws) (L := []) (f := fun _ => .inl (k.1, M, .inl (zF (fun _ => 0)))) (ty := .int) (cy := k.1) (z := (M, .inl (zF (fun _ => 0)))) hx hb hown hcl hK.2.2 harr (hK.1.1.2 0 _ rfl).2 hK.1.1 (by rw [show va_pl [] _ = [] from rfl, List.append_nil]; exact hP) (by rw [show va_pl [] _ = [] from rfl, List.append_nil]; exact hD) hS hA h1 h3 h2 h4 (by omega) (by show M * 4 ≤ _; omega) (by omega) rfl rfl hcells hslots (fun cA => ?_) hdg (fun q r cA H1 _ _ hK2 hP2 hD2 hS2 => ?_)
  · show ({ cls := cA, slots := Array.replicate M (.int 0), vm := .none } : Cell) = arrV cA M (fun _ => .int (zI 0))
    rw [arrV_new, zI_0]
  · cases kA_q hK.1.1 hK2
    rw [hrow r] at hP2 hD2
    exact kk q r H1 hP2 hD2 hS2
theorem mkJ {Sy : Type} {w' : Sy → va_W} {x : Nat × va_E} (hP : va_P D vwCl (ws ++ [x]) H) (hD : va_D A0 (ws ++ [x])) {H1 : Heap} {u : Sy} (hk : ∀ q : Nat, q < H.size → ¬ va_A [x] H.size q → H1[q]? = H[q]?) (hF : ∀ q, va_A [x] H.size q → A0 q) (hP1 : va_P D vwCl (w' u) H1) (hD1 : va_D (va_A [x] H.size) (w' u)) : va_P D vwCl (ws ++ w' u) H1 ∧ va_D A0 (ws ++ w' u) := by
  have hne : ∀ (i : Nat) (q : Nat × va_E), ws[i]? = some q → ¬ va_A [x] H.size q.1 := fun i q hq => by
    intro ha
    rcases ha with ⟨j, e, hj⟩ | ha
    · have : j = 0 := by
        have := (List.getElem?_eq_some_iff.mp hj).1
        simp at this
        omega
      subst this
      cases hj
      exact D_x hD i 0 q _ hq rfl rfl
    · have := (P_l hP i q hq).lt
      omega
  have hPw : va_P D vwCl ws H1 := fun i q hq => (P_l hP i q hq).kept (hk q.1 (P_l hP i q hq).lt (hne i q hq))
  exact ⟨hPw.app hP1, va_D.app (D_l hD) (hD1.weaken (fun i q hq h => hF _ h)) (fun i j a b ha hb hab => hne i a ha (hab ▸ hD1.2 j b hb))⟩
theorem mkI {Sy : Type} {w' : Sy → va_W} (S : CallFix p m c cc nL s args Ts own) (hM : MK l D k y wy fr lo mc ms H.size b ci fs w') (hG : GoodIn Ts wy) (hw : wy = Cond.code y bytes maxL none :: wy') (hini : (Cond.initialized y.cls).before args s = true) (hlk : (Cond.methodLink own index y).before args s = true) (hins : (Cond.instanceMethod y).before args s = true) (hy : y.name = "<init>") (hd : y.cls ≠ "java/lang/invoke/MethodHandle" ∧ y.cls ≠ "java/lang/invoke/VarHandle" ∧ (parseMethodDescriptor y.desc).map (fun d => d.parameters.length) = some 0) (hR : fr + 1 ≤ R.frames ∧ 8 + (maxL + 11) + lo ≤ R.locals)
    (hK : GC D k s) (hP : va_P D vwCl (ws ++ [(b, .inr (ci, fs))]) H) (hD : va_D A0 (ws ++ [(b, .inr (ci, fs))])) (hS : va_S A0 H0 H locs) (hA : ∀ q, H0.size ≤ q → A0 q) (hsz : ls.size = nL) (hW : (rest.map fun v => v.category).sum ≤ 8) (hdg : decode cc pc = .ok (.invokespecial index, 3)) (hf : cells + mc ≤ R.cells ∧ slots + ms ≤ R.slots)
    (kk : ∀ (u : Sy) (H1 : Heap) (locs1 : List Loc), va_P D vwCl (ws ++ w' u) H1 → va_D A0 (ws ++ w' u) → va_S A0 H0 H1 locs1 → W p l e R s m args below meth c H1 locs1 (cells + mc) (slots + ms) Q (F0 m (pc + 3) ls rest)) : W p l e R s m args below meth c H locs cells slots Q (F0 m pc ls (.ref b :: rest)) := by
  have hPc := P_r hP
  have hDc : va_D (fun _ => True) [((b, .inr (ci, fs)) : Nat × va_E)] := (D_r hD).weaken (fun _ _ _ _ => trivial)
  have hF : ∀ q, va_A [((b, .inr (ci, fs)) : Nat × va_E)] H.size q → A0 q := fun q h => by
    rcases h with ⟨j, e, hj⟩ | h
    · exact (D_r hD).2 j (q, e) hj
    · exact hA q (Nat.le_trans hS.1 h)
  refine va_callv (va_runI (g := F0 m pc ls (.ref b :: rest)) (As := []) (rest := rest) S hM (cwI 0 S.2.2.2.2 hG hw rfl rfl hini hlk hins hy hd hR) ⟨blindK, fun U hU hW => ⟨rfl, by rw [hU], by rw [hU]; exact hPc, hK.warm hW, hDc⟩⟩ rfl rfl hsz rfl (by show 2 * 0 + _ ≤ 8; omega) hdg hf) hS (fun q _ h => hF q h) hF (fun u t H1 locs1 ht hvm hp hB hz1 hk1 hS1 => ?_)
  rw [ht] at hB
  obtain ⟨h1, h2⟩ := mkJ (w' := w') hP hD hk1 hF hB.1 hB.2
  exact kk u H1 locs1 h1 h2 hS1
theorem mkIN {Sy : Type} {w' : Sy → va_W} (S : CallFix p m c cc nL s args Ts own) (hM : MK l D k y wy fr lo mc ms H.size b ci fs w') (hG : GoodIn Ts wy) (hw : wy = Cond.code y bytes maxL none :: wy') (hini : (Cond.initialized y.cls).before args s = true) (hlk : va_Nw (.methodLinkNest own index y host) s) (hins : (Cond.instanceMethod y).before args s = true) (hy : y.name = "<init>") (hd : y.cls ≠ "java/lang/invoke/MethodHandle" ∧ y.cls ≠ "java/lang/invoke/VarHandle" ∧ (parseMethodDescriptor y.desc).map (fun d => d.parameters.length) = some 0) (hR : fr + 1 ≤ R.frames ∧ 8 + (maxL + 11) + lo ≤ R.locals)
    (hK : GC D k s) (hP : va_P D vwCl (ws ++ [(b, .inr (ci, fs))]) H) (hD : va_D A0 (ws ++ [(b, .inr (ci, fs))])) (hS : va_S A0 H0 H locs) (hA : ∀ q, H0.size ≤ q → A0 q) (hsz : ls.size = nL) (hW : (rest.map fun v => v.category).sum ≤ 8) (hdg : decode cc pc = .ok (.invokespecial index, 3)) (hf : cells + mc ≤ R.cells ∧ slots + ms ≤ R.slots)
    (kk : ∀ (u : Sy) (H1 : Heap) (locs1 : List Loc), va_P D vwCl (ws ++ w' u) H1 → va_D A0 (ws ++ w' u) → va_S A0 H0 H1 locs1 → W p l e R s m args below meth c H1 locs1 (cells + mc) (slots + ms) Q (F0 m (pc + 3) ls rest)) : W p l e R s m args below meth c H locs cells slots Q (F0 m pc ls (.ref b :: rest)) := by
  have hPc := P_r hP
  have hDc : va_D (fun _ => True) [((b, .inr (ci, fs)) : Nat × va_E)] := (D_r hD).weaken (fun _ _ _ _ => trivial)
  have hF : ∀ q, va_A [((b, .inr (ci, fs)) : Nat × va_E)] H.size q → A0 q := fun q h => by
    rcases h with ⟨j, e, hj⟩ | h
    · exact (D_r hD).2 j (q, e) hj
    · exact hA q (Nat.le_trans hS.1 h)
  refine va_callv (va_runIN (g := F0 m pc ls (.ref b :: rest)) (As := []) (rest := rest) S hM ⟨va_cnB 0 S.2.2.2.2 hG hw rfl rfl hlk hini hd hR, hy, hins⟩ ⟨blindK, fun U hU hW => ⟨rfl, by rw [hU], by rw [hU]; exact hPc, hK.warm hW, hDc⟩⟩ rfl rfl hsz rfl (by show 2 * 0 + _ ≤ 8; omega) hdg hf) hS (fun q _ h => hF q h) hF (fun u t H1 locs1 ht hvm hp hB hz1 hk1 hS1 => ?_)
  rw [ht] at hB
  obtain ⟨h1, h2⟩ := mkJ (w' := w') hP hD hk1 hF hB.1 hB.2
  exact kk u H1 locs1 h1 h2 hS1
end OK2
/-- a scene as it is made: LIMIT 4, the rows of the first PICTURE full as far as j -/
def scJ (j : Nat) : St := fun i => if i = 1 then 4 else if 4 ≤ i ∧ i < 4 + j then 255 else 0
theorem scJ_0 : upZ (fun _ => 0) 1 4 = scJ 0 := by
  funext i
  unfold upZ scJ
  by_cases h : i = 1
  · rw [if_pos h, if_pos h]
  · rw [if_neg h, if_neg h, if_neg (by omega)]
theorem scJ_s (j : Nat) : upZ (scJ j) (4 + j) 255 = scJ (j + 1) := by
  funext i
  unfold upZ scJ
  by_cases h : i = 4 + j
  · rw [if_pos h, if_neg (by omega), if_pos (by omega)]
  · rw [if_neg h]
    by_cases h1 : i = 1
    · rw [if_pos h1, if_pos h1]
    · rw [if_neg h1, if_neg h1]
      by_cases h2 : 4 ≤ i ∧ i < 4 + j
      · rw [if_pos h2, if_pos (by omega)]
      · rw [if_neg h2, if_neg (by omega)]
theorem Va_sc : Va 0 (scJ 8) := by
  have hc : ∀ j, 4 ≤ j → j < 36 → 0 ≤ scJ 8 j ∧ scJ 8 j ≤ 255 := fun j h1 h2 => by
    unfold scJ
    rw [if_neg (by omega)]
    split <;> omega
  have h0 : scJ 8 0 = 0 := rfl
  refine ⟨⟨by rw [h0]; omega, by rw [h0]; omega⟩, ⟨by show (1 : Int) ≤ 4; omega, by show (4 : Int) ≤ 8; omega⟩, ⟨by show (0 : Int) ≤ 0; omega, by show (0 : Int) ≤ 3; omega⟩, ⟨by show (0 : Int) ≤ 0; omega, by show (0 : Int) ≤ 0; omega⟩, fun j h1 h2 => hc j h1 h2, fun t ht => ?_⟩
  exfalso
  unfold nT at ht
  rw [h0] at ht
  exact absurd ht (by simp)
