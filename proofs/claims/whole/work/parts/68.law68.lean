set_option maxHeartbeats 8000000 in
set_option maxRecDepth 100000 in
theorem law_row {p : Program} {l : Launch} {e : Env} {s : State} {m : MethodId} {below : List Frame} {meth : Method} {c : Code} {D : va_G} {k : Kt} {b L : Nat} {xs : Nat → Int32} (hL : L ≤ 3584) (C0 : lw_At p s m meth c b L xs) (hK : GW D k s) (x9 h0 c0 h8 h5 a5 h6 s6 p6 h9 s9 p9 h4 b4 e4 h2 h7 c7 hq aq d2 hh eo h3 i3 j3 k3 h1 im m0 m1 sd kp q0 qn qa qp qi qs qk qb qt qh qe : Nat) (r : Nat → Nat) (ii : Nat) (hii : ii + 7 ≤ L) (B : Int) (hBi : B ≤ 40 * ((ii : Nat) : Int)) (KK : ∀ (f : St) (z : (Nat → Int) × ((Nat → Nat) × (Nat → Nat) × Nat) × ((Nat → Nat) × (Nat → Nat) × Nat)) (ho : Nat → Int) (en : Nat → Int) (us : Nat) (g : St) (oq : Nat → Int) (dr : Nat → Int) (h : HT) (ba : Nat → Int) (bb : Nat → Int) (bd : Nat → Int) (bn : Nat) (vd : Int) (mm : Nat → St) (ms : Nat → Int) (mk : Nat → Int) (gg : St) (az : Nat → Int) (pa : Nat → Int) (de : Nat) (mi : Nat → Int) (ns : Nat → Int) (nk : Nat → Int) (sv : Int) (bk : Nat → Int) (bm : Nat) (ts : Nat → Int) (hd : Nat → Int) (ne : Nat → Int), Va (B + 40) f → Ag f gg → IvH (B + 40) h de pa → IvB ba bb bd bn bk bm → 0 ≤ vd ∧ vd < 2147483648 → sv = vd → IvI (B + 40) mm ms mk mi ns nk → ∀ (H : Heap) (locs : List Loc), va_P D vwCl (LWf k x9 h0 c0 h8 h5 a5 h6 s6 p6 h9 s9 p9 h4 b4 e4 h2 h7 c7 hq aq d2 hh eo h3 i3 j3 k3 h1 im m0 m1 sd kp q0 qn qa qp qi qs qk qb qt qh qe r f z ho en us g oq dr h ba bb bd bn vd mm ms mk gg az pa de mi ns nk sv bk bm ts hd ne) H → va_D (fun q : Nat => s.heap.size ≤ q) (LWf k x9 h0 c0 h8 h5 a5 h6 s6 p6 h9 s9 p9 h4 b4 e4 h2 h7 c7 hq aq d2 hh eo h3 i3 j3 k3 h1 im m0 m1 sd kp q0 qn qa qp qi qs qk qb qt qh qe r f z ho en us g oq dr h ba bb bd bn vd mm ms mk gg az pa de mi ns nk sv bk bm ts hd ne) → va_S (fun q : Nat => s.heap.size ≤ q) s.heap H locs → ∀ (ls : Array Slot), lv_has ls 4 [(0, .ref b), (1, .ref x9), (2, .ref q0), (3, .int (zI ((ii : Nat) : Int)))] → W p l e room_1 s m #[Value.ref b] below meth c H locs 64 6674 (lw_Z below #[Value.ref b] s) (F0 m 909 ls [])) : ∀ (f : St) (z : (Nat → Int) × ((Nat → Nat) × (Nat → Nat) × Nat) × ((Nat → Nat) × (Nat → Nat) × Nat)) (ho : Nat → Int) (en : Nat → Int) (us : Nat) (g : St) (oq : Nat → Int) (dr : Nat → Int) (h : HT) (ba : Nat → Int) (bb : Nat → Int) (bd : Nat → Int) (bn : Nat) (vd : Int) (mm : Nat → St) (ms : Nat → Int) (mk : Nat → Int) (gg : St) (az : Nat → Int) (pa : Nat → Int) (de : Nat) (mi : Nat → Int) (ns : Nat → Int) (nk : Nat → Int) (sv : Int) (bk : Nat → Int) (bm : Nat) (ts : Nat → Int) (hd : Nat → Int) (ne : Nat → Int), Va B f → Ag f gg → IvH B h de pa → IvB ba bb bd bn bk bm → 0 ≤ vd ∧ vd < 2147483648 → sv = vd → IvI B mm ms mk mi ns nk → ∀ (H : Heap) (locs : List Loc), va_P D vwCl (LWf k x9 h0 c0 h8 h5 a5 h6 s6 p6 h9 s9 p9 h4 b4 e4 h2 h7 c7 hq aq d2 hh eo h3 i3 j3 k3 h1 im m0 m1 sd kp q0 qn qa qp qi qs qk qb qt qh qe r f z ho en us g oq dr h ba bb bd bn vd mm ms mk gg az pa de mi ns nk sv bk bm ts hd ne) H → va_D (fun q : Nat => s.heap.size ≤ q) (LWf k x9 h0 c0 h8 h5 a5 h6 s6 p6 h9 s9 p9 h4 b4 e4 h2 h7 c7 hq aq d2 hh eo h3 i3 j3 k3 h1 im m0 m1 sd kp q0 qn qa qp qi qs qk qb qt qh qe r f z ho en us g oq dr h ba bb bd bn vd mm ms mk gg az pa de mi ns nk sv bk bm ts hd ne) → va_S (fun q : Nat => s.heap.size ≤ q) s.heap H locs → ∀ (ls : Array Slot), lv_has ls 4 [(0, .ref b), (1, .ref x9), (2, .ref q0), (3, .int (zI ((ii : Nat) : Int)))] → W p l e room_1 s m #[Value.ref b] below meth c H locs 64 6674 (lw_Z below #[Value.ref b] s) (F0 m 343 ls []) := by
  intro f z ho en us g oq dr h ba bb bd bn vd mm ms mk gg az pa de mi ns nk sv bk bm ts hd ne hV hG hH hb_ hvd hsv hI H locs hP hD hS ls hl
  obtain ⟨hx, hb, hr, hml, hown, hts0, hX, hbl, hlocks, hgv⟩ := C0
  have hts : ∀ w ∈ wsL_law, w.before #[Value.ref b] s = true := fun w hw => hts0 w (wsL_law_in w hw)
  have hSf : CallFix p m c cL_law 4 s #[Value.ref b] wsL_law RL := ⟨hx, hb, hml, hown, hts⟩
  have e0 : f 0 = gg 0 := hG.c (show 0 < 36 by decide)
  have en_ : nT f = nT gg := hG.n
  have hb20 := hb_.1.1
  have hbm := hb_.2.1
  have hh20 := hH.2.1
  have hde_ := hH.2.2.1
  have hnn := hV.n
  have hv00 := hV.1
  obtain ⟨x1, ex1⟩ : ∃ x, x = (xs (ii + 1)).toInt := ⟨_, rfl⟩
  have hx1 : -2147483648 ≤ x1 ∧ x1 < 2147483648 := by rw [ex1]; exact i32_rg _
  obtain ⟨x2, ex2⟩ : ∃ x, x = (xs (ii + 2)).toInt := ⟨_, rfl⟩
  have hx2 : -2147483648 ≤ x2 ∧ x2 < 2147483648 := by rw [ex2]; exact i32_rg _
  obtain ⟨x3, ex3⟩ : ∃ x, x = (xs (ii + 3)).toInt := ⟨_, rfl⟩
  have hx3 : -2147483648 ≤ x3 ∧ x3 < 2147483648 := by rw [ex3]; exact i32_rg _
  refine lv_aload_n hx hb dL_law_343 rfl (lv_at hl 1 rfl) ?_
  refine lv_aload_n hx hb dL_law_344 rfl (lv_at hl 0 rfl) ?_
  refine lv_iload_n hx hb dL_law_345 rfl (lv_at hl 3 rfl) ?_
  refine z_iconst hx hb dL_law_346 ?_
  refine z_iadd hx hb dL_law_347 ?_
  refine z_sld hx hb hX hbl hS (ii + 1) (by omega) ex1 (by omega) hL dL_law_348 ?_
  refine lv_aload_n hx hb dL_law_349 rfl (lv_at hl 0 rfl) ?_
  refine lv_iload_n hx hb dL_law_350 rfl (lv_at hl 3 rfl) ?_
  refine z_iconst hx hb dL_law_351 ?_
  refine z_iadd hx hb dL_law_352 ?_
  refine z_sld hx hb hX hbl hS (ii + 2) (by omega) ex2 (by omega) hL dL_law_353 ?_
  refine lv_aload_n hx hb dL_law_354 rfl (lv_at hl 0 rfl) ?_
  refine lv_iload_n hx hb dL_law_355 rfl (lv_at hl 3 rfl) ?_
  refine z_iconst hx hb dL_law_356 ?_
  refine z_iadd hx hb dL_law_357 ?_
  refine z_sld hx hb hX hbl hS (ii + 3) (by omega) ex3 (by omega) hL dL_law_358 ?_
  refine miVR2 (base := LWb k x9 h0 c0 h8 h5 a5 h6 s6 p6 h9 s9 p9 h4 b4 e4 h2 h7 c7 hq aq d2 hh eo h3 i3 j3 k3 h1 im m0 m1 sd kp q0 qn qa qp qi qs qk qb qt qh qe r f (z.1, (z.2.1.1, z.2.1.2.1, z.2.1.2.2), (z.2.2.1, z.2.2.2.1, z.2.2.2.2)) ho en us g oq dr h ba bb bd bn vd mm ms mk gg az pa de mi ns nk sv bk bm ts hd ne) (Rw := rowsW k r h.2.2) (w' := fun (u : St × HT) => [(x9, .inr (9, [.ref h0, .ref h8, .ref h4, .ref h2, .ref hh, .ref h3, .ref h1, .ref im, .ref sd, .ref kp])), (h0, .inr (7, [.ref c0])), (c0, .inl (k.1, 132, .inl (zF u.1))), (hh, .inr (3, [.ref eo, .int (zI ((u.2.1 : Nat) : Int)), .int (zI ((u.2.2.1 : Nat) : Int))])), (eo, .inl (k.2.2.2, 20, .inr (.inr (.inr (.inr (eoF r))))))]) (rw' := fun (u : St × HT) => rowsW k r u.2.2.2) (n := 3) (As := [.int (zI x1), .int (zI x2), .int (zI x3)]) (rest := []) hSf (c_row l D k x9 h0 c0 h8 h4 h2 hh h3 h1 im sd kp f B hV eo r h hH.1 hH.2.1 x1 x2 x3 hx1 hx2 hx3) gL_law_X9_row rfl (by decide +kernel) ⟨Nat.le_of_ble_eq_true rfl, Nat.le_of_ble_eq_true rfl⟩ hK hP hD hS [0, 1, 2, 21, 22] [3, 4, 5, 6, 7, 8, 9, 10, 11, 12, 13, 14, 15, 16, 17, 18, 19, 20, 23, 24, 25, 26, 27, 28, 29, 30, 31, 32, 33, 34, 35, 36, 37, 38, 39, 40, 41, 42, 43] 44 (fun (u : St × HT) => LWb k x9 h0 c0 h8 h5 a5 h6 s6 p6 h9 s9 p9 h4 b4 e4 h2 h7 c7 hq aq d2 hh eo h3 i3 j3 k3 h1 im m0 m1 sd kp q0 qn qa qp qi qs qk qb qt qh qe r u.1 (z.1, (z.2.1.1, z.2.1.2.1, z.2.1.2.2), (z.2.2.1, z.2.2.2.1, z.2.2.2.2)) ho en us g oq dr (u.2.1, u.2.2.1, u.2.2.2) ba bb bd bn vd mm ms mk gg az pa de mi ns nk sv bk bm ts hd ne) rfl (by decide) (fun _ => rfl) (fun _ => rfl) (fun _ => rfl) (by decide) (fun _ => rfl) (fun _ => rowsW_fst _ _ _ _) 0 rfl rfl rfl hl.1 rfl (Nat.le_of_ble_eq_true rfl) dL_law_359 ⟨Nat.le_of_ble_eq_true rfl, Nat.le_of_ble_eq_true rfl⟩ (fun r_359 u_359 H locs h_359 hP hD hS => ?_)
  obtain ⟨he_359, h_359⟩ := h_359
  subst he_359
  refine lv_aload_n hx hb dL_law_362 rfl (lv_at hl 2 rfl) ?_
  refine lv_aload_n hx hb dL_law_363 rfl (lv_at hl 0 rfl) ?_
  refine lv_iload_n hx hb dL_law_364 rfl (lv_at hl 3 rfl) ?_
  refine z_iconst hx hb dL_law_365 ?_
  refine z_iadd hx hb dL_law_366 ?_
  refine z_sld hx hb hX hbl hS (ii + 1) (by omega) ex1 (by omega) hL dL_law_367 ?_
  refine lv_aload_n hx hb dL_law_368 rfl (lv_at hl 0 rfl) ?_
  refine lv_iload_n hx hb dL_law_369 rfl (lv_at hl 3 rfl) ?_
  refine z_iconst hx hb dL_law_370 ?_
  refine z_iadd hx hb dL_law_371 ?_
  refine z_sld hx hb hX hbl hS (ii + 2) (by omega) ex2 (by omega) hL dL_law_372 ?_
  refine lv_aload_n hx hb dL_law_373 rfl (lv_at hl 0 rfl) ?_
  refine lv_iload_n hx hb dL_law_374 rfl (lv_at hl 3 rfl) ?_
  refine z_iconst hx hb dL_law_375 ?_
  refine z_iadd hx hb dL_law_376 ?_
  refine z_sld hx hb hX hbl hS (ii + 3) (by omega) ex3 (by omega) hL dL_law_377 ?_
  refine miV2 (base := LWb k x9 h0 c0 h8 h5 a5 h6 s6 p6 h9 s9 p9 h4 b4 e4 h2 h7 c7 hq aq d2 hh eo h3 i3 j3 k3 h1 im m0 m1 sd kp q0 qn qa qp qi qs qk qb qt qh qe r u_359.1 (z.1, (z.2.1.1, z.2.1.2.1, z.2.1.2.2), (z.2.2.1, z.2.2.2.1, z.2.2.2.2)) ho en us g oq dr (u_359.2.1, u_359.2.2.1, u_359.2.2.2) ba bb bd bn vd mm ms mk gg az pa de mi ns nk sv bk bm ts hd ne) (Rw := rowsW k r u_359.2.2.2) (n := 3) (As := [.int (zI x1), .int (zI x2), .int (zI x3)]) (rest := [.int (zI (if 0 ≤ x1 ∧ x1 ≤ 3 then (if (0 ≤ x2 ∧ x2 ≤ 7) ∧ (0 ≤ x3 ∧ x3 ≤ 255) then f (4 + 8 * x1.toNat + x2.toNat) else -1000000002) else -1000000001))]) hSf (m_row l D k q0 qn qa qp qi qs qk qb qt qh qe de sv bm gg B (hV.ag hG) (by omega) pa (by omega) x1 x2 x3 hx1 hx2 hx3) gL_law_X10_row rfl (by decide +kernel) ⟨Nat.le_of_ble_eq_true rfl, Nat.le_of_ble_eq_true rfl⟩ hK hP hD hS [33, 34, 36] [0, 1, 2, 3, 4, 5, 6, 7, 8, 9, 10, 11, 12, 13, 14, 15, 16, 17, 18, 19, 20, 21, 22, 23, 24, 25, 26, 27, 28, 29, 30, 31, 32, 35, 37, 38, 39, 40, 41, 42, 43] 44 (fun (u : St × HM) => LWb k x9 h0 c0 h8 h5 a5 h6 s6 p6 h9 s9 p9 h4 b4 e4 h2 h7 c7 hq aq d2 hh eo h3 i3 j3 k3 h1 im m0 m1 sd kp q0 qn qa qp qi qs qk qb qt qh qe r u_359.1 (z.1, (z.2.1.1, z.2.1.2.1, z.2.1.2.2), (z.2.2.1, z.2.2.2.1, z.2.2.2.2)) ho en us g oq dr (u_359.2.1, u_359.2.2.1, u_359.2.2.2) ba bb bd bn vd mm ms mk u.1 az u.2.2 u.2.1 mi ns nk sv bk bm ts hd ne) rfl (by decide) (fun _ => rfl) (fun _ => rfl) (fun _ => rfl) (by decide) (fun _ => rfl) 0 rfl rfl rfl hl.1 rfl (Nat.le_of_ble_eq_true rfl) dL_law_378 ⟨Nat.le_of_ble_eq_true rfl, Nat.le_of_ble_eq_true rfl⟩ (fun r_378 u_378 H locs h_378 hP hD hS => ?_)
  obtain ⟨he_378, h_378⟩ := h_378
  subst he_378
  refine lv_icmp_eq (tgt := 909) hx hb dL_law_381 (by decide) (fun _ => ?_) (fun hne => absurd (zc (row_v hG x1 x2 x3)) hne)
  obtain ⟨d1, d2_, d3⟩ := deed_ok (B := B) (by first | exact Iff.rfl | rw [e0] | rw [en_]) h_359 h_378 hV hG hH (fun hc => ⟨(Va_low hV (by omega) (by omega) (by omega) (by omega) (by omega) (by omega)).le (by omega), Ag_up hG (by omega) _⟩)
  exact KK u_359.1 (z.1, (z.2.1.1, z.2.1.2.1, z.2.1.2.2), (z.2.2.1, z.2.2.2.1, z.2.2.2.2)) ho en us g oq dr (u_359.2.1, u_359.2.2.1, u_359.2.2.2) ba bb bd bn vd mm ms mk u_378.1 az u_378.2.2 u_378.2.1 mi ns nk sv bk bm ts hd ne d1 d2_ d3 hb_ hvd hsv (hI.le (by omega)) _ _ hP hD hS ls (lv_sub hl [0, 1, 2, 3] rfl)
set_option maxHeartbeats 8000000 in
set_option maxRecDepth 100000 in
theorem law_put {p : Program} {l : Launch} {e : Env} {s : State} {m : MethodId} {below : List Frame} {meth : Method} {c : Code} {D : va_G} {k : Kt} {b L : Nat} {xs : Nat → Int32} (hL : L ≤ 3584) (C0 : lw_At p s m meth c b L xs) (hK : GW D k s) (x9 h0 c0 h8 h5 a5 h6 s6 p6 h9 s9 p9 h4 b4 e4 h2 h7 c7 hq aq d2 hh eo h3 i3 j3 k3 h1 im m0 m1 sd kp q0 qn qa qp qi qs qk qb qt qh qe : Nat) (r : Nat → Nat) (ii : Nat) (hii : ii + 7 ≤ L) (B : Int) (hBi : B ≤ 40 * ((ii : Nat) : Int)) (KK : ∀ (f : St) (z : (Nat → Int) × ((Nat → Nat) × (Nat → Nat) × Nat) × ((Nat → Nat) × (Nat → Nat) × Nat)) (ho : Nat → Int) (en : Nat → Int) (us : Nat) (g : St) (oq : Nat → Int) (dr : Nat → Int) (h : HT) (ba : Nat → Int) (bb : Nat → Int) (bd : Nat → Int) (bn : Nat) (vd : Int) (mm : Nat → St) (ms : Nat → Int) (mk : Nat → Int) (gg : St) (az : Nat → Int) (pa : Nat → Int) (de : Nat) (mi : Nat → Int) (ns : Nat → Int) (nk : Nat → Int) (sv : Int) (bk : Nat → Int) (bm : Nat) (ts : Nat → Int) (hd : Nat → Int) (ne : Nat → Int), Va (B + 40) f → Ag f gg → IvH (B + 40) h de pa → IvB ba bb bd bn bk bm → 0 ≤ vd ∧ vd < 2147483648 → sv = vd → IvI (B + 40) mm ms mk mi ns nk → ∀ (H : Heap) (locs : List Loc), va_P D vwCl (LWf k x9 h0 c0 h8 h5 a5 h6 s6 p6 h9 s9 p9 h4 b4 e4 h2 h7 c7 hq aq d2 hh eo h3 i3 j3 k3 h1 im m0 m1 sd kp q0 qn qa qp qi qs qk qb qt qh qe r f z ho en us g oq dr h ba bb bd bn vd mm ms mk gg az pa de mi ns nk sv bk bm ts hd ne) H → va_D (fun q : Nat => s.heap.size ≤ q) (LWf k x9 h0 c0 h8 h5 a5 h6 s6 p6 h9 s9 p9 h4 b4 e4 h2 h7 c7 hq aq d2 hh eo h3 i3 j3 k3 h1 im m0 m1 sd kp q0 qn qa qp qi qs qk qb qt qh qe r f z ho en us g oq dr h ba bb bd bn vd mm ms mk gg az pa de mi ns nk sv bk bm ts hd ne) → va_S (fun q : Nat => s.heap.size ≤ q) s.heap H locs → ∀ (ls : Array Slot), lv_has ls 4 [(0, .ref b), (1, .ref x9), (2, .ref q0), (3, .int (zI ((ii : Nat) : Int)))] → W p l e room_1 s m #[Value.ref b] below meth c H locs 64 6674 (lw_Z below #[Value.ref b] s) (F0 m 909 ls [])) : ∀ (f : St) (z : (Nat → Int) × ((Nat → Nat) × (Nat → Nat) × Nat) × ((Nat → Nat) × (Nat → Nat) × Nat)) (ho : Nat → Int) (en : Nat → Int) (us : Nat) (g : St) (oq : Nat → Int) (dr : Nat → Int) (h : HT) (ba : Nat → Int) (bb : Nat → Int) (bd : Nat → Int) (bn : Nat) (vd : Int) (mm : Nat → St) (ms : Nat → Int) (mk : Nat → Int) (gg : St) (az : Nat → Int) (pa : Nat → Int) (de : Nat) (mi : Nat → Int) (ns : Nat → Int) (nk : Nat → Int) (sv : Int) (bk : Nat → Int) (bm : Nat) (ts : Nat → Int) (hd : Nat → Int) (ne : Nat → Int), Va B f → Ag f gg → IvH B h de pa → IvB ba bb bd bn bk bm → 0 ≤ vd ∧ vd < 2147483648 → sv = vd → IvI B mm ms mk mi ns nk → ∀ (H : Heap) (locs : List Loc), va_P D vwCl (LWf k x9 h0 c0 h8 h5 a5 h6 s6 p6 h9 s9 p9 h4 b4 e4 h2 h7 c7 hq aq d2 hh eo h3 i3 j3 k3 h1 im m0 m1 sd kp q0 qn qa qp qi qs qk qb qt qh qe r f z ho en us g oq dr h ba bb bd bn vd mm ms mk gg az pa de mi ns nk sv bk bm ts hd ne) H → va_D (fun q : Nat => s.heap.size ≤ q) (LWf k x9 h0 c0 h8 h5 a5 h6 s6 p6 h9 s9 p9 h4 b4 e4 h2 h7 c7 hq aq d2 hh eo h3 i3 j3 k3 h1 im m0 m1 sd kp q0 qn qa qp qi qs qk qb qt qh qe r f z ho en us g oq dr h ba bb bd bn vd mm ms mk gg az pa de mi ns nk sv bk bm ts hd ne) → va_S (fun q : Nat => s.heap.size ≤ q) s.heap H locs → ∀ (ls : Array Slot), lv_has ls 4 [(0, .ref b), (1, .ref x9), (2, .ref q0), (3, .int (zI ((ii : Nat) : Int)))] → W p l e room_1 s m #[Value.ref b] below meth c H locs 64 6674 (lw_Z below #[Value.ref b] s) (F0 m 386 ls []) := by
  intro f z ho en us g oq dr h ba bb bd bn vd mm ms mk gg az pa de mi ns nk sv bk bm ts hd ne hV hG hH hb_ hvd hsv hI H locs hP hD hS ls hl
  obtain ⟨hx, hb, hr, hml, hown, hts0, hX, hbl, hlocks, hgv⟩ := C0
  have hts : ∀ w ∈ wsL_law, w.before #[Value.ref b] s = true := fun w hw => hts0 w (wsL_law_in w hw)
  have hSf : CallFix p m c cL_law 4 s #[Value.ref b] wsL_law RL := ⟨hx, hb, hml, hown, hts⟩
  have e0 : f 0 = gg 0 := hG.c (show 0 < 36 by decide)
  have en_ : nT f = nT gg := hG.n
  have hb20 := hb_.1.1
  have hbm := hb_.2.1
  have hh20 := hH.2.1
  have hde_ := hH.2.2.1
  have hnn := hV.n
  have hv00 := hV.1
  obtain ⟨x1, ex1⟩ : ∃ x, x = (xs (ii + 1)).toInt := ⟨_, rfl⟩
  have hx1 : -2147483648 ≤ x1 ∧ x1 < 2147483648 := by rw [ex1]; exact i32_rg _
  obtain ⟨x2, ex2⟩ : ∃ x, x = (xs (ii + 2)).toInt := ⟨_, rfl⟩
  have hx2 : -2147483648 ≤ x2 ∧ x2 < 2147483648 := by rw [ex2]; exact i32_rg _
  obtain ⟨x3, ex3⟩ : ∃ x, x = (xs (ii + 3)).toInt := ⟨_, rfl⟩
  have hx3 : -2147483648 ≤ x3 ∧ x3 < 2147483648 := by rw [ex3]; exact i32_rg _
  obtain ⟨x4, ex4⟩ : ∃ x, x = (xs (ii + 4)).toInt := ⟨_, rfl⟩
  have hx4 : -2147483648 ≤ x4 ∧ x4 < 2147483648 := by rw [ex4]; exact i32_rg _
  obtain ⟨x5, ex5⟩ : ∃ x, x = (xs (ii + 5)).toInt := ⟨_, rfl⟩
  have hx5 : -2147483648 ≤ x5 ∧ x5 < 2147483648 := by rw [ex5]; exact i32_rg _
  obtain ⟨x6, ex6⟩ : ∃ x, x = (xs (ii + 6)).toInt := ⟨_, rfl⟩
  have hx6 : -2147483648 ≤ x6 ∧ x6 < 2147483648 := by rw [ex6]; exact i32_rg _
  refine lv_aload_n hx hb dL_law_386 rfl (lv_at hl 1 rfl) ?_
  refine lv_aload_n hx hb dL_law_387 rfl (lv_at hl 0 rfl) ?_
  refine lv_iload_n hx hb dL_law_388 rfl (lv_at hl 3 rfl) ?_
  refine z_iconst hx hb dL_law_389 ?_
  refine z_iadd hx hb dL_law_390 ?_
  refine z_sld hx hb hX hbl hS (ii + 1) (by omega) ex1 (by omega) hL dL_law_391 ?_
  refine lv_aload_n hx hb dL_law_392 rfl (lv_at hl 0 rfl) ?_
  refine lv_iload_n hx hb dL_law_393 rfl (lv_at hl 3 rfl) ?_
  refine z_iconst hx hb dL_law_394 ?_
  refine z_iadd hx hb dL_law_395 ?_
  refine z_sld hx hb hX hbl hS (ii + 2) (by omega) ex2 (by omega) hL dL_law_396 ?_
  refine lv_aload_n hx hb dL_law_397 rfl (lv_at hl 0 rfl) ?_
  refine lv_iload_n hx hb dL_law_398 rfl (lv_at hl 3 rfl) ?_
  refine z_iconst hx hb dL_law_399 ?_
  refine z_iadd hx hb dL_law_400 ?_
  refine z_sld hx hb hX hbl hS (ii + 3) (by omega) ex3 (by omega) hL dL_law_401 ?_
  refine lv_aload_n hx hb dL_law_402 rfl (lv_at hl 0 rfl) ?_
  refine lv_iload_n hx hb dL_law_403 rfl (lv_at hl 3 rfl) ?_
  refine z_iconst hx hb dL_law_404 ?_
  refine z_iadd hx hb dL_law_405 ?_
  refine z_sld hx hb hX hbl hS (ii + 4) (by omega) ex4 (by omega) hL dL_law_406 ?_
  refine lv_aload_n hx hb dL_law_407 rfl (lv_at hl 0 rfl) ?_
  refine lv_iload_n hx hb dL_law_408 rfl (lv_at hl 3 rfl) ?_
  refine z_iconst hx hb dL_law_409 ?_
  refine z_iadd hx hb dL_law_410 ?_
  refine z_sld hx hb hX hbl hS (ii + 5) (by omega) ex5 (by omega) hL dL_law_411 ?_
  refine lv_aload_n hx hb dL_law_412 rfl (lv_at hl 0 rfl) ?_
  refine lv_iload_n hx hb dL_law_413 rfl (lv_at hl 3 rfl) ?_
  refine z_bipush hx hb dL_law_414 (by decide +kernel) ?_
  refine z_iadd hx hb dL_law_416 ?_
  refine z_sld hx hb hX hbl hS (ii + 6) (by omega) ex6 (by omega) hL dL_law_417 ?_
  refine miVR2 (base := LWb k x9 h0 c0 h8 h5 a5 h6 s6 p6 h9 s9 p9 h4 b4 e4 h2 h7 c7 hq aq d2 hh eo h3 i3 j3 k3 h1 im m0 m1 sd kp q0 qn qa qp qi qs qk qb qt qh qe r f (z.1, (z.2.1.1, z.2.1.2.1, z.2.1.2.2), (z.2.2.1, z.2.2.2.1, z.2.2.2.2)) ho en us g oq dr h ba bb bd bn vd mm ms mk gg az pa de mi ns nk sv bk bm ts hd ne) (Rw := rowsW k r h.2.2) (w' := fun (u : St × HT) => [(x9, .inr (9, [.ref h0, .ref h8, .ref h4, .ref h2, .ref hh, .ref h3, .ref h1, .ref im, .ref sd, .ref kp])), (h0, .inr (7, [.ref c0])), (c0, .inl (k.1, 132, .inl (zF u.1))), (hh, .inr (3, [.ref eo, .int (zI ((u.2.1 : Nat) : Int)), .int (zI ((u.2.2.1 : Nat) : Int))])), (eo, .inl (k.2.2.2, 20, .inr (.inr (.inr (.inr (eoF r))))))]) (rw' := fun (u : St × HT) => rowsW k r u.2.2.2) (n := 6) (As := [.int (zI x1), .int (zI x2), .int (zI x3), .int (zI x4), .int (zI x5), .int (zI x6)]) (rest := []) hSf (c_put l D k x9 h0 c0 h8 h4 h2 hh h3 h1 im sd kp f B hV eo r h hH.1 hH.2.1 x1 x2 x3 x4 x5 x6 hx1 hx2 hx3 hx4 hx5 hx6) gL_law_X9_put rfl (by decide +kernel) ⟨Nat.le_of_ble_eq_true rfl, Nat.le_of_ble_eq_true rfl⟩ hK hP hD hS [0, 1, 2, 21, 22] [3, 4, 5, 6, 7, 8, 9, 10, 11, 12, 13, 14, 15, 16, 17, 18, 19, 20, 23, 24, 25, 26, 27, 28, 29, 30, 31, 32, 33, 34, 35, 36, 37, 38, 39, 40, 41, 42, 43] 44 (fun (u : St × HT) => LWb k x9 h0 c0 h8 h5 a5 h6 s6 p6 h9 s9 p9 h4 b4 e4 h2 h7 c7 hq aq d2 hh eo h3 i3 j3 k3 h1 im m0 m1 sd kp q0 qn qa qp qi qs qk qb qt qh qe r u.1 (z.1, (z.2.1.1, z.2.1.2.1, z.2.1.2.2), (z.2.2.1, z.2.2.2.1, z.2.2.2.2)) ho en us g oq dr (u.2.1, u.2.2.1, u.2.2.2) ba bb bd bn vd mm ms mk gg az pa de mi ns nk sv bk bm ts hd ne) rfl (by decide) (fun _ => rfl) (fun _ => rfl) (fun _ => rfl) (by decide) (fun _ => rfl) (fun _ => rowsW_fst _ _ _ _) 0 rfl rfl rfl hl.1 rfl (Nat.le_of_ble_eq_true rfl) dL_law_418 ⟨Nat.le_of_ble_eq_true rfl, Nat.le_of_ble_eq_true rfl⟩ (fun r_418 u_418 H locs h_418 hP hD hS => ?_)
  obtain ⟨he_418, h_418⟩ := h_418
  subst he_418
  refine lv_aload_n hx hb dL_law_421 rfl (lv_at hl 2 rfl) ?_
  refine lv_aload_n hx hb dL_law_422 rfl (lv_at hl 0 rfl) ?_
  refine lv_iload_n hx hb dL_law_423 rfl (lv_at hl 3 rfl) ?_
  refine z_iconst hx hb dL_law_424 ?_
  refine z_iadd hx hb dL_law_425 ?_
  refine z_sld hx hb hX hbl hS (ii + 1) (by omega) ex1 (by omega) hL dL_law_426 ?_
  refine lv_aload_n hx hb dL_law_427 rfl (lv_at hl 0 rfl) ?_
  refine lv_iload_n hx hb dL_law_428 rfl (lv_at hl 3 rfl) ?_
  refine z_iconst hx hb dL_law_429 ?_
  refine z_iadd hx hb dL_law_430 ?_
  refine z_sld hx hb hX hbl hS (ii + 2) (by omega) ex2 (by omega) hL dL_law_431 ?_
  refine lv_aload_n hx hb dL_law_432 rfl (lv_at hl 0 rfl) ?_
  refine lv_iload_n hx hb dL_law_433 rfl (lv_at hl 3 rfl) ?_
  refine z_iconst hx hb dL_law_434 ?_
  refine z_iadd hx hb dL_law_435 ?_
  refine z_sld hx hb hX hbl hS (ii + 3) (by omega) ex3 (by omega) hL dL_law_436 ?_
  refine lv_aload_n hx hb dL_law_437 rfl (lv_at hl 0 rfl) ?_
  refine lv_iload_n hx hb dL_law_438 rfl (lv_at hl 3 rfl) ?_
  refine z_iconst hx hb dL_law_439 ?_
  refine z_iadd hx hb dL_law_440 ?_
  refine z_sld hx hb hX hbl hS (ii + 4) (by omega) ex4 (by omega) hL dL_law_441 ?_
  refine lv_aload_n hx hb dL_law_442 rfl (lv_at hl 0 rfl) ?_
  refine lv_iload_n hx hb dL_law_443 rfl (lv_at hl 3 rfl) ?_
  refine z_iconst hx hb dL_law_444 ?_
  refine z_iadd hx hb dL_law_445 ?_
  refine z_sld hx hb hX hbl hS (ii + 5) (by omega) ex5 (by omega) hL dL_law_446 ?_
  refine lv_aload_n hx hb dL_law_447 rfl (lv_at hl 0 rfl) ?_
  refine lv_iload_n hx hb dL_law_448 rfl (lv_at hl 3 rfl) ?_
  refine z_bipush hx hb dL_law_449 (by decide +kernel) ?_
  refine z_iadd hx hb dL_law_451 ?_
  refine z_sld hx hb hX hbl hS (ii + 6) (by omega) ex6 (by omega) hL dL_law_452 ?_
  refine miV2 (base := LWb k x9 h0 c0 h8 h5 a5 h6 s6 p6 h9 s9 p9 h4 b4 e4 h2 h7 c7 hq aq d2 hh eo h3 i3 j3 k3 h1 im m0 m1 sd kp q0 qn qa qp qi qs qk qb qt qh qe r u_418.1 (z.1, (z.2.1.1, z.2.1.2.1, z.2.1.2.2), (z.2.2.1, z.2.2.2.1, z.2.2.2.2)) ho en us g oq dr (u_418.2.1, u_418.2.2.1, u_418.2.2.2) ba bb bd bn vd mm ms mk gg az pa de mi ns nk sv bk bm ts hd ne) (Rw := rowsW k r u_418.2.2.2) (n := 6) (As := [.int (zI x1), .int (zI x2), .int (zI x3), .int (zI x4), .int (zI x5), .int (zI x6)]) (rest := [.int (zI (if 0 ≤ x3 ∧ x3 ≤ 3 then (if ((-8 ≤ x1 ∧ x1 ≤ 31) ∧ (-8 ≤ x2 ∧ x2 ≤ 23)) ∧ ((0 ≤ x4 ∧ x4 ≤ 3) ∧ (0 ≤ x5 ∧ x5 ≤ 3)) ∧ (1 ≤ x6 ∧ x6 ≤ 7) then (if 12 ≤ nT f then -1000000004 else f 0) else -1000000002) else -1000000001))]) hSf (m_put l D k q0 qn qa qp qi qs qk qb qt qh qe de sv bm gg B (hV.ag hG) (by omega) pa (by omega) x1 x2 x3 x4 x5 x6 hx1 hx2 hx3 hx4 hx5 hx6) gL_law_X10_put rfl (by decide +kernel) ⟨Nat.le_of_ble_eq_true rfl, Nat.le_of_ble_eq_true rfl⟩ hK hP hD hS [33, 34, 36] [0, 1, 2, 3, 4, 5, 6, 7, 8, 9, 10, 11, 12, 13, 14, 15, 16, 17, 18, 19, 20, 21, 22, 23, 24, 25, 26, 27, 28, 29, 30, 31, 32, 35, 37, 38, 39, 40, 41, 42, 43] 44 (fun (u : St × HM) => LWb k x9 h0 c0 h8 h5 a5 h6 s6 p6 h9 s9 p9 h4 b4 e4 h2 h7 c7 hq aq d2 hh eo h3 i3 j3 k3 h1 im m0 m1 sd kp q0 qn qa qp qi qs qk qb qt qh qe r u_418.1 (z.1, (z.2.1.1, z.2.1.2.1, z.2.1.2.2), (z.2.2.1, z.2.2.2.1, z.2.2.2.2)) ho en us g oq dr (u_418.2.1, u_418.2.2.1, u_418.2.2.2) ba bb bd bn vd mm ms mk u.1 az u.2.2 u.2.1 mi ns nk sv bk bm ts hd ne) rfl (by decide) (fun _ => rfl) (fun _ => rfl) (fun _ => rfl) (by decide) (fun _ => rfl) 0 rfl rfl rfl hl.1 rfl (Nat.le_of_ble_eq_true rfl) dL_law_453 ⟨Nat.le_of_ble_eq_true rfl, Nat.le_of_ble_eq_true rfl⟩ (fun r_453 u_453 H locs h_453 hP hD hS => ?_)
  obtain ⟨he_453, h_453⟩ := h_453
  subst he_453
  refine lv_icmp_eq (tgt := 909) hx hb dL_law_456 (by decide) (fun _ => ?_) (fun hne => absurd (zc (by rw [e0, en_])) hne)
  obtain ⟨d1, d2_, d3⟩ := deed_ok (B := B) (by first | exact Iff.rfl | rw [e0] | rw [en_]) h_418 h_453 hV hG hH (fun hc => ⟨(Va_add hV (by omega) (by unfold rgF; omega) (by unfold rgF; omega) (by unfold rgF; omega) (by unfold rgF; omega) (by unfold rgF; omega) (by unfold rgF; omega)).le (by omega), Ag_add hV hG _ _ _ _ _ _⟩)
  exact KK u_418.1 (z.1, (z.2.1.1, z.2.1.2.1, z.2.1.2.2), (z.2.2.1, z.2.2.2.1, z.2.2.2.2)) ho en us g oq dr (u_418.2.1, u_418.2.2.1, u_418.2.2.2) ba bb bd bn vd mm ms mk u_453.1 az u_453.2.2 u_453.2.1 mi ns nk sv bk bm ts hd ne d1 d2_ d3 hb_ hvd hsv (hI.le (by omega)) _ _ hP hD hS ls (lv_sub hl [0, 1, 2, 3] rfl)
set_option maxHeartbeats 8000000 in
set_option maxRecDepth 100000 in
theorem law_move {p : Program} {l : Launch} {e : Env} {s : State} {m : MethodId} {below : List Frame} {meth : Method} {c : Code} {D : va_G} {k : Kt} {b L : Nat} {xs : Nat → Int32} (hL : L ≤ 3584) (C0 : lw_At p s m meth c b L xs) (hK : GW D k s) (x9 h0 c0 h8 h5 a5 h6 s6 p6 h9 s9 p9 h4 b4 e4 h2 h7 c7 hq aq d2 hh eo h3 i3 j3 k3 h1 im m0 m1 sd kp q0 qn qa qp qi qs qk qb qt qh qe : Nat) (r : Nat → Nat) (ii : Nat) (hii : ii + 7 ≤ L) (B : Int) (hBi : B ≤ 40 * ((ii : Nat) : Int)) (KK : ∀ (f : St) (z : (Nat → Int) × ((Nat → Nat) × (Nat → Nat) × Nat) × ((Nat → Nat) × (Nat → Nat) × Nat)) (ho : Nat → Int) (en : Nat → Int) (us : Nat) (g : St) (oq : Nat → Int) (dr : Nat → Int) (h : HT) (ba : Nat → Int) (bb : Nat → Int) (bd : Nat → Int) (bn : Nat) (vd : Int) (mm : Nat → St) (ms : Nat → Int) (mk : Nat → Int) (gg : St) (az : Nat → Int) (pa : Nat → Int) (de : Nat) (mi : Nat → Int) (ns : Nat → Int) (nk : Nat → Int) (sv : Int) (bk : Nat → Int) (bm : Nat) (ts : Nat → Int) (hd : Nat → Int) (ne : Nat → Int), Va (B + 40) f → Ag f gg → IvH (B + 40) h de pa → IvB ba bb bd bn bk bm → 0 ≤ vd ∧ vd < 2147483648 → sv = vd → IvI (B + 40) mm ms mk mi ns nk → ∀ (H : Heap) (locs : List Loc), va_P D vwCl (LWf k x9 h0 c0 h8 h5 a5 h6 s6 p6 h9 s9 p9 h4 b4 e4 h2 h7 c7 hq aq d2 hh eo h3 i3 j3 k3 h1 im m0 m1 sd kp q0 qn qa qp qi qs qk qb qt qh qe r f z ho en us g oq dr h ba bb bd bn vd mm ms mk gg az pa de mi ns nk sv bk bm ts hd ne) H → va_D (fun q : Nat => s.heap.size ≤ q) (LWf k x9 h0 c0 h8 h5 a5 h6 s6 p6 h9 s9 p9 h4 b4 e4 h2 h7 c7 hq aq d2 hh eo h3 i3 j3 k3 h1 im m0 m1 sd kp q0 qn qa qp qi qs qk qb qt qh qe r f z ho en us g oq dr h ba bb bd bn vd mm ms mk gg az pa de mi ns nk sv bk bm ts hd ne) → va_S (fun q : Nat => s.heap.size ≤ q) s.heap H locs → ∀ (ls : Array Slot), lv_has ls 4 [(0, .ref b), (1, .ref x9), (2, .ref q0), (3, .int (zI ((ii : Nat) : Int)))] → W p l e room_1 s m #[Value.ref b] below meth c H locs 64 6674 (lw_Z below #[Value.ref b] s) (F0 m 909 ls [])) : ∀ (f : St) (z : (Nat → Int) × ((Nat → Nat) × (Nat → Nat) × Nat) × ((Nat → Nat) × (Nat → Nat) × Nat)) (ho : Nat → Int) (en : Nat → Int) (us : Nat) (g : St) (oq : Nat → Int) (dr : Nat → Int) (h : HT) (ba : Nat → Int) (bb : Nat → Int) (bd : Nat → Int) (bn : Nat) (vd : Int) (mm : Nat → St) (ms : Nat → Int) (mk : Nat → Int) (gg : St) (az : Nat → Int) (pa : Nat → Int) (de : Nat) (mi : Nat → Int) (ns : Nat → Int) (nk : Nat → Int) (sv : Int) (bk : Nat → Int) (bm : Nat) (ts : Nat → Int) (hd : Nat → Int) (ne : Nat → Int), Va B f → Ag f gg → IvH B h de pa → IvB ba bb bd bn bk bm → 0 ≤ vd ∧ vd < 2147483648 → sv = vd → IvI B mm ms mk mi ns nk → ∀ (H : Heap) (locs : List Loc), va_P D vwCl (LWf k x9 h0 c0 h8 h5 a5 h6 s6 p6 h9 s9 p9 h4 b4 e4 h2 h7 c7 hq aq d2 hh eo h3 i3 j3 k3 h1 im m0 m1 sd kp q0 qn qa qp qi qs qk qb qt qh qe r f z ho en us g oq dr h ba bb bd bn vd mm ms mk gg az pa de mi ns nk sv bk bm ts hd ne) H → va_D (fun q : Nat => s.heap.size ≤ q) (LWf k x9 h0 c0 h8 h5 a5 h6 s6 p6 h9 s9 p9 h4 b4 e4 h2 h7 c7 hq aq d2 hh eo h3 i3 j3 k3 h1 im m0 m1 sd kp q0 qn qa qp qi qs qk qb qt qh qe r f z ho en us g oq dr h ba bb bd bn vd mm ms mk gg az pa de mi ns nk sv bk bm ts hd ne) → va_S (fun q : Nat => s.heap.size ≤ q) s.heap H locs → ∀ (ls : Array Slot), lv_has ls 4 [(0, .ref b), (1, .ref x9), (2, .ref q0), (3, .int (zI ((ii : Nat) : Int)))] → W p l e room_1 s m #[Value.ref b] below meth c H locs 64 6674 (lw_Z below #[Value.ref b] s) (F0 m 461 ls []) := by
  intro f z ho en us g oq dr h ba bb bd bn vd mm ms mk gg az pa de mi ns nk sv bk bm ts hd ne hV hG hH hb_ hvd hsv hI H locs hP hD hS ls hl
  obtain ⟨hx, hb, hr, hml, hown, hts0, hX, hbl, hlocks, hgv⟩ := C0
  have hts : ∀ w ∈ wsL_law, w.before #[Value.ref b] s = true := fun w hw => hts0 w (wsL_law_in w hw)
  have hSf : CallFix p m c cL_law 4 s #[Value.ref b] wsL_law RL := ⟨hx, hb, hml, hown, hts⟩
  have e0 : f 0 = gg 0 := hG.c (show 0 < 36 by decide)
  have en_ : nT f = nT gg := hG.n
  have hb20 := hb_.1.1
  have hbm := hb_.2.1
  have hh20 := hH.2.1
  have hde_ := hH.2.2.1
  have hnn := hV.n
  have hv00 := hV.1
  obtain ⟨x1, ex1⟩ : ∃ x, x = (xs (ii + 1)).toInt := ⟨_, rfl⟩
  have hx1 : -2147483648 ≤ x1 ∧ x1 < 2147483648 := by rw [ex1]; exact i32_rg _
  obtain ⟨x2, ex2⟩ : ∃ x, x = (xs (ii + 2)).toInt := ⟨_, rfl⟩
  have hx2 : -2147483648 ≤ x2 ∧ x2 < 2147483648 := by rw [ex2]; exact i32_rg _
  obtain ⟨x3, ex3⟩ : ∃ x, x = (xs (ii + 3)).toInt := ⟨_, rfl⟩
  have hx3 : -2147483648 ≤ x3 ∧ x3 < 2147483648 := by rw [ex3]; exact i32_rg _
  refine lv_aload_n hx hb dL_law_461 rfl (lv_at hl 1 rfl) ?_
  refine lv_aload_n hx hb dL_law_462 rfl (lv_at hl 0 rfl) ?_
  refine lv_iload_n hx hb dL_law_463 rfl (lv_at hl 3 rfl) ?_
  refine z_iconst hx hb dL_law_464 ?_
  refine z_iadd hx hb dL_law_465 ?_
  refine z_sld hx hb hX hbl hS (ii + 1) (by omega) ex1 (by omega) hL dL_law_466 ?_
  refine lv_aload_n hx hb dL_law_467 rfl (lv_at hl 0 rfl) ?_
  refine lv_iload_n hx hb dL_law_468 rfl (lv_at hl 3 rfl) ?_
  refine z_iconst hx hb dL_law_469 ?_
  refine z_iadd hx hb dL_law_470 ?_
  refine z_sld hx hb hX hbl hS (ii + 2) (by omega) ex2 (by omega) hL dL_law_471 ?_
  refine lv_aload_n hx hb dL_law_472 rfl (lv_at hl 0 rfl) ?_
  refine lv_iload_n hx hb dL_law_473 rfl (lv_at hl 3 rfl) ?_
  refine z_iconst hx hb dL_law_474 ?_
  refine z_iadd hx hb dL_law_475 ?_
  refine z_sld hx hb hX hbl hS (ii + 3) (by omega) ex3 (by omega) hL dL_law_476 ?_
  refine miVR2 (base := LWb k x9 h0 c0 h8 h5 a5 h6 s6 p6 h9 s9 p9 h4 b4 e4 h2 h7 c7 hq aq d2 hh eo h3 i3 j3 k3 h1 im m0 m1 sd kp q0 qn qa qp qi qs qk qb qt qh qe r f (z.1, (z.2.1.1, z.2.1.2.1, z.2.1.2.2), (z.2.2.1, z.2.2.2.1, z.2.2.2.2)) ho en us g oq dr h ba bb bd bn vd mm ms mk gg az pa de mi ns nk sv bk bm ts hd ne) (Rw := rowsW k r h.2.2) (w' := fun (u : St × HT) => [(x9, .inr (9, [.ref h0, .ref h8, .ref h4, .ref h2, .ref hh, .ref h3, .ref h1, .ref im, .ref sd, .ref kp])), (h0, .inr (7, [.ref c0])), (c0, .inl (k.1, 132, .inl (zF u.1))), (hh, .inr (3, [.ref eo, .int (zI ((u.2.1 : Nat) : Int)), .int (zI ((u.2.2.1 : Nat) : Int))])), (eo, .inl (k.2.2.2, 20, .inr (.inr (.inr (.inr (eoF r))))))]) (rw' := fun (u : St × HT) => rowsW k r u.2.2.2) (n := 3) (As := [.int (zI x1), .int (zI x2), .int (zI x3)]) (rest := []) hSf (c_move l D k x9 h0 c0 h8 h4 h2 hh h3 h1 im sd kp f B hV eo r h hH.1 hH.2.1 x1 x2 x3 hx1 hx2 hx3) gL_law_X9_move rfl (by decide +kernel) ⟨Nat.le_of_ble_eq_true rfl, Nat.le_of_ble_eq_true rfl⟩ hK hP hD hS [0, 1, 2, 21, 22] [3, 4, 5, 6, 7, 8, 9, 10, 11, 12, 13, 14, 15, 16, 17, 18, 19, 20, 23, 24, 25, 26, 27, 28, 29, 30, 31, 32, 33, 34, 35, 36, 37, 38, 39, 40, 41, 42, 43] 44 (fun (u : St × HT) => LWb k x9 h0 c0 h8 h5 a5 h6 s6 p6 h9 s9 p9 h4 b4 e4 h2 h7 c7 hq aq d2 hh eo h3 i3 j3 k3 h1 im m0 m1 sd kp q0 qn qa qp qi qs qk qb qt qh qe r u.1 (z.1, (z.2.1.1, z.2.1.2.1, z.2.1.2.2), (z.2.2.1, z.2.2.2.1, z.2.2.2.2)) ho en us g oq dr (u.2.1, u.2.2.1, u.2.2.2) ba bb bd bn vd mm ms mk gg az pa de mi ns nk sv bk bm ts hd ne) rfl (by decide) (fun _ => rfl) (fun _ => rfl) (fun _ => rfl) (by decide) (fun _ => rfl) (fun _ => rowsW_fst _ _ _ _) 0 rfl rfl rfl hl.1 rfl (Nat.le_of_ble_eq_true rfl) dL_law_477 ⟨Nat.le_of_ble_eq_true rfl, Nat.le_of_ble_eq_true rfl⟩ (fun r_477 u_477 H locs h_477 hP hD hS => ?_)
  obtain ⟨he_477, h_477⟩ := h_477
  subst he_477
  refine lv_aload_n hx hb dL_law_480 rfl (lv_at hl 2 rfl) ?_
  refine lv_aload_n hx hb dL_law_481 rfl (lv_at hl 0 rfl) ?_
  refine lv_iload_n hx hb dL_law_482 rfl (lv_at hl 3 rfl) ?_
  refine z_iconst hx hb dL_law_483 ?_
  refine z_iadd hx hb dL_law_484 ?_
  refine z_sld hx hb hX hbl hS (ii + 1) (by omega) ex1 (by omega) hL dL_law_485 ?_
  refine lv_aload_n hx hb dL_law_486 rfl (lv_at hl 0 rfl) ?_
  refine lv_iload_n hx hb dL_law_487 rfl (lv_at hl 3 rfl) ?_
  refine z_iconst hx hb dL_law_488 ?_
  refine z_iadd hx hb dL_law_489 ?_
  refine z_sld hx hb hX hbl hS (ii + 2) (by omega) ex2 (by omega) hL dL_law_490 ?_
  refine lv_aload_n hx hb dL_law_491 rfl (lv_at hl 0 rfl) ?_
  refine lv_iload_n hx hb dL_law_492 rfl (lv_at hl 3 rfl) ?_
  refine z_iconst hx hb dL_law_493 ?_
  refine z_iadd hx hb dL_law_494 ?_
  refine z_sld hx hb hX hbl hS (ii + 3) (by omega) ex3 (by omega) hL dL_law_495 ?_
  refine miV2 (base := LWb k x9 h0 c0 h8 h5 a5 h6 s6 p6 h9 s9 p9 h4 b4 e4 h2 h7 c7 hq aq d2 hh eo h3 i3 j3 k3 h1 im m0 m1 sd kp q0 qn qa qp qi qs qk qb qt qh qe r u_477.1 (z.1, (z.2.1.1, z.2.1.2.1, z.2.1.2.2), (z.2.2.1, z.2.2.2.1, z.2.2.2.2)) ho en us g oq dr (u_477.2.1, u_477.2.2.1, u_477.2.2.2) ba bb bd bn vd mm ms mk gg az pa de mi ns nk sv bk bm ts hd ne) (Rw := rowsW k r u_477.2.2.2) (n := 3) (As := [.int (zI x1), .int (zI x2), .int (zI x3)]) (rest := [.int (zI (if 0 ≤ x1 ∧ x1 ≤ f 0 - 1 then (if (-8 ≤ x2 ∧ x2 ≤ 31) ∧ (-8 ≤ x3 ∧ x3 ≤ 23) then max (min (x3 + 8) 24 - max x3 0) 0 else -1000000002) else -1000000001))]) hSf (m_move l D k q0 qn qa qp qi qs qk qb qt qh qe de sv bm gg B (hV.ag hG) (by omega) pa (by omega) x1 x2 x3 hx1 hx2 hx3) gL_law_X10_move rfl (by decide +kernel) ⟨Nat.le_of_ble_eq_true rfl, Nat.le_of_ble_eq_true rfl⟩ hK hP hD hS [33, 34, 36] [0, 1, 2, 3, 4, 5, 6, 7, 8, 9, 10, 11, 12, 13, 14, 15, 16, 17, 18, 19, 20, 21, 22, 23, 24, 25, 26, 27, 28, 29, 30, 31, 32, 35, 37, 38, 39, 40, 41, 42, 43] 44 (fun (u : St × HM) => LWb k x9 h0 c0 h8 h5 a5 h6 s6 p6 h9 s9 p9 h4 b4 e4 h2 h7 c7 hq aq d2 hh eo h3 i3 j3 k3 h1 im m0 m1 sd kp q0 qn qa qp qi qs qk qb qt qh qe r u_477.1 (z.1, (z.2.1.1, z.2.1.2.1, z.2.1.2.2), (z.2.2.1, z.2.2.2.1, z.2.2.2.2)) ho en us g oq dr (u_477.2.1, u_477.2.2.1, u_477.2.2.2) ba bb bd bn vd mm ms mk u.1 az u.2.2 u.2.1 mi ns nk sv bk bm ts hd ne) rfl (by decide) (fun _ => rfl) (fun _ => rfl) (fun _ => rfl) (by decide) (fun _ => rfl) 0 rfl rfl rfl hl.1 rfl (Nat.le_of_ble_eq_true rfl) dL_law_496 ⟨Nat.le_of_ble_eq_true rfl, Nat.le_of_ble_eq_true rfl⟩ (fun r_496 u_496 H locs h_496 hP hD hS => ?_)
  obtain ⟨he_496, h_496⟩ := h_496
  subst he_496
  refine lv_icmp_eq (tgt := 909) hx hb dL_law_499 (by decide) (fun _ => ?_) (fun hne => absurd (zc (by rw [e0])) hne)
  obtain ⟨d1, d2_, d3⟩ := deed_ok (B := B) (by first | exact Iff.rfl | rw [e0] | rw [en_]) h_477 h_496 hV hG hH (fun hc => ⟨(Va_mv hV hc.2.1 hc.2.2).le (by omega), Ag_mv hG _ _ _⟩)
  exact KK u_477.1 (z.1, (z.2.1.1, z.2.1.2.1, z.2.1.2.2), (z.2.2.1, z.2.2.2.1, z.2.2.2.2)) ho en us g oq dr (u_477.2.1, u_477.2.2.1, u_477.2.2.2) ba bb bd bn vd mm ms mk u_496.1 az u_496.2.2 u_496.2.1 mi ns nk sv bk bm ts hd ne d1 d2_ d3 hb_ hvd hsv (hI.le (by omega)) _ _ hP hD hS ls (lv_sub hl [0, 1, 2, 3] rfl)
set_option maxHeartbeats 8000000 in
set_option maxRecDepth 100000 in
theorem law_turn {p : Program} {l : Launch} {e : Env} {s : State} {m : MethodId} {below : List Frame} {meth : Method} {c : Code} {D : va_G} {k : Kt} {b L : Nat} {xs : Nat → Int32} (hL : L ≤ 3584) (C0 : lw_At p s m meth c b L xs) (hK : GW D k s) (x9 h0 c0 h8 h5 a5 h6 s6 p6 h9 s9 p9 h4 b4 e4 h2 h7 c7 hq aq d2 hh eo h3 i3 j3 k3 h1 im m0 m1 sd kp q0 qn qa qp qi qs qk qb qt qh qe : Nat) (r : Nat → Nat) (ii : Nat) (hii : ii + 7 ≤ L) (B : Int) (hBi : B ≤ 40 * ((ii : Nat) : Int)) (KK : ∀ (f : St) (z : (Nat → Int) × ((Nat → Nat) × (Nat → Nat) × Nat) × ((Nat → Nat) × (Nat → Nat) × Nat)) (ho : Nat → Int) (en : Nat → Int) (us : Nat) (g : St) (oq : Nat → Int) (dr : Nat → Int) (h : HT) (ba : Nat → Int) (bb : Nat → Int) (bd : Nat → Int) (bn : Nat) (vd : Int) (mm : Nat → St) (ms : Nat → Int) (mk : Nat → Int) (gg : St) (az : Nat → Int) (pa : Nat → Int) (de : Nat) (mi : Nat → Int) (ns : Nat → Int) (nk : Nat → Int) (sv : Int) (bk : Nat → Int) (bm : Nat) (ts : Nat → Int) (hd : Nat → Int) (ne : Nat → Int), Va (B + 40) f → Ag f gg → IvH (B + 40) h de pa → IvB ba bb bd bn bk bm → 0 ≤ vd ∧ vd < 2147483648 → sv = vd → IvI (B + 40) mm ms mk mi ns nk → ∀ (H : Heap) (locs : List Loc), va_P D vwCl (LWf k x9 h0 c0 h8 h5 a5 h6 s6 p6 h9 s9 p9 h4 b4 e4 h2 h7 c7 hq aq d2 hh eo h3 i3 j3 k3 h1 im m0 m1 sd kp q0 qn qa qp qi qs qk qb qt qh qe r f z ho en us g oq dr h ba bb bd bn vd mm ms mk gg az pa de mi ns nk sv bk bm ts hd ne) H → va_D (fun q : Nat => s.heap.size ≤ q) (LWf k x9 h0 c0 h8 h5 a5 h6 s6 p6 h9 s9 p9 h4 b4 e4 h2 h7 c7 hq aq d2 hh eo h3 i3 j3 k3 h1 im m0 m1 sd kp q0 qn qa qp qi qs qk qb qt qh qe r f z ho en us g oq dr h ba bb bd bn vd mm ms mk gg az pa de mi ns nk sv bk bm ts hd ne) → va_S (fun q : Nat => s.heap.size ≤ q) s.heap H locs → ∀ (ls : Array Slot), lv_has ls 4 [(0, .ref b), (1, .ref x9), (2, .ref q0), (3, .int (zI ((ii : Nat) : Int)))] → W p l e room_1 s m #[Value.ref b] below meth c H locs 64 6674 (lw_Z below #[Value.ref b] s) (F0 m 909 ls [])) : ∀ (f : St) (z : (Nat → Int) × ((Nat → Nat) × (Nat → Nat) × Nat) × ((Nat → Nat) × (Nat → Nat) × Nat)) (ho : Nat → Int) (en : Nat → Int) (us : Nat) (g : St) (oq : Nat → Int) (dr : Nat → Int) (h : HT) (ba : Nat → Int) (bb : Nat → Int) (bd : Nat → Int) (bn : Nat) (vd : Int) (mm : Nat → St) (ms : Nat → Int) (mk : Nat → Int) (gg : St) (az : Nat → Int) (pa : Nat → Int) (de : Nat) (mi : Nat → Int) (ns : Nat → Int) (nk : Nat → Int) (sv : Int) (bk : Nat → Int) (bm : Nat) (ts : Nat → Int) (hd : Nat → Int) (ne : Nat → Int), Va B f → Ag f gg → IvH B h de pa → IvB ba bb bd bn bk bm → 0 ≤ vd ∧ vd < 2147483648 → sv = vd → IvI B mm ms mk mi ns nk → ∀ (H : Heap) (locs : List Loc), va_P D vwCl (LWf k x9 h0 c0 h8 h5 a5 h6 s6 p6 h9 s9 p9 h4 b4 e4 h2 h7 c7 hq aq d2 hh eo h3 i3 j3 k3 h1 im m0 m1 sd kp q0 qn qa qp qi qs qk qb qt qh qe r f z ho en us g oq dr h ba bb bd bn vd mm ms mk gg az pa de mi ns nk sv bk bm ts hd ne) H → va_D (fun q : Nat => s.heap.size ≤ q) (LWf k x9 h0 c0 h8 h5 a5 h6 s6 p6 h9 s9 p9 h4 b4 e4 h2 h7 c7 hq aq d2 hh eo h3 i3 j3 k3 h1 im m0 m1 sd kp q0 qn qa qp qi qs qk qb qt qh qe r f z ho en us g oq dr h ba bb bd bn vd mm ms mk gg az pa de mi ns nk sv bk bm ts hd ne) → va_S (fun q : Nat => s.heap.size ≤ q) s.heap H locs → ∀ (ls : Array Slot), lv_has ls 4 [(0, .ref b), (1, .ref x9), (2, .ref q0), (3, .int (zI ((ii : Nat) : Int)))] → W p l e room_1 s m #[Value.ref b] below meth c H locs 64 6674 (lw_Z below #[Value.ref b] s) (F0 m 504 ls []) := by
  intro f z ho en us g oq dr h ba bb bd bn vd mm ms mk gg az pa de mi ns nk sv bk bm ts hd ne hV hG hH hb_ hvd hsv hI H locs hP hD hS ls hl
  obtain ⟨hx, hb, hr, hml, hown, hts0, hX, hbl, hlocks, hgv⟩ := C0
  have hts : ∀ w ∈ wsL_law, w.before #[Value.ref b] s = true := fun w hw => hts0 w (wsL_law_in w hw)
  have hSf : CallFix p m c cL_law 4 s #[Value.ref b] wsL_law RL := ⟨hx, hb, hml, hown, hts⟩
  have e0 : f 0 = gg 0 := hG.c (show 0 < 36 by decide)
  have en_ : nT f = nT gg := hG.n
  have hb20 := hb_.1.1
  have hbm := hb_.2.1
  have hh20 := hH.2.1
  have hde_ := hH.2.2.1
  have hnn := hV.n
  have hv00 := hV.1
  obtain ⟨x1, ex1⟩ : ∃ x, x = (xs (ii + 1)).toInt := ⟨_, rfl⟩
  have hx1 : -2147483648 ≤ x1 ∧ x1 < 2147483648 := by rw [ex1]; exact i32_rg _
  obtain ⟨x2, ex2⟩ : ∃ x, x = (xs (ii + 2)).toInt := ⟨_, rfl⟩
  have hx2 : -2147483648 ≤ x2 ∧ x2 < 2147483648 := by rw [ex2]; exact i32_rg _
  obtain ⟨x3, ex3⟩ : ∃ x, x = (xs (ii + 3)).toInt := ⟨_, rfl⟩
  have hx3 : -2147483648 ≤ x3 ∧ x3 < 2147483648 := by rw [ex3]; exact i32_rg _
  refine lv_aload_n hx hb dL_law_504 rfl (lv_at hl 1 rfl) ?_
  refine lv_aload_n hx hb dL_law_505 rfl (lv_at hl 0 rfl) ?_
  refine lv_iload_n hx hb dL_law_506 rfl (lv_at hl 3 rfl) ?_
  refine z_iconst hx hb dL_law_507 ?_
  refine z_iadd hx hb dL_law_508 ?_
  refine z_sld hx hb hX hbl hS (ii + 1) (by omega) ex1 (by omega) hL dL_law_509 ?_
  refine lv_aload_n hx hb dL_law_510 rfl (lv_at hl 0 rfl) ?_
  refine lv_iload_n hx hb dL_law_511 rfl (lv_at hl 3 rfl) ?_
  refine z_iconst hx hb dL_law_512 ?_
  refine z_iadd hx hb dL_law_513 ?_
  refine z_sld hx hb hX hbl hS (ii + 2) (by omega) ex2 (by omega) hL dL_law_514 ?_
  refine lv_aload_n hx hb dL_law_515 rfl (lv_at hl 0 rfl) ?_
  refine lv_iload_n hx hb dL_law_516 rfl (lv_at hl 3 rfl) ?_
  refine z_iconst hx hb dL_law_517 ?_
  refine z_iadd hx hb dL_law_518 ?_
  refine z_sld hx hb hX hbl hS (ii + 3) (by omega) ex3 (by omega) hL dL_law_519 ?_
  refine miVR2 (base := LWb k x9 h0 c0 h8 h5 a5 h6 s6 p6 h9 s9 p9 h4 b4 e4 h2 h7 c7 hq aq d2 hh eo h3 i3 j3 k3 h1 im m0 m1 sd kp q0 qn qa qp qi qs qk qb qt qh qe r f (z.1, (z.2.1.1, z.2.1.2.1, z.2.1.2.2), (z.2.2.1, z.2.2.2.1, z.2.2.2.2)) ho en us g oq dr h ba bb bd bn vd mm ms mk gg az pa de mi ns nk sv bk bm ts hd ne) (Rw := rowsW k r h.2.2) (w' := fun (u : ((Nat → Int) × ((Nat → Nat) × (Nat → Nat) × Nat) × ((Nat → Nat) × (Nat → Nat) × Nat)) × St × HT) => [(x9, .inr (9, [.ref h0, .ref h8, .ref h4, .ref h2, .ref hh, .ref h3, .ref h1, .ref im, .ref sd, .ref kp])), (h0, .inr (7, [.ref c0])), (c0, .inl (k.1, 132, .inl (zF u.2.1))), (h8, .inr (8, [.ref h5, .ref h6, .ref h9])), (h5, .inr (5, [.ref a5])), (a5, .inl (k.1, 12, .inl (zF u.1.1))), (h6, .inr (6, [.ref s6, .ref p6, .int (zI ((u.1.2.1.2.2 : Nat) : Int))])), (s6, .inl (k.1, 12, .inl (zF (nF u.1.2.1.1)))), (p6, .inl (k.1, 3, .inl (zF (nF u.1.2.1.2.1)))), (h9, .inr (6, [.ref s9, .ref p9, .int (zI ((u.1.2.2.2.2 : Nat) : Int))])), (s9, .inl (k.1, 12, .inl (zF (nF u.1.2.2.1)))), (p9, .inl (k.1, 3, .inl (zF (nF u.1.2.2.2.1)))), (hh, .inr (3, [.ref eo, .int (zI ((u.2.2.1 : Nat) : Int)), .int (zI ((u.2.2.2.1 : Nat) : Int))])), (eo, .inl (k.2.2.2, 20, .inr (.inr (.inr (.inr (eoF r))))))]) (rw' := fun (u : ((Nat → Int) × ((Nat → Nat) × (Nat → Nat) × Nat) × ((Nat → Nat) × (Nat → Nat) × Nat)) × St × HT) => rowsW k r u.2.2.2.2) (n := 3) (As := [.int (zI x1), .int (zI x2), .int (zI x3)]) (rest := []) hSf (c_turn l D k x9 h0 c0 h8 h4 h2 hh h3 h1 im sd kp f B hV h5 a5 h6 s6 p6 h9 s9 p9 z (by omega) eo r h hH.1 hH.2.1 x1 x2 x3 hx1 hx2 hx3) gL_law_X9_turn rfl (by decide +kernel) ⟨Nat.le_of_ble_eq_true rfl, Nat.le_of_ble_eq_true rfl⟩ hK hP hD hS [0, 1, 2, 3, 4, 5, 6, 7, 8, 9, 10, 11, 21, 22] [12, 13, 14, 15, 16, 17, 18, 19, 20, 23, 24, 25, 26, 27, 28, 29, 30, 31, 32, 33, 34, 35, 36, 37, 38, 39, 40, 41, 42, 43] 44 (fun (u : ((Nat → Int) × ((Nat → Nat) × (Nat → Nat) × Nat) × ((Nat → Nat) × (Nat → Nat) × Nat)) × St × HT) => LWb k x9 h0 c0 h8 h5 a5 h6 s6 p6 h9 s9 p9 h4 b4 e4 h2 h7 c7 hq aq d2 hh eo h3 i3 j3 k3 h1 im m0 m1 sd kp q0 qn qa qp qi qs qk qb qt qh qe r u.2.1 (u.1.1, (u.1.2.1.1, u.1.2.1.2.1, u.1.2.1.2.2), (u.1.2.2.1, u.1.2.2.2.1, u.1.2.2.2.2)) ho en us g oq dr (u.2.2.1, u.2.2.2.1, u.2.2.2.2) ba bb bd bn vd mm ms mk gg az pa de mi ns nk sv bk bm ts hd ne) rfl (by decide) (fun _ => rfl) (fun _ => rfl) (fun _ => rfl) (by decide) (fun _ => rfl) (fun _ => rowsW_fst _ _ _ _) 0 rfl rfl rfl hl.1 rfl (Nat.le_of_ble_eq_true rfl) dL_law_520 ⟨Nat.le_of_ble_eq_true rfl, Nat.le_of_ble_eq_true rfl⟩ (fun r_520 u_520 H locs h_520 hP hD hS => ?_)
  obtain ⟨he_520, h_520⟩ := h_520
  subst he_520
  refine lv_aload_n hx hb dL_law_523 rfl (lv_at hl 2 rfl) ?_
  refine lv_aload_n hx hb dL_law_524 rfl (lv_at hl 0 rfl) ?_
  refine lv_iload_n hx hb dL_law_525 rfl (lv_at hl 3 rfl) ?_
  refine z_iconst hx hb dL_law_526 ?_
  refine z_iadd hx hb dL_law_527 ?_
  refine z_sld hx hb hX hbl hS (ii + 1) (by omega) ex1 (by omega) hL dL_law_528 ?_
  refine lv_aload_n hx hb dL_law_529 rfl (lv_at hl 0 rfl) ?_
  refine lv_iload_n hx hb dL_law_530 rfl (lv_at hl 3 rfl) ?_
  refine z_iconst hx hb dL_law_531 ?_
  refine z_iadd hx hb dL_law_532 ?_
  refine z_sld hx hb hX hbl hS (ii + 2) (by omega) ex2 (by omega) hL dL_law_533 ?_
  refine lv_aload_n hx hb dL_law_534 rfl (lv_at hl 0 rfl) ?_
  refine lv_iload_n hx hb dL_law_535 rfl (lv_at hl 3 rfl) ?_
  refine z_iconst hx hb dL_law_536 ?_
  refine z_iadd hx hb dL_law_537 ?_
  refine z_sld hx hb hX hbl hS (ii + 3) (by omega) ex3 (by omega) hL dL_law_538 ?_
  refine miV2 (base := LWb k x9 h0 c0 h8 h5 a5 h6 s6 p6 h9 s9 p9 h4 b4 e4 h2 h7 c7 hq aq d2 hh eo h3 i3 j3 k3 h1 im m0 m1 sd kp q0 qn qa qp qi qs qk qb qt qh qe r u_520.2.1 (u_520.1.1, (u_520.1.2.1.1, u_520.1.2.1.2.1, u_520.1.2.1.2.2), (u_520.1.2.2.1, u_520.1.2.2.2.1, u_520.1.2.2.2.2)) ho en us g oq dr (u_520.2.2.1, u_520.2.2.2.1, u_520.2.2.2.2) ba bb bd bn vd mm ms mk gg az pa de mi ns nk sv bk bm ts hd ne) (Rw := rowsW k r u_520.2.2.2.2) (n := 3) (As := [.int (zI x1), .int (zI x2), .int (zI x3)]) (rest := [.int (zI (if 0 ≤ x1 ∧ x1 ≤ f 0 - 1 then (if (0 ≤ x2 ∧ x2 ≤ 3) ∧ (0 ≤ x3 ∧ x3 ≤ 3) then ((sm (fun q => seeL (tuZ f x1.toNat x2 x3) x1.toNat q) 24 : Nat) : Int) else -1000000002) else -1000000001))]) hSf (m_turn l D k q0 qn qa qp qi qs qk qb qt qh qe de sv bm gg B (hV.ag hG) (by omega) pa (by omega) ts x1 x2 x3 hx1 hx2 hx3) gL_law_X10_turn rfl (by decide +kernel) ⟨Nat.le_of_ble_eq_true rfl, Nat.le_of_ble_eq_true rfl⟩ hK hP hD hS [33, 34, 36, 41] [0, 1, 2, 3, 4, 5, 6, 7, 8, 9, 10, 11, 12, 13, 14, 15, 16, 17, 18, 19, 20, 21, 22, 23, 24, 25, 26, 27, 28, 29, 30, 31, 32, 35, 37, 38, 39, 40, 42, 43] 44 (fun (u : (Nat → Int) × St × HM) => LWb k x9 h0 c0 h8 h5 a5 h6 s6 p6 h9 s9 p9 h4 b4 e4 h2 h7 c7 hq aq d2 hh eo h3 i3 j3 k3 h1 im m0 m1 sd kp q0 qn qa qp qi qs qk qb qt qh qe r u_520.2.1 (u_520.1.1, (u_520.1.2.1.1, u_520.1.2.1.2.1, u_520.1.2.1.2.2), (u_520.1.2.2.1, u_520.1.2.2.2.1, u_520.1.2.2.2.2)) ho en us g oq dr (u_520.2.2.1, u_520.2.2.2.1, u_520.2.2.2.2) ba bb bd bn vd mm ms mk u.2.1 az u.2.2.2 u.2.2.1 mi ns nk sv bk bm u.1 hd ne) rfl (by decide) (fun _ => rfl) (fun _ => rfl) (fun _ => rfl) (by decide) (fun _ => rfl) 0 rfl rfl rfl hl.1 rfl (Nat.le_of_ble_eq_true rfl) dL_law_539 ⟨Nat.le_of_ble_eq_true rfl, Nat.le_of_ble_eq_true rfl⟩ (fun r_539 u_539 H locs h_539 hP hD hS => ?_)
  obtain ⟨he_539, h_539⟩ := h_539
  subst he_539
  refine lv_icmp_eq (tgt := 909) hx hb dL_law_542 (by decide) (fun _ => ?_) (fun hne => absurd (zc (turn_v hV hG x1 x2 x3)) hne)
  obtain ⟨d1, d2_, d3⟩ := deed_ok (B := B) (by first | exact Iff.rfl | rw [e0] | rw [en_]) h_520 h_539 hV hG hH (fun hc => ⟨(Va_tu hV hc.2.1 hc.2.2).le (by omega), Ag_tu hG _ _ _⟩)
  exact KK u_520.2.1 (u_520.1.1, (u_520.1.2.1.1, u_520.1.2.1.2.1, u_520.1.2.1.2.2), (u_520.1.2.2.1, u_520.1.2.2.2.1, u_520.1.2.2.2.2)) ho en us g oq dr (u_520.2.2.1, u_520.2.2.2.1, u_520.2.2.2.2) ba bb bd bn vd mm ms mk u_539.2.1 az u_539.2.2.2 u_539.2.2.1 mi ns nk sv bk bm u_539.1 hd ne d1 d2_ d3 hb_ hvd hsv (hI.le (by omega)) _ _ hP hD hS ls (lv_sub hl [0, 1, 2, 3] rfl)
set_option maxHeartbeats 8000000 in
set_option maxRecDepth 100000 in
theorem law_speed {p : Program} {l : Launch} {e : Env} {s : State} {m : MethodId} {below : List Frame} {meth : Method} {c : Code} {D : va_G} {k : Kt} {b L : Nat} {xs : Nat → Int32} (hL : L ≤ 3584) (C0 : lw_At p s m meth c b L xs) (hK : GW D k s) (x9 h0 c0 h8 h5 a5 h6 s6 p6 h9 s9 p9 h4 b4 e4 h2 h7 c7 hq aq d2 hh eo h3 i3 j3 k3 h1 im m0 m1 sd kp q0 qn qa qp qi qs qk qb qt qh qe : Nat) (r : Nat → Nat) (ii : Nat) (hii : ii + 7 ≤ L) (B : Int) (hBi : B ≤ 40 * ((ii : Nat) : Int)) (KK : ∀ (f : St) (z : (Nat → Int) × ((Nat → Nat) × (Nat → Nat) × Nat) × ((Nat → Nat) × (Nat → Nat) × Nat)) (ho : Nat → Int) (en : Nat → Int) (us : Nat) (g : St) (oq : Nat → Int) (dr : Nat → Int) (h : HT) (ba : Nat → Int) (bb : Nat → Int) (bd : Nat → Int) (bn : Nat) (vd : Int) (mm : Nat → St) (ms : Nat → Int) (mk : Nat → Int) (gg : St) (az : Nat → Int) (pa : Nat → Int) (de : Nat) (mi : Nat → Int) (ns : Nat → Int) (nk : Nat → Int) (sv : Int) (bk : Nat → Int) (bm : Nat) (ts : Nat → Int) (hd : Nat → Int) (ne : Nat → Int), Va (B + 40) f → Ag f gg → IvH (B + 40) h de pa → IvB ba bb bd bn bk bm → 0 ≤ vd ∧ vd < 2147483648 → sv = vd → IvI (B + 40) mm ms mk mi ns nk → ∀ (H : Heap) (locs : List Loc), va_P D vwCl (LWf k x9 h0 c0 h8 h5 a5 h6 s6 p6 h9 s9 p9 h4 b4 e4 h2 h7 c7 hq aq d2 hh eo h3 i3 j3 k3 h1 im m0 m1 sd kp q0 qn qa qp qi qs qk qb qt qh qe r f z ho en us g oq dr h ba bb bd bn vd mm ms mk gg az pa de mi ns nk sv bk bm ts hd ne) H → va_D (fun q : Nat => s.heap.size ≤ q) (LWf k x9 h0 c0 h8 h5 a5 h6 s6 p6 h9 s9 p9 h4 b4 e4 h2 h7 c7 hq aq d2 hh eo h3 i3 j3 k3 h1 im m0 m1 sd kp q0 qn qa qp qi qs qk qb qt qh qe r f z ho en us g oq dr h ba bb bd bn vd mm ms mk gg az pa de mi ns nk sv bk bm ts hd ne) → va_S (fun q : Nat => s.heap.size ≤ q) s.heap H locs → ∀ (ls : Array Slot), lv_has ls 4 [(0, .ref b), (1, .ref x9), (2, .ref q0), (3, .int (zI ((ii : Nat) : Int)))] → W p l e room_1 s m #[Value.ref b] below meth c H locs 64 6674 (lw_Z below #[Value.ref b] s) (F0 m 909 ls [])) : ∀ (f : St) (z : (Nat → Int) × ((Nat → Nat) × (Nat → Nat) × Nat) × ((Nat → Nat) × (Nat → Nat) × Nat)) (ho : Nat → Int) (en : Nat → Int) (us : Nat) (g : St) (oq : Nat → Int) (dr : Nat → Int) (h : HT) (ba : Nat → Int) (bb : Nat → Int) (bd : Nat → Int) (bn : Nat) (vd : Int) (mm : Nat → St) (ms : Nat → Int) (mk : Nat → Int) (gg : St) (az : Nat → Int) (pa : Nat → Int) (de : Nat) (mi : Nat → Int) (ns : Nat → Int) (nk : Nat → Int) (sv : Int) (bk : Nat → Int) (bm : Nat) (ts : Nat → Int) (hd : Nat → Int) (ne : Nat → Int), Va B f → Ag f gg → IvH B h de pa → IvB ba bb bd bn bk bm → 0 ≤ vd ∧ vd < 2147483648 → sv = vd → IvI B mm ms mk mi ns nk → ∀ (H : Heap) (locs : List Loc), va_P D vwCl (LWf k x9 h0 c0 h8 h5 a5 h6 s6 p6 h9 s9 p9 h4 b4 e4 h2 h7 c7 hq aq d2 hh eo h3 i3 j3 k3 h1 im m0 m1 sd kp q0 qn qa qp qi qs qk qb qt qh qe r f z ho en us g oq dr h ba bb bd bn vd mm ms mk gg az pa de mi ns nk sv bk bm ts hd ne) H → va_D (fun q : Nat => s.heap.size ≤ q) (LWf k x9 h0 c0 h8 h5 a5 h6 s6 p6 h9 s9 p9 h4 b4 e4 h2 h7 c7 hq aq d2 hh eo h3 i3 j3 k3 h1 im m0 m1 sd kp q0 qn qa qp qi qs qk qb qt qh qe r f z ho en us g oq dr h ba bb bd bn vd mm ms mk gg az pa de mi ns nk sv bk bm ts hd ne) → va_S (fun q : Nat => s.heap.size ≤ q) s.heap H locs → ∀ (ls : Array Slot), lv_has ls 4 [(0, .ref b), (1, .ref x9), (2, .ref q0), (3, .int (zI ((ii : Nat) : Int)))] → W p l e room_1 s m #[Value.ref b] below meth c H locs 64 6674 (lw_Z below #[Value.ref b] s) (F0 m 547 ls []) := by
  intro f z ho en us g oq dr h ba bb bd bn vd mm ms mk gg az pa de mi ns nk sv bk bm ts hd ne hV hG hH hb_ hvd hsv hI H locs hP hD hS ls hl
  obtain ⟨hx, hb, hr, hml, hown, hts0, hX, hbl, hlocks, hgv⟩ := C0
  have hts : ∀ w ∈ wsL_law, w.before #[Value.ref b] s = true := fun w hw => hts0 w (wsL_law_in w hw)
  have hSf : CallFix p m c cL_law 4 s #[Value.ref b] wsL_law RL := ⟨hx, hb, hml, hown, hts⟩
  have e0 : f 0 = gg 0 := hG.c (show 0 < 36 by decide)
  have en_ : nT f = nT gg := hG.n
  have hb20 := hb_.1.1
  have hbm := hb_.2.1
  have hh20 := hH.2.1
  have hde_ := hH.2.2.1
  have hnn := hV.n
  have hv00 := hV.1
  obtain ⟨x1, ex1⟩ : ∃ x, x = (xs (ii + 1)).toInt := ⟨_, rfl⟩
  have hx1 : -2147483648 ≤ x1 ∧ x1 < 2147483648 := by rw [ex1]; exact i32_rg _
  obtain ⟨x2, ex2⟩ : ∃ x, x = (xs (ii + 2)).toInt := ⟨_, rfl⟩
  have hx2 : -2147483648 ≤ x2 ∧ x2 < 2147483648 := by rw [ex2]; exact i32_rg _
  obtain ⟨x3, ex3⟩ : ∃ x, x = (xs (ii + 3)).toInt := ⟨_, rfl⟩
  have hx3 : -2147483648 ≤ x3 ∧ x3 < 2147483648 := by rw [ex3]; exact i32_rg _
  refine lv_aload_n hx hb dL_law_547 rfl (lv_at hl 1 rfl) ?_
  refine lv_aload_n hx hb dL_law_548 rfl (lv_at hl 0 rfl) ?_
  refine lv_iload_n hx hb dL_law_549 rfl (lv_at hl 3 rfl) ?_
  refine z_iconst hx hb dL_law_550 ?_
  refine z_iadd hx hb dL_law_551 ?_
  refine z_sld hx hb hX hbl hS (ii + 1) (by omega) ex1 (by omega) hL dL_law_552 ?_
  refine lv_aload_n hx hb dL_law_553 rfl (lv_at hl 0 rfl) ?_
  refine lv_iload_n hx hb dL_law_554 rfl (lv_at hl 3 rfl) ?_
  refine z_iconst hx hb dL_law_555 ?_
  refine z_iadd hx hb dL_law_556 ?_
  refine z_sld hx hb hX hbl hS (ii + 2) (by omega) ex2 (by omega) hL dL_law_557 ?_
  refine lv_aload_n hx hb dL_law_558 rfl (lv_at hl 0 rfl) ?_
  refine lv_iload_n hx hb dL_law_559 rfl (lv_at hl 3 rfl) ?_
  refine z_iconst hx hb dL_law_560 ?_
  refine z_iadd hx hb dL_law_561 ?_
  refine z_sld hx hb hX hbl hS (ii + 3) (by omega) ex3 (by omega) hL dL_law_562 ?_
  refine miVR2 (base := LWb k x9 h0 c0 h8 h5 a5 h6 s6 p6 h9 s9 p9 h4 b4 e4 h2 h7 c7 hq aq d2 hh eo h3 i3 j3 k3 h1 im m0 m1 sd kp q0 qn qa qp qi qs qk qb qt qh qe r f (z.1, (z.2.1.1, z.2.1.2.1, z.2.1.2.2), (z.2.2.1, z.2.2.2.1, z.2.2.2.2)) ho en us g oq dr h ba bb bd bn vd mm ms mk gg az pa de mi ns nk sv bk bm ts hd ne) (Rw := rowsW k r h.2.2) (w' := fun (u : St × HT) => [(x9, .inr (9, [.ref h0, .ref h8, .ref h4, .ref h2, .ref hh, .ref h3, .ref h1, .ref im, .ref sd, .ref kp])), (h0, .inr (7, [.ref c0])), (c0, .inl (k.1, 132, .inl (zF u.1))), (hh, .inr (3, [.ref eo, .int (zI ((u.2.1 : Nat) : Int)), .int (zI ((u.2.2.1 : Nat) : Int))])), (eo, .inl (k.2.2.2, 20, .inr (.inr (.inr (.inr (eoF r))))))]) (rw' := fun (u : St × HT) => rowsW k r u.2.2.2) (n := 3) (As := [.int (zI x1), .int (zI x2), .int (zI x3)]) (rest := []) hSf (c_speed l D k x9 h0 c0 h8 h4 h2 hh h3 h1 im sd kp f B hV eo r h hH.1 hH.2.1 x1 x2 x3 hx1 hx2 hx3) gL_law_X9_speed rfl (by decide +kernel) ⟨Nat.le_of_ble_eq_true rfl, Nat.le_of_ble_eq_true rfl⟩ hK hP hD hS [0, 1, 2, 21, 22] [3, 4, 5, 6, 7, 8, 9, 10, 11, 12, 13, 14, 15, 16, 17, 18, 19, 20, 23, 24, 25, 26, 27, 28, 29, 30, 31, 32, 33, 34, 35, 36, 37, 38, 39, 40, 41, 42, 43] 44 (fun (u : St × HT) => LWb k x9 h0 c0 h8 h5 a5 h6 s6 p6 h9 s9 p9 h4 b4 e4 h2 h7 c7 hq aq d2 hh eo h3 i3 j3 k3 h1 im m0 m1 sd kp q0 qn qa qp qi qs qk qb qt qh qe r u.1 (z.1, (z.2.1.1, z.2.1.2.1, z.2.1.2.2), (z.2.2.1, z.2.2.2.1, z.2.2.2.2)) ho en us g oq dr (u.2.1, u.2.2.1, u.2.2.2) ba bb bd bn vd mm ms mk gg az pa de mi ns nk sv bk bm ts hd ne) rfl (by decide) (fun _ => rfl) (fun _ => rfl) (fun _ => rfl) (by decide) (fun _ => rfl) (fun _ => rowsW_fst _ _ _ _) 0 rfl rfl rfl hl.1 rfl (Nat.le_of_ble_eq_true rfl) dL_law_563 ⟨Nat.le_of_ble_eq_true rfl, Nat.le_of_ble_eq_true rfl⟩ (fun r_563 u_563 H locs h_563 hP hD hS => ?_)
  obtain ⟨he_563, h_563⟩ := h_563
  subst he_563
  refine lv_aload_n hx hb dL_law_566 rfl (lv_at hl 2 rfl) ?_
  refine lv_aload_n hx hb dL_law_567 rfl (lv_at hl 0 rfl) ?_
  refine lv_iload_n hx hb dL_law_568 rfl (lv_at hl 3 rfl) ?_
  refine z_iconst hx hb dL_law_569 ?_
  refine z_iadd hx hb dL_law_570 ?_
  refine z_sld hx hb hX hbl hS (ii + 1) (by omega) ex1 (by omega) hL dL_law_571 ?_
  refine lv_aload_n hx hb dL_law_572 rfl (lv_at hl 0 rfl) ?_
  refine lv_iload_n hx hb dL_law_573 rfl (lv_at hl 3 rfl) ?_
  refine z_iconst hx hb dL_law_574 ?_
  refine z_iadd hx hb dL_law_575 ?_
  refine z_sld hx hb hX hbl hS (ii + 2) (by omega) ex2 (by omega) hL dL_law_576 ?_
  refine lv_aload_n hx hb dL_law_577 rfl (lv_at hl 0 rfl) ?_
  refine lv_iload_n hx hb dL_law_578 rfl (lv_at hl 3 rfl) ?_
  refine z_iconst hx hb dL_law_579 ?_
  refine z_iadd hx hb dL_law_580 ?_
  refine z_sld hx hb hX hbl hS (ii + 3) (by omega) ex3 (by omega) hL dL_law_581 ?_
  refine miV2 (base := LWb k x9 h0 c0 h8 h5 a5 h6 s6 p6 h9 s9 p9 h4 b4 e4 h2 h7 c7 hq aq d2 hh eo h3 i3 j3 k3 h1 im m0 m1 sd kp q0 qn qa qp qi qs qk qb qt qh qe r u_563.1 (z.1, (z.2.1.1, z.2.1.2.1, z.2.1.2.2), (z.2.2.1, z.2.2.2.1, z.2.2.2.2)) ho en us g oq dr (u_563.2.1, u_563.2.2.1, u_563.2.2.2) ba bb bd bn vd mm ms mk gg az pa de mi ns nk sv bk bm ts hd ne) (Rw := rowsW k r u_563.2.2.2) (n := 3) (As := [.int (zI x1), .int (zI x2), .int (zI x3)]) (rest := [.int (zI (if 0 ≤ x1 ∧ x1 ≤ f 0 - 1 then (if (-8 ≤ x2 ∧ x2 ≤ 8) ∧ (-8 ≤ x3 ∧ x3 ≤ 8) then 1 else -1000000002) else -1000000001))]) hSf (m_speed l D k q0 qn qa qp qi qs qk qb qt qh qe de sv bm gg B (hV.ag hG) (by omega) pa (by omega) x1 x2 x3 hx1 hx2 hx3) gL_law_X10_speed rfl (by decide +kernel) ⟨Nat.le_of_ble_eq_true rfl, Nat.le_of_ble_eq_true rfl⟩ hK hP hD hS [33, 34, 36] [0, 1, 2, 3, 4, 5, 6, 7, 8, 9, 10, 11, 12, 13, 14, 15, 16, 17, 18, 19, 20, 21, 22, 23, 24, 25, 26, 27, 28, 29, 30, 31, 32, 35, 37, 38, 39, 40, 41, 42, 43] 44 (fun (u : St × HM) => LWb k x9 h0 c0 h8 h5 a5 h6 s6 p6 h9 s9 p9 h4 b4 e4 h2 h7 c7 hq aq d2 hh eo h3 i3 j3 k3 h1 im m0 m1 sd kp q0 qn qa qp qi qs qk qb qt qh qe r u_563.1 (z.1, (z.2.1.1, z.2.1.2.1, z.2.1.2.2), (z.2.2.1, z.2.2.2.1, z.2.2.2.2)) ho en us g oq dr (u_563.2.1, u_563.2.2.1, u_563.2.2.2) ba bb bd bn vd mm ms mk u.1 az u.2.2 u.2.1 mi ns nk sv bk bm ts hd ne) rfl (by decide) (fun _ => rfl) (fun _ => rfl) (fun _ => rfl) (by decide) (fun _ => rfl) 0 rfl rfl rfl hl.1 rfl (Nat.le_of_ble_eq_true rfl) dL_law_582 ⟨Nat.le_of_ble_eq_true rfl, Nat.le_of_ble_eq_true rfl⟩ (fun r_582 u_582 H locs h_582 hP hD hS => ?_)
  obtain ⟨he_582, h_582⟩ := h_582
  subst he_582
  refine lv_icmp_eq (tgt := 909) hx hb dL_law_585 (by decide) (fun _ => ?_) (fun hne => absurd (zc (by rw [e0])) hne)
  obtain ⟨d1, d2_, d3⟩ := deed_ok (B := B) (by first | exact Iff.rfl | rw [e0] | rw [en_]) h_563 h_582 hV hG hH (fun hc => ⟨(Va_sp hV hc.2.1 hc.2.2).le (by omega), Ag_sp hG _ _ _⟩)
  exact KK u_563.1 (z.1, (z.2.1.1, z.2.1.2.1, z.2.1.2.2), (z.2.2.1, z.2.2.2.1, z.2.2.2.2)) ho en us g oq dr (u_563.2.1, u_563.2.2.1, u_563.2.2.2) ba bb bd bn vd mm ms mk u_582.1 az u_582.2.2 u_582.2.1 mi ns nk sv bk bm ts hd ne d1 d2_ d3 hb_ hvd hsv (hI.le (by omega)) _ _ hP hD hS ls (lv_sub hl [0, 1, 2, 3] rfl)
set_option maxHeartbeats 8000000 in
set_option maxRecDepth 100000 in
theorem law_take {p : Program} {l : Launch} {e : Env} {s : State} {m : MethodId} {below : List Frame} {meth : Method} {c : Code} {D : va_G} {k : Kt} {b L : Nat} {xs : Nat → Int32} (hL : L ≤ 3584) (C0 : lw_At p s m meth c b L xs) (hK : GW D k s) (x9 h0 c0 h8 h5 a5 h6 s6 p6 h9 s9 p9 h4 b4 e4 h2 h7 c7 hq aq d2 hh eo h3 i3 j3 k3 h1 im m0 m1 sd kp q0 qn qa qp qi qs qk qb qt qh qe : Nat) (r : Nat → Nat) (ii : Nat) (hii : ii + 7 ≤ L) (B : Int) (hBi : B ≤ 40 * ((ii : Nat) : Int)) (KK : ∀ (f : St) (z : (Nat → Int) × ((Nat → Nat) × (Nat → Nat) × Nat) × ((Nat → Nat) × (Nat → Nat) × Nat)) (ho : Nat → Int) (en : Nat → Int) (us : Nat) (g : St) (oq : Nat → Int) (dr : Nat → Int) (h : HT) (ba : Nat → Int) (bb : Nat → Int) (bd : Nat → Int) (bn : Nat) (vd : Int) (mm : Nat → St) (ms : Nat → Int) (mk : Nat → Int) (gg : St) (az : Nat → Int) (pa : Nat → Int) (de : Nat) (mi : Nat → Int) (ns : Nat → Int) (nk : Nat → Int) (sv : Int) (bk : Nat → Int) (bm : Nat) (ts : Nat → Int) (hd : Nat → Int) (ne : Nat → Int), Va (B + 40) f → Ag f gg → IvH (B + 40) h de pa → IvB ba bb bd bn bk bm → 0 ≤ vd ∧ vd < 2147483648 → sv = vd → IvI (B + 40) mm ms mk mi ns nk → ∀ (H : Heap) (locs : List Loc), va_P D vwCl (LWf k x9 h0 c0 h8 h5 a5 h6 s6 p6 h9 s9 p9 h4 b4 e4 h2 h7 c7 hq aq d2 hh eo h3 i3 j3 k3 h1 im m0 m1 sd kp q0 qn qa qp qi qs qk qb qt qh qe r f z ho en us g oq dr h ba bb bd bn vd mm ms mk gg az pa de mi ns nk sv bk bm ts hd ne) H → va_D (fun q : Nat => s.heap.size ≤ q) (LWf k x9 h0 c0 h8 h5 a5 h6 s6 p6 h9 s9 p9 h4 b4 e4 h2 h7 c7 hq aq d2 hh eo h3 i3 j3 k3 h1 im m0 m1 sd kp q0 qn qa qp qi qs qk qb qt qh qe r f z ho en us g oq dr h ba bb bd bn vd mm ms mk gg az pa de mi ns nk sv bk bm ts hd ne) → va_S (fun q : Nat => s.heap.size ≤ q) s.heap H locs → ∀ (ls : Array Slot), lv_has ls 4 [(0, .ref b), (1, .ref x9), (2, .ref q0), (3, .int (zI ((ii : Nat) : Int)))] → W p l e room_1 s m #[Value.ref b] below meth c H locs 64 6674 (lw_Z below #[Value.ref b] s) (F0 m 909 ls [])) : ∀ (f : St) (z : (Nat → Int) × ((Nat → Nat) × (Nat → Nat) × Nat) × ((Nat → Nat) × (Nat → Nat) × Nat)) (ho : Nat → Int) (en : Nat → Int) (us : Nat) (g : St) (oq : Nat → Int) (dr : Nat → Int) (h : HT) (ba : Nat → Int) (bb : Nat → Int) (bd : Nat → Int) (bn : Nat) (vd : Int) (mm : Nat → St) (ms : Nat → Int) (mk : Nat → Int) (gg : St) (az : Nat → Int) (pa : Nat → Int) (de : Nat) (mi : Nat → Int) (ns : Nat → Int) (nk : Nat → Int) (sv : Int) (bk : Nat → Int) (bm : Nat) (ts : Nat → Int) (hd : Nat → Int) (ne : Nat → Int), Va B f → Ag f gg → IvH B h de pa → IvB ba bb bd bn bk bm → 0 ≤ vd ∧ vd < 2147483648 → sv = vd → IvI B mm ms mk mi ns nk → ∀ (H : Heap) (locs : List Loc), va_P D vwCl (LWf k x9 h0 c0 h8 h5 a5 h6 s6 p6 h9 s9 p9 h4 b4 e4 h2 h7 c7 hq aq d2 hh eo h3 i3 j3 k3 h1 im m0 m1 sd kp q0 qn qa qp qi qs qk qb qt qh qe r f z ho en us g oq dr h ba bb bd bn vd mm ms mk gg az pa de mi ns nk sv bk bm ts hd ne) H → va_D (fun q : Nat => s.heap.size ≤ q) (LWf k x9 h0 c0 h8 h5 a5 h6 s6 p6 h9 s9 p9 h4 b4 e4 h2 h7 c7 hq aq d2 hh eo h3 i3 j3 k3 h1 im m0 m1 sd kp q0 qn qa qp qi qs qk qb qt qh qe r f z ho en us g oq dr h ba bb bd bn vd mm ms mk gg az pa de mi ns nk sv bk bm ts hd ne) → va_S (fun q : Nat => s.heap.size ≤ q) s.heap H locs → ∀ (ls : Array Slot), lv_has ls 4 [(0, .ref b), (1, .ref x9), (2, .ref q0), (3, .int (zI ((ii : Nat) : Int)))] → W p l e room_1 s m #[Value.ref b] below meth c H locs 64 6674 (lw_Z below #[Value.ref b] s) (F0 m 590 ls []) := by
  intro f z ho en us g oq dr h ba bb bd bn vd mm ms mk gg az pa de mi ns nk sv bk bm ts hd ne hV hG hH hb_ hvd hsv hI H locs hP hD hS ls hl
  obtain ⟨hx, hb, hr, hml, hown, hts0, hX, hbl, hlocks, hgv⟩ := C0
  have hts : ∀ w ∈ wsL_law, w.before #[Value.ref b] s = true := fun w hw => hts0 w (wsL_law_in w hw)
  have hSf : CallFix p m c cL_law 4 s #[Value.ref b] wsL_law RL := ⟨hx, hb, hml, hown, hts⟩
  have e0 : f 0 = gg 0 := hG.c (show 0 < 36 by decide)
  have en_ : nT f = nT gg := hG.n
  have hb20 := hb_.1.1
  have hbm := hb_.2.1
  have hh20 := hH.2.1
  have hde_ := hH.2.2.1
  have hnn := hV.n
  have hv00 := hV.1
  obtain ⟨x1, ex1⟩ : ∃ x, x = (xs (ii + 1)).toInt := ⟨_, rfl⟩
  have hx1 : -2147483648 ≤ x1 ∧ x1 < 2147483648 := by rw [ex1]; exact i32_rg _
  refine lv_aload_n hx hb dL_law_590 rfl (lv_at hl 1 rfl) ?_
  refine lv_aload_n hx hb dL_law_591 rfl (lv_at hl 0 rfl) ?_
  refine lv_iload_n hx hb dL_law_592 rfl (lv_at hl 3 rfl) ?_
  refine z_iconst hx hb dL_law_593 ?_
  refine z_iadd hx hb dL_law_594 ?_
  refine z_sld hx hb hX hbl hS (ii + 1) (by omega) ex1 (by omega) hL dL_law_595 ?_
  refine miVR2 (base := LWb k x9 h0 c0 h8 h5 a5 h6 s6 p6 h9 s9 p9 h4 b4 e4 h2 h7 c7 hq aq d2 hh eo h3 i3 j3 k3 h1 im m0 m1 sd kp q0 qn qa qp qi qs qk qb qt qh qe r f (z.1, (z.2.1.1, z.2.1.2.1, z.2.1.2.2), (z.2.2.1, z.2.2.2.1, z.2.2.2.2)) ho en us g oq dr h ba bb bd bn vd mm ms mk gg az pa de mi ns nk sv bk bm ts hd ne) (Rw := rowsW k r h.2.2) (w' := fun (u : St × HT) => [(x9, .inr (9, [.ref h0, .ref h8, .ref h4, .ref h2, .ref hh, .ref h3, .ref h1, .ref im, .ref sd, .ref kp])), (h0, .inr (7, [.ref c0])), (c0, .inl (k.1, 132, .inl (zF u.1))), (hh, .inr (3, [.ref eo, .int (zI ((u.2.1 : Nat) : Int)), .int (zI ((u.2.2.1 : Nat) : Int))])), (eo, .inl (k.2.2.2, 20, .inr (.inr (.inr (.inr (eoF r))))))]) (rw' := fun (u : St × HT) => rowsW k r u.2.2.2) (n := 1) (As := [.int (zI x1)]) (rest := []) hSf (c_take l D k x9 h0 c0 h8 h4 h2 hh h3 h1 im sd kp f B hV eo r h hH.1 hH.2.1 x1 hx1) gL_law_X9_take rfl (by decide +kernel) ⟨Nat.le_of_ble_eq_true rfl, Nat.le_of_ble_eq_true rfl⟩ hK hP hD hS [0, 1, 2, 21, 22] [3, 4, 5, 6, 7, 8, 9, 10, 11, 12, 13, 14, 15, 16, 17, 18, 19, 20, 23, 24, 25, 26, 27, 28, 29, 30, 31, 32, 33, 34, 35, 36, 37, 38, 39, 40, 41, 42, 43] 44 (fun (u : St × HT) => LWb k x9 h0 c0 h8 h5 a5 h6 s6 p6 h9 s9 p9 h4 b4 e4 h2 h7 c7 hq aq d2 hh eo h3 i3 j3 k3 h1 im m0 m1 sd kp q0 qn qa qp qi qs qk qb qt qh qe r u.1 (z.1, (z.2.1.1, z.2.1.2.1, z.2.1.2.2), (z.2.2.1, z.2.2.2.1, z.2.2.2.2)) ho en us g oq dr (u.2.1, u.2.2.1, u.2.2.2) ba bb bd bn vd mm ms mk gg az pa de mi ns nk sv bk bm ts hd ne) rfl (by decide) (fun _ => rfl) (fun _ => rfl) (fun _ => rfl) (by decide) (fun _ => rfl) (fun _ => rowsW_fst _ _ _ _) 0 rfl rfl rfl hl.1 rfl (Nat.le_of_ble_eq_true rfl) dL_law_596 ⟨Nat.le_of_ble_eq_true rfl, Nat.le_of_ble_eq_true rfl⟩ (fun r_596 u_596 H locs h_596 hP hD hS => ?_)
  obtain ⟨he_596, h_596⟩ := h_596
  subst he_596
  refine lv_aload_n hx hb dL_law_599 rfl (lv_at hl 2 rfl) ?_
  refine lv_aload_n hx hb dL_law_600 rfl (lv_at hl 0 rfl) ?_
  refine lv_iload_n hx hb dL_law_601 rfl (lv_at hl 3 rfl) ?_
  refine z_iconst hx hb dL_law_602 ?_
  refine z_iadd hx hb dL_law_603 ?_
  refine z_sld hx hb hX hbl hS (ii + 1) (by omega) ex1 (by omega) hL dL_law_604 ?_
  refine miV2 (base := LWb k x9 h0 c0 h8 h5 a5 h6 s6 p6 h9 s9 p9 h4 b4 e4 h2 h7 c7 hq aq d2 hh eo h3 i3 j3 k3 h1 im m0 m1 sd kp q0 qn qa qp qi qs qk qb qt qh qe r u_596.1 (z.1, (z.2.1.1, z.2.1.2.1, z.2.1.2.2), (z.2.2.1, z.2.2.2.1, z.2.2.2.2)) ho en us g oq dr (u_596.2.1, u_596.2.2.1, u_596.2.2.2) ba bb bd bn vd mm ms mk gg az pa de mi ns nk sv bk bm ts hd ne) (Rw := rowsW k r u_596.2.2.2) (n := 1) (As := [.int (zI x1)]) (rest := [.int (zI (if 0 ≤ x1 ∧ x1 ≤ f 0 - 1 then f 0 - 1 else -1000000001))]) hSf (m_take l D k q0 qn qa qp qi qs qk qb qt qh qe de sv bm gg B (hV.ag hG) (by omega) pa (by omega) x1 hx1) gL_law_X10_take rfl (by decide +kernel) ⟨Nat.le_of_ble_eq_true rfl, Nat.le_of_ble_eq_true rfl⟩ hK hP hD hS [33, 34, 36] [0, 1, 2, 3, 4, 5, 6, 7, 8, 9, 10, 11, 12, 13, 14, 15, 16, 17, 18, 19, 20, 21, 22, 23, 24, 25, 26, 27, 28, 29, 30, 31, 32, 35, 37, 38, 39, 40, 41, 42, 43] 44 (fun (u : St × HM) => LWb k x9 h0 c0 h8 h5 a5 h6 s6 p6 h9 s9 p9 h4 b4 e4 h2 h7 c7 hq aq d2 hh eo h3 i3 j3 k3 h1 im m0 m1 sd kp q0 qn qa qp qi qs qk qb qt qh qe r u_596.1 (z.1, (z.2.1.1, z.2.1.2.1, z.2.1.2.2), (z.2.2.1, z.2.2.2.1, z.2.2.2.2)) ho en us g oq dr (u_596.2.1, u_596.2.2.1, u_596.2.2.2) ba bb bd bn vd mm ms mk u.1 az u.2.2 u.2.1 mi ns nk sv bk bm ts hd ne) rfl (by decide) (fun _ => rfl) (fun _ => rfl) (fun _ => rfl) (by decide) (fun _ => rfl) 0 rfl rfl rfl hl.1 rfl (Nat.le_of_ble_eq_true rfl) dL_law_605 ⟨Nat.le_of_ble_eq_true rfl, Nat.le_of_ble_eq_true rfl⟩ (fun r_605 u_605 H locs h_605 hP hD hS => ?_)
  obtain ⟨he_605, h_605⟩ := h_605
  subst he_605
  refine lv_icmp_eq (tgt := 909) hx hb dL_law_608 (by decide) (fun _ => ?_) (fun hne => absurd (zc (by rw [e0])) hne)
  obtain ⟨d1, d2_, d3⟩ := deed_ok (B := B) (by first | exact Iff.rfl | rw [e0] | rw [en_]) h_596 h_605 hV hG hH (fun hc => ⟨(Va_take hV (by omega)).le (by omega), Ag_tak hV hG (by omega)⟩)
  exact KK u_596.1 (z.1, (z.2.1.1, z.2.1.2.1, z.2.1.2.2), (z.2.2.1, z.2.2.2.1, z.2.2.2.2)) ho en us g oq dr (u_596.2.1, u_596.2.2.1, u_596.2.2.2) ba bb bd bn vd mm ms mk u_605.1 az u_605.2.2 u_605.2.1 mi ns nk sv bk bm ts hd ne d1 d2_ d3 hb_ hvd hsv (hI.le (by omega)) _ _ hP hD hS ls (lv_sub hl [0, 1, 2, 3] rfl)
set_option maxHeartbeats 8000000 in
set_option maxRecDepth 100000 in
theorem law_limit {p : Program} {l : Launch} {e : Env} {s : State} {m : MethodId} {below : List Frame} {meth : Method} {c : Code} {D : va_G} {k : Kt} {b L : Nat} {xs : Nat → Int32} (hL : L ≤ 3584) (C0 : lw_At p s m meth c b L xs) (hK : GW D k s) (x9 h0 c0 h8 h5 a5 h6 s6 p6 h9 s9 p9 h4 b4 e4 h2 h7 c7 hq aq d2 hh eo h3 i3 j3 k3 h1 im m0 m1 sd kp q0 qn qa qp qi qs qk qb qt qh qe : Nat) (r : Nat → Nat) (ii : Nat) (hii : ii + 7 ≤ L) (B : Int) (hBi : B ≤ 40 * ((ii : Nat) : Int)) (KK : ∀ (f : St) (z : (Nat → Int) × ((Nat → Nat) × (Nat → Nat) × Nat) × ((Nat → Nat) × (Nat → Nat) × Nat)) (ho : Nat → Int) (en : Nat → Int) (us : Nat) (g : St) (oq : Nat → Int) (dr : Nat → Int) (h : HT) (ba : Nat → Int) (bb : Nat → Int) (bd : Nat → Int) (bn : Nat) (vd : Int) (mm : Nat → St) (ms : Nat → Int) (mk : Nat → Int) (gg : St) (az : Nat → Int) (pa : Nat → Int) (de : Nat) (mi : Nat → Int) (ns : Nat → Int) (nk : Nat → Int) (sv : Int) (bk : Nat → Int) (bm : Nat) (ts : Nat → Int) (hd : Nat → Int) (ne : Nat → Int), Va (B + 40) f → Ag f gg → IvH (B + 40) h de pa → IvB ba bb bd bn bk bm → 0 ≤ vd ∧ vd < 2147483648 → sv = vd → IvI (B + 40) mm ms mk mi ns nk → ∀ (H : Heap) (locs : List Loc), va_P D vwCl (LWf k x9 h0 c0 h8 h5 a5 h6 s6 p6 h9 s9 p9 h4 b4 e4 h2 h7 c7 hq aq d2 hh eo h3 i3 j3 k3 h1 im m0 m1 sd kp q0 qn qa qp qi qs qk qb qt qh qe r f z ho en us g oq dr h ba bb bd bn vd mm ms mk gg az pa de mi ns nk sv bk bm ts hd ne) H → va_D (fun q : Nat => s.heap.size ≤ q) (LWf k x9 h0 c0 h8 h5 a5 h6 s6 p6 h9 s9 p9 h4 b4 e4 h2 h7 c7 hq aq d2 hh eo h3 i3 j3 k3 h1 im m0 m1 sd kp q0 qn qa qp qi qs qk qb qt qh qe r f z ho en us g oq dr h ba bb bd bn vd mm ms mk gg az pa de mi ns nk sv bk bm ts hd ne) → va_S (fun q : Nat => s.heap.size ≤ q) s.heap H locs → ∀ (ls : Array Slot), lv_has ls 4 [(0, .ref b), (1, .ref x9), (2, .ref q0), (3, .int (zI ((ii : Nat) : Int)))] → W p l e room_1 s m #[Value.ref b] below meth c H locs 64 6674 (lw_Z below #[Value.ref b] s) (F0 m 909 ls [])) : ∀ (f : St) (z : (Nat → Int) × ((Nat → Nat) × (Nat → Nat) × Nat) × ((Nat → Nat) × (Nat → Nat) × Nat)) (ho : Nat → Int) (en : Nat → Int) (us : Nat) (g : St) (oq : Nat → Int) (dr : Nat → Int) (h : HT) (ba : Nat → Int) (bb : Nat → Int) (bd : Nat → Int) (bn : Nat) (vd : Int) (mm : Nat → St) (ms : Nat → Int) (mk : Nat → Int) (gg : St) (az : Nat → Int) (pa : Nat → Int) (de : Nat) (mi : Nat → Int) (ns : Nat → Int) (nk : Nat → Int) (sv : Int) (bk : Nat → Int) (bm : Nat) (ts : Nat → Int) (hd : Nat → Int) (ne : Nat → Int), Va B f → Ag f gg → IvH B h de pa → IvB ba bb bd bn bk bm → 0 ≤ vd ∧ vd < 2147483648 → sv = vd → IvI B mm ms mk mi ns nk → ∀ (H : Heap) (locs : List Loc), va_P D vwCl (LWf k x9 h0 c0 h8 h5 a5 h6 s6 p6 h9 s9 p9 h4 b4 e4 h2 h7 c7 hq aq d2 hh eo h3 i3 j3 k3 h1 im m0 m1 sd kp q0 qn qa qp qi qs qk qb qt qh qe r f z ho en us g oq dr h ba bb bd bn vd mm ms mk gg az pa de mi ns nk sv bk bm ts hd ne) H → va_D (fun q : Nat => s.heap.size ≤ q) (LWf k x9 h0 c0 h8 h5 a5 h6 s6 p6 h9 s9 p9 h4 b4 e4 h2 h7 c7 hq aq d2 hh eo h3 i3 j3 k3 h1 im m0 m1 sd kp q0 qn qa qp qi qs qk qb qt qh qe r f z ho en us g oq dr h ba bb bd bn vd mm ms mk gg az pa de mi ns nk sv bk bm ts hd ne) → va_S (fun q : Nat => s.heap.size ≤ q) s.heap H locs → ∀ (ls : Array Slot), lv_has ls 4 [(0, .ref b), (1, .ref x9), (2, .ref q0), (3, .int (zI ((ii : Nat) : Int)))] → W p l e room_1 s m #[Value.ref b] below meth c H locs 64 6674 (lw_Z below #[Value.ref b] s) (F0 m 613 ls []) := by
  intro f z ho en us g oq dr h ba bb bd bn vd mm ms mk gg az pa de mi ns nk sv bk bm ts hd ne hV hG hH hb_ hvd hsv hI H locs hP hD hS ls hl
  obtain ⟨hx, hb, hr, hml, hown, hts0, hX, hbl, hlocks, hgv⟩ := C0
  have hts : ∀ w ∈ wsL_law, w.before #[Value.ref b] s = true := fun w hw => hts0 w (wsL_law_in w hw)
  have hSf : CallFix p m c cL_law 4 s #[Value.ref b] wsL_law RL := ⟨hx, hb, hml, hown, hts⟩
  have e0 : f 0 = gg 0 := hG.c (show 0 < 36 by decide)
  have en_ : nT f = nT gg := hG.n
  have hb20 := hb_.1.1
  have hbm := hb_.2.1
  have hh20 := hH.2.1
  have hde_ := hH.2.2.1
  have hnn := hV.n
  have hv00 := hV.1
  obtain ⟨x1, ex1⟩ : ∃ x, x = (xs (ii + 1)).toInt := ⟨_, rfl⟩
  have hx1 : -2147483648 ≤ x1 ∧ x1 < 2147483648 := by rw [ex1]; exact i32_rg _
  refine lv_aload_n hx hb dL_law_613 rfl (lv_at hl 1 rfl) ?_
  refine lv_aload_n hx hb dL_law_614 rfl (lv_at hl 0 rfl) ?_
  refine lv_iload_n hx hb dL_law_615 rfl (lv_at hl 3 rfl) ?_
  refine z_iconst hx hb dL_law_616 ?_
  refine z_iadd hx hb dL_law_617 ?_
  refine z_sld hx hb hX hbl hS (ii + 1) (by omega) ex1 (by omega) hL dL_law_618 ?_
  refine miVR2 (base := LWb k x9 h0 c0 h8 h5 a5 h6 s6 p6 h9 s9 p9 h4 b4 e4 h2 h7 c7 hq aq d2 hh eo h3 i3 j3 k3 h1 im m0 m1 sd kp q0 qn qa qp qi qs qk qb qt qh qe r f (z.1, (z.2.1.1, z.2.1.2.1, z.2.1.2.2), (z.2.2.1, z.2.2.2.1, z.2.2.2.2)) ho en us g oq dr h ba bb bd bn vd mm ms mk gg az pa de mi ns nk sv bk bm ts hd ne) (Rw := rowsW k r h.2.2) (w' := fun (u : ((Nat → Int) × ((Nat → Nat) × (Nat → Nat) × Nat) × ((Nat → Nat) × (Nat → Nat) × Nat)) × St × HT) => [(x9, .inr (9, [.ref h0, .ref h8, .ref h4, .ref h2, .ref hh, .ref h3, .ref h1, .ref im, .ref sd, .ref kp])), (h0, .inr (7, [.ref c0])), (c0, .inl (k.1, 132, .inl (zF u.2.1))), (h8, .inr (8, [.ref h5, .ref h6, .ref h9])), (h5, .inr (5, [.ref a5])), (a5, .inl (k.1, 12, .inl (zF u.1.1))), (h6, .inr (6, [.ref s6, .ref p6, .int (zI ((u.1.2.1.2.2 : Nat) : Int))])), (s6, .inl (k.1, 12, .inl (zF (nF u.1.2.1.1)))), (p6, .inl (k.1, 3, .inl (zF (nF u.1.2.1.2.1)))), (h9, .inr (6, [.ref s9, .ref p9, .int (zI ((u.1.2.2.2.2 : Nat) : Int))])), (s9, .inl (k.1, 12, .inl (zF (nF u.1.2.2.1)))), (p9, .inl (k.1, 3, .inl (zF (nF u.1.2.2.2.1)))), (hh, .inr (3, [.ref eo, .int (zI ((u.2.2.1 : Nat) : Int)), .int (zI ((u.2.2.2.1 : Nat) : Int))])), (eo, .inl (k.2.2.2, 20, .inr (.inr (.inr (.inr (eoF r))))))]) (rw' := fun (u : ((Nat → Int) × ((Nat → Nat) × (Nat → Nat) × Nat) × ((Nat → Nat) × (Nat → Nat) × Nat)) × St × HT) => rowsW k r u.2.2.2.2) (n := 1) (As := [.int (zI x1)]) (rest := []) hSf (c_limit l D k x9 h0 c0 h8 h4 h2 hh h3 h1 im sd kp f B hV h5 a5 h6 s6 p6 h9 s9 p9 z (by omega) eo r h hH.1 hH.2.1 x1 hx1) gL_law_X9_limit rfl (by decide +kernel) ⟨Nat.le_of_ble_eq_true rfl, Nat.le_of_ble_eq_true rfl⟩ hK hP hD hS [0, 1, 2, 3, 4, 5, 6, 7, 8, 9, 10, 11, 21, 22] [12, 13, 14, 15, 16, 17, 18, 19, 20, 23, 24, 25, 26, 27, 28, 29, 30, 31, 32, 33, 34, 35, 36, 37, 38, 39, 40, 41, 42, 43] 44 (fun (u : ((Nat → Int) × ((Nat → Nat) × (Nat → Nat) × Nat) × ((Nat → Nat) × (Nat → Nat) × Nat)) × St × HT) => LWb k x9 h0 c0 h8 h5 a5 h6 s6 p6 h9 s9 p9 h4 b4 e4 h2 h7 c7 hq aq d2 hh eo h3 i3 j3 k3 h1 im m0 m1 sd kp q0 qn qa qp qi qs qk qb qt qh qe r u.2.1 (u.1.1, (u.1.2.1.1, u.1.2.1.2.1, u.1.2.1.2.2), (u.1.2.2.1, u.1.2.2.2.1, u.1.2.2.2.2)) ho en us g oq dr (u.2.2.1, u.2.2.2.1, u.2.2.2.2) ba bb bd bn vd mm ms mk gg az pa de mi ns nk sv bk bm ts hd ne) rfl (by decide) (fun _ => rfl) (fun _ => rfl) (fun _ => rfl) (by decide) (fun _ => rfl) (fun _ => rowsW_fst _ _ _ _) 0 rfl rfl rfl hl.1 rfl (Nat.le_of_ble_eq_true rfl) dL_law_619 ⟨Nat.le_of_ble_eq_true rfl, Nat.le_of_ble_eq_true rfl⟩ (fun r_619 u_619 H locs h_619 hP hD hS => ?_)
  obtain ⟨he_619, h_619⟩ := h_619
  subst he_619
  refine lv_aload_n hx hb dL_law_622 rfl (lv_at hl 2 rfl) ?_
  refine lv_aload_n hx hb dL_law_623 rfl (lv_at hl 0 rfl) ?_
  refine lv_iload_n hx hb dL_law_624 rfl (lv_at hl 3 rfl) ?_
  refine z_iconst hx hb dL_law_625 ?_
  refine z_iadd hx hb dL_law_626 ?_
  refine z_sld hx hb hX hbl hS (ii + 1) (by omega) ex1 (by omega) hL dL_law_627 ?_
  refine miV2 (base := LWb k x9 h0 c0 h8 h5 a5 h6 s6 p6 h9 s9 p9 h4 b4 e4 h2 h7 c7 hq aq d2 hh eo h3 i3 j3 k3 h1 im m0 m1 sd kp q0 qn qa qp qi qs qk qb qt qh qe r u_619.2.1 (u_619.1.1, (u_619.1.2.1.1, u_619.1.2.1.2.1, u_619.1.2.1.2.2), (u_619.1.2.2.1, u_619.1.2.2.2.1, u_619.1.2.2.2.2)) ho en us g oq dr (u_619.2.2.1, u_619.2.2.2.1, u_619.2.2.2.2) ba bb bd bn vd mm ms mk gg az pa de mi ns nk sv bk bm ts hd ne) (Rw := rowsW k r u_619.2.2.2.2) (n := 1) (As := [.int (zI x1)]) (rest := [.int (zI (if 1 ≤ x1 ∧ x1 ≤ 8 then ((misF (upZ f 1 x1) ((upZ f 1 x1) 2) : Nat) : Int) else -1000000002))]) hSf (m_limit l D k q0 qn qa qp qi qs qk qb qt qh qe de sv bm gg B (hV.ag hG) (by omega) pa (by omega) ts x1 hx1) gL_law_X10_limit rfl (by decide +kernel) ⟨Nat.le_of_ble_eq_true rfl, Nat.le_of_ble_eq_true rfl⟩ hK hP hD hS [33, 34, 36, 41] [0, 1, 2, 3, 4, 5, 6, 7, 8, 9, 10, 11, 12, 13, 14, 15, 16, 17, 18, 19, 20, 21, 22, 23, 24, 25, 26, 27, 28, 29, 30, 31, 32, 35, 37, 38, 39, 40, 42, 43] 44 (fun (u : (Nat → Int) × St × HM) => LWb k x9 h0 c0 h8 h5 a5 h6 s6 p6 h9 s9 p9 h4 b4 e4 h2 h7 c7 hq aq d2 hh eo h3 i3 j3 k3 h1 im m0 m1 sd kp q0 qn qa qp qi qs qk qb qt qh qe r u_619.2.1 (u_619.1.1, (u_619.1.2.1.1, u_619.1.2.1.2.1, u_619.1.2.1.2.2), (u_619.1.2.2.1, u_619.1.2.2.2.1, u_619.1.2.2.2.2)) ho en us g oq dr (u_619.2.2.1, u_619.2.2.2.1, u_619.2.2.2.2) ba bb bd bn vd mm ms mk u.2.1 az u.2.2.2 u.2.2.1 mi ns nk sv bk bm u.1 hd ne) rfl (by decide) (fun _ => rfl) (fun _ => rfl) (fun _ => rfl) (by decide) (fun _ => rfl) 0 rfl rfl rfl hl.1 rfl (Nat.le_of_ble_eq_true rfl) dL_law_628 ⟨Nat.le_of_ble_eq_true rfl, Nat.le_of_ble_eq_true rfl⟩ (fun r_628 u_628 H locs h_628 hP hD hS => ?_)
  obtain ⟨he_628, h_628⟩ := h_628
  subst he_628
  refine lv_icmp_eq (tgt := 909) hx hb dL_law_631 (by decide) (fun _ => ?_) (fun hne => absurd (zc (lim_v hV hG x1)) hne)
  obtain ⟨d1, d2_, d3⟩ := deed_ok (B := B) (by first | exact Iff.rfl | rw [e0] | rw [en_]) h_619 h_628 hV hG hH (fun hc => ⟨(Va_low hV (by decide) (by decide) (fun _ => hc) (by omega) (by decide) (by omega)).le (by omega), Ag_up hG (by decide) _⟩)
  exact KK u_619.2.1 (u_619.1.1, (u_619.1.2.1.1, u_619.1.2.1.2.1, u_619.1.2.1.2.2), (u_619.1.2.2.1, u_619.1.2.2.2.1, u_619.1.2.2.2.2)) ho en us g oq dr (u_619.2.2.1, u_619.2.2.2.1, u_619.2.2.2.2) ba bb bd bn vd mm ms mk u_628.2.1 az u_628.2.2.2 u_628.2.2.1 mi ns nk sv bk bm u_628.1 hd ne d1 d2_ d3 hb_ hvd hsv (hI.le (by omega)) _ _ hP hD hS ls (lv_sub hl [0, 1, 2, 3] rfl)
set_option maxHeartbeats 8000000 in
set_option maxRecDepth 100000 in
theorem law_rule {p : Program} {l : Launch} {e : Env} {s : State} {m : MethodId} {below : List Frame} {meth : Method} {c : Code} {D : va_G} {k : Kt} {b L : Nat} {xs : Nat → Int32} (hL : L ≤ 3584) (C0 : lw_At p s m meth c b L xs) (hK : GW D k s) (x9 h0 c0 h8 h5 a5 h6 s6 p6 h9 s9 p9 h4 b4 e4 h2 h7 c7 hq aq d2 hh eo h3 i3 j3 k3 h1 im m0 m1 sd kp q0 qn qa qp qi qs qk qb qt qh qe : Nat) (r : Nat → Nat) (ii : Nat) (hii : ii + 7 ≤ L) (B : Int) (hBi : B ≤ 40 * ((ii : Nat) : Int)) (KK : ∀ (f : St) (z : (Nat → Int) × ((Nat → Nat) × (Nat → Nat) × Nat) × ((Nat → Nat) × (Nat → Nat) × Nat)) (ho : Nat → Int) (en : Nat → Int) (us : Nat) (g : St) (oq : Nat → Int) (dr : Nat → Int) (h : HT) (ba : Nat → Int) (bb : Nat → Int) (bd : Nat → Int) (bn : Nat) (vd : Int) (mm : Nat → St) (ms : Nat → Int) (mk : Nat → Int) (gg : St) (az : Nat → Int) (pa : Nat → Int) (de : Nat) (mi : Nat → Int) (ns : Nat → Int) (nk : Nat → Int) (sv : Int) (bk : Nat → Int) (bm : Nat) (ts : Nat → Int) (hd : Nat → Int) (ne : Nat → Int), Va (B + 40) f → Ag f gg → IvH (B + 40) h de pa → IvB ba bb bd bn bk bm → 0 ≤ vd ∧ vd < 2147483648 → sv = vd → IvI (B + 40) mm ms mk mi ns nk → ∀ (H : Heap) (locs : List Loc), va_P D vwCl (LWf k x9 h0 c0 h8 h5 a5 h6 s6 p6 h9 s9 p9 h4 b4 e4 h2 h7 c7 hq aq d2 hh eo h3 i3 j3 k3 h1 im m0 m1 sd kp q0 qn qa qp qi qs qk qb qt qh qe r f z ho en us g oq dr h ba bb bd bn vd mm ms mk gg az pa de mi ns nk sv bk bm ts hd ne) H → va_D (fun q : Nat => s.heap.size ≤ q) (LWf k x9 h0 c0 h8 h5 a5 h6 s6 p6 h9 s9 p9 h4 b4 e4 h2 h7 c7 hq aq d2 hh eo h3 i3 j3 k3 h1 im m0 m1 sd kp q0 qn qa qp qi qs qk qb qt qh qe r f z ho en us g oq dr h ba bb bd bn vd mm ms mk gg az pa de mi ns nk sv bk bm ts hd ne) → va_S (fun q : Nat => s.heap.size ≤ q) s.heap H locs → ∀ (ls : Array Slot), lv_has ls 4 [(0, .ref b), (1, .ref x9), (2, .ref q0), (3, .int (zI ((ii : Nat) : Int)))] → W p l e room_1 s m #[Value.ref b] below meth c H locs 64 6674 (lw_Z below #[Value.ref b] s) (F0 m 909 ls [])) : ∀ (f : St) (z : (Nat → Int) × ((Nat → Nat) × (Nat → Nat) × Nat) × ((Nat → Nat) × (Nat → Nat) × Nat)) (ho : Nat → Int) (en : Nat → Int) (us : Nat) (g : St) (oq : Nat → Int) (dr : Nat → Int) (h : HT) (ba : Nat → Int) (bb : Nat → Int) (bd : Nat → Int) (bn : Nat) (vd : Int) (mm : Nat → St) (ms : Nat → Int) (mk : Nat → Int) (gg : St) (az : Nat → Int) (pa : Nat → Int) (de : Nat) (mi : Nat → Int) (ns : Nat → Int) (nk : Nat → Int) (sv : Int) (bk : Nat → Int) (bm : Nat) (ts : Nat → Int) (hd : Nat → Int) (ne : Nat → Int), Va B f → Ag f gg → IvH B h de pa → IvB ba bb bd bn bk bm → 0 ≤ vd ∧ vd < 2147483648 → sv = vd → IvI B mm ms mk mi ns nk → ∀ (H : Heap) (locs : List Loc), va_P D vwCl (LWf k x9 h0 c0 h8 h5 a5 h6 s6 p6 h9 s9 p9 h4 b4 e4 h2 h7 c7 hq aq d2 hh eo h3 i3 j3 k3 h1 im m0 m1 sd kp q0 qn qa qp qi qs qk qb qt qh qe r f z ho en us g oq dr h ba bb bd bn vd mm ms mk gg az pa de mi ns nk sv bk bm ts hd ne) H → va_D (fun q : Nat => s.heap.size ≤ q) (LWf k x9 h0 c0 h8 h5 a5 h6 s6 p6 h9 s9 p9 h4 b4 e4 h2 h7 c7 hq aq d2 hh eo h3 i3 j3 k3 h1 im m0 m1 sd kp q0 qn qa qp qi qs qk qb qt qh qe r f z ho en us g oq dr h ba bb bd bn vd mm ms mk gg az pa de mi ns nk sv bk bm ts hd ne) → va_S (fun q : Nat => s.heap.size ≤ q) s.heap H locs → ∀ (ls : Array Slot), lv_has ls 4 [(0, .ref b), (1, .ref x9), (2, .ref q0), (3, .int (zI ((ii : Nat) : Int)))] → W p l e room_1 s m #[Value.ref b] below meth c H locs 64 6674 (lw_Z below #[Value.ref b] s) (F0 m 636 ls []) := by
  intro f z ho en us g oq dr h ba bb bd bn vd mm ms mk gg az pa de mi ns nk sv bk bm ts hd ne hV hG hH hb_ hvd hsv hI H locs hP hD hS ls hl
  obtain ⟨hx, hb, hr, hml, hown, hts0, hX, hbl, hlocks, hgv⟩ := C0
  have hts : ∀ w ∈ wsL_law, w.before #[Value.ref b] s = true := fun w hw => hts0 w (wsL_law_in w hw)
  have hSf : CallFix p m c cL_law 4 s #[Value.ref b] wsL_law RL := ⟨hx, hb, hml, hown, hts⟩
  have e0 : f 0 = gg 0 := hG.c (show 0 < 36 by decide)
  have en_ : nT f = nT gg := hG.n
  have hb20 := hb_.1.1
  have hbm := hb_.2.1
  have hh20 := hH.2.1
  have hde_ := hH.2.2.1
  have hnn := hV.n
  have hv00 := hV.1
  obtain ⟨x1, ex1⟩ : ∃ x, x = (xs (ii + 1)).toInt := ⟨_, rfl⟩
  have hx1 : -2147483648 ≤ x1 ∧ x1 < 2147483648 := by rw [ex1]; exact i32_rg _
  refine lv_aload_n hx hb dL_law_636 rfl (lv_at hl 1 rfl) ?_
  refine lv_aload_n hx hb dL_law_637 rfl (lv_at hl 0 rfl) ?_
  refine lv_iload_n hx hb dL_law_638 rfl (lv_at hl 3 rfl) ?_
  refine z_iconst hx hb dL_law_639 ?_
  refine z_iadd hx hb dL_law_640 ?_
  refine z_sld hx hb hX hbl hS (ii + 1) (by omega) ex1 (by omega) hL dL_law_641 ?_
  refine miVR2 (base := LWb k x9 h0 c0 h8 h5 a5 h6 s6 p6 h9 s9 p9 h4 b4 e4 h2 h7 c7 hq aq d2 hh eo h3 i3 j3 k3 h1 im m0 m1 sd kp q0 qn qa qp qi qs qk qb qt qh qe r f (z.1, (z.2.1.1, z.2.1.2.1, z.2.1.2.2), (z.2.2.1, z.2.2.2.1, z.2.2.2.2)) ho en us g oq dr h ba bb bd bn vd mm ms mk gg az pa de mi ns nk sv bk bm ts hd ne) (Rw := rowsW k r h.2.2) (w' := fun (u : ((Nat → Int) × ((Nat → Nat) × (Nat → Nat) × Nat) × ((Nat → Nat) × (Nat → Nat) × Nat)) × St × HT) => [(x9, .inr (9, [.ref h0, .ref h8, .ref h4, .ref h2, .ref hh, .ref h3, .ref h1, .ref im, .ref sd, .ref kp])), (h0, .inr (7, [.ref c0])), (c0, .inl (k.1, 132, .inl (zF u.2.1))), (h8, .inr (8, [.ref h5, .ref h6, .ref h9])), (h5, .inr (5, [.ref a5])), (a5, .inl (k.1, 12, .inl (zF u.1.1))), (h6, .inr (6, [.ref s6, .ref p6, .int (zI ((u.1.2.1.2.2 : Nat) : Int))])), (s6, .inl (k.1, 12, .inl (zF (nF u.1.2.1.1)))), (p6, .inl (k.1, 3, .inl (zF (nF u.1.2.1.2.1)))), (h9, .inr (6, [.ref s9, .ref p9, .int (zI ((u.1.2.2.2.2 : Nat) : Int))])), (s9, .inl (k.1, 12, .inl (zF (nF u.1.2.2.1)))), (p9, .inl (k.1, 3, .inl (zF (nF u.1.2.2.2.1)))), (hh, .inr (3, [.ref eo, .int (zI ((u.2.2.1 : Nat) : Int)), .int (zI ((u.2.2.2.1 : Nat) : Int))])), (eo, .inl (k.2.2.2, 20, .inr (.inr (.inr (.inr (eoF r))))))]) (rw' := fun (u : ((Nat → Int) × ((Nat → Nat) × (Nat → Nat) × Nat) × ((Nat → Nat) × (Nat → Nat) × Nat)) × St × HT) => rowsW k r u.2.2.2.2) (n := 1) (As := [.int (zI x1)]) (rest := []) hSf (c_rule l D k x9 h0 c0 h8 h4 h2 hh h3 h1 im sd kp f B hV h5 a5 h6 s6 p6 h9 s9 p9 z (by omega) eo r h hH.1 hH.2.1 x1 hx1) gL_law_X9_rule rfl (by decide +kernel) ⟨Nat.le_of_ble_eq_true rfl, Nat.le_of_ble_eq_true rfl⟩ hK hP hD hS [0, 1, 2, 3, 4, 5, 6, 7, 8, 9, 10, 11, 21, 22] [12, 13, 14, 15, 16, 17, 18, 19, 20, 23, 24, 25, 26, 27, 28, 29, 30, 31, 32, 33, 34, 35, 36, 37, 38, 39, 40, 41, 42, 43] 44 (fun (u : ((Nat → Int) × ((Nat → Nat) × (Nat → Nat) × Nat) × ((Nat → Nat) × (Nat → Nat) × Nat)) × St × HT) => LWb k x9 h0 c0 h8 h5 a5 h6 s6 p6 h9 s9 p9 h4 b4 e4 h2 h7 c7 hq aq d2 hh eo h3 i3 j3 k3 h1 im m0 m1 sd kp q0 qn qa qp qi qs qk qb qt qh qe r u.2.1 (u.1.1, (u.1.2.1.1, u.1.2.1.2.1, u.1.2.1.2.2), (u.1.2.2.1, u.1.2.2.2.1, u.1.2.2.2.2)) ho en us g oq dr (u.2.2.1, u.2.2.2.1, u.2.2.2.2) ba bb bd bn vd mm ms mk gg az pa de mi ns nk sv bk bm ts hd ne) rfl (by decide) (fun _ => rfl) (fun _ => rfl) (fun _ => rfl) (by decide) (fun _ => rfl) (fun _ => rowsW_fst _ _ _ _) 0 rfl rfl rfl hl.1 rfl (Nat.le_of_ble_eq_true rfl) dL_law_642 ⟨Nat.le_of_ble_eq_true rfl, Nat.le_of_ble_eq_true rfl⟩ (fun r_642 u_642 H locs h_642 hP hD hS => ?_)
  obtain ⟨he_642, h_642⟩ := h_642
  subst he_642
  refine lv_aload_n hx hb dL_law_645 rfl (lv_at hl 2 rfl) ?_
  refine lv_aload_n hx hb dL_law_646 rfl (lv_at hl 0 rfl) ?_
  refine lv_iload_n hx hb dL_law_647 rfl (lv_at hl 3 rfl) ?_
  refine z_iconst hx hb dL_law_648 ?_
  refine z_iadd hx hb dL_law_649 ?_
  refine z_sld hx hb hX hbl hS (ii + 1) (by omega) ex1 (by omega) hL dL_law_650 ?_
  refine miV2 (base := LWb k x9 h0 c0 h8 h5 a5 h6 s6 p6 h9 s9 p9 h4 b4 e4 h2 h7 c7 hq aq d2 hh eo h3 i3 j3 k3 h1 im m0 m1 sd kp q0 qn qa qp qi qs qk qb qt qh qe r u_642.2.1 (u_642.1.1, (u_642.1.2.1.1, u_642.1.2.1.2.1, u_642.1.2.1.2.2), (u_642.1.2.2.1, u_642.1.2.2.2.1, u_642.1.2.2.2.2)) ho en us g oq dr (u_642.2.2.1, u_642.2.2.2.1, u_642.2.2.2.2) ba bb bd bn vd mm ms mk gg az pa de mi ns nk sv bk bm ts hd ne) (Rw := rowsW k r u_642.2.2.2.2) (n := 1) (As := [.int (zI x1)]) (rest := [.int (zI (if 0 ≤ x1 ∧ x1 ≤ 3 then ((misF (upZ f 2 x1) ((upZ f 2 x1) 2) : Nat) : Int) else -1000000002))]) hSf (m_rule l D k q0 qn qa qp qi qs qk qb qt qh qe de sv bm gg B (hV.ag hG) (by omega) pa (by omega) ts x1 hx1) gL_law_X10_rule rfl (by decide +kernel) ⟨Nat.le_of_ble_eq_true rfl, Nat.le_of_ble_eq_true rfl⟩ hK hP hD hS [33, 34, 36, 41] [0, 1, 2, 3, 4, 5, 6, 7, 8, 9, 10, 11, 12, 13, 14, 15, 16, 17, 18, 19, 20, 21, 22, 23, 24, 25, 26, 27, 28, 29, 30, 31, 32, 35, 37, 38, 39, 40, 42, 43] 44 (fun (u : (Nat → Int) × St × HM) => LWb k x9 h0 c0 h8 h5 a5 h6 s6 p6 h9 s9 p9 h4 b4 e4 h2 h7 c7 hq aq d2 hh eo h3 i3 j3 k3 h1 im m0 m1 sd kp q0 qn qa qp qi qs qk qb qt qh qe r u_642.2.1 (u_642.1.1, (u_642.1.2.1.1, u_642.1.2.1.2.1, u_642.1.2.1.2.2), (u_642.1.2.2.1, u_642.1.2.2.2.1, u_642.1.2.2.2.2)) ho en us g oq dr (u_642.2.2.1, u_642.2.2.2.1, u_642.2.2.2.2) ba bb bd bn vd mm ms mk u.2.1 az u.2.2.2 u.2.2.1 mi ns nk sv bk bm u.1 hd ne) rfl (by decide) (fun _ => rfl) (fun _ => rfl) (fun _ => rfl) (by decide) (fun _ => rfl) 0 rfl rfl rfl hl.1 rfl (Nat.le_of_ble_eq_true rfl) dL_law_651 ⟨Nat.le_of_ble_eq_true rfl, Nat.le_of_ble_eq_true rfl⟩ (fun r_651 u_651 H locs h_651 hP hD hS => ?_)
  obtain ⟨he_651, h_651⟩ := h_651
  subst he_651
  refine lv_icmp_eq (tgt := 909) hx hb dL_law_654 (by decide) (fun _ => ?_) (fun hne => absurd (zc (rul_v hV hG x1)) hne)
  obtain ⟨d1, d2_, d3⟩ := deed_ok (B := B) (by first | exact Iff.rfl | rw [e0] | rw [en_]) h_642 h_651 hV hG hH (fun hc => ⟨(Va_low hV (by decide) (by decide) (by omega) (fun _ => hc) (by decide) (by omega)).le (by omega), Ag_up hG (by decide) _⟩)
  exact KK u_642.2.1 (u_642.1.1, (u_642.1.2.1.1, u_642.1.2.1.2.1, u_642.1.2.1.2.2), (u_642.1.2.2.1, u_642.1.2.2.2.1, u_642.1.2.2.2.2)) ho en us g oq dr (u_642.2.2.1, u_642.2.2.2.1, u_642.2.2.2.2) ba bb bd bn vd mm ms mk u_651.2.1 az u_651.2.2.2 u_651.2.2.1 mi ns nk sv bk bm u_651.1 hd ne d1 d2_ d3 hb_ hvd hsv (hI.le (by omega)) _ _ hP hD hS ls (lv_sub hl [0, 1, 2, 3] rfl)
