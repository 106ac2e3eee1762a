set_option maxHeartbeats 8000000 in
set_option maxRecDepth 100000 in
theorem law_told {p : Program} {l : Launch} {e : Env} {s : State} {m : MethodId} {below : List Frame} {meth : Method} {c : Code} {D : va_G} {k : Kt} {b L : Nat} {xs : Nat → Int32} (hL : L ≤ 3584) (C0 : lw_At p s m meth c b L xs) (hK : GW D k s) (x9 h0 c0 h8 h5 a5 h6 s6 p6 h9 s9 p9 h4 b4 e4 h2 h7 c7 hq aq d2 hh eo h3 i3 j3 k3 h1 im m0 m1 sd kp q0 qn qa qp qi qs qk qb qt qh qe : Nat) (r : Nat → Nat) (ii : Nat) (hii : ii + 7 ≤ L) (B : Int) (hBi : B ≤ 40 * ((ii : Nat) : Int)) (KK : ∀ (f : St) (z : (Nat → Int) × ((Nat → Nat) × (Nat → Nat) × Nat) × ((Nat → Nat) × (Nat → Nat) × Nat)) (ho : Nat → Int) (en : Nat → Int) (us : Nat) (g : St) (oq : Nat → Int) (dr : Nat → Int) (h : HT) (ba : Nat → Int) (bb : Nat → Int) (bd : Nat → Int) (bn : Nat) (vd : Int) (mm : Nat → St) (ms : Nat → Int) (mk : Nat → Int) (gg : St) (az : Nat → Int) (pa : Nat → Int) (de : Nat) (mi : Nat → Int) (ns : Nat → Int) (nk : Nat → Int) (sv : Int) (bk : Nat → Int) (bm : Nat) (ts : Nat → Int) (hd : Nat → Int) (ne : Nat → Int), Va (B + 40) f → Ag f gg → IvH (B + 40) h de pa → IvB ba bb bd bn bk bm → 0 ≤ vd ∧ vd < 2147483648 → sv = vd → IvI (B + 40) mm ms mk mi ns nk → ∀ (H : Heap) (locs : List Loc), va_P D vwCl (LWf k x9 h0 c0 h8 h5 a5 h6 s6 p6 h9 s9 p9 h4 b4 e4 h2 h7 c7 hq aq d2 hh eo h3 i3 j3 k3 h1 im m0 m1 sd kp q0 qn qa qp qi qs qk qb qt qh qe r f z ho en us g oq dr h ba bb bd bn vd mm ms mk gg az pa de mi ns nk sv bk bm ts hd ne) H → va_D (fun q : Nat => s.heap.size ≤ q) (LWf k x9 h0 c0 h8 h5 a5 h6 s6 p6 h9 s9 p9 h4 b4 e4 h2 h7 c7 hq aq d2 hh eo h3 i3 j3 k3 h1 im m0 m1 sd kp q0 qn qa qp qi qs qk qb qt qh qe r f z ho en us g oq dr h ba bb bd bn vd mm ms mk gg az pa de mi ns nk sv bk bm ts hd ne) → va_S (fun q : Nat => s.heap.size ≤ q) s.heap H locs → ∀ (ls : Array Slot), lv_has ls 4 [(0, .ref b), (1, .ref x9), (2, .ref q0), (3, .int (zI ((ii : Nat) : Int)))] → W p l e room_1 s m #[Value.ref b] below meth c H locs 64 6674 (lw_Z below #[Value.ref b] s) (F0 m 909 ls [])) : ∀ (f : St) (z : (Nat → Int) × ((Nat → Nat) × (Nat → Nat) × Nat) × ((Nat → Nat) × (Nat → Nat) × Nat)) (ho : Nat → Int) (en : Nat → Int) (us : Nat) (g : St) (oq : Nat → Int) (dr : Nat → Int) (h : HT) (ba : Nat → Int) (bb : Nat → Int) (bd : Nat → Int) (bn : Nat) (vd : Int) (mm : Nat → St) (ms : Nat → Int) (mk : Nat → Int) (gg : St) (az : Nat → Int) (pa : Nat → Int) (de : Nat) (mi : Nat → Int) (ns : Nat → Int) (nk : Nat → Int) (sv : Int) (bk : Nat → Int) (bm : Nat) (ts : Nat → Int) (hd : Nat → Int) (ne : Nat → Int), Va B f → Ag f gg → IvH B h de pa → IvB ba bb bd bn bk bm → 0 ≤ vd ∧ vd < 2147483648 → sv = vd → IvI B mm ms mk mi ns nk → ∀ (H : Heap) (locs : List Loc), va_P D vwCl (LWf k x9 h0 c0 h8 h5 a5 h6 s6 p6 h9 s9 p9 h4 b4 e4 h2 h7 c7 hq aq d2 hh eo h3 i3 j3 k3 h1 im m0 m1 sd kp q0 qn qa qp qi qs qk qb qt qh qe r f z ho en us g oq dr h ba bb bd bn vd mm ms mk gg az pa de mi ns nk sv bk bm ts hd ne) H → va_D (fun q : Nat => s.heap.size ≤ q) (LWf k x9 h0 c0 h8 h5 a5 h6 s6 p6 h9 s9 p9 h4 b4 e4 h2 h7 c7 hq aq d2 hh eo h3 i3 j3 k3 h1 im m0 m1 sd kp q0 qn qa qp qi qs qk qb qt qh qe r f z ho en us g oq dr h ba bb bd bn vd mm ms mk gg az pa de mi ns nk sv bk bm ts hd ne) → va_S (fun q : Nat => s.heap.size ≤ q) s.heap H locs → ∀ (ls : Array Slot), lv_has ls 4 [(0, .ref b), (1, .ref x9), (2, .ref q0), (3, .int (zI ((ii : Nat) : Int)))] → W p l e room_1 s m #[Value.ref b] below meth c H locs 64 6674 (lw_Z below #[Value.ref b] s) (F0 m 144 ls []) := by
  intro f z ho en us g oq dr h ba bb bd bn vd mm ms mk gg az pa de mi ns nk sv bk bm ts hd ne hV hG hH hb_ hvd hsv hI H locs hP hD hS ls hl
  obtain ⟨hx, hb, hr, hml, hown, hts0, hX, hbl, hlocks, hgv⟩ := C0
  have hts : ∀ w ∈ wsL_law, w.before #[Value.ref b] s = true := fun w hw => hts0 w (wsL_law_in w hw)
  have hSf : CallFix p m c cL_law 4 s #[Value.ref b] wsL_law RL := ⟨hx, hb, hml, hown, hts⟩
  have e0 : f 0 = gg 0 := hG.c (show 0 < 36 by decide)
  have en_ : nT f = nT gg := hG.n
  have hb20 := hb_.1.1
  have hbm := hb_.2.1
  have hh20 := hH.2.1
  have hde_ := hH.2.2.1
  have hnn := hV.n
  have hv00 := hV.1
  obtain ⟨x1, ex1⟩ : ∃ x, x = (xs (ii + 1)).toInt := ⟨_, rfl⟩
  have hx1 : -2147483648 ≤ x1 ∧ x1 < 2147483648 := by rw [ex1]; exact i32_rg _
  refine lv_aload_n hx hb dL_law_144 rfl (lv_at hl 1 rfl) ?_
  refine lv_aload_n hx hb dL_law_145 rfl (lv_at hl 0 rfl) ?_
  refine lv_iload_n hx hb dL_law_146 rfl (lv_at hl 3 rfl) ?_
  refine z_iconst hx hb dL_law_147 ?_
  refine z_iadd hx hb dL_law_148 ?_
  refine z_sld hx hb hX hbl hS (ii + 1) (by omega) ex1 (by omega) hL dL_law_149 ?_
  refine miV2 (base := LWb k x9 h0 c0 h8 h5 a5 h6 s6 p6 h9 s9 p9 h4 b4 e4 h2 h7 c7 hq aq d2 hh eo h3 i3 j3 k3 h1 im m0 m1 sd kp q0 qn qa qp qi qs qk qb qt qh qe r f (z.1, (z.2.1.1, z.2.1.2.1, z.2.1.2.2), (z.2.2.1, z.2.2.2.1, z.2.2.2.2)) ho en us g oq dr h ba bb bd bn vd mm ms mk gg az pa de mi ns nk sv bk bm ts hd ne) (Rw := rowsW k r h.2.2) (n := 1) (As := [.int (zI x1)]) (rest := []) hSf (c_told l D k x9 h0 c0 h8 h4 h2 hh h3 h1 im sd kp f B hV h5 a5 h6 s6 p6 h9 s9 p9 z (by omega) b4 e4 ho en us eo h.1 h.2.1 i3 j3 k3 ba bb bd bn hb_.1 x1 hx1) gL_law_X9_told rfl (by decide +kernel) ⟨Nat.le_of_ble_eq_true rfl, Nat.le_of_ble_eq_true rfl⟩ hK hP hD hS [0, 1, 2, 3, 4, 5, 6, 7, 8, 9, 10, 11, 12, 13, 14, 21, 23, 24, 25, 26] [15, 16, 17, 18, 19, 20, 22, 27, 28, 29, 30, 31, 32, 33, 34, 35, 36, 37, 38, 39, 40, 41, 42, 43] 44 (fun (u : ((Nat → Int) × ((Nat → Nat) × (Nat → Nat) × Nat) × ((Nat → Nat) × (Nat → Nat) × Nat)) × (Nat → Int) × (Nat → Int) × Nat) => LWb k x9 h0 c0 h8 h5 a5 h6 s6 p6 h9 s9 p9 h4 b4 e4 h2 h7 c7 hq aq d2 hh eo h3 i3 j3 k3 h1 im m0 m1 sd kp q0 qn qa qp qi qs qk qb qt qh qe r f (u.1.1, (u.1.2.1.1, u.1.2.1.2.1, u.1.2.1.2.2), (u.1.2.2.1, u.1.2.2.2.1, u.1.2.2.2.2)) u.2.1 u.2.2.1 u.2.2.2 g oq dr h ba bb bd bn vd mm ms mk gg az pa de mi ns nk sv bk bm ts hd ne) rfl (by decide) (fun _ => rfl) (fun _ => rfl) (fun _ => rfl) (by decide) (fun _ => rfl) 0 rfl rfl rfl hl.1 rfl (Nat.le_of_ble_eq_true rfl) dL_law_150 ⟨Nat.le_of_ble_eq_true rfl, Nat.le_of_ble_eq_true rfl⟩ (fun r_150 u_150 H locs h_150 hP hD hS => ?_)
  obtain ⟨he_150, h_150⟩ := h_150
  subst he_150
  refine lv_aload_n hx hb dL_law_153 rfl (lv_at hl 2 rfl) ?_
  refine lv_aload_n hx hb dL_law_154 rfl (lv_at hl 0 rfl) ?_
  refine lv_iload_n hx hb dL_law_155 rfl (lv_at hl 3 rfl) ?_
  refine z_iconst hx hb dL_law_156 ?_
  refine z_iadd hx hb dL_law_157 ?_
  refine z_sld hx hb hX hbl hS (ii + 1) (by omega) ex1 (by omega) hL dL_law_158 ?_
  refine miV2 (base := LWb k x9 h0 c0 h8 h5 a5 h6 s6 p6 h9 s9 p9 h4 b4 e4 h2 h7 c7 hq aq d2 hh eo h3 i3 j3 k3 h1 im m0 m1 sd kp q0 qn qa qp qi qs qk qb qt qh qe r f (u_150.1.1, (u_150.1.2.1.1, u_150.1.2.1.2.1, u_150.1.2.1.2.2), (u_150.1.2.2.1, u_150.1.2.2.2.1, u_150.1.2.2.2.2)) u_150.2.1 u_150.2.2.1 u_150.2.2.2 g oq dr h ba bb bd bn vd mm ms mk gg az pa de mi ns nk sv bk bm ts hd ne) (Rw := rowsW k r h.2.2) (n := 1) (As := [.int (zI x1)]) (rest := [.int (zI (vTold f bn h.2.1 (wrF f ba bb bd bn) x1))]) hSf (m_told l D k q0 qn qa qp qi qs qk qb qt qh qe de sv bm gg B (hV.ag hG) (by omega) ts hd ne bk hb_.m x1 hx1) gL_law_X10_told rfl (by decide +kernel) ⟨Nat.le_of_ble_eq_true rfl, Nat.le_of_ble_eq_true rfl⟩ hK hP hD hS [33, 34, 41, 40, 42, 43] [0, 1, 2, 3, 4, 5, 6, 7, 8, 9, 10, 11, 12, 13, 14, 15, 16, 17, 18, 19, 20, 21, 22, 23, 24, 25, 26, 27, 28, 29, 30, 31, 32, 35, 36, 37, 38, 39] 44 (fun (u : (Nat → Int) × (Nat → Int) × (Nat → Int)) => LWb k x9 h0 c0 h8 h5 a5 h6 s6 p6 h9 s9 p9 h4 b4 e4 h2 h7 c7 hq aq d2 hh eo h3 i3 j3 k3 h1 im m0 m1 sd kp q0 qn qa qp qi qs qk qb qt qh qe r f (u_150.1.1, (u_150.1.2.1.1, u_150.1.2.1.2.1, u_150.1.2.1.2.2), (u_150.1.2.2.1, u_150.1.2.2.2.1, u_150.1.2.2.2.2)) u_150.2.1 u_150.2.2.1 u_150.2.2.2 g oq dr h ba bb bd bn vd mm ms mk gg az pa de mi ns nk sv bk bm u.1 u.2.1 u.2.2) rfl (by decide) (fun _ => rfl) (fun _ => rfl) (fun _ => rfl) (by decide) (fun _ => rfl) 0 rfl rfl rfl hl.1 rfl (Nat.le_of_ble_eq_true rfl) dL_law_159 ⟨Nat.le_of_ble_eq_true rfl, Nat.le_of_ble_eq_true rfl⟩ (fun r_159 u_159 H locs h_159 hP hD hS => ?_)
  obtain ⟨he_159, h_159⟩ := h_159
  subst he_159
  refine lv_icmp_eq (tgt := 909) hx hb dL_law_162 (by decide) (fun _ => ?_) (fun hne => absurd (zc (vTold_ag hV hG hb_ hde_ x1)) hne)
  exact KK f (u_150.1.1, (u_150.1.2.1.1, u_150.1.2.1.2.1, u_150.1.2.1.2.2), (u_150.1.2.2.1, u_150.1.2.2.2.1, u_150.1.2.2.2.2)) u_150.2.1 u_150.2.2.1 u_150.2.2.2 g oq dr h ba bb bd bn vd mm ms mk gg az pa de mi ns nk sv bk bm u_159.1 u_159.2.1 u_159.2.2 (hV.le (by omega)) hG (hH.le (by omega)) hb_ hvd hsv (hI.le (by omega)) _ _ hP hD hS ls (lv_sub hl [0, 1, 2, 3] rfl)
set_option maxHeartbeats 8000000 in
set_option maxRecDepth 100000 in
theorem law_thing {p : Program} {l : Launch} {e : Env} {s : State} {m : MethodId} {below : List Frame} {meth : Method} {c : Code} {D : va_G} {k : Kt} {b L : Nat} {xs : Nat → Int32} (hL : L ≤ 3584) (C0 : lw_At p s m meth c b L xs) (hK : GW D k s) (x9 h0 c0 h8 h5 a5 h6 s6 p6 h9 s9 p9 h4 b4 e4 h2 h7 c7 hq aq d2 hh eo h3 i3 j3 k3 h1 im m0 m1 sd kp q0 qn qa qp qi qs qk qb qt qh qe : Nat) (r : Nat → Nat) (ii : Nat) (hii : ii + 7 ≤ L) (B : Int) (hBi : B ≤ 40 * ((ii : Nat) : Int)) (KK : ∀ (f : St) (z : (Nat → Int) × ((Nat → Nat) × (Nat → Nat) × Nat) × ((Nat → Nat) × (Nat → Nat) × Nat)) (ho : Nat → Int) (en : Nat → Int) (us : Nat) (g : St) (oq : Nat → Int) (dr : Nat → Int) (h : HT) (ba : Nat → Int) (bb : Nat → Int) (bd : Nat → Int) (bn : Nat) (vd : Int) (mm : Nat → St) (ms : Nat → Int) (mk : Nat → Int) (gg : St) (az : Nat → Int) (pa : Nat → Int) (de : Nat) (mi : Nat → Int) (ns : Nat → Int) (nk : Nat → Int) (sv : Int) (bk : Nat → Int) (bm : Nat) (ts : Nat → Int) (hd : Nat → Int) (ne : Nat → Int), Va (B + 40) f → Ag f gg → IvH (B + 40) h de pa → IvB ba bb bd bn bk bm → 0 ≤ vd ∧ vd < 2147483648 → sv = vd → IvI (B + 40) mm ms mk mi ns nk → ∀ (H : Heap) (locs : List Loc), va_P D vwCl (LWf k x9 h0 c0 h8 h5 a5 h6 s6 p6 h9 s9 p9 h4 b4 e4 h2 h7 c7 hq aq d2 hh eo h3 i3 j3 k3 h1 im m0 m1 sd kp q0 qn qa qp qi qs qk qb qt qh qe r f z ho en us g oq dr h ba bb bd bn vd mm ms mk gg az pa de mi ns nk sv bk bm ts hd ne) H → va_D (fun q : Nat => s.heap.size ≤ q) (LWf k x9 h0 c0 h8 h5 a5 h6 s6 p6 h9 s9 p9 h4 b4 e4 h2 h7 c7 hq aq d2 hh eo h3 i3 j3 k3 h1 im m0 m1 sd kp q0 qn qa qp qi qs qk qb qt qh qe r f z ho en us g oq dr h ba bb bd bn vd mm ms mk gg az pa de mi ns nk sv bk bm ts hd ne) → va_S (fun q : Nat => s.heap.size ≤ q) s.heap H locs → ∀ (ls : Array Slot), lv_has ls 4 [(0, .ref b), (1, .ref x9), (2, .ref q0), (3, .int (zI ((ii : Nat) : Int)))] → W p l e room_1 s m #[Value.ref b] below meth c H locs 64 6674 (lw_Z below #[Value.ref b] s) (F0 m 909 ls [])) : ∀ (f : St) (z : (Nat → Int) × ((Nat → Nat) × (Nat → Nat) × Nat) × ((Nat → Nat) × (Nat → Nat) × Nat)) (ho : Nat → Int) (en : Nat → Int) (us : Nat) (g : St) (oq : Nat → Int) (dr : Nat → Int) (h : HT) (ba : Nat → Int) (bb : Nat → Int) (bd : Nat → Int) (bn : Nat) (vd : Int) (mm : Nat → St) (ms : Nat → Int) (mk : Nat → Int) (gg : St) (az : Nat → Int) (pa : Nat → Int) (de : Nat) (mi : Nat → Int) (ns : Nat → Int) (nk : Nat → Int) (sv : Int) (bk : Nat → Int) (bm : Nat) (ts : Nat → Int) (hd : Nat → Int) (ne : Nat → Int), Va B f → Ag f gg → IvH B h de pa → IvB ba bb bd bn bk bm → 0 ≤ vd ∧ vd < 2147483648 → sv = vd → IvI B mm ms mk mi ns nk → ∀ (H : Heap) (locs : List Loc), va_P D vwCl (LWf k x9 h0 c0 h8 h5 a5 h6 s6 p6 h9 s9 p9 h4 b4 e4 h2 h7 c7 hq aq d2 hh eo h3 i3 j3 k3 h1 im m0 m1 sd kp q0 qn qa qp qi qs qk qb qt qh qe r f z ho en us g oq dr h ba bb bd bn vd mm ms mk gg az pa de mi ns nk sv bk bm ts hd ne) H → va_D (fun q : Nat => s.heap.size ≤ q) (LWf k x9 h0 c0 h8 h5 a5 h6 s6 p6 h9 s9 p9 h4 b4 e4 h2 h7 c7 hq aq d2 hh eo h3 i3 j3 k3 h1 im m0 m1 sd kp q0 qn qa qp qi qs qk qb qt qh qe r f z ho en us g oq dr h ba bb bd bn vd mm ms mk gg az pa de mi ns nk sv bk bm ts hd ne) → va_S (fun q : Nat => s.heap.size ≤ q) s.heap H locs → ∀ (ls : Array Slot), lv_has ls 4 [(0, .ref b), (1, .ref x9), (2, .ref q0), (3, .int (zI ((ii : Nat) : Int)))] → W p l e room_1 s m #[Value.ref b] below meth c H locs 64 6674 (lw_Z below #[Value.ref b] s) (F0 m 167 ls []) := by
  intro f z ho en us g oq dr h ba bb bd bn vd mm ms mk gg az pa de mi ns nk sv bk bm ts hd ne hV hG hH hb_ hvd hsv hI H locs hP hD hS ls hl
  obtain ⟨hx, hb, hr, hml, hown, hts0, hX, hbl, hlocks, hgv⟩ := C0
  have hts : ∀ w ∈ wsL_law, w.before #[Value.ref b] s = true := fun w hw => hts0 w (wsL_law_in w hw)
  have hSf : CallFix p m c cL_law 4 s #[Value.ref b] wsL_law RL := ⟨hx, hb, hml, hown, hts⟩
  have e0 : f 0 = gg 0 := hG.c (show 0 < 36 by decide)
  have en_ : nT f = nT gg := hG.n
  have hb20 := hb_.1.1
  have hbm := hb_.2.1
  have hh20 := hH.2.1
  have hde_ := hH.2.2.1
  have hnn := hV.n
  have hv00 := hV.1
  obtain ⟨x1, ex1⟩ : ∃ x, x = (xs (ii + 1)).toInt := ⟨_, rfl⟩
  have hx1 : -2147483648 ≤ x1 ∧ x1 < 2147483648 := by rw [ex1]; exact i32_rg _
  obtain ⟨x2, ex2⟩ : ∃ x, x = (xs (ii + 2)).toInt := ⟨_, rfl⟩
  have hx2 : -2147483648 ≤ x2 ∧ x2 < 2147483648 := by rw [ex2]; exact i32_rg _
  refine lv_aload_n hx hb dL_law_167 rfl (lv_at hl 1 rfl) ?_
  refine lv_aload_n hx hb dL_law_168 rfl (lv_at hl 0 rfl) ?_
  refine lv_iload_n hx hb dL_law_169 rfl (lv_at hl 3 rfl) ?_
  refine z_iconst hx hb dL_law_170 ?_
  refine z_iadd hx hb dL_law_171 ?_
  refine z_sld hx hb hX hbl hS (ii + 1) (by omega) ex1 (by omega) hL dL_law_172 ?_
  refine lv_aload_n hx hb dL_law_173 rfl (lv_at hl 0 rfl) ?_
  refine lv_iload_n hx hb dL_law_174 rfl (lv_at hl 3 rfl) ?_
  refine z_iconst hx hb dL_law_175 ?_
  refine z_iadd hx hb dL_law_176 ?_
  refine z_sld hx hb hX hbl hS (ii + 2) (by omega) ex2 (by omega) hL dL_law_177 ?_
  refine miV2 (base := LWb k x9 h0 c0 h8 h5 a5 h6 s6 p6 h9 s9 p9 h4 b4 e4 h2 h7 c7 hq aq d2 hh eo h3 i3 j3 k3 h1 im m0 m1 sd kp q0 qn qa qp qi qs qk qb qt qh qe r f (z.1, (z.2.1.1, z.2.1.2.1, z.2.1.2.2), (z.2.2.1, z.2.2.2.1, z.2.2.2.2)) ho en us g oq dr h ba bb bd bn vd mm ms mk gg az pa de mi ns nk sv bk bm ts hd ne) (Rw := rowsW k r h.2.2) (n := 2) (As := [.int (zI x1), .int (zI x2)]) (rest := []) hSf (c_thing l D k x9 h0 c0 h8 h4 h2 hh h3 h1 im sd kp f B hV h5 a5 h6 s6 p6 h9 s9 p9 z (by omega) b4 e4 ho en us x1 x2 hx1 hx2) gL_law_X9_thing rfl (by decide +kernel) ⟨Nat.le_of_ble_eq_true rfl, Nat.le_of_ble_eq_true rfl⟩ hK hP hD hS [0, 1, 2, 3, 4, 5, 6, 7, 8, 9, 10, 11, 12, 13, 14] [15, 16, 17, 18, 19, 20, 21, 22, 23, 24, 25, 26, 27, 28, 29, 30, 31, 32, 33, 34, 35, 36, 37, 38, 39, 40, 41, 42, 43] 44 (fun (u : ((Nat → Int) × ((Nat → Nat) × (Nat → Nat) × Nat) × ((Nat → Nat) × (Nat → Nat) × Nat)) × (Nat → Int) × (Nat → Int) × Nat) => LWb k x9 h0 c0 h8 h5 a5 h6 s6 p6 h9 s9 p9 h4 b4 e4 h2 h7 c7 hq aq d2 hh eo h3 i3 j3 k3 h1 im m0 m1 sd kp q0 qn qa qp qi qs qk qb qt qh qe r f (u.1.1, (u.1.2.1.1, u.1.2.1.2.1, u.1.2.1.2.2), (u.1.2.2.1, u.1.2.2.2.1, u.1.2.2.2.2)) u.2.1 u.2.2.1 u.2.2.2 g oq dr h ba bb bd bn vd mm ms mk gg az pa de mi ns nk sv bk bm ts hd ne) rfl (by decide) (fun _ => rfl) (fun _ => rfl) (fun _ => rfl) (by decide) (fun _ => rfl) 0 rfl rfl rfl hl.1 rfl (Nat.le_of_ble_eq_true rfl) dL_law_178 ⟨Nat.le_of_ble_eq_true rfl, Nat.le_of_ble_eq_true rfl⟩ (fun r_178 u_178 H locs h_178 hP hD hS => ?_)
  obtain ⟨he_178, h_178⟩ := h_178
  subst he_178
  refine lv_aload_n hx hb dL_law_181 rfl (lv_at hl 2 rfl) ?_
  refine lv_aload_n hx hb dL_law_182 rfl (lv_at hl 0 rfl) ?_
  refine lv_iload_n hx hb dL_law_183 rfl (lv_at hl 3 rfl) ?_
  refine z_iconst hx hb dL_law_184 ?_
  refine z_iadd hx hb dL_law_185 ?_
  refine z_sld hx hb hX hbl hS (ii + 1) (by omega) ex1 (by omega) hL dL_law_186 ?_
  refine lv_aload_n hx hb dL_law_187 rfl (lv_at hl 0 rfl) ?_
  refine lv_iload_n hx hb dL_law_188 rfl (lv_at hl 3 rfl) ?_
  refine z_iconst hx hb dL_law_189 ?_
  refine z_iadd hx hb dL_law_190 ?_
  refine z_sld hx hb hX hbl hS (ii + 2) (by omega) ex2 (by omega) hL dL_law_191 ?_
  refine miV2 (base := LWb k x9 h0 c0 h8 h5 a5 h6 s6 p6 h9 s9 p9 h4 b4 e4 h2 h7 c7 hq aq d2 hh eo h3 i3 j3 k3 h1 im m0 m1 sd kp q0 qn qa qp qi qs qk qb qt qh qe r f (u_178.1.1, (u_178.1.2.1.1, u_178.1.2.1.2.1, u_178.1.2.1.2.2), (u_178.1.2.2.1, u_178.1.2.2.2.1, u_178.1.2.2.2.2)) u_178.2.1 u_178.2.2.1 u_178.2.2.2 g oq dr h ba bb bd bn vd mm ms mk gg az pa de mi ns nk sv bk bm ts hd ne) (Rw := rowsW k r h.2.2) (n := 2) (As := [.int (zI x1), .int (zI x2)]) (rest := [.int (zI (vThing f x1 x2))]) hSf (m_thing l D k q0 qn qa qp qi qs qk qb qt qh qe de sv bm gg B (hV.ag hG) (by omega) ts hd ne x1 x2 hx1 hx2) gL_law_X10_thing rfl (by decide +kernel) ⟨Nat.le_of_ble_eq_true rfl, Nat.le_of_ble_eq_true rfl⟩ hK hP hD hS [33, 34, 41, 42, 43] [0, 1, 2, 3, 4, 5, 6, 7, 8, 9, 10, 11, 12, 13, 14, 15, 16, 17, 18, 19, 20, 21, 22, 23, 24, 25, 26, 27, 28, 29, 30, 31, 32, 35, 36, 37, 38, 39, 40] 44 (fun (u : (Nat → Int) × (Nat → Int) × (Nat → Int)) => LWb k x9 h0 c0 h8 h5 a5 h6 s6 p6 h9 s9 p9 h4 b4 e4 h2 h7 c7 hq aq d2 hh eo h3 i3 j3 k3 h1 im m0 m1 sd kp q0 qn qa qp qi qs qk qb qt qh qe r f (u_178.1.1, (u_178.1.2.1.1, u_178.1.2.1.2.1, u_178.1.2.1.2.2), (u_178.1.2.2.1, u_178.1.2.2.2.1, u_178.1.2.2.2.2)) u_178.2.1 u_178.2.2.1 u_178.2.2.2 g oq dr h ba bb bd bn vd mm ms mk gg az pa de mi ns nk sv bk bm u.1 u.2.1 u.2.2) rfl (by decide) (fun _ => rfl) (fun _ => rfl) (fun _ => rfl) (by decide) (fun _ => rfl) 0 rfl rfl rfl hl.1 rfl (Nat.le_of_ble_eq_true rfl) dL_law_192 ⟨Nat.le_of_ble_eq_true rfl, Nat.le_of_ble_eq_true rfl⟩ (fun r_192 u_192 H locs h_192 hP hD hS => ?_)
  obtain ⟨he_192, h_192⟩ := h_192
  subst he_192
  refine lv_icmp_eq (tgt := 909) hx hb dL_law_195 (by decide) (fun _ => ?_) (fun hne => absurd (zc (vThing_ag hV hG x1 x2)) hne)
  exact KK f (u_178.1.1, (u_178.1.2.1.1, u_178.1.2.1.2.1, u_178.1.2.1.2.2), (u_178.1.2.2.1, u_178.1.2.2.2.1, u_178.1.2.2.2.2)) u_178.2.1 u_178.2.2.1 u_178.2.2.2 g oq dr h ba bb bd bn vd mm ms mk gg az pa de mi ns nk sv bk bm u_192.1 u_192.2.1 u_192.2.2 (hV.le (by omega)) hG (hH.le (by omega)) hb_ hvd hsv (hI.le (by omega)) _ _ hP hD hS ls (lv_sub hl [0, 1, 2, 3] rfl)
set_option maxHeartbeats 8000000 in
set_option maxRecDepth 100000 in
theorem law_dot {p : Program} {l : Launch} {e : Env} {s : State} {m : MethodId} {below : List Frame} {meth : Method} {c : Code} {D : va_G} {k : Kt} {b L : Nat} {xs : Nat → Int32} (hL : L ≤ 3584) (C0 : lw_At p s m meth c b L xs) (hK : GW D k s) (x9 h0 c0 h8 h5 a5 h6 s6 p6 h9 s9 p9 h4 b4 e4 h2 h7 c7 hq aq d2 hh eo h3 i3 j3 k3 h1 im m0 m1 sd kp q0 qn qa qp qi qs qk qb qt qh qe : Nat) (r : Nat → Nat) (ii : Nat) (hii : ii + 7 ≤ L) (B : Int) (hBi : B ≤ 40 * ((ii : Nat) : Int)) (KK : ∀ (f : St) (z : (Nat → Int) × ((Nat → Nat) × (Nat → Nat) × Nat) × ((Nat → Nat) × (Nat → Nat) × Nat)) (ho : Nat → Int) (en : Nat → Int) (us : Nat) (g : St) (oq : Nat → Int) (dr : Nat → Int) (h : HT) (ba : Nat → Int) (bb : Nat → Int) (bd : Nat → Int) (bn : Nat) (vd : Int) (mm : Nat → St) (ms : Nat → Int) (mk : Nat → Int) (gg : St) (az : Nat → Int) (pa : Nat → Int) (de : Nat) (mi : Nat → Int) (ns : Nat → Int) (nk : Nat → Int) (sv : Int) (bk : Nat → Int) (bm : Nat) (ts : Nat → Int) (hd : Nat → Int) (ne : Nat → Int), Va (B + 40) f → Ag f gg → IvH (B + 40) h de pa → IvB ba bb bd bn bk bm → 0 ≤ vd ∧ vd < 2147483648 → sv = vd → IvI (B + 40) mm ms mk mi ns nk → ∀ (H : Heap) (locs : List Loc), va_P D vwCl (LWf k x9 h0 c0 h8 h5 a5 h6 s6 p6 h9 s9 p9 h4 b4 e4 h2 h7 c7 hq aq d2 hh eo h3 i3 j3 k3 h1 im m0 m1 sd kp q0 qn qa qp qi qs qk qb qt qh qe r f z ho en us g oq dr h ba bb bd bn vd mm ms mk gg az pa de mi ns nk sv bk bm ts hd ne) H → va_D (fun q : Nat => s.heap.size ≤ q) (LWf k x9 h0 c0 h8 h5 a5 h6 s6 p6 h9 s9 p9 h4 b4 e4 h2 h7 c7 hq aq d2 hh eo h3 i3 j3 k3 h1 im m0 m1 sd kp q0 qn qa qp qi qs qk qb qt qh qe r f z ho en us g oq dr h ba bb bd bn vd mm ms mk gg az pa de mi ns nk sv bk bm ts hd ne) → va_S (fun q : Nat => s.heap.size ≤ q) s.heap H locs → ∀ (ls : Array Slot), lv_has ls 4 [(0, .ref b), (1, .ref x9), (2, .ref q0), (3, .int (zI ((ii : Nat) : Int)))] → W p l e room_1 s m #[Value.ref b] below meth c H locs 64 6674 (lw_Z below #[Value.ref b] s) (F0 m 909 ls [])) : ∀ (f : St) (z : (Nat → Int) × ((Nat → Nat) × (Nat → Nat) × Nat) × ((Nat → Nat) × (Nat → Nat) × Nat)) (ho : Nat → Int) (en : Nat → Int) (us : Nat) (g : St) (oq : Nat → Int) (dr : Nat → Int) (h : HT) (ba : Nat → Int) (bb : Nat → Int) (bd : Nat → Int) (bn : Nat) (vd : Int) (mm : Nat → St) (ms : Nat → Int) (mk : Nat → Int) (gg : St) (az : Nat → Int) (pa : Nat → Int) (de : Nat) (mi : Nat → Int) (ns : Nat → Int) (nk : Nat → Int) (sv : Int) (bk : Nat → Int) (bm : Nat) (ts : Nat → Int) (hd : Nat → Int) (ne : Nat → Int), Va B f → Ag f gg → IvH B h de pa → IvB ba bb bd bn bk bm → 0 ≤ vd ∧ vd < 2147483648 → sv = vd → IvI B mm ms mk mi ns nk → ∀ (H : Heap) (locs : List Loc), va_P D vwCl (LWf k x9 h0 c0 h8 h5 a5 h6 s6 p6 h9 s9 p9 h4 b4 e4 h2 h7 c7 hq aq d2 hh eo h3 i3 j3 k3 h1 im m0 m1 sd kp q0 qn qa qp qi qs qk qb qt qh qe r f z ho en us g oq dr h ba bb bd bn vd mm ms mk gg az pa de mi ns nk sv bk bm ts hd ne) H → va_D (fun q : Nat => s.heap.size ≤ q) (LWf k x9 h0 c0 h8 h5 a5 h6 s6 p6 h9 s9 p9 h4 b4 e4 h2 h7 c7 hq aq d2 hh eo h3 i3 j3 k3 h1 im m0 m1 sd kp q0 qn qa qp qi qs qk qb qt qh qe r f z ho en us g oq dr h ba bb bd bn vd mm ms mk gg az pa de mi ns nk sv bk bm ts hd ne) → va_S (fun q : Nat => s.heap.size ≤ q) s.heap H locs → ∀ (ls : Array Slot), lv_has ls 4 [(0, .ref b), (1, .ref x9), (2, .ref q0), (3, .int (zI ((ii : Nat) : Int)))] → W p l e room_1 s m #[Value.ref b] below meth c H locs 64 6674 (lw_Z below #[Value.ref b] s) (F0 m 200 ls []) := by
  intro f z ho en us g oq dr h ba bb bd bn vd mm ms mk gg az pa de mi ns nk sv bk bm ts hd ne hV hG hH hb_ hvd hsv hI H locs hP hD hS ls hl
  obtain ⟨hx, hb, hr, hml, hown, hts0, hX, hbl, hlocks, hgv⟩ := C0
  have hts : ∀ w ∈ wsL_law, w.before #[Value.ref b] s = true := fun w hw => hts0 w (wsL_law_in w hw)
  have hSf : CallFix p m c cL_law 4 s #[Value.ref b] wsL_law RL := ⟨hx, hb, hml, hown, hts⟩
  have e0 : f 0 = gg 0 := hG.c (show 0 < 36 by decide)
  have en_ : nT f = nT gg := hG.n
  have hb20 := hb_.1.1
  have hbm := hb_.2.1
  have hh20 := hH.2.1
  have hde_ := hH.2.2.1
  have hnn := hV.n
  have hv00 := hV.1
  obtain ⟨x1, ex1⟩ : ∃ x, x = (xs (ii + 1)).toInt := ⟨_, rfl⟩
  have hx1 : -2147483648 ≤ x1 ∧ x1 < 2147483648 := by rw [ex1]; exact i32_rg _
  obtain ⟨x2, ex2⟩ : ∃ x, x = (xs (ii + 2)).toInt := ⟨_, rfl⟩
  have hx2 : -2147483648 ≤ x2 ∧ x2 < 2147483648 := by rw [ex2]; exact i32_rg _
  obtain ⟨x3, ex3⟩ : ∃ x, x = (xs (ii + 3)).toInt := ⟨_, rfl⟩
  have hx3 : -2147483648 ≤ x3 ∧ x3 < 2147483648 := by rw [ex3]; exact i32_rg _
  refine lv_aload_n hx hb dL_law_200 rfl (lv_at hl 1 rfl) ?_
  refine lv_aload_n hx hb dL_law_201 rfl (lv_at hl 0 rfl) ?_
  refine lv_iload_n hx hb dL_law_202 rfl (lv_at hl 3 rfl) ?_
  refine z_iconst hx hb dL_law_203 ?_
  refine z_iadd hx hb dL_law_204 ?_
  refine z_sld hx hb hX hbl hS (ii + 1) (by omega) ex1 (by omega) hL dL_law_205 ?_
  refine lv_aload_n hx hb dL_law_206 rfl (lv_at hl 0 rfl) ?_
  refine lv_iload_n hx hb dL_law_207 rfl (lv_at hl 3 rfl) ?_
  refine z_iconst hx hb dL_law_208 ?_
  refine z_iadd hx hb dL_law_209 ?_
  refine z_sld hx hb hX hbl hS (ii + 2) (by omega) ex2 (by omega) hL dL_law_210 ?_
  refine lv_aload_n hx hb dL_law_211 rfl (lv_at hl 0 rfl) ?_
  refine lv_iload_n hx hb dL_law_212 rfl (lv_at hl 3 rfl) ?_
  refine z_iconst hx hb dL_law_213 ?_
  refine z_iadd hx hb dL_law_214 ?_
  refine z_sld hx hb hX hbl hS (ii + 3) (by omega) ex3 (by omega) hL dL_law_215 ?_
  refine miV2 (base := LWb k x9 h0 c0 h8 h5 a5 h6 s6 p6 h9 s9 p9 h4 b4 e4 h2 h7 c7 hq aq d2 hh eo h3 i3 j3 k3 h1 im m0 m1 sd kp q0 qn qa qp qi qs qk qb qt qh qe r f (z.1, (z.2.1.1, z.2.1.2.1, z.2.1.2.2), (z.2.2.1, z.2.2.2.1, z.2.2.2.2)) ho en us g oq dr h ba bb bd bn vd mm ms mk gg az pa de mi ns nk sv bk bm ts hd ne) (Rw := rowsW k r h.2.2) (n := 3) (As := [.int (zI x1), .int (zI x2), .int (zI x3)]) (rest := []) hSf (c_dot l D k x9 h0 c0 h8 h4 h2 hh h3 h1 im sd kp f B hV h5 a5 h6 s6 p6 h9 s9 p9 z (by omega) x1 x2 x3 hx1 hx2 hx3) gL_law_X9_dot rfl (by decide +kernel) ⟨Nat.le_of_ble_eq_true rfl, Nat.le_of_ble_eq_true rfl⟩ hK hP hD hS [0, 1, 2, 3, 4, 5, 6, 7, 8, 9, 10, 11] [12, 13, 14, 15, 16, 17, 18, 19, 20, 21, 22, 23, 24, 25, 26, 27, 28, 29, 30, 31, 32, 33, 34, 35, 36, 37, 38, 39, 40, 41, 42, 43] 44 (fun (u : (Nat → Int) × ((Nat → Nat) × (Nat → Nat) × Nat) × ((Nat → Nat) × (Nat → Nat) × Nat)) => LWb k x9 h0 c0 h8 h5 a5 h6 s6 p6 h9 s9 p9 h4 b4 e4 h2 h7 c7 hq aq d2 hh eo h3 i3 j3 k3 h1 im m0 m1 sd kp q0 qn qa qp qi qs qk qb qt qh qe r f (u.1, (u.2.1.1, u.2.1.2.1, u.2.1.2.2), (u.2.2.1, u.2.2.2.1, u.2.2.2.2)) ho en us g oq dr h ba bb bd bn vd mm ms mk gg az pa de mi ns nk sv bk bm ts hd ne) rfl (by decide) (fun _ => rfl) (fun _ => rfl) (fun _ => rfl) (by decide) (fun _ => rfl) 0 rfl rfl rfl hl.1 rfl (Nat.le_of_ble_eq_true rfl) dL_law_216 ⟨Nat.le_of_ble_eq_true rfl, Nat.le_of_ble_eq_true rfl⟩ (fun r_216 u_216 H locs h_216 hP hD hS => ?_)
  obtain ⟨he_216, h_216⟩ := h_216
  subst he_216
  refine lv_aload_n hx hb dL_law_219 rfl (lv_at hl 2 rfl) ?_
  refine lv_aload_n hx hb dL_law_220 rfl (lv_at hl 0 rfl) ?_
  refine lv_iload_n hx hb dL_law_221 rfl (lv_at hl 3 rfl) ?_
  refine z_iconst hx hb dL_law_222 ?_
  refine z_iadd hx hb dL_law_223 ?_
  refine z_sld hx hb hX hbl hS (ii + 1) (by omega) ex1 (by omega) hL dL_law_224 ?_
  refine lv_aload_n hx hb dL_law_225 rfl (lv_at hl 0 rfl) ?_
  refine lv_iload_n hx hb dL_law_226 rfl (lv_at hl 3 rfl) ?_
  refine z_iconst hx hb dL_law_227 ?_
  refine z_iadd hx hb dL_law_228 ?_
  refine z_sld hx hb hX hbl hS (ii + 2) (by omega) ex2 (by omega) hL dL_law_229 ?_
  refine lv_aload_n hx hb dL_law_230 rfl (lv_at hl 0 rfl) ?_
  refine lv_iload_n hx hb dL_law_231 rfl (lv_at hl 3 rfl) ?_
  refine z_iconst hx hb dL_law_232 ?_
  refine z_iadd hx hb dL_law_233 ?_
  refine z_sld hx hb hX hbl hS (ii + 3) (by omega) ex3 (by omega) hL dL_law_234 ?_
  refine roV2 (base := LWb k x9 h0 c0 h8 h5 a5 h6 s6 p6 h9 s9 p9 h4 b4 e4 h2 h7 c7 hq aq d2 hh eo h3 i3 j3 k3 h1 im m0 m1 sd kp q0 qn qa qp qi qs qk qb qt qh qe r f (u_216.1, (u_216.2.1.1, u_216.2.1.2.1, u_216.2.1.2.2), (u_216.2.2.1, u_216.2.2.2.1, u_216.2.2.2.2)) ho en us g oq dr h ba bb bd bn vd mm ms mk gg az pa de mi ns nk sv bk bm ts hd ne) (Rw := rowsW k r h.2.2) (n := 3) (As := [.int (zI x1), .int (zI x2), .int (zI x3)]) (rest := [.int (zI (vDot f x1 x2 x3))]) hSf (m_dot l D k q0 qn qa qp qi qs qk qb qt qh qe de sv bm gg B (hV.ag hG) (by omega) x1 x2 x3 hx1 hx2 hx3) gL_law_X10_dot rfl (by decide +kernel) ⟨Nat.le_of_ble_eq_true rfl, Nat.le_of_ble_eq_true rfl⟩ hK hP [33, 34] rfl 0 rfl rfl rfl hl.1 rfl (Nat.le_of_ble_eq_true rfl) dL_law_235 ⟨Nat.le_of_ble_eq_true rfl, Nat.le_of_ble_eq_true rfl⟩ (fun r_235 h_235 => ?_)
  subst h_235
  refine lv_icmp_eq (tgt := 909) hx hb dL_law_238 (by decide) (fun _ => ?_) (fun hne => absurd (zc (vDot_ag hV hG x1 x2 x3)) hne)
  exact KK f (u_216.1, (u_216.2.1.1, u_216.2.1.2.1, u_216.2.1.2.2), (u_216.2.2.1, u_216.2.2.2.1, u_216.2.2.2.2)) ho en us g oq dr h ba bb bd bn vd mm ms mk gg az pa de mi ns nk sv bk bm ts hd ne (hV.le (by omega)) hG (hH.le (by omega)) hb_ hvd hsv (hI.le (by omega)) _ _ hP hD hS ls (lv_sub hl [0, 1, 2, 3] rfl)
set_option maxHeartbeats 8000000 in
set_option maxRecDepth 100000 in
theorem law_line {p : Program} {l : Launch} {e : Env} {s : State} {m : MethodId} {below : List Frame} {meth : Method} {c : Code} {D : va_G} {k : Kt} {b L : Nat} {xs : Nat → Int32} (hL : L ≤ 3584) (C0 : lw_At p s m meth c b L xs) (hK : GW D k s) (x9 h0 c0 h8 h5 a5 h6 s6 p6 h9 s9 p9 h4 b4 e4 h2 h7 c7 hq aq d2 hh eo h3 i3 j3 k3 h1 im m0 m1 sd kp q0 qn qa qp qi qs qk qb qt qh qe : Nat) (r : Nat → Nat) (ii : Nat) (hii : ii + 7 ≤ L) (B : Int) (hBi : B ≤ 40 * ((ii : Nat) : Int)) (KK : ∀ (f : St) (z : (Nat → Int) × ((Nat → Nat) × (Nat → Nat) × Nat) × ((Nat → Nat) × (Nat → Nat) × Nat)) (ho : Nat → Int) (en : Nat → Int) (us : Nat) (g : St) (oq : Nat → Int) (dr : Nat → Int) (h : HT) (ba : Nat → Int) (bb : Nat → Int) (bd : Nat → Int) (bn : Nat) (vd : Int) (mm : Nat → St) (ms : Nat → Int) (mk : Nat → Int) (gg : St) (az : Nat → Int) (pa : Nat → Int) (de : Nat) (mi : Nat → Int) (ns : Nat → Int) (nk : Nat → Int) (sv : Int) (bk : Nat → Int) (bm : Nat) (ts : Nat → Int) (hd : Nat → Int) (ne : Nat → Int), Va (B + 40) f → Ag f gg → IvH (B + 40) h de pa → IvB ba bb bd bn bk bm → 0 ≤ vd ∧ vd < 2147483648 → sv = vd → IvI (B + 40) mm ms mk mi ns nk → ∀ (H : Heap) (locs : List Loc), va_P D vwCl (LWf k x9 h0 c0 h8 h5 a5 h6 s6 p6 h9 s9 p9 h4 b4 e4 h2 h7 c7 hq aq d2 hh eo h3 i3 j3 k3 h1 im m0 m1 sd kp q0 qn qa qp qi qs qk qb qt qh qe r f z ho en us g oq dr h ba bb bd bn vd mm ms mk gg az pa de mi ns nk sv bk bm ts hd ne) H → va_D (fun q : Nat => s.heap.size ≤ q) (LWf k x9 h0 c0 h8 h5 a5 h6 s6 p6 h9 s9 p9 h4 b4 e4 h2 h7 c7 hq aq d2 hh eo h3 i3 j3 k3 h1 im m0 m1 sd kp q0 qn qa qp qi qs qk qb qt qh qe r f z ho en us g oq dr h ba bb bd bn vd mm ms mk gg az pa de mi ns nk sv bk bm ts hd ne) → va_S (fun q : Nat => s.heap.size ≤ q) s.heap H locs → ∀ (ls : Array Slot), lv_has ls 4 [(0, .ref b), (1, .ref x9), (2, .ref q0), (3, .int (zI ((ii : Nat) : Int)))] → W p l e room_1 s m #[Value.ref b] below meth c H locs 64 6674 (lw_Z below #[Value.ref b] s) (F0 m 909 ls [])) : ∀ (f : St) (z : (Nat → Int) × ((Nat → Nat) × (Nat → Nat) × Nat) × ((Nat → Nat) × (Nat → Nat) × Nat)) (ho : Nat → Int) (en : Nat → Int) (us : Nat) (g : St) (oq : Nat → Int) (dr : Nat → Int) (h : HT) (ba : Nat → Int) (bb : Nat → Int) (bd : Nat → Int) (bn : Nat) (vd : Int) (mm : Nat → St) (ms : Nat → Int) (mk : Nat → Int) (gg : St) (az : Nat → Int) (pa : Nat → Int) (de : Nat) (mi : Nat → Int) (ns : Nat → Int) (nk : Nat → Int) (sv : Int) (bk : Nat → Int) (bm : Nat) (ts : Nat → Int) (hd : Nat → Int) (ne : Nat → Int), Va B f → Ag f gg → IvH B h de pa → IvB ba bb bd bn bk bm → 0 ≤ vd ∧ vd < 2147483648 → sv = vd → IvI B mm ms mk mi ns nk → ∀ (H : Heap) (locs : List Loc), va_P D vwCl (LWf k x9 h0 c0 h8 h5 a5 h6 s6 p6 h9 s9 p9 h4 b4 e4 h2 h7 c7 hq aq d2 hh eo h3 i3 j3 k3 h1 im m0 m1 sd kp q0 qn qa qp qi qs qk qb qt qh qe r f z ho en us g oq dr h ba bb bd bn vd mm ms mk gg az pa de mi ns nk sv bk bm ts hd ne) H → va_D (fun q : Nat => s.heap.size ≤ q) (LWf k x9 h0 c0 h8 h5 a5 h6 s6 p6 h9 s9 p9 h4 b4 e4 h2 h7 c7 hq aq d2 hh eo h3 i3 j3 k3 h1 im m0 m1 sd kp q0 qn qa qp qi qs qk qb qt qh qe r f z ho en us g oq dr h ba bb bd bn vd mm ms mk gg az pa de mi ns nk sv bk bm ts hd ne) → va_S (fun q : Nat => s.heap.size ≤ q) s.heap H locs → ∀ (ls : Array Slot), lv_has ls 4 [(0, .ref b), (1, .ref x9), (2, .ref q0), (3, .int (zI ((ii : Nat) : Int)))] → W p l e room_1 s m #[Value.ref b] below meth c H locs 64 6674 (lw_Z below #[Value.ref b] s) (F0 m 243 ls []) := by
  intro f z ho en us g oq dr h ba bb bd bn vd mm ms mk gg az pa de mi ns nk sv bk bm ts hd ne hV hG hH hb_ hvd hsv hI H locs hP hD hS ls hl
  obtain ⟨hx, hb, hr, hml, hown, hts0, hX, hbl, hlocks, hgv⟩ := C0
  have hts : ∀ w ∈ wsL_law, w.before #[Value.ref b] s = true := fun w hw => hts0 w (wsL_law_in w hw)
  have hSf : CallFix p m c cL_law 4 s #[Value.ref b] wsL_law RL := ⟨hx, hb, hml, hown, hts⟩
  have e0 : f 0 = gg 0 := hG.c (show 0 < 36 by decide)
  have en_ : nT f = nT gg := hG.n
  have hb20 := hb_.1.1
  have hbm := hb_.2.1
  have hh20 := hH.2.1
  have hde_ := hH.2.2.1
  have hnn := hV.n
  have hv00 := hV.1
  obtain ⟨x1, ex1⟩ : ∃ x, x = (xs (ii + 1)).toInt := ⟨_, rfl⟩
  have hx1 : -2147483648 ≤ x1 ∧ x1 < 2147483648 := by rw [ex1]; exact i32_rg _
  obtain ⟨x2, ex2⟩ : ∃ x, x = (xs (ii + 2)).toInt := ⟨_, rfl⟩
  have hx2 : -2147483648 ≤ x2 ∧ x2 < 2147483648 := by rw [ex2]; exact i32_rg _
  refine lv_aload_n hx hb dL_law_243 rfl (lv_at hl 1 rfl) ?_
  refine lv_aload_n hx hb dL_law_244 rfl (lv_at hl 0 rfl) ?_
  refine lv_iload_n hx hb dL_law_245 rfl (lv_at hl 3 rfl) ?_
  refine z_iconst hx hb dL_law_246 ?_
  refine z_iadd hx hb dL_law_247 ?_
  refine z_sld hx hb hX hbl hS (ii + 1) (by omega) ex1 (by omega) hL dL_law_248 ?_
  refine lv_aload_n hx hb dL_law_249 rfl (lv_at hl 0 rfl) ?_
  refine lv_iload_n hx hb dL_law_250 rfl (lv_at hl 3 rfl) ?_
  refine z_iconst hx hb dL_law_251 ?_
  refine z_iadd hx hb dL_law_252 ?_
  refine z_sld hx hb hX hbl hS (ii + 2) (by omega) ex2 (by omega) hL dL_law_253 ?_
  refine mlV2 (base := LWb k x9 h0 c0 h8 h5 a5 h6 s6 p6 h9 s9 p9 h4 b4 e4 h2 h7 c7 hq aq d2 hh eo h3 i3 j3 k3 h1 im m0 m1 sd kp q0 qn qa qp qi qs qk qb qt qh qe r f (z.1, (z.2.1.1, z.2.1.2.1, z.2.1.2.2), (z.2.2.1, z.2.2.2.1, z.2.2.2.2)) ho en us g oq dr h ba bb bd bn vd mm ms mk gg az pa de mi ns nk sv bk bm ts hd ne) (Rw := rowsW k r h.2.2) (n := 2) (As := [.int (zI x1), .int (zI x2)]) (rest := []) hSf (c_line l D k x9 h0 c0 h8 h4 h2 hh h3 h1 im sd kp f B hV h5 a5 h6 s6 p6 h9 s9 p9 z (by omega) x1 x2 hx1 hx2) gL_law_X9_line rfl (by decide +kernel) ⟨Nat.le_of_ble_eq_true rfl, Nat.le_of_ble_eq_true rfl⟩ hK hP hD hS [0, 1, 2, 3, 4, 5, 6, 7, 8, 9, 10, 11] [12, 13, 14, 15, 16, 17, 18, 19, 20, 21, 22, 23, 24, 25, 26, 27, 28, 29, 30, 31, 32, 33, 34, 35, 36, 37, 38, 39, 40, 41, 42, 43] 44 (fun (u : (Nat → Int) × ((Nat → Nat) × (Nat → Nat) × Nat) × ((Nat → Nat) × (Nat → Nat) × Nat)) => LWb k x9 h0 c0 h8 h5 a5 h6 s6 p6 h9 s9 p9 h4 b4 e4 h2 h7 c7 hq aq d2 hh eo h3 i3 j3 k3 h1 im m0 m1 sd kp q0 qn qa qp qi qs qk qb qt qh qe r f (u.1, (u.2.1.1, u.2.1.2.1, u.2.1.2.2), (u.2.2.1, u.2.2.2.1, u.2.2.2.2)) ho en us g oq dr h ba bb bd bn vd mm ms mk gg az pa de mi ns nk sv bk bm ts hd ne) rfl (by decide) (fun _ => rfl) (fun _ => rfl) (fun _ => rfl) (by decide) (fun _ => rfl) 0 rfl rfl rfl hl.1 rfl (Nat.le_of_ble_eq_true rfl) dL_law_254 ⟨Nat.le_of_ble_eq_true rfl, Nat.le_of_ble_eq_true rfl⟩ (fun r_254 u_254 H locs h_254 hP hD hS => ?_)
  obtain ⟨he_254, h_254⟩ := h_254
  subst he_254
  refine lv_aload_n hx hb dL_law_257 rfl (lv_at hl 2 rfl) ?_
  refine lv_aload_n hx hb dL_law_258 rfl (lv_at hl 0 rfl) ?_
  refine lv_iload_n hx hb dL_law_259 rfl (lv_at hl 3 rfl) ?_
  refine z_iconst hx hb dL_law_260 ?_
  refine z_iadd hx hb dL_law_261 ?_
  refine z_sld hx hb hX hbl hS (ii + 1) (by omega) ex1 (by omega) hL dL_law_262 ?_
  refine lv_aload_n hx hb dL_law_263 rfl (lv_at hl 0 rfl) ?_
  refine lv_iload_n hx hb dL_law_264 rfl (lv_at hl 3 rfl) ?_
  refine z_iconst hx hb dL_law_265 ?_
  refine z_iadd hx hb dL_law_266 ?_
  refine z_sld hx hb hX hbl hS (ii + 2) (by omega) ex2 (by omega) hL dL_law_267 ?_
  refine mlV2 (base := LWb k x9 h0 c0 h8 h5 a5 h6 s6 p6 h9 s9 p9 h4 b4 e4 h2 h7 c7 hq aq d2 hh eo h3 i3 j3 k3 h1 im m0 m1 sd kp q0 qn qa qp qi qs qk qb qt qh qe r f (u_254.1, (u_254.2.1.1, u_254.2.1.2.1, u_254.2.1.2.2), (u_254.2.2.1, u_254.2.2.2.1, u_254.2.2.2.2)) ho en us g oq dr h ba bb bd bn vd mm ms mk gg az pa de mi ns nk sv bk bm ts hd ne) (Rw := rowsW k r h.2.2) (n := 2) (As := [.int (zI x1), .int (zI x2)]) (rest := [.long (zL (vLine f x1 x2))]) hSf (m_line l D k q0 qn qa qp qi qs qk qb qt qh qe de sv bm gg B (hV.ag hG) (by omega) x1 x2 hx1 hx2) gL_law_X10_line rfl (by decide +kernel) ⟨Nat.le_of_ble_eq_true rfl, Nat.le_of_ble_eq_true rfl⟩ hK hP hD hS [33, 34] [0, 1, 2, 3, 4, 5, 6, 7, 8, 9, 10, 11, 12, 13, 14, 15, 16, 17, 18, 19, 20, 21, 22, 23, 24, 25, 26, 27, 28, 29, 30, 31, 32, 35, 36, 37, 38, 39, 40, 41, 42, 43] 44 (fun (u : Unit) => LWb k x9 h0 c0 h8 h5 a5 h6 s6 p6 h9 s9 p9 h4 b4 e4 h2 h7 c7 hq aq d2 hh eo h3 i3 j3 k3 h1 im m0 m1 sd kp q0 qn qa qp qi qs qk qb qt qh qe r f (u_254.1, (u_254.2.1.1, u_254.2.1.2.1, u_254.2.1.2.2), (u_254.2.2.1, u_254.2.2.2.1, u_254.2.2.2.2)) ho en us g oq dr h ba bb bd bn vd mm ms mk gg az pa de mi ns nk sv bk bm ts hd ne) rfl (by decide) (fun _ => rfl) (fun _ => rfl) (fun _ => rfl) (by decide) (fun _ => rfl) 0 rfl rfl rfl hl.1 rfl (Nat.le_of_ble_eq_true rfl) dL_law_268 ⟨Nat.le_of_ble_eq_true rfl, Nat.le_of_ble_eq_true rfl⟩ (fun r_268 u_268 H locs h_268 hP hD hS => ?_)
  obtain ⟨he_268, h_268⟩ := h_268
  subst he_268
  refine z_leq hx hb (vLine_ag hV hG x1 x2) dL_law_271 ?_
  refine lv_if_eq (tgt := 909) hx hb dL_law_272 (by decide) (fun _ => ?_) (fun hne => absurd zI_0.symm hne)
  exact KK f (u_254.1, (u_254.2.1.1, u_254.2.1.2.1, u_254.2.1.2.2), (u_254.2.2.1, u_254.2.2.2.1, u_254.2.2.2.2)) ho en us g oq dr h ba bb bd bn vd mm ms mk gg az pa de mi ns nk sv bk bm ts hd ne (hV.le (by omega)) hG (hH.le (by omega)) hb_ hvd hsv (hI.le (by omega)) _ _ hP hD hS ls (lv_sub hl [0, 1, 2, 3] rfl)
set_option maxHeartbeats 8000000 in
set_option maxRecDepth 100000 in
theorem law_drawn {p : Program} {l : Launch} {e : Env} {s : State} {m : MethodId} {below : List Frame} {meth : Method} {c : Code} {D : va_G} {k : Kt} {b L : Nat} {xs : Nat → Int32} (hL : L ≤ 3584) (C0 : lw_At p s m meth c b L xs) (hK : GW D k s) (x9 h0 c0 h8 h5 a5 h6 s6 p6 h9 s9 p9 h4 b4 e4 h2 h7 c7 hq aq d2 hh eo h3 i3 j3 k3 h1 im m0 m1 sd kp q0 qn qa qp qi qs qk qb qt qh qe : Nat) (r : Nat → Nat) (ii : Nat) (hii : ii + 7 ≤ L) (B : Int) (hBi : B ≤ 40 * ((ii : Nat) : Int)) (KK : ∀ (f : St) (z : (Nat → Int) × ((Nat → Nat) × (Nat → Nat) × Nat) × ((Nat → Nat) × (Nat → Nat) × Nat)) (ho : Nat → Int) (en : Nat → Int) (us : Nat) (g : St) (oq : Nat → Int) (dr : Nat → Int) (h : HT) (ba : Nat → Int) (bb : Nat → Int) (bd : Nat → Int) (bn : Nat) (vd : Int) (mm : Nat → St) (ms : Nat → Int) (mk : Nat → Int) (gg : St) (az : Nat → Int) (pa : Nat → Int) (de : Nat) (mi : Nat → Int) (ns : Nat → Int) (nk : Nat → Int) (sv : Int) (bk : Nat → Int) (bm : Nat) (ts : Nat → Int) (hd : Nat → Int) (ne : Nat → Int), Va (B + 40) f → Ag f gg → IvH (B + 40) h de pa → IvB ba bb bd bn bk bm → 0 ≤ vd ∧ vd < 2147483648 → sv = vd → IvI (B + 40) mm ms mk mi ns nk → ∀ (H : Heap) (locs : List Loc), va_P D vwCl (LWf k x9 h0 c0 h8 h5 a5 h6 s6 p6 h9 s9 p9 h4 b4 e4 h2 h7 c7 hq aq d2 hh eo h3 i3 j3 k3 h1 im m0 m1 sd kp q0 qn qa qp qi qs qk qb qt qh qe r f z ho en us g oq dr h ba bb bd bn vd mm ms mk gg az pa de mi ns nk sv bk bm ts hd ne) H → va_D (fun q : Nat => s.heap.size ≤ q) (LWf k x9 h0 c0 h8 h5 a5 h6 s6 p6 h9 s9 p9 h4 b4 e4 h2 h7 c7 hq aq d2 hh eo h3 i3 j3 k3 h1 im m0 m1 sd kp q0 qn qa qp qi qs qk qb qt qh qe r f z ho en us g oq dr h ba bb bd bn vd mm ms mk gg az pa de mi ns nk sv bk bm ts hd ne) → va_S (fun q : Nat => s.heap.size ≤ q) s.heap H locs → ∀ (ls : Array Slot), lv_has ls 4 [(0, .ref b), (1, .ref x9), (2, .ref q0), (3, .int (zI ((ii : Nat) : Int)))] → W p l e room_1 s m #[Value.ref b] below meth c H locs 64 6674 (lw_Z below #[Value.ref b] s) (F0 m 909 ls [])) : ∀ (f : St) (z : (Nat → Int) × ((Nat → Nat) × (Nat → Nat) × Nat) × ((Nat → Nat) × (Nat → Nat) × Nat)) (ho : Nat → Int) (en : Nat → Int) (us : Nat) (g : St) (oq : Nat → Int) (dr : Nat → Int) (h : HT) (ba : Nat → Int) (bb : Nat → Int) (bd : Nat → Int) (bn : Nat) (vd : Int) (mm : Nat → St) (ms : Nat → Int) (mk : Nat → Int) (gg : St) (az : Nat → Int) (pa : Nat → Int) (de : Nat) (mi : Nat → Int) (ns : Nat → Int) (nk : Nat → Int) (sv : Int) (bk : Nat → Int) (bm : Nat) (ts : Nat → Int) (hd : Nat → Int) (ne : Nat → Int), Va B f → Ag f gg → IvH B h de pa → IvB ba bb bd bn bk bm → 0 ≤ vd ∧ vd < 2147483648 → sv = vd → IvI B mm ms mk mi ns nk → ∀ (H : Heap) (locs : List Loc), va_P D vwCl (LWf k x9 h0 c0 h8 h5 a5 h6 s6 p6 h9 s9 p9 h4 b4 e4 h2 h7 c7 hq aq d2 hh eo h3 i3 j3 k3 h1 im m0 m1 sd kp q0 qn qa qp qi qs qk qb qt qh qe r f z ho en us g oq dr h ba bb bd bn vd mm ms mk gg az pa de mi ns nk sv bk bm ts hd ne) H → va_D (fun q : Nat => s.heap.size ≤ q) (LWf k x9 h0 c0 h8 h5 a5 h6 s6 p6 h9 s9 p9 h4 b4 e4 h2 h7 c7 hq aq d2 hh eo h3 i3 j3 k3 h1 im m0 m1 sd kp q0 qn qa qp qi qs qk qb qt qh qe r f z ho en us g oq dr h ba bb bd bn vd mm ms mk gg az pa de mi ns nk sv bk bm ts hd ne) → va_S (fun q : Nat => s.heap.size ≤ q) s.heap H locs → ∀ (ls : Array Slot), lv_has ls 4 [(0, .ref b), (1, .ref x9), (2, .ref q0), (3, .int (zI ((ii : Nat) : Int)))] → W p l e room_1 s m #[Value.ref b] below meth c H locs 64 6674 (lw_Z below #[Value.ref b] s) (F0 m 277 ls []) := by
  intro f z ho en us g oq dr h ba bb bd bn vd mm ms mk gg az pa de mi ns nk sv bk bm ts hd ne hV hG hH hb_ hvd hsv hI H locs hP hD hS ls hl
  obtain ⟨hx, hb, hr, hml, hown, hts0, hX, hbl, hlocks, hgv⟩ := C0
  have hts : ∀ w ∈ wsL_law, w.before #[Value.ref b] s = true := fun w hw => hts0 w (wsL_law_in w hw)
  have hSf : CallFix p m c cL_law 4 s #[Value.ref b] wsL_law RL := ⟨hx, hb, hml, hown, hts⟩
  have e0 : f 0 = gg 0 := hG.c (show 0 < 36 by decide)
  have en_ : nT f = nT gg := hG.n
  have hb20 := hb_.1.1
  have hbm := hb_.2.1
  have hh20 := hH.2.1
  have hde_ := hH.2.2.1
  have hnn := hV.n
  have hv00 := hV.1
  obtain ⟨x1, ex1⟩ : ∃ x, x = (xs (ii + 1)).toInt := ⟨_, rfl⟩
  have hx1 : -2147483648 ≤ x1 ∧ x1 < 2147483648 := by rw [ex1]; exact i32_rg _
  obtain ⟨x2, ex2⟩ : ∃ x, x = (xs (ii + 2)).toInt := ⟨_, rfl⟩
  have hx2 : -2147483648 ≤ x2 ∧ x2 < 2147483648 := by rw [ex2]; exact i32_rg _
  refine lv_aload_n hx hb dL_law_277 rfl (lv_at hl 1 rfl) ?_
  refine lv_aload_n hx hb dL_law_278 rfl (lv_at hl 0 rfl) ?_
  refine lv_iload_n hx hb dL_law_279 rfl (lv_at hl 3 rfl) ?_
  refine z_iconst hx hb dL_law_280 ?_
  refine z_iadd hx hb dL_law_281 ?_
  refine z_sld hx hb hX hbl hS (ii + 1) (by omega) ex1 (by omega) hL dL_law_282 ?_
  refine lv_aload_n hx hb dL_law_283 rfl (lv_at hl 0 rfl) ?_
  refine lv_iload_n hx hb dL_law_284 rfl (lv_at hl 3 rfl) ?_
  refine z_iconst hx hb dL_law_285 ?_
  refine z_iadd hx hb dL_law_286 ?_
  refine z_sld hx hb hX hbl hS (ii + 2) (by omega) ex2 (by omega) hL dL_law_287 ?_
  refine miV2 (base := LWb k x9 h0 c0 h8 h5 a5 h6 s6 p6 h9 s9 p9 h4 b4 e4 h2 h7 c7 hq aq d2 hh eo h3 i3 j3 k3 h1 im m0 m1 sd kp q0 qn qa qp qi qs qk qb qt qh qe r f (z.1, (z.2.1.1, z.2.1.2.1, z.2.1.2.2), (z.2.2.1, z.2.2.2.1, z.2.2.2.2)) ho en us g oq dr h ba bb bd bn vd mm ms mk gg az pa de mi ns nk sv bk bm ts hd ne) (Rw := rowsW k r h.2.2) (n := 2) (As := [.int (zI x1), .int (zI x2)]) (rest := []) hSf (c_drawn l D k x9 h0 c0 h8 h4 h2 hh h3 h1 im sd kp f B hV h5 a5 h6 s6 p6 h9 s9 p9 z (by omega) x1 x2 hx1 hx2) gL_law_X9_drawn rfl (by decide +kernel) ⟨Nat.le_of_ble_eq_true rfl, Nat.le_of_ble_eq_true rfl⟩ hK hP hD hS [0, 1, 2, 3, 4, 5, 6, 7, 8, 9, 10, 11] [12, 13, 14, 15, 16, 17, 18, 19, 20, 21, 22, 23, 24, 25, 26, 27, 28, 29, 30, 31, 32, 33, 34, 35, 36, 37, 38, 39, 40, 41, 42, 43] 44 (fun (u : (Nat → Int) × ((Nat → Nat) × (Nat → Nat) × Nat) × ((Nat → Nat) × (Nat → Nat) × Nat)) => LWb k x9 h0 c0 h8 h5 a5 h6 s6 p6 h9 s9 p9 h4 b4 e4 h2 h7 c7 hq aq d2 hh eo h3 i3 j3 k3 h1 im m0 m1 sd kp q0 qn qa qp qi qs qk qb qt qh qe r f (u.1, (u.2.1.1, u.2.1.2.1, u.2.1.2.2), (u.2.2.1, u.2.2.2.1, u.2.2.2.2)) ho en us g oq dr h ba bb bd bn vd mm ms mk gg az pa de mi ns nk sv bk bm ts hd ne) rfl (by decide) (fun _ => rfl) (fun _ => rfl) (fun _ => rfl) (by decide) (fun _ => rfl) 0 rfl rfl rfl hl.1 rfl (Nat.le_of_ble_eq_true rfl) dL_law_288 ⟨Nat.le_of_ble_eq_true rfl, Nat.le_of_ble_eq_true rfl⟩ (fun r_288 u_288 H locs h_288 hP hD hS => ?_)
  obtain ⟨he_288, h_288⟩ := h_288
  subst he_288
  refine lv_aload_n hx hb dL_law_291 rfl (lv_at hl 2 rfl) ?_
  refine lv_aload_n hx hb dL_law_292 rfl (lv_at hl 0 rfl) ?_
  refine lv_iload_n hx hb dL_law_293 rfl (lv_at hl 3 rfl) ?_
  refine z_iconst hx hb dL_law_294 ?_
  refine z_iadd hx hb dL_law_295 ?_
  refine z_sld hx hb hX hbl hS (ii + 1) (by omega) ex1 (by omega) hL dL_law_296 ?_
  refine lv_aload_n hx hb dL_law_297 rfl (lv_at hl 0 rfl) ?_
  refine lv_iload_n hx hb dL_law_298 rfl (lv_at hl 3 rfl) ?_
  refine z_iconst hx hb dL_law_299 ?_
  refine z_iadd hx hb dL_law_300 ?_
  refine z_sld hx hb hX hbl hS (ii + 2) (by omega) ex2 (by omega) hL dL_law_301 ?_
  refine roV2 (base := LWb k x9 h0 c0 h8 h5 a5 h6 s6 p6 h9 s9 p9 h4 b4 e4 h2 h7 c7 hq aq d2 hh eo h3 i3 j3 k3 h1 im m0 m1 sd kp q0 qn qa qp qi qs qk qb qt qh qe r f (u_288.1, (u_288.2.1.1, u_288.2.1.2.1, u_288.2.1.2.2), (u_288.2.2.1, u_288.2.2.2.1, u_288.2.2.2.2)) ho en us g oq dr h ba bb bd bn vd mm ms mk gg az pa de mi ns nk sv bk bm ts hd ne) (Rw := rowsW k r h.2.2) (n := 2) (As := [.int (zI x1), .int (zI x2)]) (rest := [.int (zI (vDrawn f x1 x2))]) hSf (m_drawn l D k q0 qn qa qp qi qs qk qb qt qh qe de sv bm gg B (hV.ag hG) (by omega) x1 x2 hx1 hx2) gL_law_X10_drawn rfl (by decide +kernel) ⟨Nat.le_of_ble_eq_true rfl, Nat.le_of_ble_eq_true rfl⟩ hK hP [33, 34] rfl 0 rfl rfl rfl hl.1 rfl (Nat.le_of_ble_eq_true rfl) dL_law_302 ⟨Nat.le_of_ble_eq_true rfl, Nat.le_of_ble_eq_true rfl⟩ (fun r_302 h_302 => ?_)
  subst h_302
  refine lv_icmp_eq (tgt := 909) hx hb dL_law_305 (by decide) (fun _ => ?_) (fun hne => absurd (zc (vDrawn_ag hG x1 x2)) hne)
  exact KK f (u_288.1, (u_288.2.1.1, u_288.2.1.2.1, u_288.2.1.2.2), (u_288.2.2.1, u_288.2.2.2.1, u_288.2.2.2.2)) ho en us g oq dr h ba bb bd bn vd mm ms mk gg az pa de mi ns nk sv bk bm ts hd ne (hV.le (by omega)) hG (hH.le (by omega)) hb_ hvd hsv (hI.le (by omega)) _ _ hP hD hS ls (lv_sub hl [0, 1, 2, 3] rfl)
set_option maxHeartbeats 8000000 in
set_option maxRecDepth 100000 in
theorem law_pictureRow {p : Program} {l : Launch} {e : Env} {s : State} {m : MethodId} {below : List Frame} {meth : Method} {c : Code} {D : va_G} {k : Kt} {b L : Nat} {xs : Nat → Int32} (hL : L ≤ 3584) (C0 : lw_At p s m meth c b L xs) (hK : GW D k s) (x9 h0 c0 h8 h5 a5 h6 s6 p6 h9 s9 p9 h4 b4 e4 h2 h7 c7 hq aq d2 hh eo h3 i3 j3 k3 h1 im m0 m1 sd kp q0 qn qa qp qi qs qk qb qt qh qe : Nat) (r : Nat → Nat) (ii : Nat) (hii : ii + 7 ≤ L) (B : Int) (hBi : B ≤ 40 * ((ii : Nat) : Int)) (KK : ∀ (f : St) (z : (Nat → Int) × ((Nat → Nat) × (Nat → Nat) × Nat) × ((Nat → Nat) × (Nat → Nat) × Nat)) (ho : Nat → Int) (en : Nat → Int) (us : Nat) (g : St) (oq : Nat → Int) (dr : Nat → Int) (h : HT) (ba : Nat → Int) (bb : Nat → Int) (bd : Nat → Int) (bn : Nat) (vd : Int) (mm : Nat → St) (ms : Nat → Int) (mk : Nat → Int) (gg : St) (az : Nat → Int) (pa : Nat → Int) (de : Nat) (mi : Nat → Int) (ns : Nat → Int) (nk : Nat → Int) (sv : Int) (bk : Nat → Int) (bm : Nat) (ts : Nat → Int) (hd : Nat → Int) (ne : Nat → Int), Va (B + 40) f → Ag f gg → IvH (B + 40) h de pa → IvB ba bb bd bn bk bm → 0 ≤ vd ∧ vd < 2147483648 → sv = vd → IvI (B + 40) mm ms mk mi ns nk → ∀ (H : Heap) (locs : List Loc), va_P D vwCl (LWf k x9 h0 c0 h8 h5 a5 h6 s6 p6 h9 s9 p9 h4 b4 e4 h2 h7 c7 hq aq d2 hh eo h3 i3 j3 k3 h1 im m0 m1 sd kp q0 qn qa qp qi qs qk qb qt qh qe r f z ho en us g oq dr h ba bb bd bn vd mm ms mk gg az pa de mi ns nk sv bk bm ts hd ne) H → va_D (fun q : Nat => s.heap.size ≤ q) (LWf k x9 h0 c0 h8 h5 a5 h6 s6 p6 h9 s9 p9 h4 b4 e4 h2 h7 c7 hq aq d2 hh eo h3 i3 j3 k3 h1 im m0 m1 sd kp q0 qn qa qp qi qs qk qb qt qh qe r f z ho en us g oq dr h ba bb bd bn vd mm ms mk gg az pa de mi ns nk sv bk bm ts hd ne) → va_S (fun q : Nat => s.heap.size ≤ q) s.heap H locs → ∀ (ls : Array Slot), lv_has ls 4 [(0, .ref b), (1, .ref x9), (2, .ref q0), (3, .int (zI ((ii : Nat) : Int)))] → W p l e room_1 s m #[Value.ref b] below meth c H locs 64 6674 (lw_Z below #[Value.ref b] s) (F0 m 909 ls [])) : ∀ (f : St) (z : (Nat → Int) × ((Nat → Nat) × (Nat → Nat) × Nat) × ((Nat → Nat) × (Nat → Nat) × Nat)) (ho : Nat → Int) (en : Nat → Int) (us : Nat) (g : St) (oq : Nat → Int) (dr : Nat → Int) (h : HT) (ba : Nat → Int) (bb : Nat → Int) (bd : Nat → Int) (bn : Nat) (vd : Int) (mm : Nat → St) (ms : Nat → Int) (mk : Nat → Int) (gg : St) (az : Nat → Int) (pa : Nat → Int) (de : Nat) (mi : Nat → Int) (ns : Nat → Int) (nk : Nat → Int) (sv : Int) (bk : Nat → Int) (bm : Nat) (ts : Nat → Int) (hd : Nat → Int) (ne : Nat → Int), Va B f → Ag f gg → IvH B h de pa → IvB ba bb bd bn bk bm → 0 ≤ vd ∧ vd < 2147483648 → sv = vd → IvI B mm ms mk mi ns nk → ∀ (H : Heap) (locs : List Loc), va_P D vwCl (LWf k x9 h0 c0 h8 h5 a5 h6 s6 p6 h9 s9 p9 h4 b4 e4 h2 h7 c7 hq aq d2 hh eo h3 i3 j3 k3 h1 im m0 m1 sd kp q0 qn qa qp qi qs qk qb qt qh qe r f z ho en us g oq dr h ba bb bd bn vd mm ms mk gg az pa de mi ns nk sv bk bm ts hd ne) H → va_D (fun q : Nat => s.heap.size ≤ q) (LWf k x9 h0 c0 h8 h5 a5 h6 s6 p6 h9 s9 p9 h4 b4 e4 h2 h7 c7 hq aq d2 hh eo h3 i3 j3 k3 h1 im m0 m1 sd kp q0 qn qa qp qi qs qk qb qt qh qe r f z ho en us g oq dr h ba bb bd bn vd mm ms mk gg az pa de mi ns nk sv bk bm ts hd ne) → va_S (fun q : Nat => s.heap.size ≤ q) s.heap H locs → ∀ (ls : Array Slot), lv_has ls 4 [(0, .ref b), (1, .ref x9), (2, .ref q0), (3, .int (zI ((ii : Nat) : Int)))] → W p l e room_1 s m #[Value.ref b] below meth c H locs 64 6674 (lw_Z below #[Value.ref b] s) (F0 m 310 ls []) := by
  intro f z ho en us g oq dr h ba bb bd bn vd mm ms mk gg az pa de mi ns nk sv bk bm ts hd ne hV hG hH hb_ hvd hsv hI H locs hP hD hS ls hl
  obtain ⟨hx, hb, hr, hml, hown, hts0, hX, hbl, hlocks, hgv⟩ := C0
  have hts : ∀ w ∈ wsL_law, w.before #[Value.ref b] s = true := fun w hw => hts0 w (wsL_law_in w hw)
  have hSf : CallFix p m c cL_law 4 s #[Value.ref b] wsL_law RL := ⟨hx, hb, hml, hown, hts⟩
  have e0 : f 0 = gg 0 := hG.c (show 0 < 36 by decide)
  have en_ : nT f = nT gg := hG.n
  have hb20 := hb_.1.1
  have hbm := hb_.2.1
  have hh20 := hH.2.1
  have hde_ := hH.2.2.1
  have hnn := hV.n
  have hv00 := hV.1
  obtain ⟨x1, ex1⟩ : ∃ x, x = (xs (ii + 1)).toInt := ⟨_, rfl⟩
  have hx1 : -2147483648 ≤ x1 ∧ x1 < 2147483648 := by rw [ex1]; exact i32_rg _
  obtain ⟨x2, ex2⟩ : ∃ x, x = (xs (ii + 2)).toInt := ⟨_, rfl⟩
  have hx2 : -2147483648 ≤ x2 ∧ x2 < 2147483648 := by rw [ex2]; exact i32_rg _
  refine lv_aload_n hx hb dL_law_310 rfl (lv_at hl 1 rfl) ?_
  refine lv_aload_n hx hb dL_law_311 rfl (lv_at hl 0 rfl) ?_
  refine lv_iload_n hx hb dL_law_312 rfl (lv_at hl 3 rfl) ?_
  refine z_iconst hx hb dL_law_313 ?_
  refine z_iadd hx hb dL_law_314 ?_
  refine z_sld hx hb hX hbl hS (ii + 1) (by omega) ex1 (by omega) hL dL_law_315 ?_
  refine lv_aload_n hx hb dL_law_316 rfl (lv_at hl 0 rfl) ?_
  refine lv_iload_n hx hb dL_law_317 rfl (lv_at hl 3 rfl) ?_
  refine z_iconst hx hb dL_law_318 ?_
  refine z_iadd hx hb dL_law_319 ?_
  refine z_sld hx hb hX hbl hS (ii + 2) (by omega) ex2 (by omega) hL dL_law_320 ?_
  refine roV2 (base := LWb k x9 h0 c0 h8 h5 a5 h6 s6 p6 h9 s9 p9 h4 b4 e4 h2 h7 c7 hq aq d2 hh eo h3 i3 j3 k3 h1 im m0 m1 sd kp q0 qn qa qp qi qs qk qb qt qh qe r f (z.1, (z.2.1.1, z.2.1.2.1, z.2.1.2.2), (z.2.2.1, z.2.2.2.1, z.2.2.2.2)) ho en us g oq dr h ba bb bd bn vd mm ms mk gg az pa de mi ns nk sv bk bm ts hd ne) (Rw := rowsW k r h.2.2) (n := 2) (As := [.int (zI x1), .int (zI x2)]) (rest := []) hSf (c_pictureRow l D k x9 h0 c0 h8 h4 h2 hh h3 h1 im sd kp f B hV x1 x2 hx1 hx2) gL_law_X9_pictureRow rfl (by decide +kernel) ⟨Nat.le_of_ble_eq_true rfl, Nat.le_of_ble_eq_true rfl⟩ hK hP [0, 1, 2] rfl 0 rfl rfl rfl hl.1 rfl (Nat.le_of_ble_eq_true rfl) dL_law_321 ⟨Nat.le_of_ble_eq_true rfl, Nat.le_of_ble_eq_true rfl⟩ (fun r_321 h_321 => ?_)
  subst h_321
  refine lv_aload_n hx hb dL_law_324 rfl (lv_at hl 2 rfl) ?_
  refine lv_aload_n hx hb dL_law_325 rfl (lv_at hl 0 rfl) ?_
  refine lv_iload_n hx hb dL_law_326 rfl (lv_at hl 3 rfl) ?_
  refine z_iconst hx hb dL_law_327 ?_
  refine z_iadd hx hb dL_law_328 ?_
  refine z_sld hx hb hX hbl hS (ii + 1) (by omega) ex1 (by omega) hL dL_law_329 ?_
  refine lv_aload_n hx hb dL_law_330 rfl (lv_at hl 0 rfl) ?_
  refine lv_iload_n hx hb dL_law_331 rfl (lv_at hl 3 rfl) ?_
  refine z_iconst hx hb dL_law_332 ?_
  refine z_iadd hx hb dL_law_333 ?_
  refine z_sld hx hb hX hbl hS (ii + 2) (by omega) ex2 (by omega) hL dL_law_334 ?_
  refine roV2 (base := LWb k x9 h0 c0 h8 h5 a5 h6 s6 p6 h9 s9 p9 h4 b4 e4 h2 h7 c7 hq aq d2 hh eo h3 i3 j3 k3 h1 im m0 m1 sd kp q0 qn qa qp qi qs qk qb qt qh qe r f (z.1, (z.2.1.1, z.2.1.2.1, z.2.1.2.2), (z.2.2.1, z.2.2.2.1, z.2.2.2.2)) ho en us g oq dr h ba bb bd bn vd mm ms mk gg az pa de mi ns nk sv bk bm ts hd ne) (Rw := rowsW k r h.2.2) (n := 2) (As := [.int (zI x1), .int (zI x2)]) (rest := [.int (zI (vPic f x1 x2))]) hSf (m_pictureRow l D k q0 qn qa qp qi qs qk qb qt qh qe de sv bm gg B (hV.ag hG) (by omega) x1 x2 hx1 hx2) gL_law_X10_pictureRow rfl (by decide +kernel) ⟨Nat.le_of_ble_eq_true rfl, Nat.le_of_ble_eq_true rfl⟩ hK hP [33, 34] rfl 0 rfl rfl rfl hl.1 rfl (Nat.le_of_ble_eq_true rfl) dL_law_335 ⟨Nat.le_of_ble_eq_true rfl, Nat.le_of_ble_eq_true rfl⟩ (fun r_335 h_335 => ?_)
  subst h_335
  refine lv_icmp_eq (tgt := 909) hx hb dL_law_338 (by decide) (fun _ => ?_) (fun hne => absurd (zc (vPic_ag hG x1 x2)) hne)
  exact KK f (z.1, (z.2.1.1, z.2.1.2.1, z.2.1.2.2), (z.2.2.1, z.2.2.2.1, z.2.2.2.2)) ho en us g oq dr h ba bb bd bn vd mm ms mk gg az pa de mi ns nk sv bk bm ts hd ne (hV.le (by omega)) hG (hH.le (by omega)) hb_ hvd hsv (hI.le (by omega)) _ _ hP hD hS ls (lv_sub hl [0, 1, 2, 3] rfl)
