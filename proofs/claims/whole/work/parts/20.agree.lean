/-! TWO ROWS THAT ARE ONE SCENE: they agree as far as THINGS go -/
def Ag (f g : St) : Prop := ∀ i, i < 36 + 8 * nT f → f i = g i
theorem Ag.n {f g : St} (h : Ag f g) : nT f = nT g := by unfold nT; rw [h 0 (by omega)]
theorem Ag.rf (f : St) : Ag f f := fun _ _ => rfl
theorem Ag.sy {f g : St} (h : Ag f g) : Ag g f := fun i hi => (h i (by rw [h.n]; exact hi)).symm
theorem Ag.tr {f g k : St} (h : Ag f g) (h2 : Ag g k) : Ag f k := fun i hi => (h i hi).trans (h2 i (by rw [← h.n]; exact hi))
theorem Ag.c {f g : St} (h : Ag f g) {i : Nat} (hi : i < 36) : f i = g i := h i (by omega)
theorem Ag.th {f g : St} (h : Ag f g) {t w : Nat} (ht : t < nT f) (hw : w < 8) : th f t w = th g t w := h _ (by omega)
theorem Va.ag {f g : St} {B : Int} (hV : Va B f) (h : Ag f g) : Va B g := by
  refine ⟨by rw [← h.c (by decide)]; exact hV.1, by rw [← h.c (by decide)]; exact hV.2.1, by rw [← h.c (by decide)]; exact hV.2.2.1, by rw [← h.c (by decide)]; exact hV.2.2.2.1, fun j h1 h2 => by rw [← h.c h2]; exact hV.p h1 h2, fun t ht => ?_⟩
  rw [← h.n] at ht
  rw [← h.th ht (by decide), ← h.th ht (by decide), ← h.th ht (by decide), ← h.th ht (by decide), ← h.th ht (by decide), ← h.th ht (by decide), ← h.th ht (by decide), ← h.th ht (by decide)]
  exact hV.t ht
theorem Va.le {f : St} {B B2 : Int} (h : Va B f) (hB : B ≤ B2) : Va B2 f := ⟨h.1, h.2.1, h.2.2.1, ⟨h.2.2.2.1.1, by have := h.2.2.2.1.2; omega⟩, h.2.2.2.2⟩
theorem onL_ag {f g : St} (h : Ag f g) {t : Nat} (ht : t < nT f) (L : Nat) : onL f t L = onL g t L := by unfold onL; rw [h.th ht (by decide)]
theorem onS_ag {f g : St} (h : Ag f g) (L : Nat) : onS f L = onS g L := by
  unfold onS
  rw [← h.n]
  exact setP_cong (fun i hi => onL_ag h hi L)
theorem key_ag {f g : St} (h : Ag f g) {t : Nat} (ht : t < nT f) : key f t = key g t := by unfold key; rw [h.th ht (by decide)]
theorem on_r {f : St} {t L : Nat} (h : onL f t L = true) : 0 ≤ (L : Int) - th f t 1 ∧ (L : Int) - th f t 1 ≤ 7 := by simpa [onL] using h
theorem dotsN_ag {f g : St} {B : Int} (hV : Va B f) (h : Ag f g) {t : Nat} (ht : t < nT f) (L : Nat) : dotsN f t L = dotsN g t L := by
  unfold dotsN
  rw [← onL_ag h ht, ← h.th ht (by decide)]
  by_cases q : onL f t L = true
  · rw [if_pos q, if_pos q]
    have e : rowN f t L = rowN g t L := by
      have hr := on_r q
      have hv := hV.t ht
      simp only [rowN]
      rw [← h.th ht (by decide), ← h.th ht (by decide), ← h.th ht (by decide)]
      have e2 : ∀ i, i < 8 → f (4 + 8 * (th f t 2).toNat + i) = g (4 + 8 * (th f t 2).toNat + i) := fun i hi => h.c (by omega)
      have e3 : f (4 + 8 * (th f t 2).toNat + if (th f t 3).toNat &&& 2 = 0 then ((L : Int) - th f t 1).toNat else 7 - ((L : Int) - th f t 1).toNat) = g (4 + 8 * (th f t 2).toNat + if (th f t 3).toNat &&& 2 = 0 then ((L : Int) - th f t 1).toNat else 7 - ((L : Int) - th f t 1).toNat) := e2 _ (by split <;> omega)
      rw [e3]
    rw [e]
  · rw [if_neg q, if_neg q]
theorem ahd_ag {f g : St} (h : Ag f g) (ru : Int) {a b : Nat} (ha : a < nT f) (hb : b < nT f) : ahd f ru a b = ahd g ru a b := by
  unfold ahd
  rw [h.c (show 3 < 36 by decide), h.c (show 0 < 36 by decide), h.th ha (by decide), h.th hb (by decide)]
theorem rank_ag {f g : St} (h : Ag f g) (ru : Int) (L : Nat) {t : Nat} (ht : t < nT f) : rank f ru L t = rank g ru L t := by
  unfold rank
  rw [← h.n]
  exact ct_cong (fun u hu => by rw [onL_ag h hu, ahd_ag h ru hu ht])
theorem drS_ag {f g : St} (h : Ag f g) (ru lim : Int) (L : Nat) : drS f ru lim L = drS g ru lim L := by
  unfold drS
  rw [← h.n]
  exact setP_cong (fun u hu => by unfold drP; rw [onL_ag h hu, rank_ag h ru L hu])
theorem dN_ag {f g : St} (h : Ag f g) (L : Nat) : dN f L = dN g L := by
  unfold dN
  rw [drS_ag h, h.c (show 1 < 36 by decide), h.c (show 2 < 36 by decide)]
theorem TopI_ag {f g : St} {B : Int} (hV : Va B f) (h : Ag f g) {S L cl : Nat} {r : Int} (q : TopI f S L cl r) : TopI g S L cl r := by
  have hn := h.n
  rcases q with ⟨e, q⟩ | ⟨t, ht, e, q1, q2, q3⟩
  · exact Or.inl ⟨e, fun u hu a b => q u (by omega) a (by rw [dotsN_ag hV h (by omega)]; exact b)⟩
  · refine Or.inr ⟨t, by omega, e, q1, by rw [← dotsN_ag hV h ht]; exact q2, fun u hu a b => ?_⟩
    rw [← key_ag h ht, ← key_ag h (show u < nT f by omega)]
    exact q3 u (by omega) a (by rw [dotsN_ag hV h (by omega)]; exact b)
theorem seenA_ag {f g : St} {B : Int} (hV : Va B f) (h : Ag f g) (S L cl : Nat) : seenA f S L cl = seenA g S L cl := seenA_eq (hV.ag h).n.2 (TopI_ag hV h (seenA_ex hV S L cl))
theorem colA_ag {f g : St} {B : Int} (hV : Va B f) (h : Ag f g) (S L cl : Nat) : colA f S L cl = colA g S L cl := by
  unfold colA
  rw [← seenA_ag hV h]
  by_cases q : seenA f S L cl = -1
  · rw [if_pos q, if_pos q]
  · rw [if_neg q, if_neg q]
    have := seenA_rg hV S L cl
    exact h.th (by omega) (by decide)
theorem misL_ag {f g : St} {B : Int} (hV : Va B f) (h : Ag f g) (ru : Int) (L : Nat) : misL f ru L = misL g ru L := by
  unfold misL
  rw [h.c (show 1 < 36 by decide), drS_ag h, onS_ag h]
  split
  · rfl
  · exact ct_cong (fun cl _ => by rw [colA_ag hV h, colA_ag hV h])
theorem misF_ag {f g : St} {B : Int} (hV : Va B f) (h : Ag f g) (ru : Int) : misF f ru = misF g ru := sm_cong (fun L _ => misL_ag hV h ru L)
theorem brk_ag {f g : St} {B : Int} (hV : Va B f) (h : Ag f g) : ∀ j, brk f j = brk g j
  | 0 => by rw [brk, brk, misF_ag hV h]
  | j + 1 => by rw [brk, brk, misF_ag hV h, brk_ag hV h j]
theorem enN_ag {f g : St} (h : Ag f g) : ∀ j, enN f j = enN g j
  | 0 => rfl
  | j + 1 => by rw [enN, enN, enN_ag h j, onS_ag h]
theorem fillL_ag {f g : St} {B : Int} (hV : Va B f) (h : Ag f g) (L : Nat) : fillL f L = fillL g L := by
  unfold fillL
  rw [dN_ag h]
  exact ct_cong (fun cl _ => by rw [seenA_ag hV h])
theorem seeL_ag {f g : St} {B : Int} (hV : Va B f) (h : Ag f g) (t L : Nat) : seeL f t L = seeL g t L := by
  unfold seeL
  rw [dN_ag h]
  exact ct_cong (fun cl _ => by rw [seenA_ag hV h])
theorem covL_ag {f g : St} {B : Int} (hV : Va B f) (h : Ag f g) {t : Nat} (ht : t < nT f) (L : Nat) : covL f t L = covL g t L := by
  unfold covL
  rw [dN_ag h]
  split
  · exact ct_cong (fun cl _ => by rw [seenA_ag hV h, dotsN_ag hV h ht])
  · rfl
theorem drpS_ag {f g : St} (h : Ag f g) {t : Nat} (ht : t < nT f) : drpS f t = drpS g t := setP_cong (fun L _ => by rw [onL_ag h ht, dN_ag h])
theorem tchN_ag {f g : St} {B : Int} (hV : Va B f) (h : Ag f g) {t : Nat} (ht : t < nT f) (L S : Nat) : tchN f L S t = tchN g L S t := by
  unfold tchN
  rw [← h.n]
  split
  · exact setP_cong (fun u hu => by rw [dotsN_ag hV h ht, dotsN_ag hV h hu])
  · rfl
theorem orS_cong {F G : Nat → Nat} : ∀ {n : Nat}, (∀ i, i < n → F i = G i) → orS F n = orS G n
  | 0, _ => rfl
  | n + 1, h => by rw [orS, orS, orS_cong (fun i hi => h i (by omega)), h n (by omega)]
theorem nextZ_n (f : St) : nT (nextZ f) = nT f := by unfold nT nextZ; rw [nz_c _ _ _ (by decide)]
theorem nextZ_ag {f g : St} (h : Ag f g) : Ag (nextZ f) (nextZ g) := by
  intro i hi
  rw [nextZ_n] at hi
  have e : ∀ t, t < nT f → gx f t = gx g t ∧ gy f t = gy g t := fun t ht => by
    unfold gx gy
    rw [h.th ht (by decide), h.th ht (by decide), h.th ht (by decide), h.th ht (by decide)]
    exact ⟨rfl, rfl⟩
  unfold nextZ nz
  rw [← h.n]
  by_cases q1 : i = 3
  · rw [if_pos q1, if_pos q1, h.c (by decide)]
  · rw [if_neg q1, if_neg q1]
    by_cases q2 : 36 ≤ i ∧ i < 36 + 8 * nT f ∧ i % 8 = 4
    · rw [if_pos q2, if_pos q2, (e _ (by omega)).1]
    · rw [if_neg q2, if_neg q2]
      by_cases q3 : 36 ≤ i ∧ i < 36 + 8 * nT f ∧ i % 8 = 5
      · rw [if_pos q3, if_pos q3, (e _ (by omega)).2]
      · rw [if_neg q3, if_neg q3, h i hi]
theorem nextZ_0 {f : St} {t : Nat} (ht : t < nT f) : th (nextZ f) t 0 = gx f t := by
  unfold th nextZ nz
  rw [if_neg (by omega), if_pos (by omega), show (36 + 8 * t + 0 - 36) / 8 = t by omega]
theorem nextZ_1 {f : St} {t : Nat} (ht : t < nT f) : th (nextZ f) t 1 = gy f t := by
  unfold th nextZ nz
  rw [if_neg (by omega), if_neg (by omega), if_pos (by omega), show (36 + 8 * t + 1 - 36) / 8 = t by omega]
theorem nextZ_va {f : St} {B : Int} (hV : Va B f) : Va (B + 1) (nextZ f) := by
  have e : ∀ i, i < 36 → i ≠ 3 → nextZ f i = f i := fun i hi h3 => by
    unfold nextZ nz
    rw [if_neg h3, if_neg (by omega), if_neg (by omega)]
  have e3 : nextZ f 3 = f 3 + 1 := by unfold nextZ nz; rw [if_pos rfl]
  refine ⟨by rw [e 0 (by decide) (by decide)]; exact hV.1, by rw [e 1 (by decide) (by decide)]; exact hV.2.1, by rw [e 2 (by decide) (by decide)]; exact hV.2.2.1, by rw [e3]; have := hV.2.2.2.1; omega, fun j h1 h2 => by rw [e j h2 (by omega)]; exact hV.p h1 h2, fun t ht => ?_⟩
  rw [nextZ_n] at ht
  have hv := hV.t ht
  rw [nextZ_0 ht, nextZ_1 ht, show nextZ f = nz f (nT f) from rfl, nz_th (by decide) (Or.inr (by decide)), nz_th (by decide) (Or.inr (by decide)), nz_th (by decide) (Or.inr (by decide)), nz_th (by decide) (Or.inr (by decide)), nz_th (by decide) (Or.inr (by decide)), nz_th (by decide) (Or.inr (by decide))]
  refine ⟨?_, ?_, hv.2.2⟩
  · unfold gx; omega
  · unfold gy; omega
/-- n FRAMES on -/
def itZ (f : St) : Nat → St
  | 0 => f
  | j + 1 => nextZ (itZ f j)
theorem itZ_va {f : St} {B : Int} (hV : Va B f) : ∀ j : Nat, Va (B + j) (itZ f j)
  | 0 => by rw [itZ]; exact hV.le (by omega)
  | j + 1 => by rw [itZ]; exact (nextZ_va (itZ_va hV j)).le (by omega)
theorem itZ_ag {f g : St} (h : Ag f g) : ∀ j, Ag (itZ f j) (itZ g j)
  | 0 => h
  | j + 1 => nextZ_ag (itZ_ag h j)
theorem itZ_n (f : St) : ∀ j, nT (itZ f j) = nT f
  | 0 => rfl
  | j + 1 => by rw [itZ, nextZ_n, itZ_n f j]
/-- DROPPED on a LINE, as bits; on how many LINES -/
def dpB (f : St) (L t : Nat) : Bool := (onS f L).testBit t && !(dN f L).testBit t
def cdN (f : St) (t : Nat) : Nat := ct (fun q => dpB f q t) 24
theorem cdN_ag {f g : St} (h : Ag f g) (t : Nat) : cdN f t = cdN g t := ct_cong (fun q _ => by unfold dpB; rw [onS_ag h, dN_ag h])
theorem cdN_le (f : St) (t : Nat) : cdN f t ≤ 24 := ct_le _ _
def lefN (f : St) (n t : Nat) : Nat := sm (fun i => cdN (itZ f i) t) n
theorem lefN_ag {f g : St} (h : Ag f g) (n t : Nat) : lefN f n t = lefN g n t := sm_cong (fun i _ => cdN_ag (itZ_ag h i) t)
theorem cdN_out {f : St} {t : Nat} (ht : nT f ≤ t) : cdN f t = 0 := ct_zero (fun q _ => by unfold dpB onS; rw [setP_bit, decide_eq_false (by omega)]; rfl)
theorem lefN_out {f : St} {n t : Nat} (ht : nT f ≤ t) : lefN f n t = 0 := by
  unfold lefN
  rw [sm_cong (G := fun _ => 0) (fun i _ => cdN_out (by rw [itZ_n]; exact ht)), sm_zero]
theorem lefN_le (f : St) (n t : Nat) : lefN f n t ≤ n * 24 := sm_le (fun i => cdN_le _ t) n
theorem cpZ_ag {f g : St} {B : Int} (hV : Va B f) : Ag f (cpZ f g 0 0 132) := by
  intro i hi
  have := hV.n
  rw [cpZ_in (by omega) (by omega), Nat.zero_add, Nat.sub_zero]
/-- the first of most LEFT OUT -/
def wsT (F : Nat → Nat) : Nat → Int × Nat
  | 0 => (-1, 0)
  | j + 1 => if (wsT F j).2 < F j then ((j : Int), F j) else wsT F j
theorem wsT_t {F : Nat → Nat} {j : Nat} (h : (wsT F j).2 < F j) : wsT F (j + 1) = ((j : Int), F j) := by rw [wsT, if_pos h]
theorem wsT_f {F : Nat → Nat} {j : Nat} (h : ¬ (wsT F j).2 < F j) : wsT F (j + 1) = wsT F j := by rw [wsT, if_neg h]
theorem wsT_le {F : Nat → Nat} {b : Nat} (h : ∀ i, F i ≤ b) : ∀ j, (wsT F j).2 ≤ b
  | 0 => Nat.zero_le _
  | j + 1 => by
    rw [wsT]
    split
    · exact h j
    · exact wsT_le h j
theorem wsT_cong {F G : Nat → Nat} : ∀ {n : Nat}, (∀ i, i < n → F i = G i) → wsT F n = wsT G n
  | 0, _ => rfl
  | n + 1, h => by rw [wsT, wsT, wsT_cong (fun i hi => h i (by omega)), h n (by omega)]
theorem wsT_0 {F : Nat → Nat} {n : Nat} (h : ∀ i, n ≤ i → F i = 0) : ∀ d, wsT F (n + d) = wsT F n
  | 0 => rfl
  | d + 1 => by rw [← Nat.add_assoc, wsT_f (by rw [h _ (by omega)]; omega), wsT_0 h d]
theorem wsT_rg (F : Nat → Nat) : ∀ j, -1 ≤ (wsT F j).1 ∧ (wsT F j).1 < j
  | 0 => by rw [wsT]; omega
  | j + 1 => by
    have := wsT_rg F j
    rw [wsT]
    split
    · dsimp only; omega
    · omega
