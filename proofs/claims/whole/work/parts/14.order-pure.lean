/-! WHO STANDS AHEAD, who is DRAWN; the order's row as a way through all THINGS -/
def ahd (f : St) (ru : Int) (a b : Nat) : Bool :=
  if ru = 0 then decide (a < b) else if ru = 1 then decide (b < a) else if ru = 2 then decide (((a : Int) - f 3 % f 0 + f 0) % f 0 < ((b : Int) - f 3 % f 0 + f 0) % f 0)
  else decide (th f a 4 < th f b 4) || (decide (th f a 4 = th f b 4) && decide (a < b))
def rank (f : St) (ru : Int) (L t : Nat) : Nat := ct (fun u => decide (u ≠ t) && onL f u L && ahd f ru u t) (nT f)
def drP (f : St) (ru lim : Int) (L t : Nat) : Bool := onL f t L && decide ((rank f ru L t : Int) < lim)
def drS (f : St) (ru lim : Int) (L : Nat) : Nat := setP (fun u => drP f ru lim L u) (nT f)
def OrdOK (f : St) (ru : Int) (o : Nat → Int) : Prop := (∀ i, i < nT f → 0 ≤ o i ∧ o i < nT f) ∧ ∀ i j, i < nT f → j < nT f → ahd f ru (o i).toNat (o j).toNat = decide (i < j)
theorem OrdOK.inj {f : St} {ru : Int} {o : Nat → Int} (h : OrdOK f ru o) {i j : Nat} (hi : i < nT f) (hj : j < nT f) (e : (o i).toNat = (o j).toNat) : i = j := by
  have h1 := h.2 i j hi hj
  have h2 := h.2 j i hj hi
  have h3 := h.2 i i hi hi
  rw [← e] at h1
  rw [h3] at h1
  rw [← e, h3] at h2
  have a1 := decide_eq_decide.mp h1
  have a2 := decide_eq_decide.mp h2
  omega
-- from the kit's texts to paste (COUNTS): drawers
theorem fb_holes : ∀ (m n : Nat) (f : Nat → Nat), (∀ i, i < n → f i < m) → (∀ i j, i < j → j < n → f i ≠ f j) → n ≤ m := by
  intro m
  induction m with
  | zero =>
    intro n f h1 _
    rcases Nat.eq_zero_or_pos n with h | h
    · omega
    · exact absurd (h1 0 h) (Nat.not_lt_zero _)
  | succ m ih =>
    intro n f h1 h2
    by_cases hx : ∃ i, i < n ∧ f i = m
    · obtain ⟨a, ha, hfa⟩ := hx
      have hg := ih (n - 1) (fun i => if i < a then f i else f (i + 1)) (by
        intro i hi
        by_cases q : i < a
        · simp only [if_pos q]
          have b1 := h1 i (by omega)
          have b2 := h2 i a q ha
          omega
        · simp only [if_neg q]
          have b1 := h1 (i + 1) (by omega)
          have b2 := h2 a (i + 1) (by omega) (by omega)
          omega) (by
        intro i j hij hj
        by_cases q : i < a
        · by_cases r : j < a
          · simp only [if_pos q, if_pos r]
            exact h2 i j hij (by omega)
          · simp only [if_pos q, if_neg r]
            exact h2 i (j + 1) (by omega) (by omega)
        · have r : ¬ j < a := by omega
          simp only [if_neg q, if_neg r]
          exact h2 (i + 1) (j + 1) (by omega) (by omega))
      omega
    · have hg := ih n f (fun i hi => by
        have b1 := h1 i hi
        have b2 : f i ≠ m := fun e => hx ⟨i, hi, e⟩
        omega) h2
      omega
/-- two of them in one place -/
theorem fb_twice {m n : Nat} {f : Nat → Nat} (h : ∀ i, i < n → f i < m) (hm : m < n) : ∃ i j, i < j ∧ j < n ∧ f i = f j := by
  refine Classical.byContradiction fun hx => ?_
  have := fb_holes m n f h (fun i j hij hj e => hx ⟨i, j, hij, hj, e⟩)
  omega
/-- as many as places, none twice: each place is taken -/
theorem fb_onto {n : Nat} {f : Nat → Nat} (h : ∀ i, i < n → f i < n) (h2 : ∀ i j, i < j → j < n → f i ≠ f j) {y : Nat} (hy : y < n) : ∃ i, i < n ∧ f i = y := by
  refine Classical.byContradiction fun hx => ?_
  have hne : ∀ i, i < n → f i ≠ y := fun i hi e => hx ⟨i, hi, e⟩
  have := fb_holes (n - 1) n (fun i => if f i < y then f i else f i - 1) (by
    intro i hi
    have b1 := h i hi
    have b2 := hne i hi
    by_cases q : f i < y
    · simp only [if_pos q]; omega
    · simp only [if_neg q]; omega) (by
    intro i j hij hj
    have b1 := hne i (by omega)
    have b2 := hne j hj
    have b3 := h2 i j hij hj
    by_cases q : f i < y
    · by_cases r : f j < y
      · simp only [if_pos q, if_pos r]; exact b3
      · simp only [if_pos q, if_neg r]; omega
    · by_cases r : f j < y
      · simp only [if_neg q, if_pos r]; omega
      · simp only [if_neg q, if_neg r]; omega)
  omega

def sm (F : Nat → Nat) : Nat → Nat
  | 0 => 0
  | n + 1 => sm F n + F n
theorem sm_cong {F G : Nat → Nat} : ∀ {n : Nat}, (∀ i, i < n → F i = G i) → sm F n = sm G n
  | 0, _ => rfl
  | n + 1, h => by rw [sm, sm, sm_cong (fun i hi => h i (by omega)), h n (by omega)]
theorem sm_zero (n : Nat) : sm (fun _ => 0) n = 0 := by
  induction n with
  | zero => rfl
  | succ n ih => rw [sm, ih]
theorem sm_add (F G : Nat → Nat) : ∀ n, sm (fun i => F i + G i) n = sm F n + sm G n
  | 0 => rfl
  | n + 1 => by rw [sm, sm, sm, sm_add F G n]; omega
theorem sm_swap (F : Nat → Nat → Nat) (n : Nat) : ∀ m, sm (fun a => sm (fun b => F a b) n) m = sm (fun b => sm (fun a => F a b) m) n
  | 0 => by rw [sm]; exact (sm_zero n).symm
  | m + 1 => by
    rw [sm, sm_swap F n m, ← sm_add]
    rfl
theorem sm_one {g : Nat → Nat} {v : Nat} : ∀ {n : Nat}, v < n → sm (fun u => if u = v then g u else 0) n = g v
  | 0, h => absurd h (Nat.not_lt_zero _)
  | n + 1, h => by
    rw [sm]
    by_cases e : n = v
    · subst e
      rw [if_pos rfl, sm_cong (G := fun _ => 0) (fun i hi => if_neg (by omega)), sm_zero, Nat.zero_add]
    · rw [if_neg e, sm_one (by omega), Nat.add_zero]
theorem ct_sm (P : Nat → Bool) : ∀ n, ct P n = sm (fun u => (P u).toNat) n
  | 0 => rfl
  | n + 1 => by rw [ct, sm, ct_sm P n]
theorem ct_perm {n : Nat} {o : Nat → Nat} (h1 : ∀ i, i < n → o i < n) (h2 : ∀ i j, i < n → j < n → o i = o j → i = j) (P : Nat → Bool) : ct (fun j => P (o j)) n = ct P n := by
  rw [ct_sm, ct_sm]
  have e1 : sm (fun u => (P u).toNat) n = sm (fun u => sm (fun j => if u = o j then (P u).toNat else 0) n) n := by
    apply sm_cong
    intro u hu
    obtain ⟨j0, hj0, rfl⟩ := fb_onto h1 (fun i j hij hj e => absurd (h2 i j (by omega) hj e) (by omega)) hu
    rw [sm_cong (G := fun j => if j = j0 then (P (o j0)).toNat else 0) (fun j hj => ?_), sm_one (g := fun _ => (P (o j0)).toNat) hj0]
    by_cases e : j = j0
    · subst e; rw [if_pos rfl, if_pos rfl]
    · rw [if_neg e, if_neg (fun q => e (h2 j j0 hj hj0 q.symm))]
  rw [e1, sm_swap]
  apply sm_cong
  intro j hj
  exact (sm_one (g := fun u => (P u).toNat) (h1 j hj)).symm
theorem ct_cut (P : Nat → Bool) {i n : Nat} (h : i ≤ n) : ct (fun j => P j && decide (j < i)) n = ct P i := by
  obtain ⟨d, rfl⟩ := Nat.exists_eq_add_of_le h
  rw [ct_split, ct_zero (p := fun j => P (i + j) && decide (i + j < i)) (fun j _ => by rw [decide_eq_false (by omega), Bool.and_false])]
  exact ct_cong (fun j hj => by rw [decide_eq_true hj, Bool.and_true])
theorem ct_mono (P : Nat → Bool) {a b : Nat} (h : a ≤ b) : ct P a ≤ ct P b := by
  obtain ⟨d, rfl⟩ := Nat.exists_eq_add_of_le h
  rw [ct_split]
  omega
theorem rank_o {f : St} {ru : Int} {o : Nat → Int} (h : OrdOK f ru o) {L i : Nat} (hi : i < nT f) : rank f ru L (o i).toNat = ct (fun j => onL f (o j).toNat L) i := by
  unfold rank
  rw [← ct_perm (o := fun j => (o j).toNat) (fun j hj => by have := h.1 j hj; omega) (fun a b ha hb e => h.inj ha hb e) (fun u => decide (u ≠ (o i).toNat) && onL f u L && ahd f ru u (o i).toNat), ← ct_cut _ (Nat.le_of_lt hi)]
  apply ct_cong
  intro j hj
  show (decide ((o j).toNat ≠ (o i).toNat) && onL f (o j).toNat L && ahd f ru (o j).toNat (o i).toNat) = _
  rw [h.2 j i hj hi]
  by_cases e : j < i
  · rw [decide_eq_true (p := (o j).toNat ≠ (o i).toNat) (fun q => absurd (h.inj hj hi q) (by omega)), Bool.true_and]
  · rw [decide_eq_false e, Bool.and_false, Bool.and_false]
/-- what 'chosen' holds at place k: those of the first k that are ON -/
def chI (f : St) (o : Nat → Int) (L k S : Nat) : Prop := S < 4096 ∧ ∀ t, S.testBit t = true ↔ ∃ i, i < k ∧ (o i).toNat = t ∧ onL f t L = true
theorem chI_0 {f : St} {o : Nat → Int} {L : Nat} : chI f o L 0 0 := ⟨by decide, fun t => by rw [Nat.zero_testBit]; exact ⟨fun h => absurd h (by decide), fun ⟨i, h, _⟩ => absurd h (Nat.not_lt_zero _)⟩⟩
theorem chI_n {f : St} {o : Nat → Int} {L k S : Nat} (h : chI f o L k S) (ho : onL f (o k).toNat L = false) : chI f o L (k + 1) S := ⟨h.1, fun t => (h.2 t).trans ⟨fun ⟨i, h1, h2⟩ => ⟨i, by omega, h2⟩, fun ⟨i, h1, h2, h3⟩ => by
  by_cases e : i = k
  · subst e; rw [h2] at ho; rw [ho] at h3; cases h3
  · exact ⟨i, by omega, h2, h3⟩⟩⟩
theorem chI_y {f : St} {o : Nat → Int} {L k S : Nat} (h : chI f o L k S) (hl : (o k).toNat < 12) (ho : onL f (o k).toNat L = true) : chI f o L (k + 1) (S ||| 1 <<< (o k).toNat) := by
  refine ⟨?_, fun t => ?_⟩
  · have h1 : 1 <<< (o k).toNat < 2 ^ 12 := by rw [Nat.one_shiftLeft]; exact Nat.pow_lt_pow_right (by decide) hl
    exact Nat.or_lt_two_pow (n := 12) h.1 h1
  · rw [Nat.testBit_or, Nat.one_shiftLeft, Nat.testBit_two_pow, Bool.or_eq_true, h.2 t, decide_eq_true_eq]
    constructor
    · rintro (⟨i, h1, h2, h3⟩ | h1)
      · exact ⟨i, by omega, h2, h3⟩
      · exact ⟨k, by omega, h1, by rw [← h1]; exact ho⟩
    · rintro ⟨i, h1, h2, h3⟩
      by_cases e : i = k
      · subst e; exact Or.inr h2
      · exact Or.inl ⟨i, by omega, h2, h3⟩
theorem chI_end {f : St} {ru : Int} {o : Nat → Int} (h : OrdOK f ru o) {L k S : Nat} {lim : Int} (hk : k ≤ nT f) (hI : chI f o L k S) (hc : (ct (fun j => onL f (o j).toNat L) k : Int) ≤ lim) (hs : k = nT f ∨ (ct (fun j => onL f (o j).toNat L) k : Int) = lim) : S = drS f ru lim L := by
  unfold drS
  apply setP_ext
  · intro t ht
    obtain ⟨i, hi, e⟩ := fb_onto (f := fun j => (o j).toNat) (fun j hj => by have := h.1 j hj; omega) (fun a b hab hb e => absurd (h.inj (by omega) hb e) (by omega)) ht
    have e : (o i).toNat = t := e
    rw [Bool.eq_iff_iff, hI.2 t]
    unfold drP
    rw [Bool.and_eq_true, decide_eq_true_eq, ← e, rank_o h hi]
    constructor
    · rintro ⟨j, h1, h2, h3⟩
      have e2 := h.inj (by omega) hi h2
      subst e2
      refine ⟨h3, ?_⟩
      have := ct_mono (fun j => onL f (o j).toNat L) (show j + 1 ≤ k by omega)
      rw [ct, h3] at this
      have t1 : (true).toNat = 1 := rfl
      omega
    · rintro ⟨h1, h2⟩
      refine ⟨i, ?_, rfl, h1⟩
      rcases hs with hs | hs
      · omega
      · rcases Nat.lt_or_ge i k with q | q
        · exact q
        · have := ct_mono (fun j => onL f (o j).toNat L) q
          omega
  · intro t ht
    rw [Bool.eq_false_iff]
    intro h1
    obtain ⟨i, h2, h3, -⟩ := (hI.2 t).mp h1
    have := h.1 i (by omega)
    omega
def ordv (n fi ru : Int) (i : Nat) : Int := if ru = 1 then n - 1 - i else if fi + i < n then fi + i else fi + i - n
theorem ord_012 {f : St} {B ru fi : Int} {o : Nat → Int} (hV : Va B f) (hr : 0 ≤ ru ∧ ru ≤ 2) (hfi : 0 < f 0 → 0 ≤ fi ∧ fi < f 0 ∧ fi = if ru = 2 then f 3 % f 0 else 0) (ho : ∀ i, i < nT f → o i = ordv (f 0) fi ru i) : OrdOK f ru o := by
  have hn := hV.n
  have hv : ∀ i, i < nT f → 0 ≤ ordv (f 0) fi ru i ∧ ordv (f 0) fi ru i < f 0 := by
    intro i hi
    obtain ⟨g1, g2, -⟩ := hfi (by omega)
    unfold ordv
    split
    · omega
    · split <;> omega
  refine ⟨fun i hi => by rw [ho i hi]; have := hv i hi; omega, fun i j hi hj => ?_⟩
  obtain ⟨g1, g2, g3⟩ := hfi (by omega)
  have vi := hv i hi
  have vj := hv j hj
  rw [ho i hi, ho j hj]
  unfold ahd
  have ei : (((ordv (f 0) fi ru i).toNat : Nat) : Int) = ordv (f 0) fi ru i := by omega
  have ej : (((ordv (f 0) fi ru j).toNat : Nat) : Int) = ordv (f 0) fi ru j := by omega
  rcases (show ru = 0 ∨ ru = 1 ∨ ru = 2 by omega) with r | r | r
  · subst r
    rw [if_neg (by decide)] at g3
    rw [if_pos rfl, decide_eq_decide]
    have q1 : ordv (f 0) fi 0 i = i := by unfold ordv; rw [if_neg (by decide), if_pos (by omega)]; omega
    have q2 : ordv (f 0) fi 0 j = j := by unfold ordv; rw [if_neg (by decide), if_pos (by omega)]; omega
    rw [q1, q2]
    omega
  · subst r
    rw [if_neg (by decide), if_pos rfl, decide_eq_decide]
    have q1 : ordv (f 0) fi 1 i = f 0 - 1 - i := by unfold ordv; rw [if_pos rfl]
    have q2 : ordv (f 0) fi 1 j = f 0 - 1 - j := by unfold ordv; rw [if_pos rfl]
    rw [q1, q2]
    omega
  · subst r
    rw [if_pos rfl] at g3
    rw [if_neg (by decide), if_neg (by decide), if_pos rfl, decide_eq_decide, ei, ej, ← g3]
    have q : ∀ i : Nat, i < nT f → (ordv (f 0) fi 2 i - fi + f 0) % f 0 = i := by
      intro i hi
      unfold ordv
      rw [if_neg (by decide)]
      split
      · rw [show fi + (i : Int) - fi + f 0 = i + f 0 by omega, Int.add_emod_right, Int.emod_eq_of_lt (by omega) (by omega)]
      · rw [show fi + (i : Int) - f 0 - fi + f 0 = i by omega, Int.emod_eq_of_lt (by omega) (by omega)]
    rw [q i hi, q j hj]
    omega
/-- LEVEL and number in one -/
def key (f : St) (a : Nat) : Int := 16 * th f a 4 + a
theorem ahd3 (f : St) {a b : Nat} (ha : a < 12) (hb : b < 12) : ahd f 3 a b = decide (key f a < key f b) := by
  unfold ahd key
  rw [if_neg (by decide), if_neg (by decide), if_neg (by decide), Bool.eq_iff_iff, Bool.or_eq_true, Bool.and_eq_true, decide_eq_true_eq, decide_eq_true_eq, decide_eq_true_eq, decide_eq_true_eq]
  omega
/-- what 'arrangeByLevel' holds at the number K = 16 LEVEL + THING -/
def lvI (f : St) (o : Nat → Int) (K : Int) (k : Nat) : Prop := k = ct (fun u => decide (key f u < K)) (nT f) ∧ (∀ i, i < k → 0 ≤ o i ∧ o i < nT f ∧ key f (o i).toNat < K) ∧ ∀ i j, i < j → j < k → key f (o i).toNat < key f (o j).toNat
theorem ct_lt {p : Nat → Bool} {t : Nat} : ∀ {n : Nat}, t < n → p t = false → ct p n < n
  | 0, h, _ => absurd h (Nat.not_lt_zero _)
  | n + 1, h, hp => by
    rw [ct]
    by_cases e : t = n
    · subst e; rw [hp]; have := ct_le p t; have : (false).toNat = 0 := rfl; omega
    · have := ct_lt (p := p) (show t < n by omega) hp; have := Bool.toNat_le (p n); omega
theorem ct_ins {p q : Nat → Bool} {t : Nat} : ∀ {n : Nat}, t < n → p t = false → q t = true → (∀ i, i < n → i ≠ t → p i = q i) → ct q n = ct p n + 1
  | 0, h, _, _, _ => absurd h (Nat.not_lt_zero _)
  | n + 1, h, hp, hq, he => by
    rw [ct, ct]
    by_cases e : t = n
    · subst e
      rw [hp, hq, ct_cong (q := p) (fun i hi => (he i (by omega) (by omega)).symm)]
      rfl
    · rw [ct_ins (p := p) (show t < n by omega) hp hq (fun i hi hne => he i (by omega) hne), he n (by omega) (fun q => e q.symm)]
      omega
theorem lvI_0 {f : St} {B : Int} {o : Nat → Int} (hV : Va B f) : lvI f o 0 0 := ⟨(ct_zero (fun i hi => decide_eq_false (by have := hV.t hi; unfold key; omega))).symm, fun i hi => absurd hi (Nat.not_lt_zero _), fun i j _ h => absurd h (Nat.not_lt_zero _)⟩
theorem lvI_mv {f : St} {o : Nat → Int} {K K2 : Int} {k : Nat} (h : lvI f o K k) (hk : K ≤ K2) (he : ∀ u, u < nT f → (key f u < K ↔ key f u < K2)) : lvI f o K2 k := ⟨h.1.trans (ct_cong (fun i hi => decide_eq_decide.mpr (he i hi))), fun i hi => by have := h.2.1 i hi; omega, h.2.2⟩
theorem lvI_lt {f : St} {o : Nat → Int} {K : Int} {k t : Nat} (h : lvI f o K k) (ht : t < nT f) (hk : key f t = K) : k < nT f := by
  rw [h.1]
  exact ct_lt ht (decide_eq_false (by omega))
theorem lvI_put {f : St} {o : Nat → Int} {K : Int} {k t : Nat} (hn : nT f ≤ 12) (h : lvI f o K k) (ht : t < nT f) (hk : key f t = K) : lvI f (upZ o k t) (K + 1) (k + 1) := by
  have hs : ∀ i, i < k → upZ o k t i = o i := fun i hi => upZ_n (by omega)
  have hu : ∀ u, u < nT f → u ≠ t → key f u ≠ K := by
    intro u hu hne q
    unfold key at q hk
    omega
  refine ⟨?_, fun i hi => ?_, fun i j hij hj => ?_⟩
  · rw [ct_ins (p := fun u => decide (key f u < K)) ht (decide_eq_false (by omega)) (decide_eq_true (by omega)) (fun i hi hne => decide_eq_decide.mpr (by have := hu i hi hne; omega)), ← h.1]
  · by_cases e : i = k
    · subst e
      rw [upZ_s]
      refine ⟨by omega, by omega, ?_⟩
      rw [Int.toNat_natCast]
      omega
    · rw [hs i (by omega)]
      have := h.2.1 i (by omega)
      omega
  · rw [hs i (by omega)]
    by_cases e : j = k
    · subst e
      rw [upZ_s, Int.toNat_natCast, hk]
      exact (h.2.1 i hij).2.2
    · rw [hs j (by omega)]
      exact h.2.2 i j hij (by omega)
theorem ord_3 {f : St} {B : Int} {o : Nat → Int} {k : Nat} (hV : Va B f) (h : lvI f o 64 k) : OrdOK f 3 o := by
  have hn := hV.n
  have hk : k = nT f := by
    rw [h.1]
    have : ∀ n, n ≤ nT f → ct (fun u => decide (key f u < 64)) n = n := by
      intro n
      induction n with
      | zero => intro _; rfl
      | succ n ih => intro hle; rw [ct, ih (by omega), decide_eq_true (by have := hV.t (t := n) (by omega); unfold key; omega)]; rfl
    exact this _ (Nat.le_refl _)
  subst hk
  refine ⟨fun i hi => by have := h.2.1 i hi; omega, fun i j hi hj => ?_⟩
  have a := h.2.1 i hi
  have b := h.2.1 j hj
  rw [ahd3 f (by omega) (by omega), decide_eq_decide]
  rcases Nat.lt_trichotomy i j with q | q | q
  · have := h.2.2 i j q hj; omega
  · subst q; omega
  · have := h.2.2 j i q hi; omega
theorem lvI_sk {f : St} {B : Int} {o : Nat → Int} {lv tt k : Nat} (hV : Va B f) (h : lvI f o (16 * (lv : Int) + (tt : Int)) k) (hne : th f tt 4 ≠ lv) (ht : tt < 12) : lvI f o (16 * (lv : Int) + ((tt + 1 : Nat) : Int)) k := lvI_mv h (by omega) (fun u hu => by
  have hn := hV.n
  have hw := hV.t hu
  unfold key
  by_cases q : u = tt
  · subst q; omega
  · omega)
theorem up_s {o w : Nat → Int} {j : Nat} {v : Int} (h : ∀ i, i < j → o i = w i) (hv : v = w j) : ∀ i, i < j + 1 → upZ o j v i = w i := by
  intro i hi
  by_cases q : i = j
  · subst q; rw [upZ_s]; exact hv
  · rw [upZ_n q]; exact h i (by omega)
