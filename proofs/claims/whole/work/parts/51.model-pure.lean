/-! FOR THE REFERENCE: its ways of asking the same -/
theorem onS_bit (f : St) (L u : Nat) : (onS f L).testBit u = (decide (u < nT f) && onL f u L) := setP_bit _ _ _
theorem drS_bit (f : St) (ru lim : Int) (L u : Nat) : (drS f ru lim L).testBit u = (decide (u < nT f) && drP f ru lim L u) := setP_bit _ _ _
theorem rowN_lt {f : St} {B : Int} (hV : Va B f) {t L : Nat} (ht : t < nT f) (hon : onL f t L = true) : rowN f t L < 256 := by
  have hr := on_r hon
  have hv := hV.t ht
  simp only [rowN]
  have hp := hV.p (j := 4 + 8 * (th f t 2).toNat + if (th f t 3).toNat &&& 2 = 0 then ((L : Int) - th f t 1).toNat else 7 - ((L : Int) - th f t 1).toNat) (by omega) (by split <;> omega)
  split
  · omega
  · exact (mir_ok _ (by omega)).1
theorem hd_bit {f : St} {B : Int} (hV : Va B f) {t L cl : Nat} (ht : t < nT f) (hon : onL f t L = true) (hc : cl < 32) : (dotsN f t L).testBit (31 - cl) = (decide (0 ≤ (cl : Int) - th f t 0) && decide ((cl : Int) - th f t 0 ≤ 7) && (rowN f t L).testBit (7 - ((cl : Int) - th f t 0).toNat)) := by
  have hv := hV.t ht
  have hlt := rowN_lt hV ht hon
  unfold dotsN
  rw [if_pos hon, Nat.testBit_mod_two_pow, decide_eq_true (show 31 - cl < 32 by omega), Bool.true_and, Nat.testBit_div_two_pow, Nat.testBit_mul_two_pow]
  by_cases h1 : 0 ≤ (cl : Int) - th f t 0
  · by_cases h2 : (cl : Int) - th f t 0 ≤ 7
    · rw [decide_eq_true h1, decide_eq_true h2, decide_eq_true (show 32 ≤ 31 - cl + (th f t 0 + 8).toNat by omega), show 31 - cl + (th f t 0 + 8).toNat - 32 = 7 - ((cl : Int) - th f t 0).toNat by omega]
      rfl
    · rw [decide_eq_false h2, decide_eq_false (show ¬ 32 ≤ 31 - cl + (th f t 0 + 8).toNat by omega), Bool.and_false, Bool.false_and, Bool.false_and]
  · rw [decide_eq_false h1, Bool.false_and, Bool.false_and, Nat.testBit_lt_two_pow (show rowN f t L < 2 ^ (31 - cl + (th f t 0 + 8).toNat - 32) from Nat.lt_of_lt_of_le (show rowN f t L < 2 ^ 8 from hlt) (Nat.pow_le_pow_right (by decide) (by omega))), Bool.and_false]
theorem hd_off {f : St} {t L : Nat} (hon : onL f t L = false) (i : Nat) : (dotsN f t L).testBit i = false := by
  unfold dotsN
  rw [if_neg (by rw [hon]; decide), Nat.zero_testBit]
theorem tb4 : ∀ n, n < 4 → (n < 2 ↔ n &&& 2 = 0) ∧ (n % 2 = 1 ↔ ¬ n &&& 1 = 0) := by decide
theorem hd_ret {f : St} {B : Int} (hV : Va B f) {t L cl R b : Nat} (ht : t < nT f) (hon : onL f t L = true) (hc : cl < 32) (h0 : 0 ≤ (cl : Int) - th f t 0 ∧ (cl : Int) - th f t 0 ≤ 7) (hR : R = if (th f t 3).toNat &&& 2 = 0 then ((L : Int) - th f t 1).toNat else 7 - ((L : Int) - th f t 1).toNat) (hb : b = if (th f t 3).toNat &&& 1 = 0 then 7 - ((cl : Int) - th f t 0).toNat else ((cl : Int) - th f t 0).toNat) : b2i ((f (4 + 8 * (th f t 2).toNat + R)).toNat.testBit b) = b2i ((dotsN f t L).testBit (31 - cl)) := by
  have hr := on_r hon
  have hv := hV.t ht
  have hp := hV.p (j := 4 + 8 * (th f t 2).toNat + R) (by omega) (by rw [hR]; split <;> omega)
  rw [hd_bit hV ht hon hc, decide_eq_true h0.1, decide_eq_true h0.2, Bool.true_and, Bool.true_and]
  congr 1
  simp only [rowN]
  rw [← hR]
  by_cases q : (th f t 3).toNat &&& 1 = 0
  · rw [if_pos q] at hb
    rw [if_pos q, hb]
  · rw [if_neg q] at hb
    rw [if_neg q, (mir_ok _ (by omega)).2 _ (by omega), hb]
    congr 1
    omega
def TopR (f : St) (S L cl lo : Nat) (r : Int) : Prop := (r = -1 ∧ ∀ u, lo ≤ u → u < nT f → S.testBit u = true → (dotsN f u L).testBit (31 - cl) = true → False) ∨ ∃ t : Nat, lo ≤ t ∧ t < nT f ∧ r = t ∧ S.testBit t = true ∧ (dotsN f t L).testBit (31 - cl) = true ∧ ∀ u, lo ≤ u → u < nT f → S.testBit u = true → (dotsN f u L).testBit (31 - cl) = true → key f t ≤ key f u
theorem TopR_n (f : St) (S L cl : Nat) : TopR f S L cl (nT f) (-1) := Or.inl ⟨rfl, fun u h1 h2 => absurd h2 (by omega)⟩
theorem TopR_0 {f : St} {S L cl : Nat} {r : Int} (h : TopR f S L cl 0 r) : TopI f S L cl r := by
  rcases h with ⟨e, h⟩ | ⟨t, -, ht, e, h1, h2, h3⟩
  · exact Or.inl ⟨e, fun u hu => h u (Nat.zero_le _) hu⟩
  · exact Or.inr ⟨t, ht, e, h1, h2, fun u hu => h3 u (Nat.zero_le _) hu⟩
theorem TopR_rg {f : St} {S L cl lo : Nat} {r : Int} (h : TopR f S L cl lo r) : r = -1 ∨ (0 ≤ r ∧ (lo : Int) ≤ r ∧ r < nT f) := by
  rcases h with ⟨e, -⟩ | ⟨t, h1, ht, e, -⟩
  · exact Or.inl e
  · exact Or.inr (by omega)
theorem TopR_sk {f : St} {S L cl lo : Nat} {r : Int} (h : TopR f S L cl (lo + 1) r) (hne : S.testBit lo = false ∨ (dotsN f lo L).testBit (31 - cl) = false) : TopR f S L cl lo r := by
  have key : ∀ u, lo ≤ u → S.testBit u = true → (dotsN f u L).testBit (31 - cl) = true → lo + 1 ≤ u := by
    intro u hu a b
    rcases Nat.lt_or_ge lo u with q | q
    · exact q
    · have : u = lo := by omega
      subst this
      rcases hne with z | z
      · rw [z] at a; cases a
      · rw [z] at b; cases b
  rcases h with ⟨e, h⟩ | ⟨t, h0, ht, e, h1, h2, h3⟩
  · exact Or.inl ⟨e, fun u hu hn a b => h u (key u hu a b) hn a b⟩
  · exact Or.inr ⟨t, by omega, ht, e, h1, h2, fun u hu hn a b => h3 u (key u hu a b) hn a b⟩
theorem TopR_new {f : St} {B : Int} (hV : Va B f) {S L cl lo : Nat} {r : Int} (h : TopR f S L cl (lo + 1) r) (hlo : lo < nT f) (hs : S.testBit lo = true) (hd : (dotsN f lo L).testBit (31 - cl) = true) (hl : r = -1 ∨ th f lo 4 ≤ th f r.toNat 4) : TopR f S L cl lo lo := by
  refine Or.inr ⟨lo, Nat.le_refl _, hlo, rfl, hs, hd, fun u hu hn a b => ?_⟩
  rcases Nat.lt_or_ge lo u with q | q
  · rcases h with ⟨e, h⟩ | ⟨t, h0, ht, e, h1, h2, h3⟩
    · exact (h u q hn a b).elim
    · have := h3 u q hn a b
      rcases hl with hl | hl
      · omega
      · rw [e, Int.toNat_natCast] at hl
        unfold key at this ⊢
        omega
  · have : u = lo := by omega
    subst this
    exact Int.le_refl _
theorem TopR_old {f : St} {B : Int} (hV : Va B f) {S L cl lo : Nat} {r : Int} (h : TopR f S L cl (lo + 1) r) (hr : r ≠ -1) (hl : th f r.toNat 4 < th f lo 4) : TopR f S L cl lo r := by
  have hn := hV.n
  rcases h with ⟨e, h⟩ | ⟨t, h0, ht, e, h1, h2, h3⟩
  · exact absurd e hr
  · refine Or.inr ⟨t, by omega, ht, e, h1, h2, fun u hu hnu a b => ?_⟩
    rcases Nat.lt_or_ge lo u with q | q
    · exact h3 u q hnu a b
    · have : u = lo := by omega
      subst this
      rw [e, Int.toNat_natCast] at hl
      unfold key
      omega
/-- agreement but for RULE -/
def Aw (f g : St) : Prop := ∀ i, i < 36 + 8 * nT f → i ≠ 2 → f i = g i
theorem Aw.n {f g : St} (h : Aw f g) : nT f = nT g := by unfold nT; rw [h 0 (by omega) (by decide)]
theorem Aw.c {f g : St} (h : Aw f g) {i : Nat} (hi : i < 36) (h2 : i ≠ 2) : f i = g i := h i (by omega) h2
theorem Aw.th {f g : St} (h : Aw f g) {t w : Nat} (ht : t < nT f) (hw : w < 8) : th f t w = th g t w := h _ (by omega) (by omega)
theorem Aw_up (f : St) (v : Int) : Aw (upZ f 2 v) f := fun i _ h => upZ_n h
theorem onL_aw {f g : St} (h : Aw f g) {t : Nat} (ht : t < nT f) (L : Nat) : onL f t L = onL g t L := by unfold onL; rw [h.th ht (by decide)]
theorem onS_aw {f g : St} (h : Aw f g) (L : Nat) : onS f L = onS g L := by
  unfold onS
  rw [← h.n]
  exact setP_cong (fun i hi => onL_aw h hi L)
theorem key_aw {f g : St} (h : Aw f g) {t : Nat} (ht : t < nT f) : key f t = key g t := by unfold key; rw [h.th ht (by decide)]
theorem dotsN_aw {f g : St} {B : Int} (hV : Va B f) (h : Aw f g) {t : Nat} (ht : t < nT f) (L : Nat) : dotsN f t L = dotsN g t L := by
  unfold dotsN
  rw [← onL_aw h ht, ← h.th ht (by decide)]
  by_cases q : onL f t L = true
  · rw [if_pos q, if_pos q]
    have e : rowN f t L = rowN g t L := by
      have hr := on_r q
      have hv := hV.t ht
      simp only [rowN]
      rw [← h.th ht (by decide), ← h.th ht (by decide), ← h.th ht (by decide)]
      have e2 : ∀ i, i < 8 → f (4 + 8 * (th f t 2).toNat + i) = g (4 + 8 * (th f t 2).toNat + i) := fun i hi => h.c (by omega) (by omega)
      have e3 : f (4 + 8 * (th f t 2).toNat + if (th f t 3).toNat &&& 2 = 0 then ((L : Int) - th f t 1).toNat else 7 - ((L : Int) - th f t 1).toNat) = g (4 + 8 * (th f t 2).toNat + if (th f t 3).toNat &&& 2 = 0 then ((L : Int) - th f t 1).toNat else 7 - ((L : Int) - th f t 1).toNat) := e2 _ (by split <;> omega)
      rw [e3]
    rw [e]
  · rw [if_neg q, if_neg q]
theorem ahd_aw {f g : St} (h : Aw f g) (ru : Int) {a b : Nat} (ha : a < nT f) (hb : b < nT f) : ahd f ru a b = ahd g ru a b := by
  unfold ahd
  rw [h.c (show 3 < 36 by decide) (by decide), h.c (show 0 < 36 by decide) (by decide), h.th ha (by decide), h.th hb (by decide)]
theorem rank_aw {f g : St} (h : Aw f g) (ru : Int) (L : Nat) {t : Nat} (ht : t < nT f) : rank f ru L t = rank g ru L t := by
  unfold rank
  rw [← h.n]
  exact ct_cong (fun u hu => by rw [onL_aw h hu, ahd_aw h ru hu ht])
theorem drS_aw {f g : St} (h : Aw f g) (ru lim : Int) (L : Nat) : drS f ru lim L = drS g ru lim L := by
  unfold drS
  rw [← h.n]
  exact setP_cong (fun u hu => by unfold drP; rw [onL_aw h hu, rank_aw h ru L hu])
theorem TopI_aw {f g : St} {B : Int} (hV : Va B f) (h : Aw f g) {S L cl : Nat} {r : Int} (q : TopI f S L cl r) : TopI g S L cl r := by
  have hn := h.n
  rcases q with ⟨e, q⟩ | ⟨t, ht, e, q1, q2, q3⟩
  · exact Or.inl ⟨e, fun u hu a b => q u (by omega) a (by rw [dotsN_aw hV h (by omega)]; exact b)⟩
  · refine Or.inr ⟨t, by omega, e, q1, by rw [← dotsN_aw hV h ht]; exact q2, fun u hu a b => ?_⟩
    rw [← key_aw h ht, ← key_aw h (show u < nT f by omega)]
    exact q3 u (by omega) a (by rw [dotsN_aw hV h (by omega)]; exact b)
theorem seenA_aw {f g : St} {B : Int} (hV : Va B f) (h : Aw f g) (S L cl : Nat) : seenA f S L cl = seenA g S L cl := seenA_eq (by have := hV.n; rw [← h.n]; omega) (TopI_aw hV h (seenA_ex hV S L cl))
theorem colA_aw {f g : St} {B : Int} (hV : Va B f) (h : Aw f g) (S L cl : Nat) : colA f S L cl = colA g S L cl := by
  unfold colA
  rw [← seenA_aw hV h]
  by_cases q : seenA f S L cl = -1
  · rw [if_pos q, if_pos q]
  · rw [if_neg q, if_neg q]
    have := seenA_rg hV S L cl
    exact h.th (by omega) (by decide)
theorem misF_aw {f g : St} {B : Int} (hV : Va B f) (h : Aw f g) (ru : Int) : misF f ru = misF g ru := sm_cong (fun L _ => by
  unfold misL
  rw [h.c (show 1 < 36 by decide) (by decide), drS_aw h, onS_aw h]
  split
  · rfl
  · exact ct_cong (fun cl _ => by rw [colA_aw hV h, colA_aw hV h]))
theorem Va_ru {f : St} {B v : Int} (hV : Va B f) (hv : 0 ≤ v ∧ v ≤ 3) : Va B (upZ f 2 v) := Va_low hV (by decide) (by decide) (by omega) (fun _ => hv) (by decide) (by omega)
theorem mis_ru {f : St} {B v : Int} (hV : Va B f) (hv : 0 ≤ v ∧ v ≤ 3) : misF (upZ f 2 v) ((upZ f 2 v) 2) = misF f v := by rw [upZ_s]; exact misF_aw (Va_ru hV hv) (Aw_up f v) v
theorem upZ_uu (f : St) (i : Nat) (a b : Int) : upZ (upZ f i a) i b = upZ f i b := by
  funext j
  unfold upZ
  split <;> rfl
theorem upZ_id (f : St) (i : Nat) : upZ f i (f i) = f := by
  funext j
  unfold upZ
  split
  · next h => rw [h]
  · rfl
/-- the reference's way to the best RULE -/
noncomputable def brM (f : St) : Nat → Nat × Nat
  | 0 => (0, 769)
  | j + 1 => if misF f (j : Int) < (brM f j).2 then (j, misF f (j : Int)) else brM f j
theorem brM_t {f : St} {j : Nat} (h : misF f (j : Int) < (brM f j).2) : brM f (j + 1) = (j, misF f (j : Int)) := by rw [brM, if_pos h]
theorem brM_f {f : St} {j : Nat} (h : ¬ misF f (j : Int) < (brM f j).2) : brM f (j + 1) = brM f j := by rw [brM, if_neg h]
theorem brM_eq (f : St) : ∀ j, brM f (j + 1) = brk f j
  | 0 => by
    have := misF_le f ((0 : Nat) : Int)
    rw [brM_t (by show misF f ((0 : Nat) : Int) < 769; omega), brk]
    rfl
  | j + 1 => by rw [brM, brM_eq f j, brk]
theorem brM_le (f : St) (j : Nat) : (brM f j).2 ≤ 769 := by
  cases j with
  | zero => exact Nat.le_refl _
  | succ j => have := brk_le f j; rw [brM_eq]; omega
theorem ones_pc {a : Nat} (h : a < 4096) : ct (fun i => a.testBit i) 24 = pc32 a := by
  unfold pc32
  rw [show 32 = 24 + 8 from rfl, ct_split, ct_zero (p := fun i => a.testBit (24 + i)) (fun i _ => Nat.testBit_lt_two_pow (Nat.lt_of_lt_of_le (show a < 2 ^ 12 from h) (Nat.pow_le_pow_right (by decide) (by omega))))]
  rfl
