/-! A PAINTED LINE: masks of 32 columns, column 0 the highest bit -/
def nF (a : Nat → Nat) : Nat → Int := fun i => (a i : Int)
def upN (a : Nat → Nat) (k v : Nat) : Nat → Nat := fun j => if j = k then v else a j
theorem upN_s {a : Nat → Nat} {k v : Nat} : upN a k v k = v := if_pos rfl
theorem upN_n {a : Nat → Nat} {k j v : Nat} (h : j ≠ k) : upN a k v j = a j := if_neg h
theorem nF_up (a : Nat → Nat) (k v : Nat) : upZ (nF a) k (v : Int) = nF (upN a k v) := by
  funext j
  unfold upZ nF upN
  split <;> rfl
def fiN (a : Nat → Nat) (n : Nat) : Nat → Nat := fun i => if i < n then 0 else a i
theorem nF_fill (a : Nat → Nat) (n : Nat) : fillZ (nF a) n 0 = nF (fiN a n) := by
  funext j
  unfold fillZ nF fiN
  split <;> rfl
/-- what stands when all in S with a number (LEVEL, number) below K are painted -/
def paI (f : St) (S L : Nat) (K : Int) (sn pn : Nat → Nat) (fl : Nat) : Prop :=
  fl < 4294967296 ∧ (∀ t, t < 12 → sn t < 4294967296) ∧ (∀ b, b < 3 → pn b < 4294967296) ∧
  (∀ i, fl.testBit i = true ↔ ∃ u, u < nT f ∧ S.testBit u = true ∧ key f u < K ∧ (dotsN f u L).testBit i = true) ∧
  (∀ t, t < 12 → ∀ i, (sn t).testBit i = true ↔ t < nT f ∧ S.testBit t = true ∧ key f t < K ∧ (dotsN f t L).testBit i = true ∧ ∀ u, u < nT f → S.testBit u = true → (dotsN f u L).testBit i = true → key f t ≤ key f u) ∧
  (∀ b, b < 3 → ∀ i, (pn b).testBit i = true ↔ ∃ t, t < nT f ∧ (sn t).testBit i = true ∧ (th f t 5).toNat.testBit b = true)
theorem paI_0 {f : St} {B : Int} {S L : Nat} {sn pn : Nat → Nat} (hV : Va B f) : paI f S L 0 (fiN sn 12) (fiN pn 3) 0 := by
  have hk : ∀ u, u < nT f → ¬ key f u < 0 := fun u hu => by have := hV.t hu; unfold key; omega
  have hn := hV.n
  have h0 : ∀ t, t < 12 → fiN sn 12 t = 0 := fun t ht => if_pos ht
  have h1 : ∀ b, b < 3 → fiN pn 3 b = 0 := fun t ht => if_pos ht
  refine ⟨by decide, fun t ht => by rw [h0 t ht]; decide, fun b hb => by rw [h1 b hb]; decide, fun i => ?_, fun t ht i => ?_, fun b hb i => ?_⟩
  · rw [Nat.zero_testBit]
    exact ⟨fun h => absurd h (by decide), fun ⟨u, hu, _, hk2, _⟩ => absurd hk2 (hk u hu)⟩
  · rw [h0 t ht, Nat.zero_testBit]
    exact ⟨fun h => absurd h (by decide), fun ⟨hu, _, hk2, _⟩ => absurd hk2 (hk t hu)⟩
  · rw [h1 b hb, Nat.zero_testBit]
    refine ⟨fun h => absurd h (by decide), fun ⟨t, ht, h2, _⟩ => ?_⟩
    rw [h0 t (by omega), Nat.zero_testBit] at h2
    exact absurd h2 (by decide)
theorem paI_mv {f : St} {S L : Nat} {K K2 : Int} {sn pn : Nat → Nat} {fl : Nat} (h : paI f S L K sn pn fl) (he : ∀ u, u < nT f → S.testBit u = true → (key f u < K ↔ key f u < K2)) : paI f S L K2 sn pn fl := by
  obtain ⟨a1, a2, a3, a4, a5, a6⟩ := h
  refine ⟨a1, a2, a3, fun i => (a4 i).trans ⟨fun ⟨u, h1, h2, h3, h4⟩ => ⟨u, h1, h2, (he u h1 h2).mp h3, h4⟩, fun ⟨u, h1, h2, h3, h4⟩ => ⟨u, h1, h2, (he u h1 h2).mpr h3, h4⟩⟩, fun t ht i => (a5 t ht i).trans ⟨fun ⟨h1, h2, h3, h4⟩ => ⟨h1, h2, (he t h1 h2).mp h3, h4⟩, fun ⟨h1, h2, h3, h4⟩ => ⟨h1, h2, (he t h1 h2).mpr h3, h4⟩⟩, a6⟩
theorem paI_sk {f : St} {B : Int} {S L lv tt : Nat} {sn pn : Nat → Nat} {fl : Nat} (hV : Va B f) (h : paI f S L (16 * (lv : Int) + (tt : Int)) sn pn fl) (hne : S.testBit tt = false ∨ th f tt 4 ≠ lv) (ht : tt < 12) : paI f S L (16 * (lv : Int) + ((tt + 1 : Nat) : Int)) sn pn fl := paI_mv h (fun u hu hs => by
  have hn := hV.n
  have hw := hV.t hu
  unfold key
  by_cases q : u = tt
  · subst q
    rcases hne with hne | hne
    · rw [hne] at hs; cases hs
    · omega
  · omega)
def plJ (pn : Nat → Nat) (co v j : Nat) : Nat → Nat := fun b => if b < j ∧ co.testBit b = true then pn b ||| v else pn b
theorem plJ_0 (pn : Nat → Nat) (co v : Nat) : plJ pn co v 0 = pn := by
  funext b
  unfold plJ
  rw [if_neg (by omega)]
theorem plJ_t {pn : Nat → Nat} {co v j : Nat} (h : co.testBit j = true) : upN (plJ pn co v j) j (plJ pn co v j j ||| v) = plJ pn co v (j + 1) := by
  funext b
  unfold upN plJ
  by_cases q : b = j
  · subst q
    rw [if_pos rfl, if_neg (by omega), if_pos ⟨by omega, h⟩]
  · rw [if_neg q]
    have : (b < j ∧ co.testBit b = true) ↔ (b < j + 1 ∧ co.testBit b = true) := by constructor <;> (rintro ⟨h1, h2⟩; exact ⟨by omega, h2⟩)
    simp only [this]
theorem plJ_f {pn : Nat → Nat} {co v j : Nat} (h : co.testBit j = false) : plJ pn co v j = plJ pn co v (j + 1) := by
  funext b
  unfold plJ
  by_cases q : b = j
  · subst q
    rw [if_neg (by omega), if_neg (by rw [h]; rintro ⟨-, h2⟩; cases h2)]
  · have : (b < j ∧ co.testBit b = true) ↔ (b < j + 1 ∧ co.testBit b = true) := by constructor <;> (rintro ⟨h1, h2⟩; exact ⟨by omega, h2⟩)
    simp only [this]
theorem not_bit {fl : Nat} (h : fl < 4294967296) (i : Nat) : (2 ^ 32 - (fl + 1)).testBit i = (decide (i < 32) && !fl.testBit i) := Nat.testBit_two_pow_sub_succ (by omega) i
theorem bit_big {a i : Nat} (h : a < 4294967296) (hi : 32 ≤ i) : a.testBit i = false := Nat.testBit_lt_two_pow (Nat.lt_of_lt_of_le (show a < 2 ^ 32 by omega) (Nat.pow_le_pow_right (by decide) hi))
theorem paI_put {f : St} {B : Int} {S L lv tt : Nat} {sn pn : Nat → Nat} {fl : Nat} (hV : Va B f) (h : paI f S L (16 * (lv : Int) + (tt : Int)) sn pn fl) (ht : tt < nT f) (hs : S.testBit tt = true) (hl : th f tt 4 = lv) :
    paI f S L (16 * (lv : Int) + ((tt + 1 : Nat) : Int)) (upN sn tt (dotsN f tt L &&& (2 ^ 32 - (fl + 1)))) (plJ pn (th f tt 5).toNat (dotsN f tt L &&& (2 ^ 32 - (fl + 1))) 3) (fl ||| dotsN f tt L) := by
  obtain ⟨a1, a2, a3, a4, a5, a6⟩ := h
  have hn := hV.n
  have hd := dotsN_lt f tt L
  have hkt : key f tt = 16 * (lv : Int) + (tt : Int) := by unfold key; omega
  have hv1 : dotsN f tt L &&& (2 ^ 32 - (fl + 1)) < 4294967296 := Nat.and_lt_two_pow (n := 32) _ (by omega)
  have hkey : ∀ u, u < nT f → (key f u < 16 * (lv : Int) + ((tt + 1 : Nat) : Int) ↔ key f u < 16 * (lv : Int) + (tt : Int) ∨ u = tt) := by
    intro u hu
    have hw := hV.t hu
    unfold key
    by_cases q : u = tt
    · subst q; omega
    · omega
  have hnew : ∀ i, (dotsN f tt L &&& (2 ^ 32 - (fl + 1))).testBit i = true ↔ (dotsN f tt L).testBit i = true ∧ ∀ u, u < nT f → S.testBit u = true → (dotsN f u L).testBit i = true → key f tt ≤ key f u := by
    intro i
    rw [Nat.testBit_and, not_bit a1, Bool.and_eq_true, Bool.and_eq_true, decide_eq_true_eq, Bool.not_eq_true']
    constructor
    · rintro ⟨h1, h2, h3⟩
      refine ⟨h1, fun u hu hus hud => ?_⟩
      rcases Int.lt_or_le (key f u) (key f tt) with q | q
      · have := (a4 i).mpr ⟨u, hu, hus, by rw [← hkt]; exact q, hud⟩
        rw [this] at h3
        cases h3
      · exact q
    · rintro ⟨h1, h2⟩
      refine ⟨h1, ?_, ?_⟩
      · rcases Nat.lt_or_ge i 32 with q | q
        · exact q
        · rw [bit_big hd q] at h1; cases h1
      · rw [Bool.eq_false_iff]
        intro h3
        obtain ⟨u, hu, hus, huk, hud⟩ := (a4 i).mp h3
        have := h2 u hu hus hud
        omega
  have hold : ∀ t, t < 12 → t ≠ tt → upN sn tt (dotsN f tt L &&& (2 ^ 32 - (fl + 1))) t = sn t := fun t _ q => upN_n q
  refine ⟨Nat.or_lt_two_pow (n := 32) a1 hd, fun t h1 => ?_, fun b hb => ?_, fun i => ?_, fun t h1 i => ?_, fun b hb i => ?_⟩
  · by_cases q : t = tt
    · subst q; rw [upN_s]; exact hv1
    · rw [upN_n q]; exact a2 t h1
  · unfold plJ
    split
    · exact Nat.or_lt_two_pow (n := 32) (a3 b hb) hv1
    · exact a3 b hb
  · rw [Nat.testBit_or, Bool.or_eq_true, a4 i]
    constructor
    · rintro (⟨u, h1, h2, h3, h4⟩ | h1)
      · exact ⟨u, h1, h2, (hkey u h1).mpr (Or.inl h3), h4⟩
      · exact ⟨tt, ht, hs, (hkey tt ht).mpr (Or.inr rfl), h1⟩
    · rintro ⟨u, h1, h2, h3, h4⟩
      rcases (hkey u h1).mp h3 with q | q
      · exact Or.inl ⟨u, h1, h2, q, h4⟩
      · subst q; exact Or.inr h4
  · by_cases q : t = tt
    · subst q
      rw [upN_s, hnew i]
      constructor
      · rintro ⟨g1, g2⟩
        exact ⟨ht, hs, (hkey t ht).mpr (Or.inr rfl), g1, g2⟩
      · rintro ⟨-, -, -, g1, g2⟩
        exact ⟨g1, g2⟩
    · rw [upN_n q, a5 t h1 i]
      constructor
      · rintro ⟨g1, g2, g3, g4⟩
        exact ⟨g1, g2, (hkey t g1).mpr (Or.inl g3), g4⟩
      · rintro ⟨g1, g2, g3, g4⟩
        rcases (hkey t g1).mp g3 with z | z
        · exact ⟨g1, g2, z, g4⟩
        · exact absurd z q
  · have hzero : ∀ i, (sn tt).testBit i = true → False := by
      intro i hh
      obtain ⟨-, -, g3, -⟩ := (a5 tt (by omega) i).mp hh
      omega
    have hex : (∃ t, t < nT f ∧ (upN sn tt (dotsN f tt L &&& (2 ^ 32 - (fl + 1))) t).testBit i = true ∧ (th f t 5).toNat.testBit b = true) ↔ ((pn b).testBit i = true ∨ ((dotsN f tt L &&& (2 ^ 32 - (fl + 1))).testBit i = true ∧ (th f tt 5).toNat.testBit b = true)) := by
      rw [a6 b hb i]
      constructor
      · rintro ⟨t, g1, g2, g3⟩
        by_cases q : t = tt
        · subst q; rw [upN_s] at g2; exact Or.inr ⟨g2, g3⟩
        · rw [upN_n q] at g2; exact Or.inl ⟨t, g1, g2, g3⟩
      · rintro (⟨t, g1, g2, g3⟩ | ⟨g2, g3⟩)
        · by_cases q : t = tt
          · subst q; exact (hzero i g2).elim
          · exact ⟨t, g1, by rw [upN_n q]; exact g2, g3⟩
        · exact ⟨tt, ht, by rw [upN_s]; exact g2, g3⟩
    rw [hex]
    unfold plJ
    by_cases q : (th f tt 5).toNat.testBit b = true
    · rw [if_pos ⟨hb, q⟩, Nat.testBit_or, Bool.or_eq_true]
      exact ⟨fun g => g.elim Or.inl (fun g => Or.inr ⟨g, q⟩), fun g => g.elim Or.inl (fun g => Or.inr g.1)⟩
    · rw [if_neg (fun g => q g.2)]
      exact ⟨Or.inl, fun g => g.elim id (fun g => absurd g.2 q)⟩
/-- who is SEEN at a dot, of those in S: the one of least LEVEL, then number; -1: none -/
def TopI (f : St) (S L cl : Nat) (r : Int) : Prop := (r = -1 ∧ ∀ u, u < nT f → S.testBit u = true → (dotsN f u L).testBit (31 - cl) = true → False) ∨ ∃ t : Nat, t < nT f ∧ r = t ∧ S.testBit t = true ∧ (dotsN f t L).testBit (31 - cl) = true ∧ ∀ u, u < nT f → S.testBit u = true → (dotsN f u L).testBit (31 - cl) = true → key f t ≤ key f u
theorem TopI.one {f : St} {S L cl : Nat} {r q : Int} (hn : nT f ≤ 12) (h1 : TopI f S L cl r) (h2 : TopI f S L cl q) : r = q := by
  rcases h1 with ⟨rfl, h1⟩ | ⟨t, ht, rfl, hs, hd, h1⟩
  · rcases h2 with ⟨rfl, -⟩ | ⟨u, hu, rfl, us, ud, -⟩
    · rfl
    · exact (h1 u hu us ud).elim
  · rcases h2 with ⟨rfl, h2⟩ | ⟨u, hu, rfl, us, ud, h2⟩
    · exact (h2 t ht hs hd).elim
    · have a := h1 u hu us ud
      have b := h2 t ht hs hd
      unfold key at a b
      omega
noncomputable def seenA (f : St) (S L cl : Nat) : Int := Classical.epsilon (TopI f S L cl)
theorem seenA_top {f : St} {S L cl : Nat} {r : Int} (h : TopI f S L cl r) : TopI f S L cl (seenA f S L cl) := Classical.epsilon_spec (p := TopI f S L cl) ⟨r, h⟩
theorem seenA_eq {f : St} {S L cl : Nat} {r : Int} (hn : nT f ≤ 12) (h : TopI f S L cl r) : r = seenA f S L cl := h.one hn (seenA_top h)
noncomputable def colA (f : St) (S L cl : Nat) : Int := if seenA f S L cl = -1 then 0 else th f (seenA f S L cl).toNat 5
theorem thing_bit {f : St} {S L : Nat} {sn pn : Nat → Nat} {fl : Nat} (h : paI f S L 64 sn pn fl) {t : Nat} (ht : t < 12) (i : Nat) (hV : ∀ u, u < nT f → key f u < 64) : (sn t).testBit i = true ↔ t < nT f ∧ S.testBit t = true ∧ (dotsN f t L).testBit i = true ∧ ∀ u, u < nT f → S.testBit u = true → (dotsN f u L).testBit i = true → key f t ≤ key f u := by
  rw [h.2.2.2.2.1 t ht i]
  exact ⟨fun ⟨a, b, _, d⟩ => ⟨a, b, d⟩, fun ⟨a, b, d⟩ => ⟨a, b, hV t a, d⟩⟩
theorem key_lt {f : St} {B : Int} (hV : Va B f) : ∀ u, u < nT f → key f u < 64 := fun u hu => by have := hV.t hu; have := hV.n; unfold key; omega
/-- the least of those that hold, by LEVEL and number, is there -/
theorem top_ex {f : St} {B : Int} (hV : Va B f) (P : Nat → Bool) : ∀ n, n ≤ nT f → (∀ u, u < n → P u = false) ∨ ∃ t, t < n ∧ P t = true ∧ ∀ u, u < n → P u = true → key f t ≤ key f u
  | 0, _ => Or.inl (fun u hu => absurd hu (Nat.not_lt_zero _))
  | n + 1, h => by
    rcases top_ex hV P n (by omega) with q | ⟨t, h1, h2, h3⟩
    · by_cases hp : P n = true
      · exact Or.inr ⟨n, by omega, hp, fun u hu hpu => by
          rcases Nat.lt_or_ge u n with z | z
          · rw [q u z] at hpu; cases hpu
          · rw [show u = n by omega]; exact Int.le_refl _⟩
      · refine Or.inl (fun u hu => ?_)
        rcases Nat.lt_or_ge u n with z | z
        · exact q u z
        · rw [show u = n by omega]; exact Bool.eq_false_iff.mpr hp
    · by_cases hp : P n = true ∧ key f n < key f t
      · refine Or.inr ⟨n, by omega, hp.1, fun u hu hpu => ?_⟩
        rcases Nat.lt_or_ge u n with z | z
        · have := h3 u z hpu; omega
        · rw [show u = n by omega]; exact Int.le_refl _
      · refine Or.inr ⟨t, by omega, h2, fun u hu hpu => ?_⟩
        rcases Nat.lt_or_ge u n with z | z
        · exact h3 u z hpu
        · rw [show u = n by omega] at hpu ⊢
          rcases Int.lt_or_le (key f n) (key f t) with y | y
          · exact absurd ⟨hpu, y⟩ hp
          · exact y
theorem seenA_ex {f : St} {B : Int} (hV : Va B f) (S L cl : Nat) : TopI f S L cl (seenA f S L cl) := by
  rcases top_ex hV (fun u => S.testBit u && (dotsN f u L).testBit (31 - cl)) (nT f) (Nat.le_refl _) with q | ⟨t, h1, h2, h3⟩
  · refine seenA_top (r := -1) (Or.inl ⟨rfl, fun u hu a b => ?_⟩)
    have := q u hu
    rw [a, b] at this
    cases this
  · rw [Bool.and_eq_true] at h2
    refine seenA_top (r := t) (Or.inr ⟨t, h1, rfl, h2.1, h2.2, fun u hu a b => h3 u hu (by rw [a, b]; rfl)⟩)
theorem seenA_rg {f : St} {B : Int} (hV : Va B f) (S L cl : Nat) : seenA f S L cl = -1 ∨ (0 ≤ seenA f S L cl ∧ seenA f S L cl < nT f) := by
  rcases seenA_ex hV S L cl with ⟨h, -⟩ | ⟨t, ht, h, -⟩
  · exact Or.inl h
  · exact Or.inr (by omega)
theorem colA_rg {f : St} {B : Int} (hV : Va B f) (S L cl : Nat) : 0 ≤ colA f S L cl ∧ colA f S L cl ≤ 7 := by
  unfold colA
  have h := seenA_rg hV S L cl
  by_cases q : seenA f S L cl = -1
  · rw [if_pos q]; decide
  · rw [if_neg q]
    have := hV.t (t := (seenA f S L cl).toNat) (by omega)
    omega
/-- bit b of the COLOUR that is seen is the plane's -/
theorem plane_col {f : St} {B : Int} {S L : Nat} {sn pn : Nat → Nat} {fl : Nat} (hV : Va B f) (h : paI f S L 64 sn pn fl) {b : Nat} (hb : b < 3) (cl : Nat) : (pn b).testBit (31 - cl) = (colA f S L cl).toNat.testBit b := by
  have hn := hV.n
  rw [Bool.eq_iff_iff, h.2.2.2.2.2 b hb]
  unfold colA
  constructor
  · rintro ⟨t, h1, h2, h3⟩
    have g := (thing_bit h (by omega) (31 - cl) (key_lt hV)).mp h2
    have e := seenA_eq (r := t) hn.2 (Or.inr ⟨t, g.1, rfl, g.2.1, g.2.2.1, g.2.2.2⟩)
    rw [← e, if_neg (by omega), Int.toNat_natCast]
    exact h3
  · intro h1
    rcases seenA_ex hV S L cl with ⟨e, -⟩ | ⟨t, ht, e, g1, g2, g3⟩
    · rw [if_pos e] at h1
      rw [show (0 : Int).toNat = 0 from rfl, Nat.zero_testBit] at h1
      cases h1
    · rw [e, if_neg (by omega), Int.toNat_natCast] at h1
      exact ⟨t, ht, (thing_bit h (by omega) (31 - cl) (key_lt hV)).mpr ⟨ht, g1, g2, g3⟩, h1⟩
def orX (a b : Nat → Nat) : Nat → Nat
  | 0 => 0
  | j + 1 => orX a b j ||| (a j ^^^ b j)
theorem bits3 {a b : Nat} (ha : a < 8) (hb : b < 8) : (a ≠ b) ↔ ((a.testBit 0 ^^ b.testBit 0) || (a.testBit 1 ^^ b.testBit 1) || (a.testBit 2 ^^ b.testBit 2)) = true := by
  have : ∀ a, a < 8 → ∀ b, b < 8 → ((a ≠ b) ↔ ((a.testBit 0 ^^ b.testBit 0) || (a.testBit 1 ^^ b.testBit 1) || (a.testBit 2 ^^ b.testBit 2)) = true) := by decide +kernel
  exact this a ha b hb
theorem orX_col {f : St} {B : Int} {S S2 L : Nat} {sn pn sn2 pn2 : Nat → Nat} {fl fl2 : Nat} (hV : Va B f) (h : paI f S L 64 sn pn fl) (h2 : paI f S2 L 64 sn2 pn2 fl2) (cl : Nat) : (orX pn pn2 3).testBit (31 - cl) = decide (colA f S L cl ≠ colA f S2 L cl) := by
  have e1 := colA_rg hV S L cl
  have e2 := colA_rg hV S2 L cl
  have b := bits3 (a := (colA f S L cl).toNat) (b := (colA f S2 L cl).toNat) (by omega) (by omega)
  rw [← plane_col hV h (by decide) cl, ← plane_col hV h2 (by decide) cl, ← plane_col hV h (by decide) cl, ← plane_col hV h2 (by decide) cl, ← plane_col hV h (by decide) cl, ← plane_col hV h2 (by decide) cl] at b
  rw [Bool.eq_iff_iff, decide_eq_true_eq, show (colA f S L cl ≠ colA f S2 L cl) ↔ ((colA f S L cl).toNat ≠ (colA f S2 L cl).toNat) by omega, b]
  simp only [orX, Nat.testBit_or, Nat.testBit_xor, Nat.zero_testBit, Bool.false_or]
theorem orX_lt {a b : Nat → Nat} (ha : ∀ j, j < 3 → a j < 4294967296) (hb : ∀ j, j < 3 → b j < 4294967296) : ∀ j, j ≤ 3 → orX a b j < 4294967296
  | 0, _ => by show 0 < 4294967296; decide
  | j + 1, h => Nat.or_lt_two_pow (n := 32) (orX_lt ha hb j (by omega)) (Nat.xor_lt_two_pow (n := 32) (ha j (by omega)) (hb j (by omega)))
theorem thing_none {f : St} {B : Int} {S L : Nat} {sn pn : Nat → Nat} {fl cl : Nat} (hV : Va B f) (h : paI f S L 64 sn pn fl) (hno : ∀ u, u < 12 → (sn u).testBit (31 - cl) = false) : TopI f S L cl (-1) := by
  have hn := hV.n
  rcases top_ex hV (fun u => S.testBit u && (dotsN f u L).testBit (31 - cl)) (nT f) (Nat.le_refl _) with q | ⟨t, h1, h2, h3⟩
  · refine Or.inl ⟨rfl, fun u hu a b => ?_⟩
    have := q u hu
    rw [a, b] at this
    cases this
  · rw [Bool.and_eq_true] at h2
    have g := (thing_bit h (by omega) (31 - cl) (key_lt hV)).mpr ⟨h1, h2.1, h2.2, fun u hu a b => h3 u hu (by rw [a, b]; rfl)⟩
    rw [hno t (by omega)] at g
    cases g
