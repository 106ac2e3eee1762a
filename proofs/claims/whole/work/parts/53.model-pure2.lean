theorem dbz_0 {s : Nat} {p : Nat → Bool} {n : Nat} (h : p n = false) : ((s + ct p n : Nat) : Int) + 0 = ((s + ct p (n + 1) : Nat) : Int) := by rw [ct, h]; show _ = ((s + (ct p n + 0) : Nat) : Int); omega
theorem dbz_1 {s : Nat} {p : Nat → Bool} {n : Nat} (h : p n = true) : ((s + ct p n : Nat) : Int) + 1 = ((s + ct p (n + 1) : Nat) : Int) := by rw [ct, h]; show _ = ((s + (ct p n + 1) : Nat) : Int); omega
theorem seen_st {f : St} {B : Int} (hV : Va B f) {S L cl t : Nat} (h : seenA f S L cl = (t : Int)) : S.testBit t = true ∧ (dotsN f t L).testBit (31 - cl) = true := by
  rcases seenA_ex hV S L cl with ⟨e, -⟩ | ⟨u, hu, e, g1, g2, -⟩
  · omega
  · have : u = t := by omega
    subst this
    exact ⟨g1, g2⟩
theorem seeL_0 {f : St} {B : Int} (hV : Va B f) {t L : Nat} (h : (dN f L).testBit t = false) : seeL f t L = 0 := ct_zero (fun cl _ => decide_eq_false (fun q => by
  have := (seen_st hV q).1
  rw [h] at this
  cases this))
/-- what the reference's 'dotsOf' counts on a LINE -/
noncomputable def doL (f : St) (w : Int) (t L : Nat) : Nat := if w = 0 then seeL f t L else covL f t L
noncomputable def doP (f : St) (w : Int) (t L cl : Nat) : Bool := if w = 0 then decide (seenA f (dN f L) L cl = (t : Int)) else (dotsN f t L).testBit (31 - cl) && decide (seenA f (dN f L) L cl ≠ (t : Int))
theorem doL_in {f : St} {w : Int} {t L : Nat} (h : (dN f L).testBit t = true) : doL f w t L = ct (doP f w t L) 32 := by
  unfold doL
  by_cases q : w = 0
  · rw [if_pos q]
    exact ct_cong (fun cl _ => by unfold doP; rw [if_pos q])
  · rw [if_neg q, covL, if_pos h]
    exact ct_cong (fun cl _ => by unfold doP; rw [if_neg q])
theorem doL_out {f : St} {B : Int} (hV : Va B f) {w : Int} {t L : Nat} (h : (dN f L).testBit t = false) : doL f w t L = 0 := by
  unfold doL
  split
  · exact seeL_0 hV h
  · exact if_neg (by rw [h]; decide)
theorem doP_0y {f : St} {w : Int} {t L cl : Nat} (hw : w = 0) (h : seenA f (dN f L) L cl = (t : Int)) : doP f w t L cl = true := by unfold doP; rw [if_pos hw, decide_eq_true h]
theorem doP_0n {f : St} {w : Int} {t L cl : Nat} (hw : w = 0) (h : seenA f (dN f L) L cl ≠ (t : Int)) : doP f w t L cl = false := by unfold doP; rw [if_pos hw, decide_eq_false h]
theorem doP_d {f : St} {B : Int} (hV : Va B f) {w : Int} {t L cl : Nat} (h : (dotsN f t L).testBit (31 - cl) = false) : doP f w t L cl = false := by
  unfold doP
  split
  · exact decide_eq_false (fun q => by have := (seen_st hV q).2; rw [h] at this; cases this)
  · rw [h, Bool.false_and]
theorem doP_1y {f : St} {w : Int} {t L cl : Nat} (hw : w ≠ 0) (hd : (dotsN f t L).testBit (31 - cl) = true) (h : seenA f (dN f L) L cl ≠ (t : Int)) : doP f w t L cl = true := by unfold doP; rw [if_neg hw, hd, decide_eq_true h]; rfl
theorem doP_1n {f : St} {w : Int} {t L cl : Nat} (hw : w ≠ 0) (h : seenA f (dN f L) L cl = (t : Int)) : doP f w t L cl = false := by unfold doP; rw [if_neg hw, decide_eq_false (fun q => q h), Bool.and_false]
/-- MEETING, column by column -/
def anC (p : Nat → Bool) : Nat → Bool
  | 0 => false
  | n + 1 => anC p n || p n
theorem anC_ex (p : Nat → Bool) : ∀ n, anC p n = true ↔ ∃ i, i < n ∧ p i = true
  | 0 => ⟨fun h => absurd (show false = true from h) (by decide), fun ⟨i, h, _⟩ => absurd h (Nat.not_lt_zero _)⟩
  | n + 1 => by
    rw [anC, Bool.or_eq_true, anC_ex p n]
    constructor
    · rintro (⟨i, h1, h2⟩ | h)
      · exact ⟨i, by omega, h2⟩
      · exact ⟨n, by omega, h⟩
    · rintro ⟨i, h1, h2⟩
      by_cases q : i = n
      · subst q; exact Or.inr h2
      · exact Or.inl ⟨i, by omega, h2⟩
def bo (f : St) (L t u cl : Nat) : Bool := (dotsN f t L).testBit (31 - cl) && (dotsN f u L).testBit (31 - cl)
def mtB (f : St) (S L t cc uu i : Nat) : Bool := decide (i < nT f) && decide (i ≠ t) && S.testBit i && (anC (bo f L t i) cc || (decide (i < uu) && bo f L t i cc))
def mtI (f : St) (F : Nat → Nat) (j S t cc uu A : Nat) : Prop := ∀ i, A.testBit i = ((orS F j).testBit i || mtB f S j t cc uu i)
theorem mtB_00 (f : St) (S L t i : Nat) : mtB f S L t 0 0 i = false := by
  unfold mtB
  rw [decide_eq_false (show ¬ i < 0 by omega), anC]
  simp
theorem mtI_0 {f : St} {F : Nat → Nat} {j S t : Nat} : mtI f F j S t 0 0 (orS F j) := fun i => by rw [mtB_00, Bool.or_false]
theorem mtI_c {f : St} {F : Nat → Nat} {j S t cc A : Nat} (h : mtI f F j S t cc (nT f) A) : mtI f F j S t (cc + 1) 0 A := fun i => by
  rw [h i]
  congr 1
  unfold mtB
  rw [decide_eq_false (show ¬ i < 0 by omega), Bool.false_and, Bool.or_false, anC]
  by_cases q : i < nT f
  · rw [decide_eq_true q, Bool.true_and]; simp
  · rw [decide_eq_false q]; simp
theorem mtI_n {f : St} {F : Nat → Nat} {j S t cc uu A : Nat} (h : mtI f F j S t cc uu A) (hn : uu = t ∨ S.testBit uu = false ∨ bo f j t uu cc = false) : mtI f F j S t cc (uu + 1) (A ||| 0) := fun i => by
  rw [Nat.or_zero, h i]
  congr 1
  unfold mtB
  by_cases q : i = uu
  · subst q
    rw [decide_eq_false (show ¬ i < i by omega), decide_eq_true (show i < i + 1 by omega)]
    rcases hn with z | z | z
    · rw [decide_eq_false (show ¬ i ≠ t from fun y => y z)]; simp
    · rw [z]; simp
    · rw [z]; simp
  · rw [show decide (i < uu) = decide (i < uu + 1) from decide_eq_decide.mpr (by omega)]
theorem mtI_y {f : St} {F : Nat → Nat} {j S t cc uu A : Nat} (h : mtI f F j S t cc uu A) (hu : uu < nT f) (h1 : uu ≠ t) (h2 : S.testBit uu = true) (h3 : bo f j t uu cc = true) : mtI f F j S t cc (uu + 1) (A ||| 1 <<< uu) := fun i => by
  rw [Nat.testBit_or, h i, Nat.one_shiftLeft, Nat.testBit_two_pow]
  by_cases q : uu = i
  · subst q
    rw [decide_eq_true rfl, Bool.or_true]
    unfold mtB
    rw [decide_eq_true hu, decide_eq_true h1, h2, h3, decide_eq_true (show uu < uu + 1 by omega)]
    simp
  · rw [decide_eq_false q, Bool.or_false]
    congr 1
    unfold mtB
    rw [show decide (i < uu) = decide (i < uu + 1) from decide_eq_decide.mpr (by omega)]
theorem bo_and {f : St} {L t u : Nat} : anC (bo f L t u) 32 = decide (dotsN f t L &&& dotsN f u L ≠ 0) := by
  rw [Bool.eq_iff_iff, anC_ex, decide_eq_true_eq]
  have hlt := and_m (dotsN f t L) (dotsN f u L) (dotsN_lt f t L)
  constructor
  · rintro ⟨i, h1, h2⟩ h3
    unfold bo at h2
    rw [← Nat.testBit_and, h3, Nat.zero_testBit] at h2
    cases h2
  · intro h
    obtain ⟨i, hi⟩ := Nat.exists_testBit_of_ne_zero h
    have hi32 : i < 32 := by
      rcases Nat.lt_or_ge i 32 with q | q
      · exact q
      · rw [bit_big hlt q] at hi; cases hi
    refine ⟨31 - i, by omega, ?_⟩
    unfold bo
    rw [← Nat.testBit_and, show 31 - (31 - i) = i by omega]
    exact hi
theorem mtI_e {f : St} {G : Nat → Nat} {j t A : Nat} (h : mtI f (fun q => tchN f q (G q) t) j (G j) t 32 0 A) (hs : (G j).testBit t = true) : A = orS (fun q => tchN f q (G q) t) (j + 1) := Nat.eq_of_testBit_eq (fun i => by
  rw [h i, orS, Nat.testBit_or]
  congr 1
  unfold mtB tchN
  rw [if_pos hs, setP_bit, bo_and, decide_eq_false (show ¬ i < 0 by omega), Bool.false_and, Bool.or_false]
  cases decide (i < nT f) <;> cases decide (i ≠ t) <;> cases (G j).testBit i <;> rfl)
theorem orS_o {f : St} {G : Nat → Nat} {j t : Nat} (hs : (G j).testBit t = false) : orS (fun q => tchN f q (G q) t) j = orS (fun q => tchN f q (G q) t) (j + 1) := by
  rw [orS]
  have : tchN f j (G j) t = 0 := if_neg (by rw [hs]; decide)
  rw [this, Nat.or_zero]
theorem ct_on {f : St} {B : Int} (hV : Va B f) {t : Nat} (ht : t < nT f) : ((ct (fun q => onL f t q) 24 : Nat) : Int) = max (min (th f t 1 + 8) 24 - max (th f t 1) 0) 0 := by
  have hv := hV.t ht
  generalize hy : th f t 1 = y at hv ⊢
  have key : ∀ n : Nat, n ≤ 24 → ((ct (fun q => onL f t q) n : Nat) : Int) = max (min (y + 8) n - max y 0) 0 := by
    intro n
    induction n with
    | zero => intro _; rw [ct]; omega
    | succ n ih =>
      intro hn
      rw [ct]
      have e : onL f t n = decide (0 ≤ (n : Int) - y ∧ (n : Int) - y ≤ 7) := by
        unfold onL
        rw [hy, Bool.eq_iff_iff, Bool.and_eq_true, decide_eq_true_eq, decide_eq_true_eq, decide_eq_true_eq]
      rw [e]
      have := ih (by omega)
      by_cases q : 0 ≤ (n : Int) - y ∧ (n : Int) - y ≤ 7
      · rw [decide_eq_true q]; show ((_ + 1 : Nat) : Int) = _; omega
      · rw [decide_eq_false q]; show ((_ + 0 : Nat) : Int) = _; omega
  exact key 24 (Nat.le_refl _)
