/-! HOLDERS -/
def fsN (p : Nat → Bool) : Nat → Nat
  | 0 => 0
  | n + 1 => if fsN p n < n then fsN p n else if p n then n else n + 1
theorem fsN_le (p : Nat → Bool) : ∀ n, fsN p n ≤ n
  | 0 => Nat.le_refl _
  | n + 1 => by
    have := fsN_le p n
    rw [fsN]
    split
    · omega
    · split <;> omega
theorem fsN_no (p : Nat → Bool) : ∀ n i, i < fsN p n → p i = false
  | 0, i, h => absurd h (Nat.not_lt_zero _)
  | n + 1, i, h => by
    have ih := fsN_no p n
    have hle := fsN_le p n
    rw [fsN] at h
    by_cases q : fsN p n < n
    · rw [if_pos q] at h; exact ih i h
    · rw [if_neg q] at h
      by_cases z : p n = true
      · rw [if_pos z] at h; exact ih i (by omega)
      · rw [if_neg z] at h
        by_cases y : i = n
        · subst y; exact Bool.eq_false_iff.mpr z
        · exact ih i (by omega)
theorem fsN_yes (p : Nat → Bool) : ∀ n, fsN p n < n → p (fsN p n) = true
  | 0, h => absurd h (Nat.not_lt_zero _)
  | n + 1, h => by
    have ih := fsN_yes p n
    rw [fsN] at h ⊢
    by_cases q : fsN p n < n
    · rw [if_pos q]; exact ih q
    · rw [if_neg q] at h ⊢
      by_cases z : p n = true
      · rw [if_pos z]; exact z
      · rw [if_neg z] at h; omega
theorem fsN_eq {p : Nat → Bool} {n h : Nat} (h1 : ∀ i, i < h → p i = false) (h2 : h ≤ n) (h3 : h = n ∨ p h = true) : h = fsN p n := by
  have a := fsN_no p n
  have b := fsN_yes p n
  have d := fsN_le p n
  rcases Nat.lt_trichotomy h (fsN p n) with q | q | q
  · have := a h q
    rcases h3 with h3 | h3
    · omega
    · rw [this] at h3; cases h3
  · exact q
  · have := h1 _ q
    rw [b (by omega)] at this
    cases this
theorem fsN_cong {p q : Nat → Bool} : ∀ {n : Nat}, (∀ i, i < n → p i = q i) → fsN p n = fsN q n
  | 0, _ => rfl
  | n + 1, h => by rw [fsN, fsN, fsN_cong (fun i hi => h i (by omega)), h n (by omega)]
abbrev HS : Type := Nat × (Nat → Int) × (Nat → Int)
def fhN (us : Nat) (en : Nat → Int) (y : Int) : Nat := fsN (fun h => decide (en h ≤ y)) us
def hstep (f : St) (y : Int) (t : Nat) (s : HS) : HS := if th f t 1 = y then (max s.1 (fhN s.1 s.2.1 y + 1), upZ s.2.1 (fhN s.1 s.2.1 y) (y + 8), upZ s.2.2 t (fhN s.1 s.2.1 y)) else s
def hin (f : St) (y : Int) : Nat → HS → HS
  | 0, s => s
  | t + 1, s => hstep f y t (hin f y t s)
def hout (f : St) : Nat → HS
  | 0 => (0, fun _ => 0, fun _ => 0)
  | j + 1 => hin f ((j : Int) - 8) (nT f) (hout f j)
def hc (f : St) (j tt : Nat) : HS := hin f ((j : Int) - 8) tt (hout f j)
def hsF (f : St) : HS := hout f 32
def prc (f : St) (j tt u : Nat) : Bool := decide (th f u 1 < (j : Int) - 8) || (decide (th f u 1 = (j : Int) - 8) && decide (u < tt))
def hoI (f : St) (j tt us : Nat) (en ho : Nat → Int) : Prop :=
  us = (hc f j tt).1 ∧ (∀ h, h < us → en h = (hc f j tt).2.1 h ∧ 0 ≤ en h ∧ en h ≤ 31) ∧ (∀ t, t < nT f → prc f j tt t = true → ho t = (hc f j tt).2.2 t) ∧ us ≤ ct (prc f j tt) (nT f)
theorem hoI_0 {f : St} {B : Int} (hV : Va B f) (en ho : Nat → Int) : hoI f 0 0 0 en ho := ⟨rfl, fun h hh => absurd hh (Nat.not_lt_zero _), fun t ht hp => by
  have := hV.t ht
  unfold prc at hp
  rw [Bool.or_eq_true, Bool.and_eq_true, decide_eq_true_eq, decide_eq_true_eq, decide_eq_true_eq] at hp
  omega, Nat.zero_le _⟩
theorem hoI_nx {f : St} {j us : Nat} {en ho : Nat → Int} (h : hoI f j (nT f) us en ho) : hoI f (j + 1) 0 us en ho := by
  have e : hc f (j + 1) 0 = hc f j (nT f) := rfl
  have ep : ∀ u, u < nT f → prc f (j + 1) 0 u = prc f j (nT f) u := by
    intro u hu
    unfold prc
    rw [Bool.eq_iff_iff, Bool.or_eq_true, Bool.or_eq_true, Bool.and_eq_true, Bool.and_eq_true, decide_eq_true_eq, decide_eq_true_eq, decide_eq_true_eq, decide_eq_true_eq, decide_eq_true_eq, decide_eq_true_eq]
    omega
  refine ⟨by rw [e]; exact h.1, by rw [e]; exact h.2.1, fun t ht hp => by rw [e]; exact h.2.2.1 t ht (by rw [← ep t ht]; exact hp), by rw [ct_cong ep]; exact h.2.2.2⟩
theorem hoI_lt {f : St} {j tt us : Nat} {en ho : Nat → Int} (h : hoI f j tt us en ho) (ht : tt < nT f) (hy : th f tt 1 = (j : Int) - 8) : us < nT f := Nat.lt_of_le_of_lt h.2.2.2 (ct_lt ht (by
  unfold prc
  rw [decide_eq_false (by omega), decide_eq_false (show ¬ tt < tt by omega), Bool.and_false]
  rfl))
theorem hoI_sk {f : St} {j tt us : Nat} {en ho : Nat → Int} (h : hoI f j tt us en ho) (ht : tt < nT f) (hy : th f tt 1 ≠ (j : Int) - 8) : hoI f j (tt + 1) us en ho := by
  have e : hc f j (tt + 1) = hc f j tt := if_neg hy
  have ep : ∀ u, u < nT f → prc f j (tt + 1) u = prc f j tt u := by
    intro u hu
    unfold prc
    by_cases q : u = tt
    · subst q
      rw [decide_eq_false hy, Bool.false_and, Bool.false_and]
    · rw [show decide (u < tt + 1) = decide (u < tt) from decide_eq_decide.mpr (by omega)]
  refine ⟨by rw [e]; exact h.1, by rw [e]; exact h.2.1, fun t ht hp => by rw [e]; exact h.2.2.1 t ht (by rw [← ep t ht]; exact hp), by rw [ct_cong ep]; exact h.2.2.2⟩
theorem hoI_put {f : St} {j tt us : Nat} {en ho : Nat → Int} (h : hoI f j tt us en ho) (ht : tt < nT f) (hy : th f tt 1 = (j : Int) - 8) (hj : j < 32) : hoI f j (tt + 1) (max us (fhN us en ((j : Int) - 8) + 1)) (upZ en (fhN us en ((j : Int) - 8)) ((j : Int) - 8 + 8)) (upZ ho tt (fhN us en ((j : Int) - 8))) := by
  obtain ⟨a1, a2, a3, a4⟩ := h
  have ef : fhN us en ((j : Int) - 8) = fhN (hc f j tt).1 (hc f j tt).2.1 ((j : Int) - 8) := by
    unfold fhN
    rw [← a1]
    exact fsN_cong (fun i hi => by rw [(a2 i hi).1])
  have e : hc f j (tt + 1) = (max (hc f j tt).1 (fhN (hc f j tt).1 (hc f j tt).2.1 ((j : Int) - 8) + 1), upZ (hc f j tt).2.1 (fhN (hc f j tt).1 (hc f j tt).2.1 ((j : Int) - 8)) ((j : Int) - 8 + 8), upZ (hc f j tt).2.2 tt (fhN (hc f j tt).1 (hc f j tt).2.1 ((j : Int) - 8))) := if_pos hy
  have hle := fsN_le (fun h => decide (en h ≤ (j : Int) - 8)) us
  change fhN us en ((j : Int) - 8) ≤ us at hle
  unfold hoI
  rw [e, ← ef]
  refine ⟨by dsimp only; rw [a1], fun i hi => ?_, fun t h1 hp => ?_, ?_⟩
  · dsimp only
    by_cases q : i = fhN us en ((j : Int) - 8)
    · rw [q, upZ_s, upZ_s]; exact ⟨rfl, by omega, by omega⟩
    · rw [upZ_n q, upZ_n q]; exact a2 i (by omega)
  · dsimp only
    by_cases q : t = tt
    · rw [q, upZ_s, upZ_s]
    · rw [upZ_n q, upZ_n q]
      refine a3 t h1 ?_
      rw [← hp]
      unfold prc
      rw [show decide (t < tt) = decide (t < tt + 1) from decide_eq_decide.mpr (by omega)]
  · have := ct_ins (p := prc f j tt) (q := prc f j (tt + 1)) ht (by unfold prc; rw [decide_eq_false (by omega), decide_eq_false (show ¬ tt < tt by omega), Bool.and_false]; rfl) (by unfold prc; rw [decide_eq_true hy, decide_eq_true (show tt < tt + 1 by omega)]; simp) (fun i hi hne => by unfold prc; rw [show decide (i < tt) = decide (i < tt + 1) from decide_eq_decide.mpr (by omega)])
    omega
theorem hoI_end {f : St} {B : Int} {us : Nat} {en ho : Nat → Int} (hV : Va B f) (h : hoI f 32 0 us en ho) : us = (hsF f).1 ∧ ∀ t, t < nT f → ho t = (hsF f).2.2 t := ⟨h.1, fun t ht => h.2.2.1 t ht (by
  have := hV.t ht
  unfold prc
  rw [decide_eq_true (by omega), Bool.true_or])⟩
theorem hin_ag {f g : St} (h : Ag f g) (y : Int) : ∀ t, t ≤ nT f → ∀ s, hin f y t s = hin g y t s
  | 0, _, s => rfl
  | t + 1, ht, s => by
    rw [hin, hin, hin_ag h y t (by omega) s]
    unfold hstep
    rw [h.th (by omega) (by decide)]
theorem hout_ag {f g : St} (h : Ag f g) : ∀ j, hout f j = hout g j
  | 0 => rfl
  | j + 1 => by rw [hout, hout, hout_ag h j, ← h.n, hin_ag h _ _ (Nat.le_refl _)]
theorem hsF_ag {f g : St} (h : Ag f g) : hsF f = hsF g := hout_ag h 32
