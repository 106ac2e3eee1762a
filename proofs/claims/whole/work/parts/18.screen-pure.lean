/-! WHAT IS ASKED of a scene as it stands -/
theorem ct_rev (p : Nat → Bool) : ct (fun i => p i) 32 = ct (fun cl => p (31 - cl)) 32 := (ct_perm (o := fun cl => 31 - cl) (fun i hi => by omega) (fun i j hi hj e => by omega) p).symm
theorem onS_lt {f : St} {B : Int} (hV : Va B f) (L : Nat) : onS f L < 4096 := setP_lt12 _ hV.n.2
theorem drS_lt {f : St} {B : Int} (hV : Va B f) (ru lim : Int) (L : Nat) : drS f ru lim L < 4096 := setP_lt12 _ hV.n.2
theorem pc32_le (n : Nat) : pc32 n ≤ 32 := ct_le _ 32
theorem sm_le {F : Nat → Nat} {b : Nat} (h : ∀ i, F i ≤ b) : ∀ n, sm F n ≤ n * b
  | 0 => by rw [sm]; omega
  | n + 1 => by have := sm_le h n; have := h n; rw [sm, Nat.succ_mul]; omega
noncomputable def misL (f : St) (ru : Int) (L : Nat) : Nat := if drS f ru (f 1) L = onS f L then 0 else ct (fun cl => decide (colA f (drS f ru (f 1) L) L cl ≠ colA f (onS f L) L cl)) 32
noncomputable def misF (f : St) (ru : Int) : Nat := sm (fun L => misL f ru L) 24
theorem misL_le (f : St) (ru : Int) (L : Nat) : misL f ru L ≤ 32 := by
  unfold misL
  split
  · omega
  · exact ct_le _ _
theorem misF_le (f : St) (ru : Int) : misF f ru ≤ 768 := sm_le (misL_le f ru) 24
theorem mis_pc {f : St} {B : Int} {S S2 L : Nat} {sn pn sn2 pn2 : Nat → Nat} {fl fl2 : Nat} (hV : Va B f) (h : paI f S L 64 sn pn fl) (h2 : paI f S2 L 64 sn2 pn2 fl2) : pc32 (orX pn pn2 3) = ct (fun cl => decide (colA f S L cl ≠ colA f S2 L cl)) 32 := by
  unfold pc32
  rw [ct_rev]
  exact ct_cong (fun cl _ => orX_col hV h h2 cl)
noncomputable def brk (f : St) : Nat → Nat × Nat
  | 0 => (0, misF f 0)
  | j + 1 => if misF f ((j + 1 : Nat) : Int) < (brk f j).2 then (j + 1, misF f ((j + 1 : Nat) : Int)) else brk f j
theorem brk_le (f : St) : ∀ j, (brk f j).1 ≤ j ∧ (brk f j).2 ≤ 768
  | 0 => ⟨Nat.le_refl _, misF_le f 0⟩
  | j + 1 => by
    have := brk_le f j
    have h2 := misF_le f ((j + 1 : Nat) : Int)
    rw [brk]
    split
    · exact ⟨Nat.le_refl _, h2⟩
    · omega
theorem brk_t {f : St} {j : Nat} (h : misF f ((j + 1 : Nat) : Int) < (brk f j).2) : brk f (j + 1) = (j + 1, misF f ((j + 1 : Nat) : Int)) := by rw [brk, if_pos h]
theorem brk_f {f : St} {j : Nat} (h : ¬ misF f ((j + 1 : Nat) : Int) < (brk f j).2) : brk f (j + 1) = brk f j := by rw [brk, if_neg h]
def enN (f : St) : Nat → Nat
  | 0 => 1
  | j + 1 => max (enN f j) (pc32 (onS f j))
theorem enN_le (f : St) : ∀ j, enN f j ≤ 32
  | 0 => by rw [enN]; omega
  | j + 1 => by have := enN_le f j; have := pc32_le (onS f j); rw [enN]; omega
/-- the SET of those DRAWN on a LINE now -/
def dN (f : St) (L : Nat) : Nat := drS f (f 2) (f 1) L
theorem dN_lt {f : St} {B : Int} (hV : Va B f) (L : Nat) : dN f L < 4096 := drS_lt hV _ _ L
noncomputable def fillL (f : St) (L : Nat) : Nat := ct (fun cl => decide (seenA f (dN f L) L cl ≠ -1)) 32
noncomputable def seeL (f : St) (t L : Nat) : Nat := ct (fun cl => decide (seenA f (dN f L) L cl = (t : Int))) 32
noncomputable def covL (f : St) (t L : Nat) : Nat := if (dN f L).testBit t then ct (fun cl => (dotsN f t L).testBit (31 - cl) && decide (seenA f (dN f L) L cl ≠ (t : Int))) 32 else 0
theorem fill_pc {f : St} {B : Int} {S L : Nat} {sn pn : Nat → Nat} {fl : Nat} (hV : Va B f) (h : paI f S L 64 sn pn fl) : pc32 fl = ct (fun cl => decide (seenA f S L cl ≠ -1)) 32 := by
  unfold pc32
  rw [ct_rev]
  apply ct_cong
  intro cl _
  rw [Bool.eq_iff_iff, decide_eq_true_eq, h.2.2.2.1]
  rcases seenA_ex hV S L cl with ⟨e, hno⟩ | ⟨t, ht, e, g1, g2, g3⟩
  · exact ⟨fun ⟨u, a, b, _, d⟩ => (hno u a b d).elim, fun q => absurd e q⟩
  · exact ⟨fun _ => by omega, fun _ => ⟨t, ht, g1, key_lt hV t ht, g2⟩⟩
theorem see_bit {f : St} {B : Int} {S L : Nat} {sn pn : Nat → Nat} {fl : Nat} (hV : Va B f) (h : paI f S L 64 sn pn fl) {t : Nat} (ht : t < nT f) (cl : Nat) : (sn t).testBit (31 - cl) = decide (seenA f S L cl = (t : Int)) := by
  have hn := hV.n
  rw [Bool.eq_iff_iff, decide_eq_true_eq, thing_bit h (by omega) _ (key_lt hV)]
  constructor
  · rintro ⟨a, b⟩
    exact (seenA_eq hn.2 (Or.inr ⟨t, a, rfl, b⟩)).symm
  · intro q
    rcases seenA_ex hV S L cl with ⟨e, -⟩ | ⟨u, hu, e, g⟩
    · omega
    · have : u = t := by omega
      subst this
      exact ⟨hu, g⟩
theorem see_pc {f : St} {B : Int} {S L : Nat} {sn pn : Nat → Nat} {fl : Nat} (hV : Va B f) (h : paI f S L 64 sn pn fl) {t : Nat} (ht : t < nT f) : pc32 (sn t) = ct (fun cl => decide (seenA f S L cl = (t : Int))) 32 := by
  unfold pc32
  rw [ct_rev]
  exact ct_cong (fun cl _ => see_bit hV h ht cl)
theorem cov_pc {f : St} {B : Int} {S L : Nat} {sn pn : Nat → Nat} {fl : Nat} (hV : Va B f) (h : paI f S L 64 sn pn fl) {t : Nat} (ht : t < nT f) : pc32 (dotsN f t L &&& (2 ^ 32 - (sn t + 1))) = ct (fun cl => (dotsN f t L).testBit (31 - cl) && decide (seenA f S L cl ≠ (t : Int))) 32 := by
  have hn := hV.n
  unfold pc32
  rw [ct_rev]
  apply ct_cong
  intro cl hcl
  rw [Nat.testBit_and, not_bit (h.2.1 t (by omega)), see_bit hV h ht, decide_eq_true (show 31 - cl < 32 by omega), Bool.true_and]
  congr 1
  by_cases q : seenA f S L cl = (t : Int)
  · rw [decide_eq_true q, decide_eq_false (fun z => z q)]; rfl
  · rw [decide_eq_false q, decide_eq_true q]; rfl
def drpS (f : St) (t : Nat) : Nat := setP (fun L => onL f t L && !(dN f L).testBit t) 24
def tchN (f : St) (L S t : Nat) : Nat := if S.testBit t then setP (fun u => decide (u ≠ t) && S.testBit u && decide (dotsN f t L &&& dotsN f u L ≠ 0)) (nT f) else 0
theorem tchN_lt {f : St} {B : Int} (hV : Va B f) (L S t : Nat) : tchN f L S t < 4096 := by
  unfold tchN
  split
  · exact setP_lt12 _ hV.n.2
  · decide
def orS (F : Nat → Nat) : Nat → Nat
  | 0 => 0
  | j + 1 => orS F j ||| F j
theorem orS_lt {F : Nat → Nat} (h : ∀ i, F i < 4096) : ∀ n, orS F n < 4096
  | 0 => by show 0 < 4096; decide
  | n + 1 => Nat.or_lt_two_pow (n := 12) (orS_lt h n) (h n)
theorem and_m (a b : Nat) (h : a < 4294967296) : a &&& b < 4294967296 := by rw [Nat.and_comm]; exact Nat.and_lt_two_pow (n := 32) b h
