/-! FOR THE REFERENCE'S deeds -/
theorem cpZ_0 (f g : Nat → Int) (sp dp : Nat) : cpZ f g sp dp 0 = g := by
  funext i
  exact cpZ_out (by omega)
theorem cpZ_s {g h : Nat → Int} {sp dp j i : Nat} {v : Int} (hi : i = dp + j) (hv : v = g (sp + j)) : upZ (cpZ g h sp dp j) i v = cpZ g h sp dp (j + 1) := by
  subst hi
  subst hv
  funext k
  unfold upZ cpZ
  by_cases q : k = dp + j
  · subst q
    rw [if_pos rfl, if_pos (by omega), show dp + j - dp = j by omega]
  · rw [if_neg q]
    by_cases q2 : dp ≤ k ∧ k < dp + j
    · rw [if_pos q2, if_pos (by omega)]
    · rw [if_neg q2, if_neg (by omega)]
def ntD (de : Nat) : Nat := if de = 20 then 19 else de
def ntP (pa : Nat → Int) (de : Nat) : Nat → Int := if de = 20 then cpZ pa pa 132 0 2508 else pa
abbrev HM : Type := Nat × (Nat → Int)
def ntH (f : St) (h : HM) : HM := (ntD h.1 + 1, cpZ f (ntP h.2 h.1) 0 (132 * ntD h.1) 132)
theorem ntD_lt {de : Nat} (h : de ≤ 20) : ntD de < 20 := by unfold ntD; split <;> omega
theorem nextZ_hi {f : St} {i : Nat} (h : 36 + 8 * nT f ≤ i) : nextZ f i = f i := by
  unfold nextZ nz
  rw [if_neg (by omega), if_neg (by omega), if_neg (by omega)]
theorem itZ_hi {f : St} {i : Nat} (h : 36 + 8 * nT f ≤ i) : ∀ j, itZ f j i = f i
  | 0 => rfl
  | j + 1 => by
    show nextZ (itZ f j) i = f i
    rw [nextZ_hi (by rw [itZ_n]; exact h), itZ_hi h j]
theorem asid {f az : St} {B : Int} (hV : Va B f) (n : Nat) : cpZ (cpZ f az 0 0 132) (itZ f n) 0 0 132 = f := by
  funext i
  have hn := hV.n
  by_cases q : i < 132
  · rw [cpZ_in (Nat.zero_le _) (by omega), cpZ_in (Nat.zero_le _) (by omega)]
    congr 1
    omega
  · rw [cpZ_out (by omega), itZ_hi (by omega)]
def takM (f : St) (t : Nat) : St := upZ (cpZ f f (36 + 8 * t + 8) (36 + 8 * t) (88 - 8 * t)) 0 (f 0 - 1)
theorem drp_ones {f : St} {t : Nat} (ht : t < nT f) : ct (fun i => (drpS f t).testBit i) 24 = cdN f t := ct_cong (fun i hi => by
  unfold drpS dpB
  rw [setP_bit, decide_eq_true hi, Bool.true_and, onS_bit, decide_eq_true ht, Bool.true_and])
def drM (f : St) (v : Int) (h : HM) : Nat → HM
  | 0 => h
  | j + 1 => if nT (dri f v j).1 < 12 then ntH (dri f v j).1 (drM f v h j) else drM f v h j
theorem drM_t {f : St} {v : Int} {h0 : HM} {j : Nat} (h : nT (dri f v j).1 < 12) : drM f v h0 (j + 1) = ntH (dri f v j).1 (drM f v h0 j) := by rw [drM, if_pos h]
theorem drM_full {f : St} {v : Int} {h0 : HM} {j : Nat} (h : ¬ nT (dri f v j).1 < 12) : ∀ d, drM f v h0 (j + d) = drM f v h0 j
  | 0 => rfl
  | d + 1 => by
    show drM f v h0 ((j + d) + 1) = _
    rw [drM, if_neg (by rw [(dri_full (h0 := (0, 0, fun _ => f)) h d).1]; exact h), drM_full h d]
theorem drM_ok {f : St} {v : Int} {h0 : HM} (h : h0.1 ≤ 20) : ∀ j, (drM f v h0 j).1 ≤ 20
  | 0 => h
  | j + 1 => by
    rw [drM]
    have := drM_ok (f := f) (v := v) h j
    split
    · have h2 := ntD_lt this
      show ntD _ + 1 ≤ 20
      omega
    · exact this
theorem lef_s (f : St) (n t : Nat) : ((lefN f n t : Nat) : Int) + ((cdN (itZ f n) t : Nat) : Int) = ((lefN f (n + 1) t : Nat) : Int) := by
  rw [show lefN f (n + 1) t = lefN f n t + cdN (itZ f n) t from rfl]
  omega
theorem wst_n {f : St} {n : Nat} (h : nT f ≤ 12) : (wsT (lefN f n) (nT f)).1 = (wsT (lefN f n) 12).1 := by
  have := wsT_0 (F := lefN f n) (n := nT f) (fun i hi => lefN_out hi) (12 - nT f)
  rw [show nT f + (12 - nT f) = 12 by omega] at this
  rw [this]
