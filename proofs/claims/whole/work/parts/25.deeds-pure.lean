/-! DEEDS keep a scene a scene, and rows that agree in agreement -/
def rgF (w : Nat) (v : Int) : Prop := (w = 0 → -8 ≤ v ∧ v ≤ 31) ∧ (w = 1 → -8 ≤ v ∧ v ≤ 23) ∧ (w = 2 → 0 ≤ v ∧ v ≤ 3) ∧ (w = 3 → 0 ≤ v ∧ v ≤ 3) ∧ (w = 4 → 0 ≤ v ∧ v ≤ 3) ∧ (w = 5 → 1 ≤ v ∧ v ≤ 7) ∧ (w = 6 → -8 ≤ v ∧ v ≤ 8) ∧ (w = 7 → -8 ≤ v ∧ v ≤ 8)
theorem nT_up {f : St} {i : Nat} {v : Int} (h : i ≠ 0) : nT (upZ f i v) = nT f := by unfold nT; rw [upZ_n (Ne.symm h)]
theorem th_up_s {f : St} {t w : Nat} {v : Int} : th (upZ f (36 + 8 * t + w) v) t w = v := by unfold th; rw [upZ_s]
theorem th_up_n {f : St} {i t w : Nat} {v : Int} (h : 36 + 8 * t + w ≠ i) : th (upZ f i v) t w = th f t w := by unfold th; rw [upZ_n h]
theorem Va_set {f : St} {B v : Int} {t w : Nat} (hV : Va B f) (hw : w < 8) (h : rgF w v) : Va B (upZ f (36 + 8 * t + w) v) := by
  have e : ∀ i, i < 36 → upZ f (36 + 8 * t + w) v i = f i := fun i hi => upZ_n (by omega)
  refine ⟨by rw [e 0 (by decide)]; exact hV.1, by rw [e 1 (by decide)]; exact hV.2.1, by rw [e 2 (by decide)]; exact hV.2.2.1, by rw [e 3 (by decide)]; exact hV.2.2.2.1, fun j h1 h2 => by rw [e j h2]; exact hV.p h1 h2, fun u hu => ?_⟩
  rw [nT_up (by omega)] at hu
  have hv := hV.t hu
  have key : ∀ x, x < 8 → (∀ P : Int → Prop, P (th f u x) → (x = w → P v) → P (th (upZ f (36 + 8 * t + w) v) u x)) := by
    intro x hx P h1 h2
    by_cases q : 36 + 8 * u + x = 36 + 8 * t + w
    · have q1 : u = t := by omega
      have q2 : x = w := by omega
      subst q1; subst q2
      rw [th_up_s]; exact h2 rfl
    · rw [th_up_n q]; exact h1
  obtain ⟨r0, r1, r2, r3, r4, r5, r6, r7⟩ := h
  obtain ⟨v0, v1, v2, v3, v4, v5, v6, v7⟩ := hv
  exact ⟨key 0 (by decide) (fun z => -8 ≤ z ∧ z ≤ 31) v0 (fun q => r0 q.symm), key 1 (by decide) (fun z => -8 ≤ z ∧ z ≤ 23) v1 (fun q => r1 q.symm), key 2 (by decide) (fun z => 0 ≤ z ∧ z ≤ 3) v2 (fun q => r2 q.symm), key 3 (by decide) (fun z => 0 ≤ z ∧ z ≤ 3) v3 (fun q => r3 q.symm), key 4 (by decide) (fun z => 0 ≤ z ∧ z ≤ 3) v4 (fun q => r4 q.symm), key 5 (by decide) (fun z => 1 ≤ z ∧ z ≤ 7) v5 (fun q => r5 q.symm), key 6 (by decide) (fun z => -8 ≤ z ∧ z ≤ 8) v6 (fun q => r6 q.symm), key 7 (by decide) (fun z => -8 ≤ z ∧ z ≤ 8) v7 (fun q => r7 q.symm)⟩
theorem Va_low {f : St} {B v : Int} {i : Nat} (hV : Va B f) (h0 : 0 < i) (hi : i < 36) (h1 : i = 1 → 1 ≤ v ∧ v ≤ 8) (h2 : i = 2 → 0 ≤ v ∧ v ≤ 3) (h3 : i ≠ 3) (h4 : 4 ≤ i → 0 ≤ v ∧ v ≤ 255) : Va B (upZ f i v) := by
  have e : ∀ j, j ≠ i → upZ f i v j = f j := fun j hj => upZ_n hj
  have key : ∀ j, (∀ P : Int → Prop, P (f j) → (j = i → P v) → P (upZ f i v j)) := by
    intro j P a b
    by_cases q : j = i
    · subst q; rw [upZ_s]; exact b rfl
    · rw [e j q]; exact a
  refine ⟨by rw [e 0 (by omega)]; exact hV.1, key 1 (fun z => 1 ≤ z ∧ z ≤ 8) hV.2.1 (fun q => h1 q.symm), key 2 (fun z => 0 ≤ z ∧ z ≤ 3) hV.2.2.1 (fun q => h2 q.symm), by rw [e 3 (fun q => h3 q.symm)]; exact hV.2.2.2.1, fun j a b => key j (fun z => 0 ≤ z ∧ z ≤ 255) (hV.p a b) (fun q => h4 (by omega)), fun u hu => ?_⟩
  rw [nT_up (by omega)] at hu
  have hth : ∀ w, w < 8 → th (upZ f i v) u w = th f u w := fun w hw => th_up_n (by omega)
  rw [hth 0 (by decide), hth 1 (by decide), hth 2 (by decide), hth 3 (by decide), hth 4 (by decide), hth 5 (by decide), hth 6 (by decide), hth 7 (by decide)]
  exact hV.t hu
theorem Ag_up {f g : St} (h : Ag f g) {i : Nat} (hi : i ≠ 0) (v : Int) : Ag (upZ f i v) (upZ g i v) := by
  intro j hj
  rw [nT_up hi] at hj
  by_cases q : j = i
  · subst q; rw [upZ_s, upZ_s]
  · rw [upZ_n q, upZ_n q]; exact h j hj
theorem addZ_n {f : St} {x y pi tu le co : Int} (h0 : 0 ≤ f 0) : nT (addZ f x y pi tu le co) = nT f + 1 := by
  unfold addZ nT
  rw [upZ_s]
  omega
theorem addZ_low {f : St} {x y pi tu le co : Int} {i : Nat} (h0 : i ≠ 0) (hi : i < 36 + 8 * nT f) : addZ f x y pi tu le co i = f i := by
  unfold addZ
  rw [upZ_n h0, upZ_n (by omega), upZ_n (by omega), upZ_n (by omega), upZ_n (by omega), upZ_n (by omega), upZ_n (by omega), upZ_n (by omega), upZ_n (by omega)]
theorem addZ_new {f : St} {x y pi tu le co : Int} : th (addZ f x y pi tu le co) (nT f) 0 = x ∧ th (addZ f x y pi tu le co) (nT f) 1 = y ∧ th (addZ f x y pi tu le co) (nT f) 2 = pi ∧ th (addZ f x y pi tu le co) (nT f) 3 = tu ∧ th (addZ f x y pi tu le co) (nT f) 4 = le ∧ th (addZ f x y pi tu le co) (nT f) 5 = co ∧ th (addZ f x y pi tu le co) (nT f) 6 = 0 ∧ th (addZ f x y pi tu le co) (nT f) 7 = 0 := by
  unfold th addZ upZ
  refine ⟨?_, ?_, ?_, ?_, ?_, ?_, ?_, ?_⟩ <;> simp
theorem Va_add {f : St} {B x y pi tu le co : Int} (hV : Va B f) (hn : nT f < 12) (h0 : rgF 0 x) (h1 : rgF 1 y) (h2 : rgF 2 pi) (h3 : rgF 3 tu) (h4 : rgF 4 le) (h5 : rgF 5 co) : Va B (addZ f x y pi tu le co) := by
  have hn0 := hV.n
  have hv0 := hV.1
  have e : ∀ i, i ≠ 0 → i < 36 → addZ f x y pi tu le co i = f i := fun i h h2 => addZ_low h (by omega)
  have e0 : addZ f x y pi tu le co 0 = f 0 + 1 := upZ_s
  refine ⟨by rw [e0]; omega, by rw [e 1 (by decide) (by decide)]; exact hV.2.1, by rw [e 2 (by decide) (by decide)]; exact hV.2.2.1, by rw [e 3 (by decide) (by decide)]; exact hV.2.2.2.1, fun j a b => by rw [e j (by omega) b]; exact hV.p a b, fun u hu => ?_⟩
  rw [addZ_n (by omega)] at hu
  by_cases q : u = nT f
  · subst q
    obtain ⟨n0, n1, n2, n3, n4, n5, n6, n7⟩ := addZ_new (f := f) (x := x) (y := y) (pi := pi) (tu := tu) (le := le) (co := co)
    rw [n0, n1, n2, n3, n4, n5, n6, n7]
    exact ⟨h0.1 rfl, h1.2.1 rfl, h2.2.2.1 rfl, h3.2.2.2.1 rfl, h4.2.2.2.2.1 rfl, h5.2.2.2.2.2.1 rfl, by decide, by decide⟩
  · have hth : ∀ w, w < 8 → th (addZ f x y pi tu le co) u w = th f u w := fun w hw => addZ_low (by omega) (by omega)
    rw [hth 0 (by decide), hth 1 (by decide), hth 2 (by decide), hth 3 (by decide), hth 4 (by decide), hth 5 (by decide), hth 6 (by decide), hth 7 (by decide)]
    exact hV.t (by omega)
theorem Ag_add {f g : St} {B : Int} (hV : Va B f) (h : Ag f g) (x y pi tu le co : Int) : Ag (addZ f x y pi tu le co) (addZ g x y pi tu le co) := by
  have hn := hV.n
  intro i hi
  rw [addZ_n hV.1.1] at hi
  by_cases q : i < 36 + 8 * nT f
  · by_cases q0 : i = 0
    · subst q0
      show upZ _ 0 _ 0 = upZ _ 0 _ 0
      rw [upZ_s, upZ_s, h.c (by decide)]
    · rw [addZ_low q0 q, addZ_low q0 (by rw [← h.n]; exact q)]
      exact h i q
  · have hq : ∃ w, w < 8 ∧ i = 36 + 8 * nT f + w := ⟨i - (36 + 8 * nT f), by omega, by omega⟩
    obtain ⟨w, hw, rfl⟩ := hq
    have a := addZ_new (f := f) (x := x) (y := y) (pi := pi) (tu := tu) (le := le) (co := co)
    have b := addZ_new (f := g) (x := x) (y := y) (pi := pi) (tu := tu) (le := le) (co := co)
    rw [← h.n] at b
    show th (addZ f x y pi tu le co) (nT f) w = th (addZ g x y pi tu le co) (nT f) w
    rcases (show w = 0 ∨ w = 1 ∨ w = 2 ∨ w = 3 ∨ w = 4 ∨ w = 5 ∨ w = 6 ∨ w = 7 by omega) with e | e | e | e | e | e | e | e <;> subst e
    · rw [a.1, b.1]
    · rw [a.2.1, b.2.1]
    · rw [a.2.2.1, b.2.2.1]
    · rw [a.2.2.2.1, b.2.2.2.1]
    · rw [a.2.2.2.2.1, b.2.2.2.2.1]
    · rw [a.2.2.2.2.2.1, b.2.2.2.2.2.1]
    · rw [a.2.2.2.2.2.2.1, b.2.2.2.2.2.2.1]
    · rw [a.2.2.2.2.2.2.2, b.2.2.2.2.2.2.2]
theorem takeC_n {f : St} {B : Int} {t : Nat} (hV : Va B f) (ht : t < nT f) : nT (takeC f t) = nT f - 1 := by
  have := hV.1
  unfold takeC nT
  rw [upZ_s]
  omega
theorem takeC_low {f : St} {t i : Nat} (h0 : i ≠ 0) (hi : i < 36 + 8 * t) : takeC f t i = f i := by
  unfold takeC
  rw [upZ_n h0, cpZ_out (by omega)]
theorem takeC_hi {f : St} {t i : Nat} (h1 : 36 + 8 * t ≤ i) (h2 : i < 36 + 8 * (nT f - 1)) : takeC f t i = f (i + 8) := by
  unfold takeC
  rw [upZ_n (by omega), cpZ_in (by omega) (by omega)]
  congr 1
  omega
theorem Va_take {f : St} {B : Int} {t : Nat} (hV : Va B f) (ht : t < nT f) : Va B (takeC f t) := by
  have hn := hV.n
  have hv0 := hV.1
  have e : ∀ i, i ≠ 0 → i < 36 → takeC f t i = f i := fun i h h2 => takeC_low h (by omega)
  have e0 : takeC f t 0 = f 0 - 1 := upZ_s
  refine ⟨by rw [e0]; omega, by rw [e 1 (by decide) (by decide)]; exact hV.2.1, by rw [e 2 (by decide) (by decide)]; exact hV.2.2.1, by rw [e 3 (by decide) (by decide)]; exact hV.2.2.2.1, fun j a b => by rw [e j (by omega) b]; exact hV.p a b, fun u hu => ?_⟩
  rw [takeC_n hV ht] at hu
  by_cases q : u < t
  · have hth : ∀ w, w < 8 → th (takeC f t) u w = th f u w := fun w hw => takeC_low (by omega) (by omega)
    rw [hth 0 (by decide), hth 1 (by decide), hth 2 (by decide), hth 3 (by decide), hth 4 (by decide), hth 5 (by decide), hth 6 (by decide), hth 7 (by decide)]
    exact hV.t (by omega)
  · have hth : ∀ w, w < 8 → th (takeC f t) u w = th f (u + 1) w := fun w hw => (takeC_hi (by omega) (by omega)).trans (by unfold th; congr 1; omega)
    rw [hth 0 (by decide), hth 1 (by decide), hth 2 (by decide), hth 3 (by decide), hth 4 (by decide), hth 5 (by decide), hth 6 (by decide), hth 7 (by decide)]
    exact hV.t (by omega)
theorem dw_rg (v : Int) (j : Nat) {n : Int} (hn : 0 < n) : 0 ≤ dw v j n ∧ dw v j n < n := ⟨Int.emod_nonneg _ (by omega), Int.emod_lt_of_pos _ hn⟩
theorem Va_df {f : St} {B v : Int} (hV : Va B f) (hn : nT f < 12) : Va B (dfZ f v) := by
  have a1 := dw_rg v 1 (show (0 : Int) < 32 by decide)
  have a2 := dw_rg v 2 (show (0 : Int) < 24 by decide)
  have a3 := dw_rg v 3 (show (0 : Int) < 4 by decide)
  have a4 := dw_rg v 4 (show (0 : Int) < 4 by decide)
  have a5 := dw_rg v 5 (show (0 : Int) < 4 by decide)
  have a6 := dw_rg v 6 (show (0 : Int) < 7 by decide)
  exact Va_add hV hn ⟨by omega, by omega, by omega, by omega, by omega, by omega, by omega, by omega⟩ ⟨by omega, by omega, by omega, by omega, by omega, by omega, by omega, by omega⟩ ⟨by omega, by omega, by omega, by omega, by omega, by omega, by omega, by omega⟩ ⟨by omega, by omega, by omega, by omega, by omega, by omega, by omega, by omega⟩ ⟨by omega, by omega, by omega, by omega, by omega, by omega, by omega, by omega⟩ ⟨by omega, by omega, by omega, by omega, by omega, by omega, by omega, by omega⟩
theorem nxI_rg {v : Int} (h : 0 ≤ v ∧ v < 2147483648) : ∀ j, 0 ≤ nxI v j ∧ nxI v j < 2147483648
  | 0 => h
  | j + 1 => nxS_rg _
def mvZ (f : St) (t : Nat) (x y : Int) : St := upZ (upZ f (36 + 8 * t + 0) x) (36 + 8 * t + 1) y
def tuZ (f : St) (t : Nat) (x y : Int) : St := upZ (upZ f (36 + 8 * t + 3) x) (36 + 8 * t + 4) y
def spZ (f : St) (t : Nat) (x y : Int) : St := upZ (upZ f (36 + 8 * t + 6) x) (36 + 8 * t + 7) y
theorem Va_mv {f : St} {B x y : Int} {t : Nat} (hV : Va B f) (hx : -8 ≤ x ∧ x ≤ 31) (hy : -8 ≤ y ∧ y ≤ 23) : Va B (mvZ f t x y) := Va_set (Va_set hV (by decide) ⟨fun _ => hx, by omega, by omega, by omega, by omega, by omega, by omega, by omega⟩) (by decide) ⟨by omega, fun _ => hy, by omega, by omega, by omega, by omega, by omega, by omega⟩
theorem Va_tu {f : St} {B x y : Int} {t : Nat} (hV : Va B f) (hx : 0 ≤ x ∧ x ≤ 3) (hy : 0 ≤ y ∧ y ≤ 3) : Va B (tuZ f t x y) := Va_set (Va_set hV (by decide) ⟨by omega, by omega, by omega, fun _ => hx, by omega, by omega, by omega, by omega⟩) (by decide) ⟨by omega, by omega, by omega, by omega, fun _ => hy, by omega, by omega, by omega⟩
theorem Va_sp {f : St} {B x y : Int} {t : Nat} (hV : Va B f) (hx : -8 ≤ x ∧ x ≤ 8) (hy : -8 ≤ y ∧ y ≤ 8) : Va B (spZ f t x y) := Va_set (Va_set hV (by decide) ⟨by omega, by omega, by omega, by omega, by omega, by omega, fun _ => hx, by omega⟩) (by decide) ⟨by omega, by omega, by omega, by omega, by omega, by omega, by omega, fun _ => hy⟩
theorem nT_mv (f : St) (t : Nat) (x y : Int) : nT (mvZ f t x y) = nT f := by unfold mvZ; rw [nT_up (by omega), nT_up (by omega)]
theorem nT_tu (f : St) (t : Nat) (x y : Int) : nT (tuZ f t x y) = nT f := by unfold tuZ; rw [nT_up (by omega), nT_up (by omega)]
theorem Ag_mv {f g : St} (h : Ag f g) (t : Nat) (x y : Int) : Ag (mvZ f t x y) (mvZ g t x y) := Ag_up (Ag_up h (by omega) _) (by omega) _
theorem Ag_tu {f g : St} (h : Ag f g) (t : Nat) (x y : Int) : Ag (tuZ f t x y) (tuZ g t x y) := Ag_up (Ag_up h (by omega) _) (by omega) _
theorem Ag_sp {f g : St} (h : Ag f g) (t : Nat) (x y : Int) : Ag (spZ f t x y) (spZ g t x y) := Ag_up (Ag_up h (by omega) _) (by omega) _
/-- n times BY DRAWS -/
def dri (f : St) (v : Int) : Nat → St × Int × Nat
  | 0 => (f, v, 0)
  | j + 1 => if nT (dri f v j).1 < 12 then (dfZ (dri f v j).1 (dri f v j).2.1, nxI (dri f v j).2.1 6, (dri f v j).2.2 + 1) else dri f v j
theorem Va_dri {f : St} {B v : Int} (hV : Va B f) (hv : 0 ≤ v ∧ v < 2147483648) : ∀ j, Va B (dri f v j).1 ∧ (0 ≤ (dri f v j).2.1 ∧ (dri f v j).2.1 < 2147483648)
  | 0 => ⟨hV, hv⟩
  | j + 1 => by
    obtain ⟨a, b⟩ := Va_dri hV hv j
    rw [dri]
    split
    · next q => exact ⟨Va_df a q, nxI_rg b 6⟩
    · exact ⟨a, b⟩
/-- WRONG -/
noncomputable def wrP (f : St) (ba bb bd : Nat → Int) (q : Nat) : Bool := decide (colA f (dN f (ba q).toNat) (ba q).toNat (bb q).toNat ≠ bd q)
noncomputable def wrF (f : St) (ba bb bd : Nat → Int) (n : Nat) : Int := if fsN (wrP f ba bb bd) n < n then (fsN (wrP f ba bb bd) n : Int) else -1
def BoOK (ba bb bd : Nat → Int) (n : Nat) : Prop := n ≤ 20 ∧ ∀ i, i < n → (0 ≤ ba i ∧ ba i < 24) ∧ (0 ≤ bb i ∧ bb i < 32) ∧ (0 ≤ bd i ∧ bd i ≤ 7)
noncomputable def vTold (f : St) (bn sz : Nat) (wr w : Int) : Int := if w = 0 then f 0 else if w = 1 then f 1 else if w = 2 then f 2 else if w = 3 then f 3 else if w = 4 then (misF f (f 2) : Int) else if w = 5 then ((brk f 3).1 : Int) else if w = 6 then (enN f 24 : Int) else if w = 7 then ((hsF f).1 : Int) else if w = 8 then (sm (fun q => fillL f q) 24 : Int) else if w = 9 then (bn : Int) else if w = 10 then wr else if w = 11 then (sz : Int) else -1000000002
noncomputable def vThing (f : St) (t w : Int) : Int := if 0 ≤ t ∧ t ≤ f 0 - 1 then (if w = 0 then th f t.toNat 0 + 8 else if w = 1 then th f t.toNat 1 + 8 else if w = 2 then th f t.toNat 2 else if w = 3 then th f t.toNat 3 else if w = 4 then th f t.toNat 4 else if w = 5 then th f t.toNat 5 else if w = 6 then th f t.toNat 6 + 8 else if w = 7 then th f t.toNat 7 + 8 else if w = 8 then (sm (fun q => seeL f t.toNat q) 24 : Int) else if w = 9 then (sm (fun q => covL f t.toNat q) 24 : Int) else if w = 10 then (drpS f t.toNat : Int) else if w = 11 then (hsF f).2.2 t.toNat else if w = 12 then (orS (fun q => tchN f q (dN f q) t.toNat) 24 : Int) else if w = 13 then (orS (fun q => tchN f q (onS f q) t.toNat) 24 : Int) else -1000000002) else -1000000001
noncomputable def vDot (f : St) (L c w : Int) : Int := if (0 ≤ L ∧ L ≤ 23) ∧ (0 ≤ c ∧ c ≤ 31) then (if w = 0 then colA f (dN f L.toNat) L.toNat c.toNat else if w = 1 then seenA f (dN f L.toNat) L.toNat c.toNat else if w = 2 then colA f (onS f L.toNat) L.toNat c.toNat else -1000000002) else -1000000002
noncomputable def liN (f : St) (L : Nat) (p : Nat) : Nat → Int
  | 0 => 0
  | j + 1 => liN f L p j * 8 + colA f (dN f L) L (8 * p + j)
noncomputable def vLine (f : St) (L p : Int) : Int := if (0 ≤ L ∧ L ≤ 23) ∧ (0 ≤ p ∧ p ≤ 3) then liN f L.toNat p.toNat 8 else -1
def vDrawn (f : St) (L w : Int) : Int := if (0 ≤ L ∧ L ≤ 23) ∧ (0 ≤ w ∧ w ≤ 1) then (if w = 0 then (dN f L.toNat : Int) else ((onS f L.toNat &&& (2 ^ 32 - (dN f L.toNat + 1)) : Nat) : Int)) else -1000000002
def vPic (f : St) (p r : Int) : Int := if 0 ≤ p ∧ p ≤ 3 then (if 0 ≤ r ∧ r ≤ 7 then f (4 + 8 * p.toNat + r.toNat) else -1000000002) else -1000000001
theorem liN_rg {f : St} {B : Int} (hV : Va B f) (L p : Nat) : ∀ j, j ≤ 8 → 0 ≤ liN f L p j ∧ liN f L p j < 8 ^ j
  | 0, _ => ⟨Int.le_refl _, by show (0 : Int) < 1; decide⟩
  | j + 1, h => by
    have a := liN_rg hV L p j (by omega)
    have b := colA_rg hV (dN f L) L (8 * p + j)
    rw [liN, Int.pow_succ]
    omega
abbrev HT : Type := Nat × Nat × (Nat → St)
def rmH (f : St) (h : HT) : HT := ((h.1 + 1) % 20, min (h.2.1 + 1) 20, upE h.2.2 h.1 (cpZ f (h.2.2 h.1) 0 0 132))
def drH (f : St) (v : Int) (h : HT) : Nat → HT
  | 0 => h
  | j + 1 => if nT (dri f v j).1 < 12 then rmH (dri f v j).1 (drH f v h j) else drH f v h j
theorem dri_t {f : St} {v : Int} {j : Nat} (h : nT (dri f v j).1 < 12) : dri f v (j + 1) = (dfZ (dri f v j).1 (dri f v j).2.1, nxI (dri f v j).2.1 6, (dri f v j).2.2 + 1) := by rw [dri, if_pos h]
theorem drH_t {f : St} {v : Int} {h0 : HT} {j : Nat} (h : nT (dri f v j).1 < 12) : drH f v h0 (j + 1) = rmH (dri f v j).1 (drH f v h0 j) := by rw [drH, if_pos h]
theorem dri_full {f : St} {v : Int} {h0 : HT} {j : Nat} (h : ¬ nT (dri f v j).1 < 12) : ∀ d, dri f v (j + d) = dri f v j ∧ drH f v h0 (j + d) = drH f v h0 j
  | 0 => ⟨rfl, rfl⟩
  | d + 1 => by
    obtain ⟨a, b⟩ := dri_full (h0 := h0) h d
    rw [← Nat.add_assoc, dri, drH, a, b, if_neg h, if_neg h]
    exact ⟨rfl, rfl⟩
theorem drH_ok {f : St} {v : Int} {h0 : HT} (h : h0.1 < 20 ∧ h0.2.1 ≤ 20) : ∀ j, (drH f v h0 j).1 < 20 ∧ (drH f v h0 j).2.1 ≤ 20
  | 0 => h
  | j + 1 => by
    have := drH_ok (f := f) (v := v) h j
    rw [drH]
    split
    · unfold rmH; dsimp only; omega
    · exact this
def imF (m0 m1 : Nat) : Nat → Option Nat := fun i => if i = 0 then some m0 else if i = 1 then some m1 else none
def okPut (f : St) (x y p t l c : Int) : Prop := (0 ≤ p ∧ p ≤ 3) ∧ (-8 ≤ x ∧ x ≤ 31) ∧ (-8 ≤ y ∧ y ≤ 23) ∧ (0 ≤ t ∧ t ≤ 3) ∧ (0 ≤ l ∧ l ≤ 3) ∧ (1 ≤ c ∧ c ≤ 7) ∧ nT f < 12
