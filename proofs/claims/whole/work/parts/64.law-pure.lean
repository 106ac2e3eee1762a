/-! THE TWO SIDES OF THE LAW: what holds between them -/
def IvH (B : Int) (h : HT) (de : Nat) (pa : Nat → Int) : Prop := h.1 < 20 ∧ h.2.1 ≤ 20 ∧ de = h.2.1 ∧ ∀ i, i < de → Va B (h.2.2 ((h.1 + 20 - de + i) % 20)) ∧ Ag (h.2.2 ((h.1 + 20 - de + i) % 20)) (fun q => pa (132 * i + q))
def IvB (ba bb bd : Nat → Int) (bn : Nat) (bk : Nat → Int) (bm : Nat) : Prop := BoOK ba bb bd bn ∧ bm = bn ∧ ∀ i, i < bn → bk (3 * i) = ba i ∧ bk (3 * i + 1) = bb i ∧ bk (3 * i + 2) = bd i
def IvI (B : Int) (mm : Nat → St) (ms mk : Nat → Int) (mi ns nk : Nat → Int) : Prop := (∀ i, i < 2 → (0 ≤ mk i ∧ mk i ≤ 1) ∧ nk i = mk i) ∧ ∀ i, i < 2 → mk i ≠ 0 → Va B (mm i) ∧ Ag (mm i) (fun q => mi (132 * i + q)) ∧ ns i = ms i ∧ (0 ≤ ms i ∧ ms i < 2147483648)
theorem IvH.le {B B2 : Int} {h : HT} {de : Nat} {pa : Nat → Int} (q : IvH B h de pa) (hB : B ≤ B2) : IvH B2 h de pa := ⟨q.1, q.2.1, q.2.2.1, fun i hi => ⟨(q.2.2.2 i hi).1.le hB, (q.2.2.2 i hi).2⟩⟩
theorem IvI.le {B B2 : Int} {mm : Nat → St} {ms mk mi ns nk : Nat → Int} (q : IvI B mm ms mk mi ns nk) (hB : B ≤ B2) : IvI B2 mm ms mk mi ns nk := ⟨q.1, fun i hi h => ⟨(q.2 i hi h).1.le hB, (q.2 i hi h).2⟩⟩
theorem Ag132 {f g : St} {B : Int} (hV : Va B f) (h : ∀ i, i < 132 → f i = g i) : Ag f g := fun i hi => h i (by have := hV.n; omega)
theorem Ag_lt {f : St} {B : Int} (hV : Va B f) {i : Nat} (hi : i < 36 + 8 * nT f) : i < 132 := by have := hV.n; omega
theorem cp_ag {f g x y : St} {B : Int} {sp : Nat} (hV : Va B f) (hG : Ag f (fun q => y (sp + q))) : Va B (cpZ f x 0 0 132) ∧ Ag (cpZ f x 0 0 132) (cpZ y g sp 0 132) := by
  have h1 := cpZ_ag (g := x) hV
  refine ⟨hV.ag h1, h1.sy.tr (fun i hi => ?_)⟩
  have := Ag_lt hV hi
  rw [cpZ_in (Nat.zero_le _) (by omega)]
  exact hG i hi
theorem rem_ok {B : Int} {f g : St} {h : HT} {de : Nat} {pa : Nat → Int} (hV : Va B f) (hG : Ag f g) (hH : IvH B h de pa) : IvH B (rmH f h) (ntH g (de, pa)).1 (ntH g (de, pa)).2 := by
  obtain ⟨h1, h2, h3, h4⟩ := hH
  have hd : ntD de + 1 = min (h.2.1 + 1) 20 := by unfold ntD; split <;> omega
  have hdl := ntD_lt (de := de) (by omega)
  refine ⟨Nat.mod_lt _ (by decide), Nat.min_le_right _ _, hd, fun i hi => ?_⟩
  have hi : i < ntD de + 1 := hi
  show Va B (upE h.2.2 h.1 (cpZ f (h.2.2 h.1) 0 0 132) (((h.1 + 1) % 20 + 20 - (ntD de + 1) + i) % 20)) ∧ Ag (upE h.2.2 h.1 (cpZ f (h.2.2 h.1) 0 0 132) (((h.1 + 1) % 20 + 20 - (ntD de + 1) + i) % 20)) (fun q => cpZ g (ntP pa de) 0 (132 * ntD de) 132 (132 * i + q))
  by_cases q : i = ntD de
  · have e : ((h.1 + 1) % 20 + 20 - (ntD de + 1) + i) % 20 = h.1 := by omega
    rw [e, upE_s]
    have h5 := cpZ_ag (g := h.2.2 h.1) hV
    refine ⟨hV.ag h5, h5.sy.tr (fun j hj => ?_)⟩
    have := Ag_lt hV hj
    show f j = cpZ g (ntP pa de) 0 (132 * ntD de) 132 (132 * i + j)
    rw [cpZ_in (by omega) (by omega), hG j hj]
    congr 1
    omega
  · by_cases d : de = 20
    · have hn : ntD de = 19 := if_pos d
      have e : ((h.1 + 1) % 20 + 20 - (ntD de + 1) + i) % 20 = (h.1 + 20 - de + (i + 1)) % 20 := by omega
      have e2 : ((h.1 + 1) % 20 + 20 - (ntD de + 1) + i) % 20 ≠ h.1 := by omega
      rw [upE_n e2, e]
      obtain ⟨g1, g2⟩ := h4 (i + 1) (by omega)
      refine ⟨g1, fun j hj => ?_⟩
      have := Ag_lt g1 hj
      show _ = cpZ g (ntP pa de) 0 (132 * ntD de) 132 (132 * i + j)
      rw [cpZ_out (by omega), show ntP pa de = cpZ pa pa 132 0 2508 from if_pos d, cpZ_in (by omega) (by omega), g2 j hj]
      show pa (132 * (i + 1) + j) = _
      congr 1
      omega
    · have hn : ntD de = de := if_neg d
      have e : ((h.1 + 1) % 20 + 20 - (ntD de + 1) + i) % 20 = (h.1 + 20 - de + i) % 20 := by omega
      have e2 : ((h.1 + 1) % 20 + 20 - (ntD de + 1) + i) % 20 ≠ h.1 := by omega
      rw [upE_n e2, e]
      obtain ⟨g1, g2⟩ := h4 i (by omega)
      refine ⟨g1, fun j hj => ?_⟩
      have := Ag_lt g1 hj
      show _ = cpZ g (ntP pa de) 0 (132 * ntD de) 132 (132 * i + j)
      rw [cpZ_out (by omega), show ntP pa de = pa from if_neg d, g2 j hj]
theorem deed_ok {B : Int} {f g A A2 : St} {h : HT} {de : Nat} {pa : Nat → Int} {c c2 : Prop} [Decidable c] [Decidable c2] {u : St × HT} {v : St × HM} (hc : c ↔ c2) (hu : u = if c then (A, rmH f h) else (f, h)) (hv : v = if c2 then (A2, ntH g (de, pa)) else (g, de, pa)) (hV : Va B f) (hG : Ag f g) (hH : IvH B h de pa) (hA : c → Va (B + 40) A ∧ Ag A A2) : Va (B + 40) u.1 ∧ Ag u.1 v.1 ∧ IvH (B + 40) u.2 v.2.1 v.2.2 := by
  by_cases q : c
  · rw [if_pos q] at hu
    rw [if_pos (hc.mp q)] at hv
    subst hu
    subst hv
    exact ⟨(hA q).1, (hA q).2, (rem_ok hV hG hH).le (by omega)⟩
  · rw [if_neg q] at hu
    rw [if_neg (fun z => q (hc.mpr z))] at hv
    subst hu
    subst hv
    exact ⟨hV.le (by omega), hG, hH.le (by omega)⟩
theorem Ag_tak {B : Int} {f g : St} {t : Nat} (hV : Va B f) (hG : Ag f g) (ht : t < nT f) : Ag (takeC f t) (takM g t) := by
  have hn := hV.n
  have e0 := hG.c (show 0 < 36 by decide)
  intro i hi
  rw [takeC_n hV ht] at hi
  by_cases h0 : i = 0
  · subst h0
    show upZ _ 0 (f 0 - 1) 0 = upZ _ 0 (g 0 - 1) 0
    rw [upZ_s, upZ_s, e0]
  · show _ = upZ (cpZ g g (36 + 8 * t + 8) (36 + 8 * t) (88 - 8 * t)) 0 (g 0 - 1) i
    rw [upZ_n h0]
    by_cases h1 : i < 36 + 8 * t
    · rw [takeC_low h0 h1, cpZ_out (by omega)]
      exact hG i (by omega)
    · rw [takeC_hi (by omega) (by omega), cpZ_in (by omega) (by omega), show 36 + 8 * t + 8 + (i - (36 + 8 * t)) = i + 8 by omega]
      exact hG _ (by omega)
theorem dri_ag {B v : Int} {f g : St} (hV : Va B f) (hv : 0 ≤ v ∧ v < 2147483648) (hG : Ag f g) : ∀ j, Ag (dri f v j).1 (dri g v j).1 ∧ (dri f v j).2 = (dri g v j).2
  | 0 => ⟨hG, rfl⟩
  | j + 1 => by
    obtain ⟨h1, h2⟩ := dri_ag hV hv hG j
    have hn := h1.n
    have hva := (Va_dri hV hv j).1
    rw [dri, dri]
    by_cases q : nT (dri f v j).1 < 12
    · rw [if_pos q, if_pos (by omega)]
      rw [← h2]
      exact ⟨Ag_add hva h1 _ _ _ _ _ _, rfl⟩
    · rw [if_neg q, if_neg (by omega)]
      exact ⟨h1, h2⟩
theorem drm_ok {B v : Int} {f g : St} {h : HT} {de : Nat} {pa : Nat → Int} (hV : Va B f) (hv : 0 ≤ v ∧ v < 2147483648) (hG : Ag f g) (hH : IvH B h de pa) : ∀ j, IvH B (drH f v h j) (drM g v (de, pa) j).1 (drM g v (de, pa) j).2
  | 0 => hH
  | j + 1 => by
    have ih := drm_ok hV hv hG hH j
    obtain ⟨h1, h2⟩ := dri_ag hV hv hG j
    have hn := h1.n
    rw [drH, drM]
    by_cases q : nT (dri f v j).1 < 12
    · rw [if_pos q, if_pos (by omega)]
      exact rem_ok (Va_dri hV hv j).1 h1 ih
    · rw [if_neg q, if_neg (by omega)]
      exact ih
theorem drift_ok {B vd sv : Int} {f g : St} {h : HT} {de : Nat} {pa : Nat → Int} {x1 : Int} {u : Int × St × HT} {v : Int × St × HM} (hsv : sv = vd) (hu : u = if 1 ≤ x1 ∧ x1 ≤ 12 then ((dri f vd x1.toNat).2.1, (dri f vd x1.toNat).1, drH f vd h x1.toNat) else (vd, f, h)) (hv : v = if 1 ≤ x1 ∧ x1 ≤ 12 then ((dri g sv x1.toNat).2.1, (dri g sv x1.toNat).1, drM g sv (de, pa) x1.toNat) else (sv, g, de, pa)) (hV : Va B f) (hG : Ag f g) (hH : IvH B h de pa) (hvd : 0 ≤ vd ∧ vd < 2147483648) : Va (B + 40) u.2.1 ∧ Ag u.2.1 v.2.1 ∧ IvH (B + 40) u.2.2 v.2.2.1 v.2.2.2 ∧ (0 ≤ u.1 ∧ u.1 < 2147483648) ∧ v.1 = u.1 := by
  subst hsv
  by_cases q : 1 ≤ x1 ∧ x1 ≤ 12
  · rw [if_pos q] at hu hv
    subst hu
    subst hv
    obtain ⟨a1, a2⟩ := dri_ag hV hvd hG x1.toNat
    exact ⟨(Va_dri hV hvd x1.toNat).1.le (by omega), a1, (drm_ok hV hvd hG hH x1.toNat).le (by omega), (Va_dri hV hvd x1.toNat).2, (congrArg Prod.fst a2).symm⟩
  · rw [if_neg q] at hu hv
    subst hu
    subst hv
    exact ⟨hV.le (by omega), hG, hH.le (by omega), hvd, rfl⟩
theorem undo_ok {B : Int} {f g : St} {h : HT} {de : Nat} {pa : Nat → Int} {x1 : Int} {u : St × HT} {v : St × HM} (hu : u = if (1 ≤ x1 ∧ x1 ≤ 20) ∧ x1 ≤ (h.2.1 : Int) then (cpZ (h.2.2 ((h.1 + 20 - x1.toNat) % 20)) f 0 0 132, (h.1 + 20 - x1.toNat) % 20, h.2.1 - x1.toNat, h.2.2) else (f, h)) (hv : v = if (1 ≤ x1 ∧ x1 ≤ 20) ∧ x1 ≤ (de : Int) then (cpZ pa g (132 * (de - x1.toNat)) 0 132, de - x1.toNat, pa) else (g, de, pa)) (hV : Va B f) (hG : Ag f g) (hH : IvH B h de pa) : Va (B + 40) u.1 ∧ Ag u.1 v.1 ∧ IvH (B + 40) u.2 v.2.1 v.2.2 := by
  obtain ⟨h1, h2, h3, h4⟩ := id hH
  by_cases q : (1 ≤ x1 ∧ x1 ≤ 20) ∧ x1 ≤ (h.2.1 : Int)
  · rw [if_pos q] at hu
    rw [if_pos (by rw [h3]; exact q)] at hv
    subst hu
    subst hv
    obtain ⟨g1, g2⟩ := h4 (de - x1.toNat) (by omega)
    have e : (h.1 + 20 - de + (de - x1.toNat)) % 20 = (h.1 + 20 - x1.toNat) % 20 := by omega
    rw [e] at g1 g2
    obtain ⟨a1, a2⟩ := cp_ag (x := f) (g := g) (y := pa) (sp := 132 * (de - x1.toNat)) g1 g2
    refine ⟨a1.le (by omega), a2, Nat.mod_lt _ (by decide), by show h.2.1 - x1.toNat ≤ 20; omega, by show de - x1.toNat = h.2.1 - x1.toNat; omega, fun i hi => ?_⟩
    have hi : i < de - x1.toNat := hi
    show Va (B + 40) (h.2.2 (((h.1 + 20 - x1.toNat) % 20 + 20 - (de - x1.toNat) + i) % 20)) ∧ Ag (h.2.2 (((h.1 + 20 - x1.toNat) % 20 + 20 - (de - x1.toNat) + i) % 20)) (fun q => pa (132 * i + q))
    have e2 : ((h.1 + 20 - x1.toNat) % 20 + 20 - (de - x1.toNat) + i) % 20 = (h.1 + 20 - de + i) % 20 := by omega
    rw [e2]
    exact ⟨(h4 i (by omega)).1.le (by omega), (h4 i (by omega)).2⟩
  · rw [if_neg q] at hu
    rw [if_neg (by rw [h3]; exact q)] at hv
    subst hu
    subst hv
    exact ⟨hV.le (by omega), hG, hH.le (by omega)⟩
theorem undo_v {B : Int} {h : HT} {de : Nat} {pa : Nat → Int} {x1 : Int} (hH : IvH B h de pa) : (if 1 ≤ x1 ∧ x1 ≤ 20 then (if x1 ≤ (h.2.1 : Int) then h.2.2 ((h.1 + 20 - x1.toNat) % 20) 0 else -1000000003) else -1000000002) = (if 1 ≤ x1 ∧ x1 ≤ 20 then (if x1 ≤ (de : Int) then pa (132 * (de - x1.toNat)) else -1000000003) else -1000000002) := by
  obtain ⟨h1, h2, h3, h4⟩ := hH
  by_cases q : 1 ≤ x1 ∧ x1 ≤ 20
  · rw [if_pos q, if_pos q, ← h3]
    by_cases q2 : x1 ≤ (de : Int)
    · rw [if_pos q2, if_pos q2]
      obtain ⟨g1, g2⟩ := h4 (de - x1.toNat) (by omega)
      have e : (h.1 + 20 - de + (de - x1.toNat)) % 20 = (h.1 + 20 - x1.toNat) % 20 := by omega
      rw [e] at g2
      exact g2.c (show 0 < 36 by decide)
    · rw [if_neg q2, if_neg q2]
  · rw [if_neg q, if_neg q]
theorem keep_ok {B vd sv : Int} {f g : St} {h : HT} {de : Nat} {pa : Nat → Int} {mm : Nat → St} {ms mk mi ns nk : Nat → Int} {x1 : Int} {u : (Nat → St) × (Nat → Int) × (Nat → Int) × Nat} {v : (Nat → Int) × (Nat → Int) × (Nat → Int) × Nat} (hsv : sv = vd) (hvd : 0 ≤ vd ∧ vd < 2147483648) (hu : u = if 0 ≤ x1 ∧ x1 ≤ 1 then (upE mm x1.toNat (cpZ f (mm x1.toNat) 0 0 132), upZ ms x1.toNat vd, upZ mk x1.toNat 1, 0) else (mm, ms, mk, h.2.1)) (hv : v = if 0 ≤ x1 ∧ x1 ≤ 1 then (cpZ g mi 0 (132 * x1.toNat) 132, upZ ns x1.toNat sv, upZ nk x1.toNat 1, 0) else (mi, ns, nk, de)) (hV : Va B f) (hG : Ag f g) (hH : IvH B h de pa) (hI : IvI B mm ms mk mi ns nk) : IvI (B + 40) u.1 u.2.1 u.2.2.1 v.1 v.2.1 v.2.2.1 ∧ IvH (B + 40) (h.1, u.2.2.2, h.2.2) v.2.2.2 pa := by
  by_cases q : 0 ≤ x1 ∧ x1 ≤ 1
  · rw [if_pos q] at hu hv
    subst hu
    subst hv
    refine ⟨⟨fun i hi => ?_, fun i hi hm => ?_⟩, hH.1, Nat.zero_le _, rfl, fun i hi => absurd hi (Nat.not_lt_zero _)⟩
    · show (0 ≤ upZ mk x1.toNat 1 i ∧ upZ mk x1.toNat 1 i ≤ 1) ∧ upZ nk x1.toNat 1 i = upZ mk x1.toNat 1 i
      by_cases e : i = x1.toNat
      · subst e; rw [upZ_s, upZ_s]; exact ⟨⟨by decide, by decide⟩, rfl⟩
      · rw [upZ_n e, upZ_n e]; exact hI.1 i hi
    · have hm : upZ mk x1.toNat 1 i ≠ 0 := hm
      show Va (B + 40) (upE mm x1.toNat (cpZ f (mm x1.toNat) 0 0 132) i) ∧ Ag (upE mm x1.toNat (cpZ f (mm x1.toNat) 0 0 132) i) (fun q => cpZ g mi 0 (132 * x1.toNat) 132 (132 * i + q)) ∧ upZ ns x1.toNat sv i = upZ ms x1.toNat vd i ∧ (0 ≤ upZ ms x1.toNat vd i ∧ upZ ms x1.toNat vd i < 2147483648)
      by_cases e : i = x1.toNat
      · subst e
        rw [upE_s, upZ_s, upZ_s]
        have h5 := cpZ_ag (g := mm x1.toNat) hV
        refine ⟨(hV.ag h5).le (by omega), h5.sy.tr (fun j hj => ?_), hsv, hvd⟩
        have := Ag_lt hV hj
        show f j = cpZ g mi 0 (132 * x1.toNat) 132 (132 * x1.toNat + j)
        rw [cpZ_in (by omega) (by omega), hG j hj]
        congr 1
        omega
      · rw [upZ_n e] at hm
        rw [upE_n e, upZ_n e, upZ_n e]
        obtain ⟨a1, a2, a3, a4⟩ := hI.2 i hi hm
        refine ⟨a1.le (by omega), fun j hj => ?_, a3, a4⟩
        have := Ag_lt a1 hj
        show _ = cpZ g mi 0 (132 * x1.toNat) 132 (132 * i + j)
        rw [cpZ_out (by omega)]
        exact a2 j hj
  · rw [if_neg q] at hu hv
    subst hu
    subst hv
    exact ⟨hI.le (by omega), hH.le (by omega)⟩
theorem back_ok {B vd sv : Int} {f g : St} {h : HT} {de : Nat} {pa : Nat → Int} {mm : Nat → St} {ms mk mi ns nk : Nat → Int} {x1 : Int} {u : St × Int × Nat} {v : St × Int × Nat} (hsv : sv = vd) (hvd : 0 ≤ vd ∧ vd < 2147483648) (hu : u = if (0 ≤ x1 ∧ x1 ≤ 1) ∧ mk x1.toNat ≠ 0 then (cpZ (mm x1.toNat) f 0 0 132, ms x1.toNat, 0) else (f, vd, h.2.1)) (hv : v = if (0 ≤ x1 ∧ x1 ≤ 1) ∧ nk x1.toNat ≠ 0 then (cpZ mi g (132 * x1.toNat) 0 132, ns x1.toNat, 0) else (g, sv, de)) (hV : Va B f) (hG : Ag f g) (hH : IvH B h de pa) (hI : IvI B mm ms mk mi ns nk) : Va (B + 40) u.1 ∧ Ag u.1 v.1 ∧ (0 ≤ u.2.1 ∧ u.2.1 < 2147483648) ∧ v.2.1 = u.2.1 ∧ IvH (B + 40) (h.1, u.2.2, h.2.2) v.2.2 pa := by
  by_cases q : (0 ≤ x1 ∧ x1 ≤ 1) ∧ mk x1.toNat ≠ 0
  · have e := (hI.1 x1.toNat (by omega)).2
    rw [if_pos q] at hu
    rw [if_pos (by rw [e]; exact q)] at hv
    subst hu
    subst hv
    obtain ⟨a1, a2, a3, a4⟩ := hI.2 x1.toNat (by omega) q.2
    obtain ⟨b1, b2⟩ := cp_ag (x := f) (g := g) (y := mi) (sp := 132 * x1.toNat) a1 a2
    exact ⟨b1.le (by omega), b2, a4, a3, hH.1, Nat.zero_le _, rfl, fun i hi => absurd hi (Nat.not_lt_zero _)⟩
  · have q2 : ¬ ((0 ≤ x1 ∧ x1 ≤ 1) ∧ nk x1.toNat ≠ 0) := fun z => q ⟨z.1, by rw [← (hI.1 x1.toNat (by omega)).2]; exact z.2⟩
    rw [if_neg q] at hu
    rw [if_neg q2] at hv
    subst hu
    subst hv
    exact ⟨hV.le (by omega), hG, hvd, hsv, hH.le (by omega)⟩
theorem back_v {B : Int} {mm : Nat → St} {ms mk mi ns nk : Nat → Int} {x1 : Int} (hI : IvI B mm ms mk mi ns nk) : (if 0 ≤ x1 ∧ x1 ≤ 1 then (if mk x1.toNat ≠ 0 then (1 : Int) else -1000000003) else -1000000001) = (if 0 ≤ x1 ∧ x1 ≤ 1 then (if nk x1.toNat ≠ 0 then 1 else -1000000003) else -1000000001) := by
  by_cases q : 0 ≤ x1 ∧ x1 ≤ 1
  · rw [if_pos q, if_pos q, (hI.1 x1.toNat (by omega)).2]
  · rw [if_neg q, if_neg q]
theorem write_ok {ba bb bd bk : Nat → Int} {bn bm : Nat} {x1 x2 x3 : Int} {u : (Nat → Int) × (Nat → Int) × (Nat → Int) × Nat} {v : (Nat → Int) × Nat} (hu : u = if (((0 ≤ x1 ∧ x1 ≤ 23) ∧ (0 ≤ x2 ∧ x2 ≤ 31)) ∧ (0 ≤ x3 ∧ x3 ≤ 7)) ∧ bn < 20 then (upZ ba bn x1, upZ bb bn x2, upZ bd bn x3, bn + 1) else (ba, bb, bd, bn)) (hv : v = if (((0 ≤ x1 ∧ x1 ≤ 23) ∧ (0 ≤ x2 ∧ x2 ≤ 31)) ∧ (0 ≤ x3 ∧ x3 ≤ 7)) ∧ bm < 20 then (upZ (upZ (upZ bk (3 * bm) x1) (3 * bm + 1) x2) (3 * bm + 2) x3, bm + 1) else (bk, bm)) (hI : IvB ba bb bd bn bk bm) : IvB u.1 u.2.1 u.2.2.1 u.2.2.2 v.1 v.2 := by
  obtain ⟨⟨h1, h2⟩, rfl, h3⟩ := id hI
  by_cases q : (((0 ≤ x1 ∧ x1 ≤ 23) ∧ (0 ≤ x2 ∧ x2 ≤ 31)) ∧ (0 ≤ x3 ∧ x3 ≤ 7)) ∧ bm < 20
  · rw [if_pos q] at hu hv
    subst hu
    subst hv
    refine ⟨⟨by show bm + 1 ≤ 20; omega, fun i hi => ?_⟩, rfl, fun i hi => ?_⟩
    · have hi : i < bm + 1 := hi
      show (0 ≤ upZ ba bm x1 i ∧ upZ ba bm x1 i < 24) ∧ (0 ≤ upZ bb bm x2 i ∧ upZ bb bm x2 i < 32) ∧ (0 ≤ upZ bd bm x3 i ∧ upZ bd bm x3 i ≤ 7)
      by_cases e : i = bm
      · subst e; rw [upZ_s, upZ_s, upZ_s]; omega
      · rw [upZ_n e, upZ_n e, upZ_n e]; exact h2 i (by omega)
    · have hi : i < bm + 1 := hi
      show upZ (upZ (upZ bk (3 * bm) x1) (3 * bm + 1) x2) (3 * bm + 2) x3 (3 * i) = upZ ba bm x1 i ∧ upZ (upZ (upZ bk (3 * bm) x1) (3 * bm + 1) x2) (3 * bm + 2) x3 (3 * i + 1) = upZ bb bm x2 i ∧ upZ (upZ (upZ bk (3 * bm) x1) (3 * bm + 1) x2) (3 * bm + 2) x3 (3 * i + 2) = upZ bd bm x3 i
      by_cases e : i = bm
      · subst e
        rw [upZ_s, upZ_s, upZ_s, upZ_s, upZ_n (by omega), upZ_n (by omega), upZ_s, upZ_n (by omega), upZ_s]
        exact ⟨rfl, rfl, rfl⟩
      · rw [upZ_n e, upZ_n e, upZ_n e, upZ_n (by omega), upZ_n (by omega), upZ_n (by omega), upZ_n (by omega), upZ_n (by omega), upZ_n (by omega), upZ_n (by omega), upZ_n (by omega), upZ_n (by omega)]
        exact h3 i (by omega)
  · rw [if_neg q] at hu hv
    subst hu
    subst hv
    exact hI
theorem wrF_ag {B : Int} {f g : St} {ba bb bd bk : Nat → Int} {bn bm : Nat} (hV : Va B f) (hG : Ag f g) (hI : IvB ba bb bd bn bk bm) : wrF f ba bb bd bn = wrF g (fun q => bk (3 * q)) (fun q => bk (3 * q + 1)) (fun q => bk (3 * q + 2)) bm := by
  obtain ⟨-, rfl, h3⟩ := hI
  have e : fsN (wrP f ba bb bd) bm = fsN (wrP g (fun q => bk (3 * q)) (fun q => bk (3 * q + 1)) (fun q => bk (3 * q + 2))) bm := fsN_cong (fun i hi => by
    unfold wrP
    obtain ⟨e1, e2, e3⟩ := h3 i hi
    show decide (colA f (dN f (ba i).toNat) (ba i).toNat (bb i).toNat ≠ bd i) = decide (colA g (dN g (bk (3 * i)).toNat) (bk (3 * i)).toNat (bk (3 * i + 1)).toNat ≠ bk (3 * i + 2))
    rw [e1, e2, e3, dN_ag hG, colA_ag hV hG])
  unfold wrF
  rw [e]
theorem vTold_ag {B : Int} {f g : St} {ba bb bd bk : Nat → Int} {bn bm de sz : Nat} (hV : Va B f) (hG : Ag f g) (hI : IvB ba bb bd bn bk bm) (hd : de = sz) (w : Int) : vTold f bn sz (wrF f ba bb bd bn) w = vTold g bm de (wrF g (fun q => bk (3 * q)) (fun q => bk (3 * q + 1)) (fun q => bk (3 * q + 2)) bm) w := by
  rw [wrF_ag hV hG hI, hd, hI.2.1]
  unfold vTold
  rw [hG.c (show 0 < 36 by decide), hG.c (show 1 < 36 by decide), hG.c (show 2 < 36 by decide), hG.c (show 3 < 36 by decide), misF_ag hV hG, brk_ag hV hG, enN_ag hG, hsF_ag hG, show (fun q => fillL f q) = (fun q => fillL g q) from funext (fun q => fillL_ag hV hG q)]
theorem vThing_ag {B : Int} {f g : St} (hV : Va B f) (hG : Ag f g) (t w : Int) : vThing f t w = vThing g t w := by
  have hn := hV.n
  have hv0 := hV.1
  unfold vThing
  rw [← hG.c (show 0 < 36 by decide)]
  by_cases q : 0 ≤ t ∧ t ≤ f 0 - 1
  · have ht : t.toNat < nT f := by omega
    rw [if_pos q, if_pos q, hG.th ht (show 0 < 8 by decide), hG.th ht (show 1 < 8 by decide), hG.th ht (show 2 < 8 by decide), hG.th ht (show 3 < 8 by decide), hG.th ht (show 4 < 8 by decide), hG.th ht (show 5 < 8 by decide), hG.th ht (show 6 < 8 by decide), hG.th ht (show 7 < 8 by decide), hsF_ag hG, drpS_ag hG ht, show (fun q => seeL f t.toNat q) = (fun q => seeL g t.toNat q) from funext (fun q => seeL_ag hV hG _ q), show (fun q => covL f t.toNat q) = (fun q => covL g t.toNat q) from funext (fun q => covL_ag hV hG ht q), show (fun q => tchN f q (dN f q) t.toNat) = (fun q => tchN g q (dN g q) t.toNat) from funext (fun q => by rw [dN_ag hG, tchN_ag hV hG ht]), show (fun q => tchN f q (onS f q) t.toNat) = (fun q => tchN g q (onS g q) t.toNat) from funext (fun q => by rw [onS_ag hG, tchN_ag hV hG ht])]
  · rw [if_neg q, if_neg q]
theorem vDot_ag {B : Int} {f g : St} (hV : Va B f) (hG : Ag f g) (L c w : Int) : vDot f L c w = vDot g L c w := by
  unfold vDot
  rw [dN_ag hG, onS_ag hG, colA_ag hV hG, colA_ag hV hG, seenA_ag hV hG]
theorem liN_ag {B : Int} {f g : St} (hV : Va B f) (hG : Ag f g) (L p : Nat) : ∀ j, liN f L p j = liN g L p j
  | 0 => rfl
  | j + 1 => by rw [liN, liN, liN_ag hV hG L p j, dN_ag hG, colA_ag hV hG]
theorem vLine_ag {B : Int} {f g : St} (hV : Va B f) (hG : Ag f g) (L p : Int) : vLine f L p = vLine g L p := by
  unfold vLine
  rw [liN_ag hV hG]
theorem vDrawn_ag {f g : St} (hG : Ag f g) (L w : Int) : vDrawn f L w = vDrawn g L w := by
  unfold vDrawn
  rw [dN_ag hG, onS_ag hG]
theorem vPic_ag {f g : St} (hG : Ag f g) (p r : Int) : vPic f p r = vPic g p r := by
  unfold vPic
  by_cases q : 0 ≤ p ∧ p ≤ 3
  · rw [if_pos q, if_pos q]
    by_cases q2 : 0 ≤ r ∧ r ≤ 7
    · rw [if_pos q2, if_pos q2]
      exact hG.c (by omega)
    · rw [if_neg q2, if_neg q2]
  · rw [if_neg q, if_neg q]
theorem row_v {f g : St} (hG : Ag f g) (x1 x2 x3 : Int) : (if 0 ≤ x1 ∧ x1 ≤ 3 then (if (0 ≤ x2 ∧ x2 ≤ 7) ∧ (0 ≤ x3 ∧ x3 ≤ 255) then f (4 + 8 * x1.toNat + x2.toNat) else -1000000002) else -1000000001) = (if 0 ≤ x1 ∧ x1 ≤ 3 then (if (0 ≤ x2 ∧ x2 ≤ 7) ∧ (0 ≤ x3 ∧ x3 ≤ 255) then g (4 + 8 * x1.toNat + x2.toNat) else -1000000002) else -1000000001) := by
  by_cases q : 0 ≤ x1 ∧ x1 ≤ 3
  · rw [if_pos q, if_pos q]
    by_cases q2 : (0 ≤ x2 ∧ x2 ≤ 7) ∧ (0 ≤ x3 ∧ x3 ≤ 255)
    · rw [if_pos q2, if_pos q2]
      exact hG.c (by omega)
    · rw [if_neg q2, if_neg q2]
  · rw [if_neg q, if_neg q]
theorem turn_v {B : Int} {f g : St} (hV : Va B f) (hG : Ag f g) (x1 x2 x3 : Int) : (if 0 ≤ x1 ∧ x1 ≤ f 0 - 1 then (if (0 ≤ x2 ∧ x2 ≤ 3) ∧ (0 ≤ x3 ∧ x3 ≤ 3) then ((sm (fun q => seeL (tuZ f x1.toNat x2 x3) x1.toNat q) 24 : Nat) : Int) else -1000000002) else -1000000001) = (if 0 ≤ x1 ∧ x1 ≤ g 0 - 1 then (if (0 ≤ x2 ∧ x2 ≤ 3) ∧ (0 ≤ x3 ∧ x3 ≤ 3) then ((sm (fun q => seeL (tuZ g x1.toNat x2 x3) x1.toNat q) 24 : Nat) : Int) else -1000000002) else -1000000001) := by
  rw [← hG.c (show 0 < 36 by decide)]
  by_cases q : (0 ≤ x2 ∧ x2 ≤ 3) ∧ (0 ≤ x3 ∧ x3 ≤ 3)
  · rw [if_pos q, if_pos q, show (fun q => seeL (tuZ f x1.toNat x2 x3) x1.toNat q) = (fun q => seeL (tuZ g x1.toNat x2 x3) x1.toNat q) from funext (fun i => seeL_ag (Va_tu hV q.1 q.2) (Ag_tu hG _ _ _) _ i)]
  · rw [if_neg q, if_neg q]
theorem lim_v {B : Int} {f g : St} (hV : Va B f) (hG : Ag f g) (x1 : Int) : (if 1 ≤ x1 ∧ x1 ≤ 8 then ((misF (upZ f 1 x1) ((upZ f 1 x1) 2) : Nat) : Int) else -1000000002) = (if 1 ≤ x1 ∧ x1 ≤ 8 then ((misF (upZ g 1 x1) ((upZ g 1 x1) 2) : Nat) : Int) else -1000000002) := by
  by_cases q : 1 ≤ x1 ∧ x1 ≤ 8
  · rw [if_pos q, if_pos q]
    have h1 := Ag_up hG (show 1 ≠ 0 by decide) x1
    rw [misF_ag (Va_low hV (by decide) (by decide) (fun _ => q) (by omega) (by decide) (by omega)) h1, h1.c (show 2 < 36 by decide)]
  · rw [if_neg q, if_neg q]
theorem rul_v {B : Int} {f g : St} (hV : Va B f) (hG : Ag f g) (x1 : Int) : (if 0 ≤ x1 ∧ x1 ≤ 3 then ((misF (upZ f 2 x1) ((upZ f 2 x1) 2) : Nat) : Int) else -1000000002) = (if 0 ≤ x1 ∧ x1 ≤ 3 then ((misF (upZ g 2 x1) ((upZ g 2 x1) 2) : Nat) : Int) else -1000000002) := by
  by_cases q : 0 ≤ x1 ∧ x1 ≤ 3
  · rw [if_pos q, if_pos q]
    have h1 := Ag_up hG (show 2 ≠ 0 by decide) x1
    rw [misF_ag (Va_low hV (by decide) (by decide) (by omega) (fun _ => q) (by decide) (by omega)) h1, h1.c (show 2 < 36 by decide)]
  · rw [if_neg q, if_neg q]
theorem lef_v {f g : St} (hG : Ag f g) (x1 x2 : Int) : (if 0 ≤ x1 ∧ x1 ≤ f 0 - 1 then (if 1 ≤ x2 ∧ x2 ≤ 40 then ((lefN f x2.toNat x1.toNat : Nat) : Int) else -1000000002) else -1000000001) = (if 0 ≤ x1 ∧ x1 ≤ g 0 - 1 then (if 1 ≤ x2 ∧ x2 ≤ 40 then ((lefN g x2.toNat x1.toNat : Nat) : Int) else -1000000002) else -1000000001) := by
  rw [← hG.c (show 0 < 36 by decide), lefN_ag hG]
theorem wor_v {f g : St} (hG : Ag f g) (x1 : Int) : (if 1 ≤ x1 ∧ x1 ≤ 40 then (wsT (lefN f x1.toNat) 12).1 else -1000000002) = (if 1 ≤ x1 ∧ x1 ≤ 40 then (wsT (lefN g x1.toNat) 12).1 else -1000000002) := by
  rw [show lefN f x1.toNat = lefN g x1.toNat from funext (fun t => lefN_ag hG _ t)]
theorem dri_v {B vd sv : Int} {f g : St} (hsv : sv = vd) (hV : Va B f) (hG : Ag f g) (hvd : 0 ≤ vd ∧ vd < 2147483648) (x1 : Int) : (if 1 ≤ x1 ∧ x1 ≤ 12 then (dri f vd x1.toNat).1 0 else -1000000002) = (if 1 ≤ x1 ∧ x1 ≤ 12 then (dri g sv x1.toNat).1 0 else -1000000002) := by
  rw [hsv, (dri_ag hV hvd hG x1.toNat).1.c (show 0 < 36 by decide)]
theorem fra_v {f g : St} (hG : Ag f g) (x1 : Int) : (if 1 ≤ x1 ∧ x1 ≤ 40 then itZ f x1.toNat 3 else -1000000002) = (if 1 ≤ x1 ∧ x1 ≤ 40 then itZ g x1.toNat 3 else -1000000002) := by
  rw [(itZ_ag hG x1.toNat).c (show 3 < 36 by decide)]
