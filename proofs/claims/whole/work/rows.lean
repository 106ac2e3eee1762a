section
-- ===== PART A: goes FIRST, ahead of the names: the tables' words, and 'selects' of the private methods out of them =====
/-- a private method of a class that the tables say can be made, by its rows of tables_1 -/
def lw_okq (q : MethodName × Nat) : Prop := (q.1.cls ≠ "java/lang/invoke/MethodHandle" ∧ q.1.cls ≠ "java/lang/invoke/VarHandle") ∧ Cond.instantiable q.1.cls q.2 ∈ tables_1 ∧ Cond.privateMethod q.1 ∈ tables_1 ∧ Cond.instanceMethod q.1 ∈ tables_1
theorem lw_p0 : lw_okq (⟨"DotObjects", "missingNow", "()I"⟩, 10) := ⟨⟨by decide +kernel, by decide +kernel⟩, List.mem_of_getElem? (i := 17) (by decide +kernel), List.mem_of_getElem? (i := 202) (by decide +kernel), List.mem_of_getElem? (i := 203) (by decide +kernel)⟩
theorem lw_p1 : lw_okq (⟨"DotObjects$Order", "arrangeByLevel", "(LDotObjects$Scene;I)V"⟩, 1) := ⟨⟨by decide +kernel, by decide +kernel⟩, List.mem_of_getElem? (i := 42) (by decide +kernel), List.mem_of_getElem? (i := 215) (by decide +kernel), List.mem_of_getElem? (i := 216) (by decide +kernel)⟩
theorem lw_p2 : lw_okq (⟨"DotObjects$PaintedLine", "paintBehind", "(III)V"⟩, 3) := ⟨⟨by decide +kernel, by decide +kernel⟩, List.mem_of_getElem? (i := 52) (by decide +kernel), List.mem_of_getElem? (i := 266) (by decide +kernel), List.mem_of_getElem? (i := 267) (by decide +kernel)⟩
theorem lw_p3 : lw_okq (⟨"DotObjects$Holders", "occupy", "(I)I"⟩, 3) := ⟨⟨by decide +kernel, by decide +kernel⟩, List.mem_of_getElem? (i := 78) (by decide +kernel), List.mem_of_getElem? (i := 298) (by decide +kernel), List.mem_of_getElem? (i := 299) (by decide +kernel)⟩
theorem lw_p4 : lw_okq (⟨"DotObjects", "firstWrong", "()I"⟩, 10) := ⟨⟨by decide +kernel, by decide +kernel⟩, List.mem_of_getElem? (i := 17) (by decide +kernel), List.mem_of_getElem? (i := 324) (by decide +kernel), List.mem_of_getElem? (i := 325) (by decide +kernel)⟩
theorem lw_p5 : lw_okq (⟨"DotObjects", "isThing", "(I)Z"⟩, 10) := ⟨⟨by decide +kernel, by decide +kernel⟩, List.mem_of_getElem? (i := 17) (by decide +kernel), List.mem_of_getElem? (i := 358) (by decide +kernel), List.mem_of_getElem? (i := 359) (by decide +kernel)⟩
theorem lw_p6 : lw_okq (⟨"DotObjects", "holderOf", "(I)I"⟩, 10) := ⟨⟨by decide +kernel, by decide +kernel⟩, List.mem_of_getElem? (i := 17) (by decide +kernel), List.mem_of_getElem? (i := 384) (by decide +kernel), List.mem_of_getElem? (i := 385) (by decide +kernel)⟩
theorem lw_p7 : lw_okq (⟨"DotObjects$Draws", "below", "(I)I"⟩, 1) := ⟨⟨by decide +kernel, by decide +kernel⟩, List.mem_of_getElem? (i := 151) (by decide +kernel), List.mem_of_getElem? (i := 539) (by decide +kernel), List.mem_of_getElem? (i := 540) (by decide +kernel)⟩
theorem lw_p8 : lw_okq (⟨"DotObjects$Forecast", "countFrame", "()V"⟩, 3) := ⟨⟨by decide +kernel, by decide +kernel⟩, List.mem_of_getElem? (i := 94) (by decide +kernel), List.mem_of_getElem? (i := 576) (by decide +kernel), List.mem_of_getElem? (i := 577) (by decide +kernel)⟩
theorem lw_p9 : lw_okq (⟨"DotObjectsModel", "missing", "()I"⟩, 13) := ⟨⟨by decide +kernel, by decide +kernel⟩, List.mem_of_getElem? (i := 646) (by decide +kernel), List.mem_of_getElem? (i := 697) (by decide +kernel), List.mem_of_getElem? (i := 698) (by decide +kernel)⟩
theorem lw_p10 : lw_okq (⟨"DotObjectsModel", "draws", "()V"⟩, 13) := ⟨⟨by decide +kernel, by decide +kernel⟩, List.mem_of_getElem? (i := 646) (by decide +kernel), List.mem_of_getElem? (i := 701) (by decide +kernel), List.mem_of_getElem? (i := 702) (by decide +kernel)⟩
theorem lw_p11 : lw_okq (⟨"DotObjectsModel", "drawnOn", "(I)I"⟩, 13) := ⟨⟨by decide +kernel, by decide +kernel⟩, List.mem_of_getElem? (i := 646) (by decide +kernel), List.mem_of_getElem? (i := 705) (by decide +kernel), List.mem_of_getElem? (i := 706) (by decide +kernel)⟩
theorem lw_p12 : lw_okq (⟨"DotObjectsModel", "drawnBy", "(II)I"⟩, 13) := ⟨⟨by decide +kernel, by decide +kernel⟩, List.mem_of_getElem? (i := 646) (by decide +kernel), List.mem_of_getElem? (i := 709) (by decide +kernel), List.mem_of_getElem? (i := 710) (by decide +kernel)⟩
theorem lw_p13 : lw_okq (⟨"DotObjectsModel", "onLine", "(I)I"⟩, 13) := ⟨⟨by decide +kernel, by decide +kernel⟩, List.mem_of_getElem? (i := 646) (by decide +kernel), List.mem_of_getElem? (i := 713) (by decide +kernel), List.mem_of_getElem? (i := 714) (by decide +kernel)⟩
theorem lw_p14 : lw_okq (⟨"DotObjectsModel", "isOn", "(II)Z"⟩, 13) := ⟨⟨by decide +kernel, by decide +kernel⟩, List.mem_of_getElem? (i := 646) (by decide +kernel), List.mem_of_getElem? (i := 717) (by decide +kernel), List.mem_of_getElem? (i := 718) (by decide +kernel)⟩
theorem lw_p15 : lw_okq (⟨"DotObjectsModel", "of", "(II)I"⟩, 13) := ⟨⟨by decide +kernel, by decide +kernel⟩, List.mem_of_getElem? (i := 646) (by decide +kernel), List.mem_of_getElem? (i := 721) (by decide +kernel), List.mem_of_getElem? (i := 722) (by decide +kernel)⟩
def lw_privs_1 : List (MethodName × Nat) := [(⟨"DotObjects", "missingNow", "()I"⟩, 10), (⟨"DotObjects$Order", "arrangeByLevel", "(LDotObjects$Scene;I)V"⟩, 1), (⟨"DotObjects$PaintedLine", "paintBehind", "(III)V"⟩, 3), (⟨"DotObjects$Holders", "occupy", "(I)I"⟩, 3), (⟨"DotObjects", "firstWrong", "()I"⟩, 10), (⟨"DotObjects", "isThing", "(I)Z"⟩, 10), (⟨"DotObjects", "holderOf", "(I)I"⟩, 10), (⟨"DotObjects$Draws", "below", "(I)I"⟩, 1), (⟨"DotObjects$Forecast", "countFrame", "()V"⟩, 3), (⟨"DotObjectsModel", "missing", "()I"⟩, 13), (⟨"DotObjectsModel", "draws", "()V"⟩, 13), (⟨"DotObjectsModel", "drawnOn", "(I)I"⟩, 13), (⟨"DotObjectsModel", "drawnBy", "(II)I"⟩, 13), (⟨"DotObjectsModel", "onLine", "(I)I"⟩, 13), (⟨"DotObjectsModel", "isOn", "(II)Z"⟩, 13), (⟨"DotObjectsModel", "of", "(II)I"⟩, 13)]
theorem lw_r1 : ∀ q ∈ lw_privs_1, lw_okq q := List.forall_mem_cons.mpr ⟨lw_p0, List.forall_mem_cons.mpr ⟨lw_p1, List.forall_mem_cons.mpr ⟨lw_p2, List.forall_mem_cons.mpr ⟨lw_p3, List.forall_mem_cons.mpr ⟨lw_p4, List.forall_mem_cons.mpr ⟨lw_p5, List.forall_mem_cons.mpr ⟨lw_p6, List.forall_mem_cons.mpr ⟨lw_p7, List.forall_mem_cons.mpr ⟨lw_p8, List.forall_mem_cons.mpr ⟨lw_p9, List.forall_mem_cons.mpr ⟨lw_p10, List.forall_mem_cons.mpr ⟨lw_p11, List.forall_mem_cons.mpr ⟨lw_p12, List.forall_mem_cons.mpr ⟨lw_p13, List.forall_mem_cons.mpr ⟨lw_p14, List.forall_mem_cons.mpr ⟨lw_p15, fun _ h => absurd h List.not_mem_nil⟩⟩⟩⟩⟩⟩⟩⟩⟩⟩⟩⟩⟩⟩⟩⟩
theorem lw_p16 : lw_okq (⟨"DotObjectsModel", "isAhead", "(II)Z"⟩, 13) := ⟨⟨by decide +kernel, by decide +kernel⟩, List.mem_of_getElem? (i := 646) (by decide +kernel), List.mem_of_getElem? (i := 731) (by decide +kernel), List.mem_of_getElem? (i := 732) (by decide +kernel)⟩
theorem lw_p17 : lw_okq (⟨"DotObjectsModel", "colourAt", "(III)I"⟩, 13) := ⟨⟨by decide +kernel, by decide +kernel⟩, List.mem_of_getElem? (i := 646) (by decide +kernel), List.mem_of_getElem? (i := 735) (by decide +kernel), List.mem_of_getElem? (i := 736) (by decide +kernel)⟩
theorem lw_p18 : lw_okq (⟨"DotObjectsModel", "seenAt", "(III)I"⟩, 13) := ⟨⟨by decide +kernel, by decide +kernel⟩, List.mem_of_getElem? (i := 646) (by decide +kernel), List.mem_of_getElem? (i := 739) (by decide +kernel), List.mem_of_getElem? (i := 740) (by decide +kernel)⟩
theorem lw_p19 : lw_okq (⟨"DotObjectsModel", "hasDot", "(III)Z"⟩, 13) := ⟨⟨by decide +kernel, by decide +kernel⟩, List.mem_of_getElem? (i := 646) (by decide +kernel), List.mem_of_getElem? (i := 743) (by decide +kernel), List.mem_of_getElem? (i := 744) (by decide +kernel)⟩
theorem lw_p20 : lw_okq (⟨"DotObjectsModel", "bestRule", "()I"⟩, 13) := ⟨⟨by decide +kernel, by decide +kernel⟩, List.mem_of_getElem? (i := 646) (by decide +kernel), List.mem_of_getElem? (i := 747) (by decide +kernel), List.mem_of_getElem? (i := 748) (by decide +kernel)⟩
theorem lw_p21 : lw_okq (⟨"DotObjectsModel", "enough", "()I"⟩, 13) := ⟨⟨by decide +kernel, by decide +kernel⟩, List.mem_of_getElem? (i := 646) (by decide +kernel), List.mem_of_getElem? (i := 751) (by decide +kernel), List.mem_of_getElem? (i := 752) (by decide +kernel)⟩
theorem lw_p22 : lw_okq (⟨"DotObjectsModel", "holds", "()I"⟩, 13) := ⟨⟨by decide +kernel, by decide +kernel⟩, List.mem_of_getElem? (i := 646) (by decide +kernel), List.mem_of_getElem? (i := 758) (by decide +kernel), List.mem_of_getElem? (i := 759) (by decide +kernel)⟩
theorem lw_p23 : lw_okq (⟨"DotObjectsModel", "dots", "()I"⟩, 13) := ⟨⟨by decide +kernel, by decide +kernel⟩, List.mem_of_getElem? (i := 646) (by decide +kernel), List.mem_of_getElem? (i := 762) (by decide +kernel), List.mem_of_getElem? (i := 763) (by decide +kernel)⟩
theorem lw_p24 : lw_okq (⟨"DotObjectsModel", "wrong", "()I"⟩, 13) := ⟨⟨by decide +kernel, by decide +kernel⟩, List.mem_of_getElem? (i := 646) (by decide +kernel), List.mem_of_getElem? (i := 766) (by decide +kernel), List.mem_of_getElem? (i := 767) (by decide +kernel)⟩
theorem lw_p25 : lw_okq (⟨"DotObjectsModel", "isThing", "(I)Z"⟩, 13) := ⟨⟨by decide +kernel, by decide +kernel⟩, List.mem_of_getElem? (i := 646) (by decide +kernel), List.mem_of_getElem? (i := 775) (by decide +kernel), List.mem_of_getElem? (i := 776) (by decide +kernel)⟩
theorem lw_p26 : lw_okq (⟨"DotObjectsModel", "dotsOf", "(II)I"⟩, 13) := ⟨⟨by decide +kernel, by decide +kernel⟩, List.mem_of_getElem? (i := 646) (by decide +kernel), List.mem_of_getElem? (i := 780) (by decide +kernel), List.mem_of_getElem? (i := 781) (by decide +kernel)⟩
theorem lw_p27 : lw_okq (⟨"DotObjectsModel", "droppedOf", "(I)I"⟩, 13) := ⟨⟨by decide +kernel, by decide +kernel⟩, List.mem_of_getElem? (i := 646) (by decide +kernel), List.mem_of_getElem? (i := 784) (by decide +kernel), List.mem_of_getElem? (i := 785) (by decide +kernel)⟩
theorem lw_p28 : lw_okq (⟨"DotObjectsModel", "meets", "(IZ)I"⟩, 13) := ⟨⟨by decide +kernel, by decide +kernel⟩, List.mem_of_getElem? (i := 646) (by decide +kernel), List.mem_of_getElem? (i := 788) (by decide +kernel), List.mem_of_getElem? (i := 789) (by decide +kernel)⟩
theorem lw_p29 : lw_okq (⟨"DotObjectsModel", "notes", "()V"⟩, 13) := ⟨⟨by decide +kernel, by decide +kernel⟩, List.mem_of_getElem? (i := 646) (by decide +kernel), List.mem_of_getElem? (i := 814) (by decide +kernel), List.mem_of_getElem? (i := 815) (by decide +kernel)⟩
theorem lw_p30 : lw_okq (⟨"DotObjectsModel", "puts", "(IIIIII)V"⟩, 13) := ⟨⟨by decide +kernel, by decide +kernel⟩, List.mem_of_getElem? (i := 646) (by decide +kernel), List.mem_of_getElem? (i := 826) (by decide +kernel), List.mem_of_getElem? (i := 827) (by decide +kernel)⟩
theorem lw_p31 : lw_okq (⟨"DotObjectsModel", "goes", "()V"⟩, 13) := ⟨⟨by decide +kernel, by decide +kernel⟩, List.mem_of_getElem? (i := 646) (by decide +kernel), List.mem_of_getElem? (i := 858) (by decide +kernel), List.mem_of_getElem? (i := 859) (by decide +kernel)⟩
def lw_privs_2 : List (MethodName × Nat) := [(⟨"DotObjectsModel", "isAhead", "(II)Z"⟩, 13), (⟨"DotObjectsModel", "colourAt", "(III)I"⟩, 13), (⟨"DotObjectsModel", "seenAt", "(III)I"⟩, 13), (⟨"DotObjectsModel", "hasDot", "(III)Z"⟩, 13), (⟨"DotObjectsModel", "bestRule", "()I"⟩, 13), (⟨"DotObjectsModel", "enough", "()I"⟩, 13), (⟨"DotObjectsModel", "holds", "()I"⟩, 13), (⟨"DotObjectsModel", "dots", "()I"⟩, 13), (⟨"DotObjectsModel", "wrong", "()I"⟩, 13), (⟨"DotObjectsModel", "isThing", "(I)Z"⟩, 13), (⟨"DotObjectsModel", "dotsOf", "(II)I"⟩, 13), (⟨"DotObjectsModel", "droppedOf", "(I)I"⟩, 13), (⟨"DotObjectsModel", "meets", "(IZ)I"⟩, 13), (⟨"DotObjectsModel", "notes", "()V"⟩, 13), (⟨"DotObjectsModel", "puts", "(IIIIII)V"⟩, 13), (⟨"DotObjectsModel", "goes", "()V"⟩, 13)]
theorem lw_r2 : ∀ q ∈ lw_privs_2, lw_okq q := List.forall_mem_cons.mpr ⟨lw_p16, List.forall_mem_cons.mpr ⟨lw_p17, List.forall_mem_cons.mpr ⟨lw_p18, List.forall_mem_cons.mpr ⟨lw_p19, List.forall_mem_cons.mpr ⟨lw_p20, List.forall_mem_cons.mpr ⟨lw_p21, List.forall_mem_cons.mpr ⟨lw_p22, List.forall_mem_cons.mpr ⟨lw_p23, List.forall_mem_cons.mpr ⟨lw_p24, List.forall_mem_cons.mpr ⟨lw_p25, List.forall_mem_cons.mpr ⟨lw_p26, List.forall_mem_cons.mpr ⟨lw_p27, List.forall_mem_cons.mpr ⟨lw_p28, List.forall_mem_cons.mpr ⟨lw_p29, List.forall_mem_cons.mpr ⟨lw_p30, List.forall_mem_cons.mpr ⟨lw_p31, fun _ h => absurd h List.not_mem_nil⟩⟩⟩⟩⟩⟩⟩⟩⟩⟩⟩⟩⟩⟩⟩⟩
theorem lw_p32 : lw_okq (⟨"DotObjectsModel", "drawOf", "(I)I"⟩, 13) := ⟨⟨by decide +kernel, by decide +kernel⟩, List.mem_of_getElem? (i := 646) (by decide +kernel), List.mem_of_getElem? (i := 866) (by decide +kernel), List.mem_of_getElem? (i := 867) (by decide +kernel)⟩
theorem lw_p33 : lw_okq (⟨"DotObjectsModel", "leftOutOf", "(II)I"⟩, 13) := ⟨⟨by decide +kernel, by decide +kernel⟩, List.mem_of_getElem? (i := 646) (by decide +kernel), List.mem_of_getElem? (i := 883) (by decide +kernel), List.mem_of_getElem? (i := 884) (by decide +kernel)⟩
def lw_privs_3 : List (MethodName × Nat) := [(⟨"DotObjectsModel", "drawOf", "(I)I"⟩, 13), (⟨"DotObjectsModel", "leftOutOf", "(II)I"⟩, 13)]
theorem lw_r3 : ∀ q ∈ lw_privs_3, lw_okq q := List.forall_mem_cons.mpr ⟨lw_p32, List.forall_mem_cons.mpr ⟨lw_p33, fun _ h => absurd h List.not_mem_nil⟩⟩
def lw_privs : List (MethodName × Nat) := lw_privs_1 ++ (lw_privs_2 ++ (lw_privs_3))
def lw_tbl : List Cond := k2_sels lw_privs ++ tables_1
theorem lw_privs_ok : ∀ q ∈ lw_privs, lw_okq q := by
  show ∀ q ∈ lw_privs_1 ++ (lw_privs_2 ++ (lw_privs_3)), lw_okq q
  exact List.forall_mem_append.mpr ⟨lw_r1, List.forall_mem_append.mpr ⟨lw_r2, lw_r3⟩⟩
end
section
/-! ===== BEGIN words of one list among another's, by their places ===== -/
theorem goodIn_r {big : List Cond} (ws : List Cond) (ps : List Nat) (hp : ws = ps.filterMap (fun i => big[i]?)) (h : ws.all goodWord = true) : GoodIn big ws := by
  intro w hw
  have h1 := List.all_eq_true.mp h w hw
  rw [hp] at hw
  obtain ⟨i, -, hi⟩ := List.mem_filterMap.mp hw
  have hm : w ∈ big := by first | exact List.mem_of_getElem? hi | exact List.getElem?_mem hi
  exact ⟨hm, good_of_word h1⟩
theorem goodIn_app {big a b : List Cond} (ha : GoodIn big a) (hb : GoodIn big b) : GoodIn big (a ++ b) := fun w h => (List.mem_append.mp h).elim (ha w) (hb w)
theorem goodIn_ca {big a b : List Cond} {c : Cond} (ha : GoodIn big (c :: a)) (hb : GoodIn big b) : GoodIn big (c :: (a ++ b)) := fun w h => (List.mem_cons.mp h).elim (fun e => ha w (List.mem_cons.mpr (Or.inl e))) (fun h => (List.mem_append.mp h).elim (fun h => ha w (List.mem_cons.mpr (Or.inr h))) (hb w))
theorem goodIn_sub {big ws : List Cond} (hm : ∀ w ∈ ws, w ∈ big) (h : ws.all goodWord = true) : GoodIn big ws := fun w hw => ⟨hm w hw, good_of_word (List.all_eq_true.mp h w hw)⟩
/-! ===== END ===== -/


/-! ===== BEGIN printed: names, fields, word lists, decode rows ===== -/
def RX0 : String := "DotObjects$Book"
def TX0 : u_T := fun k => match k with
  | 0 => ("DotObjects$Book", "lines", "[I", true)
  | 1 => ("DotObjects$Book", "columns", "[I", true)
  | 2 => ("DotObjects$Book", "colours", "[I", true)
  | _ => ("DotObjects$Book", "size", "I", false)
def tyX0 : Nat → FieldType := fun k => match k with
  | 0 => .array .int
  | 1 => .array .int
  | 2 => .array .int
  | _ => .int
abbrev wsX00 : List Cond := u_ws RX0 TX0 4
theorem nmX0 : ∀ a, a < 4 → ∀ b, b < 4 → a ≠ b → (TX0 a).2.1 ≠ (TX0 b).2.1 := by decide +kernel
theorem tyX0_ok : ∀ k, k < 4 → parseFieldDescriptor (TX0 k).2.2.1 = some (tyX0 k) := by decide +kernel
abbrev cX0_init : ByteArray := prog_2_method_1_code
def yX0_init : MethodName := ⟨RX0, "<init>", "()V"⟩
abbrev cX0_size : ByteArray := prog_2_method_2_code
def yX0_size : MethodName := ⟨RX0, "size", "()I"⟩
abbrev cX0_isFull : ByteArray := prog_2_method_3_code
def yX0_isFull : MethodName := ⟨RX0, "isFull", "()Z"⟩
abbrev cX0_clear : ByteArray := prog_2_method_4_code
def yX0_clear : MethodName := ⟨RX0, "clear", "()V"⟩
abbrev cX0_add : ByteArray := prog_2_method_5_code
def yX0_add : MethodName := ⟨RX0, "add", "(III)I"⟩
abbrev cX0_lineOf : ByteArray := prog_2_method_6_code
def yX0_lineOf : MethodName := ⟨RX0, "lineOf", "(I)I"⟩
abbrev cX0_columnOf : ByteArray := prog_2_method_7_code
def yX0_columnOf : MethodName := ⟨RX0, "columnOf", "(I)I"⟩
abbrev cX0_colourOf : ByteArray := prog_2_method_8_code
def yX0_colourOf : MethodName := ⟨RX0, "colourOf", "(I)I"⟩
def RX1 : String := "DotObjects$Draws"
def TX1 : u_T := fun k => match k with
  | _ => ("DotObjects$Draws", "value", "I", false)
def tyX1 : Nat → FieldType := fun k => match k with
  | _ => .int
abbrev wsX10 : List Cond := u_ws RX1 TX1 1
theorem nmX1 : ∀ a, a < 1 → ∀ b, b < 1 → a ≠ b → (TX1 a).2.1 ≠ (TX1 b).2.1 := by decide +kernel
theorem tyX1_ok : ∀ k, k < 1 → parseFieldDescriptor (TX1 k).2.2.1 = some (tyX1 k) := by decide +kernel
abbrev cX1_init : ByteArray := prog_3_method_1_code
def yX1_init : MethodName := ⟨RX1, "<init>", "()V"⟩
abbrev cX1_value : ByteArray := prog_3_method_2_code
def yX1_value : MethodName := ⟨RX1, "value", "()I"⟩
abbrev cX1_start : ByteArray := prog_3_method_3_code
def yX1_start : MethodName := ⟨RX1, "start", "(I)V"⟩
abbrev cX1_addThing : ByteArray := prog_3_method_4_code
def yX1_addThing : MethodName := ⟨RX1, "addThing", "(LDotObjects$Scene;)V"⟩
abbrev cX1_below : ByteArray := prog_3_method_5_code
def yX1_below : MethodName := ⟨RX1, "below", "(I)I"⟩
def RX2 : String := "DotObjects$Forecast"
def TX2 : u_T := fun k => match k with
  | 0 => ("DotObjects$Forecast", "ahead", "LDotObjects$Scene;", true)
  | 1 => ("DotObjects$Forecast", "order", "LDotObjects$Order;", true)
  | _ => ("DotObjects$Forecast", "drops", "[I", true)
def tyX2 : Nat → FieldType := fun k => match k with
  | 0 => .object "DotObjects$Scene"
  | 1 => .object "DotObjects$Order"
  | _ => .array .int
abbrev wsX20 : List Cond := u_ws RX2 TX2 3
theorem nmX2 : ∀ a, a < 3 → ∀ b, b < 3 → a ≠ b → (TX2 a).2.1 ≠ (TX2 b).2.1 := by decide +kernel
theorem tyX2_ok : ∀ k, k < 3 → parseFieldDescriptor (TX2 k).2.2.1 = some (tyX2 k) := by decide +kernel
abbrev cX2_init : ByteArray := prog_4_method_1_code
def yX2_init : MethodName := ⟨RX2, "<init>", "()V"⟩
abbrev cX2_run : ByteArray := prog_4_method_2_code
def yX2_run : MethodName := ⟨RX2, "run", "(LDotObjects$Scene;I)V"⟩
abbrev cX2_countFrame : ByteArray := prog_4_method_3_code
def yX2_countFrame : MethodName := ⟨RX2, "countFrame", "()V"⟩
abbrev cX2_dropsOf : ByteArray := prog_4_method_4_code
def yX2_dropsOf : MethodName := ⟨RX2, "dropsOf", "(I)I"⟩
abbrev cX2_mostDropped : ByteArray := prog_4_method_5_code
def yX2_mostDropped : MethodName := ⟨RX2, "mostDropped", "()I"⟩
def RX3 : String := "DotObjects$History"
def TX3 : u_T := fun k => match k with
  | 0 => ("DotObjects$History", "earlier", "[[I", true)
  | 1 => ("DotObjects$History", "next", "I", false)
  | _ => ("DotObjects$History", "size", "I", false)
def tyX3 : Nat → FieldType := fun k => match k with
  | 0 => .array (.array .int)
  | 1 => .int
  | _ => .int
abbrev wsX30 : List Cond := u_ws RX3 TX3 3
theorem nmX3 : ∀ a, a < 3 → ∀ b, b < 3 → a ≠ b → (TX3 a).2.1 ≠ (TX3 b).2.1 := by decide +kernel
theorem tyX3_ok : ∀ k, k < 3 → parseFieldDescriptor (TX3 k).2.2.1 = some (tyX3 k) := by decide +kernel
abbrev cX3_init : ByteArray := prog_5_method_1_code
def yX3_init : MethodName := ⟨RX3, "<init>", "()V"⟩
abbrev cX3_size : ByteArray := prog_5_method_2_code
def yX3_size : MethodName := ⟨RX3, "size", "()I"⟩
abbrev cX3_clear : ByteArray := prog_5_method_3_code
def yX3_clear : MethodName := ⟨RX3, "clear", "()V"⟩
abbrev cX3_remember : ByteArray := prog_5_method_4_code
def yX3_remember : MethodName := ⟨RX3, "remember", "(LDotObjects$Scene;)V"⟩
abbrev cX3_bringBack : ByteArray := prog_5_method_5_code
def yX3_bringBack : MethodName := ⟨RX3, "bringBack", "(LDotObjects$Scene;I)V"⟩
def RX4 : String := "DotObjects$Holders"
def TX4 : u_T := fun k => match k with
  | 0 => ("DotObjects$Holders", "holders", "[I", true)
  | 1 => ("DotObjects$Holders", "ends", "[I", true)
  | _ => ("DotObjects$Holders", "used", "I", false)
def tyX4 : Nat → FieldType := fun k => match k with
  | 0 => .array .int
  | 1 => .array .int
  | _ => .int
abbrev wsX40 : List Cond := u_ws RX4 TX4 3
theorem nmX4 : ∀ a, a < 3 → ∀ b, b < 3 → a ≠ b → (TX4 a).2.1 ≠ (TX4 b).2.1 := by decide +kernel
theorem tyX4_ok : ∀ k, k < 3 → parseFieldDescriptor (TX4 k).2.2.1 = some (tyX4 k) := by decide +kernel
abbrev cX4_init : ByteArray := prog_6_method_1_code
def yX4_init : MethodName := ⟨RX4, "<init>", "()V"⟩
abbrev cX4_assign : ByteArray := prog_6_method_2_code
def yX4_assign : MethodName := ⟨RX4, "assign", "(LDotObjects$Scene;)I"⟩
abbrev cX4_occupy : ByteArray := prog_6_method_3_code
def yX4_occupy : MethodName := ⟨RX4, "occupy", "(I)I"⟩
abbrev cX4_holderOf : ByteArray := prog_6_method_4_code
def yX4_holderOf : MethodName := ⟨RX4, "holderOf", "(I)I"⟩
def RX5 : String := "DotObjects$Order"
def TX5 : u_T := fun k => match k with
  | _ => ("DotObjects$Order", "order", "[I", true)
def tyX5 : Nat → FieldType := fun k => match k with
  | _ => .array .int
abbrev wsX50 : List Cond := u_ws RX5 TX5 1
theorem nmX5 : ∀ a, a < 1 → ∀ b, b < 1 → a ≠ b → (TX5 a).2.1 ≠ (TX5 b).2.1 := by decide +kernel
theorem tyX5_ok : ∀ k, k < 1 → parseFieldDescriptor (TX5 k).2.2.1 = some (tyX5 k) := by decide +kernel
abbrev cX5_init : ByteArray := prog_7_method_1_code
def yX5_init : MethodName := ⟨RX5, "<init>", "()V"⟩
abbrev cX5_arrange : ByteArray := prog_7_method_2_code
def yX5_arrange : MethodName := ⟨RX5, "arrange", "(LDotObjects$Scene;I)V"⟩
abbrev cX5_arrangeByLevel : ByteArray := prog_7_method_3_code
def yX5_arrangeByLevel : MethodName := ⟨RX5, "arrangeByLevel", "(LDotObjects$Scene;I)V"⟩
abbrev cX5_chosen : ByteArray := prog_7_method_4_code
def yX5_chosen : MethodName := ⟨RX5, "chosen", "(LDotObjects$Scene;I)I"⟩
def RX6 : String := "DotObjects$PaintedLine"
def TX6 : u_T := fun k => match k with
  | 0 => ("DotObjects$PaintedLine", "seen", "[I", true)
  | 1 => ("DotObjects$PaintedLine", "planes", "[I", true)
  | _ => ("DotObjects$PaintedLine", "filled", "I", false)
def tyX6 : Nat → FieldType := fun k => match k with
  | 0 => .array .int
  | 1 => .array .int
  | _ => .int
abbrev wsX60 : List Cond := u_ws RX6 TX6 3
theorem nmX6 : ∀ a, a < 3 → ∀ b, b < 3 → a ≠ b → (TX6 a).2.1 ≠ (TX6 b).2.1 := by decide +kernel
theorem tyX6_ok : ∀ k, k < 3 → parseFieldDescriptor (TX6 k).2.2.1 = some (tyX6 k) := by decide +kernel
abbrev cX6_init : ByteArray := prog_8_method_1_code
def yX6_init : MethodName := ⟨RX6, "<init>", "()V"⟩
abbrev cX6_paint : ByteArray := prog_8_method_2_code
def yX6_paint : MethodName := ⟨RX6, "paint", "(LDotObjects$Scene;II)V"⟩
abbrev cX6_paintBehind : ByteArray := prog_8_method_3_code
def yX6_paintBehind : MethodName := ⟨RX6, "paintBehind", "(III)V"⟩
abbrev cX6_filledColumns : ByteArray := prog_8_method_4_code
def yX6_filledColumns : MethodName := ⟨RX6, "filledColumns", "()I"⟩
abbrev cX6_seenColumns : ByteArray := prog_8_method_5_code
def yX6_seenColumns : MethodName := ⟨RX6, "seenColumns", "(I)I"⟩
abbrev cX6_thingAt : ByteArray := prog_8_method_6_code
def yX6_thingAt : MethodName := ⟨RX6, "thingAt", "(I)I"⟩
abbrev cX6_colourAt : ByteArray := prog_8_method_7_code
def yX6_colourAt : MethodName := ⟨RX6, "colourAt", "(LDotObjects$Scene;I)I"⟩
abbrev cX6_otherColumns : ByteArray := prog_8_method_8_code
def yX6_otherColumns : MethodName := ⟨RX6, "otherColumns", "(LDotObjects$PaintedLine;)I"⟩
def RX7 : String := "DotObjects$Scene"
def TX7 : u_T := fun k => match k with
  | _ => ("DotObjects$Scene", "cells", "[I", true)
def tyX7 : Nat → FieldType := fun k => match k with
  | _ => .array .int
abbrev wsX70 : List Cond := u_ws RX7 TX7 1
theorem nmX7 : ∀ a, a < 1 → ∀ b, b < 1 → a ≠ b → (TX7 a).2.1 ≠ (TX7 b).2.1 := by decide +kernel
theorem tyX7_ok : ∀ k, k < 1 → parseFieldDescriptor (TX7 k).2.2.1 = some (tyX7 k) := by decide +kernel
abbrev cX7_init : ByteArray := prog_9_method_1_code
def yX7_init : MethodName := ⟨RX7, "<init>", "()V"⟩
abbrev cX7_saveTo : ByteArray := prog_9_method_2_code
def yX7_saveTo : MethodName := ⟨RX7, "saveTo", "([I)V"⟩
abbrev cX7_loadFrom : ByteArray := prog_9_method_3_code
def yX7_loadFrom : MethodName := ⟨RX7, "loadFrom", "([I)V"⟩
abbrev cX7_copyFrom : ByteArray := prog_9_method_4_code
def yX7_copyFrom : MethodName := ⟨RX7, "copyFrom", "(LDotObjects$Scene;)V"⟩
abbrev cX7_cell : ByteArray := prog_9_method_5_code
def yX7_cell : MethodName := ⟨RX7, "cell", "(I)I"⟩
abbrev cX7_setCell : ByteArray := prog_9_method_6_code
def yX7_setCell : MethodName := ⟨RX7, "setCell", "(II)V"⟩
abbrev cX7_field : ByteArray := prog_9_method_7_code
def yX7_field : MethodName := ⟨RX7, "field", "(II)I"⟩
abbrev cX7_setField : ByteArray := prog_9_method_8_code
def yX7_setField : MethodName := ⟨RX7, "setField", "(III)V"⟩
abbrev cX7_bits : ByteArray := prog_9_method_9_code
def yX7_bits : MethodName := ⟨RX7, "bits", "(II)I"⟩
abbrev cX7_setBits : ByteArray := prog_9_method_10_code
def yX7_setBits : MethodName := ⟨RX7, "setBits", "(III)V"⟩
abbrev cX7_isFull : ByteArray := prog_9_method_11_code
def yX7_isFull : MethodName := ⟨RX7, "isFull", "()Z"⟩
abbrev cX7_add : ByteArray := prog_9_method_12_code
def yX7_add : MethodName := ⟨RX7, "add", "(IIIIII)I"⟩
abbrev cX7_removeThing : ByteArray := prog_9_method_13_code
def yX7_removeThing : MethodName := ⟨RX7, "removeThing", "(I)V"⟩
abbrev cX7_goNextFrame : ByteArray := prog_9_method_14_code
def yX7_goNextFrame : MethodName := ⟨RX7, "goNextFrame", "()V"⟩
abbrev cX7_wrapped : ByteArray := prog_9_method_15_code
def yX7_wrapped : MethodName := ⟨RX7, "wrapped", "(II)I"⟩
abbrev cX7_isOn : ByteArray := prog_9_method_16_code
def yX7_isOn : MethodName := ⟨RX7, "isOn", "(II)Z"⟩
abbrev cX7_setOn : ByteArray := prog_9_method_17_code
def yX7_setOn : MethodName := ⟨RX7, "setOn", "(I)I"⟩
abbrev cX7_linesOf : ByteArray := prog_9_method_18_code
def yX7_linesOf : MethodName := ⟨RX7, "linesOf", "(I)I"⟩
abbrev cX7_dotsOf : ByteArray := prog_9_method_19_code
def yX7_dotsOf : MethodName := ⟨RX7, "dotsOf", "(II)I"⟩
abbrev cX7_mirrored : ByteArray := prog_9_method_20_code
def yX7_mirrored : MethodName := ⟨RX7, "mirrored", "(I)I"⟩
def RX8 : String := "DotObjects$Screen"
def TX8 : u_T := fun k => match k with
  | 0 => ("DotObjects$Screen", "order", "LDotObjects$Order;", true)
  | 1 => ("DotObjects$Screen", "now", "LDotObjects$PaintedLine;", true)
  | _ => ("DotObjects$Screen", "whole", "LDotObjects$PaintedLine;", true)
def tyX8 : Nat → FieldType := fun k => match k with
  | 0 => .object "DotObjects$Order"
  | 1 => .object "DotObjects$PaintedLine"
  | _ => .object "DotObjects$PaintedLine"
abbrev wsX80 : List Cond := u_ws RX8 TX8 3
theorem nmX8 : ∀ a, a < 3 → ∀ b, b < 3 → a ≠ b → (TX8 a).2.1 ≠ (TX8 b).2.1 := by decide +kernel
theorem tyX8_ok : ∀ k, k < 3 → parseFieldDescriptor (TX8 k).2.2.1 = some (tyX8 k) := by decide +kernel
abbrev cX8_init : ByteArray := prog_10_method_1_code
def yX8_init : MethodName := ⟨RX8, "<init>", "()V"⟩
abbrev cX8_drawnSet : ByteArray := prog_10_method_2_code
def yX8_drawnSet : MethodName := ⟨RX8, "drawnSet", "(LDotObjects$Scene;I)I"⟩
abbrev cX8_paintNow : ByteArray := prog_10_method_3_code
def yX8_paintNow : MethodName := ⟨RX8, "paintNow", "(LDotObjects$Scene;I)LDotObjects$PaintedLine;"⟩
abbrev cX8_paintWhole : ByteArray := prog_10_method_4_code
def yX8_paintWhole : MethodName := ⟨RX8, "paintWhole", "(LDotObjects$Scene;I)LDotObjects$PaintedLine;"⟩
abbrev cX8_missing : ByteArray := prog_10_method_5_code
def yX8_missing : MethodName := ⟨RX8, "missing", "(LDotObjects$Scene;I)I"⟩
abbrev cX8_bestRule : ByteArray := prog_10_method_6_code
def yX8_bestRule : MethodName := ⟨RX8, "bestRule", "(LDotObjects$Scene;)I"⟩
abbrev cX8_enough : ByteArray := prog_10_method_7_code
def yX8_enough : MethodName := ⟨RX8, "enough", "(LDotObjects$Scene;)I"⟩
abbrev cX8_filledDots : ByteArray := prog_10_method_8_code
def yX8_filledDots : MethodName := ⟨RX8, "filledDots", "(LDotObjects$Scene;)I"⟩
abbrev cX8_seenDots : ByteArray := prog_10_method_9_code
def yX8_seenDots : MethodName := ⟨RX8, "seenDots", "(LDotObjects$Scene;I)I"⟩
abbrev cX8_coveredDots : ByteArray := prog_10_method_10_code
def yX8_coveredDots : MethodName := ⟨RX8, "coveredDots", "(LDotObjects$Scene;I)I"⟩
abbrev cX8_droppedLines : ByteArray := prog_10_method_11_code
def yX8_droppedLines : MethodName := ⟨RX8, "droppedLines", "(LDotObjects$Scene;I)I"⟩
abbrev cX8_met : ByteArray := prog_10_method_12_code
def yX8_met : MethodName := ⟨RX8, "met", "(LDotObjects$Scene;I)I"⟩
abbrev cX8_wouldMeet : ByteArray := prog_10_method_13_code
def yX8_wouldMeet : MethodName := ⟨RX8, "wouldMeet", "(LDotObjects$Scene;I)I"⟩
abbrev cX8_touching : ByteArray := prog_10_method_14_code
def yX8_touching : MethodName := ⟨RX8, "touching", "(LDotObjects$Scene;III)I"⟩
def RX9 : String := "DotObjects"
def TX9 : u_T := fun k => match k with
  | 0 => ("DotObjects", "scene", "LDotObjects$Scene;", true)
  | 1 => ("DotObjects", "screen", "LDotObjects$Screen;", true)
  | 2 => ("DotObjects", "holders", "LDotObjects$Holders;", true)
  | 3 => ("DotObjects", "forecast", "LDotObjects$Forecast;", true)
  | 4 => ("DotObjects", "history", "LDotObjects$History;", true)
  | 5 => ("DotObjects", "book", "LDotObjects$Book;", true)
  | 6 => ("DotObjects", "draws", "LDotObjects$Draws;", true)
  | 7 => ("DotObjects", "images", "[[I", true)
  | 8 => ("DotObjects", "imageSeeds", "[I", true)
  | _ => ("DotObjects", "kept", "[Z", true)
def tyX9 : Nat → FieldType := fun k => match k with
  | 0 => .object "DotObjects$Scene"
  | 1 => .object "DotObjects$Screen"
  | 2 => .object "DotObjects$Holders"
  | 3 => .object "DotObjects$Forecast"
  | 4 => .object "DotObjects$History"
  | 5 => .object "DotObjects$Book"
  | 6 => .object "DotObjects$Draws"
  | 7 => .array (.array .int)
  | 8 => .array .int
  | _ => .array .boolean
abbrev wsX90 : List Cond := u_ws RX9 TX9 10
theorem nmX9 : ∀ a, a < 10 → ∀ b, b < 10 → a ≠ b → (TX9 a).2.1 ≠ (TX9 b).2.1 := by decide +kernel
theorem tyX9_ok : ∀ k, k < 10 → parseFieldDescriptor (TX9 k).2.2.1 = some (tyX9 k) := by decide +kernel
abbrev cX9_init : ByteArray := prog_1_method_1_code
def yX9_init : MethodName := ⟨RX9, "<init>", "()V"⟩
abbrev cX9_told : ByteArray := prog_1_method_2_code
def yX9_told : MethodName := ⟨RX9, "told", "(I)I"⟩
abbrev cX9_thing : ByteArray := prog_1_method_3_code
def yX9_thing : MethodName := ⟨RX9, "thing", "(II)I"⟩
abbrev cX9_dot : ByteArray := prog_1_method_4_code
def yX9_dot : MethodName := ⟨RX9, "dot", "(III)I"⟩
abbrev cX9_line : ByteArray := prog_1_method_5_code
def yX9_line : MethodName := ⟨RX9, "line", "(II)J"⟩
abbrev cX9_drawn : ByteArray := prog_1_method_6_code
def yX9_drawn : MethodName := ⟨RX9, "drawn", "(II)I"⟩
abbrev cX9_pictureRow : ByteArray := prog_1_method_7_code
def yX9_pictureRow : MethodName := ⟨RX9, "pictureRow", "(II)I"⟩
abbrev cX9_row : ByteArray := prog_1_method_8_code
def yX9_row : MethodName := ⟨RX9, "row", "(III)I"⟩
abbrev cX9_put : ByteArray := prog_1_method_9_code
def yX9_put : MethodName := ⟨RX9, "put", "(IIIIII)I"⟩
abbrev cX9_move : ByteArray := prog_1_method_10_code
def yX9_move : MethodName := ⟨RX9, "move", "(III)I"⟩
abbrev cX9_turn : ByteArray := prog_1_method_11_code
def yX9_turn : MethodName := ⟨RX9, "turn", "(III)I"⟩
abbrev cX9_speed : ByteArray := prog_1_method_12_code
def yX9_speed : MethodName := ⟨RX9, "speed", "(III)I"⟩
abbrev cX9_take : ByteArray := prog_1_method_13_code
def yX9_take : MethodName := ⟨RX9, "take", "(I)I"⟩
abbrev cX9_limit : ByteArray := prog_1_method_14_code
def yX9_limit : MethodName := ⟨RX9, "limit", "(I)I"⟩
abbrev cX9_rule : ByteArray := prog_1_method_15_code
def yX9_rule : MethodName := ⟨RX9, "rule", "(I)I"⟩
abbrev cX9_frame : ByteArray := prog_1_method_16_code
def yX9_frame : MethodName := ⟨RX9, "frame", "(I)I"⟩
abbrev cX9_drift : ByteArray := prog_1_method_17_code
def yX9_drift : MethodName := ⟨RX9, "drift", "(I)I"⟩
abbrev cX9_undo : ByteArray := prog_1_method_18_code
def yX9_undo : MethodName := ⟨RX9, "undo", "(I)I"⟩
abbrev cX9_leftOut : ByteArray := prog_1_method_19_code
def yX9_leftOut : MethodName := ⟨RX9, "leftOut", "(II)I"⟩
abbrev cX9_worst : ByteArray := prog_1_method_20_code
def yX9_worst : MethodName := ⟨RX9, "worst", "(I)I"⟩
abbrev cX9_write : ByteArray := prog_1_method_21_code
def yX9_write : MethodName := ⟨RX9, "write", "(III)I"⟩
abbrev cX9_tear : ByteArray := prog_1_method_22_code
def yX9_tear : MethodName := ⟨RX9, "tear", "()I"⟩
abbrev cX9_seed : ByteArray := prog_1_method_23_code
def yX9_seed : MethodName := ⟨RX9, "seed", "(I)I"⟩
abbrev cX9_keep : ByteArray := prog_1_method_24_code
def yX9_keep : MethodName := ⟨RX9, "keep", "(I)I"⟩
abbrev cX9_goBack : ByteArray := prog_1_method_25_code
def yX9_goBack : MethodName := ⟨RX9, "goBack", "(I)I"⟩
abbrev cX9_isWithin : ByteArray := prog_1_method_26_code
def yX9_isWithin : MethodName := ⟨RX9, "isWithin", "(III)Z"⟩
abbrev cX9_isPicture : ByteArray := prog_1_method_27_code
def yX9_isPicture : MethodName := ⟨RX9, "isPicture", "(I)Z"⟩
abbrev cX9_isImage : ByteArray := prog_1_method_28_code
def yX9_isImage : MethodName := ⟨RX9, "isImage", "(I)Z"⟩
abbrev cX9_isDot : ByteArray := prog_1_method_29_code
def yX9_isDot : MethodName := ⟨RX9, "isDot", "(II)Z"⟩
abbrev cX9_isPlace : ByteArray := prog_1_method_30_code
def yX9_isPlace : MethodName := ⟨RX9, "isPlace", "(II)Z"⟩
abbrev cX9_isManner : ByteArray := prog_1_method_31_code
def yX9_isManner : MethodName := ⟨RX9, "isManner", "(II)Z"⟩
abbrev cX9_isInSet : ByteArray := prog_1_method_32_code
def yX9_isInSet : MethodName := ⟨RX9, "isInSet", "(II)Z"⟩
abbrev cX9_isThing : ByteArray := prog_1_method_33_code
def yX9_isThing : MethodName := ⟨RX9, "isThing", "(I)Z"⟩
abbrev cX9_missingNow : ByteArray := prog_1_method_34_code
def yX9_missingNow : MethodName := ⟨RX9, "missingNow", "()I"⟩
abbrev cX9_holderOf : ByteArray := prog_1_method_35_code
def yX9_holderOf : MethodName := ⟨RX9, "holderOf", "(I)I"⟩
abbrev cX9_firstWrong : ByteArray := prog_1_method_36_code
def yX9_firstWrong : MethodName := ⟨RX9, "firstWrong", "()I"⟩
def RX10 : String := "DotObjectsModel"
def TX10 : u_T := fun k => match k with
  | 0 => ("DotObjectsModel", "now", "[I", true)
  | 1 => ("DotObjectsModel", "aside", "[I", true)
  | 2 => ("DotObjectsModel", "past", "[I", true)
  | 3 => ("DotObjectsModel", "deeds", "I", false)
  | 4 => ("DotObjectsModel", "images", "[I", true)
  | 5 => ("DotObjectsModel", "seeds", "[J", true)
  | 6 => ("DotObjectsModel", "kept", "[Z", true)
  | 7 => ("DotObjectsModel", "seed", "J", false)
  | 8 => ("DotObjectsModel", "book", "[I", true)
  | 9 => ("DotObjectsModel", "entries", "I", false)
  | 10 => ("DotObjectsModel", "sets", "[I", true)
  | 11 => ("DotObjectsModel", "holder", "[I", true)
  | _ => ("DotObjectsModel", "ends", "[I", true)
def tyX10 : Nat → FieldType := fun k => match k with
  | 0 => .array .int
  | 1 => .array .int
  | 2 => .array .int
  | 3 => .int
  | 4 => .array .int
  | 5 => .array .long
  | 6 => .array .boolean
  | 7 => .long
  | 8 => .array .int
  | 9 => .int
  | 10 => .array .int
  | 11 => .array .int
  | _ => .array .int
abbrev wsX100 : List Cond := u_ws RX10 TX10 13
theorem nmX10 : ∀ a, a < 13 → ∀ b, b < 13 → a ≠ b → (TX10 a).2.1 ≠ (TX10 b).2.1 := by decide +kernel
theorem tyX10_ok : ∀ k, k < 13 → parseFieldDescriptor (TX10 k).2.2.1 = some (tyX10 k) := by decide +kernel
abbrev cX10_init : ByteArray := prog_12_method_1_code
def yX10_init : MethodName := ⟨RX10, "<init>", "()V"⟩
abbrev cX10_in : ByteArray := prog_12_method_3_code
def yX10_in : MethodName := ⟨RX10, "in", "(III)Z"⟩
abbrev cX10_has : ByteArray := prog_12_method_4_code
def yX10_has : MethodName := ⟨RX10, "has", "(II)Z"⟩
abbrev cX10_ones : ByteArray := prog_12_method_5_code
def yX10_ones : MethodName := ⟨RX10, "ones", "(I)I"⟩
abbrev cX10_isThing : ByteArray := prog_12_method_6_code
def yX10_isThing : MethodName := ⟨RX10, "isThing", "(I)Z"⟩
abbrev cX10_of : ByteArray := prog_12_method_7_code
def yX10_of : MethodName := ⟨RX10, "of", "(II)I"⟩
abbrev cX10_notes : ByteArray := prog_12_method_8_code
def yX10_notes : MethodName := ⟨RX10, "notes", "()V"⟩
abbrev cX10_isOn : ByteArray := prog_12_method_9_code
def yX10_isOn : MethodName := ⟨RX10, "isOn", "(II)Z"⟩
abbrev cX10_hasDot : ByteArray := prog_12_method_10_code
def yX10_hasDot : MethodName := ⟨RX10, "hasDot", "(III)Z"⟩
abbrev cX10_isAhead : ByteArray := prog_12_method_11_code
def yX10_isAhead : MethodName := ⟨RX10, "isAhead", "(II)Z"⟩
abbrev cX10_onLine : ByteArray := prog_12_method_12_code
def yX10_onLine : MethodName := ⟨RX10, "onLine", "(I)I"⟩
abbrev cX10_drawnBy : ByteArray := prog_12_method_13_code
def yX10_drawnBy : MethodName := ⟨RX10, "drawnBy", "(II)I"⟩
abbrev cX10_drawnOn : ByteArray := prog_12_method_14_code
def yX10_drawnOn : MethodName := ⟨RX10, "drawnOn", "(I)I"⟩
abbrev cX10_seenAt : ByteArray := prog_12_method_15_code
def yX10_seenAt : MethodName := ⟨RX10, "seenAt", "(III)I"⟩
abbrev cX10_colourAt : ByteArray := prog_12_method_16_code
def yX10_colourAt : MethodName := ⟨RX10, "colourAt", "(III)I"⟩
abbrev cX10_draws : ByteArray := prog_12_method_17_code
def yX10_draws : MethodName := ⟨RX10, "draws", "()V"⟩
abbrev cX10_missing : ByteArray := prog_12_method_18_code
def yX10_missing : MethodName := ⟨RX10, "missing", "()I"⟩
abbrev cX10_bestRule : ByteArray := prog_12_method_19_code
def yX10_bestRule : MethodName := ⟨RX10, "bestRule", "()I"⟩
abbrev cX10_enough : ByteArray := prog_12_method_20_code
def yX10_enough : MethodName := ⟨RX10, "enough", "()I"⟩
abbrev cX10_holds : ByteArray := prog_12_method_21_code
def yX10_holds : MethodName := ⟨RX10, "holds", "()I"⟩
abbrev cX10_dots : ByteArray := prog_12_method_22_code
def yX10_dots : MethodName := ⟨RX10, "dots", "()I"⟩
abbrev cX10_wrong : ByteArray := prog_12_method_23_code
def yX10_wrong : MethodName := ⟨RX10, "wrong", "()I"⟩
abbrev cX10_told : ByteArray := prog_12_method_24_code
def yX10_told : MethodName := ⟨RX10, "told", "(I)I"⟩
abbrev cX10_dotsOf : ByteArray := prog_12_method_25_code
def yX10_dotsOf : MethodName := ⟨RX10, "dotsOf", "(II)I"⟩
abbrev cX10_droppedOf : ByteArray := prog_12_method_26_code
def yX10_droppedOf : MethodName := ⟨RX10, "droppedOf", "(I)I"⟩
abbrev cX10_meets : ByteArray := prog_12_method_27_code
def yX10_meets : MethodName := ⟨RX10, "meets", "(IZ)I"⟩
abbrev cX10_thing : ByteArray := prog_12_method_28_code
def yX10_thing : MethodName := ⟨RX10, "thing", "(II)I"⟩
abbrev cX10_dot : ByteArray := prog_12_method_29_code
def yX10_dot : MethodName := ⟨RX10, "dot", "(III)I"⟩
abbrev cX10_line : ByteArray := prog_12_method_30_code
def yX10_line : MethodName := ⟨RX10, "line", "(II)J"⟩
abbrev cX10_drawn : ByteArray := prog_12_method_31_code
def yX10_drawn : MethodName := ⟨RX10, "drawn", "(II)I"⟩
abbrev cX10_pictureRow : ByteArray := prog_12_method_32_code
def yX10_pictureRow : MethodName := ⟨RX10, "pictureRow", "(II)I"⟩
abbrev cX10_row : ByteArray := prog_12_method_33_code
def yX10_row : MethodName := ⟨RX10, "row", "(III)I"⟩
abbrev cX10_puts : ByteArray := prog_12_method_34_code
def yX10_puts : MethodName := ⟨RX10, "puts", "(IIIIII)V"⟩
abbrev cX10_isPlace : ByteArray := prog_12_method_35_code
def yX10_isPlace : MethodName := ⟨RX10, "isPlace", "(II)Z"⟩
abbrev cX10_put : ByteArray := prog_12_method_36_code
def yX10_put : MethodName := ⟨RX10, "put", "(IIIIII)I"⟩
abbrev cX10_move : ByteArray := prog_12_method_37_code
def yX10_move : MethodName := ⟨RX10, "move", "(III)I"⟩
abbrev cX10_turn : ByteArray := prog_12_method_38_code
def yX10_turn : MethodName := ⟨RX10, "turn", "(III)I"⟩
abbrev cX10_speed : ByteArray := prog_12_method_39_code
def yX10_speed : MethodName := ⟨RX10, "speed", "(III)I"⟩
abbrev cX10_take : ByteArray := prog_12_method_40_code
def yX10_take : MethodName := ⟨RX10, "take", "(I)I"⟩
abbrev cX10_limit : ByteArray := prog_12_method_41_code
def yX10_limit : MethodName := ⟨RX10, "limit", "(I)I"⟩
abbrev cX10_rule : ByteArray := prog_12_method_42_code
def yX10_rule : MethodName := ⟨RX10, "rule", "(I)I"⟩
abbrev cX10_goes : ByteArray := prog_12_method_43_code
def yX10_goes : MethodName := ⟨RX10, "goes", "()V"⟩
abbrev cX10_frame : ByteArray := prog_12_method_44_code
def yX10_frame : MethodName := ⟨RX10, "frame", "(I)I"⟩
abbrev cX10_drawOf : ByteArray := prog_12_method_45_code
def yX10_drawOf : MethodName := ⟨RX10, "drawOf", "(I)I"⟩
abbrev cX10_drift : ByteArray := prog_12_method_46_code
def yX10_drift : MethodName := ⟨RX10, "drift", "(I)I"⟩
abbrev cX10_undo : ByteArray := prog_12_method_47_code
def yX10_undo : MethodName := ⟨RX10, "undo", "(I)I"⟩
abbrev cX10_leftOutOf : ByteArray := prog_12_method_48_code
def yX10_leftOutOf : MethodName := ⟨RX10, "leftOutOf", "(II)I"⟩
abbrev cX10_leftOut : ByteArray := prog_12_method_49_code
def yX10_leftOut : MethodName := ⟨RX10, "leftOut", "(II)I"⟩
abbrev cX10_worst : ByteArray := prog_12_method_50_code
def yX10_worst : MethodName := ⟨RX10, "worst", "(I)I"⟩
abbrev cX10_write : ByteArray := prog_12_method_51_code
def yX10_write : MethodName := ⟨RX10, "write", "(III)I"⟩
abbrev cX10_tear : ByteArray := prog_12_method_52_code
def yX10_tear : MethodName := ⟨RX10, "tear", "()I"⟩
abbrev cX10_seed : ByteArray := prog_12_method_53_code
def yX10_seed : MethodName := ⟨RX10, "seed", "(I)I"⟩
abbrev cX10_keep : ByteArray := prog_12_method_54_code
def yX10_keep : MethodName := ⟨RX10, "keep", "(I)I"⟩
abbrev cX10_goBack : ByteArray := prog_12_method_55_code
def yX10_goBack : MethodName := ⟨RX10, "goBack", "(I)I"⟩
def RJ6 : String := "java/lang/Integer"
def TJ6 : u_T := fun k => match k with
  | _ => ("", "", "", false)
def tyJ6 : Nat → FieldType := fun k => match k with
  | _ => .int
abbrev wsJ60 : List Cond := u_ws RJ6 TJ6 0
theorem nmJ6 : ∀ a, a < 0 → ∀ b, b < 0 → a ≠ b → (TJ6 a).2.1 ≠ (TJ6 b).2.1 := by decide +kernel
theorem tyJ6_ok : ∀ k, k < 0 → parseFieldDescriptor (TJ6 k).2.2.1 = some (tyJ6 k) := by decide +kernel
abbrev cJ6_bitCount_0f7a4 : ByteArray := prog_13_method_49_code
def yJ6_bitCount_0f7a4 : MethodName := ⟨RJ6, "bitCount", "(I)I"⟩
def RJ9 : String := "java/lang/Math"
def TJ9 : u_T := fun k => match k with
  | _ => ("", "", "", false)
def tyJ9 : Nat → FieldType := fun k => match k with
  | _ => .int
abbrev wsJ90 : List Cond := u_ws RJ9 TJ9 0
theorem nmJ9 : ∀ a, a < 0 → ∀ b, b < 0 → a ≠ b → (TJ9 a).2.1 ≠ (TJ9 b).2.1 := by decide +kernel
theorem tyJ9_ok : ∀ k, k < 0 → parseFieldDescriptor (TJ9 k).2.2.1 = some (tyJ9 k) := by decide +kernel
abbrev cJ9_floorMod_7cf53 : ByteArray := prog_14_method_50_code
def yJ9_floorMod_7cf53 : MethodName := ⟨RJ9, "floorMod", "(II)I"⟩
abbrev cJ9_max_7cf53 : ByteArray := prog_14_method_65_code
def yJ9_max_7cf53 : MethodName := ⟨RJ9, "max", "(II)I"⟩
abbrev cJ9_min_7cf53 : ByteArray := prog_14_method_69_code
def yJ9_min_7cf53 : MethodName := ⟨RJ9, "min", "(II)I"⟩
def RJ10 : String := "java/lang/System"
def TJ10 : u_T := fun k => match k with
  | _ => ("", "", "", false)
def tyJ10 : Nat → FieldType := fun k => match k with
  | _ => .int
abbrev wsJ100 : List Cond := u_ws RJ10 TJ10 0
theorem nmJ10 : ∀ a, a < 0 → ∀ b, b < 0 → a ≠ b → (TJ10 a).2.1 ≠ (TJ10 b).2.1 := by decide +kernel
theorem tyJ10_ok : ∀ k, k < 0 → parseFieldDescriptor (TJ10 k).2.2.1 = some (tyJ10 k) := by decide +kernel
def RJ7 : String := "java/util/Arrays"
def TJ7 : u_T := fun k => match k with
  | _ => ("", "", "", false)
def tyJ7 : Nat → FieldType := fun k => match k with
  | _ => .int
abbrev wsJ70 : List Cond := u_ws RJ7 TJ7 0
theorem nmJ7 : ∀ a, a < 0 → ∀ b, b < 0 → a ≠ b → (TJ7 a).2.1 ≠ (TJ7 b).2.1 := by decide +kernel
theorem tyJ7_ok : ∀ k, k < 0 → parseFieldDescriptor (TJ7 k).2.2.1 = some (tyJ7 k) := by decide +kernel
abbrev cJ7_fill_53178 : ByteArray := prog_16_method_103_code
def yJ7_fill_53178 : MethodName := ⟨RJ7, "fill", "([II)V"⟩
def RL : String := "DotObjectsLaw"
abbrev cL_law : ByteArray := code
def yL_law : MethodName := ⟨RL, "law", "([I)Z"⟩
def wsX0_init : List Cond := .code yX0_init cX0_init 1 none :: ([.methodLink RX0 3 objectInit, .instanceMethod objectInit, .code objectInit ⟨#[0xb1]⟩ 1 none, .arrayClass .int, .fieldLink RX0 9 "DotObjects$Book" "lines" "[I", .fieldLink RX0 15 "DotObjects$Book" "columns" "[I", .fieldLink RX0 18 "DotObjects$Book" "colours" "[I"] ++ wsX00)
def wsX0_size : List Cond := .code yX0_size cX0_size 1 (some .int) :: ([.fieldLink RX0 21 "DotObjects$Book" "size" "I"] ++ wsX00)
def wsX0_isFull : List Cond := .code yX0_isFull cX0_isFull 1 (some .boolean) :: ([.fieldLink RX0 21 "DotObjects$Book" "size" "I"] ++ wsX00)
def wsX0_clear : List Cond := .code yX0_clear cX0_clear 1 none :: ([.fieldLink RX0 21 "DotObjects$Book" "size" "I"] ++ wsX00)
def wsX0_add : List Cond := .code yX0_add cX0_add 4 (some .int) :: ([.fieldLink RX0 9 "DotObjects$Book" "lines" "[I", .fieldLink RX0 21 "DotObjects$Book" "size" "I", .fieldLink RX0 15 "DotObjects$Book" "columns" "[I", .fieldLink RX0 18 "DotObjects$Book" "colours" "[I"] ++ wsX00)
def wsX0_lineOf : List Cond := .code yX0_lineOf cX0_lineOf 2 (some .int) :: ([.fieldLink RX0 9 "DotObjects$Book" "lines" "[I"] ++ wsX00)
def wsX0_columnOf : List Cond := .code yX0_columnOf cX0_columnOf 2 (some .int) :: ([.fieldLink RX0 15 "DotObjects$Book" "columns" "[I"] ++ wsX00)
def wsX0_colourOf : List Cond := .code yX0_colourOf cX0_colourOf 2 (some .int) :: ([.fieldLink RX0 18 "DotObjects$Book" "colours" "[I"] ++ wsX00)
def wsX1_init : List Cond := .code yX1_init cX1_init 1 none :: ([.methodLink RX1 3 objectInit, .instanceMethod objectInit, .code objectInit ⟨#[0xb1]⟩ 1 none])
def wsX1_value : List Cond := .code yX1_value cX1_value 1 (some .int) :: ([.fieldLink RX1 9 "DotObjects$Draws" "value" "I"] ++ wsX10)
def wsX1_start : List Cond := .code yX1_start cX1_start 2 none :: ([.fieldLink RX1 9 "DotObjects$Draws" "value" "I"] ++ wsX10)
def wsX1_below : List Cond := .code yX1_below cX1_below 2 (some .int) :: ([.fieldLink RX1 9 "DotObjects$Draws" "value" "I", .constantLong RX1 25 (1103515245), .constantLong RX1 27 (12345), .constantLong RX1 29 (2147483648), .constant RX1 31 (65536)] ++ wsX10)
def wsX7_setField : List Cond := .code yX7_setField cX7_setField 4 none :: ([.fieldLink RX7 11 "DotObjects$Scene" "cells" "[I"] ++ wsX70)
def wsX7_add : List Cond := .code yX7_add cX7_add 8 (some .int) :: ([.fieldLink RX7 11 "DotObjects$Scene" "cells" "[I", .methodLink RX7 25 yX7_setField, .instanceMethod yX7_setField, .selects RX7 yX7_setField yX7_setField, .initialized RX7, .code yX7_setField cX7_setField 4 none] ++ wsX70)
def wsX1_addThing : List Cond := .code yX1_addThing cX1_addThing 8 none :: ([.methodLink RX1 15 yX1_below, .instanceMethod yX1_below, .selects RX1 yX1_below yX1_below, .initialized RX1, .code yX1_below cX1_below 2 (some .int), .fieldLink RX1 9 "DotObjects$Draws" "value" "I", .constantLong RX1 25 (1103515245), .constantLong RX1 27 (12345), .constantLong RX1 29 (2147483648), .constant RX1 31 (65536), .methodLink RX1 19 yX7_add, .instanceMethod yX7_add, .selects RX7 yX7_add yX7_add, .initialized RX7, .code yX7_add cX7_add 8 (some .int), .fieldLink RX7 11 "DotObjects$Scene" "cells" "[I", .methodLink RX7 25 yX7_setField, .instanceMethod yX7_setField, .selects RX7 yX7_setField yX7_setField, .code yX7_setField cX7_setField 4 none] ++ wsX10 ++ wsX70)
def wsX7_init : List Cond := .code yX7_init cX7_init 2 none :: ([.methodLink RX7 5 objectInit, .instanceMethod objectInit, .code objectInit ⟨#[0xb1]⟩ 1 none, .arrayClass .int, .fieldLink RX7 11 "DotObjects$Scene" "cells" "[I"] ++ wsX70)
def wsX5_init : List Cond := .code yX5_init cX5_init 1 none :: ([.methodLink RX5 3 objectInit, .instanceMethod objectInit, .code objectInit ⟨#[0xb1]⟩ 1 none, .arrayClass .int, .fieldLink RX5 9 "DotObjects$Order" "order" "[I"] ++ wsX50)
def wsX2_init : List Cond := .code yX2_init cX2_init 1 none :: ([.methodLink RX2 3 objectInit, .instanceMethod objectInit, .code objectInit ⟨#[0xb1]⟩ 1 none, .classLink RX2 9 RX7, .instantiable RX7 1, .initialized RX7, .fieldLink RX2 12 "DotObjects$Forecast" "ahead" "LDotObjects$Scene;", .classLink RX2 18 RX5, .instantiable RX5 1, .initialized RX5, .fieldLink RX2 21 "DotObjects$Forecast" "order" "LDotObjects$Order;", .arrayClass .int, .fieldLink RX2 25 "DotObjects$Forecast" "drops" "[I", .methodLink RX2 11 yX7_init, .instanceMethod yX7_init, .code yX7_init cX7_init 2 none, .methodLink RX7 5 objectInit, .fieldLink RX7 11 "DotObjects$Scene" "cells" "[I", .instanceMethod yX5_init, .code yX5_init cX5_init 1 none, .methodLink RX5 3 objectInit, .fieldLink RX5 9 "DotObjects$Order" "order" "[I"] ++ wsX70 ++ wsX20 ++ wsX50)
def wsX7_loadFrom : List Cond := .code yX7_loadFrom cX7_loadFrom 2 none :: ([.fieldLink RX7 11 "DotObjects$Scene" "cells" "[I", .methodLink RX7 15 arraycopyName, .native arraycopyName, .static arraycopyName, .initialized "java/lang/System"] ++ wsX70)
def wsX7_copyFrom : List Cond := .code yX7_copyFrom cX7_copyFrom 2 none :: ([.fieldLink RX7 11 "DotObjects$Scene" "cells" "[I", .methodLink RX7 21 yX7_loadFrom, .instanceMethod yX7_loadFrom, .selects RX7 yX7_loadFrom yX7_loadFrom, .initialized RX7, .code yX7_loadFrom cX7_loadFrom 2 none, .methodLink RX7 15 arraycopyName, .native arraycopyName, .static arraycopyName, .initialized "java/lang/System"] ++ wsX70)
def wsJ7_fill_53178 : List Cond := .code yJ7_fill_53178 cJ7_fill_53178 4 none :: ([])
def wsX7_cell : List Cond := .code yX7_cell cX7_cell 2 (some .int) :: ([.fieldLink RX7 11 "DotObjects$Scene" "cells" "[I"] ++ wsX70)
def wsX7_field : List Cond := .code yX7_field cX7_field 3 (some .int) :: ([.fieldLink RX7 11 "DotObjects$Scene" "cells" "[I"] ++ wsX70)
def wsX5_arrangeByLevel : List Cond := .code yX5_arrangeByLevel cX5_arrangeByLevel 6 none :: ([.fieldLink RX5 9 "DotObjects$Order" "order" "[I", .methodLink RX5 31 yX7_field, .instanceMethod yX7_field, .selects RX7 yX7_field yX7_field, .initialized RX7, .code yX7_field cX7_field 3 (some .int), .fieldLink RX7 11 "DotObjects$Scene" "cells" "[I"] ++ wsX50 ++ wsX70)
def wsJ9_floorMod_7cf53 : List Cond := .code yJ9_floorMod_7cf53 cJ9_floorMod_7cf53 3 (some .int) :: ([])
def wsX5_arrange : List Cond := .code yX5_arrange cX5_arrange 7 none :: ([.fieldLink RX5 9 "DotObjects$Order" "order" "[I", .methodLink RX5 17 yX7_cell, .instanceMethod yX7_cell, .selects RX7 yX7_cell yX7_cell, .initialized RX7, .code yX7_cell cX7_cell 2 (some .int), .fieldLink RX7 11 "DotObjects$Scene" "cells" "[I", .methodLink RX5 21 yX5_arrangeByLevel, .instanceMethod yX5_arrangeByLevel, .selects RX5 yX5_arrangeByLevel yX5_arrangeByLevel, .initialized RX5, .code yX5_arrangeByLevel cX5_arrangeByLevel 6 none, .methodLink RX5 31 yX7_field, .instanceMethod yX7_field, .selects RX7 yX7_field yX7_field, .code yX7_field cX7_field 3 (some .int), .methodLink RX5 25 yJ9_floorMod_7cf53, .static yJ9_floorMod_7cf53, .initialized RJ9, .code yJ9_floorMod_7cf53 cJ9_floorMod_7cf53 3 (some .int)] ++ wsX50 ++ wsX70)
def wsX9_isWithin : List Cond := .code yX9_isWithin cX9_isWithin 3 (some .boolean) :: ([])
def wsX7_isOn : List Cond := .code yX7_isOn cX7_isOn 3 (some .boolean) :: ([.methodLink RX7 29 yX7_field, .instanceMethod yX7_field, .selects RX7 yX7_field yX7_field, .initialized RX7, .code yX7_field cX7_field 3 (some .int), .fieldLink RX7 11 "DotObjects$Scene" "cells" "[I", .static yX9_isWithin, .initialized RX9, .code yX9_isWithin cX9_isWithin 3 (some .boolean)] ++ wsX70)
def wsX7_setOn : List Cond := .code yX7_setOn cX7_setOn 4 (some .int) :: ([.fieldLink RX7 11 "DotObjects$Scene" "cells" "[I", .methodLink RX7 45 yX7_isOn, .instanceMethod yX7_isOn, .selects RX7 yX7_isOn yX7_isOn, .initialized RX7, .code yX7_isOn cX7_isOn 3 (some .boolean), .methodLink RX7 29 yX7_field, .instanceMethod yX7_field, .selects RX7 yX7_field yX7_field, .code yX7_field cX7_field 3 (some .int), .static yX9_isWithin, .initialized RX9, .code yX9_isWithin cX9_isWithin 3 (some .boolean)] ++ wsX70)
def wsX5_chosen : List Cond := .code yX5_chosen cX5_chosen 6 (some .int) :: ([.fieldLink RX5 9 "DotObjects$Order" "order" "[I", .methodLink RX5 17 yX7_cell, .instanceMethod yX7_cell, .selects RX7 yX7_cell yX7_cell, .initialized RX7, .code yX7_cell cX7_cell 2 (some .int), .fieldLink RX7 11 "DotObjects$Scene" "cells" "[I", .methodLink RX5 34 yX7_isOn, .instanceMethod yX7_isOn, .selects RX7 yX7_isOn yX7_isOn, .code yX7_isOn cX7_isOn 3 (some .boolean), .methodLink RX7 29 yX7_field, .instanceMethod yX7_field, .selects RX7 yX7_field yX7_field, .code yX7_field cX7_field 3 (some .int), .static yX9_isWithin, .initialized RX9, .code yX9_isWithin cX9_isWithin 3 (some .boolean)] ++ wsX50 ++ wsX70)
def wsX2_countFrame_r1 : List Cond := [Cond.fieldLink RX2 21 "DotObjects$Forecast" "order" "LDotObjects$Order;", Cond.fieldLink RX2 12 "DotObjects$Forecast" "ahead" "LDotObjects$Scene;", Cond.fieldLink RX2 25 "DotObjects$Forecast" "drops" "[I", Cond.methodLink RX2 45 yX7_cell, Cond.instanceMethod yX7_cell, Cond.selects RX7 yX7_cell yX7_cell, Cond.initialized RX7, Cond.code yX7_cell cX7_cell 2 (some .int), Cond.fieldLink RX7 11 "DotObjects$Scene" "cells" "[I", Cond.methodLink RX2 49 yX5_arrange, Cond.instanceMethod yX5_arrange, Cond.selects RX5 yX5_arrange yX5_arrange, Cond.initialized RX5, Cond.code yX5_arrange cX5_arrange 7 none, Cond.fieldLink RX5 9 "DotObjects$Order" "order" "[I", Cond.methodLink RX5 17 yX7_cell, Cond.methodLink RX5 21 yX5_arrangeByLevel, Cond.instanceMethod yX5_arrangeByLevel, Cond.selects RX5 yX5_arrangeByLevel yX5_arrangeByLevel, Cond.code yX5_arrangeByLevel cX5_arrangeByLevel 6 none, Cond.methodLink RX5 31 yX7_field, Cond.instanceMethod yX7_field, Cond.selects RX7 yX7_field yX7_field, Cond.code yX7_field cX7_field 3 (some .int)]
def wsX2_countFrame_r2 : List Cond := [Cond.methodLink RX5 25 yJ9_floorMod_7cf53, Cond.static yJ9_floorMod_7cf53, Cond.initialized RJ9, Cond.code yJ9_floorMod_7cf53 cJ9_floorMod_7cf53 3 (some .int), Cond.methodLink RX2 53 yX7_setOn, Cond.instanceMethod yX7_setOn, Cond.selects RX7 yX7_setOn yX7_setOn, Cond.code yX7_setOn cX7_setOn 4 (some .int), Cond.methodLink RX7 45 yX7_isOn, Cond.instanceMethod yX7_isOn, Cond.selects RX7 yX7_isOn yX7_isOn, Cond.code yX7_isOn cX7_isOn 3 (some .boolean), Cond.methodLink RX7 29 yX7_field, Cond.static yX9_isWithin, Cond.initialized RX9, Cond.code yX9_isWithin cX9_isWithin 3 (some .boolean), Cond.methodLink RX2 56 yX5_chosen, Cond.instanceMethod yX5_chosen, Cond.selects RX5 yX5_chosen yX5_chosen, Cond.code yX5_chosen cX5_chosen 6 (some .int), Cond.methodLink RX5 34 yX7_isOn]
def wsX2_countFrame : List Cond := .code yX2_countFrame cX2_countFrame 4 none :: ((wsX2_countFrame_r1 ++ wsX2_countFrame_r2) ++ wsX20 ++ wsX70 ++ wsX50)
def wsX7_wrapped : List Cond := .code yX7_wrapped cX7_wrapped 2 (some .int) :: ([.methodLink RX7 36 yJ9_floorMod_7cf53, .static yJ9_floorMod_7cf53, .initialized RJ9, .code yJ9_floorMod_7cf53 cJ9_floorMod_7cf53 3 (some .int)])
def wsX7_goNextFrame : List Cond := .code yX7_goNextFrame cX7_goNextFrame 2 none :: ([.fieldLink RX7 11 "DotObjects$Scene" "cells" "[I", .methodLink RX7 29 yX7_field, .instanceMethod yX7_field, .selects RX7 yX7_field yX7_field, .initialized RX7, .code yX7_field cX7_field 3 (some .int), .methodLink RX7 33 yX7_wrapped, .static yX7_wrapped, .code yX7_wrapped cX7_wrapped 2 (some .int), .methodLink RX7 36 yJ9_floorMod_7cf53, .static yJ9_floorMod_7cf53, .initialized RJ9, .code yJ9_floorMod_7cf53 cJ9_floorMod_7cf53 3 (some .int), .methodLink RX7 25 yX7_setField, .instanceMethod yX7_setField, .selects RX7 yX7_setField yX7_setField, .code yX7_setField cX7_setField 4 none] ++ wsX70)
def wsX2_run_r1 : List Cond := [Cond.fieldLink RX2 12 "DotObjects$Forecast" "ahead" "LDotObjects$Scene;", Cond.fieldLink RX2 25 "DotObjects$Forecast" "drops" "[I", Cond.methodLink RX2 29 yX7_copyFrom, Cond.instanceMethod yX7_copyFrom, Cond.selects RX7 yX7_copyFrom yX7_copyFrom, Cond.initialized RX7, Cond.code yX7_copyFrom cX7_copyFrom 2 none, Cond.fieldLink RX7 11 "DotObjects$Scene" "cells" "[I", Cond.methodLink RX7 21 yX7_loadFrom, Cond.instanceMethod yX7_loadFrom, Cond.selects RX7 yX7_loadFrom yX7_loadFrom, Cond.code yX7_loadFrom cX7_loadFrom 2 none, Cond.methodLink RX7 15 arraycopyName, Cond.native arraycopyName, Cond.static arraycopyName, Cond.initialized "java/lang/System", Cond.methodLink RX2 33 yJ7_fill_53178, Cond.static yJ7_fill_53178, Cond.initialized RJ7, Cond.code yJ7_fill_53178 cJ7_fill_53178 4 none, Cond.methodLink RX2 39 yX2_countFrame, Cond.instanceMethod yX2_countFrame, Cond.selects RX2 yX2_countFrame yX2_countFrame, Cond.initialized RX2]
def wsX2_run_r2 : List Cond := [Cond.code yX2_countFrame cX2_countFrame 4 none, Cond.fieldLink RX2 21 "DotObjects$Forecast" "order" "LDotObjects$Order;", Cond.methodLink RX2 45 yX7_cell, Cond.instanceMethod yX7_cell, Cond.selects RX7 yX7_cell yX7_cell, Cond.code yX7_cell cX7_cell 2 (some .int), Cond.methodLink RX2 49 yX5_arrange, Cond.instanceMethod yX5_arrange, Cond.selects RX5 yX5_arrange yX5_arrange, Cond.initialized RX5, Cond.code yX5_arrange cX5_arrange 7 none, Cond.fieldLink RX5 9 "DotObjects$Order" "order" "[I", Cond.methodLink RX5 17 yX7_cell, Cond.methodLink RX5 21 yX5_arrangeByLevel, Cond.instanceMethod yX5_arrangeByLevel, Cond.selects RX5 yX5_arrangeByLevel yX5_arrangeByLevel, Cond.code yX5_arrangeByLevel cX5_arrangeByLevel 6 none, Cond.methodLink RX5 31 yX7_field, Cond.instanceMethod yX7_field, Cond.selects RX7 yX7_field yX7_field, Cond.code yX7_field cX7_field 3 (some .int), Cond.methodLink RX5 25 yJ9_floorMod_7cf53, Cond.static yJ9_floorMod_7cf53, Cond.initialized RJ9]
def wsX2_run_r3 : List Cond := [Cond.code yJ9_floorMod_7cf53 cJ9_floorMod_7cf53 3 (some .int), Cond.methodLink RX2 53 yX7_setOn, Cond.instanceMethod yX7_setOn, Cond.selects RX7 yX7_setOn yX7_setOn, Cond.code yX7_setOn cX7_setOn 4 (some .int), Cond.methodLink RX7 45 yX7_isOn, Cond.instanceMethod yX7_isOn, Cond.selects RX7 yX7_isOn yX7_isOn, Cond.code yX7_isOn cX7_isOn 3 (some .boolean), Cond.methodLink RX7 29 yX7_field, Cond.static yX9_isWithin, Cond.initialized RX9, Cond.code yX9_isWithin cX9_isWithin 3 (some .boolean), Cond.methodLink RX2 56 yX5_chosen, Cond.instanceMethod yX5_chosen, Cond.selects RX5 yX5_chosen yX5_chosen, Cond.code yX5_chosen cX5_chosen 6 (some .int), Cond.methodLink RX5 34 yX7_isOn, Cond.methodLink RX2 42 yX7_goNextFrame, Cond.instanceMethod yX7_goNextFrame, Cond.selects RX7 yX7_goNextFrame yX7_goNextFrame, Cond.code yX7_goNextFrame cX7_goNextFrame 2 none, Cond.methodLink RX7 33 yX7_wrapped, Cond.static yX7_wrapped]
def wsX2_run_r4 : List Cond := [Cond.code yX7_wrapped cX7_wrapped 2 (some .int), Cond.methodLink RX7 36 yJ9_floorMod_7cf53, Cond.methodLink RX7 25 yX7_setField, Cond.instanceMethod yX7_setField, Cond.selects RX7 yX7_setField yX7_setField, Cond.code yX7_setField cX7_setField 4 none]
def wsX2_run : List Cond := .code yX2_run cX2_run 4 none :: ((wsX2_run_r1 ++ (wsX2_run_r2 ++ (wsX2_run_r3 ++ wsX2_run_r4))) ++ wsX20 ++ wsX70 ++ wsX50)
def wsX2_dropsOf : List Cond := .code yX2_dropsOf cX2_dropsOf 2 (some .int) :: ([.fieldLink RX2 25 "DotObjects$Forecast" "drops" "[I"] ++ wsX20)
def wsX2_mostDropped : List Cond := .code yX2_mostDropped cX2_mostDropped 4 (some .int) :: ([.fieldLink RX2 25 "DotObjects$Forecast" "drops" "[I"] ++ wsX20)
def wsX3_init : List Cond := .code yX3_init cX3_init 1 none :: ([.methodLink RX3 3 objectInit, .instanceMethod objectInit, .code objectInit ⟨#[0xb1]⟩ 1 none, .classLink RX3 11 "[[I", .arrayClass .int, .fieldLink RX3 13 "DotObjects$History" "earlier" "[[I"] ++ wsX30)
def wsX3_size : List Cond := .code yX3_size cX3_size 1 (some .int) :: ([.fieldLink RX3 18 "DotObjects$History" "size" "I"] ++ wsX30)
def wsX3_clear : List Cond := .code yX3_clear cX3_clear 1 none :: ([.fieldLink RX3 18 "DotObjects$History" "size" "I"] ++ wsX30)
def wsX7_saveTo : List Cond := .code yX7_saveTo cX7_saveTo 2 none :: ([.fieldLink RX7 11 "DotObjects$Scene" "cells" "[I", .methodLink RX7 15 arraycopyName, .native arraycopyName, .static arraycopyName, .initialized "java/lang/System"] ++ wsX70)
def wsX3_remember : List Cond := .code yX3_remember cX3_remember 2 none :: ([.fieldLink RX3 13 "DotObjects$History" "earlier" "[[I", .fieldLink RX3 22 "DotObjects$History" "next" "I", .fieldLink RX3 18 "DotObjects$History" "size" "I", .methodLink RX3 29 Lib.Math.min.name, .static Lib.Math.min.name, .initialized "java/lang/Math", .code Lib.Math.min.name Lib.Math.min.code 2 (some .int), .methodLink RX3 25 yX7_saveTo, .instanceMethod yX7_saveTo, .selects RX7 yX7_saveTo yX7_saveTo, .initialized RX7, .code yX7_saveTo cX7_saveTo 2 none, .fieldLink RX7 11 "DotObjects$Scene" "cells" "[I", .methodLink RX7 15 arraycopyName, .native arraycopyName, .static arraycopyName, .initialized "java/lang/System"] ++ wsX30 ++ wsX70)
def wsX3_bringBack : List Cond := .code yX3_bringBack cX3_bringBack 3 none :: ([.fieldLink RX3 22 "DotObjects$History" "next" "I", .fieldLink RX3 18 "DotObjects$History" "size" "I", .fieldLink RX3 13 "DotObjects$History" "earlier" "[[I", .methodLink RX3 35 yJ9_floorMod_7cf53, .static yJ9_floorMod_7cf53, .initialized RJ9, .code yJ9_floorMod_7cf53 cJ9_floorMod_7cf53 3 (some .int), .methodLink RX3 38 yX7_loadFrom, .instanceMethod yX7_loadFrom, .selects RX7 yX7_loadFrom yX7_loadFrom, .initialized RX7, .code yX7_loadFrom cX7_loadFrom 2 none, .fieldLink RX7 11 "DotObjects$Scene" "cells" "[I", .methodLink RX7 15 arraycopyName, .native arraycopyName, .static arraycopyName, .initialized "java/lang/System"] ++ wsX30 ++ wsX70)
def wsX4_init : List Cond := .code yX4_init cX4_init 1 none :: ([.methodLink RX4 3 objectInit, .instanceMethod objectInit, .code objectInit ⟨#[0xb1]⟩ 1 none, .arrayClass .int, .fieldLink RX4 9 "DotObjects$Holders" "holders" "[I", .fieldLink RX4 15 "DotObjects$Holders" "ends" "[I"] ++ wsX40)
def wsX4_occupy : List Cond := .code yX4_occupy cX4_occupy 3 (some .int) :: ([.fieldLink RX4 18 "DotObjects$Holders" "used" "I", .fieldLink RX4 15 "DotObjects$Holders" "ends" "[I", .methodLink RX4 35 Lib.Math.max.name, .static Lib.Math.max.name, .initialized "java/lang/Math", .code Lib.Math.max.name Lib.Math.max.code 2 (some .int)] ++ wsX40)
def wsX4_assign : List Cond := .code yX4_assign cX4_assign 4 (some .int) :: ([.fieldLink RX4 18 "DotObjects$Holders" "used" "I", .fieldLink RX4 9 "DotObjects$Holders" "holders" "[I", .methodLink RX4 24 yX7_cell, .instanceMethod yX7_cell, .selects RX7 yX7_cell yX7_cell, .initialized RX7, .code yX7_cell cX7_cell 2 (some .int), .fieldLink RX7 11 "DotObjects$Scene" "cells" "[I", .methodLink RX4 28 yX7_field, .instanceMethod yX7_field, .selects RX7 yX7_field yX7_field, .code yX7_field cX7_field 3 (some .int), .methodLink RX4 32 yX4_occupy, .instanceMethod yX4_occupy, .selects RX4 yX4_occupy yX4_occupy, .initialized RX4, .code yX4_occupy cX4_occupy 3 (some .int), .fieldLink RX4 15 "DotObjects$Holders" "ends" "[I", .methodLink RX4 35 Lib.Math.max.name, .static Lib.Math.max.name, .initialized "java/lang/Math", .code Lib.Math.max.name Lib.Math.max.code 2 (some .int)] ++ wsX40 ++ wsX70)
def wsX4_holderOf : List Cond := .code yX4_holderOf cX4_holderOf 2 (some .int) :: ([.fieldLink RX4 9 "DotObjects$Holders" "holders" "[I"] ++ wsX40)
def wsX6_init : List Cond := .code yX6_init cX6_init 1 none :: ([.methodLink RX6 3 objectInit, .instanceMethod objectInit, .code objectInit ⟨#[0xb1]⟩ 1 none, .arrayClass .int, .fieldLink RX6 9 "DotObjects$PaintedLine" "seen" "[I", .fieldLink RX6 15 "DotObjects$PaintedLine" "planes" "[I"] ++ wsX60)
def wsX9_isInSet : List Cond := .code yX9_isInSet cX9_isInSet 2 (some .boolean) :: ([])
def wsX7_bits : List Cond := .code yX7_bits cX7_bits 3 (some .int) :: ([.fieldLink RX7 11 "DotObjects$Scene" "cells" "[I"] ++ wsX70)
def wsX7_mirrored : List Cond := .code yX7_mirrored cX7_mirrored 3 (some .int) :: ([])
def wsX7_dotsOf : List Cond := .code yX7_dotsOf cX7_dotsOf 6 (some .int) :: ([.methodLink RX7 29 yX7_field, .instanceMethod yX7_field, .selects RX7 yX7_field yX7_field, .initialized RX7, .code yX7_field cX7_field 3 (some .int), .fieldLink RX7 11 "DotObjects$Scene" "cells" "[I", .static yX9_isWithin, .initialized RX9, .code yX9_isWithin cX9_isWithin 3 (some .boolean), .methodLink RX7 55 yX7_bits, .instanceMethod yX7_bits, .selects RX7 yX7_bits yX7_bits, .code yX7_bits cX7_bits 3 (some .int), .methodLink RX7 58 yX7_mirrored, .static yX7_mirrored, .code yX7_mirrored cX7_mirrored 3 (some .int)] ++ wsX70)
def wsX6_paintBehind : List Cond := .code yX6_paintBehind cX6_paintBehind 5 none :: ([.fieldLink RX6 9 "DotObjects$PaintedLine" "seen" "[I", .fieldLink RX6 24 "DotObjects$PaintedLine" "filled" "I", .fieldLink RX6 15 "DotObjects$PaintedLine" "planes" "[I", .static yX9_isInSet, .initialized RX9, .code yX9_isInSet cX9_isInSet 2 (some .boolean)] ++ wsX60)
def wsX6_paint_r1 : List Cond := [Cond.fieldLink RX6 9 "DotObjects$PaintedLine" "seen" "[I", Cond.fieldLink RX6 15 "DotObjects$PaintedLine" "planes" "[I", Cond.fieldLink RX6 24 "DotObjects$PaintedLine" "filled" "I", Cond.methodLink RX6 18 yJ7_fill_53178, Cond.static yJ7_fill_53178, Cond.initialized RJ7, Cond.code yJ7_fill_53178 cJ7_fill_53178 4 none, Cond.methodLink RX6 30 yX7_cell, Cond.instanceMethod yX7_cell, Cond.selects RX7 yX7_cell yX7_cell, Cond.initialized RX7, Cond.code yX7_cell cX7_cell 2 (some .int), Cond.fieldLink RX7 11 "DotObjects$Scene" "cells" "[I", Cond.static yX9_isInSet, Cond.initialized RX9, Cond.code yX9_isInSet cX9_isInSet 2 (some .boolean), Cond.methodLink RX6 38 yX7_field, Cond.instanceMethod yX7_field, Cond.selects RX7 yX7_field yX7_field, Cond.code yX7_field cX7_field 3 (some .int), Cond.methodLink RX6 42 yX7_dotsOf, Cond.instanceMethod yX7_dotsOf, Cond.selects RX7 yX7_dotsOf yX7_dotsOf, Cond.code yX7_dotsOf cX7_dotsOf 6 (some .int)]
def wsX6_paint_r2 : List Cond := [Cond.methodLink RX7 29 yX7_field, Cond.static yX9_isWithin, Cond.code yX9_isWithin cX9_isWithin 3 (some .boolean), Cond.methodLink RX7 55 yX7_bits, Cond.instanceMethod yX7_bits, Cond.selects RX7 yX7_bits yX7_bits, Cond.code yX7_bits cX7_bits 3 (some .int), Cond.methodLink RX7 58 yX7_mirrored, Cond.static yX7_mirrored, Cond.code yX7_mirrored cX7_mirrored 3 (some .int), Cond.methodLink RX6 45 yX6_paintBehind, Cond.instanceMethod yX6_paintBehind, Cond.selects RX6 yX6_paintBehind yX6_paintBehind, Cond.initialized RX6, Cond.code yX6_paintBehind cX6_paintBehind 5 none]
def wsX6_paint : List Cond := .code yX6_paint cX6_paint 6 none :: ((wsX6_paint_r1 ++ wsX6_paint_r2) ++ wsX60 ++ wsX70)
def wsX6_filledColumns : List Cond := .code yX6_filledColumns cX6_filledColumns 1 (some .int) :: ([.fieldLink RX6 24 "DotObjects$PaintedLine" "filled" "I"] ++ wsX60)
def wsX6_seenColumns : List Cond := .code yX6_seenColumns cX6_seenColumns 2 (some .int) :: ([.fieldLink RX6 9 "DotObjects$PaintedLine" "seen" "[I"] ++ wsX60)
def wsX6_thingAt : List Cond := .code yX6_thingAt cX6_thingAt 3 (some .int) :: ([.fieldLink RX6 9 "DotObjects$PaintedLine" "seen" "[I", .static yX9_isInSet, .initialized RX9, .code yX9_isInSet cX9_isInSet 2 (some .boolean)] ++ wsX60)
def wsX6_colourAt : List Cond := .code yX6_colourAt cX6_colourAt 4 (some .int) :: ([.methodLink RX6 49 yX6_thingAt, .instanceMethod yX6_thingAt, .selects RX6 yX6_thingAt yX6_thingAt, .initialized RX6, .code yX6_thingAt cX6_thingAt 3 (some .int), .fieldLink RX6 9 "DotObjects$PaintedLine" "seen" "[I", .static yX9_isInSet, .initialized RX9, .code yX9_isInSet cX9_isInSet 2 (some .boolean), .methodLink RX6 38 yX7_field, .instanceMethod yX7_field, .selects RX7 yX7_field yX7_field, .initialized RX7, .code yX7_field cX7_field 3 (some .int), .fieldLink RX7 11 "DotObjects$Scene" "cells" "[I"] ++ wsX60 ++ wsX70)
def wsX6_otherColumns : List Cond := .code yX6_otherColumns cX6_otherColumns 4 (some .int) :: ([.fieldLink RX6 15 "DotObjects$PaintedLine" "planes" "[I"] ++ wsX60)
def wsX7_setCell : List Cond := .code yX7_setCell cX7_setCell 3 none :: ([.fieldLink RX7 11 "DotObjects$Scene" "cells" "[I"] ++ wsX70)
def wsX7_setBits : List Cond := .code yX7_setBits cX7_setBits 4 none :: ([.fieldLink RX7 11 "DotObjects$Scene" "cells" "[I"] ++ wsX70)
def wsX7_isFull : List Cond := .code yX7_isFull cX7_isFull 1 (some .boolean) :: ([.fieldLink RX7 11 "DotObjects$Scene" "cells" "[I"] ++ wsX70)
def wsX7_removeThing : List Cond := .code yX7_removeThing cX7_removeThing 4 none :: ([.fieldLink RX7 11 "DotObjects$Scene" "cells" "[I", .methodLink RX7 15 arraycopyName, .native arraycopyName, .static arraycopyName, .initialized "java/lang/System"] ++ wsX70)
def wsX7_linesOf : List Cond := .code yX7_linesOf cX7_linesOf 4 (some .int) :: ([.methodLink RX7 49 Lib.Math.max.name, .static Lib.Math.max.name, .initialized "java/lang/Math", .code Lib.Math.max.name Lib.Math.max.code 2 (some .int), .methodLink RX7 52 Lib.Math.min.name, .static Lib.Math.min.name, .code Lib.Math.min.name Lib.Math.min.code 2 (some .int), .methodLink RX7 29 yX7_field, .instanceMethod yX7_field, .selects RX7 yX7_field yX7_field, .initialized RX7, .code yX7_field cX7_field 3 (some .int), .fieldLink RX7 11 "DotObjects$Scene" "cells" "[I"] ++ wsX70)
def wsX8_init : List Cond := .code yX8_init cX8_init 1 none :: ([.methodLink RX8 3 objectInit, .instanceMethod objectInit, .code objectInit ⟨#[0xb1]⟩ 1 none, .classLink RX8 9 RX5, .instantiable RX5 1, .initialized RX5, .fieldLink RX8 12 "DotObjects$Screen" "order" "LDotObjects$Order;", .classLink RX8 18 RX6, .instantiable RX6 3, .initialized RX6, .fieldLink RX8 21 "DotObjects$Screen" "now" "LDotObjects$PaintedLine;", .fieldLink RX8 25 "DotObjects$Screen" "whole" "LDotObjects$PaintedLine;", .instanceMethod yX5_init, .code yX5_init cX5_init 1 none, .methodLink RX5 3 objectInit, .arrayClass .int, .fieldLink RX5 9 "DotObjects$Order" "order" "[I", .instanceMethod yX6_init, .code yX6_init cX6_init 1 none, .methodLink RX6 3 objectInit, .fieldLink RX6 9 "DotObjects$PaintedLine" "seen" "[I", .fieldLink RX6 15 "DotObjects$PaintedLine" "planes" "[I"] ++ wsX50 ++ wsX80 ++ wsX60)
def wsX8_drawnSet_r1 : List Cond := [Cond.fieldLink RX8 12 "DotObjects$Screen" "order" "LDotObjects$Order;", Cond.methodLink RX8 30 yX7_cell, Cond.instanceMethod yX7_cell, Cond.selects RX7 yX7_cell yX7_cell, Cond.initialized RX7, Cond.code yX7_cell cX7_cell 2 (some .int), Cond.fieldLink RX7 11 "DotObjects$Scene" "cells" "[I", Cond.methodLink RX8 34 yX5_arrange, Cond.instanceMethod yX5_arrange, Cond.selects RX5 yX5_arrange yX5_arrange, Cond.initialized RX5, Cond.code yX5_arrange cX5_arrange 7 none, Cond.fieldLink RX5 9 "DotObjects$Order" "order" "[I", Cond.methodLink RX5 17 yX7_cell, Cond.methodLink RX5 21 yX5_arrangeByLevel, Cond.instanceMethod yX5_arrangeByLevel, Cond.selects RX5 yX5_arrangeByLevel yX5_arrangeByLevel, Cond.code yX5_arrangeByLevel cX5_arrangeByLevel 6 none, Cond.methodLink RX5 31 yX7_field, Cond.instanceMethod yX7_field, Cond.selects RX7 yX7_field yX7_field, Cond.code yX7_field cX7_field 3 (some .int), Cond.methodLink RX5 25 yJ9_floorMod_7cf53, Cond.static yJ9_floorMod_7cf53]
def wsX8_drawnSet_r2 : List Cond := [Cond.initialized RJ9, Cond.code yJ9_floorMod_7cf53 cJ9_floorMod_7cf53 3 (some .int), Cond.methodLink RX8 38 yX5_chosen, Cond.instanceMethod yX5_chosen, Cond.selects RX5 yX5_chosen yX5_chosen, Cond.code yX5_chosen cX5_chosen 6 (some .int), Cond.methodLink RX5 34 yX7_isOn, Cond.instanceMethod yX7_isOn, Cond.selects RX7 yX7_isOn yX7_isOn, Cond.code yX7_isOn cX7_isOn 3 (some .boolean), Cond.methodLink RX7 29 yX7_field, Cond.static yX9_isWithin, Cond.initialized RX9, Cond.code yX9_isWithin cX9_isWithin 3 (some .boolean)]
def wsX8_drawnSet : List Cond := .code yX8_drawnSet cX8_drawnSet 3 (some .int) :: ((wsX8_drawnSet_r1 ++ wsX8_drawnSet_r2) ++ wsX80 ++ wsX70 ++ wsX50)
def wsX8_paintNow_r1 : List Cond := [Cond.fieldLink RX8 21 "DotObjects$Screen" "now" "LDotObjects$PaintedLine;", Cond.methodLink RX8 42 yX8_drawnSet, Cond.instanceMethod yX8_drawnSet, Cond.selects RX8 yX8_drawnSet yX8_drawnSet, Cond.initialized RX8, Cond.code yX8_drawnSet cX8_drawnSet 3 (some .int), Cond.fieldLink RX8 12 "DotObjects$Screen" "order" "LDotObjects$Order;", Cond.methodLink RX8 30 yX7_cell, Cond.instanceMethod yX7_cell, Cond.selects RX7 yX7_cell yX7_cell, Cond.initialized RX7, Cond.code yX7_cell cX7_cell 2 (some .int), Cond.fieldLink RX7 11 "DotObjects$Scene" "cells" "[I", Cond.methodLink RX8 34 yX5_arrange, Cond.instanceMethod yX5_arrange, Cond.selects RX5 yX5_arrange yX5_arrange, Cond.initialized RX5, Cond.code yX5_arrange cX5_arrange 7 none, Cond.fieldLink RX5 9 "DotObjects$Order" "order" "[I", Cond.methodLink RX5 17 yX7_cell, Cond.methodLink RX5 21 yX5_arrangeByLevel, Cond.instanceMethod yX5_arrangeByLevel, Cond.selects RX5 yX5_arrangeByLevel yX5_arrangeByLevel, Cond.code yX5_arrangeByLevel cX5_arrangeByLevel 6 none]
def wsX8_paintNow_r2 : List Cond := [Cond.methodLink RX5 31 yX7_field, Cond.instanceMethod yX7_field, Cond.selects RX7 yX7_field yX7_field, Cond.code yX7_field cX7_field 3 (some .int), Cond.methodLink RX5 25 yJ9_floorMod_7cf53, Cond.static yJ9_floorMod_7cf53, Cond.initialized RJ9, Cond.code yJ9_floorMod_7cf53 cJ9_floorMod_7cf53 3 (some .int), Cond.methodLink RX8 38 yX5_chosen, Cond.instanceMethod yX5_chosen, Cond.selects RX5 yX5_chosen yX5_chosen, Cond.code yX5_chosen cX5_chosen 6 (some .int), Cond.methodLink RX5 34 yX7_isOn, Cond.instanceMethod yX7_isOn, Cond.selects RX7 yX7_isOn yX7_isOn, Cond.code yX7_isOn cX7_isOn 3 (some .boolean), Cond.methodLink RX7 29 yX7_field, Cond.static yX9_isWithin, Cond.initialized RX9, Cond.code yX9_isWithin cX9_isWithin 3 (some .boolean), Cond.methodLink RX8 45 yX6_paint, Cond.instanceMethod yX6_paint, Cond.selects RX6 yX6_paint yX6_paint, Cond.initialized RX6]
def wsX8_paintNow_r3 : List Cond := [Cond.code yX6_paint cX6_paint 6 none, Cond.fieldLink RX6 9 "DotObjects$PaintedLine" "seen" "[I", Cond.fieldLink RX6 15 "DotObjects$PaintedLine" "planes" "[I", Cond.fieldLink RX6 24 "DotObjects$PaintedLine" "filled" "I", Cond.methodLink RX6 18 yJ7_fill_53178, Cond.static yJ7_fill_53178, Cond.initialized RJ7, Cond.code yJ7_fill_53178 cJ7_fill_53178 4 none, Cond.methodLink RX6 30 yX7_cell, Cond.static yX9_isInSet, Cond.code yX9_isInSet cX9_isInSet 2 (some .boolean), Cond.methodLink RX6 38 yX7_field, Cond.methodLink RX6 42 yX7_dotsOf, Cond.instanceMethod yX7_dotsOf, Cond.selects RX7 yX7_dotsOf yX7_dotsOf, Cond.code yX7_dotsOf cX7_dotsOf 6 (some .int), Cond.methodLink RX7 55 yX7_bits, Cond.instanceMethod yX7_bits, Cond.selects RX7 yX7_bits yX7_bits, Cond.code yX7_bits cX7_bits 3 (some .int), Cond.methodLink RX7 58 yX7_mirrored, Cond.static yX7_mirrored, Cond.code yX7_mirrored cX7_mirrored 3 (some .int), Cond.methodLink RX6 45 yX6_paintBehind]
def wsX8_paintNow_r4 : List Cond := [Cond.instanceMethod yX6_paintBehind, Cond.selects RX6 yX6_paintBehind yX6_paintBehind, Cond.code yX6_paintBehind cX6_paintBehind 5 none]
def wsX8_paintNow : List Cond := .code yX8_paintNow cX8_paintNow 3 (some (.object "DotObjects$PaintedLine")) :: ((wsX8_paintNow_r1 ++ (wsX8_paintNow_r2 ++ (wsX8_paintNow_r3 ++ wsX8_paintNow_r4))) ++ wsX80 ++ wsX70 ++ wsX50 ++ wsX60)
def wsX8_paintWhole_r1 : List Cond := [Cond.fieldLink RX8 25 "DotObjects$Screen" "whole" "LDotObjects$PaintedLine;", Cond.methodLink RX8 49 yX7_setOn, Cond.instanceMethod yX7_setOn, Cond.selects RX7 yX7_setOn yX7_setOn, Cond.initialized RX7, Cond.code yX7_setOn cX7_setOn 4 (some .int), Cond.fieldLink RX7 11 "DotObjects$Scene" "cells" "[I", Cond.methodLink RX7 45 yX7_isOn, Cond.instanceMethod yX7_isOn, Cond.selects RX7 yX7_isOn yX7_isOn, Cond.code yX7_isOn cX7_isOn 3 (some .boolean), Cond.methodLink RX7 29 yX7_field, Cond.instanceMethod yX7_field, Cond.selects RX7 yX7_field yX7_field, Cond.code yX7_field cX7_field 3 (some .int), Cond.static yX9_isWithin, Cond.initialized RX9, Cond.code yX9_isWithin cX9_isWithin 3 (some .boolean), Cond.methodLink RX8 45 yX6_paint, Cond.instanceMethod yX6_paint, Cond.selects RX6 yX6_paint yX6_paint, Cond.initialized RX6, Cond.code yX6_paint cX6_paint 6 none, Cond.fieldLink RX6 9 "DotObjects$PaintedLine" "seen" "[I"]
def wsX8_paintWhole_r2 : List Cond := [Cond.fieldLink RX6 15 "DotObjects$PaintedLine" "planes" "[I", Cond.fieldLink RX6 24 "DotObjects$PaintedLine" "filled" "I", Cond.methodLink RX6 18 yJ7_fill_53178, Cond.static yJ7_fill_53178, Cond.initialized RJ7, Cond.code yJ7_fill_53178 cJ7_fill_53178 4 none, Cond.methodLink RX6 30 yX7_cell, Cond.instanceMethod yX7_cell, Cond.selects RX7 yX7_cell yX7_cell, Cond.code yX7_cell cX7_cell 2 (some .int), Cond.static yX9_isInSet, Cond.code yX9_isInSet cX9_isInSet 2 (some .boolean), Cond.methodLink RX6 38 yX7_field, Cond.methodLink RX6 42 yX7_dotsOf, Cond.instanceMethod yX7_dotsOf, Cond.selects RX7 yX7_dotsOf yX7_dotsOf, Cond.code yX7_dotsOf cX7_dotsOf 6 (some .int), Cond.methodLink RX7 55 yX7_bits, Cond.instanceMethod yX7_bits, Cond.selects RX7 yX7_bits yX7_bits, Cond.code yX7_bits cX7_bits 3 (some .int), Cond.methodLink RX7 58 yX7_mirrored, Cond.static yX7_mirrored, Cond.code yX7_mirrored cX7_mirrored 3 (some .int)]
def wsX8_paintWhole_r3 : List Cond := [Cond.methodLink RX6 45 yX6_paintBehind, Cond.instanceMethod yX6_paintBehind, Cond.selects RX6 yX6_paintBehind yX6_paintBehind, Cond.code yX6_paintBehind cX6_paintBehind 5 none]
def wsX8_paintWhole : List Cond := .code yX8_paintWhole cX8_paintWhole 3 (some (.object "DotObjects$PaintedLine")) :: ((wsX8_paintWhole_r1 ++ (wsX8_paintWhole_r2 ++ wsX8_paintWhole_r3)) ++ wsX80 ++ wsX70 ++ wsX60)
def wsJ6_bitCount_0f7a4 : List Cond := .code yJ6_bitCount_0f7a4 cJ6_bitCount_0f7a4 1 (some .int) :: ([.constant RJ6 265 (1431655765), .constant RJ6 266 (858993459), .constant RJ6 267 (252645135)])
def wsX8_missing_r1 : List Cond := [Cond.fieldLink RX8 12 "DotObjects$Screen" "order" "LDotObjects$Order;", Cond.fieldLink RX8 21 "DotObjects$Screen" "now" "LDotObjects$PaintedLine;", Cond.fieldLink RX8 25 "DotObjects$Screen" "whole" "LDotObjects$PaintedLine;", Cond.methodLink RX8 34 yX5_arrange, Cond.instanceMethod yX5_arrange, Cond.selects RX5 yX5_arrange yX5_arrange, Cond.initialized RX5, Cond.code yX5_arrange cX5_arrange 7 none, Cond.fieldLink RX5 9 "DotObjects$Order" "order" "[I", Cond.methodLink RX5 17 yX7_cell, Cond.instanceMethod yX7_cell, Cond.selects RX7 yX7_cell yX7_cell, Cond.initialized RX7, Cond.code yX7_cell cX7_cell 2 (some .int), Cond.fieldLink RX7 11 "DotObjects$Scene" "cells" "[I", Cond.methodLink RX5 21 yX5_arrangeByLevel, Cond.instanceMethod yX5_arrangeByLevel, Cond.selects RX5 yX5_arrangeByLevel yX5_arrangeByLevel, Cond.code yX5_arrangeByLevel cX5_arrangeByLevel 6 none, Cond.methodLink RX5 31 yX7_field, Cond.instanceMethod yX7_field, Cond.selects RX7 yX7_field yX7_field, Cond.code yX7_field cX7_field 3 (some .int), Cond.methodLink RX5 25 yJ9_floorMod_7cf53]
def wsX8_missing_r2 : List Cond := [Cond.static yJ9_floorMod_7cf53, Cond.initialized RJ9, Cond.code yJ9_floorMod_7cf53 cJ9_floorMod_7cf53 3 (some .int), Cond.methodLink RX8 49 yX7_setOn, Cond.instanceMethod yX7_setOn, Cond.selects RX7 yX7_setOn yX7_setOn, Cond.code yX7_setOn cX7_setOn 4 (some .int), Cond.methodLink RX7 45 yX7_isOn, Cond.instanceMethod yX7_isOn, Cond.selects RX7 yX7_isOn yX7_isOn, Cond.code yX7_isOn cX7_isOn 3 (some .boolean), Cond.methodLink RX7 29 yX7_field, Cond.static yX9_isWithin, Cond.initialized RX9, Cond.code yX9_isWithin cX9_isWithin 3 (some .boolean), Cond.methodLink RX8 38 yX5_chosen, Cond.instanceMethod yX5_chosen, Cond.selects RX5 yX5_chosen yX5_chosen, Cond.code yX5_chosen cX5_chosen 6 (some .int), Cond.methodLink RX5 34 yX7_isOn, Cond.methodLink RX8 45 yX6_paint, Cond.instanceMethod yX6_paint, Cond.selects RX6 yX6_paint yX6_paint, Cond.initialized RX6]
def wsX8_missing_r3 : List Cond := [Cond.code yX6_paint cX6_paint 6 none, Cond.fieldLink RX6 9 "DotObjects$PaintedLine" "seen" "[I", Cond.fieldLink RX6 15 "DotObjects$PaintedLine" "planes" "[I", Cond.fieldLink RX6 24 "DotObjects$PaintedLine" "filled" "I", Cond.methodLink RX6 18 yJ7_fill_53178, Cond.static yJ7_fill_53178, Cond.initialized RJ7, Cond.code yJ7_fill_53178 cJ7_fill_53178 4 none, Cond.methodLink RX6 30 yX7_cell, Cond.static yX9_isInSet, Cond.code yX9_isInSet cX9_isInSet 2 (some .boolean), Cond.methodLink RX6 38 yX7_field, Cond.methodLink RX6 42 yX7_dotsOf, Cond.instanceMethod yX7_dotsOf, Cond.selects RX7 yX7_dotsOf yX7_dotsOf, Cond.code yX7_dotsOf cX7_dotsOf 6 (some .int), Cond.methodLink RX7 55 yX7_bits, Cond.instanceMethod yX7_bits, Cond.selects RX7 yX7_bits yX7_bits, Cond.code yX7_bits cX7_bits 3 (some .int), Cond.methodLink RX7 58 yX7_mirrored, Cond.static yX7_mirrored, Cond.code yX7_mirrored cX7_mirrored 3 (some .int), Cond.methodLink RX6 45 yX6_paintBehind]
def wsX8_missing_r4 : List Cond := [Cond.instanceMethod yX6_paintBehind, Cond.selects RX6 yX6_paintBehind yX6_paintBehind, Cond.code yX6_paintBehind cX6_paintBehind 5 none, Cond.methodLink RX8 52 yX6_otherColumns, Cond.instanceMethod yX6_otherColumns, Cond.selects RX6 yX6_otherColumns yX6_otherColumns, Cond.code yX6_otherColumns cX6_otherColumns 4 (some .int), Cond.methodLink RX8 56 yJ6_bitCount_0f7a4, Cond.static yJ6_bitCount_0f7a4, Cond.initialized RJ6, Cond.code yJ6_bitCount_0f7a4 cJ6_bitCount_0f7a4 1 (some .int), Cond.constant RJ6 265 (1431655765), Cond.constant RJ6 266 (858993459), Cond.constant RJ6 267 (252645135)]
def wsX8_missing : List Cond := .code yX8_missing cX8_missing 7 (some .int) :: ((wsX8_missing_r1 ++ (wsX8_missing_r2 ++ (wsX8_missing_r3 ++ wsX8_missing_r4))) ++ wsX80 ++ wsX50 ++ wsX70 ++ wsX60)
def wsX8_bestRule_r1 : List Cond := [Cond.methodLink RX8 61 yX8_missing, Cond.instanceMethod yX8_missing, Cond.selects RX8 yX8_missing yX8_missing, Cond.initialized RX8, Cond.code yX8_missing cX8_missing 7 (some .int), Cond.fieldLink RX8 12 "DotObjects$Screen" "order" "LDotObjects$Order;", Cond.fieldLink RX8 21 "DotObjects$Screen" "now" "LDotObjects$PaintedLine;", Cond.fieldLink RX8 25 "DotObjects$Screen" "whole" "LDotObjects$PaintedLine;", Cond.methodLink RX8 34 yX5_arrange, Cond.instanceMethod yX5_arrange, Cond.selects RX5 yX5_arrange yX5_arrange, Cond.initialized RX5, Cond.code yX5_arrange cX5_arrange 7 none, Cond.fieldLink RX5 9 "DotObjects$Order" "order" "[I", Cond.methodLink RX5 17 yX7_cell, Cond.instanceMethod yX7_cell, Cond.selects RX7 yX7_cell yX7_cell, Cond.initialized RX7, Cond.code yX7_cell cX7_cell 2 (some .int), Cond.fieldLink RX7 11 "DotObjects$Scene" "cells" "[I", Cond.methodLink RX5 21 yX5_arrangeByLevel, Cond.instanceMethod yX5_arrangeByLevel, Cond.selects RX5 yX5_arrangeByLevel yX5_arrangeByLevel, Cond.code yX5_arrangeByLevel cX5_arrangeByLevel 6 none]
def wsX8_bestRule_r2 : List Cond := [Cond.methodLink RX5 31 yX7_field, Cond.instanceMethod yX7_field, Cond.selects RX7 yX7_field yX7_field, Cond.code yX7_field cX7_field 3 (some .int), Cond.methodLink RX5 25 yJ9_floorMod_7cf53, Cond.static yJ9_floorMod_7cf53, Cond.initialized RJ9, Cond.code yJ9_floorMod_7cf53 cJ9_floorMod_7cf53 3 (some .int), Cond.methodLink RX8 49 yX7_setOn, Cond.instanceMethod yX7_setOn, Cond.selects RX7 yX7_setOn yX7_setOn, Cond.code yX7_setOn cX7_setOn 4 (some .int), Cond.methodLink RX7 45 yX7_isOn, Cond.instanceMethod yX7_isOn, Cond.selects RX7 yX7_isOn yX7_isOn, Cond.code yX7_isOn cX7_isOn 3 (some .boolean), Cond.methodLink RX7 29 yX7_field, Cond.static yX9_isWithin, Cond.initialized RX9, Cond.code yX9_isWithin cX9_isWithin 3 (some .boolean), Cond.methodLink RX8 38 yX5_chosen, Cond.instanceMethod yX5_chosen, Cond.selects RX5 yX5_chosen yX5_chosen, Cond.code yX5_chosen cX5_chosen 6 (some .int)]
def wsX8_bestRule_r3 : List Cond := [Cond.methodLink RX5 34 yX7_isOn, Cond.methodLink RX8 45 yX6_paint, Cond.instanceMethod yX6_paint, Cond.selects RX6 yX6_paint yX6_paint, Cond.initialized RX6, Cond.code yX6_paint cX6_paint 6 none, Cond.fieldLink RX6 9 "DotObjects$PaintedLine" "seen" "[I", Cond.fieldLink RX6 15 "DotObjects$PaintedLine" "planes" "[I", Cond.fieldLink RX6 24 "DotObjects$PaintedLine" "filled" "I", Cond.methodLink RX6 18 yJ7_fill_53178, Cond.static yJ7_fill_53178, Cond.initialized RJ7, Cond.code yJ7_fill_53178 cJ7_fill_53178 4 none, Cond.methodLink RX6 30 yX7_cell, Cond.static yX9_isInSet, Cond.code yX9_isInSet cX9_isInSet 2 (some .boolean), Cond.methodLink RX6 38 yX7_field, Cond.methodLink RX6 42 yX7_dotsOf, Cond.instanceMethod yX7_dotsOf, Cond.selects RX7 yX7_dotsOf yX7_dotsOf, Cond.code yX7_dotsOf cX7_dotsOf 6 (some .int), Cond.methodLink RX7 55 yX7_bits, Cond.instanceMethod yX7_bits, Cond.selects RX7 yX7_bits yX7_bits]
def wsX8_bestRule_r4 : List Cond := [Cond.code yX7_bits cX7_bits 3 (some .int), Cond.methodLink RX7 58 yX7_mirrored, Cond.static yX7_mirrored, Cond.code yX7_mirrored cX7_mirrored 3 (some .int), Cond.methodLink RX6 45 yX6_paintBehind, Cond.instanceMethod yX6_paintBehind, Cond.selects RX6 yX6_paintBehind yX6_paintBehind, Cond.code yX6_paintBehind cX6_paintBehind 5 none, Cond.methodLink RX8 52 yX6_otherColumns, Cond.instanceMethod yX6_otherColumns, Cond.selects RX6 yX6_otherColumns yX6_otherColumns, Cond.code yX6_otherColumns cX6_otherColumns 4 (some .int), Cond.methodLink RX8 56 yJ6_bitCount_0f7a4, Cond.static yJ6_bitCount_0f7a4, Cond.initialized RJ6, Cond.code yJ6_bitCount_0f7a4 cJ6_bitCount_0f7a4 1 (some .int), Cond.constant RJ6 265 (1431655765), Cond.constant RJ6 266 (858993459), Cond.constant RJ6 267 (252645135)]
def wsX8_bestRule : List Cond := .code yX8_bestRule cX8_bestRule 6 (some .int) :: ((wsX8_bestRule_r1 ++ (wsX8_bestRule_r2 ++ (wsX8_bestRule_r3 ++ wsX8_bestRule_r4))) ++ wsX80 ++ wsX50 ++ wsX70 ++ wsX60)
def wsX8_enough_r1 : List Cond := [Cond.methodLink RX8 64 Lib.Math.max.name, Cond.static Lib.Math.max.name, Cond.initialized "java/lang/Math", Cond.code Lib.Math.max.name Lib.Math.max.code 2 (some .int), Cond.methodLink RX8 49 yX7_setOn, Cond.instanceMethod yX7_setOn, Cond.selects RX7 yX7_setOn yX7_setOn, Cond.initialized RX7, Cond.code yX7_setOn cX7_setOn 4 (some .int), Cond.fieldLink RX7 11 "DotObjects$Scene" "cells" "[I", Cond.methodLink RX7 45 yX7_isOn, Cond.instanceMethod yX7_isOn, Cond.selects RX7 yX7_isOn yX7_isOn, Cond.code yX7_isOn cX7_isOn 3 (some .boolean), Cond.methodLink RX7 29 yX7_field, Cond.instanceMethod yX7_field, Cond.selects RX7 yX7_field yX7_field, Cond.code yX7_field cX7_field 3 (some .int), Cond.static yX9_isWithin, Cond.initialized RX9, Cond.code yX9_isWithin cX9_isWithin 3 (some .boolean), Cond.methodLink RX8 56 yJ6_bitCount_0f7a4, Cond.static yJ6_bitCount_0f7a4, Cond.initialized RJ6]
def wsX8_enough_r2 : List Cond := [Cond.code yJ6_bitCount_0f7a4 cJ6_bitCount_0f7a4 1 (some .int), Cond.constant RJ6 265 (1431655765), Cond.constant RJ6 266 (858993459), Cond.constant RJ6 267 (252645135)]
def wsX8_enough : List Cond := .code yX8_enough cX8_enough 4 (some .int) :: ((wsX8_enough_r1 ++ wsX8_enough_r2) ++ wsX70)
def wsX8_filledDots_r1 : List Cond := [Cond.methodLink RX8 70 yX8_paintNow, Cond.instanceMethod yX8_paintNow, Cond.selects RX8 yX8_paintNow yX8_paintNow, Cond.initialized RX8, Cond.code yX8_paintNow cX8_paintNow 3 (some (.object "DotObjects$PaintedLine")), Cond.fieldLink RX8 21 "DotObjects$Screen" "now" "LDotObjects$PaintedLine;", Cond.methodLink RX8 42 yX8_drawnSet, Cond.instanceMethod yX8_drawnSet, Cond.selects RX8 yX8_drawnSet yX8_drawnSet, Cond.code yX8_drawnSet cX8_drawnSet 3 (some .int), Cond.fieldLink RX8 12 "DotObjects$Screen" "order" "LDotObjects$Order;", Cond.methodLink RX8 30 yX7_cell, Cond.instanceMethod yX7_cell, Cond.selects RX7 yX7_cell yX7_cell, Cond.initialized RX7, Cond.code yX7_cell cX7_cell 2 (some .int), Cond.fieldLink RX7 11 "DotObjects$Scene" "cells" "[I", Cond.methodLink RX8 34 yX5_arrange, Cond.instanceMethod yX5_arrange, Cond.selects RX5 yX5_arrange yX5_arrange, Cond.initialized RX5, Cond.code yX5_arrange cX5_arrange 7 none, Cond.fieldLink RX5 9 "DotObjects$Order" "order" "[I", Cond.methodLink RX5 17 yX7_cell]
def wsX8_filledDots_r2 : List Cond := [Cond.methodLink RX5 21 yX5_arrangeByLevel, Cond.instanceMethod yX5_arrangeByLevel, Cond.selects RX5 yX5_arrangeByLevel yX5_arrangeByLevel, Cond.code yX5_arrangeByLevel cX5_arrangeByLevel 6 none, Cond.methodLink RX5 31 yX7_field, Cond.instanceMethod yX7_field, Cond.selects RX7 yX7_field yX7_field, Cond.code yX7_field cX7_field 3 (some .int), Cond.methodLink RX5 25 yJ9_floorMod_7cf53, Cond.static yJ9_floorMod_7cf53, Cond.initialized RJ9, Cond.code yJ9_floorMod_7cf53 cJ9_floorMod_7cf53 3 (some .int), Cond.methodLink RX8 38 yX5_chosen, Cond.instanceMethod yX5_chosen, Cond.selects RX5 yX5_chosen yX5_chosen, Cond.code yX5_chosen cX5_chosen 6 (some .int), Cond.methodLink RX5 34 yX7_isOn, Cond.instanceMethod yX7_isOn, Cond.selects RX7 yX7_isOn yX7_isOn, Cond.code yX7_isOn cX7_isOn 3 (some .boolean), Cond.methodLink RX7 29 yX7_field, Cond.static yX9_isWithin, Cond.initialized RX9, Cond.code yX9_isWithin cX9_isWithin 3 (some .boolean)]
def wsX8_filledDots_r3 : List Cond := [Cond.methodLink RX8 45 yX6_paint, Cond.instanceMethod yX6_paint, Cond.selects RX6 yX6_paint yX6_paint, Cond.initialized RX6, Cond.code yX6_paint cX6_paint 6 none, Cond.fieldLink RX6 9 "DotObjects$PaintedLine" "seen" "[I", Cond.fieldLink RX6 15 "DotObjects$PaintedLine" "planes" "[I", Cond.fieldLink RX6 24 "DotObjects$PaintedLine" "filled" "I", Cond.methodLink RX6 18 yJ7_fill_53178, Cond.static yJ7_fill_53178, Cond.initialized RJ7, Cond.code yJ7_fill_53178 cJ7_fill_53178 4 none, Cond.methodLink RX6 30 yX7_cell, Cond.static yX9_isInSet, Cond.code yX9_isInSet cX9_isInSet 2 (some .boolean), Cond.methodLink RX6 38 yX7_field, Cond.methodLink RX6 42 yX7_dotsOf, Cond.instanceMethod yX7_dotsOf, Cond.selects RX7 yX7_dotsOf yX7_dotsOf, Cond.code yX7_dotsOf cX7_dotsOf 6 (some .int), Cond.methodLink RX7 55 yX7_bits, Cond.instanceMethod yX7_bits, Cond.selects RX7 yX7_bits yX7_bits, Cond.code yX7_bits cX7_bits 3 (some .int)]
def wsX8_filledDots_r4 : List Cond := [Cond.methodLink RX7 58 yX7_mirrored, Cond.static yX7_mirrored, Cond.code yX7_mirrored cX7_mirrored 3 (some .int), Cond.methodLink RX6 45 yX6_paintBehind, Cond.instanceMethod yX6_paintBehind, Cond.selects RX6 yX6_paintBehind yX6_paintBehind, Cond.code yX6_paintBehind cX6_paintBehind 5 none, Cond.methodLink RX8 74 yX6_filledColumns, Cond.instanceMethod yX6_filledColumns, Cond.selects RX6 yX6_filledColumns yX6_filledColumns, Cond.code yX6_filledColumns cX6_filledColumns 1 (some .int), Cond.methodLink RX8 56 yJ6_bitCount_0f7a4, Cond.static yJ6_bitCount_0f7a4, Cond.initialized RJ6, Cond.code yJ6_bitCount_0f7a4 cJ6_bitCount_0f7a4 1 (some .int), Cond.constant RJ6 265 (1431655765), Cond.constant RJ6 266 (858993459), Cond.constant RJ6 267 (252645135)]
def wsX8_filledDots : List Cond := .code yX8_filledDots cX8_filledDots 4 (some .int) :: ((wsX8_filledDots_r1 ++ (wsX8_filledDots_r2 ++ (wsX8_filledDots_r3 ++ wsX8_filledDots_r4))) ++ wsX80 ++ wsX70 ++ wsX50 ++ wsX60)
def wsX8_seenDots_r1 : List Cond := [Cond.methodLink RX8 70 yX8_paintNow, Cond.instanceMethod yX8_paintNow, Cond.selects RX8 yX8_paintNow yX8_paintNow, Cond.initialized RX8, Cond.code yX8_paintNow cX8_paintNow 3 (some (.object "DotObjects$PaintedLine")), Cond.fieldLink RX8 21 "DotObjects$Screen" "now" "LDotObjects$PaintedLine;", Cond.methodLink RX8 42 yX8_drawnSet, Cond.instanceMethod yX8_drawnSet, Cond.selects RX8 yX8_drawnSet yX8_drawnSet, Cond.code yX8_drawnSet cX8_drawnSet 3 (some .int), Cond.fieldLink RX8 12 "DotObjects$Screen" "order" "LDotObjects$Order;", Cond.methodLink RX8 30 yX7_cell, Cond.instanceMethod yX7_cell, Cond.selects RX7 yX7_cell yX7_cell, Cond.initialized RX7, Cond.code yX7_cell cX7_cell 2 (some .int), Cond.fieldLink RX7 11 "DotObjects$Scene" "cells" "[I", Cond.methodLink RX8 34 yX5_arrange, Cond.instanceMethod yX5_arrange, Cond.selects RX5 yX5_arrange yX5_arrange, Cond.initialized RX5, Cond.code yX5_arrange cX5_arrange 7 none, Cond.fieldLink RX5 9 "DotObjects$Order" "order" "[I", Cond.methodLink RX5 17 yX7_cell]
def wsX8_seenDots_r2 : List Cond := [Cond.methodLink RX5 21 yX5_arrangeByLevel, Cond.instanceMethod yX5_arrangeByLevel, Cond.selects RX5 yX5_arrangeByLevel yX5_arrangeByLevel, Cond.code yX5_arrangeByLevel cX5_arrangeByLevel 6 none, Cond.methodLink RX5 31 yX7_field, Cond.instanceMethod yX7_field, Cond.selects RX7 yX7_field yX7_field, Cond.code yX7_field cX7_field 3 (some .int), Cond.methodLink RX5 25 yJ9_floorMod_7cf53, Cond.static yJ9_floorMod_7cf53, Cond.initialized RJ9, Cond.code yJ9_floorMod_7cf53 cJ9_floorMod_7cf53 3 (some .int), Cond.methodLink RX8 38 yX5_chosen, Cond.instanceMethod yX5_chosen, Cond.selects RX5 yX5_chosen yX5_chosen, Cond.code yX5_chosen cX5_chosen 6 (some .int), Cond.methodLink RX5 34 yX7_isOn, Cond.instanceMethod yX7_isOn, Cond.selects RX7 yX7_isOn yX7_isOn, Cond.code yX7_isOn cX7_isOn 3 (some .boolean), Cond.methodLink RX7 29 yX7_field, Cond.static yX9_isWithin, Cond.initialized RX9, Cond.code yX9_isWithin cX9_isWithin 3 (some .boolean)]
def wsX8_seenDots_r3 : List Cond := [Cond.methodLink RX8 45 yX6_paint, Cond.instanceMethod yX6_paint, Cond.selects RX6 yX6_paint yX6_paint, Cond.initialized RX6, Cond.code yX6_paint cX6_paint 6 none, Cond.fieldLink RX6 9 "DotObjects$PaintedLine" "seen" "[I", Cond.fieldLink RX6 15 "DotObjects$PaintedLine" "planes" "[I", Cond.fieldLink RX6 24 "DotObjects$PaintedLine" "filled" "I", Cond.methodLink RX6 18 yJ7_fill_53178, Cond.static yJ7_fill_53178, Cond.initialized RJ7, Cond.code yJ7_fill_53178 cJ7_fill_53178 4 none, Cond.methodLink RX6 30 yX7_cell, Cond.static yX9_isInSet, Cond.code yX9_isInSet cX9_isInSet 2 (some .boolean), Cond.methodLink RX6 38 yX7_field, Cond.methodLink RX6 42 yX7_dotsOf, Cond.instanceMethod yX7_dotsOf, Cond.selects RX7 yX7_dotsOf yX7_dotsOf, Cond.code yX7_dotsOf cX7_dotsOf 6 (some .int), Cond.methodLink RX7 55 yX7_bits, Cond.instanceMethod yX7_bits, Cond.selects RX7 yX7_bits yX7_bits, Cond.code yX7_bits cX7_bits 3 (some .int)]
def wsX8_seenDots_r4 : List Cond := [Cond.methodLink RX7 58 yX7_mirrored, Cond.static yX7_mirrored, Cond.code yX7_mirrored cX7_mirrored 3 (some .int), Cond.methodLink RX6 45 yX6_paintBehind, Cond.instanceMethod yX6_paintBehind, Cond.selects RX6 yX6_paintBehind yX6_paintBehind, Cond.code yX6_paintBehind cX6_paintBehind 5 none, Cond.methodLink RX8 78 yX6_seenColumns, Cond.instanceMethod yX6_seenColumns, Cond.selects RX6 yX6_seenColumns yX6_seenColumns, Cond.code yX6_seenColumns cX6_seenColumns 2 (some .int), Cond.methodLink RX8 56 yJ6_bitCount_0f7a4, Cond.static yJ6_bitCount_0f7a4, Cond.initialized RJ6, Cond.code yJ6_bitCount_0f7a4 cJ6_bitCount_0f7a4 1 (some .int), Cond.constant RJ6 265 (1431655765), Cond.constant RJ6 266 (858993459), Cond.constant RJ6 267 (252645135)]
def wsX8_seenDots : List Cond := .code yX8_seenDots cX8_seenDots 5 (some .int) :: ((wsX8_seenDots_r1 ++ (wsX8_seenDots_r2 ++ (wsX8_seenDots_r3 ++ wsX8_seenDots_r4))) ++ wsX80 ++ wsX70 ++ wsX50 ++ wsX60)
def wsX8_coveredDots_r1 : List Cond := [Cond.methodLink RX8 42 yX8_drawnSet, Cond.instanceMethod yX8_drawnSet, Cond.selects RX8 yX8_drawnSet yX8_drawnSet, Cond.initialized RX8, Cond.code yX8_drawnSet cX8_drawnSet 3 (some .int), Cond.fieldLink RX8 12 "DotObjects$Screen" "order" "LDotObjects$Order;", Cond.methodLink RX8 30 yX7_cell, Cond.instanceMethod yX7_cell, Cond.selects RX7 yX7_cell yX7_cell, Cond.initialized RX7, Cond.code yX7_cell cX7_cell 2 (some .int), Cond.fieldLink RX7 11 "DotObjects$Scene" "cells" "[I", Cond.methodLink RX8 34 yX5_arrange, Cond.instanceMethod yX5_arrange, Cond.selects RX5 yX5_arrange yX5_arrange, Cond.initialized RX5, Cond.code yX5_arrange cX5_arrange 7 none, Cond.fieldLink RX5 9 "DotObjects$Order" "order" "[I", Cond.methodLink RX5 17 yX7_cell, Cond.methodLink RX5 21 yX5_arrangeByLevel, Cond.instanceMethod yX5_arrangeByLevel, Cond.selects RX5 yX5_arrangeByLevel yX5_arrangeByLevel, Cond.code yX5_arrangeByLevel cX5_arrangeByLevel 6 none, Cond.methodLink RX5 31 yX7_field]
def wsX8_coveredDots_r2 : List Cond := [Cond.instanceMethod yX7_field, Cond.selects RX7 yX7_field yX7_field, Cond.code yX7_field cX7_field 3 (some .int), Cond.methodLink RX5 25 yJ9_floorMod_7cf53, Cond.static yJ9_floorMod_7cf53, Cond.initialized RJ9, Cond.code yJ9_floorMod_7cf53 cJ9_floorMod_7cf53 3 (some .int), Cond.methodLink RX8 38 yX5_chosen, Cond.instanceMethod yX5_chosen, Cond.selects RX5 yX5_chosen yX5_chosen, Cond.code yX5_chosen cX5_chosen 6 (some .int), Cond.methodLink RX5 34 yX7_isOn, Cond.instanceMethod yX7_isOn, Cond.selects RX7 yX7_isOn yX7_isOn, Cond.code yX7_isOn cX7_isOn 3 (some .boolean), Cond.methodLink RX7 29 yX7_field, Cond.static yX9_isWithin, Cond.initialized RX9, Cond.code yX9_isWithin cX9_isWithin 3 (some .boolean), Cond.static yX9_isInSet, Cond.code yX9_isInSet cX9_isInSet 2 (some .boolean), Cond.methodLink RX8 70 yX8_paintNow, Cond.instanceMethod yX8_paintNow, Cond.selects RX8 yX8_paintNow yX8_paintNow]
def wsX8_coveredDots_r3 : List Cond := [Cond.code yX8_paintNow cX8_paintNow 3 (some (.object "DotObjects$PaintedLine")), Cond.fieldLink RX8 21 "DotObjects$Screen" "now" "LDotObjects$PaintedLine;", Cond.methodLink RX8 45 yX6_paint, Cond.instanceMethod yX6_paint, Cond.selects RX6 yX6_paint yX6_paint, Cond.initialized RX6, Cond.code yX6_paint cX6_paint 6 none, Cond.fieldLink RX6 9 "DotObjects$PaintedLine" "seen" "[I", Cond.fieldLink RX6 15 "DotObjects$PaintedLine" "planes" "[I", Cond.fieldLink RX6 24 "DotObjects$PaintedLine" "filled" "I", Cond.methodLink RX6 18 yJ7_fill_53178, Cond.static yJ7_fill_53178, Cond.initialized RJ7, Cond.code yJ7_fill_53178 cJ7_fill_53178 4 none, Cond.methodLink RX6 30 yX7_cell, Cond.methodLink RX6 38 yX7_field, Cond.methodLink RX6 42 yX7_dotsOf, Cond.instanceMethod yX7_dotsOf, Cond.selects RX7 yX7_dotsOf yX7_dotsOf, Cond.code yX7_dotsOf cX7_dotsOf 6 (some .int), Cond.methodLink RX7 55 yX7_bits, Cond.instanceMethod yX7_bits, Cond.selects RX7 yX7_bits yX7_bits, Cond.code yX7_bits cX7_bits 3 (some .int)]
def wsX8_coveredDots_r4 : List Cond := [Cond.methodLink RX7 58 yX7_mirrored, Cond.static yX7_mirrored, Cond.code yX7_mirrored cX7_mirrored 3 (some .int), Cond.methodLink RX6 45 yX6_paintBehind, Cond.instanceMethod yX6_paintBehind, Cond.selects RX6 yX6_paintBehind yX6_paintBehind, Cond.code yX6_paintBehind cX6_paintBehind 5 none, Cond.methodLink RX8 78 yX6_seenColumns, Cond.instanceMethod yX6_seenColumns, Cond.selects RX6 yX6_seenColumns yX6_seenColumns, Cond.code yX6_seenColumns cX6_seenColumns 2 (some .int), Cond.methodLink RX8 85 yX7_dotsOf, Cond.methodLink RX8 56 yJ6_bitCount_0f7a4, Cond.static yJ6_bitCount_0f7a4, Cond.initialized RJ6, Cond.code yJ6_bitCount_0f7a4 cJ6_bitCount_0f7a4 1 (some .int), Cond.constant RJ6 265 (1431655765), Cond.constant RJ6 266 (858993459), Cond.constant RJ6 267 (252645135)]
def wsX8_coveredDots : List Cond := .code yX8_coveredDots cX8_coveredDots 6 (some .int) :: ((wsX8_coveredDots_r1 ++ (wsX8_coveredDots_r2 ++ (wsX8_coveredDots_r3 ++ wsX8_coveredDots_r4))) ++ wsX80 ++ wsX70 ++ wsX50 ++ wsX60)
def wsX8_droppedLines_r1 : List Cond := [Cond.methodLink RX8 88 yX7_isOn, Cond.instanceMethod yX7_isOn, Cond.selects RX7 yX7_isOn yX7_isOn, Cond.initialized RX7, Cond.code yX7_isOn cX7_isOn 3 (some .boolean), Cond.methodLink RX7 29 yX7_field, Cond.instanceMethod yX7_field, Cond.selects RX7 yX7_field yX7_field, Cond.code yX7_field cX7_field 3 (some .int), Cond.fieldLink RX7 11 "DotObjects$Scene" "cells" "[I", Cond.static yX9_isWithin, Cond.initialized RX9, Cond.code yX9_isWithin cX9_isWithin 3 (some .boolean), Cond.methodLink RX8 42 yX8_drawnSet, Cond.instanceMethod yX8_drawnSet, Cond.selects RX8 yX8_drawnSet yX8_drawnSet, Cond.initialized RX8, Cond.code yX8_drawnSet cX8_drawnSet 3 (some .int), Cond.fieldLink RX8 12 "DotObjects$Screen" "order" "LDotObjects$Order;", Cond.methodLink RX8 30 yX7_cell, Cond.instanceMethod yX7_cell, Cond.selects RX7 yX7_cell yX7_cell, Cond.code yX7_cell cX7_cell 2 (some .int), Cond.methodLink RX8 34 yX5_arrange]
def wsX8_droppedLines_r2 : List Cond := [Cond.instanceMethod yX5_arrange, Cond.selects RX5 yX5_arrange yX5_arrange, Cond.initialized RX5, Cond.code yX5_arrange cX5_arrange 7 none, Cond.fieldLink RX5 9 "DotObjects$Order" "order" "[I", Cond.methodLink RX5 17 yX7_cell, Cond.methodLink RX5 21 yX5_arrangeByLevel, Cond.instanceMethod yX5_arrangeByLevel, Cond.selects RX5 yX5_arrangeByLevel yX5_arrangeByLevel, Cond.code yX5_arrangeByLevel cX5_arrangeByLevel 6 none, Cond.methodLink RX5 31 yX7_field, Cond.methodLink RX5 25 yJ9_floorMod_7cf53, Cond.static yJ9_floorMod_7cf53, Cond.initialized RJ9, Cond.code yJ9_floorMod_7cf53 cJ9_floorMod_7cf53 3 (some .int), Cond.methodLink RX8 38 yX5_chosen, Cond.instanceMethod yX5_chosen, Cond.selects RX5 yX5_chosen yX5_chosen, Cond.code yX5_chosen cX5_chosen 6 (some .int), Cond.methodLink RX5 34 yX7_isOn, Cond.static yX9_isInSet, Cond.code yX9_isInSet cX9_isInSet 2 (some .boolean)]
def wsX8_droppedLines : List Cond := .code yX8_droppedLines cX8_droppedLines 5 (some .int) :: ((wsX8_droppedLines_r1 ++ wsX8_droppedLines_r2) ++ wsX70 ++ wsX80 ++ wsX50)
def wsX8_touching_r1 : List Cond := [Cond.static yX9_isInSet, Cond.initialized RX9, Cond.code yX9_isInSet cX9_isInSet 2 (some .boolean), Cond.methodLink RX8 85 yX7_dotsOf, Cond.instanceMethod yX7_dotsOf, Cond.selects RX7 yX7_dotsOf yX7_dotsOf, Cond.initialized RX7, Cond.code yX7_dotsOf cX7_dotsOf 6 (some .int), Cond.methodLink RX7 29 yX7_field, Cond.instanceMethod yX7_field, Cond.selects RX7 yX7_field yX7_field, Cond.code yX7_field cX7_field 3 (some .int), Cond.fieldLink RX7 11 "DotObjects$Scene" "cells" "[I", Cond.static yX9_isWithin, Cond.code yX9_isWithin cX9_isWithin 3 (some .boolean), Cond.methodLink RX7 55 yX7_bits, Cond.instanceMethod yX7_bits, Cond.selects RX7 yX7_bits yX7_bits, Cond.code yX7_bits cX7_bits 3 (some .int), Cond.methodLink RX7 58 yX7_mirrored, Cond.static yX7_mirrored, Cond.code yX7_mirrored cX7_mirrored 3 (some .int), Cond.methodLink RX8 30 yX7_cell, Cond.instanceMethod yX7_cell]
def wsX8_touching_r2 : List Cond := [Cond.selects RX7 yX7_cell yX7_cell, Cond.code yX7_cell cX7_cell 2 (some .int)]
def wsX8_touching : List Cond := .code yX8_touching cX8_touching 7 (some .int) :: ((wsX8_touching_r1 ++ wsX8_touching_r2) ++ wsX70)
def wsX8_met_r1 : List Cond := [Cond.methodLink RX8 42 yX8_drawnSet, Cond.instanceMethod yX8_drawnSet, Cond.selects RX8 yX8_drawnSet yX8_drawnSet, Cond.initialized RX8, Cond.code yX8_drawnSet cX8_drawnSet 3 (some .int), Cond.fieldLink RX8 12 "DotObjects$Screen" "order" "LDotObjects$Order;", Cond.methodLink RX8 30 yX7_cell, Cond.instanceMethod yX7_cell, Cond.selects RX7 yX7_cell yX7_cell, Cond.initialized RX7, Cond.code yX7_cell cX7_cell 2 (some .int), Cond.fieldLink RX7 11 "DotObjects$Scene" "cells" "[I", Cond.methodLink RX8 34 yX5_arrange, Cond.instanceMethod yX5_arrange, Cond.selects RX5 yX5_arrange yX5_arrange, Cond.initialized RX5, Cond.code yX5_arrange cX5_arrange 7 none, Cond.fieldLink RX5 9 "DotObjects$Order" "order" "[I", Cond.methodLink RX5 17 yX7_cell, Cond.methodLink RX5 21 yX5_arrangeByLevel, Cond.instanceMethod yX5_arrangeByLevel, Cond.selects RX5 yX5_arrangeByLevel yX5_arrangeByLevel, Cond.code yX5_arrangeByLevel cX5_arrangeByLevel 6 none, Cond.methodLink RX5 31 yX7_field]
def wsX8_met_r2 : List Cond := [Cond.instanceMethod yX7_field, Cond.selects RX7 yX7_field yX7_field, Cond.code yX7_field cX7_field 3 (some .int), Cond.methodLink RX5 25 yJ9_floorMod_7cf53, Cond.static yJ9_floorMod_7cf53, Cond.initialized RJ9, Cond.code yJ9_floorMod_7cf53 cJ9_floorMod_7cf53 3 (some .int), Cond.methodLink RX8 38 yX5_chosen, Cond.instanceMethod yX5_chosen, Cond.selects RX5 yX5_chosen yX5_chosen, Cond.code yX5_chosen cX5_chosen 6 (some .int), Cond.methodLink RX5 34 yX7_isOn, Cond.instanceMethod yX7_isOn, Cond.selects RX7 yX7_isOn yX7_isOn, Cond.code yX7_isOn cX7_isOn 3 (some .boolean), Cond.methodLink RX7 29 yX7_field, Cond.static yX9_isWithin, Cond.initialized RX9, Cond.code yX9_isWithin cX9_isWithin 3 (some .boolean), Cond.methodLink RX8 91 yX8_touching, Cond.static yX8_touching, Cond.code yX8_touching cX8_touching 7 (some .int), Cond.static yX9_isInSet, Cond.code yX9_isInSet cX9_isInSet 2 (some .boolean)]
def wsX8_met_r3 : List Cond := [Cond.methodLink RX8 85 yX7_dotsOf, Cond.instanceMethod yX7_dotsOf, Cond.selects RX7 yX7_dotsOf yX7_dotsOf, Cond.code yX7_dotsOf cX7_dotsOf 6 (some .int), Cond.methodLink RX7 55 yX7_bits, Cond.instanceMethod yX7_bits, Cond.selects RX7 yX7_bits yX7_bits, Cond.code yX7_bits cX7_bits 3 (some .int), Cond.methodLink RX7 58 yX7_mirrored, Cond.static yX7_mirrored, Cond.code yX7_mirrored cX7_mirrored 3 (some .int)]
def wsX8_met : List Cond := .code yX8_met cX8_met 5 (some .int) :: ((wsX8_met_r1 ++ (wsX8_met_r2 ++ wsX8_met_r3)) ++ wsX80 ++ wsX70 ++ wsX50)
def wsX8_wouldMeet_r1 : List Cond := [Cond.methodLink RX8 49 yX7_setOn, Cond.instanceMethod yX7_setOn, Cond.selects RX7 yX7_setOn yX7_setOn, Cond.initialized RX7, Cond.code yX7_setOn cX7_setOn 4 (some .int), Cond.fieldLink RX7 11 "DotObjects$Scene" "cells" "[I", Cond.methodLink RX7 45 yX7_isOn, Cond.instanceMethod yX7_isOn, Cond.selects RX7 yX7_isOn yX7_isOn, Cond.code yX7_isOn cX7_isOn 3 (some .boolean), Cond.methodLink RX7 29 yX7_field, Cond.instanceMethod yX7_field, Cond.selects RX7 yX7_field yX7_field, Cond.code yX7_field cX7_field 3 (some .int), Cond.static yX9_isWithin, Cond.initialized RX9, Cond.code yX9_isWithin cX9_isWithin 3 (some .boolean), Cond.methodLink RX8 91 yX8_touching, Cond.static yX8_touching, Cond.initialized RX8, Cond.code yX8_touching cX8_touching 7 (some .int), Cond.static yX9_isInSet, Cond.code yX9_isInSet cX9_isInSet 2 (some .boolean), Cond.methodLink RX8 85 yX7_dotsOf]
def wsX8_wouldMeet_r2 : List Cond := [Cond.instanceMethod yX7_dotsOf, Cond.selects RX7 yX7_dotsOf yX7_dotsOf, Cond.code yX7_dotsOf cX7_dotsOf 6 (some .int), Cond.methodLink RX7 55 yX7_bits, Cond.instanceMethod yX7_bits, Cond.selects RX7 yX7_bits yX7_bits, Cond.code yX7_bits cX7_bits 3 (some .int), Cond.methodLink RX7 58 yX7_mirrored, Cond.static yX7_mirrored, Cond.code yX7_mirrored cX7_mirrored 3 (some .int), Cond.methodLink RX8 30 yX7_cell, Cond.instanceMethod yX7_cell, Cond.selects RX7 yX7_cell yX7_cell, Cond.code yX7_cell cX7_cell 2 (some .int)]
def wsX8_wouldMeet : List Cond := .code yX8_wouldMeet cX8_wouldMeet 5 (some .int) :: ((wsX8_wouldMeet_r1 ++ wsX8_wouldMeet_r2) ++ wsX70)
def wsX9_init_r1 : List Cond := [Cond.methodLink RX9 1 objectInit, Cond.instanceMethod objectInit, Cond.code objectInit ⟨#[0xb1]⟩ 1 none, Cond.classLink RX9 7 RX7, Cond.instantiable RX7 1, Cond.initialized RX7, Cond.fieldLink RX9 10 "DotObjects" "scene" "LDotObjects$Scene;", Cond.classLink RX9 16 RX8, Cond.instantiable RX8 3, Cond.initialized RX8, Cond.fieldLink RX9 19 "DotObjects" "screen" "LDotObjects$Screen;", Cond.classLink RX9 23 RX4, Cond.instantiable RX4 3, Cond.initialized RX4, Cond.fieldLink RX9 26 "DotObjects" "holders" "LDotObjects$Holders;", Cond.classLink RX9 30 RX2, Cond.instantiable RX2 3, Cond.initialized RX2, Cond.fieldLink RX9 33 "DotObjects" "forecast" "LDotObjects$Forecast;", Cond.classLink RX9 37 RX3, Cond.instantiable RX3 3, Cond.initialized RX3, Cond.fieldLink RX9 40 "DotObjects" "history" "LDotObjects$History;", Cond.classLink RX9 44 RX0]
def wsX9_init_r2 : List Cond := [Cond.instantiable RX0 4, Cond.initialized RX0, Cond.fieldLink RX9 47 "DotObjects" "book" "LDotObjects$Book;", Cond.classLink RX9 51 RX1, Cond.instantiable RX1 1, Cond.initialized RX1, Cond.fieldLink RX9 54 "DotObjects" "draws" "LDotObjects$Draws;", Cond.classLink RX9 58 "[[I", Cond.arrayClass .int, Cond.fieldLink RX9 60 "DotObjects" "images" "[[I", Cond.fieldLink RX9 63 "DotObjects" "imageSeeds" "[I", Cond.arrayClass .boolean, Cond.fieldLink RX9 67 "DotObjects" "kept" "[Z", Cond.methodLink RX9 9 yX7_init, Cond.instanceMethod yX7_init, Cond.code yX7_init cX7_init 2 none, Cond.methodLink RX7 5 objectInit, Cond.fieldLink RX7 11 "DotObjects$Scene" "cells" "[I", Cond.instanceMethod yX8_init, Cond.code yX8_init cX8_init 1 none, Cond.methodLink RX8 3 objectInit, Cond.classLink RX8 9 RX5, Cond.instantiable RX5 1, Cond.initialized RX5]
def wsX9_init_r3 : List Cond := [Cond.fieldLink RX8 12 "DotObjects$Screen" "order" "LDotObjects$Order;", Cond.classLink RX8 18 RX6, Cond.instantiable RX6 3, Cond.initialized RX6, Cond.fieldLink RX8 21 "DotObjects$Screen" "now" "LDotObjects$PaintedLine;", Cond.fieldLink RX8 25 "DotObjects$Screen" "whole" "LDotObjects$PaintedLine;", Cond.instanceMethod yX5_init, Cond.code yX5_init cX5_init 1 none, Cond.methodLink RX5 3 objectInit, Cond.fieldLink RX5 9 "DotObjects$Order" "order" "[I", Cond.instanceMethod yX6_init, Cond.code yX6_init cX6_init 1 none, Cond.methodLink RX6 3 objectInit, Cond.fieldLink RX6 9 "DotObjects$PaintedLine" "seen" "[I", Cond.fieldLink RX6 15 "DotObjects$PaintedLine" "planes" "[I", Cond.instanceMethod yX4_init, Cond.code yX4_init cX4_init 1 none, Cond.methodLink RX4 3 objectInit, Cond.fieldLink RX4 9 "DotObjects$Holders" "holders" "[I", Cond.fieldLink RX4 15 "DotObjects$Holders" "ends" "[I", Cond.instanceMethod yX2_init, Cond.code yX2_init cX2_init 1 none, Cond.methodLink RX2 3 objectInit, Cond.classLink RX2 9 RX7]
def wsX9_init_r4 : List Cond := [Cond.fieldLink RX2 12 "DotObjects$Forecast" "ahead" "LDotObjects$Scene;", Cond.classLink RX2 18 RX5, Cond.fieldLink RX2 21 "DotObjects$Forecast" "order" "LDotObjects$Order;", Cond.fieldLink RX2 25 "DotObjects$Forecast" "drops" "[I", Cond.methodLink RX2 11 yX7_init, Cond.instanceMethod yX3_init, Cond.code yX3_init cX3_init 1 none, Cond.methodLink RX3 3 objectInit, Cond.classLink RX3 11 "[[I", Cond.fieldLink RX3 13 "DotObjects$History" "earlier" "[[I", Cond.instanceMethod yX0_init, Cond.code yX0_init cX0_init 1 none, Cond.methodLink RX0 3 objectInit, Cond.fieldLink RX0 9 "DotObjects$Book" "lines" "[I", Cond.fieldLink RX0 15 "DotObjects$Book" "columns" "[I", Cond.fieldLink RX0 18 "DotObjects$Book" "colours" "[I", Cond.instanceMethod yX1_init, Cond.code yX1_init cX1_init 1 none, Cond.methodLink RX1 3 objectInit]
def wsX9_init : List Cond := .code yX9_init cX9_init 1 none :: ((wsX9_init_r1 ++ (wsX9_init_r2 ++ (wsX9_init_r3 ++ wsX9_init_r4))) ++ wsX70 ++ wsX90 ++ wsX80 ++ wsX40 ++ wsX20 ++ wsX30 ++ wsX00 ++ wsX10 ++ wsX50 ++ wsX60)
def wsX9_missingNow_r1 : List Cond := [Cond.fieldLink RX9 19 "DotObjects" "screen" "LDotObjects$Screen;", Cond.fieldLink RX9 10 "DotObjects" "scene" "LDotObjects$Scene;", Cond.methodLink RX9 71 yX7_cell, Cond.instanceMethod yX7_cell, Cond.selects RX7 yX7_cell yX7_cell, Cond.initialized RX7, Cond.code yX7_cell cX7_cell 2 (some .int), Cond.fieldLink RX7 11 "DotObjects$Scene" "cells" "[I", Cond.methodLink RX9 248 yX8_missing, Cond.instanceMethod yX8_missing, Cond.selects RX8 yX8_missing yX8_missing, Cond.initialized RX8, Cond.code yX8_missing cX8_missing 7 (some .int), Cond.fieldLink RX8 12 "DotObjects$Screen" "order" "LDotObjects$Order;", Cond.fieldLink RX8 21 "DotObjects$Screen" "now" "LDotObjects$PaintedLine;", Cond.fieldLink RX8 25 "DotObjects$Screen" "whole" "LDotObjects$PaintedLine;", Cond.methodLink RX8 34 yX5_arrange, Cond.instanceMethod yX5_arrange, Cond.selects RX5 yX5_arrange yX5_arrange, Cond.initialized RX5, Cond.code yX5_arrange cX5_arrange 7 none, Cond.fieldLink RX5 9 "DotObjects$Order" "order" "[I", Cond.methodLink RX5 17 yX7_cell, Cond.methodLink RX5 21 yX5_arrangeByLevel]
def wsX9_missingNow_r2 : List Cond := [Cond.instanceMethod yX5_arrangeByLevel, Cond.selects RX5 yX5_arrangeByLevel yX5_arrangeByLevel, Cond.code yX5_arrangeByLevel cX5_arrangeByLevel 6 none, Cond.methodLink RX5 31 yX7_field, Cond.instanceMethod yX7_field, Cond.selects RX7 yX7_field yX7_field, Cond.code yX7_field cX7_field 3 (some .int), Cond.methodLink RX5 25 yJ9_floorMod_7cf53, Cond.static yJ9_floorMod_7cf53, Cond.initialized RJ9, Cond.code yJ9_floorMod_7cf53 cJ9_floorMod_7cf53 3 (some .int), Cond.methodLink RX8 49 yX7_setOn, Cond.instanceMethod yX7_setOn, Cond.selects RX7 yX7_setOn yX7_setOn, Cond.code yX7_setOn cX7_setOn 4 (some .int), Cond.methodLink RX7 45 yX7_isOn, Cond.instanceMethod yX7_isOn, Cond.selects RX7 yX7_isOn yX7_isOn, Cond.code yX7_isOn cX7_isOn 3 (some .boolean), Cond.methodLink RX7 29 yX7_field, Cond.static yX9_isWithin, Cond.initialized RX9, Cond.code yX9_isWithin cX9_isWithin 3 (some .boolean), Cond.methodLink RX8 38 yX5_chosen]
def wsX9_missingNow_r3 : List Cond := [Cond.instanceMethod yX5_chosen, Cond.selects RX5 yX5_chosen yX5_chosen, Cond.code yX5_chosen cX5_chosen 6 (some .int), Cond.methodLink RX5 34 yX7_isOn, Cond.methodLink RX8 45 yX6_paint, Cond.instanceMethod yX6_paint, Cond.selects RX6 yX6_paint yX6_paint, Cond.initialized RX6, Cond.code yX6_paint cX6_paint 6 none, Cond.fieldLink RX6 9 "DotObjects$PaintedLine" "seen" "[I", Cond.fieldLink RX6 15 "DotObjects$PaintedLine" "planes" "[I", Cond.fieldLink RX6 24 "DotObjects$PaintedLine" "filled" "I", Cond.methodLink RX6 18 yJ7_fill_53178, Cond.static yJ7_fill_53178, Cond.initialized RJ7, Cond.code yJ7_fill_53178 cJ7_fill_53178 4 none, Cond.methodLink RX6 30 yX7_cell, Cond.static yX9_isInSet, Cond.code yX9_isInSet cX9_isInSet 2 (some .boolean), Cond.methodLink RX6 38 yX7_field, Cond.methodLink RX6 42 yX7_dotsOf, Cond.instanceMethod yX7_dotsOf, Cond.selects RX7 yX7_dotsOf yX7_dotsOf, Cond.code yX7_dotsOf cX7_dotsOf 6 (some .int)]
def wsX9_missingNow_r4 : List Cond := [Cond.methodLink RX7 55 yX7_bits, Cond.instanceMethod yX7_bits, Cond.selects RX7 yX7_bits yX7_bits, Cond.code yX7_bits cX7_bits 3 (some .int), Cond.methodLink RX7 58 yX7_mirrored, Cond.static yX7_mirrored, Cond.code yX7_mirrored cX7_mirrored 3 (some .int), Cond.methodLink RX6 45 yX6_paintBehind, Cond.instanceMethod yX6_paintBehind, Cond.selects RX6 yX6_paintBehind yX6_paintBehind, Cond.code yX6_paintBehind cX6_paintBehind 5 none, Cond.methodLink RX8 52 yX6_otherColumns, Cond.instanceMethod yX6_otherColumns, Cond.selects RX6 yX6_otherColumns yX6_otherColumns, Cond.code yX6_otherColumns cX6_otherColumns 4 (some .int), Cond.methodLink RX8 56 yJ6_bitCount_0f7a4, Cond.static yJ6_bitCount_0f7a4, Cond.initialized RJ6, Cond.code yJ6_bitCount_0f7a4 cJ6_bitCount_0f7a4 1 (some .int), Cond.constant RJ6 265 (1431655765), Cond.constant RJ6 266 (858993459), Cond.constant RJ6 267 (252645135)]
def wsX9_missingNow : List Cond := .code yX9_missingNow cX9_missingNow 1 (some .int) :: ((wsX9_missingNow_r1 ++ (wsX9_missingNow_r2 ++ (wsX9_missingNow_r3 ++ wsX9_missingNow_r4))) ++ wsX90 ++ wsX70 ++ wsX80 ++ wsX50 ++ wsX60)
def wsX9_firstWrong_r1 : List Cond := [Cond.fieldLink RX9 47 "DotObjects" "book" "LDotObjects$Book;", Cond.fieldLink RX9 19 "DotObjects" "screen" "LDotObjects$Screen;", Cond.fieldLink RX9 10 "DotObjects" "scene" "LDotObjects$Scene;", Cond.methodLink RX9 92 yX0_size, Cond.instanceMethod yX0_size, Cond.selects RX0 yX0_size yX0_size, Cond.initialized RX0, Cond.code yX0_size cX0_size 1 (some .int), Cond.fieldLink RX0 21 "DotObjects$Book" "size" "I", Cond.methodLink RX9 252 yX0_lineOf, Cond.instanceMethod yX0_lineOf, Cond.selects RX0 yX0_lineOf yX0_lineOf, Cond.code yX0_lineOf cX0_lineOf 2 (some .int), Cond.fieldLink RX0 9 "DotObjects$Book" "lines" "[I", Cond.methodLink RX9 132 yX8_paintNow, Cond.instanceMethod yX8_paintNow, Cond.selects RX8 yX8_paintNow yX8_paintNow, Cond.initialized RX8, Cond.code yX8_paintNow cX8_paintNow 3 (some (.object "DotObjects$PaintedLine")), Cond.fieldLink RX8 21 "DotObjects$Screen" "now" "LDotObjects$PaintedLine;", Cond.methodLink RX8 42 yX8_drawnSet, Cond.instanceMethod yX8_drawnSet, Cond.selects RX8 yX8_drawnSet yX8_drawnSet, Cond.code yX8_drawnSet cX8_drawnSet 3 (some .int)]
def wsX9_firstWrong_r2 : List Cond := [Cond.fieldLink RX8 12 "DotObjects$Screen" "order" "LDotObjects$Order;", Cond.methodLink RX8 30 yX7_cell, Cond.instanceMethod yX7_cell, Cond.selects RX7 yX7_cell yX7_cell, Cond.initialized RX7, Cond.code yX7_cell cX7_cell 2 (some .int), Cond.fieldLink RX7 11 "DotObjects$Scene" "cells" "[I", Cond.methodLink RX8 34 yX5_arrange, Cond.instanceMethod yX5_arrange, Cond.selects RX5 yX5_arrange yX5_arrange, Cond.initialized RX5, Cond.code yX5_arrange cX5_arrange 7 none, Cond.fieldLink RX5 9 "DotObjects$Order" "order" "[I", Cond.methodLink RX5 17 yX7_cell, Cond.methodLink RX5 21 yX5_arrangeByLevel, Cond.instanceMethod yX5_arrangeByLevel, Cond.selects RX5 yX5_arrangeByLevel yX5_arrangeByLevel, Cond.code yX5_arrangeByLevel cX5_arrangeByLevel 6 none, Cond.methodLink RX5 31 yX7_field, Cond.instanceMethod yX7_field, Cond.selects RX7 yX7_field yX7_field, Cond.code yX7_field cX7_field 3 (some .int), Cond.methodLink RX5 25 yJ9_floorMod_7cf53, Cond.static yJ9_floorMod_7cf53]
def wsX9_firstWrong_r3 : List Cond := [Cond.initialized RJ9, Cond.code yJ9_floorMod_7cf53 cJ9_floorMod_7cf53 3 (some .int), Cond.methodLink RX8 38 yX5_chosen, Cond.instanceMethod yX5_chosen, Cond.selects RX5 yX5_chosen yX5_chosen, Cond.code yX5_chosen cX5_chosen 6 (some .int), Cond.methodLink RX5 34 yX7_isOn, Cond.instanceMethod yX7_isOn, Cond.selects RX7 yX7_isOn yX7_isOn, Cond.code yX7_isOn cX7_isOn 3 (some .boolean), Cond.methodLink RX7 29 yX7_field, Cond.static yX9_isWithin, Cond.initialized RX9, Cond.code yX9_isWithin cX9_isWithin 3 (some .boolean), Cond.methodLink RX8 45 yX6_paint, Cond.instanceMethod yX6_paint, Cond.selects RX6 yX6_paint yX6_paint, Cond.initialized RX6, Cond.code yX6_paint cX6_paint 6 none, Cond.fieldLink RX6 9 "DotObjects$PaintedLine" "seen" "[I", Cond.fieldLink RX6 15 "DotObjects$PaintedLine" "planes" "[I", Cond.fieldLink RX6 24 "DotObjects$PaintedLine" "filled" "I", Cond.methodLink RX6 18 yJ7_fill_53178, Cond.static yJ7_fill_53178]
def wsX9_firstWrong_r4 : List Cond := [Cond.initialized RJ7, Cond.code yJ7_fill_53178 cJ7_fill_53178 4 none, Cond.methodLink RX6 30 yX7_cell, Cond.static yX9_isInSet, Cond.code yX9_isInSet cX9_isInSet 2 (some .boolean), Cond.methodLink RX6 38 yX7_field, Cond.methodLink RX6 42 yX7_dotsOf, Cond.instanceMethod yX7_dotsOf, Cond.selects RX7 yX7_dotsOf yX7_dotsOf, Cond.code yX7_dotsOf cX7_dotsOf 6 (some .int), Cond.methodLink RX7 55 yX7_bits, Cond.instanceMethod yX7_bits, Cond.selects RX7 yX7_bits yX7_bits, Cond.code yX7_bits cX7_bits 3 (some .int), Cond.methodLink RX7 58 yX7_mirrored, Cond.static yX7_mirrored, Cond.code yX7_mirrored cX7_mirrored 3 (some .int), Cond.methodLink RX6 45 yX6_paintBehind, Cond.instanceMethod yX6_paintBehind, Cond.selects RX6 yX6_paintBehind yX6_paintBehind, Cond.code yX6_paintBehind cX6_paintBehind 5 none, Cond.methodLink RX9 255 yX0_columnOf, Cond.instanceMethod yX0_columnOf, Cond.selects RX0 yX0_columnOf yX0_columnOf]
def wsX9_firstWrong_r5 : List Cond := [Cond.code yX0_columnOf cX0_columnOf 2 (some .int), Cond.fieldLink RX0 15 "DotObjects$Book" "columns" "[I", Cond.methodLink RX9 136 yX6_colourAt, Cond.instanceMethod yX6_colourAt, Cond.selects RX6 yX6_colourAt yX6_colourAt, Cond.code yX6_colourAt cX6_colourAt 4 (some .int), Cond.methodLink RX6 49 yX6_thingAt, Cond.instanceMethod yX6_thingAt, Cond.selects RX6 yX6_thingAt yX6_thingAt, Cond.code yX6_thingAt cX6_thingAt 3 (some .int), Cond.methodLink RX9 258 yX0_colourOf, Cond.instanceMethod yX0_colourOf, Cond.selects RX0 yX0_colourOf yX0_colourOf, Cond.code yX0_colourOf cX0_colourOf 2 (some .int), Cond.fieldLink RX0 18 "DotObjects$Book" "colours" "[I"]
def wsX9_firstWrong : List Cond := .code yX9_firstWrong cX9_firstWrong 3 (some .int) :: ((wsX9_firstWrong_r1 ++ (wsX9_firstWrong_r2 ++ (wsX9_firstWrong_r3 ++ (wsX9_firstWrong_r4 ++ wsX9_firstWrong_r5)))) ++ wsX90 ++ wsX00 ++ wsX80 ++ wsX70 ++ wsX50 ++ wsX60)
def wsX9_told_r1 : List Cond := [Cond.fieldLink RX9 10 "DotObjects" "scene" "LDotObjects$Scene;", Cond.fieldLink RX9 19 "DotObjects" "screen" "LDotObjects$Screen;", Cond.fieldLink RX9 26 "DotObjects" "holders" "LDotObjects$Holders;", Cond.fieldLink RX9 47 "DotObjects" "book" "LDotObjects$Book;", Cond.fieldLink RX9 40 "DotObjects" "history" "LDotObjects$History;", Cond.constant RX9 99 (-1000000002), Cond.methodLink RX9 71 yX7_cell, Cond.instanceMethod yX7_cell, Cond.selects RX7 yX7_cell yX7_cell, Cond.initialized RX7, Cond.code yX7_cell cX7_cell 2 (some .int), Cond.fieldLink RX7 11 "DotObjects$Scene" "cells" "[I", Cond.methodLink RX9 75 yX9_missingNow, Cond.instanceMethod yX9_missingNow, Cond.selects RX9 yX9_missingNow yX9_missingNow, Cond.initialized RX9, Cond.code yX9_missingNow cX9_missingNow 1 (some .int), Cond.methodLink RX9 248 yX8_missing, Cond.instanceMethod yX8_missing, Cond.selects RX8 yX8_missing yX8_missing, Cond.initialized RX8, Cond.code yX8_missing cX8_missing 7 (some .int), Cond.fieldLink RX8 12 "DotObjects$Screen" "order" "LDotObjects$Order;", Cond.fieldLink RX8 21 "DotObjects$Screen" "now" "LDotObjects$PaintedLine;"]
def wsX9_told_r2 : List Cond := [Cond.fieldLink RX8 25 "DotObjects$Screen" "whole" "LDotObjects$PaintedLine;", Cond.methodLink RX8 34 yX5_arrange, Cond.instanceMethod yX5_arrange, Cond.selects RX5 yX5_arrange yX5_arrange, Cond.initialized RX5, Cond.code yX5_arrange cX5_arrange 7 none, Cond.fieldLink RX5 9 "DotObjects$Order" "order" "[I", Cond.methodLink RX5 17 yX7_cell, Cond.methodLink RX5 21 yX5_arrangeByLevel, Cond.instanceMethod yX5_arrangeByLevel, Cond.selects RX5 yX5_arrangeByLevel yX5_arrangeByLevel, Cond.code yX5_arrangeByLevel cX5_arrangeByLevel 6 none, Cond.methodLink RX5 31 yX7_field, Cond.instanceMethod yX7_field, Cond.selects RX7 yX7_field yX7_field, Cond.code yX7_field cX7_field 3 (some .int), Cond.methodLink RX5 25 yJ9_floorMod_7cf53, Cond.static yJ9_floorMod_7cf53, Cond.initialized RJ9, Cond.code yJ9_floorMod_7cf53 cJ9_floorMod_7cf53 3 (some .int), Cond.methodLink RX8 49 yX7_setOn, Cond.instanceMethod yX7_setOn, Cond.selects RX7 yX7_setOn yX7_setOn, Cond.code yX7_setOn cX7_setOn 4 (some .int)]
def wsX9_told_r3 : List Cond := [Cond.methodLink RX7 45 yX7_isOn, Cond.instanceMethod yX7_isOn, Cond.selects RX7 yX7_isOn yX7_isOn, Cond.code yX7_isOn cX7_isOn 3 (some .boolean), Cond.methodLink RX7 29 yX7_field, Cond.static yX9_isWithin, Cond.code yX9_isWithin cX9_isWithin 3 (some .boolean), Cond.methodLink RX8 38 yX5_chosen, Cond.instanceMethod yX5_chosen, Cond.selects RX5 yX5_chosen yX5_chosen, Cond.code yX5_chosen cX5_chosen 6 (some .int), Cond.methodLink RX5 34 yX7_isOn, Cond.methodLink RX8 45 yX6_paint, Cond.instanceMethod yX6_paint, Cond.selects RX6 yX6_paint yX6_paint, Cond.initialized RX6, Cond.code yX6_paint cX6_paint 6 none, Cond.fieldLink RX6 9 "DotObjects$PaintedLine" "seen" "[I", Cond.fieldLink RX6 15 "DotObjects$PaintedLine" "planes" "[I", Cond.fieldLink RX6 24 "DotObjects$PaintedLine" "filled" "I", Cond.methodLink RX6 18 yJ7_fill_53178, Cond.static yJ7_fill_53178, Cond.initialized RJ7, Cond.code yJ7_fill_53178 cJ7_fill_53178 4 none]
def wsX9_told_r4 : List Cond := [Cond.methodLink RX6 30 yX7_cell, Cond.static yX9_isInSet, Cond.code yX9_isInSet cX9_isInSet 2 (some .boolean), Cond.methodLink RX6 38 yX7_field, Cond.methodLink RX6 42 yX7_dotsOf, Cond.instanceMethod yX7_dotsOf, Cond.selects RX7 yX7_dotsOf yX7_dotsOf, Cond.code yX7_dotsOf cX7_dotsOf 6 (some .int), Cond.methodLink RX7 55 yX7_bits, Cond.instanceMethod yX7_bits, Cond.selects RX7 yX7_bits yX7_bits, Cond.code yX7_bits cX7_bits 3 (some .int), Cond.methodLink RX7 58 yX7_mirrored, Cond.static yX7_mirrored, Cond.code yX7_mirrored cX7_mirrored 3 (some .int), Cond.methodLink RX6 45 yX6_paintBehind, Cond.instanceMethod yX6_paintBehind, Cond.selects RX6 yX6_paintBehind yX6_paintBehind, Cond.code yX6_paintBehind cX6_paintBehind 5 none, Cond.methodLink RX8 52 yX6_otherColumns, Cond.instanceMethod yX6_otherColumns, Cond.selects RX6 yX6_otherColumns yX6_otherColumns, Cond.code yX6_otherColumns cX6_otherColumns 4 (some .int), Cond.methodLink RX8 56 yJ6_bitCount_0f7a4]
def wsX9_told_r5 : List Cond := [Cond.static yJ6_bitCount_0f7a4, Cond.initialized RJ6, Cond.code yJ6_bitCount_0f7a4 cJ6_bitCount_0f7a4 1 (some .int), Cond.constant RJ6 265 (1431655765), Cond.constant RJ6 266 (858993459), Cond.constant RJ6 267 (252645135), Cond.methodLink RX9 79 yX8_bestRule, Cond.instanceMethod yX8_bestRule, Cond.selects RX8 yX8_bestRule yX8_bestRule, Cond.code yX8_bestRule cX8_bestRule 6 (some .int), Cond.methodLink RX8 61 yX8_missing, Cond.methodLink RX9 83 yX8_enough, Cond.instanceMethod yX8_enough, Cond.selects RX8 yX8_enough yX8_enough, Cond.code yX8_enough cX8_enough 4 (some .int), Cond.methodLink RX8 64 Lib.Math.max.name, Cond.static Lib.Math.max.name, Cond.initialized "java/lang/Math", Cond.code Lib.Math.max.name Lib.Math.max.code 2 (some .int), Cond.methodLink RX9 86 yX4_assign, Cond.instanceMethod yX4_assign, Cond.selects RX4 yX4_assign yX4_assign, Cond.initialized RX4, Cond.code yX4_assign cX4_assign 4 (some .int)]
def wsX9_told_r6 : List Cond := [Cond.fieldLink RX4 18 "DotObjects$Holders" "used" "I", Cond.fieldLink RX4 9 "DotObjects$Holders" "holders" "[I", Cond.methodLink RX4 24 yX7_cell, Cond.methodLink RX4 28 yX7_field, Cond.methodLink RX4 32 yX4_occupy, Cond.instanceMethod yX4_occupy, Cond.selects RX4 yX4_occupy yX4_occupy, Cond.code yX4_occupy cX4_occupy 3 (some .int), Cond.fieldLink RX4 15 "DotObjects$Holders" "ends" "[I", Cond.methodLink RX4 35 Lib.Math.max.name, Cond.methodLink RX9 89 yX8_filledDots, Cond.instanceMethod yX8_filledDots, Cond.selects RX8 yX8_filledDots yX8_filledDots, Cond.code yX8_filledDots cX8_filledDots 4 (some .int), Cond.methodLink RX8 70 yX8_paintNow, Cond.instanceMethod yX8_paintNow, Cond.selects RX8 yX8_paintNow yX8_paintNow, Cond.code yX8_paintNow cX8_paintNow 3 (some (.object "DotObjects$PaintedLine")), Cond.methodLink RX8 42 yX8_drawnSet, Cond.instanceMethod yX8_drawnSet, Cond.selects RX8 yX8_drawnSet yX8_drawnSet, Cond.code yX8_drawnSet cX8_drawnSet 3 (some .int), Cond.methodLink RX8 30 yX7_cell, Cond.methodLink RX8 74 yX6_filledColumns]
def wsX9_told_r7 : List Cond := [Cond.instanceMethod yX6_filledColumns, Cond.selects RX6 yX6_filledColumns yX6_filledColumns, Cond.code yX6_filledColumns cX6_filledColumns 1 (some .int), Cond.methodLink RX9 92 yX0_size, Cond.instanceMethod yX0_size, Cond.selects RX0 yX0_size yX0_size, Cond.initialized RX0, Cond.code yX0_size cX0_size 1 (some .int), Cond.fieldLink RX0 21 "DotObjects$Book" "size" "I", Cond.methodLink RX9 95 yX9_firstWrong, Cond.instanceMethod yX9_firstWrong, Cond.selects RX9 yX9_firstWrong yX9_firstWrong, Cond.code yX9_firstWrong cX9_firstWrong 3 (some .int), Cond.methodLink RX9 252 yX0_lineOf, Cond.instanceMethod yX0_lineOf, Cond.selects RX0 yX0_lineOf yX0_lineOf, Cond.code yX0_lineOf cX0_lineOf 2 (some .int), Cond.fieldLink RX0 9 "DotObjects$Book" "lines" "[I", Cond.methodLink RX9 132 yX8_paintNow, Cond.methodLink RX9 255 yX0_columnOf, Cond.instanceMethod yX0_columnOf, Cond.selects RX0 yX0_columnOf yX0_columnOf, Cond.code yX0_columnOf cX0_columnOf 2 (some .int), Cond.fieldLink RX0 15 "DotObjects$Book" "columns" "[I"]
def wsX9_told_r8 : List Cond := [Cond.methodLink RX9 136 yX6_colourAt, Cond.instanceMethod yX6_colourAt, Cond.selects RX6 yX6_colourAt yX6_colourAt, Cond.code yX6_colourAt cX6_colourAt 4 (some .int), Cond.methodLink RX6 49 yX6_thingAt, Cond.instanceMethod yX6_thingAt, Cond.selects RX6 yX6_thingAt yX6_thingAt, Cond.code yX6_thingAt cX6_thingAt 3 (some .int), Cond.methodLink RX9 258 yX0_colourOf, Cond.instanceMethod yX0_colourOf, Cond.selects RX0 yX0_colourOf yX0_colourOf, Cond.code yX0_colourOf cX0_colourOf 2 (some .int), Cond.fieldLink RX0 18 "DotObjects$Book" "colours" "[I", Cond.methodLink RX9 98 yX3_size, Cond.instanceMethod yX3_size, Cond.selects RX3 yX3_size yX3_size, Cond.initialized RX3, Cond.code yX3_size cX3_size 1 (some .int), Cond.fieldLink RX3 18 "DotObjects$History" "size" "I"]
def wsX9_told : List Cond := .code yX9_told cX9_told 2 (some .int) :: ((wsX9_told_r1 ++ (wsX9_told_r2 ++ (wsX9_told_r3 ++ (wsX9_told_r4 ++ (wsX9_told_r5 ++ (wsX9_told_r6 ++ (wsX9_told_r7 ++ wsX9_told_r8))))))) ++ wsX90 ++ wsX70 ++ wsX80 ++ wsX50 ++ wsX60 ++ wsX40 ++ wsX00 ++ wsX30)
def wsX9_isThing : List Cond := .code yX9_isThing cX9_isThing 2 (some .boolean) :: ([.fieldLink RX9 10 "DotObjects" "scene" "LDotObjects$Scene;", .methodLink RX9 71 yX7_cell, .instanceMethod yX7_cell, .selects RX7 yX7_cell yX7_cell, .initialized RX7, .code yX7_cell cX7_cell 2 (some .int), .fieldLink RX7 11 "DotObjects$Scene" "cells" "[I", .methodLink RX9 147 yX9_isWithin, .static yX9_isWithin, .initialized RX9, .code yX9_isWithin cX9_isWithin 3 (some .boolean)] ++ wsX90 ++ wsX70)
def wsX9_holderOf_r1 : List Cond := [Cond.fieldLink RX9 26 "DotObjects" "holders" "LDotObjects$Holders;", Cond.fieldLink RX9 10 "DotObjects" "scene" "LDotObjects$Scene;", Cond.methodLink RX9 86 yX4_assign, Cond.instanceMethod yX4_assign, Cond.selects RX4 yX4_assign yX4_assign, Cond.initialized RX4, Cond.code yX4_assign cX4_assign 4 (some .int), Cond.fieldLink RX4 18 "DotObjects$Holders" "used" "I", Cond.fieldLink RX4 9 "DotObjects$Holders" "holders" "[I", Cond.methodLink RX4 24 yX7_cell, Cond.instanceMethod yX7_cell, Cond.selects RX7 yX7_cell yX7_cell, Cond.initialized RX7, Cond.code yX7_cell cX7_cell 2 (some .int), Cond.fieldLink RX7 11 "DotObjects$Scene" "cells" "[I", Cond.methodLink RX4 28 yX7_field, Cond.instanceMethod yX7_field, Cond.selects RX7 yX7_field yX7_field, Cond.code yX7_field cX7_field 3 (some .int), Cond.methodLink RX4 32 yX4_occupy, Cond.instanceMethod yX4_occupy, Cond.selects RX4 yX4_occupy yX4_occupy, Cond.code yX4_occupy cX4_occupy 3 (some .int), Cond.fieldLink RX4 15 "DotObjects$Holders" "ends" "[I"]
def wsX9_holderOf_r2 : List Cond := [Cond.methodLink RX4 35 Lib.Math.max.name, Cond.static Lib.Math.max.name, Cond.initialized "java/lang/Math", Cond.code Lib.Math.max.name Lib.Math.max.code 2 (some .int), Cond.methodLink RX9 251 yX4_holderOf, Cond.instanceMethod yX4_holderOf, Cond.selects RX4 yX4_holderOf yX4_holderOf, Cond.code yX4_holderOf cX4_holderOf 2 (some .int)]
def wsX9_holderOf : List Cond := .code yX9_holderOf cX9_holderOf 2 (some .int) :: ((wsX9_holderOf_r1 ++ wsX9_holderOf_r2) ++ wsX90 ++ wsX40 ++ wsX70)
def wsX9_thing_r1 : List Cond := [Cond.constant RX9 104 (-1000000001), Cond.fieldLink RX9 10 "DotObjects" "scene" "LDotObjects$Scene;", Cond.fieldLink RX9 19 "DotObjects" "screen" "LDotObjects$Screen;", Cond.constant RX9 99 (-1000000002), Cond.methodLink RX9 100 yX9_isThing, Cond.instanceMethod yX9_isThing, Cond.selects RX9 yX9_isThing yX9_isThing, Cond.initialized RX9, Cond.code yX9_isThing cX9_isThing 2 (some .boolean), Cond.methodLink RX9 71 yX7_cell, Cond.instanceMethod yX7_cell, Cond.selects RX7 yX7_cell yX7_cell, Cond.initialized RX7, Cond.code yX7_cell cX7_cell 2 (some .int), Cond.fieldLink RX7 11 "DotObjects$Scene" "cells" "[I", Cond.methodLink RX9 147 yX9_isWithin, Cond.static yX9_isWithin, Cond.code yX9_isWithin cX9_isWithin 3 (some .boolean), Cond.methodLink RX9 105 yX7_field, Cond.instanceMethod yX7_field, Cond.selects RX7 yX7_field yX7_field, Cond.code yX7_field cX7_field 3 (some .int), Cond.methodLink RX9 109 yX8_seenDots, Cond.instanceMethod yX8_seenDots]
def wsX9_thing_r2 : List Cond := [Cond.selects RX8 yX8_seenDots yX8_seenDots, Cond.initialized RX8, Cond.code yX8_seenDots cX8_seenDots 5 (some .int), Cond.methodLink RX8 70 yX8_paintNow, Cond.instanceMethod yX8_paintNow, Cond.selects RX8 yX8_paintNow yX8_paintNow, Cond.code yX8_paintNow cX8_paintNow 3 (some (.object "DotObjects$PaintedLine")), Cond.fieldLink RX8 21 "DotObjects$Screen" "now" "LDotObjects$PaintedLine;", Cond.methodLink RX8 42 yX8_drawnSet, Cond.instanceMethod yX8_drawnSet, Cond.selects RX8 yX8_drawnSet yX8_drawnSet, Cond.code yX8_drawnSet cX8_drawnSet 3 (some .int), Cond.fieldLink RX8 12 "DotObjects$Screen" "order" "LDotObjects$Order;", Cond.methodLink RX8 30 yX7_cell, Cond.methodLink RX8 34 yX5_arrange, Cond.instanceMethod yX5_arrange, Cond.selects RX5 yX5_arrange yX5_arrange, Cond.initialized RX5, Cond.code yX5_arrange cX5_arrange 7 none, Cond.fieldLink RX5 9 "DotObjects$Order" "order" "[I", Cond.methodLink RX5 17 yX7_cell, Cond.methodLink RX5 21 yX5_arrangeByLevel, Cond.instanceMethod yX5_arrangeByLevel, Cond.selects RX5 yX5_arrangeByLevel yX5_arrangeByLevel]
def wsX9_thing_r3 : List Cond := [Cond.code yX5_arrangeByLevel cX5_arrangeByLevel 6 none, Cond.methodLink RX5 31 yX7_field, Cond.methodLink RX5 25 yJ9_floorMod_7cf53, Cond.static yJ9_floorMod_7cf53, Cond.initialized RJ9, Cond.code yJ9_floorMod_7cf53 cJ9_floorMod_7cf53 3 (some .int), Cond.methodLink RX8 38 yX5_chosen, Cond.instanceMethod yX5_chosen, Cond.selects RX5 yX5_chosen yX5_chosen, Cond.code yX5_chosen cX5_chosen 6 (some .int), Cond.methodLink RX5 34 yX7_isOn, Cond.instanceMethod yX7_isOn, Cond.selects RX7 yX7_isOn yX7_isOn, Cond.code yX7_isOn cX7_isOn 3 (some .boolean), Cond.methodLink RX7 29 yX7_field, Cond.methodLink RX8 45 yX6_paint, Cond.instanceMethod yX6_paint, Cond.selects RX6 yX6_paint yX6_paint, Cond.initialized RX6, Cond.code yX6_paint cX6_paint 6 none, Cond.fieldLink RX6 9 "DotObjects$PaintedLine" "seen" "[I", Cond.fieldLink RX6 15 "DotObjects$PaintedLine" "planes" "[I", Cond.fieldLink RX6 24 "DotObjects$PaintedLine" "filled" "I", Cond.methodLink RX6 18 yJ7_fill_53178]
def wsX9_thing_r4 : List Cond := [Cond.static yJ7_fill_53178, Cond.initialized RJ7, Cond.code yJ7_fill_53178 cJ7_fill_53178 4 none, Cond.methodLink RX6 30 yX7_cell, Cond.static yX9_isInSet, Cond.code yX9_isInSet cX9_isInSet 2 (some .boolean), Cond.methodLink RX6 38 yX7_field, Cond.methodLink RX6 42 yX7_dotsOf, Cond.instanceMethod yX7_dotsOf, Cond.selects RX7 yX7_dotsOf yX7_dotsOf, Cond.code yX7_dotsOf cX7_dotsOf 6 (some .int), Cond.methodLink RX7 55 yX7_bits, Cond.instanceMethod yX7_bits, Cond.selects RX7 yX7_bits yX7_bits, Cond.code yX7_bits cX7_bits 3 (some .int), Cond.methodLink RX7 58 yX7_mirrored, Cond.static yX7_mirrored, Cond.code yX7_mirrored cX7_mirrored 3 (some .int), Cond.methodLink RX6 45 yX6_paintBehind, Cond.instanceMethod yX6_paintBehind, Cond.selects RX6 yX6_paintBehind yX6_paintBehind, Cond.code yX6_paintBehind cX6_paintBehind 5 none, Cond.methodLink RX8 78 yX6_seenColumns, Cond.instanceMethod yX6_seenColumns]
def wsX9_thing_r5 : List Cond := [Cond.selects RX6 yX6_seenColumns yX6_seenColumns, Cond.code yX6_seenColumns cX6_seenColumns 2 (some .int), Cond.methodLink RX8 56 yJ6_bitCount_0f7a4, Cond.static yJ6_bitCount_0f7a4, Cond.initialized RJ6, Cond.code yJ6_bitCount_0f7a4 cJ6_bitCount_0f7a4 1 (some .int), Cond.constant RJ6 265 (1431655765), Cond.constant RJ6 266 (858993459), Cond.constant RJ6 267 (252645135), Cond.methodLink RX9 113 yX8_coveredDots, Cond.instanceMethod yX8_coveredDots, Cond.selects RX8 yX8_coveredDots yX8_coveredDots, Cond.code yX8_coveredDots cX8_coveredDots 6 (some .int), Cond.methodLink RX8 85 yX7_dotsOf, Cond.methodLink RX9 116 yX8_droppedLines, Cond.instanceMethod yX8_droppedLines, Cond.selects RX8 yX8_droppedLines yX8_droppedLines, Cond.code yX8_droppedLines cX8_droppedLines 5 (some .int), Cond.methodLink RX8 88 yX7_isOn, Cond.methodLink RX9 119 yX9_holderOf, Cond.instanceMethod yX9_holderOf, Cond.selects RX9 yX9_holderOf yX9_holderOf, Cond.code yX9_holderOf cX9_holderOf 2 (some .int), Cond.fieldLink RX9 26 "DotObjects" "holders" "LDotObjects$Holders;"]
def wsX9_thing_r6 : List Cond := [Cond.methodLink RX9 86 yX4_assign, Cond.instanceMethod yX4_assign, Cond.selects RX4 yX4_assign yX4_assign, Cond.initialized RX4, Cond.code yX4_assign cX4_assign 4 (some .int), Cond.fieldLink RX4 18 "DotObjects$Holders" "used" "I", Cond.fieldLink RX4 9 "DotObjects$Holders" "holders" "[I", Cond.methodLink RX4 24 yX7_cell, Cond.methodLink RX4 28 yX7_field, Cond.methodLink RX4 32 yX4_occupy, Cond.instanceMethod yX4_occupy, Cond.selects RX4 yX4_occupy yX4_occupy, Cond.code yX4_occupy cX4_occupy 3 (some .int), Cond.fieldLink RX4 15 "DotObjects$Holders" "ends" "[I", Cond.methodLink RX4 35 Lib.Math.max.name, Cond.static Lib.Math.max.name, Cond.initialized "java/lang/Math", Cond.code Lib.Math.max.name Lib.Math.max.code 2 (some .int), Cond.methodLink RX9 251 yX4_holderOf, Cond.instanceMethod yX4_holderOf, Cond.selects RX4 yX4_holderOf yX4_holderOf, Cond.code yX4_holderOf cX4_holderOf 2 (some .int), Cond.methodLink RX9 122 yX8_met, Cond.instanceMethod yX8_met]
def wsX9_thing_r7 : List Cond := [Cond.selects RX8 yX8_met yX8_met, Cond.code yX8_met cX8_met 5 (some .int), Cond.methodLink RX8 91 yX8_touching, Cond.static yX8_touching, Cond.code yX8_touching cX8_touching 7 (some .int), Cond.methodLink RX9 125 yX8_wouldMeet, Cond.instanceMethod yX8_wouldMeet, Cond.selects RX8 yX8_wouldMeet yX8_wouldMeet, Cond.code yX8_wouldMeet cX8_wouldMeet 5 (some .int), Cond.methodLink RX8 49 yX7_setOn, Cond.instanceMethod yX7_setOn, Cond.selects RX7 yX7_setOn yX7_setOn, Cond.code yX7_setOn cX7_setOn 4 (some .int), Cond.methodLink RX7 45 yX7_isOn]
def wsX9_thing : List Cond := .code yX9_thing cX9_thing 3 (some .int) :: ((wsX9_thing_r1 ++ (wsX9_thing_r2 ++ (wsX9_thing_r3 ++ (wsX9_thing_r4 ++ (wsX9_thing_r5 ++ (wsX9_thing_r6 ++ wsX9_thing_r7)))))) ++ wsX90 ++ wsX70 ++ wsX80 ++ wsX50 ++ wsX60 ++ wsX40)
def wsX9_isDot : List Cond := .code yX9_isDot cX9_isDot 2 (some .boolean) :: ([.methodLink RX9 147 yX9_isWithin, .static yX9_isWithin, .initialized RX9, .code yX9_isWithin cX9_isWithin 3 (some .boolean)])
def wsX9_dot_r1 : List Cond := [Cond.constant RX9 99 (-1000000002), Cond.fieldLink RX9 19 "DotObjects" "screen" "LDotObjects$Screen;", Cond.fieldLink RX9 10 "DotObjects" "scene" "LDotObjects$Scene;", Cond.methodLink RX9 128 yX9_isDot, Cond.static yX9_isDot, Cond.initialized RX9, Cond.code yX9_isDot cX9_isDot 2 (some .boolean), Cond.methodLink RX9 147 yX9_isWithin, Cond.static yX9_isWithin, Cond.code yX9_isWithin cX9_isWithin 3 (some .boolean), Cond.methodLink RX9 132 yX8_paintNow, Cond.instanceMethod yX8_paintNow, Cond.selects RX8 yX8_paintNow yX8_paintNow, Cond.initialized RX8, Cond.code yX8_paintNow cX8_paintNow 3 (some (.object "DotObjects$PaintedLine")), Cond.fieldLink RX8 21 "DotObjects$Screen" "now" "LDotObjects$PaintedLine;", Cond.methodLink RX8 42 yX8_drawnSet, Cond.instanceMethod yX8_drawnSet, Cond.selects RX8 yX8_drawnSet yX8_drawnSet, Cond.code yX8_drawnSet cX8_drawnSet 3 (some .int), Cond.fieldLink RX8 12 "DotObjects$Screen" "order" "LDotObjects$Order;", Cond.methodLink RX8 30 yX7_cell, Cond.instanceMethod yX7_cell, Cond.selects RX7 yX7_cell yX7_cell]
def wsX9_dot_r2 : List Cond := [Cond.initialized RX7, Cond.code yX7_cell cX7_cell 2 (some .int), Cond.fieldLink RX7 11 "DotObjects$Scene" "cells" "[I", Cond.methodLink RX8 34 yX5_arrange, Cond.instanceMethod yX5_arrange, Cond.selects RX5 yX5_arrange yX5_arrange, Cond.initialized RX5, Cond.code yX5_arrange cX5_arrange 7 none, Cond.fieldLink RX5 9 "DotObjects$Order" "order" "[I", Cond.methodLink RX5 17 yX7_cell, Cond.methodLink RX5 21 yX5_arrangeByLevel, Cond.instanceMethod yX5_arrangeByLevel, Cond.selects RX5 yX5_arrangeByLevel yX5_arrangeByLevel, Cond.code yX5_arrangeByLevel cX5_arrangeByLevel 6 none, Cond.methodLink RX5 31 yX7_field, Cond.instanceMethod yX7_field, Cond.selects RX7 yX7_field yX7_field, Cond.code yX7_field cX7_field 3 (some .int), Cond.methodLink RX5 25 yJ9_floorMod_7cf53, Cond.static yJ9_floorMod_7cf53, Cond.initialized RJ9, Cond.code yJ9_floorMod_7cf53 cJ9_floorMod_7cf53 3 (some .int), Cond.methodLink RX8 38 yX5_chosen, Cond.instanceMethod yX5_chosen]
def wsX9_dot_r3 : List Cond := [Cond.selects RX5 yX5_chosen yX5_chosen, Cond.code yX5_chosen cX5_chosen 6 (some .int), Cond.methodLink RX5 34 yX7_isOn, Cond.instanceMethod yX7_isOn, Cond.selects RX7 yX7_isOn yX7_isOn, Cond.code yX7_isOn cX7_isOn 3 (some .boolean), Cond.methodLink RX7 29 yX7_field, Cond.methodLink RX8 45 yX6_paint, Cond.instanceMethod yX6_paint, Cond.selects RX6 yX6_paint yX6_paint, Cond.initialized RX6, Cond.code yX6_paint cX6_paint 6 none, Cond.fieldLink RX6 9 "DotObjects$PaintedLine" "seen" "[I", Cond.fieldLink RX6 15 "DotObjects$PaintedLine" "planes" "[I", Cond.fieldLink RX6 24 "DotObjects$PaintedLine" "filled" "I", Cond.methodLink RX6 18 yJ7_fill_53178, Cond.static yJ7_fill_53178, Cond.initialized RJ7, Cond.code yJ7_fill_53178 cJ7_fill_53178 4 none, Cond.methodLink RX6 30 yX7_cell, Cond.static yX9_isInSet, Cond.code yX9_isInSet cX9_isInSet 2 (some .boolean), Cond.methodLink RX6 38 yX7_field, Cond.methodLink RX6 42 yX7_dotsOf]
def wsX9_dot_r4 : List Cond := [Cond.instanceMethod yX7_dotsOf, Cond.selects RX7 yX7_dotsOf yX7_dotsOf, Cond.code yX7_dotsOf cX7_dotsOf 6 (some .int), Cond.methodLink RX7 55 yX7_bits, Cond.instanceMethod yX7_bits, Cond.selects RX7 yX7_bits yX7_bits, Cond.code yX7_bits cX7_bits 3 (some .int), Cond.methodLink RX7 58 yX7_mirrored, Cond.static yX7_mirrored, Cond.code yX7_mirrored cX7_mirrored 3 (some .int), Cond.methodLink RX6 45 yX6_paintBehind, Cond.instanceMethod yX6_paintBehind, Cond.selects RX6 yX6_paintBehind yX6_paintBehind, Cond.code yX6_paintBehind cX6_paintBehind 5 none, Cond.methodLink RX9 136 yX6_colourAt, Cond.instanceMethod yX6_colourAt, Cond.selects RX6 yX6_colourAt yX6_colourAt, Cond.code yX6_colourAt cX6_colourAt 4 (some .int), Cond.methodLink RX6 49 yX6_thingAt, Cond.instanceMethod yX6_thingAt, Cond.selects RX6 yX6_thingAt yX6_thingAt, Cond.code yX6_thingAt cX6_thingAt 3 (some .int), Cond.methodLink RX9 141 yX6_thingAt, Cond.methodLink RX9 144 yX8_paintWhole]
def wsX9_dot_r5 : List Cond := [Cond.instanceMethod yX8_paintWhole, Cond.selects RX8 yX8_paintWhole yX8_paintWhole, Cond.code yX8_paintWhole cX8_paintWhole 3 (some (.object "DotObjects$PaintedLine")), Cond.fieldLink RX8 25 "DotObjects$Screen" "whole" "LDotObjects$PaintedLine;", Cond.methodLink RX8 49 yX7_setOn, Cond.instanceMethod yX7_setOn, Cond.selects RX7 yX7_setOn yX7_setOn, Cond.code yX7_setOn cX7_setOn 4 (some .int), Cond.methodLink RX7 45 yX7_isOn]
def wsX9_dot : List Cond := .code yX9_dot cX9_dot 4 (some .int) :: ((wsX9_dot_r1 ++ (wsX9_dot_r2 ++ (wsX9_dot_r3 ++ (wsX9_dot_r4 ++ wsX9_dot_r5)))) ++ wsX90 ++ wsX80 ++ wsX70 ++ wsX50 ++ wsX60)
def wsX9_line_r1 : List Cond := [Cond.constantLong RX9 151 (-1), Cond.fieldLink RX9 19 "DotObjects" "screen" "LDotObjects$Screen;", Cond.fieldLink RX9 10 "DotObjects" "scene" "LDotObjects$Scene;", Cond.constantLong RX9 153 (8), Cond.methodLink RX9 147 yX9_isWithin, Cond.static yX9_isWithin, Cond.initialized RX9, Cond.code yX9_isWithin cX9_isWithin 3 (some .boolean), Cond.methodLink RX9 132 yX8_paintNow, Cond.instanceMethod yX8_paintNow, Cond.selects RX8 yX8_paintNow yX8_paintNow, Cond.initialized RX8, Cond.code yX8_paintNow cX8_paintNow 3 (some (.object "DotObjects$PaintedLine")), Cond.fieldLink RX8 21 "DotObjects$Screen" "now" "LDotObjects$PaintedLine;", Cond.methodLink RX8 42 yX8_drawnSet, Cond.instanceMethod yX8_drawnSet, Cond.selects RX8 yX8_drawnSet yX8_drawnSet, Cond.code yX8_drawnSet cX8_drawnSet 3 (some .int), Cond.fieldLink RX8 12 "DotObjects$Screen" "order" "LDotObjects$Order;", Cond.methodLink RX8 30 yX7_cell, Cond.instanceMethod yX7_cell, Cond.selects RX7 yX7_cell yX7_cell, Cond.initialized RX7, Cond.code yX7_cell cX7_cell 2 (some .int)]
def wsX9_line_r2 : List Cond := [Cond.fieldLink RX7 11 "DotObjects$Scene" "cells" "[I", Cond.methodLink RX8 34 yX5_arrange, Cond.instanceMethod yX5_arrange, Cond.selects RX5 yX5_arrange yX5_arrange, Cond.initialized RX5, Cond.code yX5_arrange cX5_arrange 7 none, Cond.fieldLink RX5 9 "DotObjects$Order" "order" "[I", Cond.methodLink RX5 17 yX7_cell, Cond.methodLink RX5 21 yX5_arrangeByLevel, Cond.instanceMethod yX5_arrangeByLevel, Cond.selects RX5 yX5_arrangeByLevel yX5_arrangeByLevel, Cond.code yX5_arrangeByLevel cX5_arrangeByLevel 6 none, Cond.methodLink RX5 31 yX7_field, Cond.instanceMethod yX7_field, Cond.selects RX7 yX7_field yX7_field, Cond.code yX7_field cX7_field 3 (some .int), Cond.methodLink RX5 25 yJ9_floorMod_7cf53, Cond.static yJ9_floorMod_7cf53, Cond.initialized RJ9, Cond.code yJ9_floorMod_7cf53 cJ9_floorMod_7cf53 3 (some .int), Cond.methodLink RX8 38 yX5_chosen, Cond.instanceMethod yX5_chosen, Cond.selects RX5 yX5_chosen yX5_chosen, Cond.code yX5_chosen cX5_chosen 6 (some .int)]
def wsX9_line_r3 : List Cond := [Cond.methodLink RX5 34 yX7_isOn, Cond.instanceMethod yX7_isOn, Cond.selects RX7 yX7_isOn yX7_isOn, Cond.code yX7_isOn cX7_isOn 3 (some .boolean), Cond.methodLink RX7 29 yX7_field, Cond.methodLink RX8 45 yX6_paint, Cond.instanceMethod yX6_paint, Cond.selects RX6 yX6_paint yX6_paint, Cond.initialized RX6, Cond.code yX6_paint cX6_paint 6 none, Cond.fieldLink RX6 9 "DotObjects$PaintedLine" "seen" "[I", Cond.fieldLink RX6 15 "DotObjects$PaintedLine" "planes" "[I", Cond.fieldLink RX6 24 "DotObjects$PaintedLine" "filled" "I", Cond.methodLink RX6 18 yJ7_fill_53178, Cond.static yJ7_fill_53178, Cond.initialized RJ7, Cond.code yJ7_fill_53178 cJ7_fill_53178 4 none, Cond.methodLink RX6 30 yX7_cell, Cond.static yX9_isInSet, Cond.code yX9_isInSet cX9_isInSet 2 (some .boolean), Cond.methodLink RX6 38 yX7_field, Cond.methodLink RX6 42 yX7_dotsOf, Cond.instanceMethod yX7_dotsOf, Cond.selects RX7 yX7_dotsOf yX7_dotsOf]
def wsX9_line_r4 : List Cond := [Cond.code yX7_dotsOf cX7_dotsOf 6 (some .int), Cond.methodLink RX7 55 yX7_bits, Cond.instanceMethod yX7_bits, Cond.selects RX7 yX7_bits yX7_bits, Cond.code yX7_bits cX7_bits 3 (some .int), Cond.methodLink RX7 58 yX7_mirrored, Cond.static yX7_mirrored, Cond.code yX7_mirrored cX7_mirrored 3 (some .int), Cond.methodLink RX6 45 yX6_paintBehind, Cond.instanceMethod yX6_paintBehind, Cond.selects RX6 yX6_paintBehind yX6_paintBehind, Cond.code yX6_paintBehind cX6_paintBehind 5 none, Cond.methodLink RX9 136 yX6_colourAt, Cond.instanceMethod yX6_colourAt, Cond.selects RX6 yX6_colourAt yX6_colourAt, Cond.code yX6_colourAt cX6_colourAt 4 (some .int), Cond.methodLink RX6 49 yX6_thingAt, Cond.instanceMethod yX6_thingAt, Cond.selects RX6 yX6_thingAt yX6_thingAt, Cond.code yX6_thingAt cX6_thingAt 3 (some .int)]
def wsX9_line : List Cond := .code yX9_line cX9_line 7 (some .long) :: ((wsX9_line_r1 ++ (wsX9_line_r2 ++ (wsX9_line_r3 ++ wsX9_line_r4))) ++ wsX90 ++ wsX80 ++ wsX70 ++ wsX50 ++ wsX60)
def wsX9_drawn_r1 : List Cond := [Cond.constant RX9 99 (-1000000002), Cond.fieldLink RX9 19 "DotObjects" "screen" "LDotObjects$Screen;", Cond.fieldLink RX9 10 "DotObjects" "scene" "LDotObjects$Scene;", Cond.methodLink RX9 147 yX9_isWithin, Cond.static yX9_isWithin, Cond.initialized RX9, Cond.code yX9_isWithin cX9_isWithin 3 (some .boolean), Cond.methodLink RX9 155 yX8_drawnSet, Cond.instanceMethod yX8_drawnSet, Cond.selects RX8 yX8_drawnSet yX8_drawnSet, Cond.initialized RX8, Cond.code yX8_drawnSet cX8_drawnSet 3 (some .int), Cond.fieldLink RX8 12 "DotObjects$Screen" "order" "LDotObjects$Order;", Cond.methodLink RX8 30 yX7_cell, Cond.instanceMethod yX7_cell, Cond.selects RX7 yX7_cell yX7_cell, Cond.initialized RX7, Cond.code yX7_cell cX7_cell 2 (some .int), Cond.fieldLink RX7 11 "DotObjects$Scene" "cells" "[I", Cond.methodLink RX8 34 yX5_arrange, Cond.instanceMethod yX5_arrange, Cond.selects RX5 yX5_arrange yX5_arrange, Cond.initialized RX5, Cond.code yX5_arrange cX5_arrange 7 none]
def wsX9_drawn_r2 : List Cond := [Cond.fieldLink RX5 9 "DotObjects$Order" "order" "[I", Cond.methodLink RX5 17 yX7_cell, Cond.methodLink RX5 21 yX5_arrangeByLevel, Cond.instanceMethod yX5_arrangeByLevel, Cond.selects RX5 yX5_arrangeByLevel yX5_arrangeByLevel, Cond.code yX5_arrangeByLevel cX5_arrangeByLevel 6 none, Cond.methodLink RX5 31 yX7_field, Cond.instanceMethod yX7_field, Cond.selects RX7 yX7_field yX7_field, Cond.code yX7_field cX7_field 3 (some .int), Cond.methodLink RX5 25 yJ9_floorMod_7cf53, Cond.static yJ9_floorMod_7cf53, Cond.initialized RJ9, Cond.code yJ9_floorMod_7cf53 cJ9_floorMod_7cf53 3 (some .int), Cond.methodLink RX8 38 yX5_chosen, Cond.instanceMethod yX5_chosen, Cond.selects RX5 yX5_chosen yX5_chosen, Cond.code yX5_chosen cX5_chosen 6 (some .int), Cond.methodLink RX5 34 yX7_isOn, Cond.instanceMethod yX7_isOn, Cond.selects RX7 yX7_isOn yX7_isOn, Cond.code yX7_isOn cX7_isOn 3 (some .boolean), Cond.methodLink RX7 29 yX7_field, Cond.methodLink RX9 158 yX7_setOn]
def wsX9_drawn_r3 : List Cond := [Cond.instanceMethod yX7_setOn, Cond.selects RX7 yX7_setOn yX7_setOn, Cond.code yX7_setOn cX7_setOn 4 (some .int), Cond.methodLink RX7 45 yX7_isOn]
def wsX9_drawn : List Cond := .code yX9_drawn cX9_drawn 4 (some .int) :: ((wsX9_drawn_r1 ++ (wsX9_drawn_r2 ++ wsX9_drawn_r3)) ++ wsX90 ++ wsX80 ++ wsX70 ++ wsX50)
def wsX9_isPicture : List Cond := .code yX9_isPicture cX9_isPicture 1 (some .boolean) :: ([.methodLink RX9 147 yX9_isWithin, .static yX9_isWithin, .initialized RX9, .code yX9_isWithin cX9_isWithin 3 (some .boolean)])
def wsX9_pictureRow : List Cond := .code yX9_pictureRow cX9_pictureRow 3 (some .int) :: ([.constant RX9 104 (-1000000001), .constant RX9 99 (-1000000002), .fieldLink RX9 10 "DotObjects" "scene" "LDotObjects$Scene;", .methodLink RX9 161 yX9_isPicture, .static yX9_isPicture, .initialized RX9, .code yX9_isPicture cX9_isPicture 1 (some .boolean), .methodLink RX9 147 yX9_isWithin, .static yX9_isWithin, .code yX9_isWithin cX9_isWithin 3 (some .boolean), .methodLink RX9 164 yX7_bits, .instanceMethod yX7_bits, .selects RX7 yX7_bits yX7_bits, .initialized RX7, .code yX7_bits cX7_bits 3 (some .int), .fieldLink RX7 11 "DotObjects$Scene" "cells" "[I"] ++ wsX90 ++ wsX70)
def wsX9_row_r1 : List Cond := [Cond.constant RX9 104 (-1000000001), Cond.constant RX9 99 (-1000000002), Cond.fieldLink RX9 10 "DotObjects" "scene" "LDotObjects$Scene;", Cond.fieldLink RX9 40 "DotObjects" "history" "LDotObjects$History;", Cond.methodLink RX9 161 yX9_isPicture, Cond.static yX9_isPicture, Cond.initialized RX9, Cond.code yX9_isPicture cX9_isPicture 1 (some .boolean), Cond.methodLink RX9 147 yX9_isWithin, Cond.static yX9_isWithin, Cond.code yX9_isWithin cX9_isWithin 3 (some .boolean), Cond.methodLink RX9 164 yX7_bits, Cond.instanceMethod yX7_bits, Cond.selects RX7 yX7_bits yX7_bits, Cond.initialized RX7, Cond.code yX7_bits cX7_bits 3 (some .int), Cond.fieldLink RX7 11 "DotObjects$Scene" "cells" "[I", Cond.methodLink RX9 167 yX3_remember, Cond.instanceMethod yX3_remember, Cond.selects RX3 yX3_remember yX3_remember, Cond.initialized RX3, Cond.code yX3_remember cX3_remember 2 none, Cond.fieldLink RX3 13 "DotObjects$History" "earlier" "[[I", Cond.fieldLink RX3 22 "DotObjects$History" "next" "I"]
def wsX9_row_r2 : List Cond := [Cond.fieldLink RX3 18 "DotObjects$History" "size" "I", Cond.methodLink RX3 29 Lib.Math.min.name, Cond.static Lib.Math.min.name, Cond.initialized "java/lang/Math", Cond.code Lib.Math.min.name Lib.Math.min.code 2 (some .int), Cond.methodLink RX3 25 yX7_saveTo, Cond.instanceMethod yX7_saveTo, Cond.selects RX7 yX7_saveTo yX7_saveTo, Cond.code yX7_saveTo cX7_saveTo 2 none, Cond.methodLink RX7 15 arraycopyName, Cond.native arraycopyName, Cond.static arraycopyName, Cond.initialized "java/lang/System", Cond.methodLink RX9 171 yX7_setBits, Cond.instanceMethod yX7_setBits, Cond.selects RX7 yX7_setBits yX7_setBits, Cond.code yX7_setBits cX7_setBits 4 none]
def wsX9_row : List Cond := .code yX9_row cX9_row 5 (some .int) :: ((wsX9_row_r1 ++ wsX9_row_r2) ++ wsX90 ++ wsX70 ++ wsX30)
def wsX9_isPlace : List Cond := .code yX9_isPlace cX9_isPlace 2 (some .boolean) :: ([.methodLink RX9 147 yX9_isWithin, .static yX9_isWithin, .initialized RX9, .code yX9_isWithin cX9_isWithin 3 (some .boolean)])
def wsX9_isManner : List Cond := .code yX9_isManner cX9_isManner 2 (some .boolean) :: ([.methodLink RX9 147 yX9_isWithin, .static yX9_isWithin, .initialized RX9, .code yX9_isWithin cX9_isWithin 3 (some .boolean)])
def wsX9_put_r1 : List Cond := [Cond.constant RX9 104 (-1000000001), Cond.constant RX9 99 (-1000000002), Cond.fieldLink RX9 10 "DotObjects" "scene" "LDotObjects$Scene;", Cond.constant RX9 185 (-1000000004), Cond.fieldLink RX9 40 "DotObjects" "history" "LDotObjects$History;", Cond.methodLink RX9 161 yX9_isPicture, Cond.static yX9_isPicture, Cond.initialized RX9, Cond.code yX9_isPicture cX9_isPicture 1 (some .boolean), Cond.methodLink RX9 147 yX9_isWithin, Cond.static yX9_isWithin, Cond.code yX9_isWithin cX9_isWithin 3 (some .boolean), Cond.methodLink RX9 175 yX9_isPlace, Cond.static yX9_isPlace, Cond.code yX9_isPlace cX9_isPlace 2 (some .boolean), Cond.methodLink RX9 178 yX9_isManner, Cond.static yX9_isManner, Cond.code yX9_isManner cX9_isManner 2 (some .boolean), Cond.methodLink RX9 181 yX7_isFull, Cond.instanceMethod yX7_isFull, Cond.selects RX7 yX7_isFull yX7_isFull, Cond.initialized RX7, Cond.code yX7_isFull cX7_isFull 1 (some .boolean), Cond.fieldLink RX7 11 "DotObjects$Scene" "cells" "[I"]
def wsX9_put_r2 : List Cond := [Cond.methodLink RX9 167 yX3_remember, Cond.instanceMethod yX3_remember, Cond.selects RX3 yX3_remember yX3_remember, Cond.initialized RX3, Cond.code yX3_remember cX3_remember 2 none, Cond.fieldLink RX3 13 "DotObjects$History" "earlier" "[[I", Cond.fieldLink RX3 22 "DotObjects$History" "next" "I", Cond.fieldLink RX3 18 "DotObjects$History" "size" "I", Cond.methodLink RX3 29 Lib.Math.min.name, Cond.static Lib.Math.min.name, Cond.initialized "java/lang/Math", Cond.code Lib.Math.min.name Lib.Math.min.code 2 (some .int), Cond.methodLink RX3 25 yX7_saveTo, Cond.instanceMethod yX7_saveTo, Cond.selects RX7 yX7_saveTo yX7_saveTo, Cond.code yX7_saveTo cX7_saveTo 2 none, Cond.methodLink RX7 15 arraycopyName, Cond.native arraycopyName, Cond.static arraycopyName, Cond.initialized "java/lang/System", Cond.methodLink RX9 186 yX7_add, Cond.instanceMethod yX7_add, Cond.selects RX7 yX7_add yX7_add, Cond.code yX7_add cX7_add 8 (some .int)]
def wsX9_put_r3 : List Cond := [Cond.methodLink RX7 25 yX7_setField, Cond.instanceMethod yX7_setField, Cond.selects RX7 yX7_setField yX7_setField, Cond.code yX7_setField cX7_setField 4 none]
def wsX9_put : List Cond := .code yX9_put cX9_put 7 (some .int) :: ((wsX9_put_r1 ++ (wsX9_put_r2 ++ wsX9_put_r3)) ++ wsX90 ++ wsX70 ++ wsX30)
def wsX9_move_r1 : List Cond := [Cond.constant RX9 104 (-1000000001), Cond.constant RX9 99 (-1000000002), Cond.fieldLink RX9 40 "DotObjects" "history" "LDotObjects$History;", Cond.fieldLink RX9 10 "DotObjects" "scene" "LDotObjects$Scene;", Cond.methodLink RX9 100 yX9_isThing, Cond.instanceMethod yX9_isThing, Cond.selects RX9 yX9_isThing yX9_isThing, Cond.initialized RX9, Cond.code yX9_isThing cX9_isThing 2 (some .boolean), Cond.methodLink RX9 71 yX7_cell, Cond.instanceMethod yX7_cell, Cond.selects RX7 yX7_cell yX7_cell, Cond.initialized RX7, Cond.code yX7_cell cX7_cell 2 (some .int), Cond.fieldLink RX7 11 "DotObjects$Scene" "cells" "[I", Cond.methodLink RX9 147 yX9_isWithin, Cond.static yX9_isWithin, Cond.code yX9_isWithin cX9_isWithin 3 (some .boolean), Cond.methodLink RX9 175 yX9_isPlace, Cond.static yX9_isPlace, Cond.code yX9_isPlace cX9_isPlace 2 (some .boolean), Cond.methodLink RX9 167 yX3_remember, Cond.instanceMethod yX3_remember, Cond.selects RX3 yX3_remember yX3_remember]
def wsX9_move_r2 : List Cond := [Cond.initialized RX3, Cond.code yX3_remember cX3_remember 2 none, Cond.fieldLink RX3 13 "DotObjects$History" "earlier" "[[I", Cond.fieldLink RX3 22 "DotObjects$History" "next" "I", Cond.fieldLink RX3 18 "DotObjects$History" "size" "I", Cond.methodLink RX3 29 Lib.Math.min.name, Cond.static Lib.Math.min.name, Cond.initialized "java/lang/Math", Cond.code Lib.Math.min.name Lib.Math.min.code 2 (some .int), Cond.methodLink RX3 25 yX7_saveTo, Cond.instanceMethod yX7_saveTo, Cond.selects RX7 yX7_saveTo yX7_saveTo, Cond.code yX7_saveTo cX7_saveTo 2 none, Cond.methodLink RX7 15 arraycopyName, Cond.native arraycopyName, Cond.static arraycopyName, Cond.initialized "java/lang/System", Cond.methodLink RX9 190 yX7_setField, Cond.instanceMethod yX7_setField, Cond.selects RX7 yX7_setField yX7_setField, Cond.code yX7_setField cX7_setField 4 none, Cond.methodLink RX9 193 yX7_linesOf, Cond.instanceMethod yX7_linesOf, Cond.selects RX7 yX7_linesOf yX7_linesOf]
def wsX9_move_r3 : List Cond := [Cond.code yX7_linesOf cX7_linesOf 4 (some .int), Cond.methodLink RX7 49 Lib.Math.max.name, Cond.static Lib.Math.max.name, Cond.code Lib.Math.max.name Lib.Math.max.code 2 (some .int), Cond.methodLink RX7 52 Lib.Math.min.name, Cond.methodLink RX7 29 yX7_field, Cond.instanceMethod yX7_field, Cond.selects RX7 yX7_field yX7_field, Cond.code yX7_field cX7_field 3 (some .int)]
def wsX9_move : List Cond := .code yX9_move cX9_move 4 (some .int) :: ((wsX9_move_r1 ++ (wsX9_move_r2 ++ wsX9_move_r3)) ++ wsX90 ++ wsX70 ++ wsX30)
def wsX9_turn_r1 : List Cond := [Cond.constant RX9 104 (-1000000001), Cond.constant RX9 99 (-1000000002), Cond.fieldLink RX9 40 "DotObjects" "history" "LDotObjects$History;", Cond.fieldLink RX9 10 "DotObjects" "scene" "LDotObjects$Scene;", Cond.fieldLink RX9 19 "DotObjects" "screen" "LDotObjects$Screen;", Cond.methodLink RX9 100 yX9_isThing, Cond.instanceMethod yX9_isThing, Cond.selects RX9 yX9_isThing yX9_isThing, Cond.initialized RX9, Cond.code yX9_isThing cX9_isThing 2 (some .boolean), Cond.methodLink RX9 71 yX7_cell, Cond.instanceMethod yX7_cell, Cond.selects RX7 yX7_cell yX7_cell, Cond.initialized RX7, Cond.code yX7_cell cX7_cell 2 (some .int), Cond.fieldLink RX7 11 "DotObjects$Scene" "cells" "[I", Cond.methodLink RX9 147 yX9_isWithin, Cond.static yX9_isWithin, Cond.code yX9_isWithin cX9_isWithin 3 (some .boolean), Cond.methodLink RX9 178 yX9_isManner, Cond.static yX9_isManner, Cond.code yX9_isManner cX9_isManner 2 (some .boolean), Cond.methodLink RX9 167 yX3_remember, Cond.instanceMethod yX3_remember]
def wsX9_turn_r2 : List Cond := [Cond.selects RX3 yX3_remember yX3_remember, Cond.initialized RX3, Cond.code yX3_remember cX3_remember 2 none, Cond.fieldLink RX3 13 "DotObjects$History" "earlier" "[[I", Cond.fieldLink RX3 22 "DotObjects$History" "next" "I", Cond.fieldLink RX3 18 "DotObjects$History" "size" "I", Cond.methodLink RX3 29 Lib.Math.min.name, Cond.static Lib.Math.min.name, Cond.initialized "java/lang/Math", Cond.code Lib.Math.min.name Lib.Math.min.code 2 (some .int), Cond.methodLink RX3 25 yX7_saveTo, Cond.instanceMethod yX7_saveTo, Cond.selects RX7 yX7_saveTo yX7_saveTo, Cond.code yX7_saveTo cX7_saveTo 2 none, Cond.methodLink RX7 15 arraycopyName, Cond.native arraycopyName, Cond.static arraycopyName, Cond.initialized "java/lang/System", Cond.methodLink RX9 190 yX7_setField, Cond.instanceMethod yX7_setField, Cond.selects RX7 yX7_setField yX7_setField, Cond.code yX7_setField cX7_setField 4 none, Cond.methodLink RX9 109 yX8_seenDots, Cond.instanceMethod yX8_seenDots]
def wsX9_turn_r3 : List Cond := [Cond.selects RX8 yX8_seenDots yX8_seenDots, Cond.initialized RX8, Cond.code yX8_seenDots cX8_seenDots 5 (some .int), Cond.methodLink RX8 70 yX8_paintNow, Cond.instanceMethod yX8_paintNow, Cond.selects RX8 yX8_paintNow yX8_paintNow, Cond.code yX8_paintNow cX8_paintNow 3 (some (.object "DotObjects$PaintedLine")), Cond.fieldLink RX8 21 "DotObjects$Screen" "now" "LDotObjects$PaintedLine;", Cond.methodLink RX8 42 yX8_drawnSet, Cond.instanceMethod yX8_drawnSet, Cond.selects RX8 yX8_drawnSet yX8_drawnSet, Cond.code yX8_drawnSet cX8_drawnSet 3 (some .int), Cond.fieldLink RX8 12 "DotObjects$Screen" "order" "LDotObjects$Order;", Cond.methodLink RX8 30 yX7_cell, Cond.methodLink RX8 34 yX5_arrange, Cond.instanceMethod yX5_arrange, Cond.selects RX5 yX5_arrange yX5_arrange, Cond.initialized RX5, Cond.code yX5_arrange cX5_arrange 7 none, Cond.fieldLink RX5 9 "DotObjects$Order" "order" "[I", Cond.methodLink RX5 17 yX7_cell, Cond.methodLink RX5 21 yX5_arrangeByLevel, Cond.instanceMethod yX5_arrangeByLevel, Cond.selects RX5 yX5_arrangeByLevel yX5_arrangeByLevel]
def wsX9_turn_r4 : List Cond := [Cond.code yX5_arrangeByLevel cX5_arrangeByLevel 6 none, Cond.methodLink RX5 31 yX7_field, Cond.instanceMethod yX7_field, Cond.selects RX7 yX7_field yX7_field, Cond.code yX7_field cX7_field 3 (some .int), Cond.methodLink RX5 25 yJ9_floorMod_7cf53, Cond.static yJ9_floorMod_7cf53, Cond.initialized RJ9, Cond.code yJ9_floorMod_7cf53 cJ9_floorMod_7cf53 3 (some .int), Cond.methodLink RX8 38 yX5_chosen, Cond.instanceMethod yX5_chosen, Cond.selects RX5 yX5_chosen yX5_chosen, Cond.code yX5_chosen cX5_chosen 6 (some .int), Cond.methodLink RX5 34 yX7_isOn, Cond.instanceMethod yX7_isOn, Cond.selects RX7 yX7_isOn yX7_isOn, Cond.code yX7_isOn cX7_isOn 3 (some .boolean), Cond.methodLink RX7 29 yX7_field, Cond.methodLink RX8 45 yX6_paint, Cond.instanceMethod yX6_paint, Cond.selects RX6 yX6_paint yX6_paint, Cond.initialized RX6, Cond.code yX6_paint cX6_paint 6 none, Cond.fieldLink RX6 9 "DotObjects$PaintedLine" "seen" "[I"]
def wsX9_turn_r5 : List Cond := [Cond.fieldLink RX6 15 "DotObjects$PaintedLine" "planes" "[I", Cond.fieldLink RX6 24 "DotObjects$PaintedLine" "filled" "I", Cond.methodLink RX6 18 yJ7_fill_53178, Cond.static yJ7_fill_53178, Cond.initialized RJ7, Cond.code yJ7_fill_53178 cJ7_fill_53178 4 none, Cond.methodLink RX6 30 yX7_cell, Cond.static yX9_isInSet, Cond.code yX9_isInSet cX9_isInSet 2 (some .boolean), Cond.methodLink RX6 38 yX7_field, Cond.methodLink RX6 42 yX7_dotsOf, Cond.instanceMethod yX7_dotsOf, Cond.selects RX7 yX7_dotsOf yX7_dotsOf, Cond.code yX7_dotsOf cX7_dotsOf 6 (some .int), Cond.methodLink RX7 55 yX7_bits, Cond.instanceMethod yX7_bits, Cond.selects RX7 yX7_bits yX7_bits, Cond.code yX7_bits cX7_bits 3 (some .int), Cond.methodLink RX7 58 yX7_mirrored, Cond.static yX7_mirrored, Cond.code yX7_mirrored cX7_mirrored 3 (some .int), Cond.methodLink RX6 45 yX6_paintBehind, Cond.instanceMethod yX6_paintBehind, Cond.selects RX6 yX6_paintBehind yX6_paintBehind]
def wsX9_turn_r6 : List Cond := [Cond.code yX6_paintBehind cX6_paintBehind 5 none, Cond.methodLink RX8 78 yX6_seenColumns, Cond.instanceMethod yX6_seenColumns, Cond.selects RX6 yX6_seenColumns yX6_seenColumns, Cond.code yX6_seenColumns cX6_seenColumns 2 (some .int), Cond.methodLink RX8 56 yJ6_bitCount_0f7a4, Cond.static yJ6_bitCount_0f7a4, Cond.initialized RJ6, Cond.code yJ6_bitCount_0f7a4 cJ6_bitCount_0f7a4 1 (some .int), Cond.constant RJ6 265 (1431655765), Cond.constant RJ6 266 (858993459), Cond.constant RJ6 267 (252645135)]
def wsX9_turn : List Cond := .code yX9_turn cX9_turn 4 (some .int) :: ((wsX9_turn_r1 ++ (wsX9_turn_r2 ++ (wsX9_turn_r3 ++ (wsX9_turn_r4 ++ (wsX9_turn_r5 ++ wsX9_turn_r6))))) ++ wsX90 ++ wsX70 ++ wsX30 ++ wsX80 ++ wsX50 ++ wsX60)
def wsX9_speed_r1 : List Cond := [Cond.constant RX9 104 (-1000000001), Cond.constant RX9 99 (-1000000002), Cond.fieldLink RX9 40 "DotObjects" "history" "LDotObjects$History;", Cond.fieldLink RX9 10 "DotObjects" "scene" "LDotObjects$Scene;", Cond.methodLink RX9 100 yX9_isThing, Cond.instanceMethod yX9_isThing, Cond.selects RX9 yX9_isThing yX9_isThing, Cond.initialized RX9, Cond.code yX9_isThing cX9_isThing 2 (some .boolean), Cond.methodLink RX9 71 yX7_cell, Cond.instanceMethod yX7_cell, Cond.selects RX7 yX7_cell yX7_cell, Cond.initialized RX7, Cond.code yX7_cell cX7_cell 2 (some .int), Cond.fieldLink RX7 11 "DotObjects$Scene" "cells" "[I", Cond.methodLink RX9 147 yX9_isWithin, Cond.static yX9_isWithin, Cond.code yX9_isWithin cX9_isWithin 3 (some .boolean), Cond.methodLink RX9 167 yX3_remember, Cond.instanceMethod yX3_remember, Cond.selects RX3 yX3_remember yX3_remember, Cond.initialized RX3, Cond.code yX3_remember cX3_remember 2 none, Cond.fieldLink RX3 13 "DotObjects$History" "earlier" "[[I"]
def wsX9_speed_r2 : List Cond := [Cond.fieldLink RX3 22 "DotObjects$History" "next" "I", Cond.fieldLink RX3 18 "DotObjects$History" "size" "I", Cond.methodLink RX3 29 Lib.Math.min.name, Cond.static Lib.Math.min.name, Cond.initialized "java/lang/Math", Cond.code Lib.Math.min.name Lib.Math.min.code 2 (some .int), Cond.methodLink RX3 25 yX7_saveTo, Cond.instanceMethod yX7_saveTo, Cond.selects RX7 yX7_saveTo yX7_saveTo, Cond.code yX7_saveTo cX7_saveTo 2 none, Cond.methodLink RX7 15 arraycopyName, Cond.native arraycopyName, Cond.static arraycopyName, Cond.initialized "java/lang/System", Cond.methodLink RX9 190 yX7_setField, Cond.instanceMethod yX7_setField, Cond.selects RX7 yX7_setField yX7_setField, Cond.code yX7_setField cX7_setField 4 none]
def wsX9_speed : List Cond := .code yX9_speed cX9_speed 4 (some .int) :: ((wsX9_speed_r1 ++ wsX9_speed_r2) ++ wsX90 ++ wsX70 ++ wsX30)
def wsX9_take_r1 : List Cond := [Cond.constant RX9 104 (-1000000001), Cond.fieldLink RX9 40 "DotObjects" "history" "LDotObjects$History;", Cond.fieldLink RX9 10 "DotObjects" "scene" "LDotObjects$Scene;", Cond.methodLink RX9 100 yX9_isThing, Cond.instanceMethod yX9_isThing, Cond.selects RX9 yX9_isThing yX9_isThing, Cond.initialized RX9, Cond.code yX9_isThing cX9_isThing 2 (some .boolean), Cond.methodLink RX9 71 yX7_cell, Cond.instanceMethod yX7_cell, Cond.selects RX7 yX7_cell yX7_cell, Cond.initialized RX7, Cond.code yX7_cell cX7_cell 2 (some .int), Cond.fieldLink RX7 11 "DotObjects$Scene" "cells" "[I", Cond.methodLink RX9 147 yX9_isWithin, Cond.static yX9_isWithin, Cond.code yX9_isWithin cX9_isWithin 3 (some .boolean), Cond.methodLink RX9 167 yX3_remember, Cond.instanceMethod yX3_remember, Cond.selects RX3 yX3_remember yX3_remember, Cond.initialized RX3, Cond.code yX3_remember cX3_remember 2 none, Cond.fieldLink RX3 13 "DotObjects$History" "earlier" "[[I", Cond.fieldLink RX3 22 "DotObjects$History" "next" "I"]
def wsX9_take_r2 : List Cond := [Cond.fieldLink RX3 18 "DotObjects$History" "size" "I", Cond.methodLink RX3 29 Lib.Math.min.name, Cond.static Lib.Math.min.name, Cond.initialized "java/lang/Math", Cond.code Lib.Math.min.name Lib.Math.min.code 2 (some .int), Cond.methodLink RX3 25 yX7_saveTo, Cond.instanceMethod yX7_saveTo, Cond.selects RX7 yX7_saveTo yX7_saveTo, Cond.code yX7_saveTo cX7_saveTo 2 none, Cond.methodLink RX7 15 arraycopyName, Cond.native arraycopyName, Cond.static arraycopyName, Cond.initialized "java/lang/System", Cond.methodLink RX9 196 yX7_removeThing, Cond.instanceMethod yX7_removeThing, Cond.selects RX7 yX7_removeThing yX7_removeThing, Cond.code yX7_removeThing cX7_removeThing 4 none]
def wsX9_take : List Cond := .code yX9_take cX9_take 2 (some .int) :: ((wsX9_take_r1 ++ wsX9_take_r2) ++ wsX90 ++ wsX70 ++ wsX30)
def wsX9_limit_r1 : List Cond := [Cond.constant RX9 99 (-1000000002), Cond.fieldLink RX9 40 "DotObjects" "history" "LDotObjects$History;", Cond.fieldLink RX9 10 "DotObjects" "scene" "LDotObjects$Scene;", Cond.methodLink RX9 147 yX9_isWithin, Cond.static yX9_isWithin, Cond.initialized RX9, Cond.code yX9_isWithin cX9_isWithin 3 (some .boolean), Cond.methodLink RX9 167 yX3_remember, Cond.instanceMethod yX3_remember, Cond.selects RX3 yX3_remember yX3_remember, Cond.initialized RX3, Cond.code yX3_remember cX3_remember 2 none, Cond.fieldLink RX3 13 "DotObjects$History" "earlier" "[[I", Cond.fieldLink RX3 22 "DotObjects$History" "next" "I", Cond.fieldLink RX3 18 "DotObjects$History" "size" "I", Cond.methodLink RX3 29 Lib.Math.min.name, Cond.static Lib.Math.min.name, Cond.initialized "java/lang/Math", Cond.code Lib.Math.min.name Lib.Math.min.code 2 (some .int), Cond.methodLink RX3 25 yX7_saveTo, Cond.instanceMethod yX7_saveTo, Cond.selects RX7 yX7_saveTo yX7_saveTo, Cond.initialized RX7, Cond.code yX7_saveTo cX7_saveTo 2 none]
def wsX9_limit_r2 : List Cond := [Cond.fieldLink RX7 11 "DotObjects$Scene" "cells" "[I", Cond.methodLink RX7 15 arraycopyName, Cond.native arraycopyName, Cond.static arraycopyName, Cond.initialized "java/lang/System", Cond.methodLink RX9 200 yX7_setCell, Cond.instanceMethod yX7_setCell, Cond.selects RX7 yX7_setCell yX7_setCell, Cond.code yX7_setCell cX7_setCell 3 none, Cond.methodLink RX9 75 yX9_missingNow, Cond.instanceMethod yX9_missingNow, Cond.selects RX9 yX9_missingNow yX9_missingNow, Cond.code yX9_missingNow cX9_missingNow 1 (some .int), Cond.fieldLink RX9 19 "DotObjects" "screen" "LDotObjects$Screen;", Cond.methodLink RX9 71 yX7_cell, Cond.instanceMethod yX7_cell, Cond.selects RX7 yX7_cell yX7_cell, Cond.code yX7_cell cX7_cell 2 (some .int), Cond.methodLink RX9 248 yX8_missing, Cond.instanceMethod yX8_missing, Cond.selects RX8 yX8_missing yX8_missing, Cond.initialized RX8, Cond.code yX8_missing cX8_missing 7 (some .int), Cond.fieldLink RX8 12 "DotObjects$Screen" "order" "LDotObjects$Order;"]
def wsX9_limit_r3 : List Cond := [Cond.fieldLink RX8 21 "DotObjects$Screen" "now" "LDotObjects$PaintedLine;", Cond.fieldLink RX8 25 "DotObjects$Screen" "whole" "LDotObjects$PaintedLine;", Cond.methodLink RX8 34 yX5_arrange, Cond.instanceMethod yX5_arrange, Cond.selects RX5 yX5_arrange yX5_arrange, Cond.initialized RX5, Cond.code yX5_arrange cX5_arrange 7 none, Cond.fieldLink RX5 9 "DotObjects$Order" "order" "[I", Cond.methodLink RX5 17 yX7_cell, Cond.methodLink RX5 21 yX5_arrangeByLevel, Cond.instanceMethod yX5_arrangeByLevel, Cond.selects RX5 yX5_arrangeByLevel yX5_arrangeByLevel, Cond.code yX5_arrangeByLevel cX5_arrangeByLevel 6 none, Cond.methodLink RX5 31 yX7_field, Cond.instanceMethod yX7_field, Cond.selects RX7 yX7_field yX7_field, Cond.code yX7_field cX7_field 3 (some .int), Cond.methodLink RX5 25 yJ9_floorMod_7cf53, Cond.static yJ9_floorMod_7cf53, Cond.initialized RJ9, Cond.code yJ9_floorMod_7cf53 cJ9_floorMod_7cf53 3 (some .int), Cond.methodLink RX8 49 yX7_setOn, Cond.instanceMethod yX7_setOn, Cond.selects RX7 yX7_setOn yX7_setOn]
def wsX9_limit_r4 : List Cond := [Cond.code yX7_setOn cX7_setOn 4 (some .int), Cond.methodLink RX7 45 yX7_isOn, Cond.instanceMethod yX7_isOn, Cond.selects RX7 yX7_isOn yX7_isOn, Cond.code yX7_isOn cX7_isOn 3 (some .boolean), Cond.methodLink RX7 29 yX7_field, Cond.methodLink RX8 38 yX5_chosen, Cond.instanceMethod yX5_chosen, Cond.selects RX5 yX5_chosen yX5_chosen, Cond.code yX5_chosen cX5_chosen 6 (some .int), Cond.methodLink RX5 34 yX7_isOn, Cond.methodLink RX8 45 yX6_paint, Cond.instanceMethod yX6_paint, Cond.selects RX6 yX6_paint yX6_paint, Cond.initialized RX6, Cond.code yX6_paint cX6_paint 6 none, Cond.fieldLink RX6 9 "DotObjects$PaintedLine" "seen" "[I", Cond.fieldLink RX6 15 "DotObjects$PaintedLine" "planes" "[I", Cond.fieldLink RX6 24 "DotObjects$PaintedLine" "filled" "I", Cond.methodLink RX6 18 yJ7_fill_53178, Cond.static yJ7_fill_53178, Cond.initialized RJ7, Cond.code yJ7_fill_53178 cJ7_fill_53178 4 none, Cond.methodLink RX6 30 yX7_cell]
def wsX9_limit_r5 : List Cond := [Cond.static yX9_isInSet, Cond.code yX9_isInSet cX9_isInSet 2 (some .boolean), Cond.methodLink RX6 38 yX7_field, Cond.methodLink RX6 42 yX7_dotsOf, Cond.instanceMethod yX7_dotsOf, Cond.selects RX7 yX7_dotsOf yX7_dotsOf, Cond.code yX7_dotsOf cX7_dotsOf 6 (some .int), Cond.methodLink RX7 55 yX7_bits, Cond.instanceMethod yX7_bits, Cond.selects RX7 yX7_bits yX7_bits, Cond.code yX7_bits cX7_bits 3 (some .int), Cond.methodLink RX7 58 yX7_mirrored, Cond.static yX7_mirrored, Cond.code yX7_mirrored cX7_mirrored 3 (some .int), Cond.methodLink RX6 45 yX6_paintBehind, Cond.instanceMethod yX6_paintBehind, Cond.selects RX6 yX6_paintBehind yX6_paintBehind, Cond.code yX6_paintBehind cX6_paintBehind 5 none, Cond.methodLink RX8 52 yX6_otherColumns, Cond.instanceMethod yX6_otherColumns, Cond.selects RX6 yX6_otherColumns yX6_otherColumns, Cond.code yX6_otherColumns cX6_otherColumns 4 (some .int), Cond.methodLink RX8 56 yJ6_bitCount_0f7a4, Cond.static yJ6_bitCount_0f7a4]
def wsX9_limit_r6 : List Cond := [Cond.initialized RJ6, Cond.code yJ6_bitCount_0f7a4 cJ6_bitCount_0f7a4 1 (some .int), Cond.constant RJ6 265 (1431655765), Cond.constant RJ6 266 (858993459), Cond.constant RJ6 267 (252645135)]
def wsX9_limit : List Cond := .code yX9_limit cX9_limit 2 (some .int) :: ((wsX9_limit_r1 ++ (wsX9_limit_r2 ++ (wsX9_limit_r3 ++ (wsX9_limit_r4 ++ (wsX9_limit_r5 ++ wsX9_limit_r6))))) ++ wsX90 ++ wsX30 ++ wsX70 ++ wsX80 ++ wsX50 ++ wsX60)
def wsX9_rule_r1 : List Cond := [Cond.constant RX9 99 (-1000000002), Cond.fieldLink RX9 40 "DotObjects" "history" "LDotObjects$History;", Cond.fieldLink RX9 10 "DotObjects" "scene" "LDotObjects$Scene;", Cond.methodLink RX9 147 yX9_isWithin, Cond.static yX9_isWithin, Cond.initialized RX9, Cond.code yX9_isWithin cX9_isWithin 3 (some .boolean), Cond.methodLink RX9 167 yX3_remember, Cond.instanceMethod yX3_remember, Cond.selects RX3 yX3_remember yX3_remember, Cond.initialized RX3, Cond.code yX3_remember cX3_remember 2 none, Cond.fieldLink RX3 13 "DotObjects$History" "earlier" "[[I", Cond.fieldLink RX3 22 "DotObjects$History" "next" "I", Cond.fieldLink RX3 18 "DotObjects$History" "size" "I", Cond.methodLink RX3 29 Lib.Math.min.name, Cond.static Lib.Math.min.name, Cond.initialized "java/lang/Math", Cond.code Lib.Math.min.name Lib.Math.min.code 2 (some .int), Cond.methodLink RX3 25 yX7_saveTo, Cond.instanceMethod yX7_saveTo, Cond.selects RX7 yX7_saveTo yX7_saveTo, Cond.initialized RX7, Cond.code yX7_saveTo cX7_saveTo 2 none]
def wsX9_rule_r2 : List Cond := [Cond.fieldLink RX7 11 "DotObjects$Scene" "cells" "[I", Cond.methodLink RX7 15 arraycopyName, Cond.native arraycopyName, Cond.static arraycopyName, Cond.initialized "java/lang/System", Cond.methodLink RX9 200 yX7_setCell, Cond.instanceMethod yX7_setCell, Cond.selects RX7 yX7_setCell yX7_setCell, Cond.code yX7_setCell cX7_setCell 3 none, Cond.methodLink RX9 75 yX9_missingNow, Cond.instanceMethod yX9_missingNow, Cond.selects RX9 yX9_missingNow yX9_missingNow, Cond.code yX9_missingNow cX9_missingNow 1 (some .int), Cond.fieldLink RX9 19 "DotObjects" "screen" "LDotObjects$Screen;", Cond.methodLink RX9 71 yX7_cell, Cond.instanceMethod yX7_cell, Cond.selects RX7 yX7_cell yX7_cell, Cond.code yX7_cell cX7_cell 2 (some .int), Cond.methodLink RX9 248 yX8_missing, Cond.instanceMethod yX8_missing, Cond.selects RX8 yX8_missing yX8_missing, Cond.initialized RX8, Cond.code yX8_missing cX8_missing 7 (some .int), Cond.fieldLink RX8 12 "DotObjects$Screen" "order" "LDotObjects$Order;"]
def wsX9_rule_r3 : List Cond := [Cond.fieldLink RX8 21 "DotObjects$Screen" "now" "LDotObjects$PaintedLine;", Cond.fieldLink RX8 25 "DotObjects$Screen" "whole" "LDotObjects$PaintedLine;", Cond.methodLink RX8 34 yX5_arrange, Cond.instanceMethod yX5_arrange, Cond.selects RX5 yX5_arrange yX5_arrange, Cond.initialized RX5, Cond.code yX5_arrange cX5_arrange 7 none, Cond.fieldLink RX5 9 "DotObjects$Order" "order" "[I", Cond.methodLink RX5 17 yX7_cell, Cond.methodLink RX5 21 yX5_arrangeByLevel, Cond.instanceMethod yX5_arrangeByLevel, Cond.selects RX5 yX5_arrangeByLevel yX5_arrangeByLevel, Cond.code yX5_arrangeByLevel cX5_arrangeByLevel 6 none, Cond.methodLink RX5 31 yX7_field, Cond.instanceMethod yX7_field, Cond.selects RX7 yX7_field yX7_field, Cond.code yX7_field cX7_field 3 (some .int), Cond.methodLink RX5 25 yJ9_floorMod_7cf53, Cond.static yJ9_floorMod_7cf53, Cond.initialized RJ9, Cond.code yJ9_floorMod_7cf53 cJ9_floorMod_7cf53 3 (some .int), Cond.methodLink RX8 49 yX7_setOn, Cond.instanceMethod yX7_setOn, Cond.selects RX7 yX7_setOn yX7_setOn]
def wsX9_rule_r4 : List Cond := [Cond.code yX7_setOn cX7_setOn 4 (some .int), Cond.methodLink RX7 45 yX7_isOn, Cond.instanceMethod yX7_isOn, Cond.selects RX7 yX7_isOn yX7_isOn, Cond.code yX7_isOn cX7_isOn 3 (some .boolean), Cond.methodLink RX7 29 yX7_field, Cond.methodLink RX8 38 yX5_chosen, Cond.instanceMethod yX5_chosen, Cond.selects RX5 yX5_chosen yX5_chosen, Cond.code yX5_chosen cX5_chosen 6 (some .int), Cond.methodLink RX5 34 yX7_isOn, Cond.methodLink RX8 45 yX6_paint, Cond.instanceMethod yX6_paint, Cond.selects RX6 yX6_paint yX6_paint, Cond.initialized RX6, Cond.code yX6_paint cX6_paint 6 none, Cond.fieldLink RX6 9 "DotObjects$PaintedLine" "seen" "[I", Cond.fieldLink RX6 15 "DotObjects$PaintedLine" "planes" "[I", Cond.fieldLink RX6 24 "DotObjects$PaintedLine" "filled" "I", Cond.methodLink RX6 18 yJ7_fill_53178, Cond.static yJ7_fill_53178, Cond.initialized RJ7, Cond.code yJ7_fill_53178 cJ7_fill_53178 4 none, Cond.methodLink RX6 30 yX7_cell]
def wsX9_rule_r5 : List Cond := [Cond.static yX9_isInSet, Cond.code yX9_isInSet cX9_isInSet 2 (some .boolean), Cond.methodLink RX6 38 yX7_field, Cond.methodLink RX6 42 yX7_dotsOf, Cond.instanceMethod yX7_dotsOf, Cond.selects RX7 yX7_dotsOf yX7_dotsOf, Cond.code yX7_dotsOf cX7_dotsOf 6 (some .int), Cond.methodLink RX7 55 yX7_bits, Cond.instanceMethod yX7_bits, Cond.selects RX7 yX7_bits yX7_bits, Cond.code yX7_bits cX7_bits 3 (some .int), Cond.methodLink RX7 58 yX7_mirrored, Cond.static yX7_mirrored, Cond.code yX7_mirrored cX7_mirrored 3 (some .int), Cond.methodLink RX6 45 yX6_paintBehind, Cond.instanceMethod yX6_paintBehind, Cond.selects RX6 yX6_paintBehind yX6_paintBehind, Cond.code yX6_paintBehind cX6_paintBehind 5 none, Cond.methodLink RX8 52 yX6_otherColumns, Cond.instanceMethod yX6_otherColumns, Cond.selects RX6 yX6_otherColumns yX6_otherColumns, Cond.code yX6_otherColumns cX6_otherColumns 4 (some .int), Cond.methodLink RX8 56 yJ6_bitCount_0f7a4, Cond.static yJ6_bitCount_0f7a4]
def wsX9_rule_r6 : List Cond := [Cond.initialized RJ6, Cond.code yJ6_bitCount_0f7a4 cJ6_bitCount_0f7a4 1 (some .int), Cond.constant RJ6 265 (1431655765), Cond.constant RJ6 266 (858993459), Cond.constant RJ6 267 (252645135)]
def wsX9_rule : List Cond := .code yX9_rule cX9_rule 2 (some .int) :: ((wsX9_rule_r1 ++ (wsX9_rule_r2 ++ (wsX9_rule_r3 ++ (wsX9_rule_r4 ++ (wsX9_rule_r5 ++ wsX9_rule_r6))))) ++ wsX90 ++ wsX30 ++ wsX70 ++ wsX80 ++ wsX50 ++ wsX60)
def wsX9_frame_r1 : List Cond := [Cond.constant RX9 99 (-1000000002), Cond.fieldLink RX9 40 "DotObjects" "history" "LDotObjects$History;", Cond.fieldLink RX9 10 "DotObjects" "scene" "LDotObjects$Scene;", Cond.methodLink RX9 147 yX9_isWithin, Cond.static yX9_isWithin, Cond.initialized RX9, Cond.code yX9_isWithin cX9_isWithin 3 (some .boolean), Cond.methodLink RX9 167 yX3_remember, Cond.instanceMethod yX3_remember, Cond.selects RX3 yX3_remember yX3_remember, Cond.initialized RX3, Cond.code yX3_remember cX3_remember 2 none, Cond.fieldLink RX3 13 "DotObjects$History" "earlier" "[[I", Cond.fieldLink RX3 22 "DotObjects$History" "next" "I", Cond.fieldLink RX3 18 "DotObjects$History" "size" "I", Cond.methodLink RX3 29 Lib.Math.min.name, Cond.static Lib.Math.min.name, Cond.initialized "java/lang/Math", Cond.code Lib.Math.min.name Lib.Math.min.code 2 (some .int), Cond.methodLink RX3 25 yX7_saveTo, Cond.instanceMethod yX7_saveTo, Cond.selects RX7 yX7_saveTo yX7_saveTo, Cond.initialized RX7, Cond.code yX7_saveTo cX7_saveTo 2 none]
def wsX9_frame_r2 : List Cond := [Cond.fieldLink RX7 11 "DotObjects$Scene" "cells" "[I", Cond.methodLink RX7 15 arraycopyName, Cond.native arraycopyName, Cond.static arraycopyName, Cond.initialized "java/lang/System", Cond.methodLink RX9 204 yX7_goNextFrame, Cond.instanceMethod yX7_goNextFrame, Cond.selects RX7 yX7_goNextFrame yX7_goNextFrame, Cond.code yX7_goNextFrame cX7_goNextFrame 2 none, Cond.methodLink RX7 29 yX7_field, Cond.instanceMethod yX7_field, Cond.selects RX7 yX7_field yX7_field, Cond.code yX7_field cX7_field 3 (some .int), Cond.methodLink RX7 33 yX7_wrapped, Cond.static yX7_wrapped, Cond.code yX7_wrapped cX7_wrapped 2 (some .int), Cond.methodLink RX7 36 yJ9_floorMod_7cf53, Cond.static yJ9_floorMod_7cf53, Cond.initialized RJ9, Cond.code yJ9_floorMod_7cf53 cJ9_floorMod_7cf53 3 (some .int), Cond.methodLink RX7 25 yX7_setField, Cond.instanceMethod yX7_setField, Cond.selects RX7 yX7_setField yX7_setField, Cond.code yX7_setField cX7_setField 4 none]
def wsX9_frame_r3 : List Cond := [Cond.methodLink RX9 71 yX7_cell, Cond.instanceMethod yX7_cell, Cond.selects RX7 yX7_cell yX7_cell, Cond.code yX7_cell cX7_cell 2 (some .int)]
def wsX9_frame : List Cond := .code yX9_frame cX9_frame 3 (some .int) :: ((wsX9_frame_r1 ++ (wsX9_frame_r2 ++ wsX9_frame_r3)) ++ wsX90 ++ wsX30 ++ wsX70)
def wsX9_drift_r1 : List Cond := [Cond.constant RX9 99 (-1000000002), Cond.fieldLink RX9 10 "DotObjects" "scene" "LDotObjects$Scene;", Cond.fieldLink RX9 40 "DotObjects" "history" "LDotObjects$History;", Cond.fieldLink RX9 54 "DotObjects" "draws" "LDotObjects$Draws;", Cond.methodLink RX9 147 yX9_isWithin, Cond.static yX9_isWithin, Cond.initialized RX9, Cond.code yX9_isWithin cX9_isWithin 3 (some .boolean), Cond.methodLink RX9 181 yX7_isFull, Cond.instanceMethod yX7_isFull, Cond.selects RX7 yX7_isFull yX7_isFull, Cond.initialized RX7, Cond.code yX7_isFull cX7_isFull 1 (some .boolean), Cond.fieldLink RX7 11 "DotObjects$Scene" "cells" "[I", Cond.methodLink RX9 167 yX3_remember, Cond.instanceMethod yX3_remember, Cond.selects RX3 yX3_remember yX3_remember, Cond.initialized RX3, Cond.code yX3_remember cX3_remember 2 none, Cond.fieldLink RX3 13 "DotObjects$History" "earlier" "[[I", Cond.fieldLink RX3 22 "DotObjects$History" "next" "I", Cond.fieldLink RX3 18 "DotObjects$History" "size" "I", Cond.methodLink RX3 29 Lib.Math.min.name, Cond.static Lib.Math.min.name]
def wsX9_drift_r2 : List Cond := [Cond.initialized "java/lang/Math", Cond.code Lib.Math.min.name Lib.Math.min.code 2 (some .int), Cond.methodLink RX3 25 yX7_saveTo, Cond.instanceMethod yX7_saveTo, Cond.selects RX7 yX7_saveTo yX7_saveTo, Cond.code yX7_saveTo cX7_saveTo 2 none, Cond.methodLink RX7 15 arraycopyName, Cond.native arraycopyName, Cond.static arraycopyName, Cond.initialized "java/lang/System", Cond.methodLink RX9 207 yX1_addThing, Cond.instanceMethod yX1_addThing, Cond.selects RX1 yX1_addThing yX1_addThing, Cond.initialized RX1, Cond.code yX1_addThing cX1_addThing 8 none, Cond.methodLink RX1 15 yX1_below, Cond.instanceMethod yX1_below, Cond.selects RX1 yX1_below yX1_below, Cond.code yX1_below cX1_below 2 (some .int), Cond.fieldLink RX1 9 "DotObjects$Draws" "value" "I", Cond.constantLong RX1 25 (1103515245), Cond.constantLong RX1 27 (12345), Cond.constantLong RX1 29 (2147483648), Cond.constant RX1 31 (65536)]
def wsX9_drift_r3 : List Cond := [Cond.methodLink RX1 19 yX7_add, Cond.instanceMethod yX7_add, Cond.selects RX7 yX7_add yX7_add, Cond.code yX7_add cX7_add 8 (some .int), Cond.methodLink RX7 25 yX7_setField, Cond.instanceMethod yX7_setField, Cond.selects RX7 yX7_setField yX7_setField, Cond.code yX7_setField cX7_setField 4 none, Cond.methodLink RX9 71 yX7_cell, Cond.instanceMethod yX7_cell, Cond.selects RX7 yX7_cell yX7_cell, Cond.code yX7_cell cX7_cell 2 (some .int)]
def wsX9_drift : List Cond := .code yX9_drift cX9_drift 3 (some .int) :: ((wsX9_drift_r1 ++ (wsX9_drift_r2 ++ wsX9_drift_r3)) ++ wsX90 ++ wsX70 ++ wsX30 ++ wsX10)
def wsX9_undo_r1 : List Cond := [Cond.constant RX9 99 (-1000000002), Cond.fieldLink RX9 40 "DotObjects" "history" "LDotObjects$History;", Cond.constant RX9 210 (-1000000003), Cond.fieldLink RX9 10 "DotObjects" "scene" "LDotObjects$Scene;", Cond.methodLink RX9 147 yX9_isWithin, Cond.static yX9_isWithin, Cond.initialized RX9, Cond.code yX9_isWithin cX9_isWithin 3 (some .boolean), Cond.methodLink RX9 98 yX3_size, Cond.instanceMethod yX3_size, Cond.selects RX3 yX3_size yX3_size, Cond.initialized RX3, Cond.code yX3_size cX3_size 1 (some .int), Cond.fieldLink RX3 18 "DotObjects$History" "size" "I", Cond.methodLink RX9 211 yX3_bringBack, Cond.instanceMethod yX3_bringBack, Cond.selects RX3 yX3_bringBack yX3_bringBack, Cond.code yX3_bringBack cX3_bringBack 3 none, Cond.fieldLink RX3 22 "DotObjects$History" "next" "I", Cond.fieldLink RX3 13 "DotObjects$History" "earlier" "[[I", Cond.methodLink RX3 35 yJ9_floorMod_7cf53, Cond.static yJ9_floorMod_7cf53, Cond.initialized RJ9, Cond.code yJ9_floorMod_7cf53 cJ9_floorMod_7cf53 3 (some .int)]
def wsX9_undo_r2 : List Cond := [Cond.methodLink RX3 38 yX7_loadFrom, Cond.instanceMethod yX7_loadFrom, Cond.selects RX7 yX7_loadFrom yX7_loadFrom, Cond.initialized RX7, Cond.code yX7_loadFrom cX7_loadFrom 2 none, Cond.fieldLink RX7 11 "DotObjects$Scene" "cells" "[I", Cond.methodLink RX7 15 arraycopyName, Cond.native arraycopyName, Cond.static arraycopyName, Cond.initialized "java/lang/System", Cond.methodLink RX9 71 yX7_cell, Cond.instanceMethod yX7_cell, Cond.selects RX7 yX7_cell yX7_cell, Cond.code yX7_cell cX7_cell 2 (some .int)]
def wsX9_undo : List Cond := .code yX9_undo cX9_undo 2 (some .int) :: ((wsX9_undo_r1 ++ wsX9_undo_r2) ++ wsX90 ++ wsX30 ++ wsX70)
def wsX9_leftOut_r1 : List Cond := [Cond.constant RX9 104 (-1000000001), Cond.constant RX9 99 (-1000000002), Cond.fieldLink RX9 33 "DotObjects" "forecast" "LDotObjects$Forecast;", Cond.fieldLink RX9 10 "DotObjects" "scene" "LDotObjects$Scene;", Cond.methodLink RX9 100 yX9_isThing, Cond.instanceMethod yX9_isThing, Cond.selects RX9 yX9_isThing yX9_isThing, Cond.initialized RX9, Cond.code yX9_isThing cX9_isThing 2 (some .boolean), Cond.methodLink RX9 71 yX7_cell, Cond.instanceMethod yX7_cell, Cond.selects RX7 yX7_cell yX7_cell, Cond.initialized RX7, Cond.code yX7_cell cX7_cell 2 (some .int), Cond.fieldLink RX7 11 "DotObjects$Scene" "cells" "[I", Cond.methodLink RX9 147 yX9_isWithin, Cond.static yX9_isWithin, Cond.code yX9_isWithin cX9_isWithin 3 (some .boolean), Cond.methodLink RX9 215 yX2_run, Cond.instanceMethod yX2_run, Cond.selects RX2 yX2_run yX2_run, Cond.initialized RX2, Cond.code yX2_run cX2_run 4 none, Cond.fieldLink RX2 12 "DotObjects$Forecast" "ahead" "LDotObjects$Scene;"]
def wsX9_leftOut_r2 : List Cond := [Cond.fieldLink RX2 25 "DotObjects$Forecast" "drops" "[I", Cond.methodLink RX2 29 yX7_copyFrom, Cond.instanceMethod yX7_copyFrom, Cond.selects RX7 yX7_copyFrom yX7_copyFrom, Cond.code yX7_copyFrom cX7_copyFrom 2 none, Cond.methodLink RX7 21 yX7_loadFrom, Cond.instanceMethod yX7_loadFrom, Cond.selects RX7 yX7_loadFrom yX7_loadFrom, Cond.code yX7_loadFrom cX7_loadFrom 2 none, Cond.methodLink RX7 15 arraycopyName, Cond.native arraycopyName, Cond.static arraycopyName, Cond.initialized "java/lang/System", Cond.methodLink RX2 33 yJ7_fill_53178, Cond.static yJ7_fill_53178, Cond.initialized RJ7, Cond.code yJ7_fill_53178 cJ7_fill_53178 4 none, Cond.methodLink RX2 39 yX2_countFrame, Cond.instanceMethod yX2_countFrame, Cond.selects RX2 yX2_countFrame yX2_countFrame, Cond.code yX2_countFrame cX2_countFrame 4 none, Cond.fieldLink RX2 21 "DotObjects$Forecast" "order" "LDotObjects$Order;", Cond.methodLink RX2 45 yX7_cell, Cond.methodLink RX2 49 yX5_arrange]
def wsX9_leftOut_r3 : List Cond := [Cond.instanceMethod yX5_arrange, Cond.selects RX5 yX5_arrange yX5_arrange, Cond.initialized RX5, Cond.code yX5_arrange cX5_arrange 7 none, Cond.fieldLink RX5 9 "DotObjects$Order" "order" "[I", Cond.methodLink RX5 17 yX7_cell, Cond.methodLink RX5 21 yX5_arrangeByLevel, Cond.instanceMethod yX5_arrangeByLevel, Cond.selects RX5 yX5_arrangeByLevel yX5_arrangeByLevel, Cond.code yX5_arrangeByLevel cX5_arrangeByLevel 6 none, Cond.methodLink RX5 31 yX7_field, Cond.instanceMethod yX7_field, Cond.selects RX7 yX7_field yX7_field, Cond.code yX7_field cX7_field 3 (some .int), Cond.methodLink RX5 25 yJ9_floorMod_7cf53, Cond.static yJ9_floorMod_7cf53, Cond.initialized RJ9, Cond.code yJ9_floorMod_7cf53 cJ9_floorMod_7cf53 3 (some .int), Cond.methodLink RX2 53 yX7_setOn, Cond.instanceMethod yX7_setOn, Cond.selects RX7 yX7_setOn yX7_setOn, Cond.code yX7_setOn cX7_setOn 4 (some .int), Cond.methodLink RX7 45 yX7_isOn, Cond.instanceMethod yX7_isOn]
def wsX9_leftOut_r4 : List Cond := [Cond.selects RX7 yX7_isOn yX7_isOn, Cond.code yX7_isOn cX7_isOn 3 (some .boolean), Cond.methodLink RX7 29 yX7_field, Cond.methodLink RX2 56 yX5_chosen, Cond.instanceMethod yX5_chosen, Cond.selects RX5 yX5_chosen yX5_chosen, Cond.code yX5_chosen cX5_chosen 6 (some .int), Cond.methodLink RX5 34 yX7_isOn, Cond.methodLink RX2 42 yX7_goNextFrame, Cond.instanceMethod yX7_goNextFrame, Cond.selects RX7 yX7_goNextFrame yX7_goNextFrame, Cond.code yX7_goNextFrame cX7_goNextFrame 2 none, Cond.methodLink RX7 33 yX7_wrapped, Cond.static yX7_wrapped, Cond.code yX7_wrapped cX7_wrapped 2 (some .int), Cond.methodLink RX7 36 yJ9_floorMod_7cf53, Cond.methodLink RX7 25 yX7_setField, Cond.instanceMethod yX7_setField, Cond.selects RX7 yX7_setField yX7_setField, Cond.code yX7_setField cX7_setField 4 none, Cond.methodLink RX9 218 yX2_dropsOf, Cond.instanceMethod yX2_dropsOf, Cond.selects RX2 yX2_dropsOf yX2_dropsOf, Cond.code yX2_dropsOf cX2_dropsOf 2 (some .int)]
def wsX9_leftOut : List Cond := .code yX9_leftOut cX9_leftOut 3 (some .int) :: ((wsX9_leftOut_r1 ++ (wsX9_leftOut_r2 ++ (wsX9_leftOut_r3 ++ wsX9_leftOut_r4))) ++ wsX90 ++ wsX70 ++ wsX20 ++ wsX50)
def wsX9_worst_r1 : List Cond := [Cond.constant RX9 99 (-1000000002), Cond.fieldLink RX9 33 "DotObjects" "forecast" "LDotObjects$Forecast;", Cond.fieldLink RX9 10 "DotObjects" "scene" "LDotObjects$Scene;", Cond.methodLink RX9 147 yX9_isWithin, Cond.static yX9_isWithin, Cond.initialized RX9, Cond.code yX9_isWithin cX9_isWithin 3 (some .boolean), Cond.methodLink RX9 215 yX2_run, Cond.instanceMethod yX2_run, Cond.selects RX2 yX2_run yX2_run, Cond.initialized RX2, Cond.code yX2_run cX2_run 4 none, Cond.fieldLink RX2 12 "DotObjects$Forecast" "ahead" "LDotObjects$Scene;", Cond.fieldLink RX2 25 "DotObjects$Forecast" "drops" "[I", Cond.methodLink RX2 29 yX7_copyFrom, Cond.instanceMethod yX7_copyFrom, Cond.selects RX7 yX7_copyFrom yX7_copyFrom, Cond.initialized RX7, Cond.code yX7_copyFrom cX7_copyFrom 2 none, Cond.fieldLink RX7 11 "DotObjects$Scene" "cells" "[I", Cond.methodLink RX7 21 yX7_loadFrom, Cond.instanceMethod yX7_loadFrom, Cond.selects RX7 yX7_loadFrom yX7_loadFrom, Cond.code yX7_loadFrom cX7_loadFrom 2 none]
def wsX9_worst_r2 : List Cond := [Cond.methodLink RX7 15 arraycopyName, Cond.native arraycopyName, Cond.static arraycopyName, Cond.initialized "java/lang/System", Cond.methodLink RX2 33 yJ7_fill_53178, Cond.static yJ7_fill_53178, Cond.initialized RJ7, Cond.code yJ7_fill_53178 cJ7_fill_53178 4 none, Cond.methodLink RX2 39 yX2_countFrame, Cond.instanceMethod yX2_countFrame, Cond.selects RX2 yX2_countFrame yX2_countFrame, Cond.code yX2_countFrame cX2_countFrame 4 none, Cond.fieldLink RX2 21 "DotObjects$Forecast" "order" "LDotObjects$Order;", Cond.methodLink RX2 45 yX7_cell, Cond.instanceMethod yX7_cell, Cond.selects RX7 yX7_cell yX7_cell, Cond.code yX7_cell cX7_cell 2 (some .int), Cond.methodLink RX2 49 yX5_arrange, Cond.instanceMethod yX5_arrange, Cond.selects RX5 yX5_arrange yX5_arrange, Cond.initialized RX5, Cond.code yX5_arrange cX5_arrange 7 none, Cond.fieldLink RX5 9 "DotObjects$Order" "order" "[I", Cond.methodLink RX5 17 yX7_cell]
def wsX9_worst_r3 : List Cond := [Cond.methodLink RX5 21 yX5_arrangeByLevel, Cond.instanceMethod yX5_arrangeByLevel, Cond.selects RX5 yX5_arrangeByLevel yX5_arrangeByLevel, Cond.code yX5_arrangeByLevel cX5_arrangeByLevel 6 none, Cond.methodLink RX5 31 yX7_field, Cond.instanceMethod yX7_field, Cond.selects RX7 yX7_field yX7_field, Cond.code yX7_field cX7_field 3 (some .int), Cond.methodLink RX5 25 yJ9_floorMod_7cf53, Cond.static yJ9_floorMod_7cf53, Cond.initialized RJ9, Cond.code yJ9_floorMod_7cf53 cJ9_floorMod_7cf53 3 (some .int), Cond.methodLink RX2 53 yX7_setOn, Cond.instanceMethod yX7_setOn, Cond.selects RX7 yX7_setOn yX7_setOn, Cond.code yX7_setOn cX7_setOn 4 (some .int), Cond.methodLink RX7 45 yX7_isOn, Cond.instanceMethod yX7_isOn, Cond.selects RX7 yX7_isOn yX7_isOn, Cond.code yX7_isOn cX7_isOn 3 (some .boolean), Cond.methodLink RX7 29 yX7_field, Cond.methodLink RX2 56 yX5_chosen, Cond.instanceMethod yX5_chosen, Cond.selects RX5 yX5_chosen yX5_chosen]
def wsX9_worst_r4 : List Cond := [Cond.code yX5_chosen cX5_chosen 6 (some .int), Cond.methodLink RX5 34 yX7_isOn, Cond.methodLink RX2 42 yX7_goNextFrame, Cond.instanceMethod yX7_goNextFrame, Cond.selects RX7 yX7_goNextFrame yX7_goNextFrame, Cond.code yX7_goNextFrame cX7_goNextFrame 2 none, Cond.methodLink RX7 33 yX7_wrapped, Cond.static yX7_wrapped, Cond.code yX7_wrapped cX7_wrapped 2 (some .int), Cond.methodLink RX7 36 yJ9_floorMod_7cf53, Cond.methodLink RX7 25 yX7_setField, Cond.instanceMethod yX7_setField, Cond.selects RX7 yX7_setField yX7_setField, Cond.code yX7_setField cX7_setField 4 none, Cond.methodLink RX9 221 yX2_mostDropped, Cond.instanceMethod yX2_mostDropped, Cond.selects RX2 yX2_mostDropped yX2_mostDropped, Cond.code yX2_mostDropped cX2_mostDropped 4 (some .int)]
def wsX9_worst : List Cond := .code yX9_worst cX9_worst 2 (some .int) :: ((wsX9_worst_r1 ++ (wsX9_worst_r2 ++ (wsX9_worst_r3 ++ wsX9_worst_r4))) ++ wsX90 ++ wsX20 ++ wsX70 ++ wsX50)
def wsX9_write : List Cond := .code yX9_write cX9_write 4 (some .int) :: ([.constant RX9 99 (-1000000002), .fieldLink RX9 47 "DotObjects" "book" "LDotObjects$Book;", .constant RX9 185 (-1000000004), .methodLink RX9 128 yX9_isDot, .static yX9_isDot, .initialized RX9, .code yX9_isDot cX9_isDot 2 (some .boolean), .methodLink RX9 147 yX9_isWithin, .static yX9_isWithin, .code yX9_isWithin cX9_isWithin 3 (some .boolean), .methodLink RX9 224 yX0_isFull, .instanceMethod yX0_isFull, .selects RX0 yX0_isFull yX0_isFull, .initialized RX0, .code yX0_isFull cX0_isFull 1 (some .boolean), .fieldLink RX0 21 "DotObjects$Book" "size" "I", .methodLink RX9 225 yX0_add, .instanceMethod yX0_add, .selects RX0 yX0_add yX0_add, .code yX0_add cX0_add 4 (some .int), .fieldLink RX0 9 "DotObjects$Book" "lines" "[I", .fieldLink RX0 15 "DotObjects$Book" "columns" "[I", .fieldLink RX0 18 "DotObjects$Book" "colours" "[I"] ++ wsX90 ++ wsX00)
def wsX9_tear : List Cond := .code yX9_tear cX9_tear 2 (some .int) :: ([.fieldLink RX9 47 "DotObjects" "book" "LDotObjects$Book;", .methodLink RX9 92 yX0_size, .instanceMethod yX0_size, .selects RX0 yX0_size yX0_size, .initialized RX0, .code yX0_size cX0_size 1 (some .int), .fieldLink RX0 21 "DotObjects$Book" "size" "I", .methodLink RX9 228 yX0_clear, .instanceMethod yX0_clear, .selects RX0 yX0_clear yX0_clear, .code yX0_clear cX0_clear 1 none] ++ wsX90 ++ wsX00)
def wsX9_seed : List Cond := .code yX9_seed cX9_seed 3 (some .int) :: ([.constant RX9 99 (-1000000002), .fieldLink RX9 54 "DotObjects" "draws" "LDotObjects$Draws;", .methodLink RX9 231 yX1_value, .instanceMethod yX1_value, .selects RX1 yX1_value yX1_value, .initialized RX1, .code yX1_value cX1_value 1 (some .int), .fieldLink RX1 9 "DotObjects$Draws" "value" "I", .methodLink RX9 234 yX1_start, .instanceMethod yX1_start, .selects RX1 yX1_start yX1_start, .code yX1_start cX1_start 2 none] ++ wsX90 ++ wsX10)
def wsX9_isImage : List Cond := .code yX9_isImage cX9_isImage 1 (some .boolean) :: ([.methodLink RX9 147 yX9_isWithin, .static yX9_isWithin, .initialized RX9, .code yX9_isWithin cX9_isWithin 3 (some .boolean)])
def wsX9_keep_r1 : List Cond := [Cond.constant RX9 104 (-1000000001), Cond.fieldLink RX9 10 "DotObjects" "scene" "LDotObjects$Scene;", Cond.fieldLink RX9 60 "DotObjects" "images" "[[I", Cond.fieldLink RX9 63 "DotObjects" "imageSeeds" "[I", Cond.fieldLink RX9 54 "DotObjects" "draws" "LDotObjects$Draws;", Cond.fieldLink RX9 67 "DotObjects" "kept" "[Z", Cond.fieldLink RX9 40 "DotObjects" "history" "LDotObjects$History;", Cond.methodLink RX9 237 yX9_isImage, Cond.static yX9_isImage, Cond.initialized RX9, Cond.code yX9_isImage cX9_isImage 1 (some .boolean), Cond.methodLink RX9 147 yX9_isWithin, Cond.static yX9_isWithin, Cond.code yX9_isWithin cX9_isWithin 3 (some .boolean), Cond.methodLink RX9 240 yX7_saveTo, Cond.instanceMethod yX7_saveTo, Cond.selects RX7 yX7_saveTo yX7_saveTo, Cond.initialized RX7, Cond.code yX7_saveTo cX7_saveTo 2 none, Cond.fieldLink RX7 11 "DotObjects$Scene" "cells" "[I", Cond.methodLink RX7 15 arraycopyName, Cond.native arraycopyName, Cond.static arraycopyName, Cond.initialized "java/lang/System"]
def wsX9_keep_r2 : List Cond := [Cond.methodLink RX9 231 yX1_value, Cond.instanceMethod yX1_value, Cond.selects RX1 yX1_value yX1_value, Cond.initialized RX1, Cond.code yX1_value cX1_value 1 (some .int), Cond.fieldLink RX1 9 "DotObjects$Draws" "value" "I", Cond.methodLink RX9 244 yX3_clear, Cond.instanceMethod yX3_clear, Cond.selects RX3 yX3_clear yX3_clear, Cond.initialized RX3, Cond.code yX3_clear cX3_clear 1 none, Cond.fieldLink RX3 18 "DotObjects$History" "size" "I"]
def wsX9_keep : List Cond := .code yX9_keep cX9_keep 2 (some .int) :: ((wsX9_keep_r1 ++ wsX9_keep_r2) ++ wsX90 ++ wsX70 ++ wsX10 ++ wsX30)
def wsX9_goBack_r1 : List Cond := [Cond.constant RX9 104 (-1000000001), Cond.fieldLink RX9 67 "DotObjects" "kept" "[Z", Cond.constant RX9 210 (-1000000003), Cond.fieldLink RX9 10 "DotObjects" "scene" "LDotObjects$Scene;", Cond.fieldLink RX9 60 "DotObjects" "images" "[[I", Cond.fieldLink RX9 54 "DotObjects" "draws" "LDotObjects$Draws;", Cond.fieldLink RX9 63 "DotObjects" "imageSeeds" "[I", Cond.fieldLink RX9 40 "DotObjects" "history" "LDotObjects$History;", Cond.methodLink RX9 237 yX9_isImage, Cond.static yX9_isImage, Cond.initialized RX9, Cond.code yX9_isImage cX9_isImage 1 (some .boolean), Cond.methodLink RX9 147 yX9_isWithin, Cond.static yX9_isWithin, Cond.code yX9_isWithin cX9_isWithin 3 (some .boolean), Cond.methodLink RX9 245 yX7_loadFrom, Cond.instanceMethod yX7_loadFrom, Cond.selects RX7 yX7_loadFrom yX7_loadFrom, Cond.initialized RX7, Cond.code yX7_loadFrom cX7_loadFrom 2 none, Cond.fieldLink RX7 11 "DotObjects$Scene" "cells" "[I", Cond.methodLink RX7 15 arraycopyName, Cond.native arraycopyName, Cond.static arraycopyName]
def wsX9_goBack_r2 : List Cond := [Cond.initialized "java/lang/System", Cond.methodLink RX9 234 yX1_start, Cond.instanceMethod yX1_start, Cond.selects RX1 yX1_start yX1_start, Cond.initialized RX1, Cond.code yX1_start cX1_start 2 none, Cond.fieldLink RX1 9 "DotObjects$Draws" "value" "I", Cond.methodLink RX9 244 yX3_clear, Cond.instanceMethod yX3_clear, Cond.selects RX3 yX3_clear yX3_clear, Cond.initialized RX3, Cond.code yX3_clear cX3_clear 1 none, Cond.fieldLink RX3 18 "DotObjects$History" "size" "I"]
def wsX9_goBack : List Cond := .code yX9_goBack cX9_goBack 2 (some .int) :: ((wsX9_goBack_r1 ++ wsX9_goBack_r2) ++ wsX90 ++ wsX70 ++ wsX10 ++ wsX30)
def wsX10_init : List Cond := .code yX10_init cX10_init 2 none :: ([.methodLink RX10 1 objectInit, .instanceMethod objectInit, .code objectInit ⟨#[0xb1]⟩ 1 none, .arrayClass .int, .fieldLink RX10 7 "DotObjectsModel" "now" "[I", .fieldLink RX10 13 "DotObjectsModel" "aside" "[I", .fieldLink RX10 16 "DotObjectsModel" "past" "[I", .fieldLink RX10 19 "DotObjectsModel" "images" "[I", .arrayClass .long, .fieldLink RX10 22 "DotObjectsModel" "seeds" "[J", .arrayClass .boolean, .fieldLink RX10 26 "DotObjectsModel" "kept" "[Z", .fieldLink RX10 30 "DotObjectsModel" "book" "[I", .fieldLink RX10 33 "DotObjectsModel" "sets" "[I", .fieldLink RX10 36 "DotObjectsModel" "holder" "[I", .fieldLink RX10 39 "DotObjectsModel" "ends" "[I"] ++ wsX100)
def wsX10_in : List Cond := .code yX10_in cX10_in 3 (some .boolean) :: ([])
def wsX10_has : List Cond := .code yX10_has cX10_has 2 (some .boolean) :: ([])
def wsX10_ones : List Cond := .code yX10_ones cX10_ones 3 (some .int) :: ([])
def wsX10_isThing : List Cond := .code yX10_isThing cX10_isThing 2 (some .boolean) :: ([.fieldLink RX10 7 "DotObjectsModel" "now" "[I", .methodLink RX10 42 yX10_in, .static yX10_in, .initialized RX10, .code yX10_in cX10_in 3 (some .boolean)] ++ wsX100)
def wsX10_of : List Cond := .code yX10_of cX10_of 3 (some .int) :: ([.fieldLink RX10 7 "DotObjectsModel" "now" "[I"] ++ wsX100)
def wsX10_notes : List Cond := .code yX10_notes cX10_notes 2 none :: ([.fieldLink RX10 46 "DotObjectsModel" "deeds" "I", .fieldLink RX10 16 "DotObjectsModel" "past" "[I", .fieldLink RX10 7 "DotObjectsModel" "now" "[I"] ++ wsX100)
def wsX10_isOn : List Cond := .code yX10_isOn cX10_isOn 3 (some .boolean) :: ([.methodLink RX10 50 yX10_of, .instanceMethod yX10_of, .selects RX10 yX10_of yX10_of, .initialized RX10, .code yX10_of cX10_of 3 (some .int), .fieldLink RX10 7 "DotObjectsModel" "now" "[I", .methodLink RX10 42 yX10_in, .static yX10_in, .code yX10_in cX10_in 3 (some .boolean)] ++ wsX100)
def wsX10_hasDot : List Cond := .code yX10_hasDot cX10_hasDot 8 (some .boolean) :: ([.fieldLink RX10 7 "DotObjectsModel" "now" "[I", .methodLink RX10 50 yX10_of, .instanceMethod yX10_of, .selects RX10 yX10_of yX10_of, .initialized RX10, .code yX10_of cX10_of 3 (some .int), .methodLink RX10 42 yX10_in, .static yX10_in, .code yX10_in cX10_in 3 (some .boolean), .methodLink RX10 54 yX10_has, .static yX10_has, .code yX10_has cX10_has 2 (some .boolean)] ++ wsX100)
def wsX10_isAhead : List Cond := .code yX10_isAhead cX10_isAhead 5 (some .boolean) :: ([.fieldLink RX10 7 "DotObjectsModel" "now" "[I", .methodLink RX10 50 yX10_of, .instanceMethod yX10_of, .selects RX10 yX10_of yX10_of, .initialized RX10, .code yX10_of cX10_of 3 (some .int)] ++ wsX100)
def wsX10_onLine : List Cond := .code yX10_onLine cX10_onLine 4 (some .int) :: ([.fieldLink RX10 7 "DotObjectsModel" "now" "[I", .methodLink RX10 58 yX10_isOn, .instanceMethod yX10_isOn, .selects RX10 yX10_isOn yX10_isOn, .initialized RX10, .code yX10_isOn cX10_isOn 3 (some .boolean), .methodLink RX10 50 yX10_of, .instanceMethod yX10_of, .selects RX10 yX10_of yX10_of, .code yX10_of cX10_of 3 (some .int), .methodLink RX10 42 yX10_in, .static yX10_in, .code yX10_in cX10_in 3 (some .boolean)] ++ wsX100)
def wsX10_drawnBy : List Cond := .code yX10_drawnBy cX10_drawnBy 8 (some .int) :: ([.fieldLink RX10 7 "DotObjectsModel" "now" "[I", .methodLink RX10 61 yX10_onLine, .instanceMethod yX10_onLine, .selects RX10 yX10_onLine yX10_onLine, .initialized RX10, .code yX10_onLine cX10_onLine 4 (some .int), .methodLink RX10 58 yX10_isOn, .instanceMethod yX10_isOn, .selects RX10 yX10_isOn yX10_isOn, .code yX10_isOn cX10_isOn 3 (some .boolean), .methodLink RX10 50 yX10_of, .instanceMethod yX10_of, .selects RX10 yX10_of yX10_of, .code yX10_of cX10_of 3 (some .int), .methodLink RX10 42 yX10_in, .static yX10_in, .code yX10_in cX10_in 3 (some .boolean), .methodLink RX10 54 yX10_has, .static yX10_has, .code yX10_has cX10_has 2 (some .boolean), .methodLink RX10 65 yX10_isAhead, .instanceMethod yX10_isAhead, .selects RX10 yX10_isAhead yX10_isAhead, .code yX10_isAhead cX10_isAhead 5 (some .boolean)] ++ wsX100)
def wsX10_drawnOn_r1 : List Cond := [Cond.fieldLink RX10 7 "DotObjectsModel" "now" "[I", Cond.methodLink RX10 68 yX10_drawnBy, Cond.instanceMethod yX10_drawnBy, Cond.selects RX10 yX10_drawnBy yX10_drawnBy, Cond.initialized RX10, Cond.code yX10_drawnBy cX10_drawnBy 8 (some .int), Cond.methodLink RX10 61 yX10_onLine, Cond.instanceMethod yX10_onLine, Cond.selects RX10 yX10_onLine yX10_onLine, Cond.code yX10_onLine cX10_onLine 4 (some .int), Cond.methodLink RX10 58 yX10_isOn, Cond.instanceMethod yX10_isOn, Cond.selects RX10 yX10_isOn yX10_isOn, Cond.code yX10_isOn cX10_isOn 3 (some .boolean), Cond.methodLink RX10 50 yX10_of, Cond.instanceMethod yX10_of, Cond.selects RX10 yX10_of yX10_of, Cond.code yX10_of cX10_of 3 (some .int), Cond.methodLink RX10 42 yX10_in, Cond.static yX10_in, Cond.code yX10_in cX10_in 3 (some .boolean), Cond.methodLink RX10 54 yX10_has, Cond.static yX10_has, Cond.code yX10_has cX10_has 2 (some .boolean)]
def wsX10_drawnOn_r2 : List Cond := [Cond.methodLink RX10 65 yX10_isAhead, Cond.instanceMethod yX10_isAhead, Cond.selects RX10 yX10_isAhead yX10_isAhead, Cond.code yX10_isAhead cX10_isAhead 5 (some .boolean)]
def wsX10_drawnOn : List Cond := .code yX10_drawnOn cX10_drawnOn 2 (some .int) :: ((wsX10_drawnOn_r1 ++ wsX10_drawnOn_r2) ++ wsX100)
def wsX10_seenAt : List Cond := .code yX10_seenAt cX10_seenAt 7 (some .int) :: ([.fieldLink RX10 7 "DotObjectsModel" "now" "[I", .methodLink RX10 54 yX10_has, .static yX10_has, .initialized RX10, .code yX10_has cX10_has 2 (some .boolean), .methodLink RX10 71 yX10_hasDot, .instanceMethod yX10_hasDot, .selects RX10 yX10_hasDot yX10_hasDot, .code yX10_hasDot cX10_hasDot 8 (some .boolean), .methodLink RX10 50 yX10_of, .instanceMethod yX10_of, .selects RX10 yX10_of yX10_of, .code yX10_of cX10_of 3 (some .int), .methodLink RX10 42 yX10_in, .static yX10_in, .code yX10_in cX10_in 3 (some .boolean)] ++ wsX100)
def wsX10_colourAt : List Cond := .code yX10_colourAt cX10_colourAt 5 (some .int) :: ([.methodLink RX10 74 yX10_seenAt, .instanceMethod yX10_seenAt, .selects RX10 yX10_seenAt yX10_seenAt, .initialized RX10, .code yX10_seenAt cX10_seenAt 7 (some .int), .fieldLink RX10 7 "DotObjectsModel" "now" "[I", .methodLink RX10 54 yX10_has, .static yX10_has, .code yX10_has cX10_has 2 (some .boolean), .methodLink RX10 71 yX10_hasDot, .instanceMethod yX10_hasDot, .selects RX10 yX10_hasDot yX10_hasDot, .code yX10_hasDot cX10_hasDot 8 (some .boolean), .methodLink RX10 50 yX10_of, .instanceMethod yX10_of, .selects RX10 yX10_of yX10_of, .code yX10_of cX10_of 3 (some .int), .methodLink RX10 42 yX10_in, .static yX10_in, .code yX10_in cX10_in 3 (some .boolean)] ++ wsX100)
def wsX10_draws_r1 : List Cond := [Cond.fieldLink RX10 33 "DotObjectsModel" "sets" "[I", Cond.methodLink RX10 78 yX10_drawnOn, Cond.instanceMethod yX10_drawnOn, Cond.selects RX10 yX10_drawnOn yX10_drawnOn, Cond.initialized RX10, Cond.code yX10_drawnOn cX10_drawnOn 2 (some .int), Cond.fieldLink RX10 7 "DotObjectsModel" "now" "[I", Cond.methodLink RX10 68 yX10_drawnBy, Cond.instanceMethod yX10_drawnBy, Cond.selects RX10 yX10_drawnBy yX10_drawnBy, Cond.code yX10_drawnBy cX10_drawnBy 8 (some .int), Cond.methodLink RX10 61 yX10_onLine, Cond.instanceMethod yX10_onLine, Cond.selects RX10 yX10_onLine yX10_onLine, Cond.code yX10_onLine cX10_onLine 4 (some .int), Cond.methodLink RX10 58 yX10_isOn, Cond.instanceMethod yX10_isOn, Cond.selects RX10 yX10_isOn yX10_isOn, Cond.code yX10_isOn cX10_isOn 3 (some .boolean), Cond.methodLink RX10 50 yX10_of, Cond.instanceMethod yX10_of, Cond.selects RX10 yX10_of yX10_of, Cond.code yX10_of cX10_of 3 (some .int), Cond.methodLink RX10 42 yX10_in]
def wsX10_draws_r2 : List Cond := [Cond.static yX10_in, Cond.code yX10_in cX10_in 3 (some .boolean), Cond.methodLink RX10 54 yX10_has, Cond.static yX10_has, Cond.code yX10_has cX10_has 2 (some .boolean), Cond.methodLink RX10 65 yX10_isAhead, Cond.instanceMethod yX10_isAhead, Cond.selects RX10 yX10_isAhead yX10_isAhead, Cond.code yX10_isAhead cX10_isAhead 5 (some .boolean)]
def wsX10_draws : List Cond := .code yX10_draws cX10_draws 2 none :: ((wsX10_draws_r1 ++ wsX10_draws_r2) ++ wsX100)
def wsX10_missing_r1 : List Cond := [Cond.fieldLink RX10 33 "DotObjectsModel" "sets" "[I", Cond.methodLink RX10 81 yX10_draws, Cond.instanceMethod yX10_draws, Cond.selects RX10 yX10_draws yX10_draws, Cond.initialized RX10, Cond.code yX10_draws cX10_draws 2 none, Cond.methodLink RX10 78 yX10_drawnOn, Cond.instanceMethod yX10_drawnOn, Cond.selects RX10 yX10_drawnOn yX10_drawnOn, Cond.code yX10_drawnOn cX10_drawnOn 2 (some .int), Cond.fieldLink RX10 7 "DotObjectsModel" "now" "[I", Cond.methodLink RX10 68 yX10_drawnBy, Cond.instanceMethod yX10_drawnBy, Cond.selects RX10 yX10_drawnBy yX10_drawnBy, Cond.code yX10_drawnBy cX10_drawnBy 8 (some .int), Cond.methodLink RX10 61 yX10_onLine, Cond.instanceMethod yX10_onLine, Cond.selects RX10 yX10_onLine yX10_onLine, Cond.code yX10_onLine cX10_onLine 4 (some .int), Cond.methodLink RX10 58 yX10_isOn, Cond.instanceMethod yX10_isOn, Cond.selects RX10 yX10_isOn yX10_isOn, Cond.code yX10_isOn cX10_isOn 3 (some .boolean), Cond.methodLink RX10 50 yX10_of]
def wsX10_missing_r2 : List Cond := [Cond.instanceMethod yX10_of, Cond.selects RX10 yX10_of yX10_of, Cond.code yX10_of cX10_of 3 (some .int), Cond.methodLink RX10 42 yX10_in, Cond.static yX10_in, Cond.code yX10_in cX10_in 3 (some .boolean), Cond.methodLink RX10 54 yX10_has, Cond.static yX10_has, Cond.code yX10_has cX10_has 2 (some .boolean), Cond.methodLink RX10 65 yX10_isAhead, Cond.instanceMethod yX10_isAhead, Cond.selects RX10 yX10_isAhead yX10_isAhead, Cond.code yX10_isAhead cX10_isAhead 5 (some .boolean), Cond.methodLink RX10 84 yX10_colourAt, Cond.instanceMethod yX10_colourAt, Cond.selects RX10 yX10_colourAt yX10_colourAt, Cond.code yX10_colourAt cX10_colourAt 5 (some .int), Cond.methodLink RX10 74 yX10_seenAt, Cond.instanceMethod yX10_seenAt, Cond.selects RX10 yX10_seenAt yX10_seenAt, Cond.code yX10_seenAt cX10_seenAt 7 (some .int), Cond.methodLink RX10 71 yX10_hasDot, Cond.instanceMethod yX10_hasDot, Cond.selects RX10 yX10_hasDot yX10_hasDot]
def wsX10_missing_r3 : List Cond := [Cond.code yX10_hasDot cX10_hasDot 8 (some .boolean)]
def wsX10_missing : List Cond := .code yX10_missing cX10_missing 5 (some .int) :: ((wsX10_missing_r1 ++ (wsX10_missing_r2 ++ wsX10_missing_r3)) ++ wsX100)
def wsX10_bestRule_r1 : List Cond := [Cond.fieldLink RX10 7 "DotObjectsModel" "now" "[I", Cond.methodLink RX10 87 yX10_missing, Cond.instanceMethod yX10_missing, Cond.selects RX10 yX10_missing yX10_missing, Cond.initialized RX10, Cond.code yX10_missing cX10_missing 5 (some .int), Cond.fieldLink RX10 33 "DotObjectsModel" "sets" "[I", Cond.methodLink RX10 81 yX10_draws, Cond.instanceMethod yX10_draws, Cond.selects RX10 yX10_draws yX10_draws, Cond.code yX10_draws cX10_draws 2 none, Cond.methodLink RX10 78 yX10_drawnOn, Cond.instanceMethod yX10_drawnOn, Cond.selects RX10 yX10_drawnOn yX10_drawnOn, Cond.code yX10_drawnOn cX10_drawnOn 2 (some .int), Cond.methodLink RX10 68 yX10_drawnBy, Cond.instanceMethod yX10_drawnBy, Cond.selects RX10 yX10_drawnBy yX10_drawnBy, Cond.code yX10_drawnBy cX10_drawnBy 8 (some .int), Cond.methodLink RX10 61 yX10_onLine, Cond.instanceMethod yX10_onLine, Cond.selects RX10 yX10_onLine yX10_onLine, Cond.code yX10_onLine cX10_onLine 4 (some .int), Cond.methodLink RX10 58 yX10_isOn]
def wsX10_bestRule_r2 : List Cond := [Cond.instanceMethod yX10_isOn, Cond.selects RX10 yX10_isOn yX10_isOn, Cond.code yX10_isOn cX10_isOn 3 (some .boolean), Cond.methodLink RX10 50 yX10_of, Cond.instanceMethod yX10_of, Cond.selects RX10 yX10_of yX10_of, Cond.code yX10_of cX10_of 3 (some .int), Cond.methodLink RX10 42 yX10_in, Cond.static yX10_in, Cond.code yX10_in cX10_in 3 (some .boolean), Cond.methodLink RX10 54 yX10_has, Cond.static yX10_has, Cond.code yX10_has cX10_has 2 (some .boolean), Cond.methodLink RX10 65 yX10_isAhead, Cond.instanceMethod yX10_isAhead, Cond.selects RX10 yX10_isAhead yX10_isAhead, Cond.code yX10_isAhead cX10_isAhead 5 (some .boolean), Cond.methodLink RX10 84 yX10_colourAt, Cond.instanceMethod yX10_colourAt, Cond.selects RX10 yX10_colourAt yX10_colourAt, Cond.code yX10_colourAt cX10_colourAt 5 (some .int), Cond.methodLink RX10 74 yX10_seenAt, Cond.instanceMethod yX10_seenAt, Cond.selects RX10 yX10_seenAt yX10_seenAt]
def wsX10_bestRule_r3 : List Cond := [Cond.code yX10_seenAt cX10_seenAt 7 (some .int), Cond.methodLink RX10 71 yX10_hasDot, Cond.instanceMethod yX10_hasDot, Cond.selects RX10 yX10_hasDot yX10_hasDot, Cond.code yX10_hasDot cX10_hasDot 8 (some .boolean)]
def wsX10_bestRule : List Cond := .code yX10_bestRule cX10_bestRule 6 (some .int) :: ((wsX10_bestRule_r1 ++ (wsX10_bestRule_r2 ++ wsX10_bestRule_r3)) ++ wsX100)
def wsX10_enough : List Cond := .code yX10_enough cX10_enough 4 (some .int) :: ([.methodLink RX10 61 yX10_onLine, .instanceMethod yX10_onLine, .selects RX10 yX10_onLine yX10_onLine, .initialized RX10, .code yX10_onLine cX10_onLine 4 (some .int), .fieldLink RX10 7 "DotObjectsModel" "now" "[I", .methodLink RX10 58 yX10_isOn, .instanceMethod yX10_isOn, .selects RX10 yX10_isOn yX10_isOn, .code yX10_isOn cX10_isOn 3 (some .boolean), .methodLink RX10 50 yX10_of, .instanceMethod yX10_of, .selects RX10 yX10_of yX10_of, .code yX10_of cX10_of 3 (some .int), .methodLink RX10 42 yX10_in, .static yX10_in, .code yX10_in cX10_in 3 (some .boolean), .methodLink RX10 91 yX10_ones, .static yX10_ones, .code yX10_ones cX10_ones 3 (some .int)] ++ wsX100)
def wsX10_holds : List Cond := .code yX10_holds cX10_holds 5 (some .int) :: ([.fieldLink RX10 7 "DotObjectsModel" "now" "[I", .fieldLink RX10 39 "DotObjectsModel" "ends" "[I", .fieldLink RX10 36 "DotObjectsModel" "holder" "[I", .methodLink RX10 50 yX10_of, .instanceMethod yX10_of, .selects RX10 yX10_of yX10_of, .initialized RX10, .code yX10_of cX10_of 3 (some .int)] ++ wsX100)
def wsX10_dots_r1 : List Cond := [Cond.fieldLink RX10 33 "DotObjectsModel" "sets" "[I", Cond.methodLink RX10 81 yX10_draws, Cond.instanceMethod yX10_draws, Cond.selects RX10 yX10_draws yX10_draws, Cond.initialized RX10, Cond.code yX10_draws cX10_draws 2 none, Cond.methodLink RX10 78 yX10_drawnOn, Cond.instanceMethod yX10_drawnOn, Cond.selects RX10 yX10_drawnOn yX10_drawnOn, Cond.code yX10_drawnOn cX10_drawnOn 2 (some .int), Cond.fieldLink RX10 7 "DotObjectsModel" "now" "[I", Cond.methodLink RX10 68 yX10_drawnBy, Cond.instanceMethod yX10_drawnBy, Cond.selects RX10 yX10_drawnBy yX10_drawnBy, Cond.code yX10_drawnBy cX10_drawnBy 8 (some .int), Cond.methodLink RX10 61 yX10_onLine, Cond.instanceMethod yX10_onLine, Cond.selects RX10 yX10_onLine yX10_onLine, Cond.code yX10_onLine cX10_onLine 4 (some .int), Cond.methodLink RX10 58 yX10_isOn, Cond.instanceMethod yX10_isOn, Cond.selects RX10 yX10_isOn yX10_isOn, Cond.code yX10_isOn cX10_isOn 3 (some .boolean), Cond.methodLink RX10 50 yX10_of]
def wsX10_dots_r2 : List Cond := [Cond.instanceMethod yX10_of, Cond.selects RX10 yX10_of yX10_of, Cond.code yX10_of cX10_of 3 (some .int), Cond.methodLink RX10 42 yX10_in, Cond.static yX10_in, Cond.code yX10_in cX10_in 3 (some .boolean), Cond.methodLink RX10 54 yX10_has, Cond.static yX10_has, Cond.code yX10_has cX10_has 2 (some .boolean), Cond.methodLink RX10 65 yX10_isAhead, Cond.instanceMethod yX10_isAhead, Cond.selects RX10 yX10_isAhead yX10_isAhead, Cond.code yX10_isAhead cX10_isAhead 5 (some .boolean), Cond.methodLink RX10 74 yX10_seenAt, Cond.instanceMethod yX10_seenAt, Cond.selects RX10 yX10_seenAt yX10_seenAt, Cond.code yX10_seenAt cX10_seenAt 7 (some .int), Cond.methodLink RX10 71 yX10_hasDot, Cond.instanceMethod yX10_hasDot, Cond.selects RX10 yX10_hasDot yX10_hasDot, Cond.code yX10_hasDot cX10_hasDot 8 (some .boolean)]
def wsX10_dots : List Cond := .code yX10_dots cX10_dots 4 (some .int) :: ((wsX10_dots_r1 ++ wsX10_dots_r2) ++ wsX100)
def wsX10_wrong_r1 : List Cond := [Cond.fieldLink RX10 94 "DotObjectsModel" "entries" "I", Cond.fieldLink RX10 33 "DotObjectsModel" "sets" "[I", Cond.fieldLink RX10 30 "DotObjectsModel" "book" "[I", Cond.methodLink RX10 81 yX10_draws, Cond.instanceMethod yX10_draws, Cond.selects RX10 yX10_draws yX10_draws, Cond.initialized RX10, Cond.code yX10_draws cX10_draws 2 none, Cond.methodLink RX10 78 yX10_drawnOn, Cond.instanceMethod yX10_drawnOn, Cond.selects RX10 yX10_drawnOn yX10_drawnOn, Cond.code yX10_drawnOn cX10_drawnOn 2 (some .int), Cond.fieldLink RX10 7 "DotObjectsModel" "now" "[I", Cond.methodLink RX10 68 yX10_drawnBy, Cond.instanceMethod yX10_drawnBy, Cond.selects RX10 yX10_drawnBy yX10_drawnBy, Cond.code yX10_drawnBy cX10_drawnBy 8 (some .int), Cond.methodLink RX10 61 yX10_onLine, Cond.instanceMethod yX10_onLine, Cond.selects RX10 yX10_onLine yX10_onLine, Cond.code yX10_onLine cX10_onLine 4 (some .int), Cond.methodLink RX10 58 yX10_isOn, Cond.instanceMethod yX10_isOn, Cond.selects RX10 yX10_isOn yX10_isOn]
def wsX10_wrong_r2 : List Cond := [Cond.code yX10_isOn cX10_isOn 3 (some .boolean), Cond.methodLink RX10 50 yX10_of, Cond.instanceMethod yX10_of, Cond.selects RX10 yX10_of yX10_of, Cond.code yX10_of cX10_of 3 (some .int), Cond.methodLink RX10 42 yX10_in, Cond.static yX10_in, Cond.code yX10_in cX10_in 3 (some .boolean), Cond.methodLink RX10 54 yX10_has, Cond.static yX10_has, Cond.code yX10_has cX10_has 2 (some .boolean), Cond.methodLink RX10 65 yX10_isAhead, Cond.instanceMethod yX10_isAhead, Cond.selects RX10 yX10_isAhead yX10_isAhead, Cond.code yX10_isAhead cX10_isAhead 5 (some .boolean), Cond.methodLink RX10 84 yX10_colourAt, Cond.instanceMethod yX10_colourAt, Cond.selects RX10 yX10_colourAt yX10_colourAt, Cond.code yX10_colourAt cX10_colourAt 5 (some .int), Cond.methodLink RX10 74 yX10_seenAt, Cond.instanceMethod yX10_seenAt, Cond.selects RX10 yX10_seenAt yX10_seenAt, Cond.code yX10_seenAt cX10_seenAt 7 (some .int), Cond.methodLink RX10 71 yX10_hasDot]
def wsX10_wrong_r3 : List Cond := [Cond.instanceMethod yX10_hasDot, Cond.selects RX10 yX10_hasDot yX10_hasDot, Cond.code yX10_hasDot cX10_hasDot 8 (some .boolean)]
def wsX10_wrong : List Cond := .code yX10_wrong cX10_wrong 2 (some .int) :: ((wsX10_wrong_r1 ++ (wsX10_wrong_r2 ++ wsX10_wrong_r3)) ++ wsX100)
def wsX10_told_r1 : List Cond := [Cond.fieldLink RX10 7 "DotObjectsModel" "now" "[I", Cond.fieldLink RX10 94 "DotObjectsModel" "entries" "I", Cond.fieldLink RX10 46 "DotObjectsModel" "deeds" "I", Cond.constant RX10 112 (-1000000002), Cond.methodLink RX10 87 yX10_missing, Cond.instanceMethod yX10_missing, Cond.selects RX10 yX10_missing yX10_missing, Cond.initialized RX10, Cond.code yX10_missing cX10_missing 5 (some .int), Cond.fieldLink RX10 33 "DotObjectsModel" "sets" "[I", Cond.methodLink RX10 81 yX10_draws, Cond.instanceMethod yX10_draws, Cond.selects RX10 yX10_draws yX10_draws, Cond.code yX10_draws cX10_draws 2 none, Cond.methodLink RX10 78 yX10_drawnOn, Cond.instanceMethod yX10_drawnOn, Cond.selects RX10 yX10_drawnOn yX10_drawnOn, Cond.code yX10_drawnOn cX10_drawnOn 2 (some .int), Cond.methodLink RX10 68 yX10_drawnBy, Cond.instanceMethod yX10_drawnBy, Cond.selects RX10 yX10_drawnBy yX10_drawnBy, Cond.code yX10_drawnBy cX10_drawnBy 8 (some .int), Cond.methodLink RX10 61 yX10_onLine, Cond.instanceMethod yX10_onLine]
def wsX10_told_r2 : List Cond := [Cond.selects RX10 yX10_onLine yX10_onLine, Cond.code yX10_onLine cX10_onLine 4 (some .int), Cond.methodLink RX10 58 yX10_isOn, Cond.instanceMethod yX10_isOn, Cond.selects RX10 yX10_isOn yX10_isOn, Cond.code yX10_isOn cX10_isOn 3 (some .boolean), Cond.methodLink RX10 50 yX10_of, Cond.instanceMethod yX10_of, Cond.selects RX10 yX10_of yX10_of, Cond.code yX10_of cX10_of 3 (some .int), Cond.methodLink RX10 42 yX10_in, Cond.static yX10_in, Cond.code yX10_in cX10_in 3 (some .boolean), Cond.methodLink RX10 54 yX10_has, Cond.static yX10_has, Cond.code yX10_has cX10_has 2 (some .boolean), Cond.methodLink RX10 65 yX10_isAhead, Cond.instanceMethod yX10_isAhead, Cond.selects RX10 yX10_isAhead yX10_isAhead, Cond.code yX10_isAhead cX10_isAhead 5 (some .boolean), Cond.methodLink RX10 84 yX10_colourAt, Cond.instanceMethod yX10_colourAt, Cond.selects RX10 yX10_colourAt yX10_colourAt, Cond.code yX10_colourAt cX10_colourAt 5 (some .int)]
def wsX10_told_r3 : List Cond := [Cond.methodLink RX10 74 yX10_seenAt, Cond.instanceMethod yX10_seenAt, Cond.selects RX10 yX10_seenAt yX10_seenAt, Cond.code yX10_seenAt cX10_seenAt 7 (some .int), Cond.methodLink RX10 71 yX10_hasDot, Cond.instanceMethod yX10_hasDot, Cond.selects RX10 yX10_hasDot yX10_hasDot, Cond.code yX10_hasDot cX10_hasDot 8 (some .boolean), Cond.methodLink RX10 97 yX10_bestRule, Cond.instanceMethod yX10_bestRule, Cond.selects RX10 yX10_bestRule yX10_bestRule, Cond.code yX10_bestRule cX10_bestRule 6 (some .int), Cond.methodLink RX10 100 yX10_enough, Cond.instanceMethod yX10_enough, Cond.selects RX10 yX10_enough yX10_enough, Cond.code yX10_enough cX10_enough 4 (some .int), Cond.methodLink RX10 91 yX10_ones, Cond.static yX10_ones, Cond.code yX10_ones cX10_ones 3 (some .int), Cond.methodLink RX10 103 yX10_holds, Cond.instanceMethod yX10_holds, Cond.selects RX10 yX10_holds yX10_holds, Cond.code yX10_holds cX10_holds 5 (some .int), Cond.fieldLink RX10 39 "DotObjectsModel" "ends" "[I"]
def wsX10_told_r4 : List Cond := [Cond.fieldLink RX10 36 "DotObjectsModel" "holder" "[I", Cond.methodLink RX10 106 yX10_dots, Cond.instanceMethod yX10_dots, Cond.selects RX10 yX10_dots yX10_dots, Cond.code yX10_dots cX10_dots 4 (some .int), Cond.methodLink RX10 109 yX10_wrong, Cond.instanceMethod yX10_wrong, Cond.selects RX10 yX10_wrong yX10_wrong, Cond.code yX10_wrong cX10_wrong 2 (some .int), Cond.fieldLink RX10 30 "DotObjectsModel" "book" "[I"]
def wsX10_told : List Cond := .code yX10_told cX10_told 2 (some .int) :: ((wsX10_told_r1 ++ (wsX10_told_r2 ++ (wsX10_told_r3 ++ wsX10_told_r4))) ++ wsX100)
def wsX10_dotsOf_r1 : List Cond := [Cond.fieldLink RX10 33 "DotObjectsModel" "sets" "[I", Cond.methodLink RX10 81 yX10_draws, Cond.instanceMethod yX10_draws, Cond.selects RX10 yX10_draws yX10_draws, Cond.initialized RX10, Cond.code yX10_draws cX10_draws 2 none, Cond.methodLink RX10 78 yX10_drawnOn, Cond.instanceMethod yX10_drawnOn, Cond.selects RX10 yX10_drawnOn yX10_drawnOn, Cond.code yX10_drawnOn cX10_drawnOn 2 (some .int), Cond.fieldLink RX10 7 "DotObjectsModel" "now" "[I", Cond.methodLink RX10 68 yX10_drawnBy, Cond.instanceMethod yX10_drawnBy, Cond.selects RX10 yX10_drawnBy yX10_drawnBy, Cond.code yX10_drawnBy cX10_drawnBy 8 (some .int), Cond.methodLink RX10 61 yX10_onLine, Cond.instanceMethod yX10_onLine, Cond.selects RX10 yX10_onLine yX10_onLine, Cond.code yX10_onLine cX10_onLine 4 (some .int), Cond.methodLink RX10 58 yX10_isOn, Cond.instanceMethod yX10_isOn, Cond.selects RX10 yX10_isOn yX10_isOn, Cond.code yX10_isOn cX10_isOn 3 (some .boolean), Cond.methodLink RX10 50 yX10_of]
def wsX10_dotsOf_r2 : List Cond := [Cond.instanceMethod yX10_of, Cond.selects RX10 yX10_of yX10_of, Cond.code yX10_of cX10_of 3 (some .int), Cond.methodLink RX10 42 yX10_in, Cond.static yX10_in, Cond.code yX10_in cX10_in 3 (some .boolean), Cond.methodLink RX10 54 yX10_has, Cond.static yX10_has, Cond.code yX10_has cX10_has 2 (some .boolean), Cond.methodLink RX10 65 yX10_isAhead, Cond.instanceMethod yX10_isAhead, Cond.selects RX10 yX10_isAhead yX10_isAhead, Cond.code yX10_isAhead cX10_isAhead 5 (some .boolean), Cond.methodLink RX10 71 yX10_hasDot, Cond.instanceMethod yX10_hasDot, Cond.selects RX10 yX10_hasDot yX10_hasDot, Cond.code yX10_hasDot cX10_hasDot 8 (some .boolean), Cond.methodLink RX10 74 yX10_seenAt, Cond.instanceMethod yX10_seenAt, Cond.selects RX10 yX10_seenAt yX10_seenAt, Cond.code yX10_seenAt cX10_seenAt 7 (some .int)]
def wsX10_dotsOf : List Cond := .code yX10_dotsOf cX10_dotsOf 7 (some .int) :: ((wsX10_dotsOf_r1 ++ wsX10_dotsOf_r2) ++ wsX100)
def wsX10_droppedOf_r1 : List Cond := [Cond.methodLink RX10 58 yX10_isOn, Cond.instanceMethod yX10_isOn, Cond.selects RX10 yX10_isOn yX10_isOn, Cond.initialized RX10, Cond.code yX10_isOn cX10_isOn 3 (some .boolean), Cond.methodLink RX10 50 yX10_of, Cond.instanceMethod yX10_of, Cond.selects RX10 yX10_of yX10_of, Cond.code yX10_of cX10_of 3 (some .int), Cond.fieldLink RX10 7 "DotObjectsModel" "now" "[I", Cond.methodLink RX10 42 yX10_in, Cond.static yX10_in, Cond.code yX10_in cX10_in 3 (some .boolean), Cond.methodLink RX10 78 yX10_drawnOn, Cond.instanceMethod yX10_drawnOn, Cond.selects RX10 yX10_drawnOn yX10_drawnOn, Cond.code yX10_drawnOn cX10_drawnOn 2 (some .int), Cond.methodLink RX10 68 yX10_drawnBy, Cond.instanceMethod yX10_drawnBy, Cond.selects RX10 yX10_drawnBy yX10_drawnBy, Cond.code yX10_drawnBy cX10_drawnBy 8 (some .int), Cond.methodLink RX10 61 yX10_onLine, Cond.instanceMethod yX10_onLine, Cond.selects RX10 yX10_onLine yX10_onLine]
def wsX10_droppedOf_r2 : List Cond := [Cond.code yX10_onLine cX10_onLine 4 (some .int), Cond.methodLink RX10 54 yX10_has, Cond.static yX10_has, Cond.code yX10_has cX10_has 2 (some .boolean), Cond.methodLink RX10 65 yX10_isAhead, Cond.instanceMethod yX10_isAhead, Cond.selects RX10 yX10_isAhead yX10_isAhead, Cond.code yX10_isAhead cX10_isAhead 5 (some .boolean)]
def wsX10_droppedOf : List Cond := .code yX10_droppedOf cX10_droppedOf 4 (some .int) :: ((wsX10_droppedOf_r1 ++ wsX10_droppedOf_r2) ++ wsX100)
def wsX10_meets_r1 : List Cond := [Cond.fieldLink RX10 33 "DotObjectsModel" "sets" "[I", Cond.fieldLink RX10 7 "DotObjectsModel" "now" "[I", Cond.methodLink RX10 81 yX10_draws, Cond.instanceMethod yX10_draws, Cond.selects RX10 yX10_draws yX10_draws, Cond.initialized RX10, Cond.code yX10_draws cX10_draws 2 none, Cond.methodLink RX10 78 yX10_drawnOn, Cond.instanceMethod yX10_drawnOn, Cond.selects RX10 yX10_drawnOn yX10_drawnOn, Cond.code yX10_drawnOn cX10_drawnOn 2 (some .int), Cond.methodLink RX10 68 yX10_drawnBy, Cond.instanceMethod yX10_drawnBy, Cond.selects RX10 yX10_drawnBy yX10_drawnBy, Cond.code yX10_drawnBy cX10_drawnBy 8 (some .int), Cond.methodLink RX10 61 yX10_onLine, Cond.instanceMethod yX10_onLine, Cond.selects RX10 yX10_onLine yX10_onLine, Cond.code yX10_onLine cX10_onLine 4 (some .int), Cond.methodLink RX10 58 yX10_isOn, Cond.instanceMethod yX10_isOn, Cond.selects RX10 yX10_isOn yX10_isOn, Cond.code yX10_isOn cX10_isOn 3 (some .boolean), Cond.methodLink RX10 50 yX10_of]
def wsX10_meets_r2 : List Cond := [Cond.instanceMethod yX10_of, Cond.selects RX10 yX10_of yX10_of, Cond.code yX10_of cX10_of 3 (some .int), Cond.methodLink RX10 42 yX10_in, Cond.static yX10_in, Cond.code yX10_in cX10_in 3 (some .boolean), Cond.methodLink RX10 54 yX10_has, Cond.static yX10_has, Cond.code yX10_has cX10_has 2 (some .boolean), Cond.methodLink RX10 65 yX10_isAhead, Cond.instanceMethod yX10_isAhead, Cond.selects RX10 yX10_isAhead yX10_isAhead, Cond.code yX10_isAhead cX10_isAhead 5 (some .boolean), Cond.methodLink RX10 71 yX10_hasDot, Cond.instanceMethod yX10_hasDot, Cond.selects RX10 yX10_hasDot yX10_hasDot, Cond.code yX10_hasDot cX10_hasDot 8 (some .boolean)]
def wsX10_meets : List Cond := .code yX10_meets cX10_meets 8 (some .int) :: ((wsX10_meets_r1 ++ wsX10_meets_r2) ++ wsX100)
def wsX10_thing_r1 : List Cond := [Cond.constant RX10 117 (-1000000001), Cond.fieldLink RX10 36 "DotObjectsModel" "holder" "[I", Cond.constant RX10 112 (-1000000002), Cond.methodLink RX10 113 yX10_isThing, Cond.instanceMethod yX10_isThing, Cond.selects RX10 yX10_isThing yX10_isThing, Cond.initialized RX10, Cond.code yX10_isThing cX10_isThing 2 (some .boolean), Cond.fieldLink RX10 7 "DotObjectsModel" "now" "[I", Cond.methodLink RX10 42 yX10_in, Cond.static yX10_in, Cond.code yX10_in cX10_in 3 (some .boolean), Cond.methodLink RX10 50 yX10_of, Cond.instanceMethod yX10_of, Cond.selects RX10 yX10_of yX10_of, Cond.code yX10_of cX10_of 3 (some .int), Cond.methodLink RX10 118 yX10_dotsOf, Cond.instanceMethod yX10_dotsOf, Cond.selects RX10 yX10_dotsOf yX10_dotsOf, Cond.code yX10_dotsOf cX10_dotsOf 7 (some .int), Cond.fieldLink RX10 33 "DotObjectsModel" "sets" "[I", Cond.methodLink RX10 81 yX10_draws, Cond.instanceMethod yX10_draws, Cond.selects RX10 yX10_draws yX10_draws]
def wsX10_thing_r2 : List Cond := [Cond.code yX10_draws cX10_draws 2 none, Cond.methodLink RX10 78 yX10_drawnOn, Cond.instanceMethod yX10_drawnOn, Cond.selects RX10 yX10_drawnOn yX10_drawnOn, Cond.code yX10_drawnOn cX10_drawnOn 2 (some .int), Cond.methodLink RX10 68 yX10_drawnBy, Cond.instanceMethod yX10_drawnBy, Cond.selects RX10 yX10_drawnBy yX10_drawnBy, Cond.code yX10_drawnBy cX10_drawnBy 8 (some .int), Cond.methodLink RX10 61 yX10_onLine, Cond.instanceMethod yX10_onLine, Cond.selects RX10 yX10_onLine yX10_onLine, Cond.code yX10_onLine cX10_onLine 4 (some .int), Cond.methodLink RX10 58 yX10_isOn, Cond.instanceMethod yX10_isOn, Cond.selects RX10 yX10_isOn yX10_isOn, Cond.code yX10_isOn cX10_isOn 3 (some .boolean), Cond.methodLink RX10 54 yX10_has, Cond.static yX10_has, Cond.code yX10_has cX10_has 2 (some .boolean), Cond.methodLink RX10 65 yX10_isAhead, Cond.instanceMethod yX10_isAhead, Cond.selects RX10 yX10_isAhead yX10_isAhead, Cond.code yX10_isAhead cX10_isAhead 5 (some .boolean)]
def wsX10_thing_r3 : List Cond := [Cond.methodLink RX10 71 yX10_hasDot, Cond.instanceMethod yX10_hasDot, Cond.selects RX10 yX10_hasDot yX10_hasDot, Cond.code yX10_hasDot cX10_hasDot 8 (some .boolean), Cond.methodLink RX10 74 yX10_seenAt, Cond.instanceMethod yX10_seenAt, Cond.selects RX10 yX10_seenAt yX10_seenAt, Cond.code yX10_seenAt cX10_seenAt 7 (some .int), Cond.methodLink RX10 121 yX10_droppedOf, Cond.instanceMethod yX10_droppedOf, Cond.selects RX10 yX10_droppedOf yX10_droppedOf, Cond.code yX10_droppedOf cX10_droppedOf 4 (some .int), Cond.methodLink RX10 103 yX10_holds, Cond.instanceMethod yX10_holds, Cond.selects RX10 yX10_holds yX10_holds, Cond.code yX10_holds cX10_holds 5 (some .int), Cond.fieldLink RX10 39 "DotObjectsModel" "ends" "[I", Cond.methodLink RX10 124 yX10_meets, Cond.instanceMethod yX10_meets, Cond.selects RX10 yX10_meets yX10_meets, Cond.code yX10_meets cX10_meets 8 (some .int)]
def wsX10_thing : List Cond := .code yX10_thing cX10_thing 3 (some .int) :: ((wsX10_thing_r1 ++ (wsX10_thing_r2 ++ wsX10_thing_r3)) ++ wsX100)
def wsX10_dot_r1 : List Cond := [Cond.constant RX10 112 (-1000000002), Cond.methodLink RX10 42 yX10_in, Cond.static yX10_in, Cond.initialized RX10, Cond.code yX10_in cX10_in 3 (some .boolean), Cond.methodLink RX10 78 yX10_drawnOn, Cond.instanceMethod yX10_drawnOn, Cond.selects RX10 yX10_drawnOn yX10_drawnOn, Cond.code yX10_drawnOn cX10_drawnOn 2 (some .int), Cond.fieldLink RX10 7 "DotObjectsModel" "now" "[I", Cond.methodLink RX10 68 yX10_drawnBy, Cond.instanceMethod yX10_drawnBy, Cond.selects RX10 yX10_drawnBy yX10_drawnBy, Cond.code yX10_drawnBy cX10_drawnBy 8 (some .int), Cond.methodLink RX10 61 yX10_onLine, Cond.instanceMethod yX10_onLine, Cond.selects RX10 yX10_onLine yX10_onLine, Cond.code yX10_onLine cX10_onLine 4 (some .int), Cond.methodLink RX10 58 yX10_isOn, Cond.instanceMethod yX10_isOn, Cond.selects RX10 yX10_isOn yX10_isOn, Cond.code yX10_isOn cX10_isOn 3 (some .boolean), Cond.methodLink RX10 50 yX10_of, Cond.instanceMethod yX10_of]
def wsX10_dot_r2 : List Cond := [Cond.selects RX10 yX10_of yX10_of, Cond.code yX10_of cX10_of 3 (some .int), Cond.methodLink RX10 54 yX10_has, Cond.static yX10_has, Cond.code yX10_has cX10_has 2 (some .boolean), Cond.methodLink RX10 65 yX10_isAhead, Cond.instanceMethod yX10_isAhead, Cond.selects RX10 yX10_isAhead yX10_isAhead, Cond.code yX10_isAhead cX10_isAhead 5 (some .boolean), Cond.methodLink RX10 74 yX10_seenAt, Cond.instanceMethod yX10_seenAt, Cond.selects RX10 yX10_seenAt yX10_seenAt, Cond.code yX10_seenAt cX10_seenAt 7 (some .int), Cond.methodLink RX10 71 yX10_hasDot, Cond.instanceMethod yX10_hasDot, Cond.selects RX10 yX10_hasDot yX10_hasDot, Cond.code yX10_hasDot cX10_hasDot 8 (some .boolean), Cond.methodLink RX10 84 yX10_colourAt, Cond.instanceMethod yX10_colourAt, Cond.selects RX10 yX10_colourAt yX10_colourAt, Cond.code yX10_colourAt cX10_colourAt 5 (some .int)]
def wsX10_dot : List Cond := .code yX10_dot cX10_dot 4 (some .int) :: ((wsX10_dot_r1 ++ wsX10_dot_r2) ++ wsX100)
def wsX10_line_r1 : List Cond := [Cond.constantLong RX10 128 (-1), Cond.constantLong RX10 130 (8), Cond.methodLink RX10 42 yX10_in, Cond.static yX10_in, Cond.initialized RX10, Cond.code yX10_in cX10_in 3 (some .boolean), Cond.methodLink RX10 78 yX10_drawnOn, Cond.instanceMethod yX10_drawnOn, Cond.selects RX10 yX10_drawnOn yX10_drawnOn, Cond.code yX10_drawnOn cX10_drawnOn 2 (some .int), Cond.fieldLink RX10 7 "DotObjectsModel" "now" "[I", Cond.methodLink RX10 68 yX10_drawnBy, Cond.instanceMethod yX10_drawnBy, Cond.selects RX10 yX10_drawnBy yX10_drawnBy, Cond.code yX10_drawnBy cX10_drawnBy 8 (some .int), Cond.methodLink RX10 61 yX10_onLine, Cond.instanceMethod yX10_onLine, Cond.selects RX10 yX10_onLine yX10_onLine, Cond.code yX10_onLine cX10_onLine 4 (some .int), Cond.methodLink RX10 58 yX10_isOn, Cond.instanceMethod yX10_isOn, Cond.selects RX10 yX10_isOn yX10_isOn, Cond.code yX10_isOn cX10_isOn 3 (some .boolean), Cond.methodLink RX10 50 yX10_of]
def wsX10_line_r2 : List Cond := [Cond.instanceMethod yX10_of, Cond.selects RX10 yX10_of yX10_of, Cond.code yX10_of cX10_of 3 (some .int), Cond.methodLink RX10 54 yX10_has, Cond.static yX10_has, Cond.code yX10_has cX10_has 2 (some .boolean), Cond.methodLink RX10 65 yX10_isAhead, Cond.instanceMethod yX10_isAhead, Cond.selects RX10 yX10_isAhead yX10_isAhead, Cond.code yX10_isAhead cX10_isAhead 5 (some .boolean), Cond.methodLink RX10 84 yX10_colourAt, Cond.instanceMethod yX10_colourAt, Cond.selects RX10 yX10_colourAt yX10_colourAt, Cond.code yX10_colourAt cX10_colourAt 5 (some .int), Cond.methodLink RX10 74 yX10_seenAt, Cond.instanceMethod yX10_seenAt, Cond.selects RX10 yX10_seenAt yX10_seenAt, Cond.code yX10_seenAt cX10_seenAt 7 (some .int), Cond.methodLink RX10 71 yX10_hasDot, Cond.instanceMethod yX10_hasDot, Cond.selects RX10 yX10_hasDot yX10_hasDot, Cond.code yX10_hasDot cX10_hasDot 8 (some .boolean)]
def wsX10_line : List Cond := .code yX10_line cX10_line 7 (some .long) :: ((wsX10_line_r1 ++ wsX10_line_r2) ++ wsX100)
def wsX10_drawn_r1 : List Cond := [Cond.constant RX10 112 (-1000000002), Cond.methodLink RX10 42 yX10_in, Cond.static yX10_in, Cond.initialized RX10, Cond.code yX10_in cX10_in 3 (some .boolean), Cond.methodLink RX10 78 yX10_drawnOn, Cond.instanceMethod yX10_drawnOn, Cond.selects RX10 yX10_drawnOn yX10_drawnOn, Cond.code yX10_drawnOn cX10_drawnOn 2 (some .int), Cond.fieldLink RX10 7 "DotObjectsModel" "now" "[I", Cond.methodLink RX10 68 yX10_drawnBy, Cond.instanceMethod yX10_drawnBy, Cond.selects RX10 yX10_drawnBy yX10_drawnBy, Cond.code yX10_drawnBy cX10_drawnBy 8 (some .int), Cond.methodLink RX10 61 yX10_onLine, Cond.instanceMethod yX10_onLine, Cond.selects RX10 yX10_onLine yX10_onLine, Cond.code yX10_onLine cX10_onLine 4 (some .int), Cond.methodLink RX10 58 yX10_isOn, Cond.instanceMethod yX10_isOn, Cond.selects RX10 yX10_isOn yX10_isOn, Cond.code yX10_isOn cX10_isOn 3 (some .boolean), Cond.methodLink RX10 50 yX10_of, Cond.instanceMethod yX10_of]
def wsX10_drawn_r2 : List Cond := [Cond.selects RX10 yX10_of yX10_of, Cond.code yX10_of cX10_of 3 (some .int), Cond.methodLink RX10 54 yX10_has, Cond.static yX10_has, Cond.code yX10_has cX10_has 2 (some .boolean), Cond.methodLink RX10 65 yX10_isAhead, Cond.instanceMethod yX10_isAhead, Cond.selects RX10 yX10_isAhead yX10_isAhead, Cond.code yX10_isAhead cX10_isAhead 5 (some .boolean)]
def wsX10_drawn : List Cond := .code yX10_drawn cX10_drawn 3 (some .int) :: ((wsX10_drawn_r1 ++ wsX10_drawn_r2) ++ wsX100)
def wsX10_pictureRow : List Cond := .code yX10_pictureRow cX10_pictureRow 3 (some .int) :: ([.constant RX10 117 (-1000000001), .fieldLink RX10 7 "DotObjectsModel" "now" "[I", .constant RX10 112 (-1000000002), .methodLink RX10 42 yX10_in, .static yX10_in, .initialized RX10, .code yX10_in cX10_in 3 (some .boolean)] ++ wsX100)
def wsX10_row : List Cond := .code yX10_row cX10_row 5 (some .int) :: ([.constant RX10 117 (-1000000001), .constant RX10 112 (-1000000002), .fieldLink RX10 7 "DotObjectsModel" "now" "[I", .methodLink RX10 42 yX10_in, .static yX10_in, .initialized RX10, .code yX10_in cX10_in 3 (some .boolean), .methodLink RX10 132 yX10_notes, .instanceMethod yX10_notes, .selects RX10 yX10_notes yX10_notes, .code yX10_notes cX10_notes 2 none, .fieldLink RX10 46 "DotObjectsModel" "deeds" "I", .fieldLink RX10 16 "DotObjectsModel" "past" "[I"] ++ wsX100)
def wsX10_puts : List Cond := .code yX10_puts cX10_puts 8 none :: ([.fieldLink RX10 7 "DotObjectsModel" "now" "[I"] ++ wsX100)
def wsX10_isPlace : List Cond := .code yX10_isPlace cX10_isPlace 2 (some .boolean) :: ([.methodLink RX10 42 yX10_in, .static yX10_in, .initialized RX10, .code yX10_in cX10_in 3 (some .boolean)])
def wsX10_put : List Cond := .code yX10_put cX10_put 7 (some .int) :: ([.constant RX10 117 (-1000000001), .constant RX10 112 (-1000000002), .fieldLink RX10 7 "DotObjectsModel" "now" "[I", .constant RX10 138 (-1000000004), .methodLink RX10 42 yX10_in, .static yX10_in, .initialized RX10, .code yX10_in cX10_in 3 (some .boolean), .methodLink RX10 135 yX10_isPlace, .static yX10_isPlace, .code yX10_isPlace cX10_isPlace 2 (some .boolean), .methodLink RX10 132 yX10_notes, .instanceMethod yX10_notes, .selects RX10 yX10_notes yX10_notes, .code yX10_notes cX10_notes 2 none, .fieldLink RX10 46 "DotObjectsModel" "deeds" "I", .fieldLink RX10 16 "DotObjectsModel" "past" "[I", .methodLink RX10 139 yX10_puts, .instanceMethod yX10_puts, .selects RX10 yX10_puts yX10_puts, .code yX10_puts cX10_puts 8 none] ++ wsX100)
def wsX10_move_r1 : List Cond := [Cond.constant RX10 117 (-1000000001), Cond.constant RX10 112 (-1000000002), Cond.fieldLink RX10 7 "DotObjectsModel" "now" "[I", Cond.methodLink RX10 113 yX10_isThing, Cond.instanceMethod yX10_isThing, Cond.selects RX10 yX10_isThing yX10_isThing, Cond.initialized RX10, Cond.code yX10_isThing cX10_isThing 2 (some .boolean), Cond.methodLink RX10 42 yX10_in, Cond.static yX10_in, Cond.code yX10_in cX10_in 3 (some .boolean), Cond.methodLink RX10 135 yX10_isPlace, Cond.static yX10_isPlace, Cond.code yX10_isPlace cX10_isPlace 2 (some .boolean), Cond.methodLink RX10 132 yX10_notes, Cond.instanceMethod yX10_notes, Cond.selects RX10 yX10_notes yX10_notes, Cond.code yX10_notes cX10_notes 2 none, Cond.fieldLink RX10 46 "DotObjectsModel" "deeds" "I", Cond.fieldLink RX10 16 "DotObjectsModel" "past" "[I", Cond.methodLink RX10 58 yX10_isOn, Cond.instanceMethod yX10_isOn, Cond.selects RX10 yX10_isOn yX10_isOn, Cond.code yX10_isOn cX10_isOn 3 (some .boolean)]
def wsX10_move_r2 : List Cond := [Cond.methodLink RX10 50 yX10_of, Cond.instanceMethod yX10_of, Cond.selects RX10 yX10_of yX10_of, Cond.code yX10_of cX10_of 3 (some .int)]
def wsX10_move : List Cond := .code yX10_move cX10_move 6 (some .int) :: ((wsX10_move_r1 ++ wsX10_move_r2) ++ wsX100)
def wsX10_turn_r1 : List Cond := [Cond.constant RX10 117 (-1000000001), Cond.constant RX10 112 (-1000000002), Cond.fieldLink RX10 7 "DotObjectsModel" "now" "[I", Cond.methodLink RX10 113 yX10_isThing, Cond.instanceMethod yX10_isThing, Cond.selects RX10 yX10_isThing yX10_isThing, Cond.initialized RX10, Cond.code yX10_isThing cX10_isThing 2 (some .boolean), Cond.methodLink RX10 42 yX10_in, Cond.static yX10_in, Cond.code yX10_in cX10_in 3 (some .boolean), Cond.methodLink RX10 132 yX10_notes, Cond.instanceMethod yX10_notes, Cond.selects RX10 yX10_notes yX10_notes, Cond.code yX10_notes cX10_notes 2 none, Cond.fieldLink RX10 46 "DotObjectsModel" "deeds" "I", Cond.fieldLink RX10 16 "DotObjectsModel" "past" "[I", Cond.methodLink RX10 118 yX10_dotsOf, Cond.instanceMethod yX10_dotsOf, Cond.selects RX10 yX10_dotsOf yX10_dotsOf, Cond.code yX10_dotsOf cX10_dotsOf 7 (some .int), Cond.fieldLink RX10 33 "DotObjectsModel" "sets" "[I", Cond.methodLink RX10 81 yX10_draws, Cond.instanceMethod yX10_draws]
def wsX10_turn_r2 : List Cond := [Cond.selects RX10 yX10_draws yX10_draws, Cond.code yX10_draws cX10_draws 2 none, Cond.methodLink RX10 78 yX10_drawnOn, Cond.instanceMethod yX10_drawnOn, Cond.selects RX10 yX10_drawnOn yX10_drawnOn, Cond.code yX10_drawnOn cX10_drawnOn 2 (some .int), Cond.methodLink RX10 68 yX10_drawnBy, Cond.instanceMethod yX10_drawnBy, Cond.selects RX10 yX10_drawnBy yX10_drawnBy, Cond.code yX10_drawnBy cX10_drawnBy 8 (some .int), Cond.methodLink RX10 61 yX10_onLine, Cond.instanceMethod yX10_onLine, Cond.selects RX10 yX10_onLine yX10_onLine, Cond.code yX10_onLine cX10_onLine 4 (some .int), Cond.methodLink RX10 58 yX10_isOn, Cond.instanceMethod yX10_isOn, Cond.selects RX10 yX10_isOn yX10_isOn, Cond.code yX10_isOn cX10_isOn 3 (some .boolean), Cond.methodLink RX10 50 yX10_of, Cond.instanceMethod yX10_of, Cond.selects RX10 yX10_of yX10_of, Cond.code yX10_of cX10_of 3 (some .int), Cond.methodLink RX10 54 yX10_has, Cond.static yX10_has]
def wsX10_turn_r3 : List Cond := [Cond.code yX10_has cX10_has 2 (some .boolean), Cond.methodLink RX10 65 yX10_isAhead, Cond.instanceMethod yX10_isAhead, Cond.selects RX10 yX10_isAhead yX10_isAhead, Cond.code yX10_isAhead cX10_isAhead 5 (some .boolean), Cond.methodLink RX10 71 yX10_hasDot, Cond.instanceMethod yX10_hasDot, Cond.selects RX10 yX10_hasDot yX10_hasDot, Cond.code yX10_hasDot cX10_hasDot 8 (some .boolean), Cond.methodLink RX10 74 yX10_seenAt, Cond.instanceMethod yX10_seenAt, Cond.selects RX10 yX10_seenAt yX10_seenAt, Cond.code yX10_seenAt cX10_seenAt 7 (some .int)]
def wsX10_turn : List Cond := .code yX10_turn cX10_turn 4 (some .int) :: ((wsX10_turn_r1 ++ (wsX10_turn_r2 ++ wsX10_turn_r3)) ++ wsX100)
def wsX10_speed : List Cond := .code yX10_speed cX10_speed 4 (some .int) :: ([.constant RX10 117 (-1000000001), .constant RX10 112 (-1000000002), .fieldLink RX10 7 "DotObjectsModel" "now" "[I", .methodLink RX10 113 yX10_isThing, .instanceMethod yX10_isThing, .selects RX10 yX10_isThing yX10_isThing, .initialized RX10, .code yX10_isThing cX10_isThing 2 (some .boolean), .methodLink RX10 42 yX10_in, .static yX10_in, .code yX10_in cX10_in 3 (some .boolean), .methodLink RX10 132 yX10_notes, .instanceMethod yX10_notes, .selects RX10 yX10_notes yX10_notes, .code yX10_notes cX10_notes 2 none, .fieldLink RX10 46 "DotObjectsModel" "deeds" "I", .fieldLink RX10 16 "DotObjectsModel" "past" "[I"] ++ wsX100)
def wsX10_take : List Cond := .code yX10_take cX10_take 3 (some .int) :: ([.constant RX10 117 (-1000000001), .fieldLink RX10 7 "DotObjectsModel" "now" "[I", .methodLink RX10 113 yX10_isThing, .instanceMethod yX10_isThing, .selects RX10 yX10_isThing yX10_isThing, .initialized RX10, .code yX10_isThing cX10_isThing 2 (some .boolean), .methodLink RX10 42 yX10_in, .static yX10_in, .code yX10_in cX10_in 3 (some .boolean), .methodLink RX10 132 yX10_notes, .instanceMethod yX10_notes, .selects RX10 yX10_notes yX10_notes, .code yX10_notes cX10_notes 2 none, .fieldLink RX10 46 "DotObjectsModel" "deeds" "I", .fieldLink RX10 16 "DotObjectsModel" "past" "[I"] ++ wsX100)
def wsX10_limit_r1 : List Cond := [Cond.constant RX10 112 (-1000000002), Cond.fieldLink RX10 7 "DotObjectsModel" "now" "[I", Cond.methodLink RX10 42 yX10_in, Cond.static yX10_in, Cond.initialized RX10, Cond.code yX10_in cX10_in 3 (some .boolean), Cond.methodLink RX10 132 yX10_notes, Cond.instanceMethod yX10_notes, Cond.selects RX10 yX10_notes yX10_notes, Cond.code yX10_notes cX10_notes 2 none, Cond.fieldLink RX10 46 "DotObjectsModel" "deeds" "I", Cond.fieldLink RX10 16 "DotObjectsModel" "past" "[I", Cond.methodLink RX10 87 yX10_missing, Cond.instanceMethod yX10_missing, Cond.selects RX10 yX10_missing yX10_missing, Cond.code yX10_missing cX10_missing 5 (some .int), Cond.fieldLink RX10 33 "DotObjectsModel" "sets" "[I", Cond.methodLink RX10 81 yX10_draws, Cond.instanceMethod yX10_draws, Cond.selects RX10 yX10_draws yX10_draws, Cond.code yX10_draws cX10_draws 2 none, Cond.methodLink RX10 78 yX10_drawnOn, Cond.instanceMethod yX10_drawnOn, Cond.selects RX10 yX10_drawnOn yX10_drawnOn]
def wsX10_limit_r2 : List Cond := [Cond.code yX10_drawnOn cX10_drawnOn 2 (some .int), Cond.methodLink RX10 68 yX10_drawnBy, Cond.instanceMethod yX10_drawnBy, Cond.selects RX10 yX10_drawnBy yX10_drawnBy, Cond.code yX10_drawnBy cX10_drawnBy 8 (some .int), Cond.methodLink RX10 61 yX10_onLine, Cond.instanceMethod yX10_onLine, Cond.selects RX10 yX10_onLine yX10_onLine, Cond.code yX10_onLine cX10_onLine 4 (some .int), Cond.methodLink RX10 58 yX10_isOn, Cond.instanceMethod yX10_isOn, Cond.selects RX10 yX10_isOn yX10_isOn, Cond.code yX10_isOn cX10_isOn 3 (some .boolean), Cond.methodLink RX10 50 yX10_of, Cond.instanceMethod yX10_of, Cond.selects RX10 yX10_of yX10_of, Cond.code yX10_of cX10_of 3 (some .int), Cond.methodLink RX10 54 yX10_has, Cond.static yX10_has, Cond.code yX10_has cX10_has 2 (some .boolean), Cond.methodLink RX10 65 yX10_isAhead, Cond.instanceMethod yX10_isAhead, Cond.selects RX10 yX10_isAhead yX10_isAhead, Cond.code yX10_isAhead cX10_isAhead 5 (some .boolean)]
def wsX10_limit_r3 : List Cond := [Cond.methodLink RX10 84 yX10_colourAt, Cond.instanceMethod yX10_colourAt, Cond.selects RX10 yX10_colourAt yX10_colourAt, Cond.code yX10_colourAt cX10_colourAt 5 (some .int), Cond.methodLink RX10 74 yX10_seenAt, Cond.instanceMethod yX10_seenAt, Cond.selects RX10 yX10_seenAt yX10_seenAt, Cond.code yX10_seenAt cX10_seenAt 7 (some .int), Cond.methodLink RX10 71 yX10_hasDot, Cond.instanceMethod yX10_hasDot, Cond.selects RX10 yX10_hasDot yX10_hasDot, Cond.code yX10_hasDot cX10_hasDot 8 (some .boolean)]
def wsX10_limit : List Cond := .code yX10_limit cX10_limit 2 (some .int) :: ((wsX10_limit_r1 ++ (wsX10_limit_r2 ++ wsX10_limit_r3)) ++ wsX100)
def wsX10_rule_r1 : List Cond := [Cond.constant RX10 112 (-1000000002), Cond.fieldLink RX10 7 "DotObjectsModel" "now" "[I", Cond.methodLink RX10 42 yX10_in, Cond.static yX10_in, Cond.initialized RX10, Cond.code yX10_in cX10_in 3 (some .boolean), Cond.methodLink RX10 132 yX10_notes, Cond.instanceMethod yX10_notes, Cond.selects RX10 yX10_notes yX10_notes, Cond.code yX10_notes cX10_notes 2 none, Cond.fieldLink RX10 46 "DotObjectsModel" "deeds" "I", Cond.fieldLink RX10 16 "DotObjectsModel" "past" "[I", Cond.methodLink RX10 87 yX10_missing, Cond.instanceMethod yX10_missing, Cond.selects RX10 yX10_missing yX10_missing, Cond.code yX10_missing cX10_missing 5 (some .int), Cond.fieldLink RX10 33 "DotObjectsModel" "sets" "[I", Cond.methodLink RX10 81 yX10_draws, Cond.instanceMethod yX10_draws, Cond.selects RX10 yX10_draws yX10_draws, Cond.code yX10_draws cX10_draws 2 none, Cond.methodLink RX10 78 yX10_drawnOn, Cond.instanceMethod yX10_drawnOn, Cond.selects RX10 yX10_drawnOn yX10_drawnOn]
def wsX10_rule_r2 : List Cond := [Cond.code yX10_drawnOn cX10_drawnOn 2 (some .int), Cond.methodLink RX10 68 yX10_drawnBy, Cond.instanceMethod yX10_drawnBy, Cond.selects RX10 yX10_drawnBy yX10_drawnBy, Cond.code yX10_drawnBy cX10_drawnBy 8 (some .int), Cond.methodLink RX10 61 yX10_onLine, Cond.instanceMethod yX10_onLine, Cond.selects RX10 yX10_onLine yX10_onLine, Cond.code yX10_onLine cX10_onLine 4 (some .int), Cond.methodLink RX10 58 yX10_isOn, Cond.instanceMethod yX10_isOn, Cond.selects RX10 yX10_isOn yX10_isOn, Cond.code yX10_isOn cX10_isOn 3 (some .boolean), Cond.methodLink RX10 50 yX10_of, Cond.instanceMethod yX10_of, Cond.selects RX10 yX10_of yX10_of, Cond.code yX10_of cX10_of 3 (some .int), Cond.methodLink RX10 54 yX10_has, Cond.static yX10_has, Cond.code yX10_has cX10_has 2 (some .boolean), Cond.methodLink RX10 65 yX10_isAhead, Cond.instanceMethod yX10_isAhead, Cond.selects RX10 yX10_isAhead yX10_isAhead, Cond.code yX10_isAhead cX10_isAhead 5 (some .boolean)]
def wsX10_rule_r3 : List Cond := [Cond.methodLink RX10 84 yX10_colourAt, Cond.instanceMethod yX10_colourAt, Cond.selects RX10 yX10_colourAt yX10_colourAt, Cond.code yX10_colourAt cX10_colourAt 5 (some .int), Cond.methodLink RX10 74 yX10_seenAt, Cond.instanceMethod yX10_seenAt, Cond.selects RX10 yX10_seenAt yX10_seenAt, Cond.code yX10_seenAt cX10_seenAt 7 (some .int), Cond.methodLink RX10 71 yX10_hasDot, Cond.instanceMethod yX10_hasDot, Cond.selects RX10 yX10_hasDot yX10_hasDot, Cond.code yX10_hasDot cX10_hasDot 8 (some .boolean)]
def wsX10_rule : List Cond := .code yX10_rule cX10_rule 2 (some .int) :: ((wsX10_rule_r1 ++ (wsX10_rule_r2 ++ wsX10_rule_r3)) ++ wsX100)
def wsX10_goes : List Cond := .code yX10_goes cX10_goes 3 none :: ([.fieldLink RX10 7 "DotObjectsModel" "now" "[I"] ++ wsX100)
def wsX10_frame : List Cond := .code yX10_frame cX10_frame 3 (some .int) :: ([.constant RX10 112 (-1000000002), .fieldLink RX10 7 "DotObjectsModel" "now" "[I", .methodLink RX10 42 yX10_in, .static yX10_in, .initialized RX10, .code yX10_in cX10_in 3 (some .boolean), .methodLink RX10 132 yX10_notes, .instanceMethod yX10_notes, .selects RX10 yX10_notes yX10_notes, .code yX10_notes cX10_notes 2 none, .fieldLink RX10 46 "DotObjectsModel" "deeds" "I", .fieldLink RX10 16 "DotObjectsModel" "past" "[I", .methodLink RX10 143 yX10_goes, .instanceMethod yX10_goes, .selects RX10 yX10_goes yX10_goes, .code yX10_goes cX10_goes 3 none] ++ wsX100)
def wsX10_drawOf : List Cond := .code yX10_drawOf cX10_drawOf 2 (some .int) :: ([.fieldLink RX10 146 "DotObjectsModel" "seed" "J", .constantLong RX10 150 (1103515245), .constantLong RX10 152 (12345), .constantLong RX10 154 (2147483648), .constantLong RX10 156 (65536)] ++ wsX100)
def wsX10_drift_r1 : List Cond := [Cond.constant RX10 112 (-1000000002), Cond.fieldLink RX10 7 "DotObjectsModel" "now" "[I", Cond.methodLink RX10 42 yX10_in, Cond.static yX10_in, Cond.initialized RX10, Cond.code yX10_in cX10_in 3 (some .boolean), Cond.methodLink RX10 132 yX10_notes, Cond.instanceMethod yX10_notes, Cond.selects RX10 yX10_notes yX10_notes, Cond.code yX10_notes cX10_notes 2 none, Cond.fieldLink RX10 46 "DotObjectsModel" "deeds" "I", Cond.fieldLink RX10 16 "DotObjectsModel" "past" "[I", Cond.methodLink RX10 158 yX10_drawOf, Cond.instanceMethod yX10_drawOf, Cond.selects RX10 yX10_drawOf yX10_drawOf, Cond.code yX10_drawOf cX10_drawOf 2 (some .int), Cond.fieldLink RX10 146 "DotObjectsModel" "seed" "J", Cond.constantLong RX10 150 (1103515245), Cond.constantLong RX10 152 (12345), Cond.constantLong RX10 154 (2147483648), Cond.constantLong RX10 156 (65536), Cond.methodLink RX10 139 yX10_puts, Cond.instanceMethod yX10_puts, Cond.selects RX10 yX10_puts yX10_puts]
def wsX10_drift_r2 : List Cond := [Cond.code yX10_puts cX10_puts 8 none]
def wsX10_drift : List Cond := .code yX10_drift cX10_drift 8 (some .int) :: ((wsX10_drift_r1 ++ wsX10_drift_r2) ++ wsX100)
def wsX10_undo : List Cond := .code yX10_undo cX10_undo 3 (some .int) :: ([.constant RX10 112 (-1000000002), .fieldLink RX10 46 "DotObjectsModel" "deeds" "I", .constant RX10 161 (-1000000003), .fieldLink RX10 7 "DotObjectsModel" "now" "[I", .fieldLink RX10 16 "DotObjectsModel" "past" "[I", .methodLink RX10 42 yX10_in, .static yX10_in, .initialized RX10, .code yX10_in cX10_in 3 (some .boolean)] ++ wsX100)
def wsX10_leftOutOf_r1 : List Cond := [Cond.fieldLink RX10 13 "DotObjectsModel" "aside" "[I", Cond.fieldLink RX10 7 "DotObjectsModel" "now" "[I", Cond.methodLink RX10 121 yX10_droppedOf, Cond.instanceMethod yX10_droppedOf, Cond.selects RX10 yX10_droppedOf yX10_droppedOf, Cond.initialized RX10, Cond.code yX10_droppedOf cX10_droppedOf 4 (some .int), Cond.methodLink RX10 58 yX10_isOn, Cond.instanceMethod yX10_isOn, Cond.selects RX10 yX10_isOn yX10_isOn, Cond.code yX10_isOn cX10_isOn 3 (some .boolean), Cond.methodLink RX10 50 yX10_of, Cond.instanceMethod yX10_of, Cond.selects RX10 yX10_of yX10_of, Cond.code yX10_of cX10_of 3 (some .int), Cond.methodLink RX10 42 yX10_in, Cond.static yX10_in, Cond.code yX10_in cX10_in 3 (some .boolean), Cond.methodLink RX10 78 yX10_drawnOn, Cond.instanceMethod yX10_drawnOn, Cond.selects RX10 yX10_drawnOn yX10_drawnOn, Cond.code yX10_drawnOn cX10_drawnOn 2 (some .int), Cond.methodLink RX10 68 yX10_drawnBy, Cond.instanceMethod yX10_drawnBy]
def wsX10_leftOutOf_r2 : List Cond := [Cond.selects RX10 yX10_drawnBy yX10_drawnBy, Cond.code yX10_drawnBy cX10_drawnBy 8 (some .int), Cond.methodLink RX10 61 yX10_onLine, Cond.instanceMethod yX10_onLine, Cond.selects RX10 yX10_onLine yX10_onLine, Cond.code yX10_onLine cX10_onLine 4 (some .int), Cond.methodLink RX10 54 yX10_has, Cond.static yX10_has, Cond.code yX10_has cX10_has 2 (some .boolean), Cond.methodLink RX10 65 yX10_isAhead, Cond.instanceMethod yX10_isAhead, Cond.selects RX10 yX10_isAhead yX10_isAhead, Cond.code yX10_isAhead cX10_isAhead 5 (some .boolean), Cond.methodLink RX10 91 yX10_ones, Cond.static yX10_ones, Cond.code yX10_ones cX10_ones 3 (some .int), Cond.methodLink RX10 143 yX10_goes, Cond.instanceMethod yX10_goes, Cond.selects RX10 yX10_goes yX10_goes, Cond.code yX10_goes cX10_goes 3 none]
def wsX10_leftOutOf : List Cond := .code yX10_leftOutOf cX10_leftOutOf 5 (some .int) :: ((wsX10_leftOutOf_r1 ++ wsX10_leftOutOf_r2) ++ wsX100)
def wsX10_leftOut_r1 : List Cond := [Cond.constant RX10 117 (-1000000001), Cond.constant RX10 112 (-1000000002), Cond.methodLink RX10 113 yX10_isThing, Cond.instanceMethod yX10_isThing, Cond.selects RX10 yX10_isThing yX10_isThing, Cond.initialized RX10, Cond.code yX10_isThing cX10_isThing 2 (some .boolean), Cond.fieldLink RX10 7 "DotObjectsModel" "now" "[I", Cond.methodLink RX10 42 yX10_in, Cond.static yX10_in, Cond.code yX10_in cX10_in 3 (some .boolean), Cond.methodLink RX10 162 yX10_leftOutOf, Cond.instanceMethod yX10_leftOutOf, Cond.selects RX10 yX10_leftOutOf yX10_leftOutOf, Cond.code yX10_leftOutOf cX10_leftOutOf 5 (some .int), Cond.fieldLink RX10 13 "DotObjectsModel" "aside" "[I", Cond.methodLink RX10 121 yX10_droppedOf, Cond.instanceMethod yX10_droppedOf, Cond.selects RX10 yX10_droppedOf yX10_droppedOf, Cond.code yX10_droppedOf cX10_droppedOf 4 (some .int), Cond.methodLink RX10 58 yX10_isOn, Cond.instanceMethod yX10_isOn, Cond.selects RX10 yX10_isOn yX10_isOn, Cond.code yX10_isOn cX10_isOn 3 (some .boolean)]
def wsX10_leftOut_r2 : List Cond := [Cond.methodLink RX10 50 yX10_of, Cond.instanceMethod yX10_of, Cond.selects RX10 yX10_of yX10_of, Cond.code yX10_of cX10_of 3 (some .int), Cond.methodLink RX10 78 yX10_drawnOn, Cond.instanceMethod yX10_drawnOn, Cond.selects RX10 yX10_drawnOn yX10_drawnOn, Cond.code yX10_drawnOn cX10_drawnOn 2 (some .int), Cond.methodLink RX10 68 yX10_drawnBy, Cond.instanceMethod yX10_drawnBy, Cond.selects RX10 yX10_drawnBy yX10_drawnBy, Cond.code yX10_drawnBy cX10_drawnBy 8 (some .int), Cond.methodLink RX10 61 yX10_onLine, Cond.instanceMethod yX10_onLine, Cond.selects RX10 yX10_onLine yX10_onLine, Cond.code yX10_onLine cX10_onLine 4 (some .int), Cond.methodLink RX10 54 yX10_has, Cond.static yX10_has, Cond.code yX10_has cX10_has 2 (some .boolean), Cond.methodLink RX10 65 yX10_isAhead, Cond.instanceMethod yX10_isAhead, Cond.selects RX10 yX10_isAhead yX10_isAhead, Cond.code yX10_isAhead cX10_isAhead 5 (some .boolean), Cond.methodLink RX10 91 yX10_ones]
def wsX10_leftOut_r3 : List Cond := [Cond.static yX10_ones, Cond.code yX10_ones cX10_ones 3 (some .int), Cond.methodLink RX10 143 yX10_goes, Cond.instanceMethod yX10_goes, Cond.selects RX10 yX10_goes yX10_goes, Cond.code yX10_goes cX10_goes 3 none]
def wsX10_leftOut : List Cond := .code yX10_leftOut cX10_leftOut 3 (some .int) :: ((wsX10_leftOut_r1 ++ (wsX10_leftOut_r2 ++ wsX10_leftOut_r3)) ++ wsX100)
def wsX10_worst_r1 : List Cond := [Cond.constant RX10 112 (-1000000002), Cond.fieldLink RX10 7 "DotObjectsModel" "now" "[I", Cond.methodLink RX10 42 yX10_in, Cond.static yX10_in, Cond.initialized RX10, Cond.code yX10_in cX10_in 3 (some .boolean), Cond.methodLink RX10 162 yX10_leftOutOf, Cond.instanceMethod yX10_leftOutOf, Cond.selects RX10 yX10_leftOutOf yX10_leftOutOf, Cond.code yX10_leftOutOf cX10_leftOutOf 5 (some .int), Cond.fieldLink RX10 13 "DotObjectsModel" "aside" "[I", Cond.methodLink RX10 121 yX10_droppedOf, Cond.instanceMethod yX10_droppedOf, Cond.selects RX10 yX10_droppedOf yX10_droppedOf, Cond.code yX10_droppedOf cX10_droppedOf 4 (some .int), Cond.methodLink RX10 58 yX10_isOn, Cond.instanceMethod yX10_isOn, Cond.selects RX10 yX10_isOn yX10_isOn, Cond.code yX10_isOn cX10_isOn 3 (some .boolean), Cond.methodLink RX10 50 yX10_of, Cond.instanceMethod yX10_of, Cond.selects RX10 yX10_of yX10_of, Cond.code yX10_of cX10_of 3 (some .int), Cond.methodLink RX10 78 yX10_drawnOn]
def wsX10_worst_r2 : List Cond := [Cond.instanceMethod yX10_drawnOn, Cond.selects RX10 yX10_drawnOn yX10_drawnOn, Cond.code yX10_drawnOn cX10_drawnOn 2 (some .int), Cond.methodLink RX10 68 yX10_drawnBy, Cond.instanceMethod yX10_drawnBy, Cond.selects RX10 yX10_drawnBy yX10_drawnBy, Cond.code yX10_drawnBy cX10_drawnBy 8 (some .int), Cond.methodLink RX10 61 yX10_onLine, Cond.instanceMethod yX10_onLine, Cond.selects RX10 yX10_onLine yX10_onLine, Cond.code yX10_onLine cX10_onLine 4 (some .int), Cond.methodLink RX10 54 yX10_has, Cond.static yX10_has, Cond.code yX10_has cX10_has 2 (some .boolean), Cond.methodLink RX10 65 yX10_isAhead, Cond.instanceMethod yX10_isAhead, Cond.selects RX10 yX10_isAhead yX10_isAhead, Cond.code yX10_isAhead cX10_isAhead 5 (some .boolean), Cond.methodLink RX10 91 yX10_ones, Cond.static yX10_ones, Cond.code yX10_ones cX10_ones 3 (some .int), Cond.methodLink RX10 143 yX10_goes, Cond.instanceMethod yX10_goes, Cond.selects RX10 yX10_goes yX10_goes]
def wsX10_worst_r3 : List Cond := [Cond.code yX10_goes cX10_goes 3 none]
def wsX10_worst : List Cond := .code yX10_worst cX10_worst 6 (some .int) :: ((wsX10_worst_r1 ++ (wsX10_worst_r2 ++ wsX10_worst_r3)) ++ wsX100)
def wsX10_write : List Cond := .code yX10_write cX10_write 4 (some .int) :: ([.constant RX10 112 (-1000000002), .fieldLink RX10 94 "DotObjectsModel" "entries" "I", .constant RX10 138 (-1000000004), .fieldLink RX10 30 "DotObjectsModel" "book" "[I", .methodLink RX10 42 yX10_in, .static yX10_in, .initialized RX10, .code yX10_in cX10_in 3 (some .boolean)] ++ wsX100)
def wsX10_tear : List Cond := .code yX10_tear cX10_tear 2 (some .int) :: ([.fieldLink RX10 94 "DotObjectsModel" "entries" "I"] ++ wsX100)
def wsX10_seed : List Cond := .code yX10_seed cX10_seed 3 (some .int) :: ([.constant RX10 112 (-1000000002), .fieldLink RX10 146 "DotObjectsModel" "seed" "J"] ++ wsX100)
def wsX10_keep : List Cond := .code yX10_keep cX10_keep 3 (some .int) :: ([.constant RX10 117 (-1000000001), .fieldLink RX10 19 "DotObjectsModel" "images" "[I", .fieldLink RX10 7 "DotObjectsModel" "now" "[I", .fieldLink RX10 22 "DotObjectsModel" "seeds" "[J", .fieldLink RX10 146 "DotObjectsModel" "seed" "J", .fieldLink RX10 26 "DotObjectsModel" "kept" "[Z", .fieldLink RX10 46 "DotObjectsModel" "deeds" "I", .methodLink RX10 42 yX10_in, .static yX10_in, .initialized RX10, .code yX10_in cX10_in 3 (some .boolean)] ++ wsX100)
def wsX10_goBack : List Cond := .code yX10_goBack cX10_goBack 3 (some .int) :: ([.constant RX10 117 (-1000000001), .fieldLink RX10 26 "DotObjectsModel" "kept" "[Z", .constant RX10 161 (-1000000003), .fieldLink RX10 7 "DotObjectsModel" "now" "[I", .fieldLink RX10 19 "DotObjectsModel" "images" "[I", .fieldLink RX10 22 "DotObjectsModel" "seeds" "[J", .fieldLink RX10 146 "DotObjectsModel" "seed" "J", .fieldLink RX10 46 "DotObjectsModel" "deeds" "I", .methodLink RX10 42 yX10_in, .static yX10_in, .initialized RX10, .code yX10_in cX10_in 3 (some .boolean)] ++ wsX100)
def wsJ9_max_7cf53 : List Cond := .code yJ9_max_7cf53 cJ9_max_7cf53 2 (some .int) :: ([])
def wsJ9_min_7cf53 : List Cond := .code yJ9_min_7cf53 cJ9_min_7cf53 2 (some .int) :: ([])
def wsL_law_r1 : List Cond := [Cond.classLink RL 7 RX9, Cond.instantiable RX9 10, Cond.initialized RX9, Cond.classLink RL 10 RX10, Cond.instantiable RX10 13, Cond.initialized RX10, Cond.methodLink RL 9 yX9_init, Cond.instanceMethod yX9_init, Cond.code yX9_init cX9_init 1 none, Cond.methodLink RX9 1 objectInit, Cond.instanceMethod objectInit, Cond.code objectInit ⟨#[0xb1]⟩ 1 none, Cond.classLink RX9 7 RX7, Cond.instantiable RX7 1, Cond.initialized RX7, Cond.fieldLink RX9 10 "DotObjects" "scene" "LDotObjects$Scene;", Cond.classLink RX9 16 RX8, Cond.instantiable RX8 3, Cond.initialized RX8, Cond.fieldLink RX9 19 "DotObjects" "screen" "LDotObjects$Screen;", Cond.classLink RX9 23 RX4, Cond.instantiable RX4 3, Cond.initialized RX4, Cond.fieldLink RX9 26 "DotObjects" "holders" "LDotObjects$Holders;"]
def wsL_law_r2 : List Cond := [Cond.classLink RX9 30 RX2, Cond.instantiable RX2 3, Cond.initialized RX2, Cond.fieldLink RX9 33 "DotObjects" "forecast" "LDotObjects$Forecast;", Cond.classLink RX9 37 RX3, Cond.instantiable RX3 3, Cond.initialized RX3, Cond.fieldLink RX9 40 "DotObjects" "history" "LDotObjects$History;", Cond.classLink RX9 44 RX0, Cond.instantiable RX0 4, Cond.initialized RX0, Cond.fieldLink RX9 47 "DotObjects" "book" "LDotObjects$Book;", Cond.classLink RX9 51 RX1, Cond.instantiable RX1 1, Cond.initialized RX1, Cond.fieldLink RX9 54 "DotObjects" "draws" "LDotObjects$Draws;", Cond.classLink RX9 58 "[[I", Cond.arrayClass .int, Cond.fieldLink RX9 60 "DotObjects" "images" "[[I", Cond.fieldLink RX9 63 "DotObjects" "imageSeeds" "[I", Cond.arrayClass .boolean, Cond.fieldLink RX9 67 "DotObjects" "kept" "[Z", Cond.methodLink RX9 9 yX7_init, Cond.instanceMethod yX7_init]
def wsL_law_r3 : List Cond := [Cond.code yX7_init cX7_init 2 none, Cond.methodLink RX7 5 objectInit, Cond.fieldLink RX7 11 "DotObjects$Scene" "cells" "[I", Cond.instanceMethod yX8_init, Cond.code yX8_init cX8_init 1 none, Cond.methodLink RX8 3 objectInit, Cond.classLink RX8 9 RX5, Cond.instantiable RX5 1, Cond.initialized RX5, Cond.fieldLink RX8 12 "DotObjects$Screen" "order" "LDotObjects$Order;", Cond.classLink RX8 18 RX6, Cond.instantiable RX6 3, Cond.initialized RX6, Cond.fieldLink RX8 21 "DotObjects$Screen" "now" "LDotObjects$PaintedLine;", Cond.fieldLink RX8 25 "DotObjects$Screen" "whole" "LDotObjects$PaintedLine;", Cond.instanceMethod yX5_init, Cond.code yX5_init cX5_init 1 none, Cond.methodLink RX5 3 objectInit, Cond.fieldLink RX5 9 "DotObjects$Order" "order" "[I", Cond.instanceMethod yX6_init, Cond.code yX6_init cX6_init 1 none, Cond.methodLink RX6 3 objectInit, Cond.fieldLink RX6 9 "DotObjects$PaintedLine" "seen" "[I", Cond.fieldLink RX6 15 "DotObjects$PaintedLine" "planes" "[I"]
def wsL_law_r4 : List Cond := [Cond.instanceMethod yX4_init, Cond.code yX4_init cX4_init 1 none, Cond.methodLink RX4 3 objectInit, Cond.fieldLink RX4 9 "DotObjects$Holders" "holders" "[I", Cond.fieldLink RX4 15 "DotObjects$Holders" "ends" "[I", Cond.instanceMethod yX2_init, Cond.code yX2_init cX2_init 1 none, Cond.methodLink RX2 3 objectInit, Cond.classLink RX2 9 RX7, Cond.fieldLink RX2 12 "DotObjects$Forecast" "ahead" "LDotObjects$Scene;", Cond.classLink RX2 18 RX5, Cond.fieldLink RX2 21 "DotObjects$Forecast" "order" "LDotObjects$Order;", Cond.fieldLink RX2 25 "DotObjects$Forecast" "drops" "[I", Cond.methodLink RX2 11 yX7_init, Cond.instanceMethod yX3_init, Cond.code yX3_init cX3_init 1 none, Cond.methodLink RX3 3 objectInit, Cond.classLink RX3 11 "[[I", Cond.fieldLink RX3 13 "DotObjects$History" "earlier" "[[I", Cond.instanceMethod yX0_init, Cond.code yX0_init cX0_init 1 none, Cond.methodLink RX0 3 objectInit, Cond.fieldLink RX0 9 "DotObjects$Book" "lines" "[I", Cond.fieldLink RX0 15 "DotObjects$Book" "columns" "[I"]
def wsL_law_r5 : List Cond := [Cond.fieldLink RX0 18 "DotObjects$Book" "colours" "[I", Cond.instanceMethod yX1_init, Cond.code yX1_init cX1_init 1 none, Cond.methodLink RX1 3 objectInit, Cond.methodLink RL 12 yX10_init, Cond.instanceMethod yX10_init, Cond.code yX10_init cX10_init 2 none, Cond.methodLink RX10 1 objectInit, Cond.fieldLink RX10 7 "DotObjectsModel" "now" "[I", Cond.fieldLink RX10 13 "DotObjectsModel" "aside" "[I", Cond.fieldLink RX10 16 "DotObjectsModel" "past" "[I", Cond.fieldLink RX10 19 "DotObjectsModel" "images" "[I", Cond.arrayClass .long, Cond.fieldLink RX10 22 "DotObjectsModel" "seeds" "[J", Cond.fieldLink RX10 26 "DotObjectsModel" "kept" "[Z", Cond.fieldLink RX10 30 "DotObjectsModel" "book" "[I", Cond.fieldLink RX10 33 "DotObjectsModel" "sets" "[I", Cond.fieldLink RX10 36 "DotObjectsModel" "holder" "[I", Cond.fieldLink RX10 39 "DotObjectsModel" "ends" "[I", Cond.methodLink RL 13 yX9_told, Cond.instanceMethod yX9_told, Cond.selects RX9 yX9_told yX9_told, Cond.code yX9_told cX9_told 2 (some .int), Cond.constant RX9 99 (-1000000002)]
def wsL_law_r6 : List Cond := [Cond.methodLink RX9 71 yX7_cell, Cond.instanceMethod yX7_cell, Cond.selects RX7 yX7_cell yX7_cell, Cond.code yX7_cell cX7_cell 2 (some .int), Cond.methodLink RX9 75 yX9_missingNow, Cond.instanceMethod yX9_missingNow, Cond.selects RX9 yX9_missingNow yX9_missingNow, Cond.code yX9_missingNow cX9_missingNow 1 (some .int), Cond.methodLink RX9 248 yX8_missing, Cond.instanceMethod yX8_missing, Cond.selects RX8 yX8_missing yX8_missing, Cond.code yX8_missing cX8_missing 7 (some .int), Cond.methodLink RX8 34 yX5_arrange, Cond.instanceMethod yX5_arrange, Cond.selects RX5 yX5_arrange yX5_arrange, Cond.code yX5_arrange cX5_arrange 7 none, Cond.methodLink RX5 17 yX7_cell, Cond.methodLink RX5 21 yX5_arrangeByLevel, Cond.instanceMethod yX5_arrangeByLevel, Cond.selects RX5 yX5_arrangeByLevel yX5_arrangeByLevel, Cond.code yX5_arrangeByLevel cX5_arrangeByLevel 6 none, Cond.methodLink RX5 31 yX7_field, Cond.instanceMethod yX7_field, Cond.selects RX7 yX7_field yX7_field]
def wsL_law_r7 : List Cond := [Cond.code yX7_field cX7_field 3 (some .int), Cond.methodLink RX5 25 yJ9_floorMod_7cf53, Cond.static yJ9_floorMod_7cf53, Cond.initialized RJ9, Cond.code yJ9_floorMod_7cf53 cJ9_floorMod_7cf53 3 (some .int), Cond.methodLink RX8 49 yX7_setOn, Cond.instanceMethod yX7_setOn, Cond.selects RX7 yX7_setOn yX7_setOn, Cond.code yX7_setOn cX7_setOn 4 (some .int), Cond.methodLink RX7 45 yX7_isOn, Cond.instanceMethod yX7_isOn, Cond.selects RX7 yX7_isOn yX7_isOn, Cond.code yX7_isOn cX7_isOn 3 (some .boolean), Cond.methodLink RX7 29 yX7_field, Cond.static yX9_isWithin, Cond.code yX9_isWithin cX9_isWithin 3 (some .boolean), Cond.methodLink RX8 38 yX5_chosen, Cond.instanceMethod yX5_chosen, Cond.selects RX5 yX5_chosen yX5_chosen, Cond.code yX5_chosen cX5_chosen 6 (some .int), Cond.methodLink RX5 34 yX7_isOn, Cond.methodLink RX8 45 yX6_paint, Cond.instanceMethod yX6_paint, Cond.selects RX6 yX6_paint yX6_paint]
def wsL_law_r8 : List Cond := [Cond.code yX6_paint cX6_paint 6 none, Cond.fieldLink RX6 24 "DotObjects$PaintedLine" "filled" "I", Cond.methodLink RX6 18 yJ7_fill_53178, Cond.static yJ7_fill_53178, Cond.initialized RJ7, Cond.code yJ7_fill_53178 cJ7_fill_53178 4 none, Cond.methodLink RX6 30 yX7_cell, Cond.static yX9_isInSet, Cond.code yX9_isInSet cX9_isInSet 2 (some .boolean), Cond.methodLink RX6 38 yX7_field, Cond.methodLink RX6 42 yX7_dotsOf, Cond.instanceMethod yX7_dotsOf, Cond.selects RX7 yX7_dotsOf yX7_dotsOf, Cond.code yX7_dotsOf cX7_dotsOf 6 (some .int), Cond.methodLink RX7 55 yX7_bits, Cond.instanceMethod yX7_bits, Cond.selects RX7 yX7_bits yX7_bits, Cond.code yX7_bits cX7_bits 3 (some .int), Cond.methodLink RX7 58 yX7_mirrored, Cond.static yX7_mirrored, Cond.code yX7_mirrored cX7_mirrored 3 (some .int), Cond.methodLink RX6 45 yX6_paintBehind, Cond.instanceMethod yX6_paintBehind, Cond.selects RX6 yX6_paintBehind yX6_paintBehind]
def wsL_law_r9 : List Cond := [Cond.code yX6_paintBehind cX6_paintBehind 5 none, Cond.methodLink RX8 52 yX6_otherColumns, Cond.instanceMethod yX6_otherColumns, Cond.selects RX6 yX6_otherColumns yX6_otherColumns, Cond.code yX6_otherColumns cX6_otherColumns 4 (some .int), Cond.methodLink RX8 56 yJ6_bitCount_0f7a4, Cond.static yJ6_bitCount_0f7a4, Cond.initialized RJ6, Cond.code yJ6_bitCount_0f7a4 cJ6_bitCount_0f7a4 1 (some .int), Cond.constant RJ6 265 (1431655765), Cond.constant RJ6 266 (858993459), Cond.constant RJ6 267 (252645135), Cond.methodLink RX9 79 yX8_bestRule, Cond.instanceMethod yX8_bestRule, Cond.selects RX8 yX8_bestRule yX8_bestRule, Cond.code yX8_bestRule cX8_bestRule 6 (some .int), Cond.methodLink RX8 61 yX8_missing, Cond.methodLink RX9 83 yX8_enough, Cond.instanceMethod yX8_enough, Cond.selects RX8 yX8_enough yX8_enough, Cond.code yX8_enough cX8_enough 4 (some .int), Cond.methodLink RX8 64 Lib.Math.max.name, Cond.static Lib.Math.max.name, Cond.initialized "java/lang/Math"]
def wsL_law_r10 : List Cond := [Cond.code Lib.Math.max.name Lib.Math.max.code 2 (some .int), Cond.methodLink RX9 86 yX4_assign, Cond.instanceMethod yX4_assign, Cond.selects RX4 yX4_assign yX4_assign, Cond.code yX4_assign cX4_assign 4 (some .int), Cond.fieldLink RX4 18 "DotObjects$Holders" "used" "I", Cond.methodLink RX4 24 yX7_cell, Cond.methodLink RX4 28 yX7_field, Cond.methodLink RX4 32 yX4_occupy, Cond.instanceMethod yX4_occupy, Cond.selects RX4 yX4_occupy yX4_occupy, Cond.code yX4_occupy cX4_occupy 3 (some .int), Cond.methodLink RX4 35 Lib.Math.max.name, Cond.methodLink RX9 89 yX8_filledDots, Cond.instanceMethod yX8_filledDots, Cond.selects RX8 yX8_filledDots yX8_filledDots, Cond.code yX8_filledDots cX8_filledDots 4 (some .int), Cond.methodLink RX8 70 yX8_paintNow, Cond.instanceMethod yX8_paintNow, Cond.selects RX8 yX8_paintNow yX8_paintNow, Cond.code yX8_paintNow cX8_paintNow 3 (some (.object "DotObjects$PaintedLine")), Cond.methodLink RX8 42 yX8_drawnSet, Cond.instanceMethod yX8_drawnSet, Cond.selects RX8 yX8_drawnSet yX8_drawnSet]
def wsL_law_r11 : List Cond := [Cond.code yX8_drawnSet cX8_drawnSet 3 (some .int), Cond.methodLink RX8 30 yX7_cell, Cond.methodLink RX8 74 yX6_filledColumns, Cond.instanceMethod yX6_filledColumns, Cond.selects RX6 yX6_filledColumns yX6_filledColumns, Cond.code yX6_filledColumns cX6_filledColumns 1 (some .int), Cond.methodLink RX9 92 yX0_size, Cond.instanceMethod yX0_size, Cond.selects RX0 yX0_size yX0_size, Cond.code yX0_size cX0_size 1 (some .int), Cond.fieldLink RX0 21 "DotObjects$Book" "size" "I", Cond.methodLink RX9 95 yX9_firstWrong, Cond.instanceMethod yX9_firstWrong, Cond.selects RX9 yX9_firstWrong yX9_firstWrong, Cond.code yX9_firstWrong cX9_firstWrong 3 (some .int), Cond.methodLink RX9 252 yX0_lineOf, Cond.instanceMethod yX0_lineOf, Cond.selects RX0 yX0_lineOf yX0_lineOf, Cond.code yX0_lineOf cX0_lineOf 2 (some .int), Cond.methodLink RX9 132 yX8_paintNow, Cond.methodLink RX9 255 yX0_columnOf, Cond.instanceMethod yX0_columnOf, Cond.selects RX0 yX0_columnOf yX0_columnOf, Cond.code yX0_columnOf cX0_columnOf 2 (some .int)]
def wsL_law_r12 : List Cond := [Cond.methodLink RX9 136 yX6_colourAt, Cond.instanceMethod yX6_colourAt, Cond.selects RX6 yX6_colourAt yX6_colourAt, Cond.code yX6_colourAt cX6_colourAt 4 (some .int), Cond.methodLink RX6 49 yX6_thingAt, Cond.instanceMethod yX6_thingAt, Cond.selects RX6 yX6_thingAt yX6_thingAt, Cond.code yX6_thingAt cX6_thingAt 3 (some .int), Cond.methodLink RX9 258 yX0_colourOf, Cond.instanceMethod yX0_colourOf, Cond.selects RX0 yX0_colourOf yX0_colourOf, Cond.code yX0_colourOf cX0_colourOf 2 (some .int), Cond.methodLink RX9 98 yX3_size, Cond.instanceMethod yX3_size, Cond.selects RX3 yX3_size yX3_size, Cond.code yX3_size cX3_size 1 (some .int), Cond.fieldLink RX3 18 "DotObjects$History" "size" "I", Cond.methodLink RL 17 yX10_told, Cond.instanceMethod yX10_told, Cond.selects RX10 yX10_told yX10_told, Cond.code yX10_told cX10_told 2 (some .int), Cond.fieldLink RX10 94 "DotObjectsModel" "entries" "I", Cond.fieldLink RX10 46 "DotObjectsModel" "deeds" "I", Cond.constant RX10 112 (-1000000002)]
def wsL_law_r13 : List Cond := [Cond.methodLink RX10 87 yX10_missing, Cond.instanceMethod yX10_missing, Cond.selects RX10 yX10_missing yX10_missing, Cond.code yX10_missing cX10_missing 5 (some .int), Cond.methodLink RX10 81 yX10_draws, Cond.instanceMethod yX10_draws, Cond.selects RX10 yX10_draws yX10_draws, Cond.code yX10_draws cX10_draws 2 none, Cond.methodLink RX10 78 yX10_drawnOn, Cond.instanceMethod yX10_drawnOn, Cond.selects RX10 yX10_drawnOn yX10_drawnOn, Cond.code yX10_drawnOn cX10_drawnOn 2 (some .int), Cond.methodLink RX10 68 yX10_drawnBy, Cond.instanceMethod yX10_drawnBy, Cond.selects RX10 yX10_drawnBy yX10_drawnBy, Cond.code yX10_drawnBy cX10_drawnBy 8 (some .int), Cond.methodLink RX10 61 yX10_onLine, Cond.instanceMethod yX10_onLine, Cond.selects RX10 yX10_onLine yX10_onLine, Cond.code yX10_onLine cX10_onLine 4 (some .int), Cond.methodLink RX10 58 yX10_isOn, Cond.instanceMethod yX10_isOn, Cond.selects RX10 yX10_isOn yX10_isOn, Cond.code yX10_isOn cX10_isOn 3 (some .boolean)]
def wsL_law_r14 : List Cond := [Cond.methodLink RX10 50 yX10_of, Cond.instanceMethod yX10_of, Cond.selects RX10 yX10_of yX10_of, Cond.code yX10_of cX10_of 3 (some .int), Cond.methodLink RX10 42 yX10_in, Cond.static yX10_in, Cond.code yX10_in cX10_in 3 (some .boolean), Cond.methodLink RX10 54 yX10_has, Cond.static yX10_has, Cond.code yX10_has cX10_has 2 (some .boolean), Cond.methodLink RX10 65 yX10_isAhead, Cond.instanceMethod yX10_isAhead, Cond.selects RX10 yX10_isAhead yX10_isAhead, Cond.code yX10_isAhead cX10_isAhead 5 (some .boolean), Cond.methodLink RX10 84 yX10_colourAt, Cond.instanceMethod yX10_colourAt, Cond.selects RX10 yX10_colourAt yX10_colourAt, Cond.code yX10_colourAt cX10_colourAt 5 (some .int), Cond.methodLink RX10 74 yX10_seenAt, Cond.instanceMethod yX10_seenAt, Cond.selects RX10 yX10_seenAt yX10_seenAt, Cond.code yX10_seenAt cX10_seenAt 7 (some .int), Cond.methodLink RX10 71 yX10_hasDot, Cond.instanceMethod yX10_hasDot]
def wsL_law_r15 : List Cond := [Cond.selects RX10 yX10_hasDot yX10_hasDot, Cond.code yX10_hasDot cX10_hasDot 8 (some .boolean), Cond.methodLink RX10 97 yX10_bestRule, Cond.instanceMethod yX10_bestRule, Cond.selects RX10 yX10_bestRule yX10_bestRule, Cond.code yX10_bestRule cX10_bestRule 6 (some .int), Cond.methodLink RX10 100 yX10_enough, Cond.instanceMethod yX10_enough, Cond.selects RX10 yX10_enough yX10_enough, Cond.code yX10_enough cX10_enough 4 (some .int), Cond.methodLink RX10 91 yX10_ones, Cond.static yX10_ones, Cond.code yX10_ones cX10_ones 3 (some .int), Cond.methodLink RX10 103 yX10_holds, Cond.instanceMethod yX10_holds, Cond.selects RX10 yX10_holds yX10_holds, Cond.code yX10_holds cX10_holds 5 (some .int), Cond.methodLink RX10 106 yX10_dots, Cond.instanceMethod yX10_dots, Cond.selects RX10 yX10_dots yX10_dots, Cond.code yX10_dots cX10_dots 4 (some .int), Cond.methodLink RX10 109 yX10_wrong, Cond.instanceMethod yX10_wrong, Cond.selects RX10 yX10_wrong yX10_wrong]
def wsL_law_r16 : List Cond := [Cond.code yX10_wrong cX10_wrong 2 (some .int), Cond.methodLink RL 18 yX9_thing, Cond.instanceMethod yX9_thing, Cond.selects RX9 yX9_thing yX9_thing, Cond.code yX9_thing cX9_thing 3 (some .int), Cond.constant RX9 104 (-1000000001), Cond.methodLink RX9 100 yX9_isThing, Cond.instanceMethod yX9_isThing, Cond.selects RX9 yX9_isThing yX9_isThing, Cond.code yX9_isThing cX9_isThing 2 (some .boolean), Cond.methodLink RX9 147 yX9_isWithin, Cond.methodLink RX9 105 yX7_field, Cond.methodLink RX9 109 yX8_seenDots, Cond.instanceMethod yX8_seenDots, Cond.selects RX8 yX8_seenDots yX8_seenDots, Cond.code yX8_seenDots cX8_seenDots 5 (some .int), Cond.methodLink RX8 78 yX6_seenColumns, Cond.instanceMethod yX6_seenColumns, Cond.selects RX6 yX6_seenColumns yX6_seenColumns, Cond.code yX6_seenColumns cX6_seenColumns 2 (some .int), Cond.methodLink RX9 113 yX8_coveredDots, Cond.instanceMethod yX8_coveredDots, Cond.selects RX8 yX8_coveredDots yX8_coveredDots, Cond.code yX8_coveredDots cX8_coveredDots 6 (some .int)]
def wsL_law_r17 : List Cond := [Cond.methodLink RX8 85 yX7_dotsOf, Cond.methodLink RX9 116 yX8_droppedLines, Cond.instanceMethod yX8_droppedLines, Cond.selects RX8 yX8_droppedLines yX8_droppedLines, Cond.code yX8_droppedLines cX8_droppedLines 5 (some .int), Cond.methodLink RX8 88 yX7_isOn, Cond.methodLink RX9 119 yX9_holderOf, Cond.instanceMethod yX9_holderOf, Cond.selects RX9 yX9_holderOf yX9_holderOf, Cond.code yX9_holderOf cX9_holderOf 2 (some .int), Cond.methodLink RX9 251 yX4_holderOf, Cond.instanceMethod yX4_holderOf, Cond.selects RX4 yX4_holderOf yX4_holderOf, Cond.code yX4_holderOf cX4_holderOf 2 (some .int), Cond.methodLink RX9 122 yX8_met, Cond.instanceMethod yX8_met, Cond.selects RX8 yX8_met yX8_met, Cond.code yX8_met cX8_met 5 (some .int), Cond.methodLink RX8 91 yX8_touching, Cond.static yX8_touching, Cond.code yX8_touching cX8_touching 7 (some .int), Cond.methodLink RX9 125 yX8_wouldMeet, Cond.instanceMethod yX8_wouldMeet, Cond.selects RX8 yX8_wouldMeet yX8_wouldMeet]
def wsL_law_r18 : List Cond := [Cond.code yX8_wouldMeet cX8_wouldMeet 5 (some .int), Cond.methodLink RL 22 yX10_thing, Cond.instanceMethod yX10_thing, Cond.selects RX10 yX10_thing yX10_thing, Cond.code yX10_thing cX10_thing 3 (some .int), Cond.constant RX10 117 (-1000000001), Cond.methodLink RX10 113 yX10_isThing, Cond.instanceMethod yX10_isThing, Cond.selects RX10 yX10_isThing yX10_isThing, Cond.code yX10_isThing cX10_isThing 2 (some .boolean), Cond.methodLink RX10 118 yX10_dotsOf, Cond.instanceMethod yX10_dotsOf, Cond.selects RX10 yX10_dotsOf yX10_dotsOf, Cond.code yX10_dotsOf cX10_dotsOf 7 (some .int), Cond.methodLink RX10 121 yX10_droppedOf, Cond.instanceMethod yX10_droppedOf, Cond.selects RX10 yX10_droppedOf yX10_droppedOf, Cond.code yX10_droppedOf cX10_droppedOf 4 (some .int), Cond.methodLink RX10 124 yX10_meets, Cond.instanceMethod yX10_meets, Cond.selects RX10 yX10_meets yX10_meets, Cond.code yX10_meets cX10_meets 8 (some .int), Cond.methodLink RL 23 yX9_dot, Cond.instanceMethod yX9_dot]
def wsL_law_r19 : List Cond := [Cond.selects RX9 yX9_dot yX9_dot, Cond.code yX9_dot cX9_dot 4 (some .int), Cond.methodLink RX9 128 yX9_isDot, Cond.static yX9_isDot, Cond.code yX9_isDot cX9_isDot 2 (some .boolean), Cond.methodLink RX9 141 yX6_thingAt, Cond.methodLink RX9 144 yX8_paintWhole, Cond.instanceMethod yX8_paintWhole, Cond.selects RX8 yX8_paintWhole yX8_paintWhole, Cond.code yX8_paintWhole cX8_paintWhole 3 (some (.object "DotObjects$PaintedLine")), Cond.methodLink RL 27 yX10_dot, Cond.instanceMethod yX10_dot, Cond.selects RX10 yX10_dot yX10_dot, Cond.code yX10_dot cX10_dot 4 (some .int), Cond.methodLink RL 28 yX9_line, Cond.instanceMethod yX9_line, Cond.selects RX9 yX9_line yX9_line, Cond.code yX9_line cX9_line 7 (some .long), Cond.constantLong RX9 151 (-1), Cond.constantLong RX9 153 (8), Cond.methodLink RL 32 yX10_line, Cond.instanceMethod yX10_line, Cond.selects RX10 yX10_line yX10_line, Cond.code yX10_line cX10_line 7 (some .long)]
def wsL_law_r20 : List Cond := [Cond.constantLong RX10 128 (-1), Cond.constantLong RX10 130 (8), Cond.methodLink RL 33 yX9_drawn, Cond.instanceMethod yX9_drawn, Cond.selects RX9 yX9_drawn yX9_drawn, Cond.code yX9_drawn cX9_drawn 4 (some .int), Cond.methodLink RX9 155 yX8_drawnSet, Cond.methodLink RX9 158 yX7_setOn, Cond.methodLink RL 36 yX10_drawn, Cond.instanceMethod yX10_drawn, Cond.selects RX10 yX10_drawn yX10_drawn, Cond.code yX10_drawn cX10_drawn 3 (some .int), Cond.methodLink RL 37 yX9_pictureRow, Cond.instanceMethod yX9_pictureRow, Cond.selects RX9 yX9_pictureRow yX9_pictureRow, Cond.code yX9_pictureRow cX9_pictureRow 3 (some .int), Cond.methodLink RX9 161 yX9_isPicture, Cond.static yX9_isPicture, Cond.code yX9_isPicture cX9_isPicture 1 (some .boolean), Cond.methodLink RX9 164 yX7_bits, Cond.methodLink RL 40 yX10_pictureRow, Cond.instanceMethod yX10_pictureRow, Cond.selects RX10 yX10_pictureRow yX10_pictureRow, Cond.code yX10_pictureRow cX10_pictureRow 3 (some .int)]
def wsL_law_r21 : List Cond := [Cond.methodLink RL 41 yX9_row, Cond.instanceMethod yX9_row, Cond.selects RX9 yX9_row yX9_row, Cond.code yX9_row cX9_row 5 (some .int), Cond.methodLink RX9 167 yX3_remember, Cond.instanceMethod yX3_remember, Cond.selects RX3 yX3_remember yX3_remember, Cond.code yX3_remember cX3_remember 2 none, Cond.fieldLink RX3 22 "DotObjects$History" "next" "I", Cond.methodLink RX3 29 Lib.Math.min.name, Cond.static Lib.Math.min.name, Cond.code Lib.Math.min.name Lib.Math.min.code 2 (some .int), Cond.methodLink RX3 25 yX7_saveTo, Cond.instanceMethod yX7_saveTo, Cond.selects RX7 yX7_saveTo yX7_saveTo, Cond.code yX7_saveTo cX7_saveTo 2 none, Cond.methodLink RX7 15 arraycopyName, Cond.native arraycopyName, Cond.static arraycopyName, Cond.initialized "java/lang/System", Cond.methodLink RX9 171 yX7_setBits, Cond.instanceMethod yX7_setBits, Cond.selects RX7 yX7_setBits yX7_setBits, Cond.code yX7_setBits cX7_setBits 4 none]
def wsL_law_r22 : List Cond := [Cond.methodLink RL 44 yX10_row, Cond.instanceMethod yX10_row, Cond.selects RX10 yX10_row yX10_row, Cond.code yX10_row cX10_row 5 (some .int), Cond.methodLink RX10 132 yX10_notes, Cond.instanceMethod yX10_notes, Cond.selects RX10 yX10_notes yX10_notes, Cond.code yX10_notes cX10_notes 2 none, Cond.methodLink RL 45 yX9_put, Cond.instanceMethod yX9_put, Cond.selects RX9 yX9_put yX9_put, Cond.code yX9_put cX9_put 7 (some .int), Cond.constant RX9 185 (-1000000004), Cond.methodLink RX9 175 yX9_isPlace, Cond.static yX9_isPlace, Cond.code yX9_isPlace cX9_isPlace 2 (some .boolean), Cond.methodLink RX9 178 yX9_isManner, Cond.static yX9_isManner, Cond.code yX9_isManner cX9_isManner 2 (some .boolean), Cond.methodLink RX9 181 yX7_isFull, Cond.instanceMethod yX7_isFull, Cond.selects RX7 yX7_isFull yX7_isFull, Cond.code yX7_isFull cX7_isFull 1 (some .boolean), Cond.methodLink RX9 186 yX7_add]
def wsL_law_r23 : List Cond := [Cond.instanceMethod yX7_add, Cond.selects RX7 yX7_add yX7_add, Cond.code yX7_add cX7_add 8 (some .int), Cond.methodLink RX7 25 yX7_setField, Cond.instanceMethod yX7_setField, Cond.selects RX7 yX7_setField yX7_setField, Cond.code yX7_setField cX7_setField 4 none, Cond.methodLink RL 49 yX10_put, Cond.instanceMethod yX10_put, Cond.selects RX10 yX10_put yX10_put, Cond.code yX10_put cX10_put 7 (some .int), Cond.constant RX10 138 (-1000000004), Cond.methodLink RX10 135 yX10_isPlace, Cond.static yX10_isPlace, Cond.code yX10_isPlace cX10_isPlace 2 (some .boolean), Cond.methodLink RX10 139 yX10_puts, Cond.instanceMethod yX10_puts, Cond.selects RX10 yX10_puts yX10_puts, Cond.code yX10_puts cX10_puts 8 none, Cond.methodLink RL 50 yX9_move, Cond.instanceMethod yX9_move, Cond.selects RX9 yX9_move yX9_move, Cond.code yX9_move cX9_move 4 (some .int), Cond.methodLink RX9 190 yX7_setField]
def wsL_law_r24 : List Cond := [Cond.methodLink RX9 193 yX7_linesOf, Cond.instanceMethod yX7_linesOf, Cond.selects RX7 yX7_linesOf yX7_linesOf, Cond.code yX7_linesOf cX7_linesOf 4 (some .int), Cond.methodLink RX7 49 Lib.Math.max.name, Cond.methodLink RX7 52 Lib.Math.min.name, Cond.methodLink RL 53 yX10_move, Cond.instanceMethod yX10_move, Cond.selects RX10 yX10_move yX10_move, Cond.code yX10_move cX10_move 6 (some .int), Cond.methodLink RL 54 yX9_turn, Cond.instanceMethod yX9_turn, Cond.selects RX9 yX9_turn yX9_turn, Cond.code yX9_turn cX9_turn 4 (some .int), Cond.methodLink RL 57 yX10_turn, Cond.instanceMethod yX10_turn, Cond.selects RX10 yX10_turn yX10_turn, Cond.code yX10_turn cX10_turn 4 (some .int), Cond.methodLink RL 58 yX9_speed, Cond.instanceMethod yX9_speed, Cond.selects RX9 yX9_speed yX9_speed, Cond.code yX9_speed cX9_speed 4 (some .int), Cond.methodLink RL 61 yX10_speed, Cond.instanceMethod yX10_speed]
def wsL_law_r25 : List Cond := [Cond.selects RX10 yX10_speed yX10_speed, Cond.code yX10_speed cX10_speed 4 (some .int), Cond.methodLink RL 62 yX9_take, Cond.instanceMethod yX9_take, Cond.selects RX9 yX9_take yX9_take, Cond.code yX9_take cX9_take 2 (some .int), Cond.methodLink RX9 196 yX7_removeThing, Cond.instanceMethod yX7_removeThing, Cond.selects RX7 yX7_removeThing yX7_removeThing, Cond.code yX7_removeThing cX7_removeThing 4 none, Cond.methodLink RL 65 yX10_take, Cond.instanceMethod yX10_take, Cond.selects RX10 yX10_take yX10_take, Cond.code yX10_take cX10_take 3 (some .int), Cond.methodLink RL 66 yX9_limit, Cond.instanceMethod yX9_limit, Cond.selects RX9 yX9_limit yX9_limit, Cond.code yX9_limit cX9_limit 2 (some .int), Cond.methodLink RX9 200 yX7_setCell, Cond.instanceMethod yX7_setCell, Cond.selects RX7 yX7_setCell yX7_setCell, Cond.code yX7_setCell cX7_setCell 3 none, Cond.methodLink RL 69 yX10_limit, Cond.instanceMethod yX10_limit]
def wsL_law_r26 : List Cond := [Cond.selects RX10 yX10_limit yX10_limit, Cond.code yX10_limit cX10_limit 2 (some .int), Cond.methodLink RL 70 yX9_rule, Cond.instanceMethod yX9_rule, Cond.selects RX9 yX9_rule yX9_rule, Cond.code yX9_rule cX9_rule 2 (some .int), Cond.methodLink RL 73 yX10_rule, Cond.instanceMethod yX10_rule, Cond.selects RX10 yX10_rule yX10_rule, Cond.code yX10_rule cX10_rule 2 (some .int), Cond.methodLink RL 74 yX9_frame, Cond.instanceMethod yX9_frame, Cond.selects RX9 yX9_frame yX9_frame, Cond.code yX9_frame cX9_frame 3 (some .int), Cond.methodLink RX9 204 yX7_goNextFrame, Cond.instanceMethod yX7_goNextFrame, Cond.selects RX7 yX7_goNextFrame yX7_goNextFrame, Cond.code yX7_goNextFrame cX7_goNextFrame 2 none, Cond.methodLink RX7 33 yX7_wrapped, Cond.static yX7_wrapped, Cond.code yX7_wrapped cX7_wrapped 2 (some .int), Cond.methodLink RX7 36 yJ9_floorMod_7cf53, Cond.methodLink RL 77 yX10_frame, Cond.instanceMethod yX10_frame]
def wsL_law_r27 : List Cond := [Cond.selects RX10 yX10_frame yX10_frame, Cond.code yX10_frame cX10_frame 3 (some .int), Cond.methodLink RX10 143 yX10_goes, Cond.instanceMethod yX10_goes, Cond.selects RX10 yX10_goes yX10_goes, Cond.code yX10_goes cX10_goes 3 none, Cond.methodLink RL 78 yX9_drift, Cond.instanceMethod yX9_drift, Cond.selects RX9 yX9_drift yX9_drift, Cond.code yX9_drift cX9_drift 3 (some .int), Cond.methodLink RX9 207 yX1_addThing, Cond.instanceMethod yX1_addThing, Cond.selects RX1 yX1_addThing yX1_addThing, Cond.code yX1_addThing cX1_addThing 8 none, Cond.methodLink RX1 15 yX1_below, Cond.instanceMethod yX1_below, Cond.selects RX1 yX1_below yX1_below, Cond.code yX1_below cX1_below 2 (some .int), Cond.fieldLink RX1 9 "DotObjects$Draws" "value" "I", Cond.constantLong RX1 25 (1103515245), Cond.constantLong RX1 27 (12345), Cond.constantLong RX1 29 (2147483648), Cond.constant RX1 31 (65536), Cond.methodLink RX1 19 yX7_add]
def wsL_law_r28 : List Cond := [Cond.methodLink RL 81 yX10_drift, Cond.instanceMethod yX10_drift, Cond.selects RX10 yX10_drift yX10_drift, Cond.code yX10_drift cX10_drift 8 (some .int), Cond.methodLink RX10 158 yX10_drawOf, Cond.instanceMethod yX10_drawOf, Cond.selects RX10 yX10_drawOf yX10_drawOf, Cond.code yX10_drawOf cX10_drawOf 2 (some .int), Cond.fieldLink RX10 146 "DotObjectsModel" "seed" "J", Cond.constantLong RX10 150 (1103515245), Cond.constantLong RX10 152 (12345), Cond.constantLong RX10 154 (2147483648), Cond.constantLong RX10 156 (65536), Cond.methodLink RL 82 yX9_undo, Cond.instanceMethod yX9_undo, Cond.selects RX9 yX9_undo yX9_undo, Cond.code yX9_undo cX9_undo 2 (some .int), Cond.constant RX9 210 (-1000000003), Cond.methodLink RX9 211 yX3_bringBack, Cond.instanceMethod yX3_bringBack, Cond.selects RX3 yX3_bringBack yX3_bringBack, Cond.code yX3_bringBack cX3_bringBack 3 none, Cond.methodLink RX3 35 yJ9_floorMod_7cf53, Cond.methodLink RX3 38 yX7_loadFrom]
def wsL_law_r29 : List Cond := [Cond.instanceMethod yX7_loadFrom, Cond.selects RX7 yX7_loadFrom yX7_loadFrom, Cond.code yX7_loadFrom cX7_loadFrom 2 none, Cond.methodLink RL 85 yX10_undo, Cond.instanceMethod yX10_undo, Cond.selects RX10 yX10_undo yX10_undo, Cond.code yX10_undo cX10_undo 3 (some .int), Cond.constant RX10 161 (-1000000003), Cond.methodLink RL 86 yX9_leftOut, Cond.instanceMethod yX9_leftOut, Cond.selects RX9 yX9_leftOut yX9_leftOut, Cond.code yX9_leftOut cX9_leftOut 3 (some .int), Cond.methodLink RX9 215 yX2_run, Cond.instanceMethod yX2_run, Cond.selects RX2 yX2_run yX2_run, Cond.code yX2_run cX2_run 4 none, Cond.methodLink RX2 29 yX7_copyFrom, Cond.instanceMethod yX7_copyFrom, Cond.selects RX7 yX7_copyFrom yX7_copyFrom, Cond.code yX7_copyFrom cX7_copyFrom 2 none, Cond.methodLink RX7 21 yX7_loadFrom, Cond.methodLink RX2 33 yJ7_fill_53178, Cond.methodLink RX2 39 yX2_countFrame, Cond.instanceMethod yX2_countFrame]
def wsL_law_r30 : List Cond := [Cond.selects RX2 yX2_countFrame yX2_countFrame, Cond.code yX2_countFrame cX2_countFrame 4 none, Cond.methodLink RX2 45 yX7_cell, Cond.methodLink RX2 49 yX5_arrange, Cond.methodLink RX2 53 yX7_setOn, Cond.methodLink RX2 56 yX5_chosen, Cond.methodLink RX2 42 yX7_goNextFrame, Cond.methodLink RX9 218 yX2_dropsOf, Cond.instanceMethod yX2_dropsOf, Cond.selects RX2 yX2_dropsOf yX2_dropsOf, Cond.code yX2_dropsOf cX2_dropsOf 2 (some .int), Cond.methodLink RL 89 yX10_leftOut, Cond.instanceMethod yX10_leftOut, Cond.selects RX10 yX10_leftOut yX10_leftOut, Cond.code yX10_leftOut cX10_leftOut 3 (some .int), Cond.methodLink RX10 162 yX10_leftOutOf, Cond.instanceMethod yX10_leftOutOf, Cond.selects RX10 yX10_leftOutOf yX10_leftOutOf, Cond.code yX10_leftOutOf cX10_leftOutOf 5 (some .int), Cond.methodLink RL 90 yX9_worst, Cond.instanceMethod yX9_worst, Cond.selects RX9 yX9_worst yX9_worst, Cond.code yX9_worst cX9_worst 2 (some .int), Cond.methodLink RX9 221 yX2_mostDropped]
def wsL_law_r31 : List Cond := [Cond.instanceMethod yX2_mostDropped, Cond.selects RX2 yX2_mostDropped yX2_mostDropped, Cond.code yX2_mostDropped cX2_mostDropped 4 (some .int), Cond.methodLink RL 93 yX10_worst, Cond.instanceMethod yX10_worst, Cond.selects RX10 yX10_worst yX10_worst, Cond.code yX10_worst cX10_worst 6 (some .int), Cond.methodLink RL 94 yX9_write, Cond.instanceMethod yX9_write, Cond.selects RX9 yX9_write yX9_write, Cond.code yX9_write cX9_write 4 (some .int), Cond.methodLink RX9 224 yX0_isFull, Cond.instanceMethod yX0_isFull, Cond.selects RX0 yX0_isFull yX0_isFull, Cond.code yX0_isFull cX0_isFull 1 (some .boolean), Cond.methodLink RX9 225 yX0_add, Cond.instanceMethod yX0_add, Cond.selects RX0 yX0_add yX0_add, Cond.code yX0_add cX0_add 4 (some .int), Cond.methodLink RL 97 yX10_write, Cond.instanceMethod yX10_write, Cond.selects RX10 yX10_write yX10_write, Cond.code yX10_write cX10_write 4 (some .int), Cond.methodLink RL 98 yX9_tear]
def wsL_law_r32 : List Cond := [Cond.instanceMethod yX9_tear, Cond.selects RX9 yX9_tear yX9_tear, Cond.code yX9_tear cX9_tear 2 (some .int), Cond.methodLink RX9 228 yX0_clear, Cond.instanceMethod yX0_clear, Cond.selects RX0 yX0_clear yX0_clear, Cond.code yX0_clear cX0_clear 1 none, Cond.methodLink RL 102 yX10_tear, Cond.instanceMethod yX10_tear, Cond.selects RX10 yX10_tear yX10_tear, Cond.code yX10_tear cX10_tear 2 (some .int), Cond.methodLink RL 103 yX9_seed, Cond.instanceMethod yX9_seed, Cond.selects RX9 yX9_seed yX9_seed, Cond.code yX9_seed cX9_seed 3 (some .int), Cond.methodLink RX9 231 yX1_value, Cond.instanceMethod yX1_value, Cond.selects RX1 yX1_value yX1_value, Cond.code yX1_value cX1_value 1 (some .int), Cond.methodLink RX9 234 yX1_start, Cond.instanceMethod yX1_start, Cond.selects RX1 yX1_start yX1_start, Cond.code yX1_start cX1_start 2 none, Cond.methodLink RL 106 yX10_seed]
def wsL_law_r33 : List Cond := [Cond.instanceMethod yX10_seed, Cond.selects RX10 yX10_seed yX10_seed, Cond.code yX10_seed cX10_seed 3 (some .int), Cond.methodLink RL 107 yX9_keep, Cond.instanceMethod yX9_keep, Cond.selects RX9 yX9_keep yX9_keep, Cond.code yX9_keep cX9_keep 2 (some .int), Cond.methodLink RX9 237 yX9_isImage, Cond.static yX9_isImage, Cond.code yX9_isImage cX9_isImage 1 (some .boolean), Cond.methodLink RX9 240 yX7_saveTo, Cond.methodLink RX9 244 yX3_clear, Cond.instanceMethod yX3_clear, Cond.selects RX3 yX3_clear yX3_clear, Cond.code yX3_clear cX3_clear 1 none, Cond.methodLink RL 110 yX10_keep, Cond.instanceMethod yX10_keep, Cond.selects RX10 yX10_keep yX10_keep, Cond.code yX10_keep cX10_keep 3 (some .int), Cond.methodLink RL 111 yX9_goBack, Cond.instanceMethod yX9_goBack, Cond.selects RX9 yX9_goBack yX9_goBack, Cond.code yX9_goBack cX9_goBack 2 (some .int), Cond.methodLink RX9 245 yX7_loadFrom]
def wsL_law_r34 : List Cond := [Cond.methodLink RL 114 yX10_goBack, Cond.instanceMethod yX10_goBack, Cond.selects RX10 yX10_goBack yX10_goBack, Cond.code yX10_goBack cX10_goBack 3 (some .int)]
def wsL_law : List Cond := (wsL_law_r1 ++ (wsL_law_r2 ++ (wsL_law_r3 ++ (wsL_law_r4 ++ (wsL_law_r5 ++ (wsL_law_r6 ++ (wsL_law_r7 ++ (wsL_law_r8 ++ (wsL_law_r9 ++ (wsL_law_r10 ++ (wsL_law_r11 ++ (wsL_law_r12 ++ (wsL_law_r13 ++ (wsL_law_r14 ++ (wsL_law_r15 ++ (wsL_law_r16 ++ (wsL_law_r17 ++ (wsL_law_r18 ++ (wsL_law_r19 ++ (wsL_law_r20 ++ (wsL_law_r21 ++ (wsL_law_r22 ++ (wsL_law_r23 ++ (wsL_law_r24 ++ (wsL_law_r25 ++ (wsL_law_r26 ++ (wsL_law_r27 ++ (wsL_law_r28 ++ (wsL_law_r29 ++ (wsL_law_r30 ++ (wsL_law_r31 ++ (wsL_law_r32 ++ (wsL_law_r33 ++ wsL_law_r34))))))))))))))))))))))))))))))))) ++ wsX90 ++ wsX100 ++ wsX70 ++ wsX80 ++ wsX40 ++ wsX20 ++ wsX30 ++ wsX00 ++ wsX10 ++ wsX50 ++ wsX60 ++ ([] : List Cond)
abbrev vwCl : List vw_C := [(RX0, TX0, 4), (RX1, TX1, 1), (RX2, TX2, 3), (RX3, TX3, 3), (RX4, TX4, 3), (RX5, TX5, 1), (RX6, TX6, 3), (RX7, TX7, 1), (RX8, TX8, 3), (RX9, TX9, 10), (RX10, TX10, 13)]
end
section
theorem dX0_init_0 : decode cX0_init 0 = .ok (.aload_n 0, 1) := by decide +kernel
theorem dX0_init_1 : decode cX0_init 1 = .ok (.invokespecial 3, 3) := by decide +kernel
theorem dX0_init_4 : decode cX0_init 4 = .ok (.aload_n 0, 1) := by decide +kernel
theorem dX0_init_5 : decode cX0_init 5 = .ok (.bipush 20, 2) := by decide +kernel
theorem dX0_init_7 : decode cX0_init 7 = .ok (.newarray .int, 2) := by decide +kernel
theorem dX0_init_9 : decode cX0_init 9 = .ok (.putfield 9, 3) := by decide +kernel
theorem dX0_init_12 : decode cX0_init 12 = .ok (.aload_n 0, 1) := by decide +kernel
theorem dX0_init_13 : decode cX0_init 13 = .ok (.bipush 20, 2) := by decide +kernel
theorem dX0_init_15 : decode cX0_init 15 = .ok (.newarray .int, 2) := by decide +kernel
theorem dX0_init_17 : decode cX0_init 17 = .ok (.putfield 15, 3) := by decide +kernel
theorem dX0_init_20 : decode cX0_init 20 = .ok (.aload_n 0, 1) := by decide +kernel
theorem dX0_init_21 : decode cX0_init 21 = .ok (.bipush 20, 2) := by decide +kernel
theorem dX0_init_23 : decode cX0_init 23 = .ok (.newarray .int, 2) := by decide +kernel
theorem dX0_init_25 : decode cX0_init 25 = .ok (.putfield 18, 3) := by decide +kernel
theorem dX0_init_28 : decode cX0_init 28 = .ok (.return_, 1) := by decide +kernel
theorem dX0_size_0 : decode cX0_size 0 = .ok (.aload_n 0, 1) := by decide +kernel
theorem dX0_size_1 : decode cX0_size 1 = .ok (.getfield 21, 3) := by decide +kernel
theorem dX0_size_4 : decode cX0_size 4 = .ok (.ireturn, 1) := by decide +kernel
theorem dX0_isFull_0 : decode cX0_isFull 0 = .ok (.aload_n 0, 1) := by decide +kernel
theorem dX0_isFull_1 : decode cX0_isFull 1 = .ok (.getfield 21, 3) := by decide +kernel
theorem dX0_isFull_4 : decode cX0_isFull 4 = .ok (.bipush 20, 2) := by decide +kernel
theorem dX0_isFull_6 : decode cX0_isFull 6 = .ok (.if_icmp .lt 7, 3) := by decide +kernel
theorem dX0_isFull_9 : decode cX0_isFull 9 = .ok (.iconst 1, 1) := by decide +kernel
theorem dX0_isFull_10 : decode cX0_isFull 10 = .ok (.goto 4, 3) := by decide +kernel
theorem dX0_isFull_13 : decode cX0_isFull 13 = .ok (.iconst 0, 1) := by decide +kernel
theorem dX0_isFull_14 : decode cX0_isFull 14 = .ok (.ireturn, 1) := by decide +kernel
theorem dX0_clear_0 : decode cX0_clear 0 = .ok (.aload_n 0, 1) := by decide +kernel
theorem dX0_clear_1 : decode cX0_clear 1 = .ok (.iconst 0, 1) := by decide +kernel
theorem dX0_clear_2 : decode cX0_clear 2 = .ok (.putfield 21, 3) := by decide +kernel
theorem dX0_clear_5 : decode cX0_clear 5 = .ok (.return_, 1) := by decide +kernel
theorem dX0_add_0 : decode cX0_add 0 = .ok (.aload_n 0, 1) := by decide +kernel
theorem dX0_add_1 : decode cX0_add 1 = .ok (.getfield 9, 3) := by decide +kernel
theorem dX0_add_4 : decode cX0_add 4 = .ok (.aload_n 0, 1) := by decide +kernel
theorem dX0_add_5 : decode cX0_add 5 = .ok (.getfield 21, 3) := by decide +kernel
theorem dX0_add_8 : decode cX0_add 8 = .ok (.iload_n 1, 1) := by decide +kernel
theorem dX0_add_9 : decode cX0_add 9 = .ok (.iastore, 1) := by decide +kernel
theorem dX0_add_10 : decode cX0_add 10 = .ok (.aload_n 0, 1) := by decide +kernel
theorem dX0_add_11 : decode cX0_add 11 = .ok (.getfield 15, 3) := by decide +kernel
theorem dX0_add_14 : decode cX0_add 14 = .ok (.aload_n 0, 1) := by decide +kernel
theorem dX0_add_15 : decode cX0_add 15 = .ok (.getfield 21, 3) := by decide +kernel
theorem dX0_add_18 : decode cX0_add 18 = .ok (.iload_n 2, 1) := by decide +kernel
theorem dX0_add_19 : decode cX0_add 19 = .ok (.iastore, 1) := by decide +kernel
theorem dX0_add_20 : decode cX0_add 20 = .ok (.aload_n 0, 1) := by decide +kernel
theorem dX0_add_21 : decode cX0_add 21 = .ok (.getfield 18, 3) := by decide +kernel
theorem dX0_add_24 : decode cX0_add 24 = .ok (.aload_n 0, 1) := by decide +kernel
theorem dX0_add_25 : decode cX0_add 25 = .ok (.getfield 21, 3) := by decide +kernel
theorem dX0_add_28 : decode cX0_add 28 = .ok (.iload_n 3, 1) := by decide +kernel
theorem dX0_add_29 : decode cX0_add 29 = .ok (.iastore, 1) := by decide +kernel
theorem dX0_add_30 : decode cX0_add 30 = .ok (.aload_n 0, 1) := by decide +kernel
theorem dX0_add_31 : decode cX0_add 31 = .ok (.dup, 1) := by decide +kernel
theorem dX0_add_32 : decode cX0_add 32 = .ok (.getfield 21, 3) := by decide +kernel
theorem dX0_add_35 : decode cX0_add 35 = .ok (.iconst 1, 1) := by decide +kernel
theorem dX0_add_36 : decode cX0_add 36 = .ok (.iadd, 1) := by decide +kernel
theorem dX0_add_37 : decode cX0_add 37 = .ok (.putfield 21, 3) := by decide +kernel
theorem dX0_add_40 : decode cX0_add 40 = .ok (.aload_n 0, 1) := by decide +kernel
theorem dX0_add_41 : decode cX0_add 41 = .ok (.getfield 21, 3) := by decide +kernel
theorem dX0_add_44 : decode cX0_add 44 = .ok (.ireturn, 1) := by decide +kernel
theorem dX0_lineOf_0 : decode cX0_lineOf 0 = .ok (.aload_n 0, 1) := by decide +kernel
theorem dX0_lineOf_1 : decode cX0_lineOf 1 = .ok (.getfield 9, 3) := by decide +kernel
theorem dX0_lineOf_4 : decode cX0_lineOf 4 = .ok (.iload_n 1, 1) := by decide +kernel
theorem dX0_lineOf_5 : decode cX0_lineOf 5 = .ok (.iaload, 1) := by decide +kernel
theorem dX0_lineOf_6 : decode cX0_lineOf 6 = .ok (.ireturn, 1) := by decide +kernel
theorem dX0_columnOf_0 : decode cX0_columnOf 0 = .ok (.aload_n 0, 1) := by decide +kernel
theorem dX0_columnOf_1 : decode cX0_columnOf 1 = .ok (.getfield 15, 3) := by decide +kernel
theorem dX0_columnOf_4 : decode cX0_columnOf 4 = .ok (.iload_n 1, 1) := by decide +kernel
theorem dX0_columnOf_5 : decode cX0_columnOf 5 = .ok (.iaload, 1) := by decide +kernel
theorem dX0_columnOf_6 : decode cX0_columnOf 6 = .ok (.ireturn, 1) := by decide +kernel
theorem dX0_colourOf_0 : decode cX0_colourOf 0 = .ok (.aload_n 0, 1) := by decide +kernel
theorem dX0_colourOf_1 : decode cX0_colourOf 1 = .ok (.getfield 18, 3) := by decide +kernel
theorem dX0_colourOf_4 : decode cX0_colourOf 4 = .ok (.iload_n 1, 1) := by decide +kernel
theorem dX0_colourOf_5 : decode cX0_colourOf 5 = .ok (.iaload, 1) := by decide +kernel
theorem dX0_colourOf_6 : decode cX0_colourOf 6 = .ok (.ireturn, 1) := by decide +kernel
theorem dX1_init_0 : decode cX1_init 0 = .ok (.aload_n 0, 1) := by decide +kernel
theorem dX1_init_1 : decode cX1_init 1 = .ok (.invokespecial 3, 3) := by decide +kernel
theorem dX1_init_4 : decode cX1_init 4 = .ok (.return_, 1) := by decide +kernel
theorem dX1_value_0 : decode cX1_value 0 = .ok (.aload_n 0, 1) := by decide +kernel
theorem dX1_value_1 : decode cX1_value 1 = .ok (.getfield 9, 3) := by decide +kernel
theorem dX1_value_4 : decode cX1_value 4 = .ok (.ireturn, 1) := by decide +kernel
theorem dX1_start_0 : decode cX1_start 0 = .ok (.aload_n 0, 1) := by decide +kernel
theorem dX1_start_1 : decode cX1_start 1 = .ok (.iload_n 1, 1) := by decide +kernel
theorem dX1_start_2 : decode cX1_start 2 = .ok (.putfield 9, 3) := by decide +kernel
theorem dX1_start_5 : decode cX1_start 5 = .ok (.return_, 1) := by decide +kernel
set_option maxRecDepth 20000 in
theorem ggX1_addThing_X1_below : GoodIn wsX1_addThing wsX1_below := goodIn_r _ [5, 6, 7, 8, 9, 10, 21] (by decide +kernel) (by decide +kernel)
set_option maxRecDepth 20000 in
theorem gX1_addThing_X1_below : GoodIn wsX1_addThing (wsV RX1 15 RX1 yX1_below wsX1_below) := goodIn_app (goodIn_of _ (by decide +kernel)) ggX1_addThing_X1_below
set_option maxRecDepth 20000 in
theorem ggX1_addThing_X7_add : GoodIn wsX1_addThing wsX7_add := goodIn_r _ [15, 16, 17, 18, 19, 14, 20, 22] (by decide +kernel) (by decide +kernel)
set_option maxRecDepth 20000 in
theorem gX1_addThing_X7_add : GoodIn wsX1_addThing (wsV RX1 19 RX7 yX7_add wsX7_add) := goodIn_app (goodIn_of _ (by decide +kernel)) ggX1_addThing_X7_add
theorem dX1_addThing_0 : decode cX1_addThing 0 = .ok (.aload_n 0, 1) := by decide +kernel
theorem dX1_addThing_1 : decode cX1_addThing 1 = .ok (.bipush 32, 2) := by decide +kernel
theorem dX1_addThing_3 : decode cX1_addThing 3 = .ok (.invokevirtual 15, 3) := by decide +kernel
theorem dX1_addThing_6 : decode cX1_addThing 6 = .ok (.istore_n 2, 1) := by decide +kernel
theorem dX1_addThing_7 : decode cX1_addThing 7 = .ok (.aload_n 0, 1) := by decide +kernel
theorem dX1_addThing_8 : decode cX1_addThing 8 = .ok (.bipush 24, 2) := by decide +kernel
theorem dX1_addThing_10 : decode cX1_addThing 10 = .ok (.invokevirtual 15, 3) := by decide +kernel
theorem dX1_addThing_13 : decode cX1_addThing 13 = .ok (.istore_n 3, 1) := by decide +kernel
theorem dX1_addThing_14 : decode cX1_addThing 14 = .ok (.aload_n 0, 1) := by decide +kernel
theorem dX1_addThing_15 : decode cX1_addThing 15 = .ok (.iconst 4, 1) := by decide +kernel
theorem dX1_addThing_16 : decode cX1_addThing 16 = .ok (.invokevirtual 15, 3) := by decide +kernel
theorem dX1_addThing_19 : decode cX1_addThing 19 = .ok (.istore 4, 2) := by decide +kernel
theorem dX1_addThing_21 : decode cX1_addThing 21 = .ok (.aload_n 0, 1) := by decide +kernel
theorem dX1_addThing_22 : decode cX1_addThing 22 = .ok (.iconst 4, 1) := by decide +kernel
theorem dX1_addThing_23 : decode cX1_addThing 23 = .ok (.invokevirtual 15, 3) := by decide +kernel
theorem dX1_addThing_26 : decode cX1_addThing 26 = .ok (.istore 5, 2) := by decide +kernel
theorem dX1_addThing_28 : decode cX1_addThing 28 = .ok (.aload_n 0, 1) := by decide +kernel
theorem dX1_addThing_29 : decode cX1_addThing 29 = .ok (.iconst 4, 1) := by decide +kernel
theorem dX1_addThing_30 : decode cX1_addThing 30 = .ok (.invokevirtual 15, 3) := by decide +kernel
theorem dX1_addThing_33 : decode cX1_addThing 33 = .ok (.istore 6, 2) := by decide +kernel
theorem dX1_addThing_35 : decode cX1_addThing 35 = .ok (.aload_n 0, 1) := by decide +kernel
theorem dX1_addThing_36 : decode cX1_addThing 36 = .ok (.bipush 7, 2) := by decide +kernel
theorem dX1_addThing_38 : decode cX1_addThing 38 = .ok (.invokevirtual 15, 3) := by decide +kernel
theorem dX1_addThing_41 : decode cX1_addThing 41 = .ok (.iconst 1, 1) := by decide +kernel
theorem dX1_addThing_42 : decode cX1_addThing 42 = .ok (.iadd, 1) := by decide +kernel
theorem dX1_addThing_43 : decode cX1_addThing 43 = .ok (.istore 7, 2) := by decide +kernel
theorem dX1_addThing_45 : decode cX1_addThing 45 = .ok (.aload_n 1, 1) := by decide +kernel
theorem dX1_addThing_46 : decode cX1_addThing 46 = .ok (.iload_n 2, 1) := by decide +kernel
theorem dX1_addThing_47 : decode cX1_addThing 47 = .ok (.iload_n 3, 1) := by decide +kernel
theorem dX1_addThing_48 : decode cX1_addThing 48 = .ok (.iload 4, 2) := by decide +kernel
theorem dX1_addThing_50 : decode cX1_addThing 50 = .ok (.iload 5, 2) := by decide +kernel
theorem dX1_addThing_52 : decode cX1_addThing 52 = .ok (.iload 6, 2) := by decide +kernel
theorem dX1_addThing_54 : decode cX1_addThing 54 = .ok (.iload 7, 2) := by decide +kernel
theorem dX1_addThing_56 : decode cX1_addThing 56 = .ok (.invokevirtual 19, 3) := by decide +kernel
theorem dX1_addThing_59 : decode cX1_addThing 59 = .ok (.pop, 1) := by decide +kernel
theorem dX1_addThing_60 : decode cX1_addThing 60 = .ok (.return_, 1) := by decide +kernel
theorem dX1_below_0 : decode cX1_below 0 = .ok (.aload_n 0, 1) := by decide +kernel
theorem dX1_below_1 : decode cX1_below 1 = .ok (.aload_n 0, 1) := by decide +kernel
theorem dX1_below_2 : decode cX1_below 2 = .ok (.getfield 9, 3) := by decide +kernel
theorem dX1_below_5 : decode cX1_below 5 = .ok (.i2l, 1) := by decide +kernel
theorem dX1_below_6 : decode cX1_below 6 = .ok (.ldc2_w 25, 3) := by decide +kernel
theorem dX1_below_9 : decode cX1_below 9 = .ok (.lmul, 1) := by decide +kernel
theorem dX1_below_10 : decode cX1_below 10 = .ok (.ldc2_w 27, 3) := by decide +kernel
theorem dX1_below_13 : decode cX1_below 13 = .ok (.ladd, 1) := by decide +kernel
theorem dX1_below_14 : decode cX1_below 14 = .ok (.ldc2_w 29, 3) := by decide +kernel
theorem dX1_below_17 : decode cX1_below 17 = .ok (.lrem, 1) := by decide +kernel
theorem dX1_below_18 : decode cX1_below 18 = .ok (.l2i, 1) := by decide +kernel
theorem dX1_below_19 : decode cX1_below 19 = .ok (.putfield 9, 3) := by decide +kernel
theorem dX1_below_22 : decode cX1_below 22 = .ok (.iload_n 1, 1) := by decide +kernel
theorem dX1_below_23 : decode cX1_below 23 = .ok (.ifCond .le 15, 3) := by decide +kernel
theorem dX1_below_26 : decode cX1_below 26 = .ok (.aload_n 0, 1) := by decide +kernel
theorem dX1_below_27 : decode cX1_below 27 = .ok (.getfield 9, 3) := by decide +kernel
theorem dX1_below_30 : decode cX1_below 30 = .ok (.ldc 31, 2) := by decide +kernel
theorem dX1_below_32 : decode cX1_below 32 = .ok (.idiv, 1) := by decide +kernel
theorem dX1_below_33 : decode cX1_below 33 = .ok (.iload_n 1, 1) := by decide +kernel
theorem dX1_below_34 : decode cX1_below 34 = .ok (.irem, 1) := by decide +kernel
theorem dX1_below_35 : decode cX1_below 35 = .ok (.goto 4, 3) := by decide +kernel
theorem dX1_below_38 : decode cX1_below 38 = .ok (.iconst 0, 1) := by decide +kernel
theorem dX1_below_39 : decode cX1_below 39 = .ok (.ireturn, 1) := by decide +kernel
set_option maxRecDepth 20000 in
theorem ggX2_init_X7_init : GoodIn wsX2_init wsX7_init := goodIn_r _ [16, 17, 2, 3, 12, 18, 23] (by decide +kernel) (by decide +kernel)
set_option maxRecDepth 20000 in
theorem gX2_init_X7_init : GoodIn wsX2_init (wsX7_init) := ggX2_init_X7_init
set_option maxRecDepth 20000 in
theorem ggX2_init_X5_init : GoodIn wsX2_init wsX5_init := goodIn_r _ [20, 21, 2, 3, 12, 22, 27] (by decide +kernel) (by decide +kernel)
set_option maxRecDepth 20000 in
theorem gX2_init_X5_init_n20 : GoodIn wsX2_init (wsX5_init) := ggX2_init_X5_init
theorem dX2_init_0 : decode cX2_init 0 = .ok (.aload_n 0, 1) := by decide +kernel
theorem dX2_init_1 : decode cX2_init 1 = .ok (.invokespecial 3, 3) := by decide +kernel
theorem dX2_init_4 : decode cX2_init 4 = .ok (.aload_n 0, 1) := by decide +kernel
theorem dX2_init_5 : decode cX2_init 5 = .ok (.new 9, 3) := by decide +kernel
theorem dX2_init_8 : decode cX2_init 8 = .ok (.dup, 1) := by decide +kernel
theorem dX2_init_9 : decode cX2_init 9 = .ok (.invokespecial 11, 3) := by decide +kernel
theorem dX2_init_12 : decode cX2_init 12 = .ok (.putfield 12, 3) := by decide +kernel
theorem dX2_init_15 : decode cX2_init 15 = .ok (.aload_n 0, 1) := by decide +kernel
theorem dX2_init_16 : decode cX2_init 16 = .ok (.new 18, 3) := by decide +kernel
theorem dX2_init_19 : decode cX2_init 19 = .ok (.dup, 1) := by decide +kernel
theorem dX2_init_20 : decode cX2_init 20 = .ok (.invokespecial 20, 3) := by decide +kernel
theorem dX2_init_23 : decode cX2_init 23 = .ok (.putfield 21, 3) := by decide +kernel
theorem dX2_init_26 : decode cX2_init 26 = .ok (.aload_n 0, 1) := by decide +kernel
theorem dX2_init_27 : decode cX2_init 27 = .ok (.bipush 12, 2) := by decide +kernel
theorem dX2_init_29 : decode cX2_init 29 = .ok (.newarray .int, 2) := by decide +kernel
theorem dX2_init_31 : decode cX2_init 31 = .ok (.putfield 25, 3) := by decide +kernel
theorem dX2_init_34 : decode cX2_init 34 = .ok (.return_, 1) := by decide +kernel
set_option maxRecDepth 20000 in
theorem ggX2_run_X7_copyFrom : GoodIn wsX2_run wsX7_copyFrom := goodIn_r _ [7, 8, 9, 10, 11, 6, 12, 13, 14, 15, 16, 82] (by decide +kernel) (by decide +kernel)
set_option maxRecDepth 20000 in
theorem gX2_run_X7_copyFrom : GoodIn wsX2_run (wsV RX2 29 RX7 yX7_copyFrom wsX7_copyFrom) := goodIn_app (goodIn_of _ (by decide +kernel)) ggX2_run_X7_copyFrom
set_option maxRecDepth 20000 in
theorem ggX2_run_J7_fill_53178 : GoodIn wsX2_run wsJ7_fill_53178 := goodIn_r _ [20] (by decide +kernel) (by decide +kernel)
set_option maxRecDepth 20000 in
theorem gX2_run_J7_fill_53178 : GoodIn wsX2_run (va_wsS RX2 33 yJ7_fill_53178 wsJ7_fill_53178) := goodIn_app (goodIn_of _ (by decide +kernel)) ggX2_run_J7_fill_53178
set_option maxRecDepth 20000 in
theorem ggX2_run_X2_countFrame : GoodIn wsX2_run wsX2_countFrame := goodIn_r _ [25, 26, 1, 2, 27, 28, 29, 6, 30, 8, 31, 32, 33, 34, 35, 36, 37, 38, 39, 40, 41, 42, 43, 44, 45, 46, 47, 48, 49, 50, 51, 52, 53, 54, 55, 56, 57, 58, 59, 60, 61, 62, 63, 64, 65, 66, 79, 80, 81, 82, 83] (by decide +kernel) (by decide +kernel)
set_option maxRecDepth 20000 in
theorem gX2_run_X2_countFrame : GoodIn wsX2_run (wsV RX2 39 RX2 yX2_countFrame wsX2_countFrame) := goodIn_app (goodIn_of _ (by decide +kernel)) ggX2_run_X2_countFrame
set_option maxRecDepth 20000 in
theorem ggX2_run_X7_goNextFrame : GoodIn wsX2_run wsX7_goNextFrame := goodIn_r _ [70, 8, 58, 43, 44, 6, 45, 71, 72, 73, 74, 47, 48, 49, 75, 76, 77, 78, 82] (by decide +kernel) (by decide +kernel)
set_option maxRecDepth 20000 in
theorem gX2_run_X7_goNextFrame : GoodIn wsX2_run (wsV RX2 42 RX7 yX7_goNextFrame wsX7_goNextFrame) := goodIn_app (goodIn_of _ (by decide +kernel)) ggX2_run_X7_goNextFrame
theorem dX2_run_0 : decode cX2_run 0 = .ok (.aload_n 0, 1) := by decide +kernel
theorem dX2_run_1 : decode cX2_run 1 = .ok (.getfield 12, 3) := by decide +kernel
theorem dX2_run_4 : decode cX2_run 4 = .ok (.aload_n 1, 1) := by decide +kernel
theorem dX2_run_5 : decode cX2_run 5 = .ok (.invokevirtual 29, 3) := by decide +kernel
theorem dX2_run_8 : decode cX2_run 8 = .ok (.aload_n 0, 1) := by decide +kernel
theorem dX2_run_9 : decode cX2_run 9 = .ok (.getfield 25, 3) := by decide +kernel
theorem dX2_run_12 : decode cX2_run 12 = .ok (.iconst 0, 1) := by decide +kernel
theorem dX2_run_13 : decode cX2_run 13 = .ok (.invokestatic 33, 3) := by decide +kernel
theorem dX2_run_16 : decode cX2_run 16 = .ok (.iconst 0, 1) := by decide +kernel
theorem dX2_run_17 : decode cX2_run 17 = .ok (.istore_n 3, 1) := by decide +kernel
theorem dX2_run_18 : decode cX2_run 18 = .ok (.iload_n 3, 1) := by decide +kernel
theorem dX2_run_19 : decode cX2_run 19 = .ok (.iload_n 2, 1) := by decide +kernel
theorem dX2_run_20 : decode cX2_run 20 = .ok (.if_icmp .ge 20, 3) := by decide +kernel
theorem dX2_run_23 : decode cX2_run 23 = .ok (.aload_n 0, 1) := by decide +kernel
theorem dX2_run_24 : decode cX2_run 24 = .ok (.invokevirtual 39, 3) := by decide +kernel
theorem dX2_run_27 : decode cX2_run 27 = .ok (.aload_n 0, 1) := by decide +kernel
theorem dX2_run_28 : decode cX2_run 28 = .ok (.getfield 12, 3) := by decide +kernel
theorem dX2_run_31 : decode cX2_run 31 = .ok (.invokevirtual 42, 3) := by decide +kernel
theorem dX2_run_34 : decode cX2_run 34 = .ok (.iinc 3 1, 3) := by decide +kernel
theorem dX2_run_37 : decode cX2_run 37 = .ok (.goto (-19), 3) := by decide +kernel
theorem dX2_run_40 : decode cX2_run 40 = .ok (.return_, 1) := by decide +kernel
set_option maxRecDepth 20000 in
theorem ggX2_countFrame_X7_cell : GoodIn wsX2_countFrame wsX7_cell := goodIn_r _ [8, 9, 49] (by decide +kernel) (by decide +kernel)
set_option maxRecDepth 20000 in
theorem gX2_countFrame_X7_cell : GoodIn wsX2_countFrame (wsV RX2 45 RX7 yX7_cell wsX7_cell) := goodIn_app (goodIn_of _ (by decide +kernel)) ggX2_countFrame_X7_cell
set_option maxRecDepth 20000 in
theorem ggX2_countFrame_X5_arrange : GoodIn wsX2_countFrame wsX5_arrange := goodIn_r _ [14, 15, 16, 5, 6, 7, 8, 9, 17, 18, 19, 13, 20, 21, 22, 23, 24, 25, 26, 27, 28, 50, 49] (by decide +kernel) (by decide +kernel)
set_option maxRecDepth 20000 in
theorem gX2_countFrame_X5_arrange : GoodIn wsX2_countFrame (wsV RX2 49 RX5 yX5_arrange wsX5_arrange) := goodIn_app (goodIn_of _ (by decide +kernel)) ggX2_countFrame_X5_arrange
set_option maxRecDepth 20000 in
theorem ggX2_countFrame_X7_setOn : GoodIn wsX2_countFrame wsX7_setOn := goodIn_r _ [32, 9, 33, 34, 35, 7, 36, 37, 22, 23, 24, 38, 39, 40, 49] (by decide +kernel) (by decide +kernel)
set_option maxRecDepth 20000 in
theorem gX2_countFrame_X7_setOn : GoodIn wsX2_countFrame (wsV RX2 53 RX7 yX7_setOn wsX7_setOn) := goodIn_app (goodIn_of _ (by decide +kernel)) ggX2_countFrame_X7_setOn
set_option maxRecDepth 20000 in
theorem ggX2_countFrame_X5_chosen : GoodIn wsX2_countFrame wsX5_chosen := goodIn_r _ [44, 15, 16, 5, 6, 7, 8, 9, 45, 34, 35, 36, 37, 22, 23, 24, 38, 39, 40, 50, 49] (by decide +kernel) (by decide +kernel)
set_option maxRecDepth 20000 in
theorem gX2_countFrame_X5_chosen : GoodIn wsX2_countFrame (wsV RX2 56 RX5 yX5_chosen wsX5_chosen) := goodIn_app (goodIn_of _ (by decide +kernel)) ggX2_countFrame_X5_chosen
theorem dX2_countFrame_0 : decode cX2_countFrame 0 = .ok (.aload_n 0, 1) := by decide +kernel
theorem dX2_countFrame_1 : decode cX2_countFrame 1 = .ok (.getfield 21, 3) := by decide +kernel
theorem dX2_countFrame_4 : decode cX2_countFrame 4 = .ok (.aload_n 0, 1) := by decide +kernel
theorem dX2_countFrame_5 : decode cX2_countFrame 5 = .ok (.getfield 12, 3) := by decide +kernel
theorem dX2_countFrame_8 : decode cX2_countFrame 8 = .ok (.aload_n 0, 1) := by decide +kernel
theorem dX2_countFrame_9 : decode cX2_countFrame 9 = .ok (.getfield 12, 3) := by decide +kernel
theorem dX2_countFrame_12 : decode cX2_countFrame 12 = .ok (.iconst 2, 1) := by decide +kernel
theorem dX2_countFrame_13 : decode cX2_countFrame 13 = .ok (.invokevirtual 45, 3) := by decide +kernel
theorem dX2_countFrame_16 : decode cX2_countFrame 16 = .ok (.invokevirtual 49, 3) := by decide +kernel
theorem dX2_countFrame_19 : decode cX2_countFrame 19 = .ok (.iconst 0, 1) := by decide +kernel
theorem dX2_countFrame_20 : decode cX2_countFrame 20 = .ok (.istore_n 1, 1) := by decide +kernel
theorem dX2_countFrame_21 : decode cX2_countFrame 21 = .ok (.iload_n 1, 1) := by decide +kernel
theorem dX2_countFrame_22 : decode cX2_countFrame 22 = .ok (.bipush 24, 2) := by decide +kernel
theorem dX2_countFrame_24 : decode cX2_countFrame 24 = .ok (.if_icmp .ge 61, 3) := by decide +kernel
theorem dX2_countFrame_27 : decode cX2_countFrame 27 = .ok (.aload_n 0, 1) := by decide +kernel
theorem dX2_countFrame_28 : decode cX2_countFrame 28 = .ok (.getfield 12, 3) := by decide +kernel
theorem dX2_countFrame_31 : decode cX2_countFrame 31 = .ok (.iload_n 1, 1) := by decide +kernel
theorem dX2_countFrame_32 : decode cX2_countFrame 32 = .ok (.invokevirtual 53, 3) := by decide +kernel
theorem dX2_countFrame_35 : decode cX2_countFrame 35 = .ok (.aload_n 0, 1) := by decide +kernel
theorem dX2_countFrame_36 : decode cX2_countFrame 36 = .ok (.getfield 21, 3) := by decide +kernel
theorem dX2_countFrame_39 : decode cX2_countFrame 39 = .ok (.aload_n 0, 1) := by decide +kernel
theorem dX2_countFrame_40 : decode cX2_countFrame 40 = .ok (.getfield 12, 3) := by decide +kernel
theorem dX2_countFrame_43 : decode cX2_countFrame 43 = .ok (.iload_n 1, 1) := by decide +kernel
theorem dX2_countFrame_44 : decode cX2_countFrame 44 = .ok (.invokevirtual 56, 3) := by decide +kernel
theorem dX2_countFrame_47 : decode cX2_countFrame 47 = .ok (.iconst (-1), 1) := by decide +kernel
theorem dX2_countFrame_48 : decode cX2_countFrame 48 = .ok (.ixor, 1) := by decide +kernel
theorem dX2_countFrame_49 : decode cX2_countFrame 49 = .ok (.iand, 1) := by decide +kernel
theorem dX2_countFrame_50 : decode cX2_countFrame 50 = .ok (.istore_n 2, 1) := by decide +kernel
theorem dX2_countFrame_51 : decode cX2_countFrame 51 = .ok (.iconst 0, 1) := by decide +kernel
theorem dX2_countFrame_52 : decode cX2_countFrame 52 = .ok (.istore_n 3, 1) := by decide +kernel
theorem dX2_countFrame_53 : decode cX2_countFrame 53 = .ok (.iload_n 3, 1) := by decide +kernel
theorem dX2_countFrame_54 : decode cX2_countFrame 54 = .ok (.bipush 12, 2) := by decide +kernel
theorem dX2_countFrame_56 : decode cX2_countFrame 56 = .ok (.if_icmp .ge 23, 3) := by decide +kernel
theorem dX2_countFrame_59 : decode cX2_countFrame 59 = .ok (.aload_n 0, 1) := by decide +kernel
theorem dX2_countFrame_60 : decode cX2_countFrame 60 = .ok (.getfield 25, 3) := by decide +kernel
theorem dX2_countFrame_63 : decode cX2_countFrame 63 = .ok (.iload_n 3, 1) := by decide +kernel
theorem dX2_countFrame_64 : decode cX2_countFrame 64 = .ok (.dup2, 1) := by decide +kernel
theorem dX2_countFrame_65 : decode cX2_countFrame 65 = .ok (.iaload, 1) := by decide +kernel
theorem dX2_countFrame_66 : decode cX2_countFrame 66 = .ok (.iload_n 2, 1) := by decide +kernel
theorem dX2_countFrame_67 : decode cX2_countFrame 67 = .ok (.iload_n 3, 1) := by decide +kernel
theorem dX2_countFrame_68 : decode cX2_countFrame 68 = .ok (.iushr, 1) := by decide +kernel
theorem dX2_countFrame_69 : decode cX2_countFrame 69 = .ok (.iconst 1, 1) := by decide +kernel
theorem dX2_countFrame_70 : decode cX2_countFrame 70 = .ok (.iand, 1) := by decide +kernel
theorem dX2_countFrame_71 : decode cX2_countFrame 71 = .ok (.iadd, 1) := by decide +kernel
theorem dX2_countFrame_72 : decode cX2_countFrame 72 = .ok (.iastore, 1) := by decide +kernel
theorem dX2_countFrame_73 : decode cX2_countFrame 73 = .ok (.iinc 3 1, 3) := by decide +kernel
theorem dX2_countFrame_76 : decode cX2_countFrame 76 = .ok (.goto (-23), 3) := by decide +kernel
theorem dX2_countFrame_79 : decode cX2_countFrame 79 = .ok (.iinc 1 1, 3) := by decide +kernel
theorem dX2_countFrame_82 : decode cX2_countFrame 82 = .ok (.goto (-61), 3) := by decide +kernel
theorem dX2_countFrame_85 : decode cX2_countFrame 85 = .ok (.return_, 1) := by decide +kernel
theorem dX2_dropsOf_0 : decode cX2_dropsOf 0 = .ok (.aload_n 0, 1) := by decide +kernel
theorem dX2_dropsOf_1 : decode cX2_dropsOf 1 = .ok (.getfield 25, 3) := by decide +kernel
theorem dX2_dropsOf_4 : decode cX2_dropsOf 4 = .ok (.iload_n 1, 1) := by decide +kernel
theorem dX2_dropsOf_5 : decode cX2_dropsOf 5 = .ok (.iaload, 1) := by decide +kernel
theorem dX2_dropsOf_6 : decode cX2_dropsOf 6 = .ok (.ireturn, 1) := by decide +kernel
theorem dX2_mostDropped_0 : decode cX2_mostDropped 0 = .ok (.iconst (-1), 1) := by decide +kernel
theorem dX2_mostDropped_1 : decode cX2_mostDropped 1 = .ok (.istore_n 1, 1) := by decide +kernel
theorem dX2_mostDropped_2 : decode cX2_mostDropped 2 = .ok (.iconst 0, 1) := by decide +kernel
theorem dX2_mostDropped_3 : decode cX2_mostDropped 3 = .ok (.istore_n 2, 1) := by decide +kernel
theorem dX2_mostDropped_4 : decode cX2_mostDropped 4 = .ok (.iconst 0, 1) := by decide +kernel
theorem dX2_mostDropped_5 : decode cX2_mostDropped 5 = .ok (.istore_n 3, 1) := by decide +kernel
theorem dX2_mostDropped_6 : decode cX2_mostDropped 6 = .ok (.iload_n 3, 1) := by decide +kernel
theorem dX2_mostDropped_7 : decode cX2_mostDropped 7 = .ok (.bipush 12, 2) := by decide +kernel
theorem dX2_mostDropped_9 : decode cX2_mostDropped 9 = .ok (.if_icmp .ge 28, 3) := by decide +kernel
theorem dX2_mostDropped_12 : decode cX2_mostDropped 12 = .ok (.aload_n 0, 1) := by decide +kernel
theorem dX2_mostDropped_13 : decode cX2_mostDropped 13 = .ok (.getfield 25, 3) := by decide +kernel
theorem dX2_mostDropped_16 : decode cX2_mostDropped 16 = .ok (.iload_n 3, 1) := by decide +kernel
theorem dX2_mostDropped_17 : decode cX2_mostDropped 17 = .ok (.iaload, 1) := by decide +kernel
theorem dX2_mostDropped_18 : decode cX2_mostDropped 18 = .ok (.iload_n 2, 1) := by decide +kernel
theorem dX2_mostDropped_19 : decode cX2_mostDropped 19 = .ok (.if_icmp .le 12, 3) := by decide +kernel
theorem dX2_mostDropped_22 : decode cX2_mostDropped 22 = .ok (.iload_n 3, 1) := by decide +kernel
theorem dX2_mostDropped_23 : decode cX2_mostDropped 23 = .ok (.istore_n 1, 1) := by decide +kernel
theorem dX2_mostDropped_24 : decode cX2_mostDropped 24 = .ok (.aload_n 0, 1) := by decide +kernel
theorem dX2_mostDropped_25 : decode cX2_mostDropped 25 = .ok (.getfield 25, 3) := by decide +kernel
theorem dX2_mostDropped_28 : decode cX2_mostDropped 28 = .ok (.iload_n 3, 1) := by decide +kernel
theorem dX2_mostDropped_29 : decode cX2_mostDropped 29 = .ok (.iaload, 1) := by decide +kernel
theorem dX2_mostDropped_30 : decode cX2_mostDropped 30 = .ok (.istore_n 2, 1) := by decide +kernel
theorem dX2_mostDropped_31 : decode cX2_mostDropped 31 = .ok (.iinc 3 1, 3) := by decide +kernel
theorem dX2_mostDropped_34 : decode cX2_mostDropped 34 = .ok (.goto (-28), 3) := by decide +kernel
theorem dX2_mostDropped_37 : decode cX2_mostDropped 37 = .ok (.iload_n 1, 1) := by decide +kernel
theorem dX2_mostDropped_38 : decode cX2_mostDropped 38 = .ok (.ireturn, 1) := by decide +kernel
theorem dX3_init_0 : decode cX3_init 0 = .ok (.aload_n 0, 1) := by decide +kernel
theorem dX3_init_1 : decode cX3_init 1 = .ok (.invokespecial 3, 3) := by decide +kernel
theorem dX3_init_4 : decode cX3_init 4 = .ok (.aload_n 0, 1) := by decide +kernel
theorem dX3_init_5 : decode cX3_init 5 = .ok (.bipush 20, 2) := by decide +kernel
theorem dX3_init_7 : decode cX3_init 7 = .ok (.sipush 132, 3) := by decide +kernel
theorem dX3_init_10 : decode cX3_init 10 = .ok (.multianewarray 11 2, 4) := by decide +kernel
theorem dX3_init_14 : decode cX3_init 14 = .ok (.putfield 13, 3) := by decide +kernel
theorem dX3_init_17 : decode cX3_init 17 = .ok (.return_, 1) := by decide +kernel
theorem dX3_size_0 : decode cX3_size 0 = .ok (.aload_n 0, 1) := by decide +kernel
theorem dX3_size_1 : decode cX3_size 1 = .ok (.getfield 18, 3) := by decide +kernel
theorem dX3_size_4 : decode cX3_size 4 = .ok (.ireturn, 1) := by decide +kernel
theorem dX3_clear_0 : decode cX3_clear 0 = .ok (.aload_n 0, 1) := by decide +kernel
theorem dX3_clear_1 : decode cX3_clear 1 = .ok (.iconst 0, 1) := by decide +kernel
theorem dX3_clear_2 : decode cX3_clear 2 = .ok (.putfield 18, 3) := by decide +kernel
theorem dX3_clear_5 : decode cX3_clear 5 = .ok (.return_, 1) := by decide +kernel
set_option maxRecDepth 20000 in
theorem ggX3_remember_X7_saveTo : GoodIn wsX3_remember wsX7_saveTo := goodIn_r _ [12, 13, 14, 15, 16, 17, 21] (by decide +kernel) (by decide +kernel)
set_option maxRecDepth 20000 in
theorem gX3_remember_X7_saveTo : GoodIn wsX3_remember (wsV RX3 25 RX7 yX7_saveTo wsX7_saveTo) := goodIn_app (goodIn_of _ (by decide +kernel)) ggX3_remember_X7_saveTo
theorem dX3_remember_0 : decode cX3_remember 0 = .ok (.aload_n 1, 1) := by decide +kernel
theorem dX3_remember_1 : decode cX3_remember 1 = .ok (.aload_n 0, 1) := by decide +kernel
theorem dX3_remember_2 : decode cX3_remember 2 = .ok (.getfield 13, 3) := by decide +kernel
theorem dX3_remember_5 : decode cX3_remember 5 = .ok (.aload_n 0, 1) := by decide +kernel
theorem dX3_remember_6 : decode cX3_remember 6 = .ok (.getfield 22, 3) := by decide +kernel
theorem dX3_remember_9 : decode cX3_remember 9 = .ok (.aaload, 1) := by decide +kernel
theorem dX3_remember_10 : decode cX3_remember 10 = .ok (.invokevirtual 25, 3) := by decide +kernel
theorem dX3_remember_13 : decode cX3_remember 13 = .ok (.aload_n 0, 1) := by decide +kernel
theorem dX3_remember_14 : decode cX3_remember 14 = .ok (.aload_n 0, 1) := by decide +kernel
theorem dX3_remember_15 : decode cX3_remember 15 = .ok (.getfield 22, 3) := by decide +kernel
theorem dX3_remember_18 : decode cX3_remember 18 = .ok (.iconst 1, 1) := by decide +kernel
theorem dX3_remember_19 : decode cX3_remember 19 = .ok (.iadd, 1) := by decide +kernel
theorem dX3_remember_20 : decode cX3_remember 20 = .ok (.bipush 20, 2) := by decide +kernel
theorem dX3_remember_22 : decode cX3_remember 22 = .ok (.irem, 1) := by decide +kernel
theorem dX3_remember_23 : decode cX3_remember 23 = .ok (.putfield 22, 3) := by decide +kernel
theorem dX3_remember_26 : decode cX3_remember 26 = .ok (.aload_n 0, 1) := by decide +kernel
theorem dX3_remember_27 : decode cX3_remember 27 = .ok (.aload_n 0, 1) := by decide +kernel
theorem dX3_remember_28 : decode cX3_remember 28 = .ok (.getfield 18, 3) := by decide +kernel
theorem dX3_remember_31 : decode cX3_remember 31 = .ok (.iconst 1, 1) := by decide +kernel
theorem dX3_remember_32 : decode cX3_remember 32 = .ok (.iadd, 1) := by decide +kernel
theorem dX3_remember_33 : decode cX3_remember 33 = .ok (.bipush 20, 2) := by decide +kernel
theorem dX3_remember_35 : decode cX3_remember 35 = .ok (.invokestatic 29, 3) := by decide +kernel
theorem dX3_remember_38 : decode cX3_remember 38 = .ok (.putfield 18, 3) := by decide +kernel
theorem dX3_remember_41 : decode cX3_remember 41 = .ok (.return_, 1) := by decide +kernel
set_option maxRecDepth 20000 in
theorem ggX3_bringBack_J9_floorMod_7cf53 : GoodIn wsX3_bringBack wsJ9_floorMod_7cf53 := goodIn_r _ [7] (by decide +kernel) (by decide +kernel)
set_option maxRecDepth 20000 in
theorem gX3_bringBack_J9_floorMod_7cf53 : GoodIn wsX3_bringBack (va_wsS RX3 35 yJ9_floorMod_7cf53 wsJ9_floorMod_7cf53) := goodIn_app (goodIn_of _ (by decide +kernel)) ggX3_bringBack_J9_floorMod_7cf53
set_option maxRecDepth 20000 in
theorem ggX3_bringBack_X7_loadFrom : GoodIn wsX3_bringBack wsX7_loadFrom := goodIn_r _ [12, 13, 14, 15, 16, 17, 21] (by decide +kernel) (by decide +kernel)
set_option maxRecDepth 20000 in
theorem gX3_bringBack_X7_loadFrom : GoodIn wsX3_bringBack (wsV RX3 38 RX7 yX7_loadFrom wsX7_loadFrom) := goodIn_app (goodIn_of _ (by decide +kernel)) ggX3_bringBack_X7_loadFrom
theorem dX3_bringBack_0 : decode cX3_bringBack 0 = .ok (.aload_n 0, 1) := by decide +kernel
theorem dX3_bringBack_1 : decode cX3_bringBack 1 = .ok (.aload_n 0, 1) := by decide +kernel
theorem dX3_bringBack_2 : decode cX3_bringBack 2 = .ok (.getfield 22, 3) := by decide +kernel
theorem dX3_bringBack_5 : decode cX3_bringBack 5 = .ok (.iload_n 2, 1) := by decide +kernel
theorem dX3_bringBack_6 : decode cX3_bringBack 6 = .ok (.isub, 1) := by decide +kernel
theorem dX3_bringBack_7 : decode cX3_bringBack 7 = .ok (.bipush 20, 2) := by decide +kernel
theorem dX3_bringBack_9 : decode cX3_bringBack 9 = .ok (.invokestatic 35, 3) := by decide +kernel
theorem dX3_bringBack_12 : decode cX3_bringBack 12 = .ok (.putfield 22, 3) := by decide +kernel
theorem dX3_bringBack_15 : decode cX3_bringBack 15 = .ok (.aload_n 0, 1) := by decide +kernel
theorem dX3_bringBack_16 : decode cX3_bringBack 16 = .ok (.dup, 1) := by decide +kernel
theorem dX3_bringBack_17 : decode cX3_bringBack 17 = .ok (.getfield 18, 3) := by decide +kernel
theorem dX3_bringBack_20 : decode cX3_bringBack 20 = .ok (.iload_n 2, 1) := by decide +kernel
theorem dX3_bringBack_21 : decode cX3_bringBack 21 = .ok (.isub, 1) := by decide +kernel
theorem dX3_bringBack_22 : decode cX3_bringBack 22 = .ok (.putfield 18, 3) := by decide +kernel
theorem dX3_bringBack_25 : decode cX3_bringBack 25 = .ok (.aload_n 1, 1) := by decide +kernel
theorem dX3_bringBack_26 : decode cX3_bringBack 26 = .ok (.aload_n 0, 1) := by decide +kernel
theorem dX3_bringBack_27 : decode cX3_bringBack 27 = .ok (.getfield 13, 3) := by decide +kernel
theorem dX3_bringBack_30 : decode cX3_bringBack 30 = .ok (.aload_n 0, 1) := by decide +kernel
theorem dX3_bringBack_31 : decode cX3_bringBack 31 = .ok (.getfield 22, 3) := by decide +kernel
theorem dX3_bringBack_34 : decode cX3_bringBack 34 = .ok (.aaload, 1) := by decide +kernel
theorem dX3_bringBack_35 : decode cX3_bringBack 35 = .ok (.invokevirtual 38, 3) := by decide +kernel
theorem dX3_bringBack_38 : decode cX3_bringBack 38 = .ok (.return_, 1) := by decide +kernel
theorem dX4_init_0 : decode cX4_init 0 = .ok (.aload_n 0, 1) := by decide +kernel
theorem dX4_init_1 : decode cX4_init 1 = .ok (.invokespecial 3, 3) := by decide +kernel
theorem dX4_init_4 : decode cX4_init 4 = .ok (.aload_n 0, 1) := by decide +kernel
theorem dX4_init_5 : decode cX4_init 5 = .ok (.bipush 12, 2) := by decide +kernel
theorem dX4_init_7 : decode cX4_init 7 = .ok (.newarray .int, 2) := by decide +kernel
theorem dX4_init_9 : decode cX4_init 9 = .ok (.putfield 9, 3) := by decide +kernel
theorem dX4_init_12 : decode cX4_init 12 = .ok (.aload_n 0, 1) := by decide +kernel
theorem dX4_init_13 : decode cX4_init 13 = .ok (.bipush 12, 2) := by decide +kernel
theorem dX4_init_15 : decode cX4_init 15 = .ok (.newarray .int, 2) := by decide +kernel
theorem dX4_init_17 : decode cX4_init 17 = .ok (.putfield 15, 3) := by decide +kernel
theorem dX4_init_20 : decode cX4_init 20 = .ok (.return_, 1) := by decide +kernel
set_option maxRecDepth 20000 in
theorem ggX4_assign_X7_cell : GoodIn wsX4_assign wsX7_cell := goodIn_r _ [7, 8, 26] (by decide +kernel) (by decide +kernel)
set_option maxRecDepth 20000 in
theorem gX4_assign_X7_cell : GoodIn wsX4_assign (wsV RX4 24 RX7 yX7_cell wsX7_cell) := goodIn_app (goodIn_of _ (by decide +kernel)) ggX4_assign_X7_cell
set_option maxRecDepth 20000 in
theorem ggX4_assign_X7_field : GoodIn wsX4_assign wsX7_field := goodIn_r _ [12, 8, 26] (by decide +kernel) (by decide +kernel)
set_option maxRecDepth 20000 in
theorem gX4_assign_X7_field : GoodIn wsX4_assign (wsV RX4 28 RX7 yX7_field wsX7_field) := goodIn_app (goodIn_of _ (by decide +kernel)) ggX4_assign_X7_field
set_option maxRecDepth 20000 in
theorem ggX4_assign_X4_occupy : GoodIn wsX4_assign wsX4_occupy := goodIn_r _ [17, 1, 18, 19, 20, 21, 22, 23, 24, 25] (by decide +kernel) (by decide +kernel)
set_option maxRecDepth 20000 in
theorem gX4_assign_X4_occupy : GoodIn wsX4_assign (wsV RX4 32 RX4 yX4_occupy wsX4_occupy) := goodIn_app (goodIn_of _ (by decide +kernel)) ggX4_assign_X4_occupy
theorem dX4_assign_0 : decode cX4_assign 0 = .ok (.aload_n 0, 1) := by decide +kernel
theorem dX4_assign_1 : decode cX4_assign 1 = .ok (.iconst 0, 1) := by decide +kernel
theorem dX4_assign_2 : decode cX4_assign 2 = .ok (.putfield 18, 3) := by decide +kernel
theorem dX4_assign_5 : decode cX4_assign 5 = .ok (.bipush (-8), 2) := by decide +kernel
theorem dX4_assign_7 : decode cX4_assign 7 = .ok (.istore_n 2, 1) := by decide +kernel
theorem dX4_assign_8 : decode cX4_assign 8 = .ok (.iload_n 2, 1) := by decide +kernel
theorem dX4_assign_9 : decode cX4_assign 9 = .ok (.bipush 24, 2) := by decide +kernel
theorem dX4_assign_11 : decode cX4_assign 11 = .ok (.if_icmp .ge 47, 3) := by decide +kernel
theorem dX4_assign_14 : decode cX4_assign 14 = .ok (.iconst 0, 1) := by decide +kernel
theorem dX4_assign_15 : decode cX4_assign 15 = .ok (.istore_n 3, 1) := by decide +kernel
theorem dX4_assign_16 : decode cX4_assign 16 = .ok (.iload_n 3, 1) := by decide +kernel
theorem dX4_assign_17 : decode cX4_assign 17 = .ok (.aload_n 1, 1) := by decide +kernel
theorem dX4_assign_18 : decode cX4_assign 18 = .ok (.iconst 0, 1) := by decide +kernel
theorem dX4_assign_19 : decode cX4_assign 19 = .ok (.invokevirtual 24, 3) := by decide +kernel
theorem dX4_assign_22 : decode cX4_assign 22 = .ok (.if_icmp .ge 30, 3) := by decide +kernel
theorem dX4_assign_25 : decode cX4_assign 25 = .ok (.aload_n 1, 1) := by decide +kernel
theorem dX4_assign_26 : decode cX4_assign 26 = .ok (.iload_n 3, 1) := by decide +kernel
theorem dX4_assign_27 : decode cX4_assign 27 = .ok (.iconst 1, 1) := by decide +kernel
theorem dX4_assign_28 : decode cX4_assign 28 = .ok (.invokevirtual 28, 3) := by decide +kernel
theorem dX4_assign_31 : decode cX4_assign 31 = .ok (.iload_n 2, 1) := by decide +kernel
theorem dX4_assign_32 : decode cX4_assign 32 = .ok (.if_icmp .ne 14, 3) := by decide +kernel
theorem dX4_assign_35 : decode cX4_assign 35 = .ok (.aload_n 0, 1) := by decide +kernel
theorem dX4_assign_36 : decode cX4_assign 36 = .ok (.getfield 9, 3) := by decide +kernel
theorem dX4_assign_39 : decode cX4_assign 39 = .ok (.iload_n 3, 1) := by decide +kernel
theorem dX4_assign_40 : decode cX4_assign 40 = .ok (.aload_n 0, 1) := by decide +kernel
theorem dX4_assign_41 : decode cX4_assign 41 = .ok (.iload_n 2, 1) := by decide +kernel
theorem dX4_assign_42 : decode cX4_assign 42 = .ok (.invokevirtual 32, 3) := by decide +kernel
theorem dX4_assign_45 : decode cX4_assign 45 = .ok (.iastore, 1) := by decide +kernel
theorem dX4_assign_46 : decode cX4_assign 46 = .ok (.iinc 3 1, 3) := by decide +kernel
theorem dX4_assign_49 : decode cX4_assign 49 = .ok (.goto (-33), 3) := by decide +kernel
theorem dX4_assign_52 : decode cX4_assign 52 = .ok (.iinc 2 1, 3) := by decide +kernel
theorem dX4_assign_55 : decode cX4_assign 55 = .ok (.goto (-47), 3) := by decide +kernel
theorem dX4_assign_58 : decode cX4_assign 58 = .ok (.aload_n 0, 1) := by decide +kernel
theorem dX4_assign_59 : decode cX4_assign 59 = .ok (.getfield 18, 3) := by decide +kernel
theorem dX4_assign_62 : decode cX4_assign 62 = .ok (.ireturn, 1) := by decide +kernel
theorem dX4_occupy_0 : decode cX4_occupy 0 = .ok (.iconst 0, 1) := by decide +kernel
theorem dX4_occupy_1 : decode cX4_occupy 1 = .ok (.istore_n 2, 1) := by decide +kernel
theorem dX4_occupy_2 : decode cX4_occupy 2 = .ok (.iload_n 2, 1) := by decide +kernel
theorem dX4_occupy_3 : decode cX4_occupy 3 = .ok (.aload_n 0, 1) := by decide +kernel
theorem dX4_occupy_4 : decode cX4_occupy 4 = .ok (.getfield 18, 3) := by decide +kernel
theorem dX4_occupy_7 : decode cX4_occupy 7 = .ok (.if_icmp .ge 19, 3) := by decide +kernel
theorem dX4_occupy_10 : decode cX4_occupy 10 = .ok (.aload_n 0, 1) := by decide +kernel
theorem dX4_occupy_11 : decode cX4_occupy 11 = .ok (.getfield 15, 3) := by decide +kernel
theorem dX4_occupy_14 : decode cX4_occupy 14 = .ok (.iload_n 2, 1) := by decide +kernel
theorem dX4_occupy_15 : decode cX4_occupy 15 = .ok (.iaload, 1) := by decide +kernel
theorem dX4_occupy_16 : decode cX4_occupy 16 = .ok (.iload_n 1, 1) := by decide +kernel
theorem dX4_occupy_17 : decode cX4_occupy 17 = .ok (.if_icmp .le 9, 3) := by decide +kernel
theorem dX4_occupy_20 : decode cX4_occupy 20 = .ok (.iinc 2 1, 3) := by decide +kernel
theorem dX4_occupy_23 : decode cX4_occupy 23 = .ok (.goto (-21), 3) := by decide +kernel
theorem dX4_occupy_26 : decode cX4_occupy 26 = .ok (.iload_n 2, 1) := by decide +kernel
theorem dX4_occupy_27 : decode cX4_occupy 27 = .ok (.bipush 12, 2) := by decide +kernel
theorem dX4_occupy_29 : decode cX4_occupy 29 = .ok (.if_icmp .ge 27, 3) := by decide +kernel
theorem dX4_occupy_32 : decode cX4_occupy 32 = .ok (.aload_n 0, 1) := by decide +kernel
theorem dX4_occupy_33 : decode cX4_occupy 33 = .ok (.getfield 15, 3) := by decide +kernel
theorem dX4_occupy_36 : decode cX4_occupy 36 = .ok (.iload_n 2, 1) := by decide +kernel
theorem dX4_occupy_37 : decode cX4_occupy 37 = .ok (.iload_n 1, 1) := by decide +kernel
theorem dX4_occupy_38 : decode cX4_occupy 38 = .ok (.bipush 8, 2) := by decide +kernel
theorem dX4_occupy_40 : decode cX4_occupy 40 = .ok (.iadd, 1) := by decide +kernel
theorem dX4_occupy_41 : decode cX4_occupy 41 = .ok (.iastore, 1) := by decide +kernel
theorem dX4_occupy_42 : decode cX4_occupy 42 = .ok (.aload_n 0, 1) := by decide +kernel
theorem dX4_occupy_43 : decode cX4_occupy 43 = .ok (.aload_n 0, 1) := by decide +kernel
theorem dX4_occupy_44 : decode cX4_occupy 44 = .ok (.getfield 18, 3) := by decide +kernel
theorem dX4_occupy_47 : decode cX4_occupy 47 = .ok (.iload_n 2, 1) := by decide +kernel
theorem dX4_occupy_48 : decode cX4_occupy 48 = .ok (.iconst 1, 1) := by decide +kernel
theorem dX4_occupy_49 : decode cX4_occupy 49 = .ok (.iadd, 1) := by decide +kernel
theorem dX4_occupy_50 : decode cX4_occupy 50 = .ok (.invokestatic 35, 3) := by decide +kernel
theorem dX4_occupy_53 : decode cX4_occupy 53 = .ok (.putfield 18, 3) := by decide +kernel
theorem dX4_occupy_56 : decode cX4_occupy 56 = .ok (.iload_n 2, 1) := by decide +kernel
theorem dX4_occupy_57 : decode cX4_occupy 57 = .ok (.ireturn, 1) := by decide +kernel
theorem dX4_holderOf_0 : decode cX4_holderOf 0 = .ok (.aload_n 0, 1) := by decide +kernel
theorem dX4_holderOf_1 : decode cX4_holderOf 1 = .ok (.getfield 9, 3) := by decide +kernel
theorem dX4_holderOf_4 : decode cX4_holderOf 4 = .ok (.iload_n 1, 1) := by decide +kernel
theorem dX4_holderOf_5 : decode cX4_holderOf 5 = .ok (.iaload, 1) := by decide +kernel
theorem dX4_holderOf_6 : decode cX4_holderOf 6 = .ok (.ireturn, 1) := by decide +kernel
theorem dX5_init_0 : decode cX5_init 0 = .ok (.aload_n 0, 1) := by decide +kernel
theorem dX5_init_1 : decode cX5_init 1 = .ok (.invokespecial 3, 3) := by decide +kernel
theorem dX5_init_4 : decode cX5_init 4 = .ok (.aload_n 0, 1) := by decide +kernel
theorem dX5_init_5 : decode cX5_init 5 = .ok (.bipush 12, 2) := by decide +kernel
theorem dX5_init_7 : decode cX5_init 7 = .ok (.newarray .int, 2) := by decide +kernel
theorem dX5_init_9 : decode cX5_init 9 = .ok (.putfield 9, 3) := by decide +kernel
theorem dX5_init_12 : decode cX5_init 12 = .ok (.return_, 1) := by decide +kernel
set_option maxRecDepth 20000 in
theorem ggX5_arrange_X7_cell : GoodIn wsX5_arrange wsX7_cell := goodIn_r _ [6, 7, 22] (by decide +kernel) (by decide +kernel)
set_option maxRecDepth 20000 in
theorem gX5_arrange_X7_cell : GoodIn wsX5_arrange (wsV RX5 17 RX7 yX7_cell wsX7_cell) := goodIn_app (goodIn_of _ (by decide +kernel)) ggX5_arrange_X7_cell
set_option maxRecDepth 20000 in
theorem ggX5_arrange_X5_arrangeByLevel : GoodIn wsX5_arrange wsX5_arrangeByLevel := goodIn_r _ [12, 1, 13, 14, 15, 5, 16, 7, 21, 22] (by decide +kernel) (by decide +kernel)
set_option maxRecDepth 20000 in
theorem gX5_arrange_X5_arrangeByLevel : GoodIn wsX5_arrange (wsV RX5 21 RX5 yX5_arrangeByLevel wsX5_arrangeByLevel) := goodIn_app (goodIn_of _ (by decide +kernel)) ggX5_arrange_X5_arrangeByLevel
set_option maxRecDepth 20000 in
theorem ggX5_arrange_J9_floorMod_7cf53 : GoodIn wsX5_arrange wsJ9_floorMod_7cf53 := goodIn_r _ [20] (by decide +kernel) (by decide +kernel)
set_option maxRecDepth 20000 in
theorem gX5_arrange_J9_floorMod_7cf53 : GoodIn wsX5_arrange (va_wsS RX5 25 yJ9_floorMod_7cf53 wsJ9_floorMod_7cf53) := goodIn_app (goodIn_of _ (by decide +kernel)) ggX5_arrange_J9_floorMod_7cf53
theorem dX5_arrange_0 : decode cX5_arrange 0 = .ok (.aload_n 1, 1) := by decide +kernel
theorem dX5_arrange_1 : decode cX5_arrange 1 = .ok (.iconst 0, 1) := by decide +kernel
theorem dX5_arrange_2 : decode cX5_arrange 2 = .ok (.invokevirtual 17, 3) := by decide +kernel
theorem dX5_arrange_5 : decode cX5_arrange 5 = .ok (.istore_n 3, 1) := by decide +kernel
theorem dX5_arrange_6 : decode cX5_arrange 6 = .ok (.iload_n 2, 1) := by decide +kernel
theorem dX5_arrange_7 : decode cX5_arrange 7 = .ok (.iconst 3, 1) := by decide +kernel
theorem dX5_arrange_8 : decode cX5_arrange 8 = .ok (.if_icmp .ne 10, 3) := by decide +kernel
theorem dX5_arrange_11 : decode cX5_arrange 11 = .ok (.aload_n 0, 1) := by decide +kernel
theorem dX5_arrange_12 : decode cX5_arrange 12 = .ok (.aload_n 1, 1) := by decide +kernel
theorem dX5_arrange_13 : decode cX5_arrange 13 = .ok (.iload_n 3, 1) := by decide +kernel
theorem dX5_arrange_14 : decode cX5_arrange 14 = .ok (.invokevirtual 21, 3) := by decide +kernel
theorem dX5_arrange_17 : decode cX5_arrange 17 = .ok (.return_, 1) := by decide +kernel
theorem dX5_arrange_18 : decode cX5_arrange 18 = .ok (.iload_n 2, 1) := by decide +kernel
theorem dX5_arrange_19 : decode cX5_arrange 19 = .ok (.iconst 2, 1) := by decide +kernel
theorem dX5_arrange_20 : decode cX5_arrange 20 = .ok (.if_icmp .ne 19, 3) := by decide +kernel
theorem dX5_arrange_23 : decode cX5_arrange 23 = .ok (.iload_n 3, 1) := by decide +kernel
theorem dX5_arrange_24 : decode cX5_arrange 24 = .ok (.ifCond .le 15, 3) := by decide +kernel
theorem dX5_arrange_27 : decode cX5_arrange 27 = .ok (.aload_n 1, 1) := by decide +kernel
theorem dX5_arrange_28 : decode cX5_arrange 28 = .ok (.iconst 3, 1) := by decide +kernel
theorem dX5_arrange_29 : decode cX5_arrange 29 = .ok (.invokevirtual 17, 3) := by decide +kernel
theorem dX5_arrange_32 : decode cX5_arrange 32 = .ok (.iload_n 3, 1) := by decide +kernel
theorem dX5_arrange_33 : decode cX5_arrange 33 = .ok (.invokestatic 25, 3) := by decide +kernel
theorem dX5_arrange_36 : decode cX5_arrange 36 = .ok (.goto 4, 3) := by decide +kernel
theorem dX5_arrange_39 : decode cX5_arrange 39 = .ok (.iconst 0, 1) := by decide +kernel
theorem dX5_arrange_40 : decode cX5_arrange 40 = .ok (.istore 4, 2) := by decide +kernel
theorem dX5_arrange_42 : decode cX5_arrange 42 = .ok (.iconst 0, 1) := by decide +kernel
theorem dX5_arrange_43 : decode cX5_arrange 43 = .ok (.istore 5, 2) := by decide +kernel
theorem dX5_arrange_45 : decode cX5_arrange 45 = .ok (.iload 5, 2) := by decide +kernel
theorem dX5_arrange_47 : decode cX5_arrange 47 = .ok (.iload_n 3, 1) := by decide +kernel
theorem dX5_arrange_48 : decode cX5_arrange 48 = .ok (.if_icmp .ge 58, 3) := by decide +kernel
theorem dX5_arrange_51 : decode cX5_arrange 51 = .ok (.iload 4, 2) := by decide +kernel
theorem dX5_arrange_53 : decode cX5_arrange 53 = .ok (.iload 5, 2) := by decide +kernel
theorem dX5_arrange_55 : decode cX5_arrange 55 = .ok (.iadd, 1) := by decide +kernel
theorem dX5_arrange_56 : decode cX5_arrange 56 = .ok (.iload_n 3, 1) := by decide +kernel
theorem dX5_arrange_57 : decode cX5_arrange 57 = .ok (.if_icmp .ge 11, 3) := by decide +kernel
theorem dX5_arrange_60 : decode cX5_arrange 60 = .ok (.iload 4, 2) := by decide +kernel
theorem dX5_arrange_62 : decode cX5_arrange 62 = .ok (.iload 5, 2) := by decide +kernel
theorem dX5_arrange_64 : decode cX5_arrange 64 = .ok (.iadd, 1) := by decide +kernel
theorem dX5_arrange_65 : decode cX5_arrange 65 = .ok (.goto 10, 3) := by decide +kernel
theorem dX5_arrange_68 : decode cX5_arrange 68 = .ok (.iload 4, 2) := by decide +kernel
theorem dX5_arrange_70 : decode cX5_arrange 70 = .ok (.iload 5, 2) := by decide +kernel
theorem dX5_arrange_72 : decode cX5_arrange 72 = .ok (.iadd, 1) := by decide +kernel
theorem dX5_arrange_73 : decode cX5_arrange 73 = .ok (.iload_n 3, 1) := by decide +kernel
theorem dX5_arrange_74 : decode cX5_arrange 74 = .ok (.isub, 1) := by decide +kernel
theorem dX5_arrange_75 : decode cX5_arrange 75 = .ok (.istore 6, 2) := by decide +kernel
theorem dX5_arrange_77 : decode cX5_arrange 77 = .ok (.aload_n 0, 1) := by decide +kernel
theorem dX5_arrange_78 : decode cX5_arrange 78 = .ok (.getfield 9, 3) := by decide +kernel
theorem dX5_arrange_81 : decode cX5_arrange 81 = .ok (.iload 5, 2) := by decide +kernel
theorem dX5_arrange_83 : decode cX5_arrange 83 = .ok (.iload_n 2, 1) := by decide +kernel
theorem dX5_arrange_84 : decode cX5_arrange 84 = .ok (.iconst 1, 1) := by decide +kernel
theorem dX5_arrange_85 : decode cX5_arrange 85 = .ok (.if_icmp .ne 12, 3) := by decide +kernel
theorem dX5_arrange_88 : decode cX5_arrange 88 = .ok (.iload_n 3, 1) := by decide +kernel
theorem dX5_arrange_89 : decode cX5_arrange 89 = .ok (.iconst 1, 1) := by decide +kernel
theorem dX5_arrange_90 : decode cX5_arrange 90 = .ok (.isub, 1) := by decide +kernel
theorem dX5_arrange_91 : decode cX5_arrange 91 = .ok (.iload 5, 2) := by decide +kernel
theorem dX5_arrange_93 : decode cX5_arrange 93 = .ok (.isub, 1) := by decide +kernel
theorem dX5_arrange_94 : decode cX5_arrange 94 = .ok (.goto 5, 3) := by decide +kernel
theorem dX5_arrange_97 : decode cX5_arrange 97 = .ok (.iload 6, 2) := by decide +kernel
theorem dX5_arrange_99 : decode cX5_arrange 99 = .ok (.iastore, 1) := by decide +kernel
theorem dX5_arrange_100 : decode cX5_arrange 100 = .ok (.iinc 5 1, 3) := by decide +kernel
theorem dX5_arrange_103 : decode cX5_arrange 103 = .ok (.goto (-58), 3) := by decide +kernel
theorem dX5_arrange_106 : decode cX5_arrange 106 = .ok (.return_, 1) := by decide +kernel
set_option maxRecDepth 20000 in
theorem ggX5_arrangeByLevel_X7_field : GoodIn wsX5_arrangeByLevel wsX7_field := goodIn_r _ [6, 7, 9] (by decide +kernel) (by decide +kernel)
set_option maxRecDepth 20000 in
theorem gX5_arrangeByLevel_X7_field : GoodIn wsX5_arrangeByLevel (wsV RX5 31 RX7 yX7_field wsX7_field) := goodIn_app (goodIn_of _ (by decide +kernel)) ggX5_arrangeByLevel_X7_field
theorem dX5_arrangeByLevel_0 : decode cX5_arrangeByLevel 0 = .ok (.iconst 0, 1) := by decide +kernel
theorem dX5_arrangeByLevel_1 : decode cX5_arrangeByLevel 1 = .ok (.istore_n 3, 1) := by decide +kernel
theorem dX5_arrangeByLevel_2 : decode cX5_arrangeByLevel 2 = .ok (.iconst 0, 1) := by decide +kernel
theorem dX5_arrangeByLevel_3 : decode cX5_arrangeByLevel 3 = .ok (.istore 4, 2) := by decide +kernel
theorem dX5_arrangeByLevel_5 : decode cX5_arrangeByLevel 5 = .ok (.iload 4, 2) := by decide +kernel
theorem dX5_arrangeByLevel_7 : decode cX5_arrangeByLevel 7 = .ok (.iconst 4, 1) := by decide +kernel
theorem dX5_arrangeByLevel_8 : decode cX5_arrangeByLevel 8 = .ok (.if_icmp .ge 53, 3) := by decide +kernel
theorem dX5_arrangeByLevel_11 : decode cX5_arrangeByLevel 11 = .ok (.iconst 0, 1) := by decide +kernel
theorem dX5_arrangeByLevel_12 : decode cX5_arrangeByLevel 12 = .ok (.istore 5, 2) := by decide +kernel
theorem dX5_arrangeByLevel_14 : decode cX5_arrangeByLevel 14 = .ok (.iload 5, 2) := by decide +kernel
theorem dX5_arrangeByLevel_16 : decode cX5_arrangeByLevel 16 = .ok (.iload_n 2, 1) := by decide +kernel
theorem dX5_arrangeByLevel_17 : decode cX5_arrangeByLevel 17 = .ok (.if_icmp .ge 38, 3) := by decide +kernel
theorem dX5_arrangeByLevel_20 : decode cX5_arrangeByLevel 20 = .ok (.aload_n 1, 1) := by decide +kernel
theorem dX5_arrangeByLevel_21 : decode cX5_arrangeByLevel 21 = .ok (.iload 5, 2) := by decide +kernel
theorem dX5_arrangeByLevel_23 : decode cX5_arrangeByLevel 23 = .ok (.iconst 4, 1) := by decide +kernel
theorem dX5_arrangeByLevel_24 : decode cX5_arrangeByLevel 24 = .ok (.invokevirtual 31, 3) := by decide +kernel
theorem dX5_arrangeByLevel_27 : decode cX5_arrangeByLevel 27 = .ok (.iload 4, 2) := by decide +kernel
theorem dX5_arrangeByLevel_29 : decode cX5_arrangeByLevel 29 = .ok (.if_icmp .ne 20, 3) := by decide +kernel
theorem dX5_arrangeByLevel_32 : decode cX5_arrangeByLevel 32 = .ok (.iload_n 3, 1) := by decide +kernel
theorem dX5_arrangeByLevel_33 : decode cX5_arrangeByLevel 33 = .ok (.bipush 12, 2) := by decide +kernel
theorem dX5_arrangeByLevel_35 : decode cX5_arrangeByLevel 35 = .ok (.if_icmp .ge 14, 3) := by decide +kernel
theorem dX5_arrangeByLevel_38 : decode cX5_arrangeByLevel 38 = .ok (.aload_n 0, 1) := by decide +kernel
theorem dX5_arrangeByLevel_39 : decode cX5_arrangeByLevel 39 = .ok (.getfield 9, 3) := by decide +kernel
theorem dX5_arrangeByLevel_42 : decode cX5_arrangeByLevel 42 = .ok (.iload_n 3, 1) := by decide +kernel
theorem dX5_arrangeByLevel_43 : decode cX5_arrangeByLevel 43 = .ok (.iload 5, 2) := by decide +kernel
theorem dX5_arrangeByLevel_45 : decode cX5_arrangeByLevel 45 = .ok (.iastore, 1) := by decide +kernel
theorem dX5_arrangeByLevel_46 : decode cX5_arrangeByLevel 46 = .ok (.iinc 3 1, 3) := by decide +kernel
theorem dX5_arrangeByLevel_49 : decode cX5_arrangeByLevel 49 = .ok (.iinc 5 1, 3) := by decide +kernel
theorem dX5_arrangeByLevel_52 : decode cX5_arrangeByLevel 52 = .ok (.goto (-38), 3) := by decide +kernel
theorem dX5_arrangeByLevel_55 : decode cX5_arrangeByLevel 55 = .ok (.iinc 4 1, 3) := by decide +kernel
theorem dX5_arrangeByLevel_58 : decode cX5_arrangeByLevel 58 = .ok (.goto (-53), 3) := by decide +kernel
theorem dX5_arrangeByLevel_61 : decode cX5_arrangeByLevel 61 = .ok (.return_, 1) := by decide +kernel
set_option maxRecDepth 20000 in
theorem ggX5_chosen_X7_cell : GoodIn wsX5_chosen wsX7_cell := goodIn_r _ [6, 7, 20] (by decide +kernel) (by decide +kernel)
set_option maxRecDepth 20000 in
theorem gX5_chosen_X7_cell : GoodIn wsX5_chosen (wsV RX5 17 RX7 yX7_cell wsX7_cell) := goodIn_app (goodIn_of _ (by decide +kernel)) ggX5_chosen_X7_cell
set_option maxRecDepth 20000 in
theorem ggX5_chosen_X7_isOn : GoodIn wsX5_chosen wsX7_isOn := goodIn_r _ [11, 12, 13, 14, 5, 15, 7, 16, 17, 18, 20] (by decide +kernel) (by decide +kernel)
set_option maxRecDepth 20000 in
theorem gX5_chosen_X7_isOn : GoodIn wsX5_chosen (wsV RX5 34 RX7 yX7_isOn wsX7_isOn) := goodIn_app (goodIn_of _ (by decide +kernel)) ggX5_chosen_X7_isOn
theorem dX5_chosen_0 : decode cX5_chosen 0 = .ok (.aload_n 1, 1) := by decide +kernel
theorem dX5_chosen_1 : decode cX5_chosen 1 = .ok (.iconst 1, 1) := by decide +kernel
theorem dX5_chosen_2 : decode cX5_chosen 2 = .ok (.invokevirtual 17, 3) := by decide +kernel
theorem dX5_chosen_5 : decode cX5_chosen 5 = .ok (.istore_n 3, 1) := by decide +kernel
theorem dX5_chosen_6 : decode cX5_chosen 6 = .ok (.iconst 0, 1) := by decide +kernel
theorem dX5_chosen_7 : decode cX5_chosen 7 = .ok (.istore 4, 2) := by decide +kernel
theorem dX5_chosen_9 : decode cX5_chosen 9 = .ok (.iconst 0, 1) := by decide +kernel
theorem dX5_chosen_10 : decode cX5_chosen 10 = .ok (.istore 5, 2) := by decide +kernel
theorem dX5_chosen_12 : decode cX5_chosen 12 = .ok (.iload 5, 2) := by decide +kernel
theorem dX5_chosen_14 : decode cX5_chosen 14 = .ok (.aload_n 1, 1) := by decide +kernel
theorem dX5_chosen_15 : decode cX5_chosen 15 = .ok (.iconst 0, 1) := by decide +kernel
theorem dX5_chosen_16 : decode cX5_chosen 16 = .ok (.invokevirtual 17, 3) := by decide +kernel
theorem dX5_chosen_19 : decode cX5_chosen 19 = .ok (.if_icmp .ge 45, 3) := by decide +kernel
theorem dX5_chosen_22 : decode cX5_chosen 22 = .ok (.iload_n 3, 1) := by decide +kernel
theorem dX5_chosen_23 : decode cX5_chosen 23 = .ok (.ifCond .le 41, 3) := by decide +kernel
theorem dX5_chosen_26 : decode cX5_chosen 26 = .ok (.aload_n 1, 1) := by decide +kernel
theorem dX5_chosen_27 : decode cX5_chosen 27 = .ok (.aload_n 0, 1) := by decide +kernel
theorem dX5_chosen_28 : decode cX5_chosen 28 = .ok (.getfield 9, 3) := by decide +kernel
theorem dX5_chosen_31 : decode cX5_chosen 31 = .ok (.iload 5, 2) := by decide +kernel
theorem dX5_chosen_33 : decode cX5_chosen 33 = .ok (.iaload, 1) := by decide +kernel
theorem dX5_chosen_34 : decode cX5_chosen 34 = .ok (.iload_n 2, 1) := by decide +kernel
theorem dX5_chosen_35 : decode cX5_chosen 35 = .ok (.invokevirtual 34, 3) := by decide +kernel
theorem dX5_chosen_38 : decode cX5_chosen 38 = .ok (.ifCond .eq 20, 3) := by decide +kernel
theorem dX5_chosen_41 : decode cX5_chosen 41 = .ok (.iload 4, 2) := by decide +kernel
theorem dX5_chosen_43 : decode cX5_chosen 43 = .ok (.iconst 1, 1) := by decide +kernel
theorem dX5_chosen_44 : decode cX5_chosen 44 = .ok (.aload_n 0, 1) := by decide +kernel
theorem dX5_chosen_45 : decode cX5_chosen 45 = .ok (.getfield 9, 3) := by decide +kernel
theorem dX5_chosen_48 : decode cX5_chosen 48 = .ok (.iload 5, 2) := by decide +kernel
theorem dX5_chosen_50 : decode cX5_chosen 50 = .ok (.iaload, 1) := by decide +kernel
theorem dX5_chosen_51 : decode cX5_chosen 51 = .ok (.ishl, 1) := by decide +kernel
theorem dX5_chosen_52 : decode cX5_chosen 52 = .ok (.ior, 1) := by decide +kernel
theorem dX5_chosen_53 : decode cX5_chosen 53 = .ok (.istore 4, 2) := by decide +kernel
theorem dX5_chosen_55 : decode cX5_chosen 55 = .ok (.iinc 3 (-1), 3) := by decide +kernel
theorem dX5_chosen_58 : decode cX5_chosen 58 = .ok (.iinc 5 1, 3) := by decide +kernel
theorem dX5_chosen_61 : decode cX5_chosen 61 = .ok (.goto (-49), 3) := by decide +kernel
theorem dX5_chosen_64 : decode cX5_chosen 64 = .ok (.iload 4, 2) := by decide +kernel
theorem dX5_chosen_66 : decode cX5_chosen 66 = .ok (.ireturn, 1) := by decide +kernel
theorem dX6_init_0 : decode cX6_init 0 = .ok (.aload_n 0, 1) := by decide +kernel
theorem dX6_init_1 : decode cX6_init 1 = .ok (.invokespecial 3, 3) := by decide +kernel
theorem dX6_init_4 : decode cX6_init 4 = .ok (.aload_n 0, 1) := by decide +kernel
theorem dX6_init_5 : decode cX6_init 5 = .ok (.bipush 12, 2) := by decide +kernel
theorem dX6_init_7 : decode cX6_init 7 = .ok (.newarray .int, 2) := by decide +kernel
theorem dX6_init_9 : decode cX6_init 9 = .ok (.putfield 9, 3) := by decide +kernel
theorem dX6_init_12 : decode cX6_init 12 = .ok (.aload_n 0, 1) := by decide +kernel
theorem dX6_init_13 : decode cX6_init 13 = .ok (.iconst 3, 1) := by decide +kernel
theorem dX6_init_14 : decode cX6_init 14 = .ok (.newarray .int, 2) := by decide +kernel
theorem dX6_init_16 : decode cX6_init 16 = .ok (.putfield 15, 3) := by decide +kernel
theorem dX6_init_19 : decode cX6_init 19 = .ok (.return_, 1) := by decide +kernel
set_option maxRecDepth 20000 in
theorem ggX6_paint_J7_fill_53178 : GoodIn wsX6_paint wsJ7_fill_53178 := goodIn_r _ [7] (by decide +kernel) (by decide +kernel)
set_option maxRecDepth 20000 in
theorem gX6_paint_J7_fill_53178 : GoodIn wsX6_paint (va_wsS RX6 18 yJ7_fill_53178 wsJ7_fill_53178) := goodIn_app (goodIn_of _ (by decide +kernel)) ggX6_paint_J7_fill_53178
set_option maxRecDepth 20000 in
theorem ggX6_paint_X7_cell : GoodIn wsX6_paint wsX7_cell := goodIn_r _ [12, 13, 43] (by decide +kernel) (by decide +kernel)
set_option maxRecDepth 20000 in
theorem gX6_paint_X7_cell : GoodIn wsX6_paint (wsV RX6 30 RX7 yX7_cell wsX7_cell) := goodIn_app (goodIn_of _ (by decide +kernel)) ggX6_paint_X7_cell
set_option maxRecDepth 20000 in
theorem ggX6_paint_X9_isInSet : GoodIn wsX6_paint wsX9_isInSet := goodIn_r _ [16] (by decide +kernel) (by decide +kernel)
set_option maxRecDepth 20000 in
theorem gX6_paint_X9_isInSet_n34 : GoodIn wsX6_paint (wsX9_isInSet) := ggX6_paint_X9_isInSet
set_option maxRecDepth 20000 in
theorem ggX6_paint_X7_field : GoodIn wsX6_paint wsX7_field := goodIn_r _ [20, 13, 43] (by decide +kernel) (by decide +kernel)
set_option maxRecDepth 20000 in
theorem gX6_paint_X7_field : GoodIn wsX6_paint (wsV RX6 38 RX7 yX7_field wsX7_field) := goodIn_app (goodIn_of _ (by decide +kernel)) ggX6_paint_X7_field
set_option maxRecDepth 20000 in
theorem ggX6_paint_X7_dotsOf : GoodIn wsX6_paint wsX7_dotsOf := goodIn_r _ [24, 25, 18, 19, 11, 20, 13, 26, 15, 27, 28, 29, 30, 31, 32, 33, 34, 43] (by decide +kernel) (by decide +kernel)
set_option maxRecDepth 20000 in
theorem gX6_paint_X7_dotsOf : GoodIn wsX6_paint (wsV RX6 42 RX7 yX7_dotsOf wsX7_dotsOf) := goodIn_app (goodIn_of _ (by decide +kernel)) ggX6_paint_X7_dotsOf
set_option maxRecDepth 20000 in
theorem ggX6_paint_X6_paintBehind : GoodIn wsX6_paint wsX6_paintBehind := goodIn_r _ [39, 1, 3, 2, 14, 15, 16, 40, 41, 42] (by decide +kernel) (by decide +kernel)
set_option maxRecDepth 20000 in
theorem gX6_paint_X6_paintBehind : GoodIn wsX6_paint (wsV RX6 45 RX6 yX6_paintBehind wsX6_paintBehind) := goodIn_app (goodIn_of _ (by decide +kernel)) ggX6_paint_X6_paintBehind
theorem dX6_paint_0 : decode cX6_paint 0 = .ok (.aload_n 0, 1) := by decide +kernel
theorem dX6_paint_1 : decode cX6_paint 1 = .ok (.getfield 9, 3) := by decide +kernel
theorem dX6_paint_4 : decode cX6_paint 4 = .ok (.iconst 0, 1) := by decide +kernel
theorem dX6_paint_5 : decode cX6_paint 5 = .ok (.invokestatic 18, 3) := by decide +kernel
theorem dX6_paint_8 : decode cX6_paint 8 = .ok (.aload_n 0, 1) := by decide +kernel
theorem dX6_paint_9 : decode cX6_paint 9 = .ok (.getfield 15, 3) := by decide +kernel
theorem dX6_paint_12 : decode cX6_paint 12 = .ok (.iconst 0, 1) := by decide +kernel
theorem dX6_paint_13 : decode cX6_paint 13 = .ok (.invokestatic 18, 3) := by decide +kernel
theorem dX6_paint_16 : decode cX6_paint 16 = .ok (.aload_n 0, 1) := by decide +kernel
theorem dX6_paint_17 : decode cX6_paint 17 = .ok (.iconst 0, 1) := by decide +kernel
theorem dX6_paint_18 : decode cX6_paint 18 = .ok (.putfield 24, 3) := by decide +kernel
theorem dX6_paint_21 : decode cX6_paint 21 = .ok (.iconst 0, 1) := by decide +kernel
theorem dX6_paint_22 : decode cX6_paint 22 = .ok (.istore 4, 2) := by decide +kernel
theorem dX6_paint_24 : decode cX6_paint 24 = .ok (.iload 4, 2) := by decide +kernel
theorem dX6_paint_26 : decode cX6_paint 26 = .ok (.iconst 4, 1) := by decide +kernel
theorem dX6_paint_27 : decode cX6_paint 27 = .ok (.if_icmp .ge 69, 3) := by decide +kernel
theorem dX6_paint_30 : decode cX6_paint 30 = .ok (.iconst 0, 1) := by decide +kernel
theorem dX6_paint_31 : decode cX6_paint 31 = .ok (.istore 5, 2) := by decide +kernel
theorem dX6_paint_33 : decode cX6_paint 33 = .ok (.iload 5, 2) := by decide +kernel
theorem dX6_paint_35 : decode cX6_paint 35 = .ok (.aload_n 1, 1) := by decide +kernel
theorem dX6_paint_36 : decode cX6_paint 36 = .ok (.iconst 0, 1) := by decide +kernel
theorem dX6_paint_37 : decode cX6_paint 37 = .ok (.invokevirtual 30, 3) := by decide +kernel
theorem dX6_paint_40 : decode cX6_paint 40 = .ok (.if_icmp .ge 50, 3) := by decide +kernel
theorem dX6_paint_43 : decode cX6_paint 43 = .ok (.iload_n 3, 1) := by decide +kernel
theorem dX6_paint_44 : decode cX6_paint 44 = .ok (.iload 5, 2) := by decide +kernel
theorem dX6_paint_46 : decode cX6_paint 46 = .ok (.invokestatic 34, 3) := by decide +kernel
theorem dX6_paint_49 : decode cX6_paint 49 = .ok (.ifCond .eq 35, 3) := by decide +kernel
theorem dX6_paint_52 : decode cX6_paint 52 = .ok (.aload_n 1, 1) := by decide +kernel
theorem dX6_paint_53 : decode cX6_paint 53 = .ok (.iload 5, 2) := by decide +kernel
theorem dX6_paint_55 : decode cX6_paint 55 = .ok (.iconst 4, 1) := by decide +kernel
theorem dX6_paint_56 : decode cX6_paint 56 = .ok (.invokevirtual 38, 3) := by decide +kernel
theorem dX6_paint_59 : decode cX6_paint 59 = .ok (.iload 4, 2) := by decide +kernel
theorem dX6_paint_61 : decode cX6_paint 61 = .ok (.if_icmp .ne 23, 3) := by decide +kernel
theorem dX6_paint_64 : decode cX6_paint 64 = .ok (.aload_n 0, 1) := by decide +kernel
theorem dX6_paint_65 : decode cX6_paint 65 = .ok (.iload 5, 2) := by decide +kernel
theorem dX6_paint_67 : decode cX6_paint 67 = .ok (.aload_n 1, 1) := by decide +kernel
theorem dX6_paint_68 : decode cX6_paint 68 = .ok (.iload 5, 2) := by decide +kernel
theorem dX6_paint_70 : decode cX6_paint 70 = .ok (.iload_n 2, 1) := by decide +kernel
theorem dX6_paint_71 : decode cX6_paint 71 = .ok (.invokevirtual 42, 3) := by decide +kernel
theorem dX6_paint_74 : decode cX6_paint 74 = .ok (.aload_n 1, 1) := by decide +kernel
theorem dX6_paint_75 : decode cX6_paint 75 = .ok (.iload 5, 2) := by decide +kernel
theorem dX6_paint_77 : decode cX6_paint 77 = .ok (.iconst 5, 1) := by decide +kernel
theorem dX6_paint_78 : decode cX6_paint 78 = .ok (.invokevirtual 38, 3) := by decide +kernel
theorem dX6_paint_81 : decode cX6_paint 81 = .ok (.invokevirtual 45, 3) := by decide +kernel
theorem dX6_paint_84 : decode cX6_paint 84 = .ok (.iinc 5 1, 3) := by decide +kernel
theorem dX6_paint_87 : decode cX6_paint 87 = .ok (.goto (-54), 3) := by decide +kernel
theorem dX6_paint_90 : decode cX6_paint 90 = .ok (.iinc 4 1, 3) := by decide +kernel
theorem dX6_paint_93 : decode cX6_paint 93 = .ok (.goto (-69), 3) := by decide +kernel
theorem dX6_paint_96 : decode cX6_paint 96 = .ok (.return_, 1) := by decide +kernel
set_option maxRecDepth 20000 in
theorem ggX6_paintBehind_X9_isInSet : GoodIn wsX6_paintBehind wsX9_isInSet := goodIn_r _ [6] (by decide +kernel) (by decide +kernel)
set_option maxRecDepth 20000 in
theorem gX6_paintBehind_X9_isInSet_n34 : GoodIn wsX6_paintBehind (wsX9_isInSet) := ggX6_paintBehind_X9_isInSet
theorem dX6_paintBehind_0 : decode cX6_paintBehind 0 = .ok (.aload_n 0, 1) := by decide +kernel
theorem dX6_paintBehind_1 : decode cX6_paintBehind 1 = .ok (.getfield 9, 3) := by decide +kernel
theorem dX6_paintBehind_4 : decode cX6_paintBehind 4 = .ok (.iload_n 1, 1) := by decide +kernel
theorem dX6_paintBehind_5 : decode cX6_paintBehind 5 = .ok (.iload_n 2, 1) := by decide +kernel
theorem dX6_paintBehind_6 : decode cX6_paintBehind 6 = .ok (.aload_n 0, 1) := by decide +kernel
theorem dX6_paintBehind_7 : decode cX6_paintBehind 7 = .ok (.getfield 24, 3) := by decide +kernel
theorem dX6_paintBehind_10 : decode cX6_paintBehind 10 = .ok (.iconst (-1), 1) := by decide +kernel
theorem dX6_paintBehind_11 : decode cX6_paintBehind 11 = .ok (.ixor, 1) := by decide +kernel
theorem dX6_paintBehind_12 : decode cX6_paintBehind 12 = .ok (.iand, 1) := by decide +kernel
theorem dX6_paintBehind_13 : decode cX6_paintBehind 13 = .ok (.iastore, 1) := by decide +kernel
theorem dX6_paintBehind_14 : decode cX6_paintBehind 14 = .ok (.aload_n 0, 1) := by decide +kernel
theorem dX6_paintBehind_15 : decode cX6_paintBehind 15 = .ok (.dup, 1) := by decide +kernel
theorem dX6_paintBehind_16 : decode cX6_paintBehind 16 = .ok (.getfield 24, 3) := by decide +kernel
theorem dX6_paintBehind_19 : decode cX6_paintBehind 19 = .ok (.iload_n 2, 1) := by decide +kernel
theorem dX6_paintBehind_20 : decode cX6_paintBehind 20 = .ok (.ior, 1) := by decide +kernel
theorem dX6_paintBehind_21 : decode cX6_paintBehind 21 = .ok (.putfield 24, 3) := by decide +kernel
theorem dX6_paintBehind_24 : decode cX6_paintBehind 24 = .ok (.iconst 0, 1) := by decide +kernel
theorem dX6_paintBehind_25 : decode cX6_paintBehind 25 = .ok (.istore 4, 2) := by decide +kernel
theorem dX6_paintBehind_27 : decode cX6_paintBehind 27 = .ok (.iload 4, 2) := by decide +kernel
theorem dX6_paintBehind_29 : decode cX6_paintBehind 29 = .ok (.iconst 3, 1) := by decide +kernel
theorem dX6_paintBehind_30 : decode cX6_paintBehind 30 = .ok (.if_icmp .ge 34, 3) := by decide +kernel
theorem dX6_paintBehind_33 : decode cX6_paintBehind 33 = .ok (.iload_n 3, 1) := by decide +kernel
theorem dX6_paintBehind_34 : decode cX6_paintBehind 34 = .ok (.iload 4, 2) := by decide +kernel
theorem dX6_paintBehind_36 : decode cX6_paintBehind 36 = .ok (.invokestatic 34, 3) := by decide +kernel
theorem dX6_paintBehind_39 : decode cX6_paintBehind 39 = .ok (.ifCond .eq 19, 3) := by decide +kernel
theorem dX6_paintBehind_42 : decode cX6_paintBehind 42 = .ok (.aload_n 0, 1) := by decide +kernel
theorem dX6_paintBehind_43 : decode cX6_paintBehind 43 = .ok (.getfield 15, 3) := by decide +kernel
theorem dX6_paintBehind_46 : decode cX6_paintBehind 46 = .ok (.iload 4, 2) := by decide +kernel
theorem dX6_paintBehind_48 : decode cX6_paintBehind 48 = .ok (.dup2, 1) := by decide +kernel
theorem dX6_paintBehind_49 : decode cX6_paintBehind 49 = .ok (.iaload, 1) := by decide +kernel
theorem dX6_paintBehind_50 : decode cX6_paintBehind 50 = .ok (.aload_n 0, 1) := by decide +kernel
theorem dX6_paintBehind_51 : decode cX6_paintBehind 51 = .ok (.getfield 9, 3) := by decide +kernel
theorem dX6_paintBehind_54 : decode cX6_paintBehind 54 = .ok (.iload_n 1, 1) := by decide +kernel
theorem dX6_paintBehind_55 : decode cX6_paintBehind 55 = .ok (.iaload, 1) := by decide +kernel
theorem dX6_paintBehind_56 : decode cX6_paintBehind 56 = .ok (.ior, 1) := by decide +kernel
theorem dX6_paintBehind_57 : decode cX6_paintBehind 57 = .ok (.iastore, 1) := by decide +kernel
theorem dX6_paintBehind_58 : decode cX6_paintBehind 58 = .ok (.iinc 4 1, 3) := by decide +kernel
theorem dX6_paintBehind_61 : decode cX6_paintBehind 61 = .ok (.goto (-34), 3) := by decide +kernel
theorem dX6_paintBehind_64 : decode cX6_paintBehind 64 = .ok (.return_, 1) := by decide +kernel
theorem dX6_filledColumns_0 : decode cX6_filledColumns 0 = .ok (.aload_n 0, 1) := by decide +kernel
theorem dX6_filledColumns_1 : decode cX6_filledColumns 1 = .ok (.getfield 24, 3) := by decide +kernel
theorem dX6_filledColumns_4 : decode cX6_filledColumns 4 = .ok (.ireturn, 1) := by decide +kernel
theorem dX6_seenColumns_0 : decode cX6_seenColumns 0 = .ok (.aload_n 0, 1) := by decide +kernel
theorem dX6_seenColumns_1 : decode cX6_seenColumns 1 = .ok (.getfield 9, 3) := by decide +kernel
theorem dX6_seenColumns_4 : decode cX6_seenColumns 4 = .ok (.iload_n 1, 1) := by decide +kernel
theorem dX6_seenColumns_5 : decode cX6_seenColumns 5 = .ok (.iaload, 1) := by decide +kernel
theorem dX6_seenColumns_6 : decode cX6_seenColumns 6 = .ok (.ireturn, 1) := by decide +kernel
set_option maxRecDepth 20000 in
theorem ggX6_thingAt_X9_isInSet : GoodIn wsX6_thingAt wsX9_isInSet := goodIn_r _ [4] (by decide +kernel) (by decide +kernel)
set_option maxRecDepth 20000 in
theorem gX6_thingAt_X9_isInSet_n34 : GoodIn wsX6_thingAt (wsX9_isInSet) := ggX6_thingAt_X9_isInSet
theorem dX6_thingAt_0 : decode cX6_thingAt 0 = .ok (.iconst 0, 1) := by decide +kernel
theorem dX6_thingAt_1 : decode cX6_thingAt 1 = .ok (.istore_n 2, 1) := by decide +kernel
theorem dX6_thingAt_2 : decode cX6_thingAt 2 = .ok (.iload_n 2, 1) := by decide +kernel
theorem dX6_thingAt_3 : decode cX6_thingAt 3 = .ok (.bipush 12, 2) := by decide +kernel
theorem dX6_thingAt_5 : decode cX6_thingAt 5 = .ok (.if_icmp .ge 27, 3) := by decide +kernel
theorem dX6_thingAt_8 : decode cX6_thingAt 8 = .ok (.aload_n 0, 1) := by decide +kernel
theorem dX6_thingAt_9 : decode cX6_thingAt 9 = .ok (.getfield 9, 3) := by decide +kernel
theorem dX6_thingAt_12 : decode cX6_thingAt 12 = .ok (.iload_n 2, 1) := by decide +kernel
theorem dX6_thingAt_13 : decode cX6_thingAt 13 = .ok (.iaload, 1) := by decide +kernel
theorem dX6_thingAt_14 : decode cX6_thingAt 14 = .ok (.bipush 31, 2) := by decide +kernel
theorem dX6_thingAt_16 : decode cX6_thingAt 16 = .ok (.iload_n 1, 1) := by decide +kernel
theorem dX6_thingAt_17 : decode cX6_thingAt 17 = .ok (.isub, 1) := by decide +kernel
theorem dX6_thingAt_18 : decode cX6_thingAt 18 = .ok (.invokestatic 34, 3) := by decide +kernel
theorem dX6_thingAt_21 : decode cX6_thingAt 21 = .ok (.ifCond .eq 5, 3) := by decide +kernel
theorem dX6_thingAt_24 : decode cX6_thingAt 24 = .ok (.iload_n 2, 1) := by decide +kernel
theorem dX6_thingAt_25 : decode cX6_thingAt 25 = .ok (.ireturn, 1) := by decide +kernel
theorem dX6_thingAt_26 : decode cX6_thingAt 26 = .ok (.iinc 2 1, 3) := by decide +kernel
theorem dX6_thingAt_29 : decode cX6_thingAt 29 = .ok (.goto (-27), 3) := by decide +kernel
theorem dX6_thingAt_32 : decode cX6_thingAt 32 = .ok (.iconst (-1), 1) := by decide +kernel
theorem dX6_thingAt_33 : decode cX6_thingAt 33 = .ok (.ireturn, 1) := by decide +kernel
set_option maxRecDepth 20000 in
theorem ggX6_colourAt_X6_thingAt : GoodIn wsX6_colourAt wsX6_thingAt := goodIn_r _ [5, 6, 7, 8, 9, 16, 17, 18] (by decide +kernel) (by decide +kernel)
set_option maxRecDepth 20000 in
theorem gX6_colourAt_X6_thingAt : GoodIn wsX6_colourAt (wsV RX6 49 RX6 yX6_thingAt wsX6_thingAt) := goodIn_app (goodIn_of _ (by decide +kernel)) ggX6_colourAt_X6_thingAt
set_option maxRecDepth 20000 in
theorem ggX6_colourAt_X7_field : GoodIn wsX6_colourAt wsX7_field := goodIn_r _ [14, 15, 19] (by decide +kernel) (by decide +kernel)
set_option maxRecDepth 20000 in
theorem gX6_colourAt_X7_field : GoodIn wsX6_colourAt (wsV RX6 38 RX7 yX7_field wsX7_field) := goodIn_app (goodIn_of _ (by decide +kernel)) ggX6_colourAt_X7_field
theorem dX6_colourAt_0 : decode cX6_colourAt 0 = .ok (.aload_n 0, 1) := by decide +kernel
theorem dX6_colourAt_1 : decode cX6_colourAt 1 = .ok (.iload_n 2, 1) := by decide +kernel
theorem dX6_colourAt_2 : decode cX6_colourAt 2 = .ok (.invokevirtual 49, 3) := by decide +kernel
theorem dX6_colourAt_5 : decode cX6_colourAt 5 = .ok (.istore_n 3, 1) := by decide +kernel
theorem dX6_colourAt_6 : decode cX6_colourAt 6 = .ok (.iload_n 3, 1) := by decide +kernel
theorem dX6_colourAt_7 : decode cX6_colourAt 7 = .ok (.iconst (-1), 1) := by decide +kernel
theorem dX6_colourAt_8 : decode cX6_colourAt 8 = .ok (.if_icmp .ne 7, 3) := by decide +kernel
theorem dX6_colourAt_11 : decode cX6_colourAt 11 = .ok (.iconst 0, 1) := by decide +kernel
theorem dX6_colourAt_12 : decode cX6_colourAt 12 = .ok (.goto 9, 3) := by decide +kernel
theorem dX6_colourAt_15 : decode cX6_colourAt 15 = .ok (.aload_n 1, 1) := by decide +kernel
theorem dX6_colourAt_16 : decode cX6_colourAt 16 = .ok (.iload_n 3, 1) := by decide +kernel
theorem dX6_colourAt_17 : decode cX6_colourAt 17 = .ok (.iconst 5, 1) := by decide +kernel
theorem dX6_colourAt_18 : decode cX6_colourAt 18 = .ok (.invokevirtual 38, 3) := by decide +kernel
theorem dX6_colourAt_21 : decode cX6_colourAt 21 = .ok (.ireturn, 1) := by decide +kernel
theorem dX6_otherColumns_0 : decode cX6_otherColumns 0 = .ok (.iconst 0, 1) := by decide +kernel
theorem dX6_otherColumns_1 : decode cX6_otherColumns 1 = .ok (.istore_n 2, 1) := by decide +kernel
theorem dX6_otherColumns_2 : decode cX6_otherColumns 2 = .ok (.iconst 0, 1) := by decide +kernel
theorem dX6_otherColumns_3 : decode cX6_otherColumns 3 = .ok (.istore_n 3, 1) := by decide +kernel
theorem dX6_otherColumns_4 : decode cX6_otherColumns 4 = .ok (.iload_n 3, 1) := by decide +kernel
theorem dX6_otherColumns_5 : decode cX6_otherColumns 5 = .ok (.iconst 3, 1) := by decide +kernel
theorem dX6_otherColumns_6 : decode cX6_otherColumns 6 = .ok (.if_icmp .ge 25, 3) := by decide +kernel
theorem dX6_otherColumns_9 : decode cX6_otherColumns 9 = .ok (.iload_n 2, 1) := by decide +kernel
theorem dX6_otherColumns_10 : decode cX6_otherColumns 10 = .ok (.aload_n 0, 1) := by decide +kernel
theorem dX6_otherColumns_11 : decode cX6_otherColumns 11 = .ok (.getfield 15, 3) := by decide +kernel
theorem dX6_otherColumns_14 : decode cX6_otherColumns 14 = .ok (.iload_n 3, 1) := by decide +kernel
theorem dX6_otherColumns_15 : decode cX6_otherColumns 15 = .ok (.iaload, 1) := by decide +kernel
theorem dX6_otherColumns_16 : decode cX6_otherColumns 16 = .ok (.aload_n 1, 1) := by decide +kernel
theorem dX6_otherColumns_17 : decode cX6_otherColumns 17 = .ok (.getfield 15, 3) := by decide +kernel
theorem dX6_otherColumns_20 : decode cX6_otherColumns 20 = .ok (.iload_n 3, 1) := by decide +kernel
theorem dX6_otherColumns_21 : decode cX6_otherColumns 21 = .ok (.iaload, 1) := by decide +kernel
theorem dX6_otherColumns_22 : decode cX6_otherColumns 22 = .ok (.ixor, 1) := by decide +kernel
theorem dX6_otherColumns_23 : decode cX6_otherColumns 23 = .ok (.ior, 1) := by decide +kernel
theorem dX6_otherColumns_24 : decode cX6_otherColumns 24 = .ok (.istore_n 2, 1) := by decide +kernel
theorem dX6_otherColumns_25 : decode cX6_otherColumns 25 = .ok (.iinc 3 1, 3) := by decide +kernel
theorem dX6_otherColumns_28 : decode cX6_otherColumns 28 = .ok (.goto (-24), 3) := by decide +kernel
theorem dX6_otherColumns_31 : decode cX6_otherColumns 31 = .ok (.iload_n 2, 1) := by decide +kernel
theorem dX6_otherColumns_32 : decode cX6_otherColumns 32 = .ok (.ireturn, 1) := by decide +kernel
theorem dX7_init_0 : decode cX7_init 0 = .ok (.aload_n 0, 1) := by decide +kernel
theorem dX7_init_1 : decode cX7_init 1 = .ok (.invokespecial 5, 3) := by decide +kernel
theorem dX7_init_4 : decode cX7_init 4 = .ok (.aload_n 0, 1) := by decide +kernel
theorem dX7_init_5 : decode cX7_init 5 = .ok (.sipush 132, 3) := by decide +kernel
theorem dX7_init_8 : decode cX7_init 8 = .ok (.newarray .int, 2) := by decide +kernel
theorem dX7_init_10 : decode cX7_init 10 = .ok (.putfield 11, 3) := by decide +kernel
theorem dX7_init_13 : decode cX7_init 13 = .ok (.aload_n 0, 1) := by decide +kernel
theorem dX7_init_14 : decode cX7_init 14 = .ok (.getfield 11, 3) := by decide +kernel
theorem dX7_init_17 : decode cX7_init 17 = .ok (.iconst 1, 1) := by decide +kernel
theorem dX7_init_18 : decode cX7_init 18 = .ok (.iconst 4, 1) := by decide +kernel
theorem dX7_init_19 : decode cX7_init 19 = .ok (.iastore, 1) := by decide +kernel
theorem dX7_init_20 : decode cX7_init 20 = .ok (.iconst 0, 1) := by decide +kernel
theorem dX7_init_21 : decode cX7_init 21 = .ok (.istore_n 1, 1) := by decide +kernel
theorem dX7_init_22 : decode cX7_init 22 = .ok (.iload_n 1, 1) := by decide +kernel
theorem dX7_init_23 : decode cX7_init 23 = .ok (.bipush 8, 2) := by decide +kernel
theorem dX7_init_25 : decode cX7_init 25 = .ok (.if_icmp .ge 20, 3) := by decide +kernel
theorem dX7_init_28 : decode cX7_init 28 = .ok (.aload_n 0, 1) := by decide +kernel
theorem dX7_init_29 : decode cX7_init 29 = .ok (.getfield 11, 3) := by decide +kernel
theorem dX7_init_32 : decode cX7_init 32 = .ok (.iconst 4, 1) := by decide +kernel
theorem dX7_init_33 : decode cX7_init 33 = .ok (.iload_n 1, 1) := by decide +kernel
theorem dX7_init_34 : decode cX7_init 34 = .ok (.iadd, 1) := by decide +kernel
theorem dX7_init_35 : decode cX7_init 35 = .ok (.sipush 255, 3) := by decide +kernel
theorem dX7_init_38 : decode cX7_init 38 = .ok (.iastore, 1) := by decide +kernel
theorem dX7_init_39 : decode cX7_init 39 = .ok (.iinc 1 1, 3) := by decide +kernel
theorem dX7_init_42 : decode cX7_init 42 = .ok (.goto (-20), 3) := by decide +kernel
theorem dX7_init_45 : decode cX7_init 45 = .ok (.return_, 1) := by decide +kernel
theorem dX7_saveTo_0 : decode cX7_saveTo 0 = .ok (.aload_n 0, 1) := by decide +kernel
theorem dX7_saveTo_1 : decode cX7_saveTo 1 = .ok (.getfield 11, 3) := by decide +kernel
theorem dX7_saveTo_4 : decode cX7_saveTo 4 = .ok (.iconst 0, 1) := by decide +kernel
theorem dX7_saveTo_5 : decode cX7_saveTo 5 = .ok (.aload_n 1, 1) := by decide +kernel
theorem dX7_saveTo_6 : decode cX7_saveTo 6 = .ok (.iconst 0, 1) := by decide +kernel
theorem dX7_saveTo_7 : decode cX7_saveTo 7 = .ok (.sipush 132, 3) := by decide +kernel
theorem dX7_saveTo_10 : decode cX7_saveTo 10 = .ok (.invokestatic 15, 3) := by decide +kernel
theorem dX7_saveTo_13 : decode cX7_saveTo 13 = .ok (.return_, 1) := by decide +kernel
theorem dX7_loadFrom_0 : decode cX7_loadFrom 0 = .ok (.aload_n 1, 1) := by decide +kernel
theorem dX7_loadFrom_1 : decode cX7_loadFrom 1 = .ok (.iconst 0, 1) := by decide +kernel
theorem dX7_loadFrom_2 : decode cX7_loadFrom 2 = .ok (.aload_n 0, 1) := by decide +kernel
theorem dX7_loadFrom_3 : decode cX7_loadFrom 3 = .ok (.getfield 11, 3) := by decide +kernel
theorem dX7_loadFrom_6 : decode cX7_loadFrom 6 = .ok (.iconst 0, 1) := by decide +kernel
theorem dX7_loadFrom_7 : decode cX7_loadFrom 7 = .ok (.sipush 132, 3) := by decide +kernel
theorem dX7_loadFrom_10 : decode cX7_loadFrom 10 = .ok (.invokestatic 15, 3) := by decide +kernel
theorem dX7_loadFrom_13 : decode cX7_loadFrom 13 = .ok (.return_, 1) := by decide +kernel
set_option maxRecDepth 20000 in
theorem ggX7_copyFrom_X7_loadFrom : GoodIn wsX7_copyFrom wsX7_loadFrom := goodIn_r _ [6, 1, 7, 8, 9, 10, 11] (by decide +kernel) (by decide +kernel)
set_option maxRecDepth 20000 in
theorem gX7_copyFrom_X7_loadFrom : GoodIn wsX7_copyFrom (wsV RX7 21 RX7 yX7_loadFrom wsX7_loadFrom) := goodIn_app (goodIn_of _ (by decide +kernel)) ggX7_copyFrom_X7_loadFrom
theorem dX7_copyFrom_0 : decode cX7_copyFrom 0 = .ok (.aload_n 0, 1) := by decide +kernel
theorem dX7_copyFrom_1 : decode cX7_copyFrom 1 = .ok (.aload_n 1, 1) := by decide +kernel
theorem dX7_copyFrom_2 : decode cX7_copyFrom 2 = .ok (.getfield 11, 3) := by decide +kernel
theorem dX7_copyFrom_5 : decode cX7_copyFrom 5 = .ok (.invokevirtual 21, 3) := by decide +kernel
theorem dX7_copyFrom_8 : decode cX7_copyFrom 8 = .ok (.return_, 1) := by decide +kernel
theorem dX7_cell_0 : decode cX7_cell 0 = .ok (.aload_n 0, 1) := by decide +kernel
theorem dX7_cell_1 : decode cX7_cell 1 = .ok (.getfield 11, 3) := by decide +kernel
theorem dX7_cell_4 : decode cX7_cell 4 = .ok (.iload_n 1, 1) := by decide +kernel
theorem dX7_cell_5 : decode cX7_cell 5 = .ok (.iaload, 1) := by decide +kernel
theorem dX7_cell_6 : decode cX7_cell 6 = .ok (.ireturn, 1) := by decide +kernel
theorem dX7_setCell_0 : decode cX7_setCell 0 = .ok (.aload_n 0, 1) := by decide +kernel
theorem dX7_setCell_1 : decode cX7_setCell 1 = .ok (.getfield 11, 3) := by decide +kernel
theorem dX7_setCell_4 : decode cX7_setCell 4 = .ok (.iload_n 1, 1) := by decide +kernel
theorem dX7_setCell_5 : decode cX7_setCell 5 = .ok (.iload_n 2, 1) := by decide +kernel
theorem dX7_setCell_6 : decode cX7_setCell 6 = .ok (.iastore, 1) := by decide +kernel
theorem dX7_setCell_7 : decode cX7_setCell 7 = .ok (.return_, 1) := by decide +kernel
theorem dX7_field_0 : decode cX7_field 0 = .ok (.aload_n 0, 1) := by decide +kernel
theorem dX7_field_1 : decode cX7_field 1 = .ok (.getfield 11, 3) := by decide +kernel
theorem dX7_field_4 : decode cX7_field 4 = .ok (.bipush 36, 2) := by decide +kernel
theorem dX7_field_6 : decode cX7_field 6 = .ok (.iload_n 1, 1) := by decide +kernel
theorem dX7_field_7 : decode cX7_field 7 = .ok (.bipush 8, 2) := by decide +kernel
theorem dX7_field_9 : decode cX7_field 9 = .ok (.imul, 1) := by decide +kernel
theorem dX7_field_10 : decode cX7_field 10 = .ok (.iadd, 1) := by decide +kernel
theorem dX7_field_11 : decode cX7_field 11 = .ok (.iload_n 2, 1) := by decide +kernel
theorem dX7_field_12 : decode cX7_field 12 = .ok (.iadd, 1) := by decide +kernel
theorem dX7_field_13 : decode cX7_field 13 = .ok (.iaload, 1) := by decide +kernel
theorem dX7_field_14 : decode cX7_field 14 = .ok (.ireturn, 1) := by decide +kernel
theorem dX7_setField_0 : decode cX7_setField 0 = .ok (.aload_n 0, 1) := by decide +kernel
theorem dX7_setField_1 : decode cX7_setField 1 = .ok (.getfield 11, 3) := by decide +kernel
theorem dX7_setField_4 : decode cX7_setField 4 = .ok (.bipush 36, 2) := by decide +kernel
theorem dX7_setField_6 : decode cX7_setField 6 = .ok (.iload_n 1, 1) := by decide +kernel
theorem dX7_setField_7 : decode cX7_setField 7 = .ok (.bipush 8, 2) := by decide +kernel
theorem dX7_setField_9 : decode cX7_setField 9 = .ok (.imul, 1) := by decide +kernel
theorem dX7_setField_10 : decode cX7_setField 10 = .ok (.iadd, 1) := by decide +kernel
theorem dX7_setField_11 : decode cX7_setField 11 = .ok (.iload_n 2, 1) := by decide +kernel
theorem dX7_setField_12 : decode cX7_setField 12 = .ok (.iadd, 1) := by decide +kernel
theorem dX7_setField_13 : decode cX7_setField 13 = .ok (.iload_n 3, 1) := by decide +kernel
theorem dX7_setField_14 : decode cX7_setField 14 = .ok (.iastore, 1) := by decide +kernel
theorem dX7_setField_15 : decode cX7_setField 15 = .ok (.return_, 1) := by decide +kernel
theorem dX7_bits_0 : decode cX7_bits 0 = .ok (.aload_n 0, 1) := by decide +kernel
theorem dX7_bits_1 : decode cX7_bits 1 = .ok (.getfield 11, 3) := by decide +kernel
theorem dX7_bits_4 : decode cX7_bits 4 = .ok (.iconst 4, 1) := by decide +kernel
theorem dX7_bits_5 : decode cX7_bits 5 = .ok (.iload_n 1, 1) := by decide +kernel
theorem dX7_bits_6 : decode cX7_bits 6 = .ok (.bipush 8, 2) := by decide +kernel
theorem dX7_bits_8 : decode cX7_bits 8 = .ok (.imul, 1) := by decide +kernel
theorem dX7_bits_9 : decode cX7_bits 9 = .ok (.iadd, 1) := by decide +kernel
theorem dX7_bits_10 : decode cX7_bits 10 = .ok (.iload_n 2, 1) := by decide +kernel
theorem dX7_bits_11 : decode cX7_bits 11 = .ok (.iadd, 1) := by decide +kernel
theorem dX7_bits_12 : decode cX7_bits 12 = .ok (.iaload, 1) := by decide +kernel
theorem dX7_bits_13 : decode cX7_bits 13 = .ok (.ireturn, 1) := by decide +kernel
theorem dX7_setBits_0 : decode cX7_setBits 0 = .ok (.aload_n 0, 1) := by decide +kernel
theorem dX7_setBits_1 : decode cX7_setBits 1 = .ok (.getfield 11, 3) := by decide +kernel
theorem dX7_setBits_4 : decode cX7_setBits 4 = .ok (.iconst 4, 1) := by decide +kernel
theorem dX7_setBits_5 : decode cX7_setBits 5 = .ok (.iload_n 1, 1) := by decide +kernel
theorem dX7_setBits_6 : decode cX7_setBits 6 = .ok (.bipush 8, 2) := by decide +kernel
theorem dX7_setBits_8 : decode cX7_setBits 8 = .ok (.imul, 1) := by decide +kernel
theorem dX7_setBits_9 : decode cX7_setBits 9 = .ok (.iadd, 1) := by decide +kernel
theorem dX7_setBits_10 : decode cX7_setBits 10 = .ok (.iload_n 2, 1) := by decide +kernel
theorem dX7_setBits_11 : decode cX7_setBits 11 = .ok (.iadd, 1) := by decide +kernel
theorem dX7_setBits_12 : decode cX7_setBits 12 = .ok (.iload_n 3, 1) := by decide +kernel
theorem dX7_setBits_13 : decode cX7_setBits 13 = .ok (.iastore, 1) := by decide +kernel
theorem dX7_setBits_14 : decode cX7_setBits 14 = .ok (.return_, 1) := by decide +kernel
theorem dX7_isFull_0 : decode cX7_isFull 0 = .ok (.aload_n 0, 1) := by decide +kernel
theorem dX7_isFull_1 : decode cX7_isFull 1 = .ok (.getfield 11, 3) := by decide +kernel
theorem dX7_isFull_4 : decode cX7_isFull 4 = .ok (.iconst 0, 1) := by decide +kernel
theorem dX7_isFull_5 : decode cX7_isFull 5 = .ok (.iaload, 1) := by decide +kernel
theorem dX7_isFull_6 : decode cX7_isFull 6 = .ok (.bipush 12, 2) := by decide +kernel
theorem dX7_isFull_8 : decode cX7_isFull 8 = .ok (.if_icmp .lt 7, 3) := by decide +kernel
theorem dX7_isFull_11 : decode cX7_isFull 11 = .ok (.iconst 1, 1) := by decide +kernel
theorem dX7_isFull_12 : decode cX7_isFull 12 = .ok (.goto 4, 3) := by decide +kernel
theorem dX7_isFull_15 : decode cX7_isFull 15 = .ok (.iconst 0, 1) := by decide +kernel
theorem dX7_isFull_16 : decode cX7_isFull 16 = .ok (.ireturn, 1) := by decide +kernel
set_option maxRecDepth 20000 in
theorem ggX7_add_X7_setField : GoodIn wsX7_add wsX7_setField := goodIn_r _ [6, 1, 7] (by decide +kernel) (by decide +kernel)
set_option maxRecDepth 20000 in
theorem gX7_add_X7_setField : GoodIn wsX7_add (wsV RX7 25 RX7 yX7_setField wsX7_setField) := goodIn_app (goodIn_of _ (by decide +kernel)) ggX7_add_X7_setField
theorem dX7_add_0 : decode cX7_add 0 = .ok (.aload_n 0, 1) := by decide +kernel
theorem dX7_add_1 : decode cX7_add 1 = .ok (.getfield 11, 3) := by decide +kernel
theorem dX7_add_4 : decode cX7_add 4 = .ok (.iconst 0, 1) := by decide +kernel
theorem dX7_add_5 : decode cX7_add 5 = .ok (.iaload, 1) := by decide +kernel
theorem dX7_add_6 : decode cX7_add 6 = .ok (.istore 7, 2) := by decide +kernel
theorem dX7_add_8 : decode cX7_add 8 = .ok (.aload_n 0, 1) := by decide +kernel
theorem dX7_add_9 : decode cX7_add 9 = .ok (.iload 7, 2) := by decide +kernel
theorem dX7_add_11 : decode cX7_add 11 = .ok (.iconst 0, 1) := by decide +kernel
theorem dX7_add_12 : decode cX7_add 12 = .ok (.iload_n 1, 1) := by decide +kernel
theorem dX7_add_13 : decode cX7_add 13 = .ok (.invokevirtual 25, 3) := by decide +kernel
theorem dX7_add_16 : decode cX7_add 16 = .ok (.aload_n 0, 1) := by decide +kernel
theorem dX7_add_17 : decode cX7_add 17 = .ok (.iload 7, 2) := by decide +kernel
theorem dX7_add_19 : decode cX7_add 19 = .ok (.iconst 1, 1) := by decide +kernel
theorem dX7_add_20 : decode cX7_add 20 = .ok (.iload_n 2, 1) := by decide +kernel
theorem dX7_add_21 : decode cX7_add 21 = .ok (.invokevirtual 25, 3) := by decide +kernel
theorem dX7_add_24 : decode cX7_add 24 = .ok (.aload_n 0, 1) := by decide +kernel
theorem dX7_add_25 : decode cX7_add 25 = .ok (.iload 7, 2) := by decide +kernel
theorem dX7_add_27 : decode cX7_add 27 = .ok (.iconst 2, 1) := by decide +kernel
theorem dX7_add_28 : decode cX7_add 28 = .ok (.iload_n 3, 1) := by decide +kernel
theorem dX7_add_29 : decode cX7_add 29 = .ok (.invokevirtual 25, 3) := by decide +kernel
theorem dX7_add_32 : decode cX7_add 32 = .ok (.aload_n 0, 1) := by decide +kernel
theorem dX7_add_33 : decode cX7_add 33 = .ok (.iload 7, 2) := by decide +kernel
theorem dX7_add_35 : decode cX7_add 35 = .ok (.iconst 3, 1) := by decide +kernel
theorem dX7_add_36 : decode cX7_add 36 = .ok (.iload 4, 2) := by decide +kernel
theorem dX7_add_38 : decode cX7_add 38 = .ok (.invokevirtual 25, 3) := by decide +kernel
theorem dX7_add_41 : decode cX7_add 41 = .ok (.aload_n 0, 1) := by decide +kernel
theorem dX7_add_42 : decode cX7_add 42 = .ok (.iload 7, 2) := by decide +kernel
theorem dX7_add_44 : decode cX7_add 44 = .ok (.iconst 4, 1) := by decide +kernel
theorem dX7_add_45 : decode cX7_add 45 = .ok (.iload 5, 2) := by decide +kernel
theorem dX7_add_47 : decode cX7_add 47 = .ok (.invokevirtual 25, 3) := by decide +kernel
theorem dX7_add_50 : decode cX7_add 50 = .ok (.aload_n 0, 1) := by decide +kernel
theorem dX7_add_51 : decode cX7_add 51 = .ok (.iload 7, 2) := by decide +kernel
theorem dX7_add_53 : decode cX7_add 53 = .ok (.iconst 5, 1) := by decide +kernel
theorem dX7_add_54 : decode cX7_add 54 = .ok (.iload 6, 2) := by decide +kernel
theorem dX7_add_56 : decode cX7_add 56 = .ok (.invokevirtual 25, 3) := by decide +kernel
theorem dX7_add_59 : decode cX7_add 59 = .ok (.aload_n 0, 1) := by decide +kernel
theorem dX7_add_60 : decode cX7_add 60 = .ok (.iload 7, 2) := by decide +kernel
theorem dX7_add_62 : decode cX7_add 62 = .ok (.bipush 6, 2) := by decide +kernel
theorem dX7_add_64 : decode cX7_add 64 = .ok (.iconst 0, 1) := by decide +kernel
theorem dX7_add_65 : decode cX7_add 65 = .ok (.invokevirtual 25, 3) := by decide +kernel
theorem dX7_add_68 : decode cX7_add 68 = .ok (.aload_n 0, 1) := by decide +kernel
theorem dX7_add_69 : decode cX7_add 69 = .ok (.iload 7, 2) := by decide +kernel
theorem dX7_add_71 : decode cX7_add 71 = .ok (.bipush 7, 2) := by decide +kernel
theorem dX7_add_73 : decode cX7_add 73 = .ok (.iconst 0, 1) := by decide +kernel
theorem dX7_add_74 : decode cX7_add 74 = .ok (.invokevirtual 25, 3) := by decide +kernel
theorem dX7_add_77 : decode cX7_add 77 = .ok (.aload_n 0, 1) := by decide +kernel
theorem dX7_add_78 : decode cX7_add 78 = .ok (.getfield 11, 3) := by decide +kernel
theorem dX7_add_81 : decode cX7_add 81 = .ok (.iconst 0, 1) := by decide +kernel
theorem dX7_add_82 : decode cX7_add 82 = .ok (.iload 7, 2) := by decide +kernel
theorem dX7_add_84 : decode cX7_add 84 = .ok (.iconst 1, 1) := by decide +kernel
theorem dX7_add_85 : decode cX7_add 85 = .ok (.iadd, 1) := by decide +kernel
theorem dX7_add_86 : decode cX7_add 86 = .ok (.iastore, 1) := by decide +kernel
theorem dX7_add_87 : decode cX7_add 87 = .ok (.iload 7, 2) := by decide +kernel
theorem dX7_add_89 : decode cX7_add 89 = .ok (.ireturn, 1) := by decide +kernel
theorem dX7_removeThing_0 : decode cX7_removeThing 0 = .ok (.bipush 36, 2) := by decide +kernel
theorem dX7_removeThing_2 : decode cX7_removeThing 2 = .ok (.iload_n 1, 1) := by decide +kernel
theorem dX7_removeThing_3 : decode cX7_removeThing 3 = .ok (.bipush 8, 2) := by decide +kernel
theorem dX7_removeThing_5 : decode cX7_removeThing 5 = .ok (.imul, 1) := by decide +kernel
theorem dX7_removeThing_6 : decode cX7_removeThing 6 = .ok (.iadd, 1) := by decide +kernel
theorem dX7_removeThing_7 : decode cX7_removeThing 7 = .ok (.istore_n 2, 1) := by decide +kernel
theorem dX7_removeThing_8 : decode cX7_removeThing 8 = .ok (.aload_n 0, 1) := by decide +kernel
theorem dX7_removeThing_9 : decode cX7_removeThing 9 = .ok (.getfield 11, 3) := by decide +kernel
theorem dX7_removeThing_12 : decode cX7_removeThing 12 = .ok (.iconst 0, 1) := by decide +kernel
theorem dX7_removeThing_13 : decode cX7_removeThing 13 = .ok (.iaload, 1) := by decide +kernel
theorem dX7_removeThing_14 : decode cX7_removeThing 14 = .ok (.iconst 1, 1) := by decide +kernel
theorem dX7_removeThing_15 : decode cX7_removeThing 15 = .ok (.isub, 1) := by decide +kernel
theorem dX7_removeThing_16 : decode cX7_removeThing 16 = .ok (.iload_n 1, 1) := by decide +kernel
theorem dX7_removeThing_17 : decode cX7_removeThing 17 = .ok (.isub, 1) := by decide +kernel
theorem dX7_removeThing_18 : decode cX7_removeThing 18 = .ok (.istore_n 3, 1) := by decide +kernel
theorem dX7_removeThing_19 : decode cX7_removeThing 19 = .ok (.aload_n 0, 1) := by decide +kernel
theorem dX7_removeThing_20 : decode cX7_removeThing 20 = .ok (.getfield 11, 3) := by decide +kernel
theorem dX7_removeThing_23 : decode cX7_removeThing 23 = .ok (.iload_n 2, 1) := by decide +kernel
theorem dX7_removeThing_24 : decode cX7_removeThing 24 = .ok (.bipush 8, 2) := by decide +kernel
theorem dX7_removeThing_26 : decode cX7_removeThing 26 = .ok (.iadd, 1) := by decide +kernel
theorem dX7_removeThing_27 : decode cX7_removeThing 27 = .ok (.aload_n 0, 1) := by decide +kernel
theorem dX7_removeThing_28 : decode cX7_removeThing 28 = .ok (.getfield 11, 3) := by decide +kernel
theorem dX7_removeThing_31 : decode cX7_removeThing 31 = .ok (.iload_n 2, 1) := by decide +kernel
theorem dX7_removeThing_32 : decode cX7_removeThing 32 = .ok (.iload_n 3, 1) := by decide +kernel
theorem dX7_removeThing_33 : decode cX7_removeThing 33 = .ok (.bipush 8, 2) := by decide +kernel
theorem dX7_removeThing_35 : decode cX7_removeThing 35 = .ok (.imul, 1) := by decide +kernel
theorem dX7_removeThing_36 : decode cX7_removeThing 36 = .ok (.invokestatic 15, 3) := by decide +kernel
theorem dX7_removeThing_39 : decode cX7_removeThing 39 = .ok (.aload_n 0, 1) := by decide +kernel
theorem dX7_removeThing_40 : decode cX7_removeThing 40 = .ok (.getfield 11, 3) := by decide +kernel
theorem dX7_removeThing_43 : decode cX7_removeThing 43 = .ok (.iconst 0, 1) := by decide +kernel
theorem dX7_removeThing_44 : decode cX7_removeThing 44 = .ok (.dup2, 1) := by decide +kernel
theorem dX7_removeThing_45 : decode cX7_removeThing 45 = .ok (.iaload, 1) := by decide +kernel
theorem dX7_removeThing_46 : decode cX7_removeThing 46 = .ok (.iconst 1, 1) := by decide +kernel
theorem dX7_removeThing_47 : decode cX7_removeThing 47 = .ok (.isub, 1) := by decide +kernel
theorem dX7_removeThing_48 : decode cX7_removeThing 48 = .ok (.iastore, 1) := by decide +kernel
theorem dX7_removeThing_49 : decode cX7_removeThing 49 = .ok (.return_, 1) := by decide +kernel
set_option maxRecDepth 20000 in
theorem ggX7_goNextFrame_X7_field : GoodIn wsX7_goNextFrame wsX7_field := goodIn_r _ [6, 1, 18] (by decide +kernel) (by decide +kernel)
set_option maxRecDepth 20000 in
theorem gX7_goNextFrame_X7_field : GoodIn wsX7_goNextFrame (wsV RX7 29 RX7 yX7_field wsX7_field) := goodIn_app (goodIn_of _ (by decide +kernel)) ggX7_goNextFrame_X7_field
set_option maxRecDepth 20000 in
theorem ggX7_goNextFrame_X7_wrapped : GoodIn wsX7_goNextFrame wsX7_wrapped := goodIn_r _ [9, 10, 11, 12, 13] (by decide +kernel) (by decide +kernel)
set_option maxRecDepth 20000 in
theorem gX7_goNextFrame_X7_wrapped : GoodIn wsX7_goNextFrame (va_wsS RX7 33 yX7_wrapped wsX7_wrapped) := goodIn_app (goodIn_of _ (by decide +kernel)) ggX7_goNextFrame_X7_wrapped
set_option maxRecDepth 20000 in
theorem ggX7_goNextFrame_X7_setField : GoodIn wsX7_goNextFrame wsX7_setField := goodIn_r _ [17, 1, 18] (by decide +kernel) (by decide +kernel)
set_option maxRecDepth 20000 in
theorem gX7_goNextFrame_X7_setField : GoodIn wsX7_goNextFrame (wsV RX7 25 RX7 yX7_setField wsX7_setField) := goodIn_app (goodIn_of _ (by decide +kernel)) ggX7_goNextFrame_X7_setField
theorem dX7_goNextFrame_0 : decode cX7_goNextFrame 0 = .ok (.aload_n 0, 1) := by decide +kernel
theorem dX7_goNextFrame_1 : decode cX7_goNextFrame 1 = .ok (.getfield 11, 3) := by decide +kernel
theorem dX7_goNextFrame_4 : decode cX7_goNextFrame 4 = .ok (.iconst 3, 1) := by decide +kernel
theorem dX7_goNextFrame_5 : decode cX7_goNextFrame 5 = .ok (.dup2, 1) := by decide +kernel
theorem dX7_goNextFrame_6 : decode cX7_goNextFrame 6 = .ok (.iaload, 1) := by decide +kernel
theorem dX7_goNextFrame_7 : decode cX7_goNextFrame 7 = .ok (.iconst 1, 1) := by decide +kernel
theorem dX7_goNextFrame_8 : decode cX7_goNextFrame 8 = .ok (.iadd, 1) := by decide +kernel
theorem dX7_goNextFrame_9 : decode cX7_goNextFrame 9 = .ok (.iastore, 1) := by decide +kernel
theorem dX7_goNextFrame_10 : decode cX7_goNextFrame 10 = .ok (.iconst 0, 1) := by decide +kernel
theorem dX7_goNextFrame_11 : decode cX7_goNextFrame 11 = .ok (.istore_n 1, 1) := by decide +kernel
theorem dX7_goNextFrame_12 : decode cX7_goNextFrame 12 = .ok (.iload_n 1, 1) := by decide +kernel
theorem dX7_goNextFrame_13 : decode cX7_goNextFrame 13 = .ok (.aload_n 0, 1) := by decide +kernel
theorem dX7_goNextFrame_14 : decode cX7_goNextFrame 14 = .ok (.getfield 11, 3) := by decide +kernel
theorem dX7_goNextFrame_17 : decode cX7_goNextFrame 17 = .ok (.iconst 0, 1) := by decide +kernel
theorem dX7_goNextFrame_18 : decode cX7_goNextFrame 18 = .ok (.iaload, 1) := by decide +kernel
theorem dX7_goNextFrame_19 : decode cX7_goNextFrame 19 = .ok (.if_icmp .ge 59, 3) := by decide +kernel
theorem dX7_goNextFrame_22 : decode cX7_goNextFrame 22 = .ok (.aload_n 0, 1) := by decide +kernel
theorem dX7_goNextFrame_23 : decode cX7_goNextFrame 23 = .ok (.iload_n 1, 1) := by decide +kernel
theorem dX7_goNextFrame_24 : decode cX7_goNextFrame 24 = .ok (.iconst 0, 1) := by decide +kernel
theorem dX7_goNextFrame_25 : decode cX7_goNextFrame 25 = .ok (.aload_n 0, 1) := by decide +kernel
theorem dX7_goNextFrame_26 : decode cX7_goNextFrame 26 = .ok (.iload_n 1, 1) := by decide +kernel
theorem dX7_goNextFrame_27 : decode cX7_goNextFrame 27 = .ok (.iconst 0, 1) := by decide +kernel
theorem dX7_goNextFrame_28 : decode cX7_goNextFrame 28 = .ok (.invokevirtual 29, 3) := by decide +kernel
theorem dX7_goNextFrame_31 : decode cX7_goNextFrame 31 = .ok (.aload_n 0, 1) := by decide +kernel
theorem dX7_goNextFrame_32 : decode cX7_goNextFrame 32 = .ok (.iload_n 1, 1) := by decide +kernel
theorem dX7_goNextFrame_33 : decode cX7_goNextFrame 33 = .ok (.bipush 6, 2) := by decide +kernel
theorem dX7_goNextFrame_35 : decode cX7_goNextFrame 35 = .ok (.invokevirtual 29, 3) := by decide +kernel
theorem dX7_goNextFrame_38 : decode cX7_goNextFrame 38 = .ok (.iadd, 1) := by decide +kernel
theorem dX7_goNextFrame_39 : decode cX7_goNextFrame 39 = .ok (.bipush 40, 2) := by decide +kernel
theorem dX7_goNextFrame_41 : decode cX7_goNextFrame 41 = .ok (.invokestatic 33, 3) := by decide +kernel
theorem dX7_goNextFrame_44 : decode cX7_goNextFrame 44 = .ok (.invokevirtual 25, 3) := by decide +kernel
theorem dX7_goNextFrame_47 : decode cX7_goNextFrame 47 = .ok (.aload_n 0, 1) := by decide +kernel
theorem dX7_goNextFrame_48 : decode cX7_goNextFrame 48 = .ok (.iload_n 1, 1) := by decide +kernel
theorem dX7_goNextFrame_49 : decode cX7_goNextFrame 49 = .ok (.iconst 1, 1) := by decide +kernel
theorem dX7_goNextFrame_50 : decode cX7_goNextFrame 50 = .ok (.aload_n 0, 1) := by decide +kernel
theorem dX7_goNextFrame_51 : decode cX7_goNextFrame 51 = .ok (.iload_n 1, 1) := by decide +kernel
theorem dX7_goNextFrame_52 : decode cX7_goNextFrame 52 = .ok (.iconst 1, 1) := by decide +kernel
theorem dX7_goNextFrame_53 : decode cX7_goNextFrame 53 = .ok (.invokevirtual 29, 3) := by decide +kernel
theorem dX7_goNextFrame_56 : decode cX7_goNextFrame 56 = .ok (.aload_n 0, 1) := by decide +kernel
theorem dX7_goNextFrame_57 : decode cX7_goNextFrame 57 = .ok (.iload_n 1, 1) := by decide +kernel
theorem dX7_goNextFrame_58 : decode cX7_goNextFrame 58 = .ok (.bipush 7, 2) := by decide +kernel
theorem dX7_goNextFrame_60 : decode cX7_goNextFrame 60 = .ok (.invokevirtual 29, 3) := by decide +kernel
theorem dX7_goNextFrame_63 : decode cX7_goNextFrame 63 = .ok (.iadd, 1) := by decide +kernel
theorem dX7_goNextFrame_64 : decode cX7_goNextFrame 64 = .ok (.bipush 32, 2) := by decide +kernel
theorem dX7_goNextFrame_66 : decode cX7_goNextFrame 66 = .ok (.invokestatic 33, 3) := by decide +kernel
theorem dX7_goNextFrame_69 : decode cX7_goNextFrame 69 = .ok (.invokevirtual 25, 3) := by decide +kernel
theorem dX7_goNextFrame_72 : decode cX7_goNextFrame 72 = .ok (.iinc 1 1, 3) := by decide +kernel
theorem dX7_goNextFrame_75 : decode cX7_goNextFrame 75 = .ok (.goto (-63), 3) := by decide +kernel
theorem dX7_goNextFrame_78 : decode cX7_goNextFrame 78 = .ok (.return_, 1) := by decide +kernel
set_option maxRecDepth 20000 in
theorem ggX7_wrapped_J9_floorMod_7cf53 : GoodIn wsX7_wrapped wsJ9_floorMod_7cf53 := goodIn_r _ [4] (by decide +kernel) (by decide +kernel)
set_option maxRecDepth 20000 in
theorem gX7_wrapped_J9_floorMod_7cf53 : GoodIn wsX7_wrapped (va_wsS RX7 36 yJ9_floorMod_7cf53 wsJ9_floorMod_7cf53) := goodIn_app (goodIn_of _ (by decide +kernel)) ggX7_wrapped_J9_floorMod_7cf53
theorem dX7_wrapped_0 : decode cX7_wrapped 0 = .ok (.iload_n 0, 1) := by decide +kernel
theorem dX7_wrapped_1 : decode cX7_wrapped 1 = .ok (.bipush 8, 2) := by decide +kernel
theorem dX7_wrapped_3 : decode cX7_wrapped 3 = .ok (.iadd, 1) := by decide +kernel
theorem dX7_wrapped_4 : decode cX7_wrapped 4 = .ok (.iload_n 1, 1) := by decide +kernel
theorem dX7_wrapped_5 : decode cX7_wrapped 5 = .ok (.invokestatic 36, 3) := by decide +kernel
theorem dX7_wrapped_8 : decode cX7_wrapped 8 = .ok (.bipush 8, 2) := by decide +kernel
theorem dX7_wrapped_10 : decode cX7_wrapped 10 = .ok (.isub, 1) := by decide +kernel
theorem dX7_wrapped_11 : decode cX7_wrapped 11 = .ok (.ireturn, 1) := by decide +kernel
set_option maxRecDepth 20000 in
theorem ggX7_isOn_X7_field : GoodIn wsX7_isOn wsX7_field := goodIn_r _ [5, 6, 10] (by decide +kernel) (by decide +kernel)
set_option maxRecDepth 20000 in
theorem gX7_isOn_X7_field : GoodIn wsX7_isOn (wsV RX7 29 RX7 yX7_field wsX7_field) := goodIn_app (goodIn_of _ (by decide +kernel)) ggX7_isOn_X7_field
set_option maxRecDepth 20000 in
theorem ggX7_isOn_X9_isWithin : GoodIn wsX7_isOn wsX9_isWithin := goodIn_r _ [9] (by decide +kernel) (by decide +kernel)
set_option maxRecDepth 20000 in
theorem gX7_isOn_X9_isWithin_n41 : GoodIn wsX7_isOn (wsX9_isWithin) := ggX7_isOn_X9_isWithin
theorem dX7_isOn_0 : decode cX7_isOn 0 = .ok (.iload_n 2, 1) := by decide +kernel
theorem dX7_isOn_1 : decode cX7_isOn 1 = .ok (.aload_n 0, 1) := by decide +kernel
theorem dX7_isOn_2 : decode cX7_isOn 2 = .ok (.iload_n 1, 1) := by decide +kernel
theorem dX7_isOn_3 : decode cX7_isOn 3 = .ok (.iconst 1, 1) := by decide +kernel
theorem dX7_isOn_4 : decode cX7_isOn 4 = .ok (.invokevirtual 29, 3) := by decide +kernel
theorem dX7_isOn_7 : decode cX7_isOn 7 = .ok (.isub, 1) := by decide +kernel
theorem dX7_isOn_8 : decode cX7_isOn 8 = .ok (.iconst 0, 1) := by decide +kernel
theorem dX7_isOn_9 : decode cX7_isOn 9 = .ok (.bipush 7, 2) := by decide +kernel
theorem dX7_isOn_11 : decode cX7_isOn 11 = .ok (.invokestatic 41, 3) := by decide +kernel
theorem dX7_isOn_14 : decode cX7_isOn 14 = .ok (.ireturn, 1) := by decide +kernel
set_option maxRecDepth 20000 in
theorem ggX7_setOn_X7_isOn : GoodIn wsX7_setOn wsX7_isOn := goodIn_r _ [6, 7, 8, 9, 5, 10, 1, 11, 12, 13, 14] (by decide +kernel) (by decide +kernel)
set_option maxRecDepth 20000 in
theorem gX7_setOn_X7_isOn : GoodIn wsX7_setOn (wsV RX7 45 RX7 yX7_isOn wsX7_isOn) := goodIn_app (goodIn_of _ (by decide +kernel)) ggX7_setOn_X7_isOn
theorem dX7_setOn_0 : decode cX7_setOn 0 = .ok (.iconst 0, 1) := by decide +kernel
theorem dX7_setOn_1 : decode cX7_setOn 1 = .ok (.istore_n 2, 1) := by decide +kernel
theorem dX7_setOn_2 : decode cX7_setOn 2 = .ok (.iconst 0, 1) := by decide +kernel
theorem dX7_setOn_3 : decode cX7_setOn 3 = .ok (.istore_n 3, 1) := by decide +kernel
theorem dX7_setOn_4 : decode cX7_setOn 4 = .ok (.iload_n 3, 1) := by decide +kernel
theorem dX7_setOn_5 : decode cX7_setOn 5 = .ok (.aload_n 0, 1) := by decide +kernel
theorem dX7_setOn_6 : decode cX7_setOn 6 = .ok (.getfield 11, 3) := by decide +kernel
theorem dX7_setOn_9 : decode cX7_setOn 9 = .ok (.iconst 0, 1) := by decide +kernel
theorem dX7_setOn_10 : decode cX7_setOn 10 = .ok (.iaload, 1) := by decide +kernel
theorem dX7_setOn_11 : decode cX7_setOn 11 = .ok (.if_icmp .ge 24, 3) := by decide +kernel
theorem dX7_setOn_14 : decode cX7_setOn 14 = .ok (.aload_n 0, 1) := by decide +kernel
theorem dX7_setOn_15 : decode cX7_setOn 15 = .ok (.iload_n 3, 1) := by decide +kernel
theorem dX7_setOn_16 : decode cX7_setOn 16 = .ok (.iload_n 1, 1) := by decide +kernel
theorem dX7_setOn_17 : decode cX7_setOn 17 = .ok (.invokevirtual 45, 3) := by decide +kernel
theorem dX7_setOn_20 : decode cX7_setOn 20 = .ok (.ifCond .eq 9, 3) := by decide +kernel
theorem dX7_setOn_23 : decode cX7_setOn 23 = .ok (.iload_n 2, 1) := by decide +kernel
theorem dX7_setOn_24 : decode cX7_setOn 24 = .ok (.iconst 1, 1) := by decide +kernel
theorem dX7_setOn_25 : decode cX7_setOn 25 = .ok (.iload_n 3, 1) := by decide +kernel
theorem dX7_setOn_26 : decode cX7_setOn 26 = .ok (.ishl, 1) := by decide +kernel
theorem dX7_setOn_27 : decode cX7_setOn 27 = .ok (.ior, 1) := by decide +kernel
theorem dX7_setOn_28 : decode cX7_setOn 28 = .ok (.istore_n 2, 1) := by decide +kernel
theorem dX7_setOn_29 : decode cX7_setOn 29 = .ok (.iinc 3 1, 3) := by decide +kernel
theorem dX7_setOn_32 : decode cX7_setOn 32 = .ok (.goto (-28), 3) := by decide +kernel
theorem dX7_setOn_35 : decode cX7_setOn 35 = .ok (.iload_n 2, 1) := by decide +kernel
theorem dX7_setOn_36 : decode cX7_setOn 36 = .ok (.ireturn, 1) := by decide +kernel
set_option maxRecDepth 20000 in
theorem ggX7_linesOf_X7_field : GoodIn wsX7_linesOf wsX7_field := goodIn_r _ [12, 13, 14] (by decide +kernel) (by decide +kernel)
set_option maxRecDepth 20000 in
theorem gX7_linesOf_X7_field : GoodIn wsX7_linesOf (wsV RX7 29 RX7 yX7_field wsX7_field) := goodIn_app (goodIn_of _ (by decide +kernel)) ggX7_linesOf_X7_field
theorem dX7_linesOf_0 : decode cX7_linesOf 0 = .ok (.aload_n 0, 1) := by decide +kernel
theorem dX7_linesOf_1 : decode cX7_linesOf 1 = .ok (.iload_n 1, 1) := by decide +kernel
theorem dX7_linesOf_2 : decode cX7_linesOf 2 = .ok (.iconst 1, 1) := by decide +kernel
theorem dX7_linesOf_3 : decode cX7_linesOf 3 = .ok (.invokevirtual 29, 3) := by decide +kernel
theorem dX7_linesOf_6 : decode cX7_linesOf 6 = .ok (.iconst 0, 1) := by decide +kernel
theorem dX7_linesOf_7 : decode cX7_linesOf 7 = .ok (.invokestatic 49, 3) := by decide +kernel
theorem dX7_linesOf_10 : decode cX7_linesOf 10 = .ok (.istore_n 2, 1) := by decide +kernel
theorem dX7_linesOf_11 : decode cX7_linesOf 11 = .ok (.aload_n 0, 1) := by decide +kernel
theorem dX7_linesOf_12 : decode cX7_linesOf 12 = .ok (.iload_n 1, 1) := by decide +kernel
theorem dX7_linesOf_13 : decode cX7_linesOf 13 = .ok (.iconst 1, 1) := by decide +kernel
theorem dX7_linesOf_14 : decode cX7_linesOf 14 = .ok (.invokevirtual 29, 3) := by decide +kernel
theorem dX7_linesOf_17 : decode cX7_linesOf 17 = .ok (.bipush 8, 2) := by decide +kernel
theorem dX7_linesOf_19 : decode cX7_linesOf 19 = .ok (.iadd, 1) := by decide +kernel
theorem dX7_linesOf_20 : decode cX7_linesOf 20 = .ok (.bipush 24, 2) := by decide +kernel
theorem dX7_linesOf_22 : decode cX7_linesOf 22 = .ok (.invokestatic 52, 3) := by decide +kernel
theorem dX7_linesOf_25 : decode cX7_linesOf 25 = .ok (.istore_n 3, 1) := by decide +kernel
theorem dX7_linesOf_26 : decode cX7_linesOf 26 = .ok (.iload_n 3, 1) := by decide +kernel
theorem dX7_linesOf_27 : decode cX7_linesOf 27 = .ok (.iload_n 2, 1) := by decide +kernel
theorem dX7_linesOf_28 : decode cX7_linesOf 28 = .ok (.isub, 1) := by decide +kernel
theorem dX7_linesOf_29 : decode cX7_linesOf 29 = .ok (.iconst 0, 1) := by decide +kernel
theorem dX7_linesOf_30 : decode cX7_linesOf 30 = .ok (.invokestatic 49, 3) := by decide +kernel
theorem dX7_linesOf_33 : decode cX7_linesOf 33 = .ok (.ireturn, 1) := by decide +kernel
set_option maxRecDepth 20000 in
theorem ggX7_dotsOf_X7_field : GoodIn wsX7_dotsOf wsX7_field := goodIn_r _ [5, 6, 17] (by decide +kernel) (by decide +kernel)
set_option maxRecDepth 20000 in
theorem gX7_dotsOf_X7_field : GoodIn wsX7_dotsOf (wsV RX7 29 RX7 yX7_field wsX7_field) := goodIn_app (goodIn_of _ (by decide +kernel)) ggX7_dotsOf_X7_field
set_option maxRecDepth 20000 in
theorem ggX7_dotsOf_X9_isWithin : GoodIn wsX7_dotsOf wsX9_isWithin := goodIn_r _ [9] (by decide +kernel) (by decide +kernel)
set_option maxRecDepth 20000 in
theorem gX7_dotsOf_X9_isWithin_n41 : GoodIn wsX7_dotsOf (wsX9_isWithin) := ggX7_dotsOf_X9_isWithin
set_option maxRecDepth 20000 in
theorem ggX7_dotsOf_X7_bits : GoodIn wsX7_dotsOf wsX7_bits := goodIn_r _ [13, 6, 17] (by decide +kernel) (by decide +kernel)
set_option maxRecDepth 20000 in
theorem gX7_dotsOf_X7_bits : GoodIn wsX7_dotsOf (wsV RX7 55 RX7 yX7_bits wsX7_bits) := goodIn_app (goodIn_of _ (by decide +kernel)) ggX7_dotsOf_X7_bits
set_option maxRecDepth 20000 in
theorem ggX7_dotsOf_X7_mirrored : GoodIn wsX7_dotsOf wsX7_mirrored := goodIn_r _ [16] (by decide +kernel) (by decide +kernel)
set_option maxRecDepth 20000 in
theorem gX7_dotsOf_X7_mirrored : GoodIn wsX7_dotsOf (va_wsS RX7 58 yX7_mirrored wsX7_mirrored) := goodIn_app (goodIn_of _ (by decide +kernel)) ggX7_dotsOf_X7_mirrored
theorem dX7_dotsOf_0 : decode cX7_dotsOf 0 = .ok (.iload_n 2, 1) := by decide +kernel
theorem dX7_dotsOf_1 : decode cX7_dotsOf 1 = .ok (.aload_n 0, 1) := by decide +kernel
theorem dX7_dotsOf_2 : decode cX7_dotsOf 2 = .ok (.iload_n 1, 1) := by decide +kernel
theorem dX7_dotsOf_3 : decode cX7_dotsOf 3 = .ok (.iconst 1, 1) := by decide +kernel
theorem dX7_dotsOf_4 : decode cX7_dotsOf 4 = .ok (.invokevirtual 29, 3) := by decide +kernel
theorem dX7_dotsOf_7 : decode cX7_dotsOf 7 = .ok (.isub, 1) := by decide +kernel
theorem dX7_dotsOf_8 : decode cX7_dotsOf 8 = .ok (.istore_n 3, 1) := by decide +kernel
theorem dX7_dotsOf_9 : decode cX7_dotsOf 9 = .ok (.iload_n 3, 1) := by decide +kernel
theorem dX7_dotsOf_10 : decode cX7_dotsOf 10 = .ok (.iconst 0, 1) := by decide +kernel
theorem dX7_dotsOf_11 : decode cX7_dotsOf 11 = .ok (.bipush 7, 2) := by decide +kernel
theorem dX7_dotsOf_13 : decode cX7_dotsOf 13 = .ok (.invokestatic 41, 3) := by decide +kernel
theorem dX7_dotsOf_16 : decode cX7_dotsOf 16 = .ok (.ifCond .ne 5, 3) := by decide +kernel
theorem dX7_dotsOf_19 : decode cX7_dotsOf 19 = .ok (.iconst 0, 1) := by decide +kernel
theorem dX7_dotsOf_20 : decode cX7_dotsOf 20 = .ok (.ireturn, 1) := by decide +kernel
theorem dX7_dotsOf_21 : decode cX7_dotsOf 21 = .ok (.aload_n 0, 1) := by decide +kernel
theorem dX7_dotsOf_22 : decode cX7_dotsOf 22 = .ok (.iload_n 1, 1) := by decide +kernel
theorem dX7_dotsOf_23 : decode cX7_dotsOf 23 = .ok (.iconst 3, 1) := by decide +kernel
theorem dX7_dotsOf_24 : decode cX7_dotsOf 24 = .ok (.invokevirtual 29, 3) := by decide +kernel
theorem dX7_dotsOf_27 : decode cX7_dotsOf 27 = .ok (.istore 4, 2) := by decide +kernel
theorem dX7_dotsOf_29 : decode cX7_dotsOf 29 = .ok (.aload_n 0, 1) := by decide +kernel
theorem dX7_dotsOf_30 : decode cX7_dotsOf 30 = .ok (.aload_n 0, 1) := by decide +kernel
theorem dX7_dotsOf_31 : decode cX7_dotsOf 31 = .ok (.iload_n 1, 1) := by decide +kernel
theorem dX7_dotsOf_32 : decode cX7_dotsOf 32 = .ok (.iconst 2, 1) := by decide +kernel
theorem dX7_dotsOf_33 : decode cX7_dotsOf 33 = .ok (.invokevirtual 29, 3) := by decide +kernel
theorem dX7_dotsOf_36 : decode cX7_dotsOf 36 = .ok (.iload 4, 2) := by decide +kernel
theorem dX7_dotsOf_38 : decode cX7_dotsOf 38 = .ok (.iconst 2, 1) := by decide +kernel
theorem dX7_dotsOf_39 : decode cX7_dotsOf 39 = .ok (.iand, 1) := by decide +kernel
theorem dX7_dotsOf_40 : decode cX7_dotsOf 40 = .ok (.ifCond .eq 10, 3) := by decide +kernel
theorem dX7_dotsOf_43 : decode cX7_dotsOf 43 = .ok (.bipush 7, 2) := by decide +kernel
theorem dX7_dotsOf_45 : decode cX7_dotsOf 45 = .ok (.iload_n 3, 1) := by decide +kernel
theorem dX7_dotsOf_46 : decode cX7_dotsOf 46 = .ok (.isub, 1) := by decide +kernel
theorem dX7_dotsOf_47 : decode cX7_dotsOf 47 = .ok (.goto 4, 3) := by decide +kernel
theorem dX7_dotsOf_50 : decode cX7_dotsOf 50 = .ok (.iload_n 3, 1) := by decide +kernel
theorem dX7_dotsOf_51 : decode cX7_dotsOf 51 = .ok (.invokevirtual 55, 3) := by decide +kernel
theorem dX7_dotsOf_54 : decode cX7_dotsOf 54 = .ok (.istore 5, 2) := by decide +kernel
theorem dX7_dotsOf_56 : decode cX7_dotsOf 56 = .ok (.iload 4, 2) := by decide +kernel
theorem dX7_dotsOf_58 : decode cX7_dotsOf 58 = .ok (.iconst 1, 1) := by decide +kernel
theorem dX7_dotsOf_59 : decode cX7_dotsOf 59 = .ok (.iand, 1) := by decide +kernel
theorem dX7_dotsOf_60 : decode cX7_dotsOf 60 = .ok (.ifCond .eq 10, 3) := by decide +kernel
theorem dX7_dotsOf_63 : decode cX7_dotsOf 63 = .ok (.iload 5, 2) := by decide +kernel
theorem dX7_dotsOf_65 : decode cX7_dotsOf 65 = .ok (.invokestatic 58, 3) := by decide +kernel
theorem dX7_dotsOf_68 : decode cX7_dotsOf 68 = .ok (.istore 5, 2) := by decide +kernel
theorem dX7_dotsOf_70 : decode cX7_dotsOf 70 = .ok (.iload 5, 2) := by decide +kernel
theorem dX7_dotsOf_72 : decode cX7_dotsOf 72 = .ok (.i2l, 1) := by decide +kernel
theorem dX7_dotsOf_73 : decode cX7_dotsOf 73 = .ok (.bipush 32, 2) := by decide +kernel
theorem dX7_dotsOf_75 : decode cX7_dotsOf 75 = .ok (.lshl, 1) := by decide +kernel
theorem dX7_dotsOf_76 : decode cX7_dotsOf 76 = .ok (.aload_n 0, 1) := by decide +kernel
theorem dX7_dotsOf_77 : decode cX7_dotsOf 77 = .ok (.iload_n 1, 1) := by decide +kernel
theorem dX7_dotsOf_78 : decode cX7_dotsOf 78 = .ok (.iconst 0, 1) := by decide +kernel
theorem dX7_dotsOf_79 : decode cX7_dotsOf 79 = .ok (.invokevirtual 29, 3) := by decide +kernel
theorem dX7_dotsOf_82 : decode cX7_dotsOf 82 = .ok (.bipush 8, 2) := by decide +kernel
theorem dX7_dotsOf_84 : decode cX7_dotsOf 84 = .ok (.iadd, 1) := by decide +kernel
theorem dX7_dotsOf_85 : decode cX7_dotsOf 85 = .ok (.lushr, 1) := by decide +kernel
theorem dX7_dotsOf_86 : decode cX7_dotsOf 86 = .ok (.l2i, 1) := by decide +kernel
theorem dX7_dotsOf_87 : decode cX7_dotsOf 87 = .ok (.ireturn, 1) := by decide +kernel
theorem dX7_mirrored_0 : decode cX7_mirrored 0 = .ok (.iconst 0, 1) := by decide +kernel
theorem dX7_mirrored_1 : decode cX7_mirrored 1 = .ok (.istore_n 1, 1) := by decide +kernel
theorem dX7_mirrored_2 : decode cX7_mirrored 2 = .ok (.iconst 0, 1) := by decide +kernel
theorem dX7_mirrored_3 : decode cX7_mirrored 3 = .ok (.istore_n 2, 1) := by decide +kernel
theorem dX7_mirrored_4 : decode cX7_mirrored 4 = .ok (.iload_n 2, 1) := by decide +kernel
theorem dX7_mirrored_5 : decode cX7_mirrored 5 = .ok (.bipush 8, 2) := by decide +kernel
theorem dX7_mirrored_7 : decode cX7_mirrored 7 = .ok (.if_icmp .ge 19, 3) := by decide +kernel
theorem dX7_mirrored_10 : decode cX7_mirrored 10 = .ok (.iload_n 1, 1) := by decide +kernel
theorem dX7_mirrored_11 : decode cX7_mirrored 11 = .ok (.iconst 1, 1) := by decide +kernel
theorem dX7_mirrored_12 : decode cX7_mirrored 12 = .ok (.ishl, 1) := by decide +kernel
theorem dX7_mirrored_13 : decode cX7_mirrored 13 = .ok (.iload_n 0, 1) := by decide +kernel
theorem dX7_mirrored_14 : decode cX7_mirrored 14 = .ok (.iload_n 2, 1) := by decide +kernel
theorem dX7_mirrored_15 : decode cX7_mirrored 15 = .ok (.iushr, 1) := by decide +kernel
theorem dX7_mirrored_16 : decode cX7_mirrored 16 = .ok (.iconst 1, 1) := by decide +kernel
theorem dX7_mirrored_17 : decode cX7_mirrored 17 = .ok (.iand, 1) := by decide +kernel
theorem dX7_mirrored_18 : decode cX7_mirrored 18 = .ok (.ior, 1) := by decide +kernel
theorem dX7_mirrored_19 : decode cX7_mirrored 19 = .ok (.istore_n 1, 1) := by decide +kernel
theorem dX7_mirrored_20 : decode cX7_mirrored 20 = .ok (.iinc 2 1, 3) := by decide +kernel
theorem dX7_mirrored_23 : decode cX7_mirrored 23 = .ok (.goto (-19), 3) := by decide +kernel
theorem dX7_mirrored_26 : decode cX7_mirrored 26 = .ok (.iload_n 1, 1) := by decide +kernel
theorem dX7_mirrored_27 : decode cX7_mirrored 27 = .ok (.ireturn, 1) := by decide +kernel
end
section
set_option maxRecDepth 20000 in
theorem ggX8_init_X5_init : GoodIn wsX8_init wsX5_init := goodIn_r _ [14, 15, 2, 3, 16, 17, 23] (by decide +kernel) (by decide +kernel)
set_option maxRecDepth 20000 in
theorem gX8_init_X5_init_n11 : GoodIn wsX8_init (wsX5_init) := ggX8_init_X5_init
set_option maxRecDepth 20000 in
theorem ggX8_init_X6_init : GoodIn wsX8_init wsX6_init := goodIn_r _ [19, 20, 2, 3, 16, 21, 22, 27, 28, 29] (by decide +kernel) (by decide +kernel)
set_option maxRecDepth 20000 in
theorem gX8_init_X6_init_n20 : GoodIn wsX8_init (wsX6_init) := ggX8_init_X6_init
theorem dX8_init_0 : decode cX8_init 0 = .ok (.aload_n 0, 1) := by decide +kernel
theorem dX8_init_1 : decode cX8_init 1 = .ok (.invokespecial 3, 3) := by decide +kernel
theorem dX8_init_4 : decode cX8_init 4 = .ok (.aload_n 0, 1) := by decide +kernel
theorem dX8_init_5 : decode cX8_init 5 = .ok (.new 9, 3) := by decide +kernel
theorem dX8_init_8 : decode cX8_init 8 = .ok (.dup, 1) := by decide +kernel
theorem dX8_init_9 : decode cX8_init 9 = .ok (.invokespecial 11, 3) := by decide +kernel
theorem dX8_init_12 : decode cX8_init 12 = .ok (.putfield 12, 3) := by decide +kernel
theorem dX8_init_15 : decode cX8_init 15 = .ok (.aload_n 0, 1) := by decide +kernel
theorem dX8_init_16 : decode cX8_init 16 = .ok (.new 18, 3) := by decide +kernel
theorem dX8_init_19 : decode cX8_init 19 = .ok (.dup, 1) := by decide +kernel
theorem dX8_init_20 : decode cX8_init 20 = .ok (.invokespecial 20, 3) := by decide +kernel
theorem dX8_init_23 : decode cX8_init 23 = .ok (.putfield 21, 3) := by decide +kernel
theorem dX8_init_26 : decode cX8_init 26 = .ok (.aload_n 0, 1) := by decide +kernel
theorem dX8_init_27 : decode cX8_init 27 = .ok (.new 18, 3) := by decide +kernel
theorem dX8_init_30 : decode cX8_init 30 = .ok (.dup, 1) := by decide +kernel
theorem dX8_init_31 : decode cX8_init 31 = .ok (.invokespecial 20, 3) := by decide +kernel
theorem dX8_init_34 : decode cX8_init 34 = .ok (.putfield 25, 3) := by decide +kernel
theorem dX8_init_37 : decode cX8_init 37 = .ok (.return_, 1) := by decide +kernel
set_option maxRecDepth 20000 in
theorem ggX8_drawnSet_X7_cell : GoodIn wsX8_drawnSet wsX7_cell := goodIn_r _ [6, 7, 42] (by decide +kernel) (by decide +kernel)
set_option maxRecDepth 20000 in
theorem gX8_drawnSet_X7_cell : GoodIn wsX8_drawnSet (wsV RX8 30 RX7 yX7_cell wsX7_cell) := goodIn_app (goodIn_of _ (by decide +kernel)) ggX8_drawnSet_X7_cell
set_option maxRecDepth 20000 in
theorem ggX8_drawnSet_X5_arrange : GoodIn wsX8_drawnSet wsX5_arrange := goodIn_r _ [12, 13, 14, 3, 4, 5, 6, 7, 15, 16, 17, 11, 18, 19, 20, 21, 22, 23, 24, 25, 26, 43, 42] (by decide +kernel) (by decide +kernel)
set_option maxRecDepth 20000 in
theorem gX8_drawnSet_X5_arrange : GoodIn wsX8_drawnSet (wsV RX8 34 RX5 yX5_arrange wsX5_arrange) := goodIn_app (goodIn_of _ (by decide +kernel)) ggX8_drawnSet_X5_arrange
set_option maxRecDepth 20000 in
theorem ggX8_drawnSet_X5_chosen : GoodIn wsX8_drawnSet wsX5_chosen := goodIn_r _ [30, 13, 14, 3, 4, 5, 6, 7, 31, 32, 33, 34, 35, 20, 21, 22, 36, 37, 38, 43, 42] (by decide +kernel) (by decide +kernel)
set_option maxRecDepth 20000 in
theorem gX8_drawnSet_X5_chosen : GoodIn wsX8_drawnSet (wsV RX8 38 RX5 yX5_chosen wsX5_chosen) := goodIn_app (goodIn_of _ (by decide +kernel)) ggX8_drawnSet_X5_chosen
theorem dX8_drawnSet_0 : decode cX8_drawnSet 0 = .ok (.aload_n 0, 1) := by decide +kernel
theorem dX8_drawnSet_1 : decode cX8_drawnSet 1 = .ok (.getfield 12, 3) := by decide +kernel
theorem dX8_drawnSet_4 : decode cX8_drawnSet 4 = .ok (.aload_n 1, 1) := by decide +kernel
theorem dX8_drawnSet_5 : decode cX8_drawnSet 5 = .ok (.aload_n 1, 1) := by decide +kernel
theorem dX8_drawnSet_6 : decode cX8_drawnSet 6 = .ok (.iconst 2, 1) := by decide +kernel
theorem dX8_drawnSet_7 : decode cX8_drawnSet 7 = .ok (.invokevirtual 30, 3) := by decide +kernel
theorem dX8_drawnSet_10 : decode cX8_drawnSet 10 = .ok (.invokevirtual 34, 3) := by decide +kernel
theorem dX8_drawnSet_13 : decode cX8_drawnSet 13 = .ok (.aload_n 0, 1) := by decide +kernel
theorem dX8_drawnSet_14 : decode cX8_drawnSet 14 = .ok (.getfield 12, 3) := by decide +kernel
theorem dX8_drawnSet_17 : decode cX8_drawnSet 17 = .ok (.aload_n 1, 1) := by decide +kernel
theorem dX8_drawnSet_18 : decode cX8_drawnSet 18 = .ok (.iload_n 2, 1) := by decide +kernel
theorem dX8_drawnSet_19 : decode cX8_drawnSet 19 = .ok (.invokevirtual 38, 3) := by decide +kernel
theorem dX8_drawnSet_22 : decode cX8_drawnSet 22 = .ok (.ireturn, 1) := by decide +kernel
set_option maxRecDepth 20000 in
theorem ggX8_paintNow_X8_drawnSet : GoodIn wsX8_paintNow wsX8_drawnSet := goodIn_r _ [6, 7, 8, 9, 10, 11, 12, 13, 14, 15, 16, 17, 18, 19, 20, 21, 22, 23, 24, 25, 26, 27, 28, 29, 30, 31, 32, 33, 34, 35, 36, 37, 38, 39, 40, 41, 42, 43, 44, 76, 77, 78, 79, 80] (by decide +kernel) (by decide +kernel)
set_option maxRecDepth 20000 in
theorem gX8_paintNow_X8_drawnSet : GoodIn wsX8_paintNow (wsV RX8 42 RX8 yX8_drawnSet wsX8_drawnSet) := goodIn_app (goodIn_of _ (by decide +kernel)) ggX8_paintNow_X8_drawnSet
set_option maxRecDepth 20000 in
theorem ggX8_paintNow_X6_paint : GoodIn wsX8_paintNow wsX6_paint := goodIn_r _ [49, 50, 51, 52, 53, 54, 55, 56, 57, 9, 10, 11, 12, 13, 58, 43, 59, 60, 26, 27, 28, 61, 62, 63, 64, 41, 42, 44, 65, 66, 67, 68, 69, 70, 71, 72, 73, 74, 48, 75, 81, 82, 83, 79] (by decide +kernel) (by decide +kernel)
set_option maxRecDepth 20000 in
theorem gX8_paintNow_X6_paint : GoodIn wsX8_paintNow (wsV RX8 45 RX6 yX6_paint wsX6_paint) := goodIn_app (goodIn_of _ (by decide +kernel)) ggX8_paintNow_X6_paint
theorem dX8_paintNow_0 : decode cX8_paintNow 0 = .ok (.aload_n 0, 1) := by decide +kernel
theorem dX8_paintNow_1 : decode cX8_paintNow 1 = .ok (.getfield 21, 3) := by decide +kernel
theorem dX8_paintNow_4 : decode cX8_paintNow 4 = .ok (.aload_n 1, 1) := by decide +kernel
theorem dX8_paintNow_5 : decode cX8_paintNow 5 = .ok (.iload_n 2, 1) := by decide +kernel
theorem dX8_paintNow_6 : decode cX8_paintNow 6 = .ok (.aload_n 0, 1) := by decide +kernel
theorem dX8_paintNow_7 : decode cX8_paintNow 7 = .ok (.aload_n 1, 1) := by decide +kernel
theorem dX8_paintNow_8 : decode cX8_paintNow 8 = .ok (.iload_n 2, 1) := by decide +kernel
theorem dX8_paintNow_9 : decode cX8_paintNow 9 = .ok (.invokevirtual 42, 3) := by decide +kernel
theorem dX8_paintNow_12 : decode cX8_paintNow 12 = .ok (.invokevirtual 45, 3) := by decide +kernel
theorem dX8_paintNow_15 : decode cX8_paintNow 15 = .ok (.aload_n 0, 1) := by decide +kernel
theorem dX8_paintNow_16 : decode cX8_paintNow 16 = .ok (.getfield 21, 3) := by decide +kernel
theorem dX8_paintNow_19 : decode cX8_paintNow 19 = .ok (.areturn, 1) := by decide +kernel
set_option maxRecDepth 20000 in
theorem ggX8_paintWhole_X7_setOn : GoodIn wsX8_paintWhole wsX7_setOn := goodIn_r _ [6, 7, 8, 9, 10, 5, 11, 12, 13, 14, 15, 16, 17, 18, 56] (by decide +kernel) (by decide +kernel)
set_option maxRecDepth 20000 in
theorem gX8_paintWhole_X7_setOn : GoodIn wsX8_paintWhole (wsV RX8 49 RX7 yX7_setOn wsX7_setOn) := goodIn_app (goodIn_of _ (by decide +kernel)) ggX8_paintWhole_X7_setOn
set_option maxRecDepth 20000 in
theorem ggX8_paintWhole_X6_paint : GoodIn wsX8_paintWhole wsX6_paint := goodIn_r _ [23, 24, 25, 26, 27, 28, 29, 30, 31, 32, 33, 5, 34, 7, 35, 17, 36, 37, 13, 14, 15, 38, 39, 40, 41, 12, 16, 18, 42, 43, 44, 45, 46, 47, 48, 49, 50, 51, 22, 52, 57, 58, 59, 56] (by decide +kernel) (by decide +kernel)
set_option maxRecDepth 20000 in
theorem gX8_paintWhole_X6_paint : GoodIn wsX8_paintWhole (wsV RX8 45 RX6 yX6_paint wsX6_paint) := goodIn_app (goodIn_of _ (by decide +kernel)) ggX8_paintWhole_X6_paint
theorem dX8_paintWhole_0 : decode cX8_paintWhole 0 = .ok (.aload_n 0, 1) := by decide +kernel
theorem dX8_paintWhole_1 : decode cX8_paintWhole 1 = .ok (.getfield 25, 3) := by decide +kernel
theorem dX8_paintWhole_4 : decode cX8_paintWhole 4 = .ok (.aload_n 1, 1) := by decide +kernel
theorem dX8_paintWhole_5 : decode cX8_paintWhole 5 = .ok (.iload_n 2, 1) := by decide +kernel
theorem dX8_paintWhole_6 : decode cX8_paintWhole 6 = .ok (.aload_n 1, 1) := by decide +kernel
theorem dX8_paintWhole_7 : decode cX8_paintWhole 7 = .ok (.iload_n 2, 1) := by decide +kernel
theorem dX8_paintWhole_8 : decode cX8_paintWhole 8 = .ok (.invokevirtual 49, 3) := by decide +kernel
theorem dX8_paintWhole_11 : decode cX8_paintWhole 11 = .ok (.invokevirtual 45, 3) := by decide +kernel
theorem dX8_paintWhole_14 : decode cX8_paintWhole 14 = .ok (.aload_n 0, 1) := by decide +kernel
theorem dX8_paintWhole_15 : decode cX8_paintWhole 15 = .ok (.getfield 25, 3) := by decide +kernel
theorem dX8_paintWhole_18 : decode cX8_paintWhole 18 = .ok (.areturn, 1) := by decide +kernel
set_option maxRecDepth 20000 in
theorem ggX8_missing_X5_arrange : GoodIn wsX8_missing wsX5_arrange := goodIn_r _ [8, 9, 10, 11, 12, 13, 14, 15, 16, 17, 18, 7, 19, 20, 21, 22, 23, 24, 25, 26, 27, 90, 91] (by decide +kernel) (by decide +kernel)
set_option maxRecDepth 20000 in
theorem gX8_missing_X5_arrange : GoodIn wsX8_missing (wsV RX8 34 RX5 yX5_arrange wsX5_arrange) := goodIn_app (goodIn_of _ (by decide +kernel)) ggX8_missing_X5_arrange
set_option maxRecDepth 20000 in
theorem ggX8_missing_X7_setOn : GoodIn wsX8_missing wsX7_setOn := goodIn_r _ [31, 15, 32, 33, 34, 13, 35, 36, 21, 22, 23, 37, 38, 39, 91] (by decide +kernel) (by decide +kernel)
set_option maxRecDepth 20000 in
theorem gX8_missing_X7_setOn : GoodIn wsX8_missing (wsV RX8 49 RX7 yX7_setOn wsX7_setOn) := goodIn_app (goodIn_of _ (by decide +kernel)) ggX8_missing_X7_setOn
set_option maxRecDepth 20000 in
theorem ggX8_missing_X5_chosen : GoodIn wsX8_missing wsX5_chosen := goodIn_r _ [43, 9, 10, 11, 12, 13, 14, 15, 44, 33, 34, 35, 36, 21, 22, 23, 37, 38, 39, 90, 91] (by decide +kernel) (by decide +kernel)
set_option maxRecDepth 20000 in
theorem gX8_missing_X5_chosen : GoodIn wsX8_missing (wsV RX8 38 RX5 yX5_chosen wsX5_chosen) := goodIn_app (goodIn_of _ (by decide +kernel)) ggX8_missing_X5_chosen
set_option maxRecDepth 20000 in
theorem ggX8_missing_X6_paint : GoodIn wsX8_missing wsX6_paint := goodIn_r _ [49, 50, 51, 52, 53, 54, 55, 56, 57, 11, 12, 13, 14, 15, 58, 38, 59, 60, 21, 22, 23, 61, 62, 63, 64, 36, 37, 39, 65, 66, 67, 68, 69, 70, 71, 72, 73, 74, 48, 75, 92, 93, 94, 91] (by decide +kernel) (by decide +kernel)
set_option maxRecDepth 20000 in
theorem gX8_missing_X6_paint : GoodIn wsX8_missing (wsV RX8 45 RX6 yX6_paint wsX6_paint) := goodIn_app (goodIn_of _ (by decide +kernel)) ggX8_missing_X6_paint
set_option maxRecDepth 20000 in
theorem ggX8_missing_X6_otherColumns : GoodIn wsX8_missing wsX6_otherColumns := goodIn_r _ [79, 51, 92, 93, 94] (by decide +kernel) (by decide +kernel)
set_option maxRecDepth 20000 in
theorem gX8_missing_X6_otherColumns : GoodIn wsX8_missing (wsV RX8 52 RX6 yX6_otherColumns wsX6_otherColumns) := goodIn_app (goodIn_of _ (by decide +kernel)) ggX8_missing_X6_otherColumns
set_option maxRecDepth 20000 in
theorem ggX8_missing_J6_bitCount_0f7a4 : GoodIn wsX8_missing wsJ6_bitCount_0f7a4 := goodIn_r _ [83, 84, 85, 86] (by decide +kernel) (by decide +kernel)
set_option maxRecDepth 20000 in
theorem gX8_missing_J6_bitCount_0f7a4 : GoodIn wsX8_missing (va_wsS RX8 56 yJ6_bitCount_0f7a4 wsJ6_bitCount_0f7a4) := goodIn_app (goodIn_of _ (by decide +kernel)) ggX8_missing_J6_bitCount_0f7a4
theorem dX8_missing_0 : decode cX8_missing 0 = .ok (.aload_n 0, 1) := by decide +kernel
theorem dX8_missing_1 : decode cX8_missing 1 = .ok (.getfield 12, 3) := by decide +kernel
theorem dX8_missing_4 : decode cX8_missing 4 = .ok (.aload_n 1, 1) := by decide +kernel
theorem dX8_missing_5 : decode cX8_missing 5 = .ok (.iload_n 2, 1) := by decide +kernel
theorem dX8_missing_6 : decode cX8_missing 6 = .ok (.invokevirtual 34, 3) := by decide +kernel
theorem dX8_missing_9 : decode cX8_missing 9 = .ok (.iconst 0, 1) := by decide +kernel
theorem dX8_missing_10 : decode cX8_missing 10 = .ok (.istore_n 3, 1) := by decide +kernel
theorem dX8_missing_11 : decode cX8_missing 11 = .ok (.iconst 0, 1) := by decide +kernel
theorem dX8_missing_12 : decode cX8_missing 12 = .ok (.istore 4, 2) := by decide +kernel
theorem dX8_missing_14 : decode cX8_missing 14 = .ok (.iload 4, 2) := by decide +kernel
theorem dX8_missing_16 : decode cX8_missing 16 = .ok (.bipush 24, 2) := by decide +kernel
theorem dX8_missing_18 : decode cX8_missing 18 = .ok (.if_icmp .ge 77, 3) := by decide +kernel
theorem dX8_missing_21 : decode cX8_missing 21 = .ok (.aload_n 1, 1) := by decide +kernel
theorem dX8_missing_22 : decode cX8_missing 22 = .ok (.iload 4, 2) := by decide +kernel
theorem dX8_missing_24 : decode cX8_missing 24 = .ok (.invokevirtual 49, 3) := by decide +kernel
theorem dX8_missing_27 : decode cX8_missing 27 = .ok (.istore 5, 2) := by decide +kernel
theorem dX8_missing_29 : decode cX8_missing 29 = .ok (.aload_n 0, 1) := by decide +kernel
theorem dX8_missing_30 : decode cX8_missing 30 = .ok (.getfield 12, 3) := by decide +kernel
theorem dX8_missing_33 : decode cX8_missing 33 = .ok (.aload_n 1, 1) := by decide +kernel
theorem dX8_missing_34 : decode cX8_missing 34 = .ok (.iload 4, 2) := by decide +kernel
theorem dX8_missing_36 : decode cX8_missing 36 = .ok (.invokevirtual 38, 3) := by decide +kernel
theorem dX8_missing_39 : decode cX8_missing 39 = .ok (.istore 6, 2) := by decide +kernel
theorem dX8_missing_41 : decode cX8_missing 41 = .ok (.iload 6, 2) := by decide +kernel
theorem dX8_missing_43 : decode cX8_missing 43 = .ok (.iload 5, 2) := by decide +kernel
theorem dX8_missing_45 : decode cX8_missing 45 = .ok (.if_icmp .eq 44, 3) := by decide +kernel
theorem dX8_missing_48 : decode cX8_missing 48 = .ok (.aload_n 0, 1) := by decide +kernel
theorem dX8_missing_49 : decode cX8_missing 49 = .ok (.getfield 21, 3) := by decide +kernel
theorem dX8_missing_52 : decode cX8_missing 52 = .ok (.aload_n 1, 1) := by decide +kernel
theorem dX8_missing_53 : decode cX8_missing 53 = .ok (.iload 4, 2) := by decide +kernel
theorem dX8_missing_55 : decode cX8_missing 55 = .ok (.iload 6, 2) := by decide +kernel
theorem dX8_missing_57 : decode cX8_missing 57 = .ok (.invokevirtual 45, 3) := by decide +kernel
theorem dX8_missing_60 : decode cX8_missing 60 = .ok (.aload_n 0, 1) := by decide +kernel
theorem dX8_missing_61 : decode cX8_missing 61 = .ok (.getfield 25, 3) := by decide +kernel
theorem dX8_missing_64 : decode cX8_missing 64 = .ok (.aload_n 1, 1) := by decide +kernel
theorem dX8_missing_65 : decode cX8_missing 65 = .ok (.iload 4, 2) := by decide +kernel
theorem dX8_missing_67 : decode cX8_missing 67 = .ok (.iload 5, 2) := by decide +kernel
theorem dX8_missing_69 : decode cX8_missing 69 = .ok (.invokevirtual 45, 3) := by decide +kernel
theorem dX8_missing_72 : decode cX8_missing 72 = .ok (.iload_n 3, 1) := by decide +kernel
theorem dX8_missing_73 : decode cX8_missing 73 = .ok (.aload_n 0, 1) := by decide +kernel
theorem dX8_missing_74 : decode cX8_missing 74 = .ok (.getfield 21, 3) := by decide +kernel
theorem dX8_missing_77 : decode cX8_missing 77 = .ok (.aload_n 0, 1) := by decide +kernel
theorem dX8_missing_78 : decode cX8_missing 78 = .ok (.getfield 25, 3) := by decide +kernel
theorem dX8_missing_81 : decode cX8_missing 81 = .ok (.invokevirtual 52, 3) := by decide +kernel
theorem dX8_missing_84 : decode cX8_missing 84 = .ok (.invokestatic 56, 3) := by decide +kernel
theorem dX8_missing_87 : decode cX8_missing 87 = .ok (.iadd, 1) := by decide +kernel
theorem dX8_missing_88 : decode cX8_missing 88 = .ok (.istore_n 3, 1) := by decide +kernel
theorem dX8_missing_89 : decode cX8_missing 89 = .ok (.iinc 4 1, 3) := by decide +kernel
theorem dX8_missing_92 : decode cX8_missing 92 = .ok (.goto (-78), 3) := by decide +kernel
theorem dX8_missing_95 : decode cX8_missing 95 = .ok (.iload_n 3, 1) := by decide +kernel
theorem dX8_missing_96 : decode cX8_missing 96 = .ok (.ireturn, 1) := by decide +kernel
set_option maxRecDepth 20000 in
theorem ggX8_bestRule_X8_missing : GoodIn wsX8_bestRule wsX8_missing := goodIn_r _ [5, 6, 7, 8, 9, 10, 11, 12, 13, 14, 15, 16, 17, 18, 19, 20, 21, 22, 23, 24, 25, 26, 27, 28, 29, 30, 31, 32, 33, 34, 35, 36, 37, 38, 39, 40, 41, 42, 43, 44, 45, 46, 47, 48, 49, 50, 51, 52, 53, 54, 55, 56, 57, 58, 59, 60, 61, 62, 63, 64, 65, 66, 67, 68, 69, 70, 71, 72, 73, 74, 75, 76, 77, 78, 79, 80, 81, 82, 83, 84, 85, 86, 87, 88, 89, 90, 91, 92, 93, 94, 95, 96, 97, 98, 99] (by decide +kernel) (by decide +kernel)
set_option maxRecDepth 20000 in
theorem gX8_bestRule_X8_missing : GoodIn wsX8_bestRule (wsV RX8 61 RX8 yX8_missing wsX8_missing) := goodIn_app (goodIn_of _ (by decide +kernel)) ggX8_bestRule_X8_missing
theorem dX8_bestRule_0 : decode cX8_bestRule 0 = .ok (.iconst 0, 1) := by decide +kernel
theorem dX8_bestRule_1 : decode cX8_bestRule 1 = .ok (.istore_n 2, 1) := by decide +kernel
theorem dX8_bestRule_2 : decode cX8_bestRule 2 = .ok (.aload_n 0, 1) := by decide +kernel
theorem dX8_bestRule_3 : decode cX8_bestRule 3 = .ok (.aload_n 1, 1) := by decide +kernel
theorem dX8_bestRule_4 : decode cX8_bestRule 4 = .ok (.iload_n 2, 1) := by decide +kernel
theorem dX8_bestRule_5 : decode cX8_bestRule 5 = .ok (.invokevirtual 61, 3) := by decide +kernel
theorem dX8_bestRule_8 : decode cX8_bestRule 8 = .ok (.istore_n 3, 1) := by decide +kernel
theorem dX8_bestRule_9 : decode cX8_bestRule 9 = .ok (.iconst 1, 1) := by decide +kernel
theorem dX8_bestRule_10 : decode cX8_bestRule 10 = .ok (.istore 4, 2) := by decide +kernel
theorem dX8_bestRule_12 : decode cX8_bestRule 12 = .ok (.iload 4, 2) := by decide +kernel
theorem dX8_bestRule_14 : decode cX8_bestRule 14 = .ok (.iconst 4, 1) := by decide +kernel
theorem dX8_bestRule_15 : decode cX8_bestRule 15 = .ok (.if_icmp .ge 30, 3) := by decide +kernel
theorem dX8_bestRule_18 : decode cX8_bestRule 18 = .ok (.aload_n 0, 1) := by decide +kernel
theorem dX8_bestRule_19 : decode cX8_bestRule 19 = .ok (.aload_n 1, 1) := by decide +kernel
theorem dX8_bestRule_20 : decode cX8_bestRule 20 = .ok (.iload 4, 2) := by decide +kernel
theorem dX8_bestRule_22 : decode cX8_bestRule 22 = .ok (.invokevirtual 61, 3) := by decide +kernel
theorem dX8_bestRule_25 : decode cX8_bestRule 25 = .ok (.istore 5, 2) := by decide +kernel
theorem dX8_bestRule_27 : decode cX8_bestRule 27 = .ok (.iload 5, 2) := by decide +kernel
theorem dX8_bestRule_29 : decode cX8_bestRule 29 = .ok (.iload_n 3, 1) := by decide +kernel
theorem dX8_bestRule_30 : decode cX8_bestRule 30 = .ok (.if_icmp .ge 9, 3) := by decide +kernel
theorem dX8_bestRule_33 : decode cX8_bestRule 33 = .ok (.iload 4, 2) := by decide +kernel
theorem dX8_bestRule_35 : decode cX8_bestRule 35 = .ok (.istore_n 2, 1) := by decide +kernel
theorem dX8_bestRule_36 : decode cX8_bestRule 36 = .ok (.iload 5, 2) := by decide +kernel
theorem dX8_bestRule_38 : decode cX8_bestRule 38 = .ok (.istore_n 3, 1) := by decide +kernel
theorem dX8_bestRule_39 : decode cX8_bestRule 39 = .ok (.iinc 4 1, 3) := by decide +kernel
theorem dX8_bestRule_42 : decode cX8_bestRule 42 = .ok (.goto (-30), 3) := by decide +kernel
theorem dX8_bestRule_45 : decode cX8_bestRule 45 = .ok (.iload_n 2, 1) := by decide +kernel
theorem dX8_bestRule_46 : decode cX8_bestRule 46 = .ok (.ireturn, 1) := by decide +kernel
set_option maxRecDepth 20000 in
theorem ggX8_enough_X7_setOn : GoodIn wsX8_enough wsX7_setOn := goodIn_r _ [9, 10, 11, 12, 13, 8, 14, 15, 16, 17, 18, 19, 20, 21, 29] (by decide +kernel) (by decide +kernel)
set_option maxRecDepth 20000 in
theorem gX8_enough_X7_setOn : GoodIn wsX8_enough (wsV RX8 49 RX7 yX7_setOn wsX7_setOn) := goodIn_app (goodIn_of _ (by decide +kernel)) ggX8_enough_X7_setOn
set_option maxRecDepth 20000 in
theorem ggX8_enough_J6_bitCount_0f7a4 : GoodIn wsX8_enough wsJ6_bitCount_0f7a4 := goodIn_r _ [25, 26, 27, 28] (by decide +kernel) (by decide +kernel)
set_option maxRecDepth 20000 in
theorem gX8_enough_J6_bitCount_0f7a4 : GoodIn wsX8_enough (va_wsS RX8 56 yJ6_bitCount_0f7a4 wsJ6_bitCount_0f7a4) := goodIn_app (goodIn_of _ (by decide +kernel)) ggX8_enough_J6_bitCount_0f7a4
theorem dX8_enough_0 : decode cX8_enough 0 = .ok (.iconst 1, 1) := by decide +kernel
theorem dX8_enough_1 : decode cX8_enough 1 = .ok (.istore_n 2, 1) := by decide +kernel
theorem dX8_enough_2 : decode cX8_enough 2 = .ok (.iconst 0, 1) := by decide +kernel
theorem dX8_enough_3 : decode cX8_enough 3 = .ok (.istore_n 3, 1) := by decide +kernel
theorem dX8_enough_4 : decode cX8_enough 4 = .ok (.iload_n 3, 1) := by decide +kernel
theorem dX8_enough_5 : decode cX8_enough 5 = .ok (.bipush 24, 2) := by decide +kernel
theorem dX8_enough_7 : decode cX8_enough 7 = .ok (.if_icmp .ge 22, 3) := by decide +kernel
theorem dX8_enough_10 : decode cX8_enough 10 = .ok (.iload_n 2, 1) := by decide +kernel
theorem dX8_enough_11 : decode cX8_enough 11 = .ok (.aload_n 1, 1) := by decide +kernel
theorem dX8_enough_12 : decode cX8_enough 12 = .ok (.iload_n 3, 1) := by decide +kernel
theorem dX8_enough_13 : decode cX8_enough 13 = .ok (.invokevirtual 49, 3) := by decide +kernel
theorem dX8_enough_16 : decode cX8_enough 16 = .ok (.invokestatic 56, 3) := by decide +kernel
theorem dX8_enough_19 : decode cX8_enough 19 = .ok (.invokestatic 64, 3) := by decide +kernel
theorem dX8_enough_22 : decode cX8_enough 22 = .ok (.istore_n 2, 1) := by decide +kernel
theorem dX8_enough_23 : decode cX8_enough 23 = .ok (.iinc 3 1, 3) := by decide +kernel
theorem dX8_enough_26 : decode cX8_enough 26 = .ok (.goto (-22), 3) := by decide +kernel
theorem dX8_enough_29 : decode cX8_enough 29 = .ok (.iload_n 2, 1) := by decide +kernel
theorem dX8_enough_30 : decode cX8_enough 30 = .ok (.ireturn, 1) := by decide +kernel
set_option maxRecDepth 20000 in
theorem ggX8_filledDots_X8_paintNow : GoodIn wsX8_filledDots wsX8_paintNow := goodIn_r _ [5, 6, 7, 8, 9, 4, 10, 11, 12, 13, 14, 15, 16, 17, 18, 19, 20, 21, 22, 23, 24, 25, 26, 27, 28, 29, 30, 31, 32, 33, 34, 35, 36, 37, 38, 39, 40, 41, 42, 43, 44, 45, 46, 47, 48, 49, 50, 51, 52, 53, 54, 55, 56, 57, 58, 59, 60, 61, 62, 63, 64, 65, 66, 67, 68, 69, 70, 71, 72, 73, 74, 75, 76, 77, 78, 79, 91, 92, 93, 94, 95, 96, 97, 98] (by decide +kernel) (by decide +kernel)
set_option maxRecDepth 20000 in
theorem gX8_filledDots_X8_paintNow : GoodIn wsX8_filledDots (wsV RX8 70 RX8 yX8_paintNow wsX8_paintNow) := goodIn_app (goodIn_of _ (by decide +kernel)) ggX8_filledDots_X8_paintNow
set_option maxRecDepth 20000 in
theorem ggX8_filledDots_X6_filledColumns : GoodIn wsX8_filledDots wsX6_filledColumns := goodIn_r _ [83, 56, 96, 97, 98] (by decide +kernel) (by decide +kernel)
set_option maxRecDepth 20000 in
theorem gX8_filledDots_X6_filledColumns : GoodIn wsX8_filledDots (wsV RX8 74 RX6 yX6_filledColumns wsX6_filledColumns) := goodIn_app (goodIn_of _ (by decide +kernel)) ggX8_filledDots_X6_filledColumns
set_option maxRecDepth 20000 in
theorem ggX8_filledDots_J6_bitCount_0f7a4 : GoodIn wsX8_filledDots wsJ6_bitCount_0f7a4 := goodIn_r _ [87, 88, 89, 90] (by decide +kernel) (by decide +kernel)
set_option maxRecDepth 20000 in
theorem gX8_filledDots_J6_bitCount_0f7a4 : GoodIn wsX8_filledDots (va_wsS RX8 56 yJ6_bitCount_0f7a4 wsJ6_bitCount_0f7a4) := goodIn_app (goodIn_of _ (by decide +kernel)) ggX8_filledDots_J6_bitCount_0f7a4
theorem dX8_filledDots_0 : decode cX8_filledDots 0 = .ok (.iconst 0, 1) := by decide +kernel
theorem dX8_filledDots_1 : decode cX8_filledDots 1 = .ok (.istore_n 2, 1) := by decide +kernel
theorem dX8_filledDots_2 : decode cX8_filledDots 2 = .ok (.iconst 0, 1) := by decide +kernel
theorem dX8_filledDots_3 : decode cX8_filledDots 3 = .ok (.istore_n 3, 1) := by decide +kernel
theorem dX8_filledDots_4 : decode cX8_filledDots 4 = .ok (.iload_n 3, 1) := by decide +kernel
theorem dX8_filledDots_5 : decode cX8_filledDots 5 = .ok (.bipush 24, 2) := by decide +kernel
theorem dX8_filledDots_7 : decode cX8_filledDots 7 = .ok (.if_icmp .ge 24, 3) := by decide +kernel
theorem dX8_filledDots_10 : decode cX8_filledDots 10 = .ok (.iload_n 2, 1) := by decide +kernel
theorem dX8_filledDots_11 : decode cX8_filledDots 11 = .ok (.aload_n 0, 1) := by decide +kernel
theorem dX8_filledDots_12 : decode cX8_filledDots 12 = .ok (.aload_n 1, 1) := by decide +kernel
theorem dX8_filledDots_13 : decode cX8_filledDots 13 = .ok (.iload_n 3, 1) := by decide +kernel
theorem dX8_filledDots_14 : decode cX8_filledDots 14 = .ok (.invokevirtual 70, 3) := by decide +kernel
theorem dX8_filledDots_17 : decode cX8_filledDots 17 = .ok (.invokevirtual 74, 3) := by decide +kernel
theorem dX8_filledDots_20 : decode cX8_filledDots 20 = .ok (.invokestatic 56, 3) := by decide +kernel
theorem dX8_filledDots_23 : decode cX8_filledDots 23 = .ok (.iadd, 1) := by decide +kernel
theorem dX8_filledDots_24 : decode cX8_filledDots 24 = .ok (.istore_n 2, 1) := by decide +kernel
theorem dX8_filledDots_25 : decode cX8_filledDots 25 = .ok (.iinc 3 1, 3) := by decide +kernel
theorem dX8_filledDots_28 : decode cX8_filledDots 28 = .ok (.goto (-24), 3) := by decide +kernel
theorem dX8_filledDots_31 : decode cX8_filledDots 31 = .ok (.iload_n 2, 1) := by decide +kernel
theorem dX8_filledDots_32 : decode cX8_filledDots 32 = .ok (.ireturn, 1) := by decide +kernel
set_option maxRecDepth 20000 in
theorem ggX8_seenDots_X8_paintNow : GoodIn wsX8_seenDots wsX8_paintNow := goodIn_r _ [5, 6, 7, 8, 9, 4, 10, 11, 12, 13, 14, 15, 16, 17, 18, 19, 20, 21, 22, 23, 24, 25, 26, 27, 28, 29, 30, 31, 32, 33, 34, 35, 36, 37, 38, 39, 40, 41, 42, 43, 44, 45, 46, 47, 48, 49, 50, 51, 52, 53, 54, 55, 56, 57, 58, 59, 60, 61, 62, 63, 64, 65, 66, 67, 68, 69, 70, 71, 72, 73, 74, 75, 76, 77, 78, 79, 91, 92, 93, 94, 95, 96, 97, 98] (by decide +kernel) (by decide +kernel)
set_option maxRecDepth 20000 in
theorem gX8_seenDots_X8_paintNow : GoodIn wsX8_seenDots (wsV RX8 70 RX8 yX8_paintNow wsX8_paintNow) := goodIn_app (goodIn_of _ (by decide +kernel)) ggX8_seenDots_X8_paintNow
set_option maxRecDepth 20000 in
theorem ggX8_seenDots_X6_seenColumns : GoodIn wsX8_seenDots wsX6_seenColumns := goodIn_r _ [83, 54, 96, 97, 98] (by decide +kernel) (by decide +kernel)
set_option maxRecDepth 20000 in
theorem gX8_seenDots_X6_seenColumns : GoodIn wsX8_seenDots (wsV RX8 78 RX6 yX6_seenColumns wsX6_seenColumns) := goodIn_app (goodIn_of _ (by decide +kernel)) ggX8_seenDots_X6_seenColumns
set_option maxRecDepth 20000 in
theorem ggX8_seenDots_J6_bitCount_0f7a4 : GoodIn wsX8_seenDots wsJ6_bitCount_0f7a4 := goodIn_r _ [87, 88, 89, 90] (by decide +kernel) (by decide +kernel)
set_option maxRecDepth 20000 in
theorem gX8_seenDots_J6_bitCount_0f7a4 : GoodIn wsX8_seenDots (va_wsS RX8 56 yJ6_bitCount_0f7a4 wsJ6_bitCount_0f7a4) := goodIn_app (goodIn_of _ (by decide +kernel)) ggX8_seenDots_J6_bitCount_0f7a4
theorem dX8_seenDots_0 : decode cX8_seenDots 0 = .ok (.iconst 0, 1) := by decide +kernel
theorem dX8_seenDots_1 : decode cX8_seenDots 1 = .ok (.istore_n 3, 1) := by decide +kernel
theorem dX8_seenDots_2 : decode cX8_seenDots 2 = .ok (.iconst 0, 1) := by decide +kernel
theorem dX8_seenDots_3 : decode cX8_seenDots 3 = .ok (.istore 4, 2) := by decide +kernel
theorem dX8_seenDots_5 : decode cX8_seenDots 5 = .ok (.iload 4, 2) := by decide +kernel
theorem dX8_seenDots_7 : decode cX8_seenDots 7 = .ok (.bipush 24, 2) := by decide +kernel
theorem dX8_seenDots_9 : decode cX8_seenDots 9 = .ok (.if_icmp .ge 26, 3) := by decide +kernel
theorem dX8_seenDots_12 : decode cX8_seenDots 12 = .ok (.iload_n 3, 1) := by decide +kernel
theorem dX8_seenDots_13 : decode cX8_seenDots 13 = .ok (.aload_n 0, 1) := by decide +kernel
theorem dX8_seenDots_14 : decode cX8_seenDots 14 = .ok (.aload_n 1, 1) := by decide +kernel
theorem dX8_seenDots_15 : decode cX8_seenDots 15 = .ok (.iload 4, 2) := by decide +kernel
theorem dX8_seenDots_17 : decode cX8_seenDots 17 = .ok (.invokevirtual 70, 3) := by decide +kernel
theorem dX8_seenDots_20 : decode cX8_seenDots 20 = .ok (.iload_n 2, 1) := by decide +kernel
theorem dX8_seenDots_21 : decode cX8_seenDots 21 = .ok (.invokevirtual 78, 3) := by decide +kernel
theorem dX8_seenDots_24 : decode cX8_seenDots 24 = .ok (.invokestatic 56, 3) := by decide +kernel
theorem dX8_seenDots_27 : decode cX8_seenDots 27 = .ok (.iadd, 1) := by decide +kernel
theorem dX8_seenDots_28 : decode cX8_seenDots 28 = .ok (.istore_n 3, 1) := by decide +kernel
theorem dX8_seenDots_29 : decode cX8_seenDots 29 = .ok (.iinc 4 1, 3) := by decide +kernel
theorem dX8_seenDots_32 : decode cX8_seenDots 32 = .ok (.goto (-27), 3) := by decide +kernel
theorem dX8_seenDots_35 : decode cX8_seenDots 35 = .ok (.iload_n 3, 1) := by decide +kernel
theorem dX8_seenDots_36 : decode cX8_seenDots 36 = .ok (.ireturn, 1) := by decide +kernel
set_option maxRecDepth 20000 in
theorem ggX8_coveredDots_X8_drawnSet : GoodIn wsX8_coveredDots wsX8_drawnSet := goodIn_r _ [5, 6, 7, 8, 9, 10, 11, 12, 13, 14, 15, 16, 17, 18, 19, 20, 21, 22, 23, 24, 25, 26, 27, 28, 29, 30, 31, 32, 33, 34, 35, 36, 37, 38, 39, 40, 41, 42, 43, 92, 93, 94, 95, 96] (by decide +kernel) (by decide +kernel)
set_option maxRecDepth 20000 in
theorem gX8_coveredDots_X8_drawnSet : GoodIn wsX8_coveredDots (wsV RX8 42 RX8 yX8_drawnSet wsX8_drawnSet) := goodIn_app (goodIn_of _ (by decide +kernel)) ggX8_coveredDots_X8_drawnSet
set_option maxRecDepth 20000 in
theorem ggX8_coveredDots_X9_isInSet : GoodIn wsX8_coveredDots wsX9_isInSet := goodIn_r _ [45] (by decide +kernel) (by decide +kernel)
set_option maxRecDepth 20000 in
theorem gX8_coveredDots_X9_isInSet_n81 : GoodIn wsX8_coveredDots (wsX9_isInSet) := ggX8_coveredDots_X9_isInSet
set_option maxRecDepth 20000 in
theorem ggX8_coveredDots_X8_paintNow : GoodIn wsX8_coveredDots wsX8_paintNow := goodIn_r _ [49, 50, 1, 2, 3, 4, 5, 6, 7, 8, 9, 10, 11, 12, 13, 14, 15, 16, 17, 18, 19, 20, 21, 22, 23, 24, 25, 26, 27, 28, 29, 30, 31, 32, 33, 34, 35, 36, 37, 38, 39, 40, 41, 42, 43, 51, 52, 53, 54, 55, 56, 57, 58, 59, 60, 61, 62, 63, 44, 45, 64, 65, 66, 67, 68, 69, 70, 71, 72, 73, 74, 75, 76, 77, 78, 79, 92, 93, 94, 95, 96, 97, 98, 99] (by decide +kernel) (by decide +kernel)
set_option maxRecDepth 20000 in
theorem gX8_coveredDots_X8_paintNow : GoodIn wsX8_coveredDots (wsV RX8 70 RX8 yX8_paintNow wsX8_paintNow) := goodIn_app (goodIn_of _ (by decide +kernel)) ggX8_coveredDots_X8_paintNow
set_option maxRecDepth 20000 in
theorem ggX8_coveredDots_X6_seenColumns : GoodIn wsX8_coveredDots wsX6_seenColumns := goodIn_r _ [83, 56, 97, 98, 99] (by decide +kernel) (by decide +kernel)
set_option maxRecDepth 20000 in
theorem gX8_coveredDots_X6_seenColumns : GoodIn wsX8_coveredDots (wsV RX8 78 RX6 yX6_seenColumns wsX6_seenColumns) := goodIn_app (goodIn_of _ (by decide +kernel)) ggX8_coveredDots_X6_seenColumns
set_option maxRecDepth 20000 in
theorem ggX8_coveredDots_X7_dotsOf : GoodIn wsX8_coveredDots wsX7_dotsOf := goodIn_r _ [68, 40, 25, 26, 10, 27, 12, 41, 42, 43, 69, 70, 71, 72, 73, 74, 75, 95] (by decide +kernel) (by decide +kernel)
set_option maxRecDepth 20000 in
theorem gX8_coveredDots_X7_dotsOf : GoodIn wsX8_coveredDots (wsV RX8 85 RX7 yX7_dotsOf wsX7_dotsOf) := goodIn_app (goodIn_of _ (by decide +kernel)) ggX8_coveredDots_X7_dotsOf
set_option maxRecDepth 20000 in
theorem ggX8_coveredDots_J6_bitCount_0f7a4 : GoodIn wsX8_coveredDots wsJ6_bitCount_0f7a4 := goodIn_r _ [88, 89, 90, 91] (by decide +kernel) (by decide +kernel)
set_option maxRecDepth 20000 in
theorem gX8_coveredDots_J6_bitCount_0f7a4 : GoodIn wsX8_coveredDots (va_wsS RX8 56 yJ6_bitCount_0f7a4 wsJ6_bitCount_0f7a4) := goodIn_app (goodIn_of _ (by decide +kernel)) ggX8_coveredDots_J6_bitCount_0f7a4
theorem dX8_coveredDots_0 : decode cX8_coveredDots 0 = .ok (.iconst 0, 1) := by decide +kernel
theorem dX8_coveredDots_1 : decode cX8_coveredDots 1 = .ok (.istore_n 3, 1) := by decide +kernel
theorem dX8_coveredDots_2 : decode cX8_coveredDots 2 = .ok (.iconst 0, 1) := by decide +kernel
theorem dX8_coveredDots_3 : decode cX8_coveredDots 3 = .ok (.istore 4, 2) := by decide +kernel
theorem dX8_coveredDots_5 : decode cX8_coveredDots 5 = .ok (.iload 4, 2) := by decide +kernel
theorem dX8_coveredDots_7 : decode cX8_coveredDots 7 = .ok (.bipush 24, 2) := by decide +kernel
theorem dX8_coveredDots_9 : decode cX8_coveredDots 9 = .ok (.if_icmp .ge 54, 3) := by decide +kernel
theorem dX8_coveredDots_12 : decode cX8_coveredDots 12 = .ok (.aload_n 0, 1) := by decide +kernel
theorem dX8_coveredDots_13 : decode cX8_coveredDots 13 = .ok (.aload_n 1, 1) := by decide +kernel
theorem dX8_coveredDots_14 : decode cX8_coveredDots 14 = .ok (.iload 4, 2) := by decide +kernel
theorem dX8_coveredDots_16 : decode cX8_coveredDots 16 = .ok (.invokevirtual 42, 3) := by decide +kernel
theorem dX8_coveredDots_19 : decode cX8_coveredDots 19 = .ok (.iload_n 2, 1) := by decide +kernel
theorem dX8_coveredDots_20 : decode cX8_coveredDots 20 = .ok (.invokestatic 81, 3) := by decide +kernel
theorem dX8_coveredDots_23 : decode cX8_coveredDots 23 = .ok (.ifCond .eq 34, 3) := by decide +kernel
theorem dX8_coveredDots_26 : decode cX8_coveredDots 26 = .ok (.aload_n 0, 1) := by decide +kernel
theorem dX8_coveredDots_27 : decode cX8_coveredDots 27 = .ok (.aload_n 1, 1) := by decide +kernel
theorem dX8_coveredDots_28 : decode cX8_coveredDots 28 = .ok (.iload 4, 2) := by decide +kernel
theorem dX8_coveredDots_30 : decode cX8_coveredDots 30 = .ok (.invokevirtual 70, 3) := by decide +kernel
theorem dX8_coveredDots_33 : decode cX8_coveredDots 33 = .ok (.iload_n 2, 1) := by decide +kernel
theorem dX8_coveredDots_34 : decode cX8_coveredDots 34 = .ok (.invokevirtual 78, 3) := by decide +kernel
theorem dX8_coveredDots_37 : decode cX8_coveredDots 37 = .ok (.istore 5, 2) := by decide +kernel
theorem dX8_coveredDots_39 : decode cX8_coveredDots 39 = .ok (.iload_n 3, 1) := by decide +kernel
theorem dX8_coveredDots_40 : decode cX8_coveredDots 40 = .ok (.aload_n 1, 1) := by decide +kernel
theorem dX8_coveredDots_41 : decode cX8_coveredDots 41 = .ok (.iload_n 2, 1) := by decide +kernel
theorem dX8_coveredDots_42 : decode cX8_coveredDots 42 = .ok (.iload 4, 2) := by decide +kernel
theorem dX8_coveredDots_44 : decode cX8_coveredDots 44 = .ok (.invokevirtual 85, 3) := by decide +kernel
theorem dX8_coveredDots_47 : decode cX8_coveredDots 47 = .ok (.iload 5, 2) := by decide +kernel
theorem dX8_coveredDots_49 : decode cX8_coveredDots 49 = .ok (.iconst (-1), 1) := by decide +kernel
theorem dX8_coveredDots_50 : decode cX8_coveredDots 50 = .ok (.ixor, 1) := by decide +kernel
theorem dX8_coveredDots_51 : decode cX8_coveredDots 51 = .ok (.iand, 1) := by decide +kernel
theorem dX8_coveredDots_52 : decode cX8_coveredDots 52 = .ok (.invokestatic 56, 3) := by decide +kernel
theorem dX8_coveredDots_55 : decode cX8_coveredDots 55 = .ok (.iadd, 1) := by decide +kernel
theorem dX8_coveredDots_56 : decode cX8_coveredDots 56 = .ok (.istore_n 3, 1) := by decide +kernel
theorem dX8_coveredDots_57 : decode cX8_coveredDots 57 = .ok (.iinc 4 1, 3) := by decide +kernel
theorem dX8_coveredDots_60 : decode cX8_coveredDots 60 = .ok (.goto (-55), 3) := by decide +kernel
theorem dX8_coveredDots_63 : decode cX8_coveredDots 63 = .ok (.iload_n 3, 1) := by decide +kernel
theorem dX8_coveredDots_64 : decode cX8_coveredDots 64 = .ok (.ireturn, 1) := by decide +kernel
set_option maxRecDepth 20000 in
theorem ggX8_droppedLines_X7_isOn : GoodIn wsX8_droppedLines wsX7_isOn := goodIn_r _ [5, 6, 7, 8, 4, 9, 10, 11, 12, 13, 47] (by decide +kernel) (by decide +kernel)
set_option maxRecDepth 20000 in
theorem gX8_droppedLines_X7_isOn : GoodIn wsX8_droppedLines (wsV RX8 88 RX7 yX7_isOn wsX7_isOn) := goodIn_app (goodIn_of _ (by decide +kernel)) ggX8_droppedLines_X7_isOn
set_option maxRecDepth 20000 in
theorem ggX8_droppedLines_X8_drawnSet : GoodIn wsX8_droppedLines wsX8_drawnSet := goodIn_r _ [18, 19, 20, 21, 22, 4, 23, 10, 24, 25, 26, 27, 28, 29, 30, 31, 32, 33, 34, 35, 7, 8, 9, 36, 37, 38, 39, 40, 41, 42, 43, 44, 2, 3, 5, 6, 11, 12, 13, 48, 49, 50, 47, 51] (by decide +kernel) (by decide +kernel)
set_option maxRecDepth 20000 in
theorem gX8_droppedLines_X8_drawnSet : GoodIn wsX8_droppedLines (wsV RX8 42 RX8 yX8_drawnSet wsX8_drawnSet) := goodIn_app (goodIn_of _ (by decide +kernel)) ggX8_droppedLines_X8_drawnSet
set_option maxRecDepth 20000 in
theorem ggX8_droppedLines_X9_isInSet : GoodIn wsX8_droppedLines wsX9_isInSet := goodIn_r _ [46] (by decide +kernel) (by decide +kernel)
set_option maxRecDepth 20000 in
theorem gX8_droppedLines_X9_isInSet_n81 : GoodIn wsX8_droppedLines (wsX9_isInSet) := ggX8_droppedLines_X9_isInSet
theorem dX8_droppedLines_0 : decode cX8_droppedLines 0 = .ok (.iconst 0, 1) := by decide +kernel
theorem dX8_droppedLines_1 : decode cX8_droppedLines 1 = .ok (.istore_n 3, 1) := by decide +kernel
theorem dX8_droppedLines_2 : decode cX8_droppedLines 2 = .ok (.iconst 0, 1) := by decide +kernel
theorem dX8_droppedLines_3 : decode cX8_droppedLines 3 = .ok (.istore 4, 2) := by decide +kernel
theorem dX8_droppedLines_5 : decode cX8_droppedLines 5 = .ok (.iload 4, 2) := by decide +kernel
theorem dX8_droppedLines_7 : decode cX8_droppedLines 7 = .ok (.bipush 24, 2) := by decide +kernel
theorem dX8_droppedLines_9 : decode cX8_droppedLines 9 = .ok (.if_icmp .ge 40, 3) := by decide +kernel
theorem dX8_droppedLines_12 : decode cX8_droppedLines 12 = .ok (.aload_n 1, 1) := by decide +kernel
theorem dX8_droppedLines_13 : decode cX8_droppedLines 13 = .ok (.iload_n 2, 1) := by decide +kernel
theorem dX8_droppedLines_14 : decode cX8_droppedLines 14 = .ok (.iload 4, 2) := by decide +kernel
theorem dX8_droppedLines_16 : decode cX8_droppedLines 16 = .ok (.invokevirtual 88, 3) := by decide +kernel
theorem dX8_droppedLines_19 : decode cX8_droppedLines 19 = .ok (.ifCond .eq 24, 3) := by decide +kernel
theorem dX8_droppedLines_22 : decode cX8_droppedLines 22 = .ok (.aload_n 0, 1) := by decide +kernel
theorem dX8_droppedLines_23 : decode cX8_droppedLines 23 = .ok (.aload_n 1, 1) := by decide +kernel
theorem dX8_droppedLines_24 : decode cX8_droppedLines 24 = .ok (.iload 4, 2) := by decide +kernel
theorem dX8_droppedLines_26 : decode cX8_droppedLines 26 = .ok (.invokevirtual 42, 3) := by decide +kernel
theorem dX8_droppedLines_29 : decode cX8_droppedLines 29 = .ok (.iload_n 2, 1) := by decide +kernel
theorem dX8_droppedLines_30 : decode cX8_droppedLines 30 = .ok (.invokestatic 81, 3) := by decide +kernel
theorem dX8_droppedLines_33 : decode cX8_droppedLines 33 = .ok (.ifCond .ne 10, 3) := by decide +kernel
theorem dX8_droppedLines_36 : decode cX8_droppedLines 36 = .ok (.iload_n 3, 1) := by decide +kernel
theorem dX8_droppedLines_37 : decode cX8_droppedLines 37 = .ok (.iconst 1, 1) := by decide +kernel
theorem dX8_droppedLines_38 : decode cX8_droppedLines 38 = .ok (.iload 4, 2) := by decide +kernel
theorem dX8_droppedLines_40 : decode cX8_droppedLines 40 = .ok (.ishl, 1) := by decide +kernel
theorem dX8_droppedLines_41 : decode cX8_droppedLines 41 = .ok (.ior, 1) := by decide +kernel
theorem dX8_droppedLines_42 : decode cX8_droppedLines 42 = .ok (.istore_n 3, 1) := by decide +kernel
theorem dX8_droppedLines_43 : decode cX8_droppedLines 43 = .ok (.iinc 4 1, 3) := by decide +kernel
theorem dX8_droppedLines_46 : decode cX8_droppedLines 46 = .ok (.goto (-41), 3) := by decide +kernel
theorem dX8_droppedLines_49 : decode cX8_droppedLines 49 = .ok (.iload_n 3, 1) := by decide +kernel
theorem dX8_droppedLines_50 : decode cX8_droppedLines 50 = .ok (.ireturn, 1) := by decide +kernel
set_option maxRecDepth 20000 in
theorem ggX8_met_X8_drawnSet : GoodIn wsX8_met wsX8_drawnSet := goodIn_r _ [5, 6, 7, 8, 9, 10, 11, 12, 13, 14, 15, 16, 17, 18, 19, 20, 21, 22, 23, 24, 25, 26, 27, 28, 29, 30, 31, 32, 33, 34, 35, 36, 37, 38, 39, 40, 41, 42, 43, 60, 61, 62, 63, 64] (by decide +kernel) (by decide +kernel)
set_option maxRecDepth 20000 in
theorem gX8_met_X8_drawnSet : GoodIn wsX8_met (wsV RX8 42 RX8 yX8_drawnSet wsX8_drawnSet) := goodIn_app (goodIn_of _ (by decide +kernel)) ggX8_met_X8_drawnSet
set_option maxRecDepth 20000 in
theorem ggX8_met_X8_touching : GoodIn wsX8_met wsX8_touching := goodIn_r _ [46, 47, 42, 48, 49, 50, 51, 10, 52, 40, 25, 26, 27, 12, 41, 43, 53, 54, 55, 56, 57, 58, 59, 7, 8, 9, 11, 63] (by decide +kernel) (by decide +kernel)
set_option maxRecDepth 20000 in
theorem gX8_met_X8_touching : GoodIn wsX8_met (va_wsS RX8 91 yX8_touching wsX8_touching) := goodIn_app (goodIn_of _ (by decide +kernel)) ggX8_met_X8_touching
theorem dX8_met_0 : decode cX8_met 0 = .ok (.iconst 0, 1) := by decide +kernel
theorem dX8_met_1 : decode cX8_met 1 = .ok (.istore_n 3, 1) := by decide +kernel
theorem dX8_met_2 : decode cX8_met 2 = .ok (.iconst 0, 1) := by decide +kernel
theorem dX8_met_3 : decode cX8_met 3 = .ok (.istore 4, 2) := by decide +kernel
theorem dX8_met_5 : decode cX8_met 5 = .ok (.iload 4, 2) := by decide +kernel
theorem dX8_met_7 : decode cX8_met 7 = .ok (.bipush 24, 2) := by decide +kernel
theorem dX8_met_9 : decode cX8_met 9 = .ok (.if_icmp .ge 26, 3) := by decide +kernel
theorem dX8_met_12 : decode cX8_met 12 = .ok (.iload_n 3, 1) := by decide +kernel
theorem dX8_met_13 : decode cX8_met 13 = .ok (.aload_n 1, 1) := by decide +kernel
theorem dX8_met_14 : decode cX8_met 14 = .ok (.iload 4, 2) := by decide +kernel
theorem dX8_met_16 : decode cX8_met 16 = .ok (.aload_n 0, 1) := by decide +kernel
theorem dX8_met_17 : decode cX8_met 17 = .ok (.aload_n 1, 1) := by decide +kernel
theorem dX8_met_18 : decode cX8_met 18 = .ok (.iload 4, 2) := by decide +kernel
theorem dX8_met_20 : decode cX8_met 20 = .ok (.invokevirtual 42, 3) := by decide +kernel
theorem dX8_met_23 : decode cX8_met 23 = .ok (.iload_n 2, 1) := by decide +kernel
theorem dX8_met_24 : decode cX8_met 24 = .ok (.invokestatic 91, 3) := by decide +kernel
theorem dX8_met_27 : decode cX8_met 27 = .ok (.ior, 1) := by decide +kernel
theorem dX8_met_28 : decode cX8_met 28 = .ok (.istore_n 3, 1) := by decide +kernel
theorem dX8_met_29 : decode cX8_met 29 = .ok (.iinc 4 1, 3) := by decide +kernel
theorem dX8_met_32 : decode cX8_met 32 = .ok (.goto (-27), 3) := by decide +kernel
theorem dX8_met_35 : decode cX8_met 35 = .ok (.iload_n 3, 1) := by decide +kernel
theorem dX8_met_36 : decode cX8_met 36 = .ok (.ireturn, 1) := by decide +kernel
set_option maxRecDepth 20000 in
theorem ggX8_wouldMeet_X7_setOn : GoodIn wsX8_wouldMeet wsX7_setOn := goodIn_r _ [5, 6, 7, 8, 9, 4, 10, 11, 12, 13, 14, 15, 16, 17, 39] (by decide +kernel) (by decide +kernel)
set_option maxRecDepth 20000 in
theorem gX8_wouldMeet_X7_setOn : GoodIn wsX8_wouldMeet (wsV RX8 49 RX7 yX7_setOn wsX7_setOn) := goodIn_app (goodIn_of _ (by decide +kernel)) ggX8_wouldMeet_X7_setOn
set_option maxRecDepth 20000 in
theorem ggX8_wouldMeet_X8_touching : GoodIn wsX8_wouldMeet wsX8_touching := goodIn_r _ [21, 22, 16, 23, 24, 25, 26, 4, 27, 11, 12, 13, 14, 6, 15, 17, 28, 29, 30, 31, 32, 33, 34, 35, 36, 37, 38, 39] (by decide +kernel) (by decide +kernel)
set_option maxRecDepth 20000 in
theorem gX8_wouldMeet_X8_touching : GoodIn wsX8_wouldMeet (va_wsS RX8 91 yX8_touching wsX8_touching) := goodIn_app (goodIn_of _ (by decide +kernel)) ggX8_wouldMeet_X8_touching
theorem dX8_wouldMeet_0 : decode cX8_wouldMeet 0 = .ok (.iconst 0, 1) := by decide +kernel
theorem dX8_wouldMeet_1 : decode cX8_wouldMeet 1 = .ok (.istore_n 3, 1) := by decide +kernel
theorem dX8_wouldMeet_2 : decode cX8_wouldMeet 2 = .ok (.iconst 0, 1) := by decide +kernel
theorem dX8_wouldMeet_3 : decode cX8_wouldMeet 3 = .ok (.istore 4, 2) := by decide +kernel
theorem dX8_wouldMeet_5 : decode cX8_wouldMeet 5 = .ok (.iload 4, 2) := by decide +kernel
theorem dX8_wouldMeet_7 : decode cX8_wouldMeet 7 = .ok (.bipush 24, 2) := by decide +kernel
theorem dX8_wouldMeet_9 : decode cX8_wouldMeet 9 = .ok (.if_icmp .ge 25, 3) := by decide +kernel
theorem dX8_wouldMeet_12 : decode cX8_wouldMeet 12 = .ok (.iload_n 3, 1) := by decide +kernel
theorem dX8_wouldMeet_13 : decode cX8_wouldMeet 13 = .ok (.aload_n 1, 1) := by decide +kernel
theorem dX8_wouldMeet_14 : decode cX8_wouldMeet 14 = .ok (.iload 4, 2) := by decide +kernel
theorem dX8_wouldMeet_16 : decode cX8_wouldMeet 16 = .ok (.aload_n 1, 1) := by decide +kernel
theorem dX8_wouldMeet_17 : decode cX8_wouldMeet 17 = .ok (.iload 4, 2) := by decide +kernel
theorem dX8_wouldMeet_19 : decode cX8_wouldMeet 19 = .ok (.invokevirtual 49, 3) := by decide +kernel
theorem dX8_wouldMeet_22 : decode cX8_wouldMeet 22 = .ok (.iload_n 2, 1) := by decide +kernel
theorem dX8_wouldMeet_23 : decode cX8_wouldMeet 23 = .ok (.invokestatic 91, 3) := by decide +kernel
theorem dX8_wouldMeet_26 : decode cX8_wouldMeet 26 = .ok (.ior, 1) := by decide +kernel
theorem dX8_wouldMeet_27 : decode cX8_wouldMeet 27 = .ok (.istore_n 3, 1) := by decide +kernel
theorem dX8_wouldMeet_28 : decode cX8_wouldMeet 28 = .ok (.iinc 4 1, 3) := by decide +kernel
theorem dX8_wouldMeet_31 : decode cX8_wouldMeet 31 = .ok (.goto (-26), 3) := by decide +kernel
theorem dX8_wouldMeet_34 : decode cX8_wouldMeet 34 = .ok (.iload_n 3, 1) := by decide +kernel
theorem dX8_wouldMeet_35 : decode cX8_wouldMeet 35 = .ok (.ireturn, 1) := by decide +kernel
set_option maxRecDepth 20000 in
theorem ggX8_touching_X9_isInSet : GoodIn wsX8_touching wsX9_isInSet := goodIn_r _ [3] (by decide +kernel) (by decide +kernel)
set_option maxRecDepth 20000 in
theorem gX8_touching_X9_isInSet_n81 : GoodIn wsX8_touching (wsX9_isInSet) := ggX8_touching_X9_isInSet
set_option maxRecDepth 20000 in
theorem ggX8_touching_X7_dotsOf : GoodIn wsX8_touching wsX7_dotsOf := goodIn_r _ [8, 9, 10, 11, 7, 12, 13, 14, 2, 15, 16, 17, 18, 19, 20, 21, 22, 27] (by decide +kernel) (by decide +kernel)
set_option maxRecDepth 20000 in
theorem gX8_touching_X7_dotsOf : GoodIn wsX8_touching (wsV RX8 85 RX7 yX7_dotsOf wsX7_dotsOf) := goodIn_app (goodIn_of _ (by decide +kernel)) ggX8_touching_X7_dotsOf
set_option maxRecDepth 20000 in
theorem ggX8_touching_X7_cell : GoodIn wsX8_touching wsX7_cell := goodIn_r _ [26, 13, 27] (by decide +kernel) (by decide +kernel)
set_option maxRecDepth 20000 in
theorem gX8_touching_X7_cell : GoodIn wsX8_touching (wsV RX8 30 RX7 yX7_cell wsX7_cell) := goodIn_app (goodIn_of _ (by decide +kernel)) ggX8_touching_X7_cell
theorem dX8_touching_0 : decode cX8_touching 0 = .ok (.iconst 0, 1) := by decide +kernel
theorem dX8_touching_1 : decode cX8_touching 1 = .ok (.istore 4, 2) := by decide +kernel
theorem dX8_touching_3 : decode cX8_touching 3 = .ok (.iload_n 2, 1) := by decide +kernel
theorem dX8_touching_4 : decode cX8_touching 4 = .ok (.iload_n 3, 1) := by decide +kernel
theorem dX8_touching_5 : decode cX8_touching 5 = .ok (.invokestatic 81, 3) := by decide +kernel
theorem dX8_touching_8 : decode cX8_touching 8 = .ok (.ifCond .eq 67, 3) := by decide +kernel
theorem dX8_touching_11 : decode cX8_touching 11 = .ok (.aload_n 0, 1) := by decide +kernel
theorem dX8_touching_12 : decode cX8_touching 12 = .ok (.iload_n 3, 1) := by decide +kernel
theorem dX8_touching_13 : decode cX8_touching 13 = .ok (.iload_n 1, 1) := by decide +kernel
theorem dX8_touching_14 : decode cX8_touching 14 = .ok (.invokevirtual 85, 3) := by decide +kernel
theorem dX8_touching_17 : decode cX8_touching 17 = .ok (.istore 5, 2) := by decide +kernel
theorem dX8_touching_19 : decode cX8_touching 19 = .ok (.iconst 0, 1) := by decide +kernel
theorem dX8_touching_20 : decode cX8_touching 20 = .ok (.istore 6, 2) := by decide +kernel
theorem dX8_touching_22 : decode cX8_touching 22 = .ok (.iload 6, 2) := by decide +kernel
theorem dX8_touching_24 : decode cX8_touching 24 = .ok (.aload_n 0, 1) := by decide +kernel
theorem dX8_touching_25 : decode cX8_touching 25 = .ok (.iconst 0, 1) := by decide +kernel
theorem dX8_touching_26 : decode cX8_touching 26 = .ok (.invokevirtual 30, 3) := by decide +kernel
theorem dX8_touching_29 : decode cX8_touching 29 = .ok (.if_icmp .ge 46, 3) := by decide +kernel
theorem dX8_touching_32 : decode cX8_touching 32 = .ok (.iload 6, 2) := by decide +kernel
theorem dX8_touching_34 : decode cX8_touching 34 = .ok (.iload_n 3, 1) := by decide +kernel
theorem dX8_touching_35 : decode cX8_touching 35 = .ok (.if_icmp .eq 34, 3) := by decide +kernel
theorem dX8_touching_38 : decode cX8_touching 38 = .ok (.iload_n 2, 1) := by decide +kernel
theorem dX8_touching_39 : decode cX8_touching 39 = .ok (.iload 6, 2) := by decide +kernel
theorem dX8_touching_41 : decode cX8_touching 41 = .ok (.invokestatic 81, 3) := by decide +kernel
theorem dX8_touching_44 : decode cX8_touching 44 = .ok (.ifCond .eq 25, 3) := by decide +kernel
theorem dX8_touching_47 : decode cX8_touching 47 = .ok (.iload 5, 2) := by decide +kernel
theorem dX8_touching_49 : decode cX8_touching 49 = .ok (.aload_n 0, 1) := by decide +kernel
theorem dX8_touching_50 : decode cX8_touching 50 = .ok (.iload 6, 2) := by decide +kernel
theorem dX8_touching_52 : decode cX8_touching 52 = .ok (.iload_n 1, 1) := by decide +kernel
theorem dX8_touching_53 : decode cX8_touching 53 = .ok (.invokevirtual 85, 3) := by decide +kernel
theorem dX8_touching_56 : decode cX8_touching 56 = .ok (.iand, 1) := by decide +kernel
theorem dX8_touching_57 : decode cX8_touching 57 = .ok (.ifCond .eq 12, 3) := by decide +kernel
theorem dX8_touching_60 : decode cX8_touching 60 = .ok (.iload 4, 2) := by decide +kernel
theorem dX8_touching_62 : decode cX8_touching 62 = .ok (.iconst 1, 1) := by decide +kernel
theorem dX8_touching_63 : decode cX8_touching 63 = .ok (.iload 6, 2) := by decide +kernel
theorem dX8_touching_65 : decode cX8_touching 65 = .ok (.ishl, 1) := by decide +kernel
theorem dX8_touching_66 : decode cX8_touching 66 = .ok (.ior, 1) := by decide +kernel
theorem dX8_touching_67 : decode cX8_touching 67 = .ok (.istore 4, 2) := by decide +kernel
theorem dX8_touching_69 : decode cX8_touching 69 = .ok (.iinc 6 1, 3) := by decide +kernel
theorem dX8_touching_72 : decode cX8_touching 72 = .ok (.goto (-50), 3) := by decide +kernel
theorem dX8_touching_75 : decode cX8_touching 75 = .ok (.iload 4, 2) := by decide +kernel
theorem dX8_touching_77 : decode cX8_touching 77 = .ok (.ireturn, 1) := by decide +kernel
set_option maxRecDepth 20000 in
theorem ggX9_init_X7_init : GoodIn wsX9_init wsX7_init := goodIn_r _ [40, 41, 2, 3, 33, 42, 92] (by decide +kernel) (by decide +kernel)
set_option maxRecDepth 20000 in
theorem gX9_init_X7_init : GoodIn wsX9_init (wsX7_init) := ggX9_init_X7_init
set_option maxRecDepth 20000 in
theorem ggX9_init_X8_init : GoodIn wsX9_init wsX8_init := goodIn_r _ [44, 45, 2, 3, 46, 47, 48, 49, 50, 51, 52, 53, 54, 55, 56, 57, 33, 58, 59, 60, 61, 62, 63, 120, 103, 104, 105, 121, 122, 123] (by decide +kernel) (by decide +kernel)
set_option maxRecDepth 20000 in
theorem gX9_init_X8_init_n18 : GoodIn wsX9_init (wsX8_init) := ggX9_init_X8_init
set_option maxRecDepth 20000 in
theorem ggX9_init_X4_init : GoodIn wsX9_init wsX4_init := goodIn_r _ [65, 66, 2, 3, 33, 67, 68, 106, 107, 108] (by decide +kernel) (by decide +kernel)
set_option maxRecDepth 20000 in
theorem gX9_init_X4_init_n25 : GoodIn wsX9_init (wsX4_init) := ggX9_init_X4_init
set_option maxRecDepth 20000 in
theorem ggX9_init_X2_init : GoodIn wsX9_init wsX2_init := goodIn_r _ [70, 71, 2, 3, 72, 5, 6, 73, 74, 47, 48, 75, 33, 76, 77, 39, 40, 41, 42, 55, 56, 57, 58, 92, 109, 110, 111, 120] (by decide +kernel) (by decide +kernel)
set_option maxRecDepth 20000 in
theorem gX9_init_X2_init_n32 : GoodIn wsX9_init (wsX2_init) := ggX9_init_X2_init
set_option maxRecDepth 20000 in
theorem ggX9_init_X3_init : GoodIn wsX9_init wsX3_init := goodIn_r _ [79, 80, 2, 3, 81, 33, 82, 112, 113, 114] (by decide +kernel) (by decide +kernel)
set_option maxRecDepth 20000 in
theorem gX9_init_X3_init_n39 : GoodIn wsX9_init (wsX3_init) := ggX9_init_X3_init
set_option maxRecDepth 20000 in
theorem ggX9_init_X0_init : GoodIn wsX9_init wsX0_init := goodIn_r _ [84, 85, 2, 3, 33, 86, 87, 88, 115, 116, 117, 118] (by decide +kernel) (by decide +kernel)
set_option maxRecDepth 20000 in
theorem gX9_init_X0_init_n46 : GoodIn wsX9_init (wsX0_init) := ggX9_init_X0_init
set_option maxRecDepth 20000 in
theorem ggX9_init_X1_init : GoodIn wsX9_init wsX1_init := goodIn_r _ [90, 91, 2, 3] (by decide +kernel) (by decide +kernel)
set_option maxRecDepth 20000 in
theorem gX9_init_X1_init_n53 : GoodIn wsX9_init (wsX1_init) := ggX9_init_X1_init
theorem dX9_init_0 : decode cX9_init 0 = .ok (.aload_n 0, 1) := by decide +kernel
theorem dX9_init_1 : decode cX9_init 1 = .ok (.invokespecial 1, 3) := by decide +kernel
theorem dX9_init_4 : decode cX9_init 4 = .ok (.aload_n 0, 1) := by decide +kernel
theorem dX9_init_5 : decode cX9_init 5 = .ok (.new 7, 3) := by decide +kernel
theorem dX9_init_8 : decode cX9_init 8 = .ok (.dup, 1) := by decide +kernel
theorem dX9_init_9 : decode cX9_init 9 = .ok (.invokespecial 9, 3) := by decide +kernel
theorem dX9_init_12 : decode cX9_init 12 = .ok (.putfield 10, 3) := by decide +kernel
theorem dX9_init_15 : decode cX9_init 15 = .ok (.aload_n 0, 1) := by decide +kernel
theorem dX9_init_16 : decode cX9_init 16 = .ok (.new 16, 3) := by decide +kernel
theorem dX9_init_19 : decode cX9_init 19 = .ok (.dup, 1) := by decide +kernel
theorem dX9_init_20 : decode cX9_init 20 = .ok (.invokespecial 18, 3) := by decide +kernel
theorem dX9_init_23 : decode cX9_init 23 = .ok (.putfield 19, 3) := by decide +kernel
theorem dX9_init_26 : decode cX9_init 26 = .ok (.aload_n 0, 1) := by decide +kernel
theorem dX9_init_27 : decode cX9_init 27 = .ok (.new 23, 3) := by decide +kernel
theorem dX9_init_30 : decode cX9_init 30 = .ok (.dup, 1) := by decide +kernel
theorem dX9_init_31 : decode cX9_init 31 = .ok (.invokespecial 25, 3) := by decide +kernel
theorem dX9_init_34 : decode cX9_init 34 = .ok (.putfield 26, 3) := by decide +kernel
theorem dX9_init_37 : decode cX9_init 37 = .ok (.aload_n 0, 1) := by decide +kernel
theorem dX9_init_38 : decode cX9_init 38 = .ok (.new 30, 3) := by decide +kernel
theorem dX9_init_41 : decode cX9_init 41 = .ok (.dup, 1) := by decide +kernel
theorem dX9_init_42 : decode cX9_init 42 = .ok (.invokespecial 32, 3) := by decide +kernel
theorem dX9_init_45 : decode cX9_init 45 = .ok (.putfield 33, 3) := by decide +kernel
theorem dX9_init_48 : decode cX9_init 48 = .ok (.aload_n 0, 1) := by decide +kernel
theorem dX9_init_49 : decode cX9_init 49 = .ok (.new 37, 3) := by decide +kernel
theorem dX9_init_52 : decode cX9_init 52 = .ok (.dup, 1) := by decide +kernel
theorem dX9_init_53 : decode cX9_init 53 = .ok (.invokespecial 39, 3) := by decide +kernel
theorem dX9_init_56 : decode cX9_init 56 = .ok (.putfield 40, 3) := by decide +kernel
theorem dX9_init_59 : decode cX9_init 59 = .ok (.aload_n 0, 1) := by decide +kernel
theorem dX9_init_60 : decode cX9_init 60 = .ok (.new 44, 3) := by decide +kernel
theorem dX9_init_63 : decode cX9_init 63 = .ok (.dup, 1) := by decide +kernel
theorem dX9_init_64 : decode cX9_init 64 = .ok (.invokespecial 46, 3) := by decide +kernel
theorem dX9_init_67 : decode cX9_init 67 = .ok (.putfield 47, 3) := by decide +kernel
theorem dX9_init_70 : decode cX9_init 70 = .ok (.aload_n 0, 1) := by decide +kernel
theorem dX9_init_71 : decode cX9_init 71 = .ok (.new 51, 3) := by decide +kernel
theorem dX9_init_74 : decode cX9_init 74 = .ok (.dup, 1) := by decide +kernel
theorem dX9_init_75 : decode cX9_init 75 = .ok (.invokespecial 53, 3) := by decide +kernel
theorem dX9_init_78 : decode cX9_init 78 = .ok (.putfield 54, 3) := by decide +kernel
theorem dX9_init_81 : decode cX9_init 81 = .ok (.aload_n 0, 1) := by decide +kernel
theorem dX9_init_82 : decode cX9_init 82 = .ok (.iconst 2, 1) := by decide +kernel
theorem dX9_init_83 : decode cX9_init 83 = .ok (.sipush 132, 3) := by decide +kernel
theorem dX9_init_86 : decode cX9_init 86 = .ok (.multianewarray 58 2, 4) := by decide +kernel
theorem dX9_init_90 : decode cX9_init 90 = .ok (.putfield 60, 3) := by decide +kernel
theorem dX9_init_93 : decode cX9_init 93 = .ok (.aload_n 0, 1) := by decide +kernel
theorem dX9_init_94 : decode cX9_init 94 = .ok (.iconst 2, 1) := by decide +kernel
theorem dX9_init_95 : decode cX9_init 95 = .ok (.newarray .int, 2) := by decide +kernel
theorem dX9_init_97 : decode cX9_init 97 = .ok (.putfield 63, 3) := by decide +kernel
theorem dX9_init_100 : decode cX9_init 100 = .ok (.aload_n 0, 1) := by decide +kernel
theorem dX9_init_101 : decode cX9_init 101 = .ok (.iconst 2, 1) := by decide +kernel
theorem dX9_init_102 : decode cX9_init 102 = .ok (.newarray .boolean, 2) := by decide +kernel
theorem dX9_init_104 : decode cX9_init 104 = .ok (.putfield 67, 3) := by decide +kernel
theorem dX9_init_107 : decode cX9_init 107 = .ok (.return_, 1) := by decide +kernel
set_option maxRecDepth 20000 in
theorem ggX9_told_X7_cell : GoodIn wsX9_told wsX7_cell := goodIn_r _ [11, 12, 198] (by decide +kernel) (by decide +kernel)
set_option maxRecDepth 20000 in
theorem gX9_told_X7_cell : GoodIn wsX9_told (wsV RX9 71 RX7 yX7_cell wsX7_cell) := goodIn_app (goodIn_of _ (by decide +kernel)) ggX9_told_X7_cell
set_option maxRecDepth 20000 in
theorem ggX9_told_X9_missingNow : GoodIn wsX9_told wsX9_missingNow := goodIn_r _ [17, 2, 1, 7, 8, 9, 10, 11, 12, 18, 19, 20, 21, 22, 23, 24, 25, 26, 27, 28, 29, 30, 31, 32, 33, 34, 35, 36, 37, 38, 39, 40, 41, 42, 43, 44, 45, 46, 47, 48, 49, 50, 51, 52, 53, 54, 16, 55, 56, 57, 58, 59, 60, 61, 62, 63, 64, 65, 66, 67, 68, 69, 70, 71, 72, 73, 74, 75, 76, 77, 78, 79, 80, 81, 82, 83, 84, 85, 86, 87, 88, 89, 90, 91, 92, 93, 94, 95, 96, 97, 98, 99, 100, 101, 102, 188, 189, 190, 191, 192, 193, 194, 195, 196, 197, 198, 199, 200, 201, 202, 203, 204, 205] (by decide +kernel) (by decide +kernel)
set_option maxRecDepth 20000 in
theorem gX9_told_X9_missingNow : GoodIn wsX9_told (wsV RX9 75 RX9 yX9_missingNow wsX9_missingNow) := goodIn_app (goodIn_of _ (by decide +kernel)) ggX9_told_X9_missingNow
set_option maxRecDepth 20000 in
theorem ggX9_told_X8_bestRule : GoodIn wsX9_told wsX8_bestRule := goodIn_r _ [106, 107, 19, 20, 21, 22, 23, 24, 25, 26, 27, 28, 29, 30, 31, 32, 8, 9, 10, 11, 12, 33, 34, 35, 36, 37, 38, 39, 40, 41, 42, 43, 44, 45, 46, 47, 48, 49, 50, 51, 52, 53, 54, 16, 55, 56, 57, 58, 59, 60, 61, 62, 63, 64, 65, 66, 67, 68, 69, 70, 71, 72, 73, 74, 75, 76, 77, 78, 79, 80, 81, 82, 83, 84, 85, 86, 87, 88, 89, 90, 91, 92, 93, 94, 95, 96, 97, 98, 99, 100, 101, 102, 199, 200, 201, 202, 198, 203, 204, 205] (by decide +kernel) (by decide +kernel)
set_option maxRecDepth 20000 in
theorem gX9_told_X8_bestRule : GoodIn wsX9_told (wsV RX9 79 RX8 yX8_bestRule wsX8_bestRule) := goodIn_app (goodIn_of _ (by decide +kernel)) ggX9_told_X8_bestRule
set_option maxRecDepth 20000 in
theorem ggX9_told_X8_enough : GoodIn wsX9_told wsX8_enough := goodIn_r _ [111, 112, 113, 114, 115, 45, 46, 47, 10, 48, 12, 49, 50, 51, 52, 53, 38, 39, 40, 54, 16, 55, 96, 97, 98, 99, 100, 101, 102, 198] (by decide +kernel) (by decide +kernel)
set_option maxRecDepth 20000 in
theorem gX9_told_X8_enough : GoodIn wsX9_told (wsV RX9 83 RX8 yX8_enough wsX8_enough) := goodIn_app (goodIn_of _ (by decide +kernel)) ggX9_told_X8_enough
set_option maxRecDepth 20000 in
theorem ggX9_told_X4_assign : GoodIn wsX9_told wsX4_assign := goodIn_r _ [120, 121, 122, 123, 8, 9, 10, 11, 12, 124, 38, 39, 40, 125, 126, 127, 119, 128, 129, 130, 113, 114, 115, 206, 207, 208, 198] (by decide +kernel) (by decide +kernel)
set_option maxRecDepth 20000 in
theorem gX9_told_X4_assign : GoodIn wsX9_told (wsV RX9 86 RX4 yX4_assign wsX4_assign) := goodIn_app (goodIn_of _ (by decide +kernel)) ggX9_told_X4_assign
set_option maxRecDepth 20000 in
theorem ggX9_told_X8_filledDots : GoodIn wsX9_told wsX8_filledDots := goodIn_r _ [134, 135, 136, 137, 21, 138, 24, 139, 140, 141, 142, 23, 143, 8, 9, 10, 11, 12, 26, 27, 28, 29, 30, 31, 32, 33, 34, 35, 36, 37, 38, 39, 40, 41, 42, 43, 44, 56, 57, 58, 59, 60, 50, 51, 52, 53, 54, 16, 55, 61, 62, 63, 64, 65, 66, 67, 68, 69, 70, 71, 72, 73, 74, 75, 76, 77, 78, 79, 80, 81, 82, 83, 84, 85, 86, 87, 88, 89, 90, 91, 144, 145, 146, 147, 96, 97, 98, 99, 100, 101, 102, 199, 200, 201, 198, 202, 203, 204, 205] (by decide +kernel) (by decide +kernel)
set_option maxRecDepth 20000 in
theorem gX9_told_X8_filledDots : GoodIn wsX9_told (wsV RX9 89 RX8 yX8_filledDots wsX8_filledDots) := goodIn_app (goodIn_of _ (by decide +kernel)) ggX9_told_X8_filledDots
set_option maxRecDepth 20000 in
theorem ggX9_told_X0_size : GoodIn wsX9_told wsX0_size := goodIn_r _ [152, 153, 209, 210, 211, 212] (by decide +kernel) (by decide +kernel)
set_option maxRecDepth 20000 in
theorem gX9_told_X0_size : GoodIn wsX9_told (wsV RX9 92 RX0 yX0_size wsX0_size) := goodIn_app (goodIn_of _ (by decide +kernel)) ggX9_told_X0_size
set_option maxRecDepth 20000 in
theorem ggX9_told_X9_firstWrong : GoodIn wsX9_told wsX9_firstWrong := goodIn_r _ [157, 4, 2, 1, 148, 149, 150, 151, 152, 153, 158, 159, 160, 161, 162, 163, 136, 137, 21, 138, 24, 139, 140, 141, 142, 23, 143, 8, 9, 10, 11, 12, 26, 27, 28, 29, 30, 31, 32, 33, 34, 35, 36, 37, 38, 39, 40, 41, 42, 43, 44, 56, 57, 58, 59, 60, 50, 51, 52, 53, 54, 16, 55, 61, 62, 63, 64, 65, 66, 67, 68, 69, 70, 71, 72, 73, 74, 75, 76, 77, 78, 79, 80, 81, 82, 83, 84, 85, 86, 87, 88, 89, 90, 91, 164, 165, 166, 167, 168, 169, 170, 171, 172, 173, 174, 175, 176, 177, 178, 179, 180, 181, 188, 189, 190, 191, 192, 193, 194, 195, 196, 197, 209, 210, 211, 212, 199, 200, 201, 198, 202, 203, 204, 205] (by decide +kernel) (by decide +kernel)
set_option maxRecDepth 20000 in
theorem gX9_told_X9_firstWrong : GoodIn wsX9_told (wsV RX9 95 RX9 yX9_firstWrong wsX9_firstWrong) := goodIn_app (goodIn_of _ (by decide +kernel)) ggX9_told_X9_firstWrong
set_option maxRecDepth 20000 in
theorem ggX9_told_X3_size : GoodIn wsX9_told wsX3_size := goodIn_r _ [186, 187, 213, 214, 215] (by decide +kernel) (by decide +kernel)
set_option maxRecDepth 20000 in
theorem gX9_told_X3_size : GoodIn wsX9_told (wsV RX9 98 RX3 yX3_size wsX3_size) := goodIn_app (goodIn_of _ (by decide +kernel)) ggX9_told_X3_size
theorem dX9_told_0 : decode cX9_told 0 = .ok (.iload_n 1, 1) := by decide +kernel
theorem dX9_told_1 : decode cX9_told 1 = .ok (.tableswitch 173 0 11 #[63, 72, 81, 90, 99, 104, 116, 128, 140, 152, 160, 165], 63) := by decide +kernel
theorem dX9_told_64 : decode cX9_told 64 = .ok (.aload_n 0, 1) := by decide +kernel
theorem dX9_told_65 : decode cX9_told 65 = .ok (.getfield 10, 3) := by decide +kernel
theorem dX9_told_68 : decode cX9_told 68 = .ok (.iconst 0, 1) := by decide +kernel
theorem dX9_told_69 : decode cX9_told 69 = .ok (.invokevirtual 71, 3) := by decide +kernel
theorem dX9_told_72 : decode cX9_told 72 = .ok (.ireturn, 1) := by decide +kernel
theorem dX9_told_73 : decode cX9_told 73 = .ok (.aload_n 0, 1) := by decide +kernel
theorem dX9_told_74 : decode cX9_told 74 = .ok (.getfield 10, 3) := by decide +kernel
theorem dX9_told_77 : decode cX9_told 77 = .ok (.iconst 1, 1) := by decide +kernel
theorem dX9_told_78 : decode cX9_told 78 = .ok (.invokevirtual 71, 3) := by decide +kernel
theorem dX9_told_81 : decode cX9_told 81 = .ok (.ireturn, 1) := by decide +kernel
theorem dX9_told_82 : decode cX9_told 82 = .ok (.aload_n 0, 1) := by decide +kernel
theorem dX9_told_83 : decode cX9_told 83 = .ok (.getfield 10, 3) := by decide +kernel
theorem dX9_told_86 : decode cX9_told 86 = .ok (.iconst 2, 1) := by decide +kernel
theorem dX9_told_87 : decode cX9_told 87 = .ok (.invokevirtual 71, 3) := by decide +kernel
theorem dX9_told_90 : decode cX9_told 90 = .ok (.ireturn, 1) := by decide +kernel
theorem dX9_told_91 : decode cX9_told 91 = .ok (.aload_n 0, 1) := by decide +kernel
theorem dX9_told_92 : decode cX9_told 92 = .ok (.getfield 10, 3) := by decide +kernel
theorem dX9_told_95 : decode cX9_told 95 = .ok (.iconst 3, 1) := by decide +kernel
theorem dX9_told_96 : decode cX9_told 96 = .ok (.invokevirtual 71, 3) := by decide +kernel
theorem dX9_told_99 : decode cX9_told 99 = .ok (.ireturn, 1) := by decide +kernel
theorem dX9_told_100 : decode cX9_told 100 = .ok (.aload_n 0, 1) := by decide +kernel
theorem dX9_told_101 : decode cX9_told 101 = .ok (.invokevirtual 75, 3) := by decide +kernel
theorem dX9_told_104 : decode cX9_told 104 = .ok (.ireturn, 1) := by decide +kernel
theorem dX9_told_105 : decode cX9_told 105 = .ok (.aload_n 0, 1) := by decide +kernel
theorem dX9_told_106 : decode cX9_told 106 = .ok (.getfield 19, 3) := by decide +kernel
theorem dX9_told_109 : decode cX9_told 109 = .ok (.aload_n 0, 1) := by decide +kernel
theorem dX9_told_110 : decode cX9_told 110 = .ok (.getfield 10, 3) := by decide +kernel
theorem dX9_told_113 : decode cX9_told 113 = .ok (.invokevirtual 79, 3) := by decide +kernel
theorem dX9_told_116 : decode cX9_told 116 = .ok (.ireturn, 1) := by decide +kernel
theorem dX9_told_117 : decode cX9_told 117 = .ok (.aload_n 0, 1) := by decide +kernel
theorem dX9_told_118 : decode cX9_told 118 = .ok (.getfield 19, 3) := by decide +kernel
theorem dX9_told_121 : decode cX9_told 121 = .ok (.aload_n 0, 1) := by decide +kernel
theorem dX9_told_122 : decode cX9_told 122 = .ok (.getfield 10, 3) := by decide +kernel
theorem dX9_told_125 : decode cX9_told 125 = .ok (.invokevirtual 83, 3) := by decide +kernel
theorem dX9_told_128 : decode cX9_told 128 = .ok (.ireturn, 1) := by decide +kernel
theorem dX9_told_129 : decode cX9_told 129 = .ok (.aload_n 0, 1) := by decide +kernel
theorem dX9_told_130 : decode cX9_told 130 = .ok (.getfield 26, 3) := by decide +kernel
theorem dX9_told_133 : decode cX9_told 133 = .ok (.aload_n 0, 1) := by decide +kernel
theorem dX9_told_134 : decode cX9_told 134 = .ok (.getfield 10, 3) := by decide +kernel
theorem dX9_told_137 : decode cX9_told 137 = .ok (.invokevirtual 86, 3) := by decide +kernel
theorem dX9_told_140 : decode cX9_told 140 = .ok (.ireturn, 1) := by decide +kernel
theorem dX9_told_141 : decode cX9_told 141 = .ok (.aload_n 0, 1) := by decide +kernel
theorem dX9_told_142 : decode cX9_told 142 = .ok (.getfield 19, 3) := by decide +kernel
theorem dX9_told_145 : decode cX9_told 145 = .ok (.aload_n 0, 1) := by decide +kernel
theorem dX9_told_146 : decode cX9_told 146 = .ok (.getfield 10, 3) := by decide +kernel
theorem dX9_told_149 : decode cX9_told 149 = .ok (.invokevirtual 89, 3) := by decide +kernel
theorem dX9_told_152 : decode cX9_told 152 = .ok (.ireturn, 1) := by decide +kernel
theorem dX9_told_153 : decode cX9_told 153 = .ok (.aload_n 0, 1) := by decide +kernel
theorem dX9_told_154 : decode cX9_told 154 = .ok (.getfield 47, 3) := by decide +kernel
theorem dX9_told_157 : decode cX9_told 157 = .ok (.invokevirtual 92, 3) := by decide +kernel
theorem dX9_told_160 : decode cX9_told 160 = .ok (.ireturn, 1) := by decide +kernel
theorem dX9_told_161 : decode cX9_told 161 = .ok (.aload_n 0, 1) := by decide +kernel
theorem dX9_told_162 : decode cX9_told 162 = .ok (.invokevirtual 95, 3) := by decide +kernel
theorem dX9_told_165 : decode cX9_told 165 = .ok (.ireturn, 1) := by decide +kernel
theorem dX9_told_166 : decode cX9_told 166 = .ok (.aload_n 0, 1) := by decide +kernel
theorem dX9_told_167 : decode cX9_told 167 = .ok (.getfield 40, 3) := by decide +kernel
theorem dX9_told_170 : decode cX9_told 170 = .ok (.invokevirtual 98, 3) := by decide +kernel
theorem dX9_told_173 : decode cX9_told 173 = .ok (.ireturn, 1) := by decide +kernel
theorem dX9_told_174 : decode cX9_told 174 = .ok (.ldc 99, 2) := by decide +kernel
theorem dX9_told_176 : decode cX9_told 176 = .ok (.ireturn, 1) := by decide +kernel
set_option maxRecDepth 20000 in
theorem ggX9_thing_X9_isThing : GoodIn wsX9_thing wsX9_isThing := goodIn_r _ [9, 2, 10, 11, 12, 13, 14, 15, 16, 17, 8, 18, 159, 160, 161, 162, 163, 164, 165, 166, 167, 168, 169] (by decide +kernel) (by decide +kernel)
set_option maxRecDepth 20000 in
theorem gX9_thing_X9_isThing : GoodIn wsX9_thing (wsV RX9 100 RX9 yX9_isThing wsX9_isThing) := goodIn_app (goodIn_of _ (by decide +kernel)) ggX9_thing_X9_isThing
set_option maxRecDepth 20000 in
theorem ggX9_thing_X7_field : GoodIn wsX9_thing wsX7_field := goodIn_r _ [22, 15, 169] (by decide +kernel) (by decide +kernel)
set_option maxRecDepth 20000 in
theorem gX9_thing_X7_field : GoodIn wsX9_thing (wsV RX9 105 RX7 yX7_field wsX7_field) := goodIn_app (goodIn_of _ (by decide +kernel)) ggX9_thing_X7_field
set_option maxRecDepth 20000 in
theorem ggX9_thing_X8_seenDots : GoodIn wsX9_thing wsX8_seenDots := goodIn_r _ [27, 28, 29, 30, 26, 31, 32, 33, 34, 35, 36, 37, 38, 11, 12, 13, 14, 15, 39, 40, 41, 42, 43, 44, 45, 46, 47, 48, 49, 50, 20, 21, 22, 51, 52, 53, 54, 55, 56, 57, 58, 59, 60, 61, 62, 63, 17, 8, 18, 64, 65, 66, 67, 68, 69, 70, 71, 72, 73, 74, 75, 76, 77, 78, 79, 80, 81, 82, 83, 84, 85, 86, 87, 88, 89, 90, 91, 92, 93, 94, 95, 96, 97, 98, 99, 100, 101, 102, 103, 104, 105, 170, 171, 172, 169, 173, 174, 175, 176] (by decide +kernel) (by decide +kernel)
set_option maxRecDepth 20000 in
theorem gX9_thing_X8_seenDots : GoodIn wsX9_thing (wsV RX9 109 RX8 yX8_seenDots wsX8_seenDots) := goodIn_app (goodIn_of _ (by decide +kernel)) ggX9_thing_X8_seenDots
set_option maxRecDepth 20000 in
theorem ggX9_thing_X8_coveredDots : GoodIn wsX9_thing wsX8_coveredDots := goodIn_r _ [109, 33, 34, 35, 26, 36, 37, 38, 11, 12, 13, 14, 15, 39, 40, 41, 42, 43, 44, 45, 46, 47, 48, 49, 50, 20, 21, 22, 51, 52, 53, 54, 55, 56, 57, 58, 59, 60, 61, 62, 63, 17, 8, 18, 77, 78, 28, 29, 30, 31, 32, 64, 65, 66, 67, 68, 69, 70, 71, 72, 73, 74, 75, 76, 79, 80, 81, 82, 83, 84, 85, 86, 87, 88, 89, 90, 91, 92, 93, 94, 95, 96, 97, 98, 110, 99, 100, 101, 102, 103, 104, 105, 170, 171, 172, 169, 173, 174, 175, 176] (by decide +kernel) (by decide +kernel)
set_option maxRecDepth 20000 in
theorem gX9_thing_X8_coveredDots : GoodIn wsX9_thing (wsV RX9 113 RX8 yX8_coveredDots wsX8_coveredDots) := goodIn_app (goodIn_of _ (by decide +kernel)) ggX9_thing_X8_coveredDots
set_option maxRecDepth 20000 in
theorem ggX9_thing_X8_droppedLines : GoodIn wsX9_thing wsX8_droppedLines := goodIn_r _ [114, 115, 60, 61, 13, 62, 63, 20, 21, 22, 15, 17, 8, 18, 33, 34, 35, 26, 36, 37, 38, 11, 12, 14, 39, 40, 41, 42, 43, 44, 45, 46, 47, 48, 49, 50, 51, 52, 53, 54, 55, 56, 57, 58, 59, 77, 78, 169, 170, 171, 172, 173] (by decide +kernel) (by decide +kernel)
set_option maxRecDepth 20000 in
theorem gX9_thing_X8_droppedLines : GoodIn wsX9_thing (wsV RX9 116 RX8 yX8_droppedLines wsX8_droppedLines) := goodIn_app (goodIn_of _ (by decide +kernel)) ggX9_thing_X8_droppedLines
set_option maxRecDepth 20000 in
theorem ggX9_thing_X9_holderOf : GoodIn wsX9_thing wsX9_holderOf := goodIn_r _ [119, 120, 2, 121, 122, 123, 124, 125, 126, 127, 128, 11, 12, 13, 14, 15, 129, 20, 21, 22, 130, 131, 132, 133, 134, 135, 136, 137, 138, 139, 140, 141, 142, 159, 160, 161, 162, 163, 164, 165, 166, 167, 168, 177, 178, 179, 169] (by decide +kernel) (by decide +kernel)
set_option maxRecDepth 20000 in
theorem gX9_thing_X9_holderOf : GoodIn wsX9_thing (wsV RX9 119 RX9 yX9_holderOf wsX9_holderOf) := goodIn_app (goodIn_of _ (by decide +kernel)) ggX9_thing_X9_holderOf
set_option maxRecDepth 20000 in
theorem ggX9_thing_X8_met : GoodIn wsX9_thing wsX8_met := goodIn_r _ [146, 33, 34, 35, 26, 36, 37, 38, 11, 12, 13, 14, 15, 39, 40, 41, 42, 43, 44, 45, 46, 47, 48, 49, 50, 20, 21, 22, 51, 52, 53, 54, 55, 56, 57, 58, 59, 60, 61, 62, 63, 17, 8, 18, 147, 148, 149, 77, 78, 110, 81, 82, 83, 84, 85, 86, 87, 88, 89, 90, 170, 171, 172, 169, 173] (by decide +kernel) (by decide +kernel)
set_option maxRecDepth 20000 in
theorem gX9_thing_X8_met : GoodIn wsX9_thing (wsV RX9 122 RX8 yX8_met wsX8_met) := goodIn_app (goodIn_of _ (by decide +kernel)) ggX9_thing_X8_met
set_option maxRecDepth 20000 in
theorem ggX9_thing_X8_wouldMeet : GoodIn wsX9_thing wsX8_wouldMeet := goodIn_r _ [153, 154, 155, 156, 13, 157, 15, 158, 60, 61, 62, 63, 20, 21, 22, 17, 8, 18, 147, 148, 26, 149, 77, 78, 110, 81, 82, 83, 84, 85, 86, 87, 88, 89, 90, 38, 11, 12, 14, 169] (by decide +kernel) (by decide +kernel)
set_option maxRecDepth 20000 in
theorem gX9_thing_X8_wouldMeet : GoodIn wsX9_thing (wsV RX9 125 RX8 yX8_wouldMeet wsX8_wouldMeet) := goodIn_app (goodIn_of _ (by decide +kernel)) ggX9_thing_X8_wouldMeet
theorem dX9_thing_0 : decode cX9_thing 0 = .ok (.aload_n 0, 1) := by decide +kernel
theorem dX9_thing_1 : decode cX9_thing 1 = .ok (.iload_n 1, 1) := by decide +kernel
theorem dX9_thing_2 : decode cX9_thing 2 = .ok (.invokevirtual 100, 3) := by decide +kernel
theorem dX9_thing_5 : decode cX9_thing 5 = .ok (.ifCond .ne 6, 3) := by decide +kernel
theorem dX9_thing_8 : decode cX9_thing 8 = .ok (.ldc 104, 2) := by decide +kernel
theorem dX9_thing_10 : decode cX9_thing 10 = .ok (.ireturn, 1) := by decide +kernel
theorem dX9_thing_11 : decode cX9_thing 11 = .ok (.iload_n 2, 1) := by decide +kernel
theorem dX9_thing_12 : decode cX9_thing 12 = .ok (.tableswitch 166 0 13 #[72, 72, 85, 85, 85, 85, 72, 72, 95, 108, 121, 134, 140, 153], 72) := by decide +kernel
theorem dX9_thing_84 : decode cX9_thing 84 = .ok (.aload_n 0, 1) := by decide +kernel
theorem dX9_thing_85 : decode cX9_thing 85 = .ok (.getfield 10, 3) := by decide +kernel
theorem dX9_thing_88 : decode cX9_thing 88 = .ok (.iload_n 1, 1) := by decide +kernel
theorem dX9_thing_89 : decode cX9_thing 89 = .ok (.iload_n 2, 1) := by decide +kernel
theorem dX9_thing_90 : decode cX9_thing 90 = .ok (.invokevirtual 105, 3) := by decide +kernel
theorem dX9_thing_93 : decode cX9_thing 93 = .ok (.bipush 8, 2) := by decide +kernel
theorem dX9_thing_95 : decode cX9_thing 95 = .ok (.iadd, 1) := by decide +kernel
theorem dX9_thing_96 : decode cX9_thing 96 = .ok (.ireturn, 1) := by decide +kernel
theorem dX9_thing_97 : decode cX9_thing 97 = .ok (.aload_n 0, 1) := by decide +kernel
theorem dX9_thing_98 : decode cX9_thing 98 = .ok (.getfield 10, 3) := by decide +kernel
theorem dX9_thing_101 : decode cX9_thing 101 = .ok (.iload_n 1, 1) := by decide +kernel
theorem dX9_thing_102 : decode cX9_thing 102 = .ok (.iload_n 2, 1) := by decide +kernel
theorem dX9_thing_103 : decode cX9_thing 103 = .ok (.invokevirtual 105, 3) := by decide +kernel
theorem dX9_thing_106 : decode cX9_thing 106 = .ok (.ireturn, 1) := by decide +kernel
theorem dX9_thing_107 : decode cX9_thing 107 = .ok (.aload_n 0, 1) := by decide +kernel
theorem dX9_thing_108 : decode cX9_thing 108 = .ok (.getfield 19, 3) := by decide +kernel
theorem dX9_thing_111 : decode cX9_thing 111 = .ok (.aload_n 0, 1) := by decide +kernel
theorem dX9_thing_112 : decode cX9_thing 112 = .ok (.getfield 10, 3) := by decide +kernel
theorem dX9_thing_115 : decode cX9_thing 115 = .ok (.iload_n 1, 1) := by decide +kernel
theorem dX9_thing_116 : decode cX9_thing 116 = .ok (.invokevirtual 109, 3) := by decide +kernel
theorem dX9_thing_119 : decode cX9_thing 119 = .ok (.ireturn, 1) := by decide +kernel
theorem dX9_thing_120 : decode cX9_thing 120 = .ok (.aload_n 0, 1) := by decide +kernel
theorem dX9_thing_121 : decode cX9_thing 121 = .ok (.getfield 19, 3) := by decide +kernel
theorem dX9_thing_124 : decode cX9_thing 124 = .ok (.aload_n 0, 1) := by decide +kernel
theorem dX9_thing_125 : decode cX9_thing 125 = .ok (.getfield 10, 3) := by decide +kernel
theorem dX9_thing_128 : decode cX9_thing 128 = .ok (.iload_n 1, 1) := by decide +kernel
theorem dX9_thing_129 : decode cX9_thing 129 = .ok (.invokevirtual 113, 3) := by decide +kernel
theorem dX9_thing_132 : decode cX9_thing 132 = .ok (.ireturn, 1) := by decide +kernel
theorem dX9_thing_133 : decode cX9_thing 133 = .ok (.aload_n 0, 1) := by decide +kernel
theorem dX9_thing_134 : decode cX9_thing 134 = .ok (.getfield 19, 3) := by decide +kernel
theorem dX9_thing_137 : decode cX9_thing 137 = .ok (.aload_n 0, 1) := by decide +kernel
theorem dX9_thing_138 : decode cX9_thing 138 = .ok (.getfield 10, 3) := by decide +kernel
theorem dX9_thing_141 : decode cX9_thing 141 = .ok (.iload_n 1, 1) := by decide +kernel
theorem dX9_thing_142 : decode cX9_thing 142 = .ok (.invokevirtual 116, 3) := by decide +kernel
theorem dX9_thing_145 : decode cX9_thing 145 = .ok (.ireturn, 1) := by decide +kernel
theorem dX9_thing_146 : decode cX9_thing 146 = .ok (.aload_n 0, 1) := by decide +kernel
theorem dX9_thing_147 : decode cX9_thing 147 = .ok (.iload_n 1, 1) := by decide +kernel
theorem dX9_thing_148 : decode cX9_thing 148 = .ok (.invokevirtual 119, 3) := by decide +kernel
theorem dX9_thing_151 : decode cX9_thing 151 = .ok (.ireturn, 1) := by decide +kernel
theorem dX9_thing_152 : decode cX9_thing 152 = .ok (.aload_n 0, 1) := by decide +kernel
theorem dX9_thing_153 : decode cX9_thing 153 = .ok (.getfield 19, 3) := by decide +kernel
theorem dX9_thing_156 : decode cX9_thing 156 = .ok (.aload_n 0, 1) := by decide +kernel
theorem dX9_thing_157 : decode cX9_thing 157 = .ok (.getfield 10, 3) := by decide +kernel
theorem dX9_thing_160 : decode cX9_thing 160 = .ok (.iload_n 1, 1) := by decide +kernel
theorem dX9_thing_161 : decode cX9_thing 161 = .ok (.invokevirtual 122, 3) := by decide +kernel
theorem dX9_thing_164 : decode cX9_thing 164 = .ok (.ireturn, 1) := by decide +kernel
theorem dX9_thing_165 : decode cX9_thing 165 = .ok (.aload_n 0, 1) := by decide +kernel
theorem dX9_thing_166 : decode cX9_thing 166 = .ok (.getfield 19, 3) := by decide +kernel
theorem dX9_thing_169 : decode cX9_thing 169 = .ok (.aload_n 0, 1) := by decide +kernel
theorem dX9_thing_170 : decode cX9_thing 170 = .ok (.getfield 10, 3) := by decide +kernel
theorem dX9_thing_173 : decode cX9_thing 173 = .ok (.iload_n 1, 1) := by decide +kernel
theorem dX9_thing_174 : decode cX9_thing 174 = .ok (.invokevirtual 125, 3) := by decide +kernel
theorem dX9_thing_177 : decode cX9_thing 177 = .ok (.ireturn, 1) := by decide +kernel
theorem dX9_thing_178 : decode cX9_thing 178 = .ok (.ldc 99, 2) := by decide +kernel
theorem dX9_thing_180 : decode cX9_thing 180 = .ok (.ireturn, 1) := by decide +kernel
set_option maxRecDepth 20000 in
theorem ggX9_dot_X9_isDot : GoodIn wsX9_dot wsX9_isDot := goodIn_r _ [7, 8, 9, 6, 10] (by decide +kernel) (by decide +kernel)
set_option maxRecDepth 20000 in
theorem gX9_dot_X9_isDot : GoodIn wsX9_dot (va_wsS RX9 128 yX9_isDot wsX9_isDot) := goodIn_app (goodIn_of _ (by decide +kernel)) ggX9_dot_X9_isDot
set_option maxRecDepth 20000 in
theorem ggX9_dot_X8_paintNow : GoodIn wsX9_dot wsX8_paintNow := goodIn_r _ [15, 16, 17, 18, 19, 14, 20, 21, 22, 23, 24, 25, 26, 27, 28, 29, 30, 31, 32, 33, 34, 35, 36, 37, 38, 39, 40, 41, 42, 43, 44, 45, 46, 47, 48, 49, 50, 51, 52, 53, 54, 55, 9, 6, 10, 56, 57, 58, 59, 60, 61, 62, 63, 64, 65, 66, 67, 68, 69, 70, 71, 72, 73, 74, 75, 76, 77, 78, 79, 80, 81, 82, 83, 84, 85, 86, 116, 117, 118, 119, 120, 121, 122, 123] (by decide +kernel) (by decide +kernel)
set_option maxRecDepth 20000 in
theorem gX9_dot_X8_paintNow : GoodIn wsX9_dot (wsV RX9 132 RX8 yX8_paintNow wsX8_paintNow) := goodIn_app (goodIn_of _ (by decide +kernel)) ggX9_dot_X8_paintNow
set_option maxRecDepth 20000 in
theorem ggX9_dot_X6_colourAt : GoodIn wsX9_dot wsX6_colourAt := goodIn_r _ [90, 91, 92, 93, 59, 94, 61, 69, 6, 70, 71, 40, 41, 25, 42, 27, 121, 122, 123, 119] (by decide +kernel) (by decide +kernel)
set_option maxRecDepth 20000 in
theorem gX9_dot_X6_colourAt : GoodIn wsX9_dot (wsV RX9 136 RX6 yX6_colourAt wsX6_colourAt) := goodIn_app (goodIn_of _ (by decide +kernel)) ggX9_dot_X6_colourAt
set_option maxRecDepth 20000 in
theorem ggX9_dot_X6_thingAt : GoodIn wsX9_dot wsX6_thingAt := goodIn_r _ [94, 61, 69, 6, 70, 121, 122, 123] (by decide +kernel) (by decide +kernel)
set_option maxRecDepth 20000 in
theorem gX9_dot_X6_thingAt : GoodIn wsX9_dot (wsV RX9 141 RX6 yX6_thingAt wsX6_thingAt) := goodIn_app (goodIn_of _ (by decide +kernel)) ggX9_dot_X6_thingAt
set_option maxRecDepth 20000 in
theorem ggX9_dot_X8_paintWhole : GoodIn wsX9_dot wsX8_paintWhole := goodIn_r _ [99, 100, 101, 102, 103, 25, 104, 27, 105, 52, 53, 54, 55, 40, 41, 42, 9, 6, 10, 56, 57, 58, 59, 60, 61, 62, 63, 64, 65, 66, 67, 68, 23, 24, 26, 69, 70, 71, 72, 73, 74, 75, 76, 77, 78, 79, 80, 81, 82, 83, 84, 85, 86, 116, 117, 118, 119, 121, 122, 123] (by decide +kernel) (by decide +kernel)
set_option maxRecDepth 20000 in
theorem gX9_dot_X8_paintWhole : GoodIn wsX9_dot (wsV RX9 144 RX8 yX8_paintWhole wsX8_paintWhole) := goodIn_app (goodIn_of _ (by decide +kernel)) ggX9_dot_X8_paintWhole
theorem dX9_dot_0 : decode cX9_dot 0 = .ok (.iload_n 1, 1) := by decide +kernel
theorem dX9_dot_1 : decode cX9_dot 1 = .ok (.iload_n 2, 1) := by decide +kernel
theorem dX9_dot_2 : decode cX9_dot 2 = .ok (.invokestatic 128, 3) := by decide +kernel
theorem dX9_dot_5 : decode cX9_dot 5 = .ok (.ifCond .ne 6, 3) := by decide +kernel
theorem dX9_dot_8 : decode cX9_dot 8 = .ok (.ldc 99, 2) := by decide +kernel
theorem dX9_dot_10 : decode cX9_dot 10 = .ok (.ireturn, 1) := by decide +kernel
theorem dX9_dot_11 : decode cX9_dot 11 = .ok (.iload_n 3, 1) := by decide +kernel
theorem dX9_dot_12 : decode cX9_dot 12 = .ok (.tableswitch 87 0 2 #[28, 49, 66], 28) := by decide +kernel
theorem dX9_dot_40 : decode cX9_dot 40 = .ok (.aload_n 0, 1) := by decide +kernel
theorem dX9_dot_41 : decode cX9_dot 41 = .ok (.getfield 19, 3) := by decide +kernel
theorem dX9_dot_44 : decode cX9_dot 44 = .ok (.aload_n 0, 1) := by decide +kernel
theorem dX9_dot_45 : decode cX9_dot 45 = .ok (.getfield 10, 3) := by decide +kernel
theorem dX9_dot_48 : decode cX9_dot 48 = .ok (.iload_n 1, 1) := by decide +kernel
theorem dX9_dot_49 : decode cX9_dot 49 = .ok (.invokevirtual 132, 3) := by decide +kernel
theorem dX9_dot_52 : decode cX9_dot 52 = .ok (.aload_n 0, 1) := by decide +kernel
theorem dX9_dot_53 : decode cX9_dot 53 = .ok (.getfield 10, 3) := by decide +kernel
theorem dX9_dot_56 : decode cX9_dot 56 = .ok (.iload_n 2, 1) := by decide +kernel
theorem dX9_dot_57 : decode cX9_dot 57 = .ok (.invokevirtual 136, 3) := by decide +kernel
theorem dX9_dot_60 : decode cX9_dot 60 = .ok (.ireturn, 1) := by decide +kernel
theorem dX9_dot_61 : decode cX9_dot 61 = .ok (.aload_n 0, 1) := by decide +kernel
theorem dX9_dot_62 : decode cX9_dot 62 = .ok (.getfield 19, 3) := by decide +kernel
theorem dX9_dot_65 : decode cX9_dot 65 = .ok (.aload_n 0, 1) := by decide +kernel
theorem dX9_dot_66 : decode cX9_dot 66 = .ok (.getfield 10, 3) := by decide +kernel
theorem dX9_dot_69 : decode cX9_dot 69 = .ok (.iload_n 1, 1) := by decide +kernel
theorem dX9_dot_70 : decode cX9_dot 70 = .ok (.invokevirtual 132, 3) := by decide +kernel
theorem dX9_dot_73 : decode cX9_dot 73 = .ok (.iload_n 2, 1) := by decide +kernel
theorem dX9_dot_74 : decode cX9_dot 74 = .ok (.invokevirtual 141, 3) := by decide +kernel
theorem dX9_dot_77 : decode cX9_dot 77 = .ok (.ireturn, 1) := by decide +kernel
theorem dX9_dot_78 : decode cX9_dot 78 = .ok (.aload_n 0, 1) := by decide +kernel
theorem dX9_dot_79 : decode cX9_dot 79 = .ok (.getfield 19, 3) := by decide +kernel
theorem dX9_dot_82 : decode cX9_dot 82 = .ok (.aload_n 0, 1) := by decide +kernel
theorem dX9_dot_83 : decode cX9_dot 83 = .ok (.getfield 10, 3) := by decide +kernel
theorem dX9_dot_86 : decode cX9_dot 86 = .ok (.iload_n 1, 1) := by decide +kernel
theorem dX9_dot_87 : decode cX9_dot 87 = .ok (.invokevirtual 144, 3) := by decide +kernel
theorem dX9_dot_90 : decode cX9_dot 90 = .ok (.aload_n 0, 1) := by decide +kernel
theorem dX9_dot_91 : decode cX9_dot 91 = .ok (.getfield 10, 3) := by decide +kernel
theorem dX9_dot_94 : decode cX9_dot 94 = .ok (.iload_n 2, 1) := by decide +kernel
theorem dX9_dot_95 : decode cX9_dot 95 = .ok (.invokevirtual 136, 3) := by decide +kernel
theorem dX9_dot_98 : decode cX9_dot 98 = .ok (.ireturn, 1) := by decide +kernel
theorem dX9_dot_99 : decode cX9_dot 99 = .ok (.ldc 99, 2) := by decide +kernel
theorem dX9_dot_101 : decode cX9_dot 101 = .ok (.ireturn, 1) := by decide +kernel
set_option maxRecDepth 20000 in
theorem ggX9_line_X9_isWithin : GoodIn wsX9_line wsX9_isWithin := goodIn_r _ [8] (by decide +kernel) (by decide +kernel)
set_option maxRecDepth 20000 in
theorem gX9_line_X9_isWithin : GoodIn wsX9_line (va_wsS RX9 147 yX9_isWithin wsX9_isWithin) := goodIn_app (goodIn_of _ (by decide +kernel)) ggX9_line_X9_isWithin
set_option maxRecDepth 20000 in
theorem ggX9_line_X8_paintNow : GoodIn wsX9_line wsX8_paintNow := goodIn_r _ [13, 14, 15, 16, 17, 12, 18, 19, 20, 21, 22, 23, 24, 25, 26, 27, 28, 29, 30, 31, 32, 33, 34, 35, 36, 37, 38, 39, 40, 41, 42, 43, 44, 45, 46, 47, 48, 49, 50, 51, 52, 53, 6, 7, 8, 54, 55, 56, 57, 58, 59, 60, 61, 62, 63, 64, 65, 66, 67, 68, 69, 70, 71, 72, 73, 74, 75, 76, 77, 78, 79, 80, 81, 82, 83, 84, 103, 104, 105, 106, 107, 108, 109, 110] (by decide +kernel) (by decide +kernel)
set_option maxRecDepth 20000 in
theorem gX9_line_X8_paintNow : GoodIn wsX9_line (wsV RX9 132 RX8 yX8_paintNow wsX8_paintNow) := goodIn_app (goodIn_of _ (by decide +kernel)) ggX9_line_X8_paintNow
set_option maxRecDepth 20000 in
theorem ggX9_line_X6_colourAt : GoodIn wsX9_line wsX6_colourAt := goodIn_r _ [88, 89, 90, 91, 57, 92, 59, 67, 7, 68, 69, 38, 39, 23, 40, 25, 108, 109, 110, 106] (by decide +kernel) (by decide +kernel)
set_option maxRecDepth 20000 in
theorem gX9_line_X6_colourAt : GoodIn wsX9_line (wsV RX9 136 RX6 yX6_colourAt wsX6_colourAt) := goodIn_app (goodIn_of _ (by decide +kernel)) ggX9_line_X6_colourAt
theorem dX9_line_0 : decode cX9_line 0 = .ok (.iload_n 1, 1) := by decide +kernel
theorem dX9_line_1 : decode cX9_line 1 = .ok (.iconst 0, 1) := by decide +kernel
theorem dX9_line_2 : decode cX9_line 2 = .ok (.bipush 23, 2) := by decide +kernel
theorem dX9_line_4 : decode cX9_line 4 = .ok (.invokestatic 147, 3) := by decide +kernel
theorem dX9_line_7 : decode cX9_line 7 = .ok (.ifCond .eq 12, 3) := by decide +kernel
theorem dX9_line_10 : decode cX9_line 10 = .ok (.iload_n 2, 1) := by decide +kernel
theorem dX9_line_11 : decode cX9_line 11 = .ok (.iconst 0, 1) := by decide +kernel
theorem dX9_line_12 : decode cX9_line 12 = .ok (.iconst 3, 1) := by decide +kernel
theorem dX9_line_13 : decode cX9_line 13 = .ok (.invokestatic 147, 3) := by decide +kernel
theorem dX9_line_16 : decode cX9_line 16 = .ok (.ifCond .ne 7, 3) := by decide +kernel
theorem dX9_line_19 : decode cX9_line 19 = .ok (.ldc2_w 151, 3) := by decide +kernel
theorem dX9_line_22 : decode cX9_line 22 = .ok (.lreturn, 1) := by decide +kernel
theorem dX9_line_23 : decode cX9_line 23 = .ok (.aload_n 0, 1) := by decide +kernel
theorem dX9_line_24 : decode cX9_line 24 = .ok (.getfield 19, 3) := by decide +kernel
theorem dX9_line_27 : decode cX9_line 27 = .ok (.aload_n 0, 1) := by decide +kernel
theorem dX9_line_28 : decode cX9_line 28 = .ok (.getfield 10, 3) := by decide +kernel
theorem dX9_line_31 : decode cX9_line 31 = .ok (.iload_n 1, 1) := by decide +kernel
theorem dX9_line_32 : decode cX9_line 32 = .ok (.invokevirtual 132, 3) := by decide +kernel
theorem dX9_line_35 : decode cX9_line 35 = .ok (.astore_n 3, 1) := by decide +kernel
theorem dX9_line_36 : decode cX9_line 36 = .ok (.lconst 0, 1) := by decide +kernel
theorem dX9_line_37 : decode cX9_line 37 = .ok (.lstore 4, 2) := by decide +kernel
theorem dX9_line_39 : decode cX9_line 39 = .ok (.iconst 0, 1) := by decide +kernel
theorem dX9_line_40 : decode cX9_line 40 = .ok (.istore 6, 2) := by decide +kernel
theorem dX9_line_42 : decode cX9_line 42 = .ok (.iload 6, 2) := by decide +kernel
theorem dX9_line_44 : decode cX9_line 44 = .ok (.bipush 8, 2) := by decide +kernel
theorem dX9_line_46 : decode cX9_line 46 = .ok (.if_icmp .ge 34, 3) := by decide +kernel
theorem dX9_line_49 : decode cX9_line 49 = .ok (.lload 4, 2) := by decide +kernel
theorem dX9_line_51 : decode cX9_line 51 = .ok (.ldc2_w 153, 3) := by decide +kernel
theorem dX9_line_54 : decode cX9_line 54 = .ok (.lmul, 1) := by decide +kernel
theorem dX9_line_55 : decode cX9_line 55 = .ok (.aload_n 3, 1) := by decide +kernel
theorem dX9_line_56 : decode cX9_line 56 = .ok (.aload_n 0, 1) := by decide +kernel
theorem dX9_line_57 : decode cX9_line 57 = .ok (.getfield 10, 3) := by decide +kernel
theorem dX9_line_60 : decode cX9_line 60 = .ok (.iload_n 2, 1) := by decide +kernel
theorem dX9_line_61 : decode cX9_line 61 = .ok (.bipush 8, 2) := by decide +kernel
theorem dX9_line_63 : decode cX9_line 63 = .ok (.imul, 1) := by decide +kernel
theorem dX9_line_64 : decode cX9_line 64 = .ok (.iload 6, 2) := by decide +kernel
theorem dX9_line_66 : decode cX9_line 66 = .ok (.iadd, 1) := by decide +kernel
theorem dX9_line_67 : decode cX9_line 67 = .ok (.invokevirtual 136, 3) := by decide +kernel
theorem dX9_line_70 : decode cX9_line 70 = .ok (.i2l, 1) := by decide +kernel
theorem dX9_line_71 : decode cX9_line 71 = .ok (.ladd, 1) := by decide +kernel
theorem dX9_line_72 : decode cX9_line 72 = .ok (.lstore 4, 2) := by decide +kernel
theorem dX9_line_74 : decode cX9_line 74 = .ok (.iinc 6 1, 3) := by decide +kernel
theorem dX9_line_77 : decode cX9_line 77 = .ok (.goto (-35), 3) := by decide +kernel
theorem dX9_line_80 : decode cX9_line 80 = .ok (.lload 4, 2) := by decide +kernel
theorem dX9_line_82 : decode cX9_line 82 = .ok (.lreturn, 1) := by decide +kernel
set_option maxRecDepth 20000 in
theorem ggX9_drawn_X9_isWithin : GoodIn wsX9_drawn wsX9_isWithin := goodIn_r _ [7] (by decide +kernel) (by decide +kernel)
set_option maxRecDepth 20000 in
theorem gX9_drawn_X9_isWithin : GoodIn wsX9_drawn (va_wsS RX9 147 yX9_isWithin wsX9_isWithin) := goodIn_app (goodIn_of _ (by decide +kernel)) ggX9_drawn_X9_isWithin
set_option maxRecDepth 20000 in
theorem ggX9_drawn_X8_drawnSet : GoodIn wsX9_drawn wsX8_drawnSet := goodIn_r _ [12, 13, 14, 15, 16, 17, 18, 19, 20, 21, 22, 23, 24, 25, 26, 27, 28, 29, 30, 31, 32, 33, 34, 35, 36, 37, 38, 39, 40, 41, 42, 43, 44, 45, 46, 47, 5, 6, 7, 63, 64, 65, 66, 67] (by decide +kernel) (by decide +kernel)
set_option maxRecDepth 20000 in
theorem gX9_drawn_X8_drawnSet : GoodIn wsX9_drawn (wsV RX9 155 RX8 yX8_drawnSet wsX8_drawnSet) := goodIn_app (goodIn_of _ (by decide +kernel)) ggX9_drawn_X8_drawnSet
set_option maxRecDepth 20000 in
theorem ggX9_drawn_X7_setOn : GoodIn wsX9_drawn wsX7_setOn := goodIn_r _ [51, 19, 52, 44, 45, 17, 46, 47, 32, 33, 34, 5, 6, 7, 66] (by decide +kernel) (by decide +kernel)
set_option maxRecDepth 20000 in
theorem gX9_drawn_X7_setOn : GoodIn wsX9_drawn (wsV RX9 158 RX7 yX7_setOn wsX7_setOn) := goodIn_app (goodIn_of _ (by decide +kernel)) ggX9_drawn_X7_setOn
theorem dX9_drawn_0 : decode cX9_drawn 0 = .ok (.iload_n 1, 1) := by decide +kernel
theorem dX9_drawn_1 : decode cX9_drawn 1 = .ok (.iconst 0, 1) := by decide +kernel
theorem dX9_drawn_2 : decode cX9_drawn 2 = .ok (.bipush 23, 2) := by decide +kernel
theorem dX9_drawn_4 : decode cX9_drawn 4 = .ok (.invokestatic 147, 3) := by decide +kernel
theorem dX9_drawn_7 : decode cX9_drawn 7 = .ok (.ifCond .eq 12, 3) := by decide +kernel
theorem dX9_drawn_10 : decode cX9_drawn 10 = .ok (.iload_n 2, 1) := by decide +kernel
theorem dX9_drawn_11 : decode cX9_drawn 11 = .ok (.iconst 0, 1) := by decide +kernel
theorem dX9_drawn_12 : decode cX9_drawn 12 = .ok (.iconst 1, 1) := by decide +kernel
theorem dX9_drawn_13 : decode cX9_drawn 13 = .ok (.invokestatic 147, 3) := by decide +kernel
theorem dX9_drawn_16 : decode cX9_drawn 16 = .ok (.ifCond .ne 6, 3) := by decide +kernel
theorem dX9_drawn_19 : decode cX9_drawn 19 = .ok (.ldc 99, 2) := by decide +kernel
theorem dX9_drawn_21 : decode cX9_drawn 21 = .ok (.ireturn, 1) := by decide +kernel
theorem dX9_drawn_22 : decode cX9_drawn 22 = .ok (.aload_n 0, 1) := by decide +kernel
theorem dX9_drawn_23 : decode cX9_drawn 23 = .ok (.getfield 19, 3) := by decide +kernel
theorem dX9_drawn_26 : decode cX9_drawn 26 = .ok (.aload_n 0, 1) := by decide +kernel
theorem dX9_drawn_27 : decode cX9_drawn 27 = .ok (.getfield 10, 3) := by decide +kernel
theorem dX9_drawn_30 : decode cX9_drawn 30 = .ok (.iload_n 1, 1) := by decide +kernel
theorem dX9_drawn_31 : decode cX9_drawn 31 = .ok (.invokevirtual 155, 3) := by decide +kernel
theorem dX9_drawn_34 : decode cX9_drawn 34 = .ok (.istore_n 3, 1) := by decide +kernel
theorem dX9_drawn_35 : decode cX9_drawn 35 = .ok (.iload_n 2, 1) := by decide +kernel
theorem dX9_drawn_36 : decode cX9_drawn 36 = .ok (.ifCond .ne 7, 3) := by decide +kernel
theorem dX9_drawn_39 : decode cX9_drawn 39 = .ok (.iload_n 3, 1) := by decide +kernel
theorem dX9_drawn_40 : decode cX9_drawn 40 = .ok (.goto 15, 3) := by decide +kernel
theorem dX9_drawn_43 : decode cX9_drawn 43 = .ok (.aload_n 0, 1) := by decide +kernel
theorem dX9_drawn_44 : decode cX9_drawn 44 = .ok (.getfield 10, 3) := by decide +kernel
theorem dX9_drawn_47 : decode cX9_drawn 47 = .ok (.iload_n 1, 1) := by decide +kernel
theorem dX9_drawn_48 : decode cX9_drawn 48 = .ok (.invokevirtual 158, 3) := by decide +kernel
theorem dX9_drawn_51 : decode cX9_drawn 51 = .ok (.iload_n 3, 1) := by decide +kernel
theorem dX9_drawn_52 : decode cX9_drawn 52 = .ok (.iconst (-1), 1) := by decide +kernel
theorem dX9_drawn_53 : decode cX9_drawn 53 = .ok (.ixor, 1) := by decide +kernel
theorem dX9_drawn_54 : decode cX9_drawn 54 = .ok (.iand, 1) := by decide +kernel
theorem dX9_drawn_55 : decode cX9_drawn 55 = .ok (.ireturn, 1) := by decide +kernel
set_option maxRecDepth 20000 in
theorem ggX9_pictureRow_X9_isPicture : GoodIn wsX9_pictureRow wsX9_isPicture := goodIn_r _ [7, 8, 9, 6, 10] (by decide +kernel) (by decide +kernel)
set_option maxRecDepth 20000 in
theorem gX9_pictureRow_X9_isPicture : GoodIn wsX9_pictureRow (va_wsS RX9 161 yX9_isPicture wsX9_isPicture) := goodIn_app (goodIn_of _ (by decide +kernel)) ggX9_pictureRow_X9_isPicture
set_option maxRecDepth 20000 in
theorem ggX9_pictureRow_X9_isWithin : GoodIn wsX9_pictureRow wsX9_isWithin := goodIn_r _ [10] (by decide +kernel) (by decide +kernel)
set_option maxRecDepth 20000 in
theorem gX9_pictureRow_X9_isWithin : GoodIn wsX9_pictureRow (va_wsS RX9 147 yX9_isWithin wsX9_isWithin) := goodIn_app (goodIn_of _ (by decide +kernel)) ggX9_pictureRow_X9_isWithin
set_option maxRecDepth 20000 in
theorem ggX9_pictureRow_X7_bits : GoodIn wsX9_pictureRow wsX7_bits := goodIn_r _ [15, 16, 27] (by decide +kernel) (by decide +kernel)
set_option maxRecDepth 20000 in
theorem gX9_pictureRow_X7_bits : GoodIn wsX9_pictureRow (wsV RX9 164 RX7 yX7_bits wsX7_bits) := goodIn_app (goodIn_of _ (by decide +kernel)) ggX9_pictureRow_X7_bits
theorem dX9_pictureRow_0 : decode cX9_pictureRow 0 = .ok (.iload_n 1, 1) := by decide +kernel
theorem dX9_pictureRow_1 : decode cX9_pictureRow 1 = .ok (.invokestatic 161, 3) := by decide +kernel
theorem dX9_pictureRow_4 : decode cX9_pictureRow 4 = .ok (.ifCond .ne 6, 3) := by decide +kernel
theorem dX9_pictureRow_7 : decode cX9_pictureRow 7 = .ok (.ldc 104, 2) := by decide +kernel
theorem dX9_pictureRow_9 : decode cX9_pictureRow 9 = .ok (.ireturn, 1) := by decide +kernel
theorem dX9_pictureRow_10 : decode cX9_pictureRow 10 = .ok (.iload_n 2, 1) := by decide +kernel
theorem dX9_pictureRow_11 : decode cX9_pictureRow 11 = .ok (.iconst 0, 1) := by decide +kernel
theorem dX9_pictureRow_12 : decode cX9_pictureRow 12 = .ok (.bipush 7, 2) := by decide +kernel
theorem dX9_pictureRow_14 : decode cX9_pictureRow 14 = .ok (.invokestatic 147, 3) := by decide +kernel
theorem dX9_pictureRow_17 : decode cX9_pictureRow 17 = .ok (.ifCond .ne 6, 3) := by decide +kernel
theorem dX9_pictureRow_20 : decode cX9_pictureRow 20 = .ok (.ldc 99, 2) := by decide +kernel
theorem dX9_pictureRow_22 : decode cX9_pictureRow 22 = .ok (.ireturn, 1) := by decide +kernel
theorem dX9_pictureRow_23 : decode cX9_pictureRow 23 = .ok (.aload_n 0, 1) := by decide +kernel
theorem dX9_pictureRow_24 : decode cX9_pictureRow 24 = .ok (.getfield 10, 3) := by decide +kernel
theorem dX9_pictureRow_27 : decode cX9_pictureRow 27 = .ok (.iload_n 1, 1) := by decide +kernel
theorem dX9_pictureRow_28 : decode cX9_pictureRow 28 = .ok (.iload_n 2, 1) := by decide +kernel
theorem dX9_pictureRow_29 : decode cX9_pictureRow 29 = .ok (.invokevirtual 164, 3) := by decide +kernel
theorem dX9_pictureRow_32 : decode cX9_pictureRow 32 = .ok (.ireturn, 1) := by decide +kernel
set_option maxRecDepth 20000 in
theorem ggX9_row_X9_isPicture : GoodIn wsX9_row wsX9_isPicture := goodIn_r _ [8, 9, 10, 7, 11] (by decide +kernel) (by decide +kernel)
set_option maxRecDepth 20000 in
theorem gX9_row_X9_isPicture : GoodIn wsX9_row (va_wsS RX9 161 yX9_isPicture wsX9_isPicture) := goodIn_app (goodIn_of _ (by decide +kernel)) ggX9_row_X9_isPicture
set_option maxRecDepth 20000 in
theorem ggX9_row_X9_isWithin : GoodIn wsX9_row wsX9_isWithin := goodIn_r _ [11] (by decide +kernel) (by decide +kernel)
set_option maxRecDepth 20000 in
theorem gX9_row_X9_isWithin : GoodIn wsX9_row (va_wsS RX9 147 yX9_isWithin wsX9_isWithin) := goodIn_app (goodIn_of _ (by decide +kernel)) ggX9_row_X9_isWithin
set_option maxRecDepth 20000 in
theorem ggX9_row_X7_bits : GoodIn wsX9_row wsX7_bits := goodIn_r _ [16, 17, 52] (by decide +kernel) (by decide +kernel)
set_option maxRecDepth 20000 in
theorem gX9_row_X7_bits : GoodIn wsX9_row (wsV RX9 164 RX7 yX7_bits wsX7_bits) := goodIn_app (goodIn_of _ (by decide +kernel)) ggX9_row_X7_bits
set_option maxRecDepth 20000 in
theorem ggX9_row_X3_remember : GoodIn wsX9_row wsX3_remember := goodIn_r _ [22, 23, 24, 25, 26, 27, 28, 29, 30, 31, 32, 15, 33, 17, 34, 35, 36, 37, 53, 54, 55, 52] (by decide +kernel) (by decide +kernel)
set_option maxRecDepth 20000 in
theorem gX9_row_X3_remember : GoodIn wsX9_row (wsV RX9 167 RX3 yX3_remember wsX3_remember) := goodIn_app (goodIn_of _ (by decide +kernel)) ggX9_row_X3_remember
set_option maxRecDepth 20000 in
theorem ggX9_row_X7_setBits : GoodIn wsX9_row wsX7_setBits := goodIn_r _ [41, 17, 52] (by decide +kernel) (by decide +kernel)
set_option maxRecDepth 20000 in
theorem gX9_row_X7_setBits : GoodIn wsX9_row (wsV RX9 171 RX7 yX7_setBits wsX7_setBits) := goodIn_app (goodIn_of _ (by decide +kernel)) ggX9_row_X7_setBits
theorem dX9_row_0 : decode cX9_row 0 = .ok (.iload_n 1, 1) := by decide +kernel
theorem dX9_row_1 : decode cX9_row 1 = .ok (.invokestatic 161, 3) := by decide +kernel
theorem dX9_row_4 : decode cX9_row 4 = .ok (.ifCond .ne 6, 3) := by decide +kernel
theorem dX9_row_7 : decode cX9_row 7 = .ok (.ldc 104, 2) := by decide +kernel
theorem dX9_row_9 : decode cX9_row 9 = .ok (.ireturn, 1) := by decide +kernel
theorem dX9_row_10 : decode cX9_row 10 = .ok (.iload_n 2, 1) := by decide +kernel
theorem dX9_row_11 : decode cX9_row 11 = .ok (.iconst 0, 1) := by decide +kernel
theorem dX9_row_12 : decode cX9_row 12 = .ok (.bipush 7, 2) := by decide +kernel
theorem dX9_row_14 : decode cX9_row 14 = .ok (.invokestatic 147, 3) := by decide +kernel
theorem dX9_row_17 : decode cX9_row 17 = .ok (.ifCond .eq 14, 3) := by decide +kernel
theorem dX9_row_20 : decode cX9_row 20 = .ok (.iload_n 3, 1) := by decide +kernel
theorem dX9_row_21 : decode cX9_row 21 = .ok (.iconst 0, 1) := by decide +kernel
theorem dX9_row_22 : decode cX9_row 22 = .ok (.sipush 255, 3) := by decide +kernel
theorem dX9_row_25 : decode cX9_row 25 = .ok (.invokestatic 147, 3) := by decide +kernel
theorem dX9_row_28 : decode cX9_row 28 = .ok (.ifCond .ne 6, 3) := by decide +kernel
theorem dX9_row_31 : decode cX9_row 31 = .ok (.ldc 99, 2) := by decide +kernel
theorem dX9_row_33 : decode cX9_row 33 = .ok (.ireturn, 1) := by decide +kernel
theorem dX9_row_34 : decode cX9_row 34 = .ok (.aload_n 0, 1) := by decide +kernel
theorem dX9_row_35 : decode cX9_row 35 = .ok (.getfield 10, 3) := by decide +kernel
theorem dX9_row_38 : decode cX9_row 38 = .ok (.iload_n 1, 1) := by decide +kernel
theorem dX9_row_39 : decode cX9_row 39 = .ok (.iload_n 2, 1) := by decide +kernel
theorem dX9_row_40 : decode cX9_row 40 = .ok (.invokevirtual 164, 3) := by decide +kernel
theorem dX9_row_43 : decode cX9_row 43 = .ok (.istore 4, 2) := by decide +kernel
theorem dX9_row_45 : decode cX9_row 45 = .ok (.aload_n 0, 1) := by decide +kernel
theorem dX9_row_46 : decode cX9_row 46 = .ok (.getfield 40, 3) := by decide +kernel
theorem dX9_row_49 : decode cX9_row 49 = .ok (.aload_n 0, 1) := by decide +kernel
theorem dX9_row_50 : decode cX9_row 50 = .ok (.getfield 10, 3) := by decide +kernel
theorem dX9_row_53 : decode cX9_row 53 = .ok (.invokevirtual 167, 3) := by decide +kernel
theorem dX9_row_56 : decode cX9_row 56 = .ok (.aload_n 0, 1) := by decide +kernel
theorem dX9_row_57 : decode cX9_row 57 = .ok (.getfield 10, 3) := by decide +kernel
theorem dX9_row_60 : decode cX9_row 60 = .ok (.iload_n 1, 1) := by decide +kernel
theorem dX9_row_61 : decode cX9_row 61 = .ok (.iload_n 2, 1) := by decide +kernel
theorem dX9_row_62 : decode cX9_row 62 = .ok (.iload_n 3, 1) := by decide +kernel
theorem dX9_row_63 : decode cX9_row 63 = .ok (.invokevirtual 171, 3) := by decide +kernel
theorem dX9_row_66 : decode cX9_row 66 = .ok (.iload 4, 2) := by decide +kernel
theorem dX9_row_68 : decode cX9_row 68 = .ok (.ireturn, 1) := by decide +kernel
set_option maxRecDepth 20000 in
theorem ggX9_put_X9_isPicture : GoodIn wsX9_put wsX9_isPicture := goodIn_r _ [9, 10, 11, 8, 12] (by decide +kernel) (by decide +kernel)
set_option maxRecDepth 20000 in
theorem gX9_put_X9_isPicture : GoodIn wsX9_put (va_wsS RX9 161 yX9_isPicture wsX9_isPicture) := goodIn_app (goodIn_of _ (by decide +kernel)) ggX9_put_X9_isPicture
set_option maxRecDepth 20000 in
theorem ggX9_put_X9_isPlace : GoodIn wsX9_put wsX9_isPlace := goodIn_r _ [15, 10, 11, 8, 12] (by decide +kernel) (by decide +kernel)
set_option maxRecDepth 20000 in
theorem gX9_put_X9_isPlace : GoodIn wsX9_put (va_wsS RX9 175 yX9_isPlace wsX9_isPlace) := goodIn_app (goodIn_of _ (by decide +kernel)) ggX9_put_X9_isPlace
set_option maxRecDepth 20000 in
theorem ggX9_put_X9_isManner : GoodIn wsX9_put wsX9_isManner := goodIn_r _ [18, 10, 11, 8, 12] (by decide +kernel) (by decide +kernel)
set_option maxRecDepth 20000 in
theorem gX9_put_X9_isManner : GoodIn wsX9_put (va_wsS RX9 178 yX9_isManner wsX9_isManner) := goodIn_app (goodIn_of _ (by decide +kernel)) ggX9_put_X9_isManner
set_option maxRecDepth 20000 in
theorem ggX9_put_X9_isWithin : GoodIn wsX9_put wsX9_isWithin := goodIn_r _ [12] (by decide +kernel) (by decide +kernel)
set_option maxRecDepth 20000 in
theorem gX9_put_X9_isWithin : GoodIn wsX9_put (va_wsS RX9 147 yX9_isWithin wsX9_isWithin) := goodIn_app (goodIn_of _ (by decide +kernel)) ggX9_put_X9_isWithin
set_option maxRecDepth 20000 in
theorem ggX9_put_X7_isFull : GoodIn wsX9_put wsX7_isFull := goodIn_r _ [23, 24, 63] (by decide +kernel) (by decide +kernel)
set_option maxRecDepth 20000 in
theorem gX9_put_X7_isFull : GoodIn wsX9_put (wsV RX9 181 RX7 yX7_isFull wsX7_isFull) := goodIn_app (goodIn_of _ (by decide +kernel)) ggX9_put_X7_isFull
set_option maxRecDepth 20000 in
theorem ggX9_put_X3_remember : GoodIn wsX9_put wsX3_remember := goodIn_r _ [29, 30, 31, 32, 33, 34, 35, 36, 37, 38, 39, 22, 40, 24, 41, 42, 43, 44, 64, 65, 66, 63] (by decide +kernel) (by decide +kernel)
set_option maxRecDepth 20000 in
theorem gX9_put_X3_remember : GoodIn wsX9_put (wsV RX9 167 RX3 yX3_remember wsX3_remember) := goodIn_app (goodIn_of _ (by decide +kernel)) ggX9_put_X3_remember
set_option maxRecDepth 20000 in
theorem ggX9_put_X7_add : GoodIn wsX9_put wsX7_add := goodIn_r _ [48, 24, 49, 50, 51, 22, 52, 63] (by decide +kernel) (by decide +kernel)
set_option maxRecDepth 20000 in
theorem gX9_put_X7_add : GoodIn wsX9_put (wsV RX9 186 RX7 yX7_add wsX7_add) := goodIn_app (goodIn_of _ (by decide +kernel)) ggX9_put_X7_add
theorem dX9_put_0 : decode cX9_put 0 = .ok (.iload_n 3, 1) := by decide +kernel
theorem dX9_put_1 : decode cX9_put 1 = .ok (.invokestatic 161, 3) := by decide +kernel
theorem dX9_put_4 : decode cX9_put 4 = .ok (.ifCond .ne 6, 3) := by decide +kernel
theorem dX9_put_7 : decode cX9_put 7 = .ok (.ldc 104, 2) := by decide +kernel
theorem dX9_put_9 : decode cX9_put 9 = .ok (.ireturn, 1) := by decide +kernel
theorem dX9_put_10 : decode cX9_put 10 = .ok (.iload_n 1, 1) := by decide +kernel
theorem dX9_put_11 : decode cX9_put 11 = .ok (.iload_n 2, 1) := by decide +kernel
theorem dX9_put_12 : decode cX9_put 12 = .ok (.invokestatic 175, 3) := by decide +kernel
theorem dX9_put_15 : decode cX9_put 15 = .ok (.ifCond .eq 24, 3) := by decide +kernel
theorem dX9_put_18 : decode cX9_put 18 = .ok (.iload 4, 2) := by decide +kernel
theorem dX9_put_20 : decode cX9_put 20 = .ok (.iload 5, 2) := by decide +kernel
theorem dX9_put_22 : decode cX9_put 22 = .ok (.invokestatic 178, 3) := by decide +kernel
theorem dX9_put_25 : decode cX9_put 25 = .ok (.ifCond .eq 14, 3) := by decide +kernel
theorem dX9_put_28 : decode cX9_put 28 = .ok (.iload 6, 2) := by decide +kernel
theorem dX9_put_30 : decode cX9_put 30 = .ok (.iconst 1, 1) := by decide +kernel
theorem dX9_put_31 : decode cX9_put 31 = .ok (.bipush 7, 2) := by decide +kernel
theorem dX9_put_33 : decode cX9_put 33 = .ok (.invokestatic 147, 3) := by decide +kernel
theorem dX9_put_36 : decode cX9_put 36 = .ok (.ifCond .ne 6, 3) := by decide +kernel
theorem dX9_put_39 : decode cX9_put 39 = .ok (.ldc 99, 2) := by decide +kernel
theorem dX9_put_41 : decode cX9_put 41 = .ok (.ireturn, 1) := by decide +kernel
theorem dX9_put_42 : decode cX9_put 42 = .ok (.aload_n 0, 1) := by decide +kernel
theorem dX9_put_43 : decode cX9_put 43 = .ok (.getfield 10, 3) := by decide +kernel
theorem dX9_put_46 : decode cX9_put 46 = .ok (.invokevirtual 181, 3) := by decide +kernel
theorem dX9_put_49 : decode cX9_put 49 = .ok (.ifCond .eq 6, 3) := by decide +kernel
theorem dX9_put_52 : decode cX9_put 52 = .ok (.ldc 185, 2) := by decide +kernel
theorem dX9_put_54 : decode cX9_put 54 = .ok (.ireturn, 1) := by decide +kernel
theorem dX9_put_55 : decode cX9_put 55 = .ok (.aload_n 0, 1) := by decide +kernel
theorem dX9_put_56 : decode cX9_put 56 = .ok (.getfield 40, 3) := by decide +kernel
theorem dX9_put_59 : decode cX9_put 59 = .ok (.aload_n 0, 1) := by decide +kernel
theorem dX9_put_60 : decode cX9_put 60 = .ok (.getfield 10, 3) := by decide +kernel
theorem dX9_put_63 : decode cX9_put 63 = .ok (.invokevirtual 167, 3) := by decide +kernel
theorem dX9_put_66 : decode cX9_put 66 = .ok (.aload_n 0, 1) := by decide +kernel
theorem dX9_put_67 : decode cX9_put 67 = .ok (.getfield 10, 3) := by decide +kernel
theorem dX9_put_70 : decode cX9_put 70 = .ok (.iload_n 1, 1) := by decide +kernel
theorem dX9_put_71 : decode cX9_put 71 = .ok (.iload_n 2, 1) := by decide +kernel
theorem dX9_put_72 : decode cX9_put 72 = .ok (.iload_n 3, 1) := by decide +kernel
theorem dX9_put_73 : decode cX9_put 73 = .ok (.iload 4, 2) := by decide +kernel
theorem dX9_put_75 : decode cX9_put 75 = .ok (.iload 5, 2) := by decide +kernel
theorem dX9_put_77 : decode cX9_put 77 = .ok (.iload 6, 2) := by decide +kernel
theorem dX9_put_79 : decode cX9_put 79 = .ok (.invokevirtual 186, 3) := by decide +kernel
theorem dX9_put_82 : decode cX9_put 82 = .ok (.ireturn, 1) := by decide +kernel
set_option maxRecDepth 20000 in
theorem ggX9_move_X9_isThing : GoodIn wsX9_move wsX9_isThing := goodIn_r _ [9, 4, 10, 11, 12, 13, 14, 15, 16, 17, 8, 18, 58, 59, 60, 61, 62, 63, 64, 65, 66, 67, 68] (by decide +kernel) (by decide +kernel)
set_option maxRecDepth 20000 in
theorem gX9_move_X9_isThing : GoodIn wsX9_move (wsV RX9 100 RX9 yX9_isThing wsX9_isThing) := goodIn_app (goodIn_of _ (by decide +kernel)) ggX9_move_X9_isThing
set_option maxRecDepth 20000 in
theorem ggX9_move_X9_isPlace : GoodIn wsX9_move wsX9_isPlace := goodIn_r _ [21, 16, 17, 8, 18] (by decide +kernel) (by decide +kernel)
set_option maxRecDepth 20000 in
theorem gX9_move_X9_isPlace : GoodIn wsX9_move (va_wsS RX9 175 yX9_isPlace wsX9_isPlace) := goodIn_app (goodIn_of _ (by decide +kernel)) ggX9_move_X9_isPlace
set_option maxRecDepth 20000 in
theorem ggX9_move_X3_remember : GoodIn wsX9_move wsX3_remember := goodIn_r _ [26, 27, 28, 29, 30, 31, 32, 33, 34, 35, 36, 13, 37, 15, 38, 39, 40, 41, 69, 70, 71, 68] (by decide +kernel) (by decide +kernel)
set_option maxRecDepth 20000 in
theorem gX9_move_X3_remember : GoodIn wsX9_move (wsV RX9 167 RX3 yX3_remember wsX3_remember) := goodIn_app (goodIn_of _ (by decide +kernel)) ggX9_move_X3_remember
set_option maxRecDepth 20000 in
theorem ggX9_move_X7_setField : GoodIn wsX9_move wsX7_setField := goodIn_r _ [45, 15, 68] (by decide +kernel) (by decide +kernel)
set_option maxRecDepth 20000 in
theorem gX9_move_X7_setField : GoodIn wsX9_move (wsV RX9 190 RX7 yX7_setField wsX7_setField) := goodIn_app (goodIn_of _ (by decide +kernel)) ggX9_move_X7_setField
set_option maxRecDepth 20000 in
theorem ggX9_move_X7_linesOf : GoodIn wsX9_move wsX7_linesOf := goodIn_r _ [49, 50, 51, 32, 52, 53, 31, 33, 54, 55, 56, 13, 57, 15, 68] (by decide +kernel) (by decide +kernel)
set_option maxRecDepth 20000 in
theorem gX9_move_X7_linesOf : GoodIn wsX9_move (wsV RX9 193 RX7 yX7_linesOf wsX7_linesOf) := goodIn_app (goodIn_of _ (by decide +kernel)) ggX9_move_X7_linesOf
theorem dX9_move_0 : decode cX9_move 0 = .ok (.aload_n 0, 1) := by decide +kernel
theorem dX9_move_1 : decode cX9_move 1 = .ok (.iload_n 1, 1) := by decide +kernel
theorem dX9_move_2 : decode cX9_move 2 = .ok (.invokevirtual 100, 3) := by decide +kernel
theorem dX9_move_5 : decode cX9_move 5 = .ok (.ifCond .ne 6, 3) := by decide +kernel
theorem dX9_move_8 : decode cX9_move 8 = .ok (.ldc 104, 2) := by decide +kernel
theorem dX9_move_10 : decode cX9_move 10 = .ok (.ireturn, 1) := by decide +kernel
theorem dX9_move_11 : decode cX9_move 11 = .ok (.iload_n 2, 1) := by decide +kernel
theorem dX9_move_12 : decode cX9_move 12 = .ok (.iload_n 3, 1) := by decide +kernel
theorem dX9_move_13 : decode cX9_move 13 = .ok (.invokestatic 175, 3) := by decide +kernel
theorem dX9_move_16 : decode cX9_move 16 = .ok (.ifCond .ne 6, 3) := by decide +kernel
theorem dX9_move_19 : decode cX9_move 19 = .ok (.ldc 99, 2) := by decide +kernel
theorem dX9_move_21 : decode cX9_move 21 = .ok (.ireturn, 1) := by decide +kernel
theorem dX9_move_22 : decode cX9_move 22 = .ok (.aload_n 0, 1) := by decide +kernel
theorem dX9_move_23 : decode cX9_move 23 = .ok (.getfield 40, 3) := by decide +kernel
theorem dX9_move_26 : decode cX9_move 26 = .ok (.aload_n 0, 1) := by decide +kernel
theorem dX9_move_27 : decode cX9_move 27 = .ok (.getfield 10, 3) := by decide +kernel
theorem dX9_move_30 : decode cX9_move 30 = .ok (.invokevirtual 167, 3) := by decide +kernel
theorem dX9_move_33 : decode cX9_move 33 = .ok (.aload_n 0, 1) := by decide +kernel
theorem dX9_move_34 : decode cX9_move 34 = .ok (.getfield 10, 3) := by decide +kernel
theorem dX9_move_37 : decode cX9_move 37 = .ok (.iload_n 1, 1) := by decide +kernel
theorem dX9_move_38 : decode cX9_move 38 = .ok (.iconst 0, 1) := by decide +kernel
theorem dX9_move_39 : decode cX9_move 39 = .ok (.iload_n 2, 1) := by decide +kernel
theorem dX9_move_40 : decode cX9_move 40 = .ok (.invokevirtual 190, 3) := by decide +kernel
theorem dX9_move_43 : decode cX9_move 43 = .ok (.aload_n 0, 1) := by decide +kernel
theorem dX9_move_44 : decode cX9_move 44 = .ok (.getfield 10, 3) := by decide +kernel
theorem dX9_move_47 : decode cX9_move 47 = .ok (.iload_n 1, 1) := by decide +kernel
theorem dX9_move_48 : decode cX9_move 48 = .ok (.iconst 1, 1) := by decide +kernel
theorem dX9_move_49 : decode cX9_move 49 = .ok (.iload_n 3, 1) := by decide +kernel
theorem dX9_move_50 : decode cX9_move 50 = .ok (.invokevirtual 190, 3) := by decide +kernel
theorem dX9_move_53 : decode cX9_move 53 = .ok (.aload_n 0, 1) := by decide +kernel
theorem dX9_move_54 : decode cX9_move 54 = .ok (.getfield 10, 3) := by decide +kernel
theorem dX9_move_57 : decode cX9_move 57 = .ok (.iload_n 1, 1) := by decide +kernel
theorem dX9_move_58 : decode cX9_move 58 = .ok (.invokevirtual 193, 3) := by decide +kernel
theorem dX9_move_61 : decode cX9_move 61 = .ok (.ireturn, 1) := by decide +kernel
set_option maxRecDepth 20000 in
theorem ggX9_turn_X9_isThing : GoodIn wsX9_turn wsX9_isThing := goodIn_r _ [10, 4, 11, 12, 13, 14, 15, 16, 17, 18, 9, 19, 133, 134, 135, 136, 137, 138, 139, 140, 141, 142, 143] (by decide +kernel) (by decide +kernel)
set_option maxRecDepth 20000 in
theorem gX9_turn_X9_isThing : GoodIn wsX9_turn (wsV RX9 100 RX9 yX9_isThing wsX9_isThing) := goodIn_app (goodIn_of _ (by decide +kernel)) ggX9_turn_X9_isThing
set_option maxRecDepth 20000 in
theorem ggX9_turn_X9_isManner : GoodIn wsX9_turn wsX9_isManner := goodIn_r _ [22, 17, 18, 9, 19] (by decide +kernel) (by decide +kernel)
set_option maxRecDepth 20000 in
theorem gX9_turn_X9_isManner : GoodIn wsX9_turn (va_wsS RX9 178 yX9_isManner wsX9_isManner) := goodIn_app (goodIn_of _ (by decide +kernel)) ggX9_turn_X9_isManner
set_option maxRecDepth 20000 in
theorem ggX9_turn_X3_remember : GoodIn wsX9_turn wsX3_remember := goodIn_r _ [27, 28, 29, 30, 31, 32, 33, 34, 35, 36, 37, 14, 38, 16, 39, 40, 41, 42, 144, 145, 146, 143] (by decide +kernel) (by decide +kernel)
set_option maxRecDepth 20000 in
theorem gX9_turn_X3_remember : GoodIn wsX9_turn (wsV RX9 167 RX3 yX3_remember wsX3_remember) := goodIn_app (goodIn_of _ (by decide +kernel)) ggX9_turn_X3_remember
set_option maxRecDepth 20000 in
theorem ggX9_turn_X7_setField : GoodIn wsX9_turn wsX7_setField := goodIn_r _ [46, 16, 143] (by decide +kernel) (by decide +kernel)
set_option maxRecDepth 20000 in
theorem gX9_turn_X7_setField : GoodIn wsX9_turn (wsV RX9 190 RX7 yX7_setField wsX7_setField) := goodIn_app (goodIn_of _ (by decide +kernel)) ggX9_turn_X7_setField
set_option maxRecDepth 20000 in
theorem ggX9_turn_X8_seenDots : GoodIn wsX9_turn wsX8_seenDots := goodIn_r _ [51, 52, 53, 54, 50, 55, 56, 57, 58, 59, 60, 61, 62, 12, 13, 14, 15, 16, 63, 64, 65, 66, 67, 68, 69, 70, 71, 72, 73, 74, 75, 76, 77, 78, 79, 80, 81, 82, 83, 84, 85, 86, 87, 88, 89, 90, 18, 9, 19, 91, 92, 93, 94, 95, 96, 97, 98, 99, 100, 101, 102, 103, 104, 105, 106, 107, 108, 109, 110, 111, 112, 113, 114, 115, 116, 117, 118, 119, 120, 121, 122, 123, 124, 125, 126, 127, 128, 129, 130, 131, 132, 147, 148, 149, 143, 150, 151, 152, 153] (by decide +kernel) (by decide +kernel)
set_option maxRecDepth 20000 in
theorem gX9_turn_X8_seenDots : GoodIn wsX9_turn (wsV RX9 109 RX8 yX8_seenDots wsX8_seenDots) := goodIn_app (goodIn_of _ (by decide +kernel)) ggX9_turn_X8_seenDots
theorem dX9_turn_0 : decode cX9_turn 0 = .ok (.aload_n 0, 1) := by decide +kernel
theorem dX9_turn_1 : decode cX9_turn 1 = .ok (.iload_n 1, 1) := by decide +kernel
theorem dX9_turn_2 : decode cX9_turn 2 = .ok (.invokevirtual 100, 3) := by decide +kernel
theorem dX9_turn_5 : decode cX9_turn 5 = .ok (.ifCond .ne 6, 3) := by decide +kernel
theorem dX9_turn_8 : decode cX9_turn 8 = .ok (.ldc 104, 2) := by decide +kernel
theorem dX9_turn_10 : decode cX9_turn 10 = .ok (.ireturn, 1) := by decide +kernel
theorem dX9_turn_11 : decode cX9_turn 11 = .ok (.iload_n 2, 1) := by decide +kernel
theorem dX9_turn_12 : decode cX9_turn 12 = .ok (.iload_n 3, 1) := by decide +kernel
theorem dX9_turn_13 : decode cX9_turn 13 = .ok (.invokestatic 178, 3) := by decide +kernel
theorem dX9_turn_16 : decode cX9_turn 16 = .ok (.ifCond .ne 6, 3) := by decide +kernel
theorem dX9_turn_19 : decode cX9_turn 19 = .ok (.ldc 99, 2) := by decide +kernel
theorem dX9_turn_21 : decode cX9_turn 21 = .ok (.ireturn, 1) := by decide +kernel
theorem dX9_turn_22 : decode cX9_turn 22 = .ok (.aload_n 0, 1) := by decide +kernel
theorem dX9_turn_23 : decode cX9_turn 23 = .ok (.getfield 40, 3) := by decide +kernel
theorem dX9_turn_26 : decode cX9_turn 26 = .ok (.aload_n 0, 1) := by decide +kernel
theorem dX9_turn_27 : decode cX9_turn 27 = .ok (.getfield 10, 3) := by decide +kernel
theorem dX9_turn_30 : decode cX9_turn 30 = .ok (.invokevirtual 167, 3) := by decide +kernel
theorem dX9_turn_33 : decode cX9_turn 33 = .ok (.aload_n 0, 1) := by decide +kernel
theorem dX9_turn_34 : decode cX9_turn 34 = .ok (.getfield 10, 3) := by decide +kernel
theorem dX9_turn_37 : decode cX9_turn 37 = .ok (.iload_n 1, 1) := by decide +kernel
theorem dX9_turn_38 : decode cX9_turn 38 = .ok (.iconst 3, 1) := by decide +kernel
theorem dX9_turn_39 : decode cX9_turn 39 = .ok (.iload_n 2, 1) := by decide +kernel
theorem dX9_turn_40 : decode cX9_turn 40 = .ok (.invokevirtual 190, 3) := by decide +kernel
theorem dX9_turn_43 : decode cX9_turn 43 = .ok (.aload_n 0, 1) := by decide +kernel
theorem dX9_turn_44 : decode cX9_turn 44 = .ok (.getfield 10, 3) := by decide +kernel
theorem dX9_turn_47 : decode cX9_turn 47 = .ok (.iload_n 1, 1) := by decide +kernel
theorem dX9_turn_48 : decode cX9_turn 48 = .ok (.iconst 4, 1) := by decide +kernel
theorem dX9_turn_49 : decode cX9_turn 49 = .ok (.iload_n 3, 1) := by decide +kernel
theorem dX9_turn_50 : decode cX9_turn 50 = .ok (.invokevirtual 190, 3) := by decide +kernel
theorem dX9_turn_53 : decode cX9_turn 53 = .ok (.aload_n 0, 1) := by decide +kernel
theorem dX9_turn_54 : decode cX9_turn 54 = .ok (.getfield 19, 3) := by decide +kernel
theorem dX9_turn_57 : decode cX9_turn 57 = .ok (.aload_n 0, 1) := by decide +kernel
theorem dX9_turn_58 : decode cX9_turn 58 = .ok (.getfield 10, 3) := by decide +kernel
theorem dX9_turn_61 : decode cX9_turn 61 = .ok (.iload_n 1, 1) := by decide +kernel
theorem dX9_turn_62 : decode cX9_turn 62 = .ok (.invokevirtual 109, 3) := by decide +kernel
theorem dX9_turn_65 : decode cX9_turn 65 = .ok (.ireturn, 1) := by decide +kernel
set_option maxRecDepth 20000 in
theorem ggX9_speed_X9_isThing : GoodIn wsX9_speed wsX9_isThing := goodIn_r _ [9, 4, 10, 11, 12, 13, 14, 15, 16, 17, 8, 18, 43, 44, 45, 46, 47, 48, 49, 50, 51, 52, 53] (by decide +kernel) (by decide +kernel)
set_option maxRecDepth 20000 in
theorem gX9_speed_X9_isThing : GoodIn wsX9_speed (wsV RX9 100 RX9 yX9_isThing wsX9_isThing) := goodIn_app (goodIn_of _ (by decide +kernel)) ggX9_speed_X9_isThing
set_option maxRecDepth 20000 in
theorem ggX9_speed_X9_isWithin : GoodIn wsX9_speed wsX9_isWithin := goodIn_r _ [18] (by decide +kernel) (by decide +kernel)
set_option maxRecDepth 20000 in
theorem gX9_speed_X9_isWithin : GoodIn wsX9_speed (va_wsS RX9 147 yX9_isWithin wsX9_isWithin) := goodIn_app (goodIn_of _ (by decide +kernel)) ggX9_speed_X9_isWithin
set_option maxRecDepth 20000 in
theorem ggX9_speed_X3_remember : GoodIn wsX9_speed wsX3_remember := goodIn_r _ [23, 24, 25, 26, 27, 28, 29, 30, 31, 32, 33, 13, 34, 15, 35, 36, 37, 38, 54, 55, 56, 53] (by decide +kernel) (by decide +kernel)
set_option maxRecDepth 20000 in
theorem gX9_speed_X3_remember : GoodIn wsX9_speed (wsV RX9 167 RX3 yX3_remember wsX3_remember) := goodIn_app (goodIn_of _ (by decide +kernel)) ggX9_speed_X3_remember
set_option maxRecDepth 20000 in
theorem ggX9_speed_X7_setField : GoodIn wsX9_speed wsX7_setField := goodIn_r _ [42, 15, 53] (by decide +kernel) (by decide +kernel)
set_option maxRecDepth 20000 in
theorem gX9_speed_X7_setField : GoodIn wsX9_speed (wsV RX9 190 RX7 yX7_setField wsX7_setField) := goodIn_app (goodIn_of _ (by decide +kernel)) ggX9_speed_X7_setField
theorem dX9_speed_0 : decode cX9_speed 0 = .ok (.aload_n 0, 1) := by decide +kernel
theorem dX9_speed_1 : decode cX9_speed 1 = .ok (.iload_n 1, 1) := by decide +kernel
theorem dX9_speed_2 : decode cX9_speed 2 = .ok (.invokevirtual 100, 3) := by decide +kernel
theorem dX9_speed_5 : decode cX9_speed 5 = .ok (.ifCond .ne 6, 3) := by decide +kernel
theorem dX9_speed_8 : decode cX9_speed 8 = .ok (.ldc 104, 2) := by decide +kernel
theorem dX9_speed_10 : decode cX9_speed 10 = .ok (.ireturn, 1) := by decide +kernel
theorem dX9_speed_11 : decode cX9_speed 11 = .ok (.iload_n 2, 1) := by decide +kernel
theorem dX9_speed_12 : decode cX9_speed 12 = .ok (.bipush (-8), 2) := by decide +kernel
theorem dX9_speed_14 : decode cX9_speed 14 = .ok (.bipush 8, 2) := by decide +kernel
theorem dX9_speed_16 : decode cX9_speed 16 = .ok (.invokestatic 147, 3) := by decide +kernel
theorem dX9_speed_19 : decode cX9_speed 19 = .ok (.ifCond .eq 14, 3) := by decide +kernel
theorem dX9_speed_22 : decode cX9_speed 22 = .ok (.iload_n 3, 1) := by decide +kernel
theorem dX9_speed_23 : decode cX9_speed 23 = .ok (.bipush (-8), 2) := by decide +kernel
theorem dX9_speed_25 : decode cX9_speed 25 = .ok (.bipush 8, 2) := by decide +kernel
theorem dX9_speed_27 : decode cX9_speed 27 = .ok (.invokestatic 147, 3) := by decide +kernel
theorem dX9_speed_30 : decode cX9_speed 30 = .ok (.ifCond .ne 6, 3) := by decide +kernel
theorem dX9_speed_33 : decode cX9_speed 33 = .ok (.ldc 99, 2) := by decide +kernel
theorem dX9_speed_35 : decode cX9_speed 35 = .ok (.ireturn, 1) := by decide +kernel
theorem dX9_speed_36 : decode cX9_speed 36 = .ok (.aload_n 0, 1) := by decide +kernel
theorem dX9_speed_37 : decode cX9_speed 37 = .ok (.getfield 40, 3) := by decide +kernel
theorem dX9_speed_40 : decode cX9_speed 40 = .ok (.aload_n 0, 1) := by decide +kernel
theorem dX9_speed_41 : decode cX9_speed 41 = .ok (.getfield 10, 3) := by decide +kernel
theorem dX9_speed_44 : decode cX9_speed 44 = .ok (.invokevirtual 167, 3) := by decide +kernel
theorem dX9_speed_47 : decode cX9_speed 47 = .ok (.aload_n 0, 1) := by decide +kernel
theorem dX9_speed_48 : decode cX9_speed 48 = .ok (.getfield 10, 3) := by decide +kernel
theorem dX9_speed_51 : decode cX9_speed 51 = .ok (.iload_n 1, 1) := by decide +kernel
theorem dX9_speed_52 : decode cX9_speed 52 = .ok (.bipush 6, 2) := by decide +kernel
theorem dX9_speed_54 : decode cX9_speed 54 = .ok (.iload_n 2, 1) := by decide +kernel
theorem dX9_speed_55 : decode cX9_speed 55 = .ok (.invokevirtual 190, 3) := by decide +kernel
theorem dX9_speed_58 : decode cX9_speed 58 = .ok (.aload_n 0, 1) := by decide +kernel
theorem dX9_speed_59 : decode cX9_speed 59 = .ok (.getfield 10, 3) := by decide +kernel
theorem dX9_speed_62 : decode cX9_speed 62 = .ok (.iload_n 1, 1) := by decide +kernel
theorem dX9_speed_63 : decode cX9_speed 63 = .ok (.bipush 7, 2) := by decide +kernel
theorem dX9_speed_65 : decode cX9_speed 65 = .ok (.iload_n 3, 1) := by decide +kernel
theorem dX9_speed_66 : decode cX9_speed 66 = .ok (.invokevirtual 190, 3) := by decide +kernel
theorem dX9_speed_69 : decode cX9_speed 69 = .ok (.iconst 1, 1) := by decide +kernel
theorem dX9_speed_70 : decode cX9_speed 70 = .ok (.ireturn, 1) := by decide +kernel
set_option maxRecDepth 20000 in
theorem ggX9_take_X9_isThing : GoodIn wsX9_take wsX9_isThing := goodIn_r _ [8, 3, 9, 10, 11, 12, 13, 14, 15, 16, 7, 17, 42, 43, 44, 45, 46, 47, 48, 49, 50, 51, 52] (by decide +kernel) (by decide +kernel)
set_option maxRecDepth 20000 in
theorem gX9_take_X9_isThing : GoodIn wsX9_take (wsV RX9 100 RX9 yX9_isThing wsX9_isThing) := goodIn_app (goodIn_of _ (by decide +kernel)) ggX9_take_X9_isThing
set_option maxRecDepth 20000 in
theorem ggX9_take_X3_remember : GoodIn wsX9_take wsX3_remember := goodIn_r _ [22, 23, 24, 25, 26, 27, 28, 29, 30, 31, 32, 12, 33, 14, 34, 35, 36, 37, 53, 54, 55, 52] (by decide +kernel) (by decide +kernel)
set_option maxRecDepth 20000 in
theorem gX9_take_X3_remember : GoodIn wsX9_take (wsV RX9 167 RX3 yX3_remember wsX3_remember) := goodIn_app (goodIn_of _ (by decide +kernel)) ggX9_take_X3_remember
set_option maxRecDepth 20000 in
theorem ggX9_take_X7_removeThing : GoodIn wsX9_take wsX7_removeThing := goodIn_r _ [41, 14, 34, 35, 36, 37, 52] (by decide +kernel) (by decide +kernel)
set_option maxRecDepth 20000 in
theorem gX9_take_X7_removeThing : GoodIn wsX9_take (wsV RX9 196 RX7 yX7_removeThing wsX7_removeThing) := goodIn_app (goodIn_of _ (by decide +kernel)) ggX9_take_X7_removeThing
set_option maxRecDepth 20000 in
theorem ggX9_take_X7_cell : GoodIn wsX9_take wsX7_cell := goodIn_r _ [13, 14, 52] (by decide +kernel) (by decide +kernel)
set_option maxRecDepth 20000 in
theorem gX9_take_X7_cell : GoodIn wsX9_take (wsV RX9 71 RX7 yX7_cell wsX7_cell) := goodIn_app (goodIn_of _ (by decide +kernel)) ggX9_take_X7_cell
theorem dX9_take_0 : decode cX9_take 0 = .ok (.aload_n 0, 1) := by decide +kernel
theorem dX9_take_1 : decode cX9_take 1 = .ok (.iload_n 1, 1) := by decide +kernel
theorem dX9_take_2 : decode cX9_take 2 = .ok (.invokevirtual 100, 3) := by decide +kernel
theorem dX9_take_5 : decode cX9_take 5 = .ok (.ifCond .ne 6, 3) := by decide +kernel
theorem dX9_take_8 : decode cX9_take 8 = .ok (.ldc 104, 2) := by decide +kernel
theorem dX9_take_10 : decode cX9_take 10 = .ok (.ireturn, 1) := by decide +kernel
theorem dX9_take_11 : decode cX9_take 11 = .ok (.aload_n 0, 1) := by decide +kernel
theorem dX9_take_12 : decode cX9_take 12 = .ok (.getfield 40, 3) := by decide +kernel
theorem dX9_take_15 : decode cX9_take 15 = .ok (.aload_n 0, 1) := by decide +kernel
theorem dX9_take_16 : decode cX9_take 16 = .ok (.getfield 10, 3) := by decide +kernel
theorem dX9_take_19 : decode cX9_take 19 = .ok (.invokevirtual 167, 3) := by decide +kernel
theorem dX9_take_22 : decode cX9_take 22 = .ok (.aload_n 0, 1) := by decide +kernel
theorem dX9_take_23 : decode cX9_take 23 = .ok (.getfield 10, 3) := by decide +kernel
theorem dX9_take_26 : decode cX9_take 26 = .ok (.iload_n 1, 1) := by decide +kernel
theorem dX9_take_27 : decode cX9_take 27 = .ok (.invokevirtual 196, 3) := by decide +kernel
theorem dX9_take_30 : decode cX9_take 30 = .ok (.aload_n 0, 1) := by decide +kernel
theorem dX9_take_31 : decode cX9_take 31 = .ok (.getfield 10, 3) := by decide +kernel
theorem dX9_take_34 : decode cX9_take 34 = .ok (.iconst 0, 1) := by decide +kernel
theorem dX9_take_35 : decode cX9_take 35 = .ok (.invokevirtual 71, 3) := by decide +kernel
theorem dX9_take_38 : decode cX9_take 38 = .ok (.ireturn, 1) := by decide +kernel
set_option maxRecDepth 20000 in
theorem ggX9_limit_X9_isWithin : GoodIn wsX9_limit wsX9_isWithin := goodIn_r _ [7] (by decide +kernel) (by decide +kernel)
set_option maxRecDepth 20000 in
theorem gX9_limit_X9_isWithin : GoodIn wsX9_limit (va_wsS RX9 147 yX9_isWithin wsX9_isWithin) := goodIn_app (goodIn_of _ (by decide +kernel)) ggX9_limit_X9_isWithin
set_option maxRecDepth 20000 in
theorem ggX9_limit_X3_remember : GoodIn wsX9_limit wsX3_remember := goodIn_r _ [12, 13, 14, 15, 16, 17, 18, 19, 20, 21, 22, 23, 24, 25, 26, 27, 28, 29, 136, 137, 138, 139] (by decide +kernel) (by decide +kernel)
set_option maxRecDepth 20000 in
theorem gX9_limit_X3_remember : GoodIn wsX9_limit (wsV RX9 167 RX3 yX3_remember wsX3_remember) := goodIn_app (goodIn_of _ (by decide +kernel)) ggX9_limit_X3_remember
set_option maxRecDepth 20000 in
theorem ggX9_limit_X7_setCell : GoodIn wsX9_limit wsX7_setCell := goodIn_r _ [33, 25, 139] (by decide +kernel) (by decide +kernel)
set_option maxRecDepth 20000 in
theorem gX9_limit_X7_setCell : GoodIn wsX9_limit (wsV RX9 200 RX7 yX7_setCell wsX7_setCell) := goodIn_app (goodIn_of _ (by decide +kernel)) ggX9_limit_X7_setCell
set_option maxRecDepth 20000 in
theorem ggX9_limit_X9_missingNow : GoodIn wsX9_limit wsX9_missingNow := goodIn_r _ [37, 38, 3, 39, 40, 41, 23, 42, 25, 43, 44, 45, 46, 47, 48, 49, 50, 51, 52, 53, 54, 55, 56, 57, 58, 59, 60, 61, 62, 63, 64, 65, 66, 67, 68, 69, 70, 71, 72, 73, 74, 75, 76, 77, 78, 5, 6, 7, 79, 80, 81, 82, 83, 84, 85, 86, 87, 88, 89, 90, 91, 92, 93, 94, 95, 96, 97, 98, 99, 100, 101, 102, 103, 104, 105, 106, 107, 108, 109, 110, 111, 112, 113, 114, 115, 116, 117, 118, 119, 120, 121, 122, 123, 124, 125, 126, 127, 128, 129, 130, 131, 132, 133, 134, 135, 139, 140, 141, 142, 143, 144, 145, 146] (by decide +kernel) (by decide +kernel)
set_option maxRecDepth 20000 in
theorem gX9_limit_X9_missingNow : GoodIn wsX9_limit (wsV RX9 75 RX9 yX9_missingNow wsX9_missingNow) := goodIn_app (goodIn_of _ (by decide +kernel)) ggX9_limit_X9_missingNow
theorem dX9_limit_0 : decode cX9_limit 0 = .ok (.iload_n 1, 1) := by decide +kernel
theorem dX9_limit_1 : decode cX9_limit 1 = .ok (.iconst 1, 1) := by decide +kernel
theorem dX9_limit_2 : decode cX9_limit 2 = .ok (.bipush 8, 2) := by decide +kernel
theorem dX9_limit_4 : decode cX9_limit 4 = .ok (.invokestatic 147, 3) := by decide +kernel
theorem dX9_limit_7 : decode cX9_limit 7 = .ok (.ifCond .ne 6, 3) := by decide +kernel
theorem dX9_limit_10 : decode cX9_limit 10 = .ok (.ldc 99, 2) := by decide +kernel
theorem dX9_limit_12 : decode cX9_limit 12 = .ok (.ireturn, 1) := by decide +kernel
theorem dX9_limit_13 : decode cX9_limit 13 = .ok (.aload_n 0, 1) := by decide +kernel
theorem dX9_limit_14 : decode cX9_limit 14 = .ok (.getfield 40, 3) := by decide +kernel
theorem dX9_limit_17 : decode cX9_limit 17 = .ok (.aload_n 0, 1) := by decide +kernel
theorem dX9_limit_18 : decode cX9_limit 18 = .ok (.getfield 10, 3) := by decide +kernel
theorem dX9_limit_21 : decode cX9_limit 21 = .ok (.invokevirtual 167, 3) := by decide +kernel
theorem dX9_limit_24 : decode cX9_limit 24 = .ok (.aload_n 0, 1) := by decide +kernel
theorem dX9_limit_25 : decode cX9_limit 25 = .ok (.getfield 10, 3) := by decide +kernel
theorem dX9_limit_28 : decode cX9_limit 28 = .ok (.iconst 1, 1) := by decide +kernel
theorem dX9_limit_29 : decode cX9_limit 29 = .ok (.iload_n 1, 1) := by decide +kernel
theorem dX9_limit_30 : decode cX9_limit 30 = .ok (.invokevirtual 200, 3) := by decide +kernel
theorem dX9_limit_33 : decode cX9_limit 33 = .ok (.aload_n 0, 1) := by decide +kernel
theorem dX9_limit_34 : decode cX9_limit 34 = .ok (.invokevirtual 75, 3) := by decide +kernel
theorem dX9_limit_37 : decode cX9_limit 37 = .ok (.ireturn, 1) := by decide +kernel
set_option maxRecDepth 20000 in
theorem ggX9_rule_X9_isWithin : GoodIn wsX9_rule wsX9_isWithin := goodIn_r _ [7] (by decide +kernel) (by decide +kernel)
set_option maxRecDepth 20000 in
theorem gX9_rule_X9_isWithin : GoodIn wsX9_rule (va_wsS RX9 147 yX9_isWithin wsX9_isWithin) := goodIn_app (goodIn_of _ (by decide +kernel)) ggX9_rule_X9_isWithin
set_option maxRecDepth 20000 in
theorem ggX9_rule_X3_remember : GoodIn wsX9_rule wsX3_remember := goodIn_r _ [12, 13, 14, 15, 16, 17, 18, 19, 20, 21, 22, 23, 24, 25, 26, 27, 28, 29, 136, 137, 138, 139] (by decide +kernel) (by decide +kernel)
set_option maxRecDepth 20000 in
theorem gX9_rule_X3_remember : GoodIn wsX9_rule (wsV RX9 167 RX3 yX3_remember wsX3_remember) := goodIn_app (goodIn_of _ (by decide +kernel)) ggX9_rule_X3_remember
set_option maxRecDepth 20000 in
theorem ggX9_rule_X7_setCell : GoodIn wsX9_rule wsX7_setCell := goodIn_r _ [33, 25, 139] (by decide +kernel) (by decide +kernel)
set_option maxRecDepth 20000 in
theorem gX9_rule_X7_setCell : GoodIn wsX9_rule (wsV RX9 200 RX7 yX7_setCell wsX7_setCell) := goodIn_app (goodIn_of _ (by decide +kernel)) ggX9_rule_X7_setCell
set_option maxRecDepth 20000 in
theorem ggX9_rule_X9_missingNow : GoodIn wsX9_rule wsX9_missingNow := goodIn_r _ [37, 38, 3, 39, 40, 41, 23, 42, 25, 43, 44, 45, 46, 47, 48, 49, 50, 51, 52, 53, 54, 55, 56, 57, 58, 59, 60, 61, 62, 63, 64, 65, 66, 67, 68, 69, 70, 71, 72, 73, 74, 75, 76, 77, 78, 5, 6, 7, 79, 80, 81, 82, 83, 84, 85, 86, 87, 88, 89, 90, 91, 92, 93, 94, 95, 96, 97, 98, 99, 100, 101, 102, 103, 104, 105, 106, 107, 108, 109, 110, 111, 112, 113, 114, 115, 116, 117, 118, 119, 120, 121, 122, 123, 124, 125, 126, 127, 128, 129, 130, 131, 132, 133, 134, 135, 139, 140, 141, 142, 143, 144, 145, 146] (by decide +kernel) (by decide +kernel)
set_option maxRecDepth 20000 in
theorem gX9_rule_X9_missingNow : GoodIn wsX9_rule (wsV RX9 75 RX9 yX9_missingNow wsX9_missingNow) := goodIn_app (goodIn_of _ (by decide +kernel)) ggX9_rule_X9_missingNow
theorem dX9_rule_0 : decode cX9_rule 0 = .ok (.iload_n 1, 1) := by decide +kernel
theorem dX9_rule_1 : decode cX9_rule 1 = .ok (.iconst 0, 1) := by decide +kernel
theorem dX9_rule_2 : decode cX9_rule 2 = .ok (.iconst 3, 1) := by decide +kernel
theorem dX9_rule_3 : decode cX9_rule 3 = .ok (.invokestatic 147, 3) := by decide +kernel
theorem dX9_rule_6 : decode cX9_rule 6 = .ok (.ifCond .ne 6, 3) := by decide +kernel
theorem dX9_rule_9 : decode cX9_rule 9 = .ok (.ldc 99, 2) := by decide +kernel
theorem dX9_rule_11 : decode cX9_rule 11 = .ok (.ireturn, 1) := by decide +kernel
theorem dX9_rule_12 : decode cX9_rule 12 = .ok (.aload_n 0, 1) := by decide +kernel
theorem dX9_rule_13 : decode cX9_rule 13 = .ok (.getfield 40, 3) := by decide +kernel
theorem dX9_rule_16 : decode cX9_rule 16 = .ok (.aload_n 0, 1) := by decide +kernel
theorem dX9_rule_17 : decode cX9_rule 17 = .ok (.getfield 10, 3) := by decide +kernel
theorem dX9_rule_20 : decode cX9_rule 20 = .ok (.invokevirtual 167, 3) := by decide +kernel
theorem dX9_rule_23 : decode cX9_rule 23 = .ok (.aload_n 0, 1) := by decide +kernel
theorem dX9_rule_24 : decode cX9_rule 24 = .ok (.getfield 10, 3) := by decide +kernel
theorem dX9_rule_27 : decode cX9_rule 27 = .ok (.iconst 2, 1) := by decide +kernel
theorem dX9_rule_28 : decode cX9_rule 28 = .ok (.iload_n 1, 1) := by decide +kernel
theorem dX9_rule_29 : decode cX9_rule 29 = .ok (.invokevirtual 200, 3) := by decide +kernel
theorem dX9_rule_32 : decode cX9_rule 32 = .ok (.aload_n 0, 1) := by decide +kernel
theorem dX9_rule_33 : decode cX9_rule 33 = .ok (.invokevirtual 75, 3) := by decide +kernel
theorem dX9_rule_36 : decode cX9_rule 36 = .ok (.ireturn, 1) := by decide +kernel
set_option maxRecDepth 20000 in
theorem ggX9_frame_X9_isWithin : GoodIn wsX9_frame wsX9_isWithin := goodIn_r _ [7] (by decide +kernel) (by decide +kernel)
set_option maxRecDepth 20000 in
theorem gX9_frame_X9_isWithin : GoodIn wsX9_frame (va_wsS RX9 147 yX9_isWithin wsX9_isWithin) := goodIn_app (goodIn_of _ (by decide +kernel)) ggX9_frame_X9_isWithin
set_option maxRecDepth 20000 in
theorem ggX9_frame_X3_remember : GoodIn wsX9_frame wsX3_remember := goodIn_r _ [12, 13, 14, 15, 16, 17, 18, 19, 20, 21, 22, 23, 24, 25, 26, 27, 28, 29, 63, 64, 65, 66] (by decide +kernel) (by decide +kernel)
set_option maxRecDepth 20000 in
theorem gX9_frame_X3_remember : GoodIn wsX9_frame (wsV RX9 167 RX3 yX3_remember wsX3_remember) := goodIn_app (goodIn_of _ (by decide +kernel)) ggX9_frame_X3_remember
set_option maxRecDepth 20000 in
theorem ggX9_frame_X7_goNextFrame : GoodIn wsX9_frame wsX7_goNextFrame := goodIn_r _ [33, 25, 34, 35, 36, 23, 37, 38, 39, 40, 41, 42, 43, 44, 45, 46, 47, 48, 66] (by decide +kernel) (by decide +kernel)
set_option maxRecDepth 20000 in
theorem gX9_frame_X7_goNextFrame : GoodIn wsX9_frame (wsV RX9 204 RX7 yX7_goNextFrame wsX7_goNextFrame) := goodIn_app (goodIn_of _ (by decide +kernel)) ggX9_frame_X7_goNextFrame
set_option maxRecDepth 20000 in
theorem ggX9_frame_X7_cell : GoodIn wsX9_frame wsX7_cell := goodIn_r _ [52, 25, 66] (by decide +kernel) (by decide +kernel)
set_option maxRecDepth 20000 in
theorem gX9_frame_X7_cell : GoodIn wsX9_frame (wsV RX9 71 RX7 yX7_cell wsX7_cell) := goodIn_app (goodIn_of _ (by decide +kernel)) ggX9_frame_X7_cell
theorem dX9_frame_0 : decode cX9_frame 0 = .ok (.iload_n 1, 1) := by decide +kernel
theorem dX9_frame_1 : decode cX9_frame 1 = .ok (.iconst 1, 1) := by decide +kernel
theorem dX9_frame_2 : decode cX9_frame 2 = .ok (.bipush 40, 2) := by decide +kernel
theorem dX9_frame_4 : decode cX9_frame 4 = .ok (.invokestatic 147, 3) := by decide +kernel
theorem dX9_frame_7 : decode cX9_frame 7 = .ok (.ifCond .ne 6, 3) := by decide +kernel
theorem dX9_frame_10 : decode cX9_frame 10 = .ok (.ldc 99, 2) := by decide +kernel
theorem dX9_frame_12 : decode cX9_frame 12 = .ok (.ireturn, 1) := by decide +kernel
theorem dX9_frame_13 : decode cX9_frame 13 = .ok (.aload_n 0, 1) := by decide +kernel
theorem dX9_frame_14 : decode cX9_frame 14 = .ok (.getfield 40, 3) := by decide +kernel
theorem dX9_frame_17 : decode cX9_frame 17 = .ok (.aload_n 0, 1) := by decide +kernel
theorem dX9_frame_18 : decode cX9_frame 18 = .ok (.getfield 10, 3) := by decide +kernel
theorem dX9_frame_21 : decode cX9_frame 21 = .ok (.invokevirtual 167, 3) := by decide +kernel
theorem dX9_frame_24 : decode cX9_frame 24 = .ok (.iconst 0, 1) := by decide +kernel
theorem dX9_frame_25 : decode cX9_frame 25 = .ok (.istore_n 2, 1) := by decide +kernel
theorem dX9_frame_26 : decode cX9_frame 26 = .ok (.iload_n 2, 1) := by decide +kernel
theorem dX9_frame_27 : decode cX9_frame 27 = .ok (.iload_n 1, 1) := by decide +kernel
theorem dX9_frame_28 : decode cX9_frame 28 = .ok (.if_icmp .ge 16, 3) := by decide +kernel
theorem dX9_frame_31 : decode cX9_frame 31 = .ok (.aload_n 0, 1) := by decide +kernel
theorem dX9_frame_32 : decode cX9_frame 32 = .ok (.getfield 10, 3) := by decide +kernel
theorem dX9_frame_35 : decode cX9_frame 35 = .ok (.invokevirtual 204, 3) := by decide +kernel
theorem dX9_frame_38 : decode cX9_frame 38 = .ok (.iinc 2 1, 3) := by decide +kernel
theorem dX9_frame_41 : decode cX9_frame 41 = .ok (.goto (-15), 3) := by decide +kernel
theorem dX9_frame_44 : decode cX9_frame 44 = .ok (.aload_n 0, 1) := by decide +kernel
theorem dX9_frame_45 : decode cX9_frame 45 = .ok (.getfield 10, 3) := by decide +kernel
theorem dX9_frame_48 : decode cX9_frame 48 = .ok (.iconst 3, 1) := by decide +kernel
theorem dX9_frame_49 : decode cX9_frame 49 = .ok (.invokevirtual 71, 3) := by decide +kernel
theorem dX9_frame_52 : decode cX9_frame 52 = .ok (.ireturn, 1) := by decide +kernel
set_option maxRecDepth 20000 in
theorem ggX9_drift_X9_isWithin : GoodIn wsX9_drift wsX9_isWithin := goodIn_r _ [8] (by decide +kernel) (by decide +kernel)
set_option maxRecDepth 20000 in
theorem gX9_drift_X9_isWithin : GoodIn wsX9_drift (va_wsS RX9 147 yX9_isWithin wsX9_isWithin) := goodIn_app (goodIn_of _ (by decide +kernel)) ggX9_drift_X9_isWithin
set_option maxRecDepth 20000 in
theorem ggX9_drift_X7_isFull : GoodIn wsX9_drift wsX7_isFull := goodIn_r _ [13, 14, 71] (by decide +kernel) (by decide +kernel)
set_option maxRecDepth 20000 in
theorem gX9_drift_X7_isFull : GoodIn wsX9_drift (wsV RX9 181 RX7 yX7_isFull wsX7_isFull) := goodIn_app (goodIn_of _ (by decide +kernel)) ggX9_drift_X7_isFull
set_option maxRecDepth 20000 in
theorem ggX9_drift_X3_remember : GoodIn wsX9_drift wsX3_remember := goodIn_r _ [19, 20, 21, 22, 23, 24, 25, 26, 27, 28, 29, 12, 30, 14, 31, 32, 33, 34, 72, 73, 74, 71] (by decide +kernel) (by decide +kernel)
set_option maxRecDepth 20000 in
theorem gX9_drift_X3_remember : GoodIn wsX9_drift (wsV RX9 167 RX3 yX3_remember wsX3_remember) := goodIn_app (goodIn_of _ (by decide +kernel)) ggX9_drift_X3_remember
set_option maxRecDepth 20000 in
theorem ggX9_drift_X1_addThing : GoodIn wsX9_drift wsX1_addThing := goodIn_r _ [39, 40, 41, 42, 38, 43, 44, 45, 46, 47, 48, 49, 50, 51, 12, 52, 14, 53, 54, 55, 56, 75, 71] (by decide +kernel) (by decide +kernel)
set_option maxRecDepth 20000 in
theorem gX9_drift_X1_addThing : GoodIn wsX9_drift (wsV RX9 207 RX1 yX1_addThing wsX1_addThing) := goodIn_app (goodIn_of _ (by decide +kernel)) ggX9_drift_X1_addThing
set_option maxRecDepth 20000 in
theorem ggX9_drift_X7_cell : GoodIn wsX9_drift wsX7_cell := goodIn_r _ [60, 14, 71] (by decide +kernel) (by decide +kernel)
set_option maxRecDepth 20000 in
theorem gX9_drift_X7_cell : GoodIn wsX9_drift (wsV RX9 71 RX7 yX7_cell wsX7_cell) := goodIn_app (goodIn_of _ (by decide +kernel)) ggX9_drift_X7_cell
theorem dX9_drift_0 : decode cX9_drift 0 = .ok (.iload_n 1, 1) := by decide +kernel
theorem dX9_drift_1 : decode cX9_drift 1 = .ok (.iconst 1, 1) := by decide +kernel
theorem dX9_drift_2 : decode cX9_drift 2 = .ok (.bipush 12, 2) := by decide +kernel
theorem dX9_drift_4 : decode cX9_drift 4 = .ok (.invokestatic 147, 3) := by decide +kernel
theorem dX9_drift_7 : decode cX9_drift 7 = .ok (.ifCond .ne 6, 3) := by decide +kernel
theorem dX9_drift_10 : decode cX9_drift 10 = .ok (.ldc 99, 2) := by decide +kernel
theorem dX9_drift_12 : decode cX9_drift 12 = .ok (.ireturn, 1) := by decide +kernel
theorem dX9_drift_13 : decode cX9_drift 13 = .ok (.iconst 0, 1) := by decide +kernel
theorem dX9_drift_14 : decode cX9_drift 14 = .ok (.istore_n 2, 1) := by decide +kernel
theorem dX9_drift_15 : decode cX9_drift 15 = .ok (.iload_n 2, 1) := by decide +kernel
theorem dX9_drift_16 : decode cX9_drift 16 = .ok (.iload_n 1, 1) := by decide +kernel
theorem dX9_drift_17 : decode cX9_drift 17 = .ok (.if_icmp .ge 41, 3) := by decide +kernel
theorem dX9_drift_20 : decode cX9_drift 20 = .ok (.aload_n 0, 1) := by decide +kernel
theorem dX9_drift_21 : decode cX9_drift 21 = .ok (.getfield 10, 3) := by decide +kernel
theorem dX9_drift_24 : decode cX9_drift 24 = .ok (.invokevirtual 181, 3) := by decide +kernel
theorem dX9_drift_27 : decode cX9_drift 27 = .ok (.ifCond .ne 31, 3) := by decide +kernel
theorem dX9_drift_30 : decode cX9_drift 30 = .ok (.aload_n 0, 1) := by decide +kernel
theorem dX9_drift_31 : decode cX9_drift 31 = .ok (.getfield 40, 3) := by decide +kernel
theorem dX9_drift_34 : decode cX9_drift 34 = .ok (.aload_n 0, 1) := by decide +kernel
theorem dX9_drift_35 : decode cX9_drift 35 = .ok (.getfield 10, 3) := by decide +kernel
theorem dX9_drift_38 : decode cX9_drift 38 = .ok (.invokevirtual 167, 3) := by decide +kernel
theorem dX9_drift_41 : decode cX9_drift 41 = .ok (.aload_n 0, 1) := by decide +kernel
theorem dX9_drift_42 : decode cX9_drift 42 = .ok (.getfield 54, 3) := by decide +kernel
theorem dX9_drift_45 : decode cX9_drift 45 = .ok (.aload_n 0, 1) := by decide +kernel
theorem dX9_drift_46 : decode cX9_drift 46 = .ok (.getfield 10, 3) := by decide +kernel
theorem dX9_drift_49 : decode cX9_drift 49 = .ok (.invokevirtual 207, 3) := by decide +kernel
theorem dX9_drift_52 : decode cX9_drift 52 = .ok (.iinc 2 1, 3) := by decide +kernel
theorem dX9_drift_55 : decode cX9_drift 55 = .ok (.goto (-40), 3) := by decide +kernel
theorem dX9_drift_58 : decode cX9_drift 58 = .ok (.aload_n 0, 1) := by decide +kernel
theorem dX9_drift_59 : decode cX9_drift 59 = .ok (.getfield 10, 3) := by decide +kernel
theorem dX9_drift_62 : decode cX9_drift 62 = .ok (.iconst 0, 1) := by decide +kernel
theorem dX9_drift_63 : decode cX9_drift 63 = .ok (.invokevirtual 71, 3) := by decide +kernel
theorem dX9_drift_66 : decode cX9_drift 66 = .ok (.ireturn, 1) := by decide +kernel
set_option maxRecDepth 20000 in
theorem ggX9_undo_X9_isWithin : GoodIn wsX9_undo wsX9_isWithin := goodIn_r _ [8] (by decide +kernel) (by decide +kernel)
set_option maxRecDepth 20000 in
theorem gX9_undo_X9_isWithin : GoodIn wsX9_undo (va_wsS RX9 147 yX9_isWithin wsX9_isWithin) := goodIn_app (goodIn_of _ (by decide +kernel)) ggX9_undo_X9_isWithin
set_option maxRecDepth 20000 in
theorem ggX9_undo_X3_size : GoodIn wsX9_undo wsX3_size := goodIn_r _ [13, 14, 49, 50, 51] (by decide +kernel) (by decide +kernel)
set_option maxRecDepth 20000 in
theorem gX9_undo_X3_size : GoodIn wsX9_undo (wsV RX9 98 RX3 yX3_size wsX3_size) := goodIn_app (goodIn_of _ (by decide +kernel)) ggX9_undo_X3_size
set_option maxRecDepth 20000 in
theorem ggX9_undo_X3_bringBack : GoodIn wsX9_undo wsX3_bringBack := goodIn_r _ [18, 19, 14, 20, 21, 22, 23, 24, 25, 26, 27, 28, 29, 30, 31, 32, 33, 34, 49, 50, 51, 52] (by decide +kernel) (by decide +kernel)
set_option maxRecDepth 20000 in
theorem gX9_undo_X3_bringBack : GoodIn wsX9_undo (wsV RX9 211 RX3 yX3_bringBack wsX3_bringBack) := goodIn_app (goodIn_of _ (by decide +kernel)) ggX9_undo_X3_bringBack
set_option maxRecDepth 20000 in
theorem ggX9_undo_X7_cell : GoodIn wsX9_undo wsX7_cell := goodIn_r _ [38, 30, 52] (by decide +kernel) (by decide +kernel)
set_option maxRecDepth 20000 in
theorem gX9_undo_X7_cell : GoodIn wsX9_undo (wsV RX9 71 RX7 yX7_cell wsX7_cell) := goodIn_app (goodIn_of _ (by decide +kernel)) ggX9_undo_X7_cell
theorem dX9_undo_0 : decode cX9_undo 0 = .ok (.iload_n 1, 1) := by decide +kernel
theorem dX9_undo_1 : decode cX9_undo 1 = .ok (.iconst 1, 1) := by decide +kernel
theorem dX9_undo_2 : decode cX9_undo 2 = .ok (.bipush 20, 2) := by decide +kernel
theorem dX9_undo_4 : decode cX9_undo 4 = .ok (.invokestatic 147, 3) := by decide +kernel
theorem dX9_undo_7 : decode cX9_undo 7 = .ok (.ifCond .ne 6, 3) := by decide +kernel
theorem dX9_undo_10 : decode cX9_undo 10 = .ok (.ldc 99, 2) := by decide +kernel
theorem dX9_undo_12 : decode cX9_undo 12 = .ok (.ireturn, 1) := by decide +kernel
theorem dX9_undo_13 : decode cX9_undo 13 = .ok (.iload_n 1, 1) := by decide +kernel
theorem dX9_undo_14 : decode cX9_undo 14 = .ok (.aload_n 0, 1) := by decide +kernel
theorem dX9_undo_15 : decode cX9_undo 15 = .ok (.getfield 40, 3) := by decide +kernel
theorem dX9_undo_18 : decode cX9_undo 18 = .ok (.invokevirtual 98, 3) := by decide +kernel
theorem dX9_undo_21 : decode cX9_undo 21 = .ok (.if_icmp .le 6, 3) := by decide +kernel
theorem dX9_undo_24 : decode cX9_undo 24 = .ok (.ldc 210, 2) := by decide +kernel
theorem dX9_undo_26 : decode cX9_undo 26 = .ok (.ireturn, 1) := by decide +kernel
theorem dX9_undo_27 : decode cX9_undo 27 = .ok (.aload_n 0, 1) := by decide +kernel
theorem dX9_undo_28 : decode cX9_undo 28 = .ok (.getfield 40, 3) := by decide +kernel
theorem dX9_undo_31 : decode cX9_undo 31 = .ok (.aload_n 0, 1) := by decide +kernel
theorem dX9_undo_32 : decode cX9_undo 32 = .ok (.getfield 10, 3) := by decide +kernel
theorem dX9_undo_35 : decode cX9_undo 35 = .ok (.iload_n 1, 1) := by decide +kernel
theorem dX9_undo_36 : decode cX9_undo 36 = .ok (.invokevirtual 211, 3) := by decide +kernel
theorem dX9_undo_39 : decode cX9_undo 39 = .ok (.aload_n 0, 1) := by decide +kernel
theorem dX9_undo_40 : decode cX9_undo 40 = .ok (.getfield 10, 3) := by decide +kernel
theorem dX9_undo_43 : decode cX9_undo 43 = .ok (.iconst 0, 1) := by decide +kernel
theorem dX9_undo_44 : decode cX9_undo 44 = .ok (.invokevirtual 71, 3) := by decide +kernel
theorem dX9_undo_47 : decode cX9_undo 47 = .ok (.ireturn, 1) := by decide +kernel
set_option maxRecDepth 20000 in
theorem ggX9_leftOut_X9_isThing : GoodIn wsX9_leftOut wsX9_isThing := goodIn_r _ [9, 4, 10, 11, 12, 13, 14, 15, 16, 17, 8, 18, 97, 98, 99, 100, 101, 102, 103, 104, 105, 106, 107] (by decide +kernel) (by decide +kernel)
set_option maxRecDepth 20000 in
theorem gX9_leftOut_X9_isThing : GoodIn wsX9_leftOut (wsV RX9 100 RX9 yX9_isThing wsX9_isThing) := goodIn_app (goodIn_of _ (by decide +kernel)) ggX9_leftOut_X9_isThing
set_option maxRecDepth 20000 in
theorem ggX9_leftOut_X9_isWithin : GoodIn wsX9_leftOut wsX9_isWithin := goodIn_r _ [18] (by decide +kernel) (by decide +kernel)
set_option maxRecDepth 20000 in
theorem gX9_leftOut_X9_isWithin : GoodIn wsX9_leftOut (va_wsS RX9 147 yX9_isWithin wsX9_isWithin) := goodIn_app (goodIn_of _ (by decide +kernel)) ggX9_leftOut_X9_isWithin
set_option maxRecDepth 20000 in
theorem ggX9_leftOut_X2_run : GoodIn wsX9_leftOut wsX2_run := goodIn_r _ [23, 24, 25, 26, 27, 28, 13, 29, 15, 30, 31, 32, 33, 34, 35, 36, 37, 38, 39, 40, 41, 42, 43, 44, 22, 45, 46, 47, 11, 12, 14, 48, 49, 50, 51, 52, 53, 54, 55, 56, 57, 58, 59, 60, 61, 62, 63, 64, 65, 66, 67, 68, 69, 70, 71, 72, 73, 74, 75, 17, 8, 18, 76, 77, 78, 79, 80, 81, 82, 83, 84, 85, 86, 87, 88, 89, 90, 91, 92, 108, 109, 110, 107, 111] (by decide +kernel) (by decide +kernel)
set_option maxRecDepth 20000 in
theorem gX9_leftOut_X2_run : GoodIn wsX9_leftOut (wsV RX9 215 RX2 yX2_run wsX2_run) := goodIn_app (goodIn_of _ (by decide +kernel)) ggX9_leftOut_X2_run
set_option maxRecDepth 20000 in
theorem ggX9_leftOut_X2_dropsOf : GoodIn wsX9_leftOut wsX2_dropsOf := goodIn_r _ [96, 25, 108, 109, 110] (by decide +kernel) (by decide +kernel)
set_option maxRecDepth 20000 in
theorem gX9_leftOut_X2_dropsOf : GoodIn wsX9_leftOut (wsV RX9 218 RX2 yX2_dropsOf wsX2_dropsOf) := goodIn_app (goodIn_of _ (by decide +kernel)) ggX9_leftOut_X2_dropsOf
theorem dX9_leftOut_0 : decode cX9_leftOut 0 = .ok (.aload_n 0, 1) := by decide +kernel
theorem dX9_leftOut_1 : decode cX9_leftOut 1 = .ok (.iload_n 1, 1) := by decide +kernel
theorem dX9_leftOut_2 : decode cX9_leftOut 2 = .ok (.invokevirtual 100, 3) := by decide +kernel
theorem dX9_leftOut_5 : decode cX9_leftOut 5 = .ok (.ifCond .ne 6, 3) := by decide +kernel
theorem dX9_leftOut_8 : decode cX9_leftOut 8 = .ok (.ldc 104, 2) := by decide +kernel
theorem dX9_leftOut_10 : decode cX9_leftOut 10 = .ok (.ireturn, 1) := by decide +kernel
theorem dX9_leftOut_11 : decode cX9_leftOut 11 = .ok (.iload_n 2, 1) := by decide +kernel
theorem dX9_leftOut_12 : decode cX9_leftOut 12 = .ok (.iconst 1, 1) := by decide +kernel
theorem dX9_leftOut_13 : decode cX9_leftOut 13 = .ok (.bipush 40, 2) := by decide +kernel
theorem dX9_leftOut_15 : decode cX9_leftOut 15 = .ok (.invokestatic 147, 3) := by decide +kernel
theorem dX9_leftOut_18 : decode cX9_leftOut 18 = .ok (.ifCond .ne 6, 3) := by decide +kernel
theorem dX9_leftOut_21 : decode cX9_leftOut 21 = .ok (.ldc 99, 2) := by decide +kernel
theorem dX9_leftOut_23 : decode cX9_leftOut 23 = .ok (.ireturn, 1) := by decide +kernel
theorem dX9_leftOut_24 : decode cX9_leftOut 24 = .ok (.aload_n 0, 1) := by decide +kernel
theorem dX9_leftOut_25 : decode cX9_leftOut 25 = .ok (.getfield 33, 3) := by decide +kernel
theorem dX9_leftOut_28 : decode cX9_leftOut 28 = .ok (.aload_n 0, 1) := by decide +kernel
theorem dX9_leftOut_29 : decode cX9_leftOut 29 = .ok (.getfield 10, 3) := by decide +kernel
theorem dX9_leftOut_32 : decode cX9_leftOut 32 = .ok (.iload_n 2, 1) := by decide +kernel
theorem dX9_leftOut_33 : decode cX9_leftOut 33 = .ok (.invokevirtual 215, 3) := by decide +kernel
theorem dX9_leftOut_36 : decode cX9_leftOut 36 = .ok (.aload_n 0, 1) := by decide +kernel
theorem dX9_leftOut_37 : decode cX9_leftOut 37 = .ok (.getfield 33, 3) := by decide +kernel
theorem dX9_leftOut_40 : decode cX9_leftOut 40 = .ok (.iload_n 1, 1) := by decide +kernel
theorem dX9_leftOut_41 : decode cX9_leftOut 41 = .ok (.invokevirtual 218, 3) := by decide +kernel
theorem dX9_leftOut_44 : decode cX9_leftOut 44 = .ok (.ireturn, 1) := by decide +kernel
set_option maxRecDepth 20000 in
theorem ggX9_worst_X9_isWithin : GoodIn wsX9_worst wsX9_isWithin := goodIn_r _ [7] (by decide +kernel) (by decide +kernel)
set_option maxRecDepth 20000 in
theorem gX9_worst_X9_isWithin : GoodIn wsX9_worst (va_wsS RX9 147 yX9_isWithin wsX9_isWithin) := goodIn_app (goodIn_of _ (by decide +kernel)) ggX9_worst_X9_isWithin
set_option maxRecDepth 20000 in
theorem ggX9_worst_X2_run : GoodIn wsX9_worst wsX2_run := goodIn_r _ [12, 13, 14, 15, 16, 17, 18, 19, 20, 21, 22, 23, 24, 25, 26, 27, 28, 29, 30, 31, 32, 33, 34, 35, 11, 36, 37, 38, 39, 40, 41, 42, 43, 44, 45, 46, 47, 48, 49, 50, 51, 52, 53, 54, 55, 56, 57, 58, 59, 60, 61, 62, 63, 64, 65, 66, 67, 68, 69, 5, 6, 7, 70, 71, 72, 73, 74, 75, 76, 77, 78, 79, 80, 81, 82, 83, 84, 85, 86, 101, 102, 103, 104, 105] (by decide +kernel) (by decide +kernel)
set_option maxRecDepth 20000 in
theorem gX9_worst_X2_run : GoodIn wsX9_worst (wsV RX9 215 RX2 yX2_run wsX2_run) := goodIn_app (goodIn_of _ (by decide +kernel)) ggX9_worst_X2_run
set_option maxRecDepth 20000 in
theorem ggX9_worst_X2_mostDropped : GoodIn wsX9_worst wsX2_mostDropped := goodIn_r _ [90, 14, 101, 102, 103] (by decide +kernel) (by decide +kernel)
set_option maxRecDepth 20000 in
theorem gX9_worst_X2_mostDropped : GoodIn wsX9_worst (wsV RX9 221 RX2 yX2_mostDropped wsX2_mostDropped) := goodIn_app (goodIn_of _ (by decide +kernel)) ggX9_worst_X2_mostDropped
theorem dX9_worst_0 : decode cX9_worst 0 = .ok (.iload_n 1, 1) := by decide +kernel
theorem dX9_worst_1 : decode cX9_worst 1 = .ok (.iconst 1, 1) := by decide +kernel
theorem dX9_worst_2 : decode cX9_worst 2 = .ok (.bipush 40, 2) := by decide +kernel
theorem dX9_worst_4 : decode cX9_worst 4 = .ok (.invokestatic 147, 3) := by decide +kernel
theorem dX9_worst_7 : decode cX9_worst 7 = .ok (.ifCond .ne 6, 3) := by decide +kernel
theorem dX9_worst_10 : decode cX9_worst 10 = .ok (.ldc 99, 2) := by decide +kernel
theorem dX9_worst_12 : decode cX9_worst 12 = .ok (.ireturn, 1) := by decide +kernel
theorem dX9_worst_13 : decode cX9_worst 13 = .ok (.aload_n 0, 1) := by decide +kernel
theorem dX9_worst_14 : decode cX9_worst 14 = .ok (.getfield 33, 3) := by decide +kernel
theorem dX9_worst_17 : decode cX9_worst 17 = .ok (.aload_n 0, 1) := by decide +kernel
theorem dX9_worst_18 : decode cX9_worst 18 = .ok (.getfield 10, 3) := by decide +kernel
theorem dX9_worst_21 : decode cX9_worst 21 = .ok (.iload_n 1, 1) := by decide +kernel
theorem dX9_worst_22 : decode cX9_worst 22 = .ok (.invokevirtual 215, 3) := by decide +kernel
theorem dX9_worst_25 : decode cX9_worst 25 = .ok (.aload_n 0, 1) := by decide +kernel
theorem dX9_worst_26 : decode cX9_worst 26 = .ok (.getfield 33, 3) := by decide +kernel
theorem dX9_worst_29 : decode cX9_worst 29 = .ok (.invokevirtual 221, 3) := by decide +kernel
theorem dX9_worst_32 : decode cX9_worst 32 = .ok (.ireturn, 1) := by decide +kernel
set_option maxRecDepth 20000 in
theorem ggX9_write_X9_isDot : GoodIn wsX9_write wsX9_isDot := goodIn_r _ [7, 8, 9, 6, 10] (by decide +kernel) (by decide +kernel)
set_option maxRecDepth 20000 in
theorem gX9_write_X9_isDot : GoodIn wsX9_write (va_wsS RX9 128 yX9_isDot wsX9_isDot) := goodIn_app (goodIn_of _ (by decide +kernel)) ggX9_write_X9_isDot
set_option maxRecDepth 20000 in
theorem ggX9_write_X9_isWithin : GoodIn wsX9_write wsX9_isWithin := goodIn_r _ [10] (by decide +kernel) (by decide +kernel)
set_option maxRecDepth 20000 in
theorem gX9_write_X9_isWithin : GoodIn wsX9_write (va_wsS RX9 147 yX9_isWithin wsX9_isWithin) := goodIn_app (goodIn_of _ (by decide +kernel)) ggX9_write_X9_isWithin
set_option maxRecDepth 20000 in
theorem ggX9_write_X0_isFull : GoodIn wsX9_write wsX0_isFull := goodIn_r _ [15, 16, 34, 35, 36, 37] (by decide +kernel) (by decide +kernel)
set_option maxRecDepth 20000 in
theorem gX9_write_X0_isFull : GoodIn wsX9_write (wsV RX9 224 RX0 yX0_isFull wsX0_isFull) := goodIn_app (goodIn_of _ (by decide +kernel)) ggX9_write_X0_isFull
set_option maxRecDepth 20000 in
theorem ggX9_write_X0_add : GoodIn wsX9_write wsX0_add := goodIn_r _ [20, 21, 16, 22, 23, 34, 35, 36, 37] (by decide +kernel) (by decide +kernel)
set_option maxRecDepth 20000 in
theorem gX9_write_X0_add : GoodIn wsX9_write (wsV RX9 225 RX0 yX0_add wsX0_add) := goodIn_app (goodIn_of _ (by decide +kernel)) ggX9_write_X0_add
theorem dX9_write_0 : decode cX9_write 0 = .ok (.iload_n 1, 1) := by decide +kernel
theorem dX9_write_1 : decode cX9_write 1 = .ok (.iload_n 2, 1) := by decide +kernel
theorem dX9_write_2 : decode cX9_write 2 = .ok (.invokestatic 128, 3) := by decide +kernel
theorem dX9_write_5 : decode cX9_write 5 = .ok (.ifCond .eq 13, 3) := by decide +kernel
theorem dX9_write_8 : decode cX9_write 8 = .ok (.iload_n 3, 1) := by decide +kernel
theorem dX9_write_9 : decode cX9_write 9 = .ok (.iconst 0, 1) := by decide +kernel
theorem dX9_write_10 : decode cX9_write 10 = .ok (.bipush 7, 2) := by decide +kernel
theorem dX9_write_12 : decode cX9_write 12 = .ok (.invokestatic 147, 3) := by decide +kernel
theorem dX9_write_15 : decode cX9_write 15 = .ok (.ifCond .ne 6, 3) := by decide +kernel
theorem dX9_write_18 : decode cX9_write 18 = .ok (.ldc 99, 2) := by decide +kernel
theorem dX9_write_20 : decode cX9_write 20 = .ok (.ireturn, 1) := by decide +kernel
theorem dX9_write_21 : decode cX9_write 21 = .ok (.aload_n 0, 1) := by decide +kernel
theorem dX9_write_22 : decode cX9_write 22 = .ok (.getfield 47, 3) := by decide +kernel
theorem dX9_write_25 : decode cX9_write 25 = .ok (.invokevirtual 224, 3) := by decide +kernel
theorem dX9_write_28 : decode cX9_write 28 = .ok (.ifCond .eq 6, 3) := by decide +kernel
theorem dX9_write_31 : decode cX9_write 31 = .ok (.ldc 185, 2) := by decide +kernel
theorem dX9_write_33 : decode cX9_write 33 = .ok (.ireturn, 1) := by decide +kernel
theorem dX9_write_34 : decode cX9_write 34 = .ok (.aload_n 0, 1) := by decide +kernel
theorem dX9_write_35 : decode cX9_write 35 = .ok (.getfield 47, 3) := by decide +kernel
theorem dX9_write_38 : decode cX9_write 38 = .ok (.iload_n 1, 1) := by decide +kernel
theorem dX9_write_39 : decode cX9_write 39 = .ok (.iload_n 2, 1) := by decide +kernel
theorem dX9_write_40 : decode cX9_write 40 = .ok (.iload_n 3, 1) := by decide +kernel
theorem dX9_write_41 : decode cX9_write 41 = .ok (.invokevirtual 225, 3) := by decide +kernel
theorem dX9_write_44 : decode cX9_write 44 = .ok (.ireturn, 1) := by decide +kernel
set_option maxRecDepth 20000 in
theorem ggX9_tear_X0_size : GoodIn wsX9_tear wsX0_size := goodIn_r _ [6, 7, 22, 23, 24, 25] (by decide +kernel) (by decide +kernel)
set_option maxRecDepth 20000 in
theorem gX9_tear_X0_size : GoodIn wsX9_tear (wsV RX9 92 RX0 yX0_size wsX0_size) := goodIn_app (goodIn_of _ (by decide +kernel)) ggX9_tear_X0_size
set_option maxRecDepth 20000 in
theorem ggX9_tear_X0_clear : GoodIn wsX9_tear wsX0_clear := goodIn_r _ [11, 7, 22, 23, 24, 25] (by decide +kernel) (by decide +kernel)
set_option maxRecDepth 20000 in
theorem gX9_tear_X0_clear : GoodIn wsX9_tear (wsV RX9 228 RX0 yX0_clear wsX0_clear) := goodIn_app (goodIn_of _ (by decide +kernel)) ggX9_tear_X0_clear
theorem dX9_tear_0 : decode cX9_tear 0 = .ok (.aload_n 0, 1) := by decide +kernel
theorem dX9_tear_1 : decode cX9_tear 1 = .ok (.getfield 47, 3) := by decide +kernel
theorem dX9_tear_4 : decode cX9_tear 4 = .ok (.invokevirtual 92, 3) := by decide +kernel
theorem dX9_tear_7 : decode cX9_tear 7 = .ok (.istore_n 1, 1) := by decide +kernel
theorem dX9_tear_8 : decode cX9_tear 8 = .ok (.aload_n 0, 1) := by decide +kernel
theorem dX9_tear_9 : decode cX9_tear 9 = .ok (.getfield 47, 3) := by decide +kernel
theorem dX9_tear_12 : decode cX9_tear 12 = .ok (.invokevirtual 228, 3) := by decide +kernel
theorem dX9_tear_15 : decode cX9_tear 15 = .ok (.iload_n 1, 1) := by decide +kernel
theorem dX9_tear_16 : decode cX9_tear 16 = .ok (.ireturn, 1) := by decide +kernel
set_option maxRecDepth 20000 in
theorem ggX9_seed_X1_value : GoodIn wsX9_seed wsX1_value := goodIn_r _ [7, 8, 23] (by decide +kernel) (by decide +kernel)
set_option maxRecDepth 20000 in
theorem gX9_seed_X1_value : GoodIn wsX9_seed (wsV RX9 231 RX1 yX1_value wsX1_value) := goodIn_app (goodIn_of _ (by decide +kernel)) ggX9_seed_X1_value
set_option maxRecDepth 20000 in
theorem ggX9_seed_X1_start : GoodIn wsX9_seed wsX1_start := goodIn_r _ [12, 8, 23] (by decide +kernel) (by decide +kernel)
set_option maxRecDepth 20000 in
theorem gX9_seed_X1_start : GoodIn wsX9_seed (wsV RX9 234 RX1 yX1_start wsX1_start) := goodIn_app (goodIn_of _ (by decide +kernel)) ggX9_seed_X1_start
theorem dX9_seed_0 : decode cX9_seed 0 = .ok (.iload_n 1, 1) := by decide +kernel
theorem dX9_seed_1 : decode cX9_seed 1 = .ok (.ifCond .ge 6, 3) := by decide +kernel
theorem dX9_seed_4 : decode cX9_seed 4 = .ok (.ldc 99, 2) := by decide +kernel
theorem dX9_seed_6 : decode cX9_seed 6 = .ok (.ireturn, 1) := by decide +kernel
theorem dX9_seed_7 : decode cX9_seed 7 = .ok (.aload_n 0, 1) := by decide +kernel
theorem dX9_seed_8 : decode cX9_seed 8 = .ok (.getfield 54, 3) := by decide +kernel
theorem dX9_seed_11 : decode cX9_seed 11 = .ok (.invokevirtual 231, 3) := by decide +kernel
theorem dX9_seed_14 : decode cX9_seed 14 = .ok (.istore_n 2, 1) := by decide +kernel
theorem dX9_seed_15 : decode cX9_seed 15 = .ok (.aload_n 0, 1) := by decide +kernel
theorem dX9_seed_16 : decode cX9_seed 16 = .ok (.getfield 54, 3) := by decide +kernel
theorem dX9_seed_19 : decode cX9_seed 19 = .ok (.iload_n 1, 1) := by decide +kernel
theorem dX9_seed_20 : decode cX9_seed 20 = .ok (.invokevirtual 234, 3) := by decide +kernel
theorem dX9_seed_23 : decode cX9_seed 23 = .ok (.iload_n 2, 1) := by decide +kernel
theorem dX9_seed_24 : decode cX9_seed 24 = .ok (.ireturn, 1) := by decide +kernel
set_option maxRecDepth 20000 in
theorem ggX9_keep_X9_isImage : GoodIn wsX9_keep wsX9_isImage := goodIn_r _ [11, 12, 13, 10, 14] (by decide +kernel) (by decide +kernel)
set_option maxRecDepth 20000 in
theorem gX9_keep_X9_isImage : GoodIn wsX9_keep (va_wsS RX9 237 yX9_isImage wsX9_isImage) := goodIn_app (goodIn_of _ (by decide +kernel)) ggX9_keep_X9_isImage
set_option maxRecDepth 20000 in
theorem ggX9_keep_X7_saveTo : GoodIn wsX9_keep wsX7_saveTo := goodIn_r _ [19, 20, 21, 22, 23, 24, 47] (by decide +kernel) (by decide +kernel)
set_option maxRecDepth 20000 in
theorem gX9_keep_X7_saveTo : GoodIn wsX9_keep (wsV RX9 240 RX7 yX7_saveTo wsX7_saveTo) := goodIn_app (goodIn_of _ (by decide +kernel)) ggX9_keep_X7_saveTo
set_option maxRecDepth 20000 in
theorem ggX9_keep_X1_value : GoodIn wsX9_keep wsX1_value := goodIn_r _ [29, 30, 48] (by decide +kernel) (by decide +kernel)
set_option maxRecDepth 20000 in
theorem gX9_keep_X1_value : GoodIn wsX9_keep (wsV RX9 231 RX1 yX1_value wsX1_value) := goodIn_app (goodIn_of _ (by decide +kernel)) ggX9_keep_X1_value
set_option maxRecDepth 20000 in
theorem ggX9_keep_X3_clear : GoodIn wsX9_keep wsX3_clear := goodIn_r _ [35, 36, 49, 50, 51] (by decide +kernel) (by decide +kernel)
set_option maxRecDepth 20000 in
theorem gX9_keep_X3_clear : GoodIn wsX9_keep (wsV RX9 244 RX3 yX3_clear wsX3_clear) := goodIn_app (goodIn_of _ (by decide +kernel)) ggX9_keep_X3_clear
theorem dX9_keep_0 : decode cX9_keep 0 = .ok (.iload_n 1, 1) := by decide +kernel
theorem dX9_keep_1 : decode cX9_keep 1 = .ok (.invokestatic 237, 3) := by decide +kernel
theorem dX9_keep_4 : decode cX9_keep 4 = .ok (.ifCond .ne 6, 3) := by decide +kernel
theorem dX9_keep_7 : decode cX9_keep 7 = .ok (.ldc 104, 2) := by decide +kernel
theorem dX9_keep_9 : decode cX9_keep 9 = .ok (.ireturn, 1) := by decide +kernel
theorem dX9_keep_10 : decode cX9_keep 10 = .ok (.aload_n 0, 1) := by decide +kernel
theorem dX9_keep_11 : decode cX9_keep 11 = .ok (.getfield 10, 3) := by decide +kernel
theorem dX9_keep_14 : decode cX9_keep 14 = .ok (.aload_n 0, 1) := by decide +kernel
theorem dX9_keep_15 : decode cX9_keep 15 = .ok (.getfield 60, 3) := by decide +kernel
theorem dX9_keep_18 : decode cX9_keep 18 = .ok (.iload_n 1, 1) := by decide +kernel
theorem dX9_keep_19 : decode cX9_keep 19 = .ok (.aaload, 1) := by decide +kernel
theorem dX9_keep_20 : decode cX9_keep 20 = .ok (.invokevirtual 240, 3) := by decide +kernel
theorem dX9_keep_23 : decode cX9_keep 23 = .ok (.aload_n 0, 1) := by decide +kernel
theorem dX9_keep_24 : decode cX9_keep 24 = .ok (.getfield 63, 3) := by decide +kernel
theorem dX9_keep_27 : decode cX9_keep 27 = .ok (.iload_n 1, 1) := by decide +kernel
theorem dX9_keep_28 : decode cX9_keep 28 = .ok (.aload_n 0, 1) := by decide +kernel
theorem dX9_keep_29 : decode cX9_keep 29 = .ok (.getfield 54, 3) := by decide +kernel
theorem dX9_keep_32 : decode cX9_keep 32 = .ok (.invokevirtual 231, 3) := by decide +kernel
theorem dX9_keep_35 : decode cX9_keep 35 = .ok (.iastore, 1) := by decide +kernel
theorem dX9_keep_36 : decode cX9_keep 36 = .ok (.aload_n 0, 1) := by decide +kernel
theorem dX9_keep_37 : decode cX9_keep 37 = .ok (.getfield 67, 3) := by decide +kernel
theorem dX9_keep_40 : decode cX9_keep 40 = .ok (.iload_n 1, 1) := by decide +kernel
theorem dX9_keep_41 : decode cX9_keep 41 = .ok (.iconst 1, 1) := by decide +kernel
theorem dX9_keep_42 : decode cX9_keep 42 = .ok (.bastore, 1) := by decide +kernel
theorem dX9_keep_43 : decode cX9_keep 43 = .ok (.aload_n 0, 1) := by decide +kernel
theorem dX9_keep_44 : decode cX9_keep 44 = .ok (.getfield 40, 3) := by decide +kernel
theorem dX9_keep_47 : decode cX9_keep 47 = .ok (.invokevirtual 244, 3) := by decide +kernel
theorem dX9_keep_50 : decode cX9_keep 50 = .ok (.iconst 1, 1) := by decide +kernel
theorem dX9_keep_51 : decode cX9_keep 51 = .ok (.ireturn, 1) := by decide +kernel
set_option maxRecDepth 20000 in
theorem ggX9_goBack_X9_isImage : GoodIn wsX9_goBack wsX9_isImage := goodIn_r _ [12, 13, 14, 11, 15] (by decide +kernel) (by decide +kernel)
set_option maxRecDepth 20000 in
theorem gX9_goBack_X9_isImage : GoodIn wsX9_goBack (va_wsS RX9 237 yX9_isImage wsX9_isImage) := goodIn_app (goodIn_of _ (by decide +kernel)) ggX9_goBack_X9_isImage
set_option maxRecDepth 20000 in
theorem ggX9_goBack_X7_loadFrom : GoodIn wsX9_goBack wsX7_loadFrom := goodIn_r _ [20, 21, 22, 23, 24, 25, 48] (by decide +kernel) (by decide +kernel)
set_option maxRecDepth 20000 in
theorem gX9_goBack_X7_loadFrom : GoodIn wsX9_goBack (wsV RX9 245 RX7 yX7_loadFrom wsX7_loadFrom) := goodIn_app (goodIn_of _ (by decide +kernel)) ggX9_goBack_X7_loadFrom
set_option maxRecDepth 20000 in
theorem ggX9_goBack_X1_start : GoodIn wsX9_goBack wsX1_start := goodIn_r _ [30, 31, 49] (by decide +kernel) (by decide +kernel)
set_option maxRecDepth 20000 in
theorem gX9_goBack_X1_start : GoodIn wsX9_goBack (wsV RX9 234 RX1 yX1_start wsX1_start) := goodIn_app (goodIn_of _ (by decide +kernel)) ggX9_goBack_X1_start
set_option maxRecDepth 20000 in
theorem ggX9_goBack_X3_clear : GoodIn wsX9_goBack wsX3_clear := goodIn_r _ [36, 37, 50, 51, 52] (by decide +kernel) (by decide +kernel)
set_option maxRecDepth 20000 in
theorem gX9_goBack_X3_clear : GoodIn wsX9_goBack (wsV RX9 244 RX3 yX3_clear wsX3_clear) := goodIn_app (goodIn_of _ (by decide +kernel)) ggX9_goBack_X3_clear
theorem dX9_goBack_0 : decode cX9_goBack 0 = .ok (.iload_n 1, 1) := by decide +kernel
theorem dX9_goBack_1 : decode cX9_goBack 1 = .ok (.invokestatic 237, 3) := by decide +kernel
theorem dX9_goBack_4 : decode cX9_goBack 4 = .ok (.ifCond .ne 6, 3) := by decide +kernel
theorem dX9_goBack_7 : decode cX9_goBack 7 = .ok (.ldc 104, 2) := by decide +kernel
theorem dX9_goBack_9 : decode cX9_goBack 9 = .ok (.ireturn, 1) := by decide +kernel
theorem dX9_goBack_10 : decode cX9_goBack 10 = .ok (.aload_n 0, 1) := by decide +kernel
theorem dX9_goBack_11 : decode cX9_goBack 11 = .ok (.getfield 67, 3) := by decide +kernel
theorem dX9_goBack_14 : decode cX9_goBack 14 = .ok (.iload_n 1, 1) := by decide +kernel
theorem dX9_goBack_15 : decode cX9_goBack 15 = .ok (.baload, 1) := by decide +kernel
theorem dX9_goBack_16 : decode cX9_goBack 16 = .ok (.ifCond .ne 6, 3) := by decide +kernel
theorem dX9_goBack_19 : decode cX9_goBack 19 = .ok (.ldc 210, 2) := by decide +kernel
theorem dX9_goBack_21 : decode cX9_goBack 21 = .ok (.ireturn, 1) := by decide +kernel
theorem dX9_goBack_22 : decode cX9_goBack 22 = .ok (.aload_n 0, 1) := by decide +kernel
theorem dX9_goBack_23 : decode cX9_goBack 23 = .ok (.getfield 10, 3) := by decide +kernel
theorem dX9_goBack_26 : decode cX9_goBack 26 = .ok (.aload_n 0, 1) := by decide +kernel
theorem dX9_goBack_27 : decode cX9_goBack 27 = .ok (.getfield 60, 3) := by decide +kernel
theorem dX9_goBack_30 : decode cX9_goBack 30 = .ok (.iload_n 1, 1) := by decide +kernel
theorem dX9_goBack_31 : decode cX9_goBack 31 = .ok (.aaload, 1) := by decide +kernel
theorem dX9_goBack_32 : decode cX9_goBack 32 = .ok (.invokevirtual 245, 3) := by decide +kernel
theorem dX9_goBack_35 : decode cX9_goBack 35 = .ok (.aload_n 0, 1) := by decide +kernel
theorem dX9_goBack_36 : decode cX9_goBack 36 = .ok (.getfield 54, 3) := by decide +kernel
theorem dX9_goBack_39 : decode cX9_goBack 39 = .ok (.aload_n 0, 1) := by decide +kernel
theorem dX9_goBack_40 : decode cX9_goBack 40 = .ok (.getfield 63, 3) := by decide +kernel
theorem dX9_goBack_43 : decode cX9_goBack 43 = .ok (.iload_n 1, 1) := by decide +kernel
theorem dX9_goBack_44 : decode cX9_goBack 44 = .ok (.iaload, 1) := by decide +kernel
theorem dX9_goBack_45 : decode cX9_goBack 45 = .ok (.invokevirtual 234, 3) := by decide +kernel
theorem dX9_goBack_48 : decode cX9_goBack 48 = .ok (.aload_n 0, 1) := by decide +kernel
theorem dX9_goBack_49 : decode cX9_goBack 49 = .ok (.getfield 40, 3) := by decide +kernel
theorem dX9_goBack_52 : decode cX9_goBack 52 = .ok (.invokevirtual 244, 3) := by decide +kernel
theorem dX9_goBack_55 : decode cX9_goBack 55 = .ok (.iconst 1, 1) := by decide +kernel
theorem dX9_goBack_56 : decode cX9_goBack 56 = .ok (.ireturn, 1) := by decide +kernel
theorem dX9_isWithin_0 : decode cX9_isWithin 0 = .ok (.iload_n 0, 1) := by decide +kernel
theorem dX9_isWithin_1 : decode cX9_isWithin 1 = .ok (.iload_n 1, 1) := by decide +kernel
theorem dX9_isWithin_2 : decode cX9_isWithin 2 = .ok (.if_icmp .lt 12, 3) := by decide +kernel
theorem dX9_isWithin_5 : decode cX9_isWithin 5 = .ok (.iload_n 0, 1) := by decide +kernel
theorem dX9_isWithin_6 : decode cX9_isWithin 6 = .ok (.iload_n 2, 1) := by decide +kernel
theorem dX9_isWithin_7 : decode cX9_isWithin 7 = .ok (.if_icmp .gt 7, 3) := by decide +kernel
theorem dX9_isWithin_10 : decode cX9_isWithin 10 = .ok (.iconst 1, 1) := by decide +kernel
theorem dX9_isWithin_11 : decode cX9_isWithin 11 = .ok (.goto 4, 3) := by decide +kernel
theorem dX9_isWithin_14 : decode cX9_isWithin 14 = .ok (.iconst 0, 1) := by decide +kernel
theorem dX9_isWithin_15 : decode cX9_isWithin 15 = .ok (.ireturn, 1) := by decide +kernel
set_option maxRecDepth 20000 in
theorem ggX9_isPicture_X9_isWithin : GoodIn wsX9_isPicture wsX9_isWithin := goodIn_r _ [4] (by decide +kernel) (by decide +kernel)
set_option maxRecDepth 20000 in
theorem gX9_isPicture_X9_isWithin : GoodIn wsX9_isPicture (va_wsS RX9 147 yX9_isWithin wsX9_isWithin) := goodIn_app (goodIn_of _ (by decide +kernel)) ggX9_isPicture_X9_isWithin
theorem dX9_isPicture_0 : decode cX9_isPicture 0 = .ok (.iload_n 0, 1) := by decide +kernel
theorem dX9_isPicture_1 : decode cX9_isPicture 1 = .ok (.iconst 0, 1) := by decide +kernel
theorem dX9_isPicture_2 : decode cX9_isPicture 2 = .ok (.iconst 3, 1) := by decide +kernel
theorem dX9_isPicture_3 : decode cX9_isPicture 3 = .ok (.invokestatic 147, 3) := by decide +kernel
theorem dX9_isPicture_6 : decode cX9_isPicture 6 = .ok (.ireturn, 1) := by decide +kernel
set_option maxRecDepth 20000 in
theorem ggX9_isImage_X9_isWithin : GoodIn wsX9_isImage wsX9_isWithin := goodIn_r _ [4] (by decide +kernel) (by decide +kernel)
set_option maxRecDepth 20000 in
theorem gX9_isImage_X9_isWithin : GoodIn wsX9_isImage (va_wsS RX9 147 yX9_isWithin wsX9_isWithin) := goodIn_app (goodIn_of _ (by decide +kernel)) ggX9_isImage_X9_isWithin
theorem dX9_isImage_0 : decode cX9_isImage 0 = .ok (.iload_n 0, 1) := by decide +kernel
theorem dX9_isImage_1 : decode cX9_isImage 1 = .ok (.iconst 0, 1) := by decide +kernel
theorem dX9_isImage_2 : decode cX9_isImage 2 = .ok (.iconst 1, 1) := by decide +kernel
theorem dX9_isImage_3 : decode cX9_isImage 3 = .ok (.invokestatic 147, 3) := by decide +kernel
theorem dX9_isImage_6 : decode cX9_isImage 6 = .ok (.ireturn, 1) := by decide +kernel
set_option maxRecDepth 20000 in
theorem ggX9_isDot_X9_isWithin : GoodIn wsX9_isDot wsX9_isWithin := goodIn_r _ [4] (by decide +kernel) (by decide +kernel)
set_option maxRecDepth 20000 in
theorem gX9_isDot_X9_isWithin : GoodIn wsX9_isDot (va_wsS RX9 147 yX9_isWithin wsX9_isWithin) := goodIn_app (goodIn_of _ (by decide +kernel)) ggX9_isDot_X9_isWithin
theorem dX9_isDot_0 : decode cX9_isDot 0 = .ok (.iload_n 0, 1) := by decide +kernel
theorem dX9_isDot_1 : decode cX9_isDot 1 = .ok (.iconst 0, 1) := by decide +kernel
theorem dX9_isDot_2 : decode cX9_isDot 2 = .ok (.bipush 23, 2) := by decide +kernel
theorem dX9_isDot_4 : decode cX9_isDot 4 = .ok (.invokestatic 147, 3) := by decide +kernel
theorem dX9_isDot_7 : decode cX9_isDot 7 = .ok (.ifCond .eq 17, 3) := by decide +kernel
theorem dX9_isDot_10 : decode cX9_isDot 10 = .ok (.iload_n 1, 1) := by decide +kernel
theorem dX9_isDot_11 : decode cX9_isDot 11 = .ok (.iconst 0, 1) := by decide +kernel
theorem dX9_isDot_12 : decode cX9_isDot 12 = .ok (.bipush 31, 2) := by decide +kernel
theorem dX9_isDot_14 : decode cX9_isDot 14 = .ok (.invokestatic 147, 3) := by decide +kernel
theorem dX9_isDot_17 : decode cX9_isDot 17 = .ok (.ifCond .eq 7, 3) := by decide +kernel
theorem dX9_isDot_20 : decode cX9_isDot 20 = .ok (.iconst 1, 1) := by decide +kernel
theorem dX9_isDot_21 : decode cX9_isDot 21 = .ok (.goto 4, 3) := by decide +kernel
theorem dX9_isDot_24 : decode cX9_isDot 24 = .ok (.iconst 0, 1) := by decide +kernel
theorem dX9_isDot_25 : decode cX9_isDot 25 = .ok (.ireturn, 1) := by decide +kernel
set_option maxRecDepth 20000 in
theorem ggX9_isPlace_X9_isWithin : GoodIn wsX9_isPlace wsX9_isWithin := goodIn_r _ [4] (by decide +kernel) (by decide +kernel)
set_option maxRecDepth 20000 in
theorem gX9_isPlace_X9_isWithin : GoodIn wsX9_isPlace (va_wsS RX9 147 yX9_isWithin wsX9_isWithin) := goodIn_app (goodIn_of _ (by decide +kernel)) ggX9_isPlace_X9_isWithin
theorem dX9_isPlace_0 : decode cX9_isPlace 0 = .ok (.iload_n 0, 1) := by decide +kernel
theorem dX9_isPlace_1 : decode cX9_isPlace 1 = .ok (.bipush (-8), 2) := by decide +kernel
theorem dX9_isPlace_3 : decode cX9_isPlace 3 = .ok (.bipush 31, 2) := by decide +kernel
theorem dX9_isPlace_5 : decode cX9_isPlace 5 = .ok (.invokestatic 147, 3) := by decide +kernel
theorem dX9_isPlace_8 : decode cX9_isPlace 8 = .ok (.ifCond .eq 18, 3) := by decide +kernel
theorem dX9_isPlace_11 : decode cX9_isPlace 11 = .ok (.iload_n 1, 1) := by decide +kernel
theorem dX9_isPlace_12 : decode cX9_isPlace 12 = .ok (.bipush (-8), 2) := by decide +kernel
theorem dX9_isPlace_14 : decode cX9_isPlace 14 = .ok (.bipush 23, 2) := by decide +kernel
theorem dX9_isPlace_16 : decode cX9_isPlace 16 = .ok (.invokestatic 147, 3) := by decide +kernel
theorem dX9_isPlace_19 : decode cX9_isPlace 19 = .ok (.ifCond .eq 7, 3) := by decide +kernel
theorem dX9_isPlace_22 : decode cX9_isPlace 22 = .ok (.iconst 1, 1) := by decide +kernel
theorem dX9_isPlace_23 : decode cX9_isPlace 23 = .ok (.goto 4, 3) := by decide +kernel
theorem dX9_isPlace_26 : decode cX9_isPlace 26 = .ok (.iconst 0, 1) := by decide +kernel
theorem dX9_isPlace_27 : decode cX9_isPlace 27 = .ok (.ireturn, 1) := by decide +kernel
set_option maxRecDepth 20000 in
theorem ggX9_isManner_X9_isWithin : GoodIn wsX9_isManner wsX9_isWithin := goodIn_r _ [4] (by decide +kernel) (by decide +kernel)
set_option maxRecDepth 20000 in
theorem gX9_isManner_X9_isWithin : GoodIn wsX9_isManner (va_wsS RX9 147 yX9_isWithin wsX9_isWithin) := goodIn_app (goodIn_of _ (by decide +kernel)) ggX9_isManner_X9_isWithin
theorem dX9_isManner_0 : decode cX9_isManner 0 = .ok (.iload_n 0, 1) := by decide +kernel
theorem dX9_isManner_1 : decode cX9_isManner 1 = .ok (.iconst 0, 1) := by decide +kernel
theorem dX9_isManner_2 : decode cX9_isManner 2 = .ok (.iconst 3, 1) := by decide +kernel
theorem dX9_isManner_3 : decode cX9_isManner 3 = .ok (.invokestatic 147, 3) := by decide +kernel
theorem dX9_isManner_6 : decode cX9_isManner 6 = .ok (.ifCond .eq 16, 3) := by decide +kernel
theorem dX9_isManner_9 : decode cX9_isManner 9 = .ok (.iload_n 1, 1) := by decide +kernel
theorem dX9_isManner_10 : decode cX9_isManner 10 = .ok (.iconst 0, 1) := by decide +kernel
theorem dX9_isManner_11 : decode cX9_isManner 11 = .ok (.iconst 3, 1) := by decide +kernel
theorem dX9_isManner_12 : decode cX9_isManner 12 = .ok (.invokestatic 147, 3) := by decide +kernel
theorem dX9_isManner_15 : decode cX9_isManner 15 = .ok (.ifCond .eq 7, 3) := by decide +kernel
theorem dX9_isManner_18 : decode cX9_isManner 18 = .ok (.iconst 1, 1) := by decide +kernel
theorem dX9_isManner_19 : decode cX9_isManner 19 = .ok (.goto 4, 3) := by decide +kernel
theorem dX9_isManner_22 : decode cX9_isManner 22 = .ok (.iconst 0, 1) := by decide +kernel
theorem dX9_isManner_23 : decode cX9_isManner 23 = .ok (.ireturn, 1) := by decide +kernel
theorem dX9_isInSet_0 : decode cX9_isInSet 0 = .ok (.iload_n 0, 1) := by decide +kernel
theorem dX9_isInSet_1 : decode cX9_isInSet 1 = .ok (.iload_n 1, 1) := by decide +kernel
theorem dX9_isInSet_2 : decode cX9_isInSet 2 = .ok (.iushr, 1) := by decide +kernel
theorem dX9_isInSet_3 : decode cX9_isInSet 3 = .ok (.iconst 1, 1) := by decide +kernel
theorem dX9_isInSet_4 : decode cX9_isInSet 4 = .ok (.iand, 1) := by decide +kernel
theorem dX9_isInSet_5 : decode cX9_isInSet 5 = .ok (.iconst 1, 1) := by decide +kernel
theorem dX9_isInSet_6 : decode cX9_isInSet 6 = .ok (.if_icmp .ne 7, 3) := by decide +kernel
theorem dX9_isInSet_9 : decode cX9_isInSet 9 = .ok (.iconst 1, 1) := by decide +kernel
theorem dX9_isInSet_10 : decode cX9_isInSet 10 = .ok (.goto 4, 3) := by decide +kernel
theorem dX9_isInSet_13 : decode cX9_isInSet 13 = .ok (.iconst 0, 1) := by decide +kernel
theorem dX9_isInSet_14 : decode cX9_isInSet 14 = .ok (.ireturn, 1) := by decide +kernel
set_option maxRecDepth 20000 in
theorem ggX9_isThing_X7_cell : GoodIn wsX9_isThing wsX7_cell := goodIn_r _ [6, 7, 22] (by decide +kernel) (by decide +kernel)
set_option maxRecDepth 20000 in
theorem gX9_isThing_X7_cell : GoodIn wsX9_isThing (wsV RX9 71 RX7 yX7_cell wsX7_cell) := goodIn_app (goodIn_of _ (by decide +kernel)) ggX9_isThing_X7_cell
set_option maxRecDepth 20000 in
theorem ggX9_isThing_X9_isWithin : GoodIn wsX9_isThing wsX9_isWithin := goodIn_r _ [11] (by decide +kernel) (by decide +kernel)
set_option maxRecDepth 20000 in
theorem gX9_isThing_X9_isWithin : GoodIn wsX9_isThing (va_wsS RX9 147 yX9_isWithin wsX9_isWithin) := goodIn_app (goodIn_of _ (by decide +kernel)) ggX9_isThing_X9_isWithin
theorem dX9_isThing_0 : decode cX9_isThing 0 = .ok (.iload_n 1, 1) := by decide +kernel
theorem dX9_isThing_1 : decode cX9_isThing 1 = .ok (.iconst 0, 1) := by decide +kernel
theorem dX9_isThing_2 : decode cX9_isThing 2 = .ok (.aload_n 0, 1) := by decide +kernel
theorem dX9_isThing_3 : decode cX9_isThing 3 = .ok (.getfield 10, 3) := by decide +kernel
theorem dX9_isThing_6 : decode cX9_isThing 6 = .ok (.iconst 0, 1) := by decide +kernel
theorem dX9_isThing_7 : decode cX9_isThing 7 = .ok (.invokevirtual 71, 3) := by decide +kernel
theorem dX9_isThing_10 : decode cX9_isThing 10 = .ok (.iconst 1, 1) := by decide +kernel
theorem dX9_isThing_11 : decode cX9_isThing 11 = .ok (.isub, 1) := by decide +kernel
theorem dX9_isThing_12 : decode cX9_isThing 12 = .ok (.invokestatic 147, 3) := by decide +kernel
theorem dX9_isThing_15 : decode cX9_isThing 15 = .ok (.ireturn, 1) := by decide +kernel
set_option maxRecDepth 20000 in
theorem ggX9_missingNow_X7_cell : GoodIn wsX9_missingNow wsX7_cell := goodIn_r _ [7, 8, 105] (by decide +kernel) (by decide +kernel)
set_option maxRecDepth 20000 in
theorem gX9_missingNow_X7_cell : GoodIn wsX9_missingNow (wsV RX9 71 RX7 yX7_cell wsX7_cell) := goodIn_app (goodIn_of _ (by decide +kernel)) ggX9_missingNow_X7_cell
set_option maxRecDepth 20000 in
theorem ggX9_missingNow_X8_missing : GoodIn wsX9_missingNow wsX8_missing := goodIn_r _ [13, 14, 15, 16, 17, 18, 19, 20, 21, 22, 23, 4, 5, 6, 7, 8, 24, 25, 26, 27, 28, 29, 30, 31, 32, 33, 34, 35, 36, 37, 38, 39, 40, 41, 42, 43, 44, 45, 46, 47, 48, 49, 50, 51, 52, 53, 54, 55, 56, 57, 58, 59, 60, 61, 62, 63, 64, 65, 66, 67, 68, 69, 70, 71, 72, 73, 74, 75, 76, 77, 78, 79, 80, 81, 82, 83, 84, 85, 86, 87, 88, 89, 90, 91, 92, 93, 94, 106, 107, 108, 109, 105, 110, 111, 112] (by decide +kernel) (by decide +kernel)
set_option maxRecDepth 20000 in
theorem gX9_missingNow_X8_missing : GoodIn wsX9_missingNow (wsV RX9 248 RX8 yX8_missing wsX8_missing) := goodIn_app (goodIn_of _ (by decide +kernel)) ggX9_missingNow_X8_missing
theorem dX9_missingNow_0 : decode cX9_missingNow 0 = .ok (.aload_n 0, 1) := by decide +kernel
theorem dX9_missingNow_1 : decode cX9_missingNow 1 = .ok (.getfield 19, 3) := by decide +kernel
theorem dX9_missingNow_4 : decode cX9_missingNow 4 = .ok (.aload_n 0, 1) := by decide +kernel
theorem dX9_missingNow_5 : decode cX9_missingNow 5 = .ok (.getfield 10, 3) := by decide +kernel
theorem dX9_missingNow_8 : decode cX9_missingNow 8 = .ok (.aload_n 0, 1) := by decide +kernel
theorem dX9_missingNow_9 : decode cX9_missingNow 9 = .ok (.getfield 10, 3) := by decide +kernel
theorem dX9_missingNow_12 : decode cX9_missingNow 12 = .ok (.iconst 2, 1) := by decide +kernel
theorem dX9_missingNow_13 : decode cX9_missingNow 13 = .ok (.invokevirtual 71, 3) := by decide +kernel
theorem dX9_missingNow_16 : decode cX9_missingNow 16 = .ok (.invokevirtual 248, 3) := by decide +kernel
theorem dX9_missingNow_19 : decode cX9_missingNow 19 = .ok (.ireturn, 1) := by decide +kernel
set_option maxRecDepth 20000 in
theorem ggX9_holderOf_X4_assign : GoodIn wsX9_holderOf wsX4_assign := goodIn_r _ [7, 8, 9, 10, 11, 12, 13, 14, 15, 16, 17, 18, 19, 20, 21, 22, 6, 23, 24, 25, 26, 27, 28, 43, 44, 45, 46] (by decide +kernel) (by decide +kernel)
set_option maxRecDepth 20000 in
theorem gX9_holderOf_X4_assign : GoodIn wsX9_holderOf (wsV RX9 86 RX4 yX4_assign wsX4_assign) := goodIn_app (goodIn_of _ (by decide +kernel)) ggX9_holderOf_X4_assign
set_option maxRecDepth 20000 in
theorem ggX9_holderOf_X4_holderOf : GoodIn wsX9_holderOf wsX4_holderOf := goodIn_r _ [32, 9, 43, 44, 45] (by decide +kernel) (by decide +kernel)
set_option maxRecDepth 20000 in
theorem gX9_holderOf_X4_holderOf : GoodIn wsX9_holderOf (wsV RX9 251 RX4 yX4_holderOf wsX4_holderOf) := goodIn_app (goodIn_of _ (by decide +kernel)) ggX9_holderOf_X4_holderOf
theorem dX9_holderOf_0 : decode cX9_holderOf 0 = .ok (.aload_n 0, 1) := by decide +kernel
theorem dX9_holderOf_1 : decode cX9_holderOf 1 = .ok (.getfield 26, 3) := by decide +kernel
theorem dX9_holderOf_4 : decode cX9_holderOf 4 = .ok (.aload_n 0, 1) := by decide +kernel
theorem dX9_holderOf_5 : decode cX9_holderOf 5 = .ok (.getfield 10, 3) := by decide +kernel
theorem dX9_holderOf_8 : decode cX9_holderOf 8 = .ok (.invokevirtual 86, 3) := by decide +kernel
theorem dX9_holderOf_11 : decode cX9_holderOf 11 = .ok (.pop, 1) := by decide +kernel
theorem dX9_holderOf_12 : decode cX9_holderOf 12 = .ok (.aload_n 0, 1) := by decide +kernel
theorem dX9_holderOf_13 : decode cX9_holderOf 13 = .ok (.getfield 26, 3) := by decide +kernel
theorem dX9_holderOf_16 : decode cX9_holderOf 16 = .ok (.iload_n 1, 1) := by decide +kernel
theorem dX9_holderOf_17 : decode cX9_holderOf 17 = .ok (.invokevirtual 251, 3) := by decide +kernel
theorem dX9_holderOf_20 : decode cX9_holderOf 20 = .ok (.ireturn, 1) := by decide +kernel
set_option maxRecDepth 20000 in
theorem ggX9_firstWrong_X0_size : GoodIn wsX9_firstWrong wsX0_size := goodIn_r _ [8, 9, 122, 123, 124, 125] (by decide +kernel) (by decide +kernel)
set_option maxRecDepth 20000 in
theorem gX9_firstWrong_X0_size : GoodIn wsX9_firstWrong (wsV RX9 92 RX0 yX0_size wsX0_size) := goodIn_app (goodIn_of _ (by decide +kernel)) ggX9_firstWrong_X0_size
set_option maxRecDepth 20000 in
theorem ggX9_firstWrong_X0_lineOf : GoodIn wsX9_firstWrong wsX0_lineOf := goodIn_r _ [13, 14, 122, 123, 124, 125] (by decide +kernel) (by decide +kernel)
set_option maxRecDepth 20000 in
theorem gX9_firstWrong_X0_lineOf : GoodIn wsX9_firstWrong (wsV RX9 252 RX0 yX0_lineOf wsX0_lineOf) := goodIn_app (goodIn_of _ (by decide +kernel)) ggX9_firstWrong_X0_lineOf
set_option maxRecDepth 20000 in
theorem ggX9_firstWrong_X8_paintNow : GoodIn wsX9_firstWrong wsX8_paintNow := goodIn_r _ [19, 20, 21, 22, 23, 18, 24, 25, 26, 27, 28, 29, 30, 31, 32, 33, 34, 35, 36, 37, 38, 39, 40, 41, 42, 43, 44, 45, 46, 47, 48, 49, 50, 51, 52, 53, 54, 55, 56, 57, 58, 59, 60, 61, 62, 63, 64, 65, 66, 67, 68, 69, 70, 71, 72, 73, 74, 75, 76, 77, 78, 79, 80, 81, 82, 83, 84, 85, 86, 87, 88, 89, 90, 91, 92, 93, 126, 127, 128, 129, 130, 131, 132, 133] (by decide +kernel) (by decide +kernel)
set_option maxRecDepth 20000 in
theorem gX9_firstWrong_X8_paintNow : GoodIn wsX9_firstWrong (wsV RX9 132 RX8 yX8_paintNow wsX8_paintNow) := goodIn_app (goodIn_of _ (by decide +kernel)) ggX9_firstWrong_X8_paintNow
set_option maxRecDepth 20000 in
theorem ggX9_firstWrong_X0_columnOf : GoodIn wsX9_firstWrong wsX0_columnOf := goodIn_r _ [97, 98, 122, 123, 124, 125] (by decide +kernel) (by decide +kernel)
set_option maxRecDepth 20000 in
theorem gX9_firstWrong_X0_columnOf : GoodIn wsX9_firstWrong (wsV RX9 255 RX0 yX0_columnOf wsX0_columnOf) := goodIn_app (goodIn_of _ (by decide +kernel)) ggX9_firstWrong_X0_columnOf
set_option maxRecDepth 20000 in
theorem ggX9_firstWrong_X6_colourAt : GoodIn wsX9_firstWrong wsX6_colourAt := goodIn_r _ [102, 103, 104, 105, 66, 106, 68, 76, 61, 77, 78, 44, 45, 29, 46, 31, 131, 132, 133, 129] (by decide +kernel) (by decide +kernel)
set_option maxRecDepth 20000 in
theorem gX9_firstWrong_X6_colourAt : GoodIn wsX9_firstWrong (wsV RX9 136 RX6 yX6_colourAt wsX6_colourAt) := goodIn_app (goodIn_of _ (by decide +kernel)) ggX9_firstWrong_X6_colourAt
set_option maxRecDepth 20000 in
theorem ggX9_firstWrong_X0_colourOf : GoodIn wsX9_firstWrong wsX0_colourOf := goodIn_r _ [110, 111, 122, 123, 124, 125] (by decide +kernel) (by decide +kernel)
set_option maxRecDepth 20000 in
theorem gX9_firstWrong_X0_colourOf : GoodIn wsX9_firstWrong (wsV RX9 258 RX0 yX0_colourOf wsX0_colourOf) := goodIn_app (goodIn_of _ (by decide +kernel)) ggX9_firstWrong_X0_colourOf
theorem dX9_firstWrong_0 : decode cX9_firstWrong 0 = .ok (.iconst 0, 1) := by decide +kernel
theorem dX9_firstWrong_1 : decode cX9_firstWrong 1 = .ok (.istore_n 1, 1) := by decide +kernel
theorem dX9_firstWrong_2 : decode cX9_firstWrong 2 = .ok (.iload_n 1, 1) := by decide +kernel
theorem dX9_firstWrong_3 : decode cX9_firstWrong 3 = .ok (.aload_n 0, 1) := by decide +kernel
theorem dX9_firstWrong_4 : decode cX9_firstWrong 4 = .ok (.getfield 47, 3) := by decide +kernel
theorem dX9_firstWrong_7 : decode cX9_firstWrong 7 = .ok (.invokevirtual 92, 3) := by decide +kernel
theorem dX9_firstWrong_10 : decode cX9_firstWrong 10 = .ok (.if_icmp .ge 58, 3) := by decide +kernel
theorem dX9_firstWrong_13 : decode cX9_firstWrong 13 = .ok (.aload_n 0, 1) := by decide +kernel
theorem dX9_firstWrong_14 : decode cX9_firstWrong 14 = .ok (.getfield 19, 3) := by decide +kernel
theorem dX9_firstWrong_17 : decode cX9_firstWrong 17 = .ok (.aload_n 0, 1) := by decide +kernel
theorem dX9_firstWrong_18 : decode cX9_firstWrong 18 = .ok (.getfield 10, 3) := by decide +kernel
theorem dX9_firstWrong_21 : decode cX9_firstWrong 21 = .ok (.aload_n 0, 1) := by decide +kernel
theorem dX9_firstWrong_22 : decode cX9_firstWrong 22 = .ok (.getfield 47, 3) := by decide +kernel
theorem dX9_firstWrong_25 : decode cX9_firstWrong 25 = .ok (.iload_n 1, 1) := by decide +kernel
theorem dX9_firstWrong_26 : decode cX9_firstWrong 26 = .ok (.invokevirtual 252, 3) := by decide +kernel
theorem dX9_firstWrong_29 : decode cX9_firstWrong 29 = .ok (.invokevirtual 132, 3) := by decide +kernel
theorem dX9_firstWrong_32 : decode cX9_firstWrong 32 = .ok (.astore_n 2, 1) := by decide +kernel
theorem dX9_firstWrong_33 : decode cX9_firstWrong 33 = .ok (.aload_n 2, 1) := by decide +kernel
theorem dX9_firstWrong_34 : decode cX9_firstWrong 34 = .ok (.aload_n 0, 1) := by decide +kernel
theorem dX9_firstWrong_35 : decode cX9_firstWrong 35 = .ok (.getfield 10, 3) := by decide +kernel
theorem dX9_firstWrong_38 : decode cX9_firstWrong 38 = .ok (.aload_n 0, 1) := by decide +kernel
theorem dX9_firstWrong_39 : decode cX9_firstWrong 39 = .ok (.getfield 47, 3) := by decide +kernel
theorem dX9_firstWrong_42 : decode cX9_firstWrong 42 = .ok (.iload_n 1, 1) := by decide +kernel
theorem dX9_firstWrong_43 : decode cX9_firstWrong 43 = .ok (.invokevirtual 255, 3) := by decide +kernel
theorem dX9_firstWrong_46 : decode cX9_firstWrong 46 = .ok (.invokevirtual 136, 3) := by decide +kernel
theorem dX9_firstWrong_49 : decode cX9_firstWrong 49 = .ok (.aload_n 0, 1) := by decide +kernel
theorem dX9_firstWrong_50 : decode cX9_firstWrong 50 = .ok (.getfield 47, 3) := by decide +kernel
theorem dX9_firstWrong_53 : decode cX9_firstWrong 53 = .ok (.iload_n 1, 1) := by decide +kernel
theorem dX9_firstWrong_54 : decode cX9_firstWrong 54 = .ok (.invokevirtual 258, 3) := by decide +kernel
theorem dX9_firstWrong_57 : decode cX9_firstWrong 57 = .ok (.if_icmp .eq 5, 3) := by decide +kernel
theorem dX9_firstWrong_60 : decode cX9_firstWrong 60 = .ok (.iload_n 1, 1) := by decide +kernel
theorem dX9_firstWrong_61 : decode cX9_firstWrong 61 = .ok (.ireturn, 1) := by decide +kernel
theorem dX9_firstWrong_62 : decode cX9_firstWrong 62 = .ok (.iinc 1 1, 3) := by decide +kernel
theorem dX9_firstWrong_65 : decode cX9_firstWrong 65 = .ok (.goto (-63), 3) := by decide +kernel
theorem dX9_firstWrong_68 : decode cX9_firstWrong 68 = .ok (.iconst (-1), 1) := by decide +kernel
theorem dX9_firstWrong_69 : decode cX9_firstWrong 69 = .ok (.ireturn, 1) := by decide +kernel
theorem dJ6_bitCount_0f7a4_0 : decode cJ6_bitCount_0f7a4 0 = .ok (.iload_n 0, 1) := by decide +kernel
theorem dJ6_bitCount_0f7a4_1 : decode cJ6_bitCount_0f7a4 1 = .ok (.iload_n 0, 1) := by decide +kernel
theorem dJ6_bitCount_0f7a4_2 : decode cJ6_bitCount_0f7a4 2 = .ok (.iconst 1, 1) := by decide +kernel
theorem dJ6_bitCount_0f7a4_3 : decode cJ6_bitCount_0f7a4 3 = .ok (.iushr, 1) := by decide +kernel
theorem dJ6_bitCount_0f7a4_4 : decode cJ6_bitCount_0f7a4 4 = .ok (.ldc_w 265, 3) := by decide +kernel
theorem dJ6_bitCount_0f7a4_7 : decode cJ6_bitCount_0f7a4 7 = .ok (.iand, 1) := by decide +kernel
theorem dJ6_bitCount_0f7a4_8 : decode cJ6_bitCount_0f7a4 8 = .ok (.isub, 1) := by decide +kernel
theorem dJ6_bitCount_0f7a4_9 : decode cJ6_bitCount_0f7a4 9 = .ok (.istore_n 0, 1) := by decide +kernel
theorem dJ6_bitCount_0f7a4_10 : decode cJ6_bitCount_0f7a4 10 = .ok (.iload_n 0, 1) := by decide +kernel
theorem dJ6_bitCount_0f7a4_11 : decode cJ6_bitCount_0f7a4 11 = .ok (.ldc_w 266, 3) := by decide +kernel
theorem dJ6_bitCount_0f7a4_14 : decode cJ6_bitCount_0f7a4 14 = .ok (.iand, 1) := by decide +kernel
theorem dJ6_bitCount_0f7a4_15 : decode cJ6_bitCount_0f7a4 15 = .ok (.iload_n 0, 1) := by decide +kernel
theorem dJ6_bitCount_0f7a4_16 : decode cJ6_bitCount_0f7a4 16 = .ok (.iconst 2, 1) := by decide +kernel
theorem dJ6_bitCount_0f7a4_17 : decode cJ6_bitCount_0f7a4 17 = .ok (.iushr, 1) := by decide +kernel
theorem dJ6_bitCount_0f7a4_18 : decode cJ6_bitCount_0f7a4 18 = .ok (.ldc_w 266, 3) := by decide +kernel
theorem dJ6_bitCount_0f7a4_21 : decode cJ6_bitCount_0f7a4 21 = .ok (.iand, 1) := by decide +kernel
theorem dJ6_bitCount_0f7a4_22 : decode cJ6_bitCount_0f7a4 22 = .ok (.iadd, 1) := by decide +kernel
theorem dJ6_bitCount_0f7a4_23 : decode cJ6_bitCount_0f7a4 23 = .ok (.istore_n 0, 1) := by decide +kernel
theorem dJ6_bitCount_0f7a4_24 : decode cJ6_bitCount_0f7a4 24 = .ok (.iload_n 0, 1) := by decide +kernel
theorem dJ6_bitCount_0f7a4_25 : decode cJ6_bitCount_0f7a4 25 = .ok (.iload_n 0, 1) := by decide +kernel
theorem dJ6_bitCount_0f7a4_26 : decode cJ6_bitCount_0f7a4 26 = .ok (.iconst 4, 1) := by decide +kernel
theorem dJ6_bitCount_0f7a4_27 : decode cJ6_bitCount_0f7a4 27 = .ok (.iushr, 1) := by decide +kernel
theorem dJ6_bitCount_0f7a4_28 : decode cJ6_bitCount_0f7a4 28 = .ok (.iadd, 1) := by decide +kernel
theorem dJ6_bitCount_0f7a4_29 : decode cJ6_bitCount_0f7a4 29 = .ok (.ldc_w 267, 3) := by decide +kernel
theorem dJ6_bitCount_0f7a4_32 : decode cJ6_bitCount_0f7a4 32 = .ok (.iand, 1) := by decide +kernel
theorem dJ6_bitCount_0f7a4_33 : decode cJ6_bitCount_0f7a4 33 = .ok (.istore_n 0, 1) := by decide +kernel
theorem dJ6_bitCount_0f7a4_34 : decode cJ6_bitCount_0f7a4 34 = .ok (.iload_n 0, 1) := by decide +kernel
theorem dJ6_bitCount_0f7a4_35 : decode cJ6_bitCount_0f7a4 35 = .ok (.iload_n 0, 1) := by decide +kernel
theorem dJ6_bitCount_0f7a4_36 : decode cJ6_bitCount_0f7a4 36 = .ok (.bipush 8, 2) := by decide +kernel
theorem dJ6_bitCount_0f7a4_38 : decode cJ6_bitCount_0f7a4 38 = .ok (.iushr, 1) := by decide +kernel
theorem dJ6_bitCount_0f7a4_39 : decode cJ6_bitCount_0f7a4 39 = .ok (.iadd, 1) := by decide +kernel
theorem dJ6_bitCount_0f7a4_40 : decode cJ6_bitCount_0f7a4 40 = .ok (.istore_n 0, 1) := by decide +kernel
theorem dJ6_bitCount_0f7a4_41 : decode cJ6_bitCount_0f7a4 41 = .ok (.iload_n 0, 1) := by decide +kernel
theorem dJ6_bitCount_0f7a4_42 : decode cJ6_bitCount_0f7a4 42 = .ok (.iload_n 0, 1) := by decide +kernel
theorem dJ6_bitCount_0f7a4_43 : decode cJ6_bitCount_0f7a4 43 = .ok (.bipush 16, 2) := by decide +kernel
theorem dJ6_bitCount_0f7a4_45 : decode cJ6_bitCount_0f7a4 45 = .ok (.iushr, 1) := by decide +kernel
theorem dJ6_bitCount_0f7a4_46 : decode cJ6_bitCount_0f7a4 46 = .ok (.iadd, 1) := by decide +kernel
theorem dJ6_bitCount_0f7a4_47 : decode cJ6_bitCount_0f7a4 47 = .ok (.istore_n 0, 1) := by decide +kernel
theorem dJ6_bitCount_0f7a4_48 : decode cJ6_bitCount_0f7a4 48 = .ok (.iload_n 0, 1) := by decide +kernel
theorem dJ6_bitCount_0f7a4_49 : decode cJ6_bitCount_0f7a4 49 = .ok (.bipush 63, 2) := by decide +kernel
theorem dJ6_bitCount_0f7a4_51 : decode cJ6_bitCount_0f7a4 51 = .ok (.iand, 1) := by decide +kernel
theorem dJ6_bitCount_0f7a4_52 : decode cJ6_bitCount_0f7a4 52 = .ok (.ireturn, 1) := by decide +kernel
theorem dJ9_floorMod_7cf53_0 : decode cJ9_floorMod_7cf53 0 = .ok (.iload_n 0, 1) := by decide +kernel
theorem dJ9_floorMod_7cf53_1 : decode cJ9_floorMod_7cf53 1 = .ok (.iload_n 1, 1) := by decide +kernel
theorem dJ9_floorMod_7cf53_2 : decode cJ9_floorMod_7cf53 2 = .ok (.irem, 1) := by decide +kernel
theorem dJ9_floorMod_7cf53_3 : decode cJ9_floorMod_7cf53 3 = .ok (.istore_n 2, 1) := by decide +kernel
theorem dJ9_floorMod_7cf53_4 : decode cJ9_floorMod_7cf53 4 = .ok (.iload_n 0, 1) := by decide +kernel
theorem dJ9_floorMod_7cf53_5 : decode cJ9_floorMod_7cf53 5 = .ok (.iload_n 1, 1) := by decide +kernel
theorem dJ9_floorMod_7cf53_6 : decode cJ9_floorMod_7cf53 6 = .ok (.ixor, 1) := by decide +kernel
theorem dJ9_floorMod_7cf53_7 : decode cJ9_floorMod_7cf53 7 = .ok (.ifCond .ge 11, 3) := by decide +kernel
theorem dJ9_floorMod_7cf53_10 : decode cJ9_floorMod_7cf53 10 = .ok (.iload_n 2, 1) := by decide +kernel
theorem dJ9_floorMod_7cf53_11 : decode cJ9_floorMod_7cf53 11 = .ok (.ifCond .eq 7, 3) := by decide +kernel
theorem dJ9_floorMod_7cf53_14 : decode cJ9_floorMod_7cf53 14 = .ok (.iload_n 2, 1) := by decide +kernel
theorem dJ9_floorMod_7cf53_15 : decode cJ9_floorMod_7cf53 15 = .ok (.iload_n 1, 1) := by decide +kernel
theorem dJ9_floorMod_7cf53_16 : decode cJ9_floorMod_7cf53 16 = .ok (.iadd, 1) := by decide +kernel
theorem dJ9_floorMod_7cf53_17 : decode cJ9_floorMod_7cf53 17 = .ok (.ireturn, 1) := by decide +kernel
theorem dJ9_floorMod_7cf53_18 : decode cJ9_floorMod_7cf53 18 = .ok (.iload_n 2, 1) := by decide +kernel
theorem dJ9_floorMod_7cf53_19 : decode cJ9_floorMod_7cf53 19 = .ok (.ireturn, 1) := by decide +kernel
theorem dJ9_max_7cf53_0 : decode cJ9_max_7cf53 0 = .ok (.iload_n 0, 1) := by decide +kernel
theorem dJ9_max_7cf53_1 : decode cJ9_max_7cf53 1 = .ok (.iload_n 1, 1) := by decide +kernel
theorem dJ9_max_7cf53_2 : decode cJ9_max_7cf53 2 = .ok (.if_icmp .lt 7, 3) := by decide +kernel
theorem dJ9_max_7cf53_5 : decode cJ9_max_7cf53 5 = .ok (.iload_n 0, 1) := by decide +kernel
theorem dJ9_max_7cf53_6 : decode cJ9_max_7cf53 6 = .ok (.goto 4, 3) := by decide +kernel
theorem dJ9_max_7cf53_9 : decode cJ9_max_7cf53 9 = .ok (.iload_n 1, 1) := by decide +kernel
theorem dJ9_max_7cf53_10 : decode cJ9_max_7cf53 10 = .ok (.ireturn, 1) := by decide +kernel
theorem dJ9_min_7cf53_0 : decode cJ9_min_7cf53 0 = .ok (.iload_n 0, 1) := by decide +kernel
theorem dJ9_min_7cf53_1 : decode cJ9_min_7cf53 1 = .ok (.iload_n 1, 1) := by decide +kernel
theorem dJ9_min_7cf53_2 : decode cJ9_min_7cf53 2 = .ok (.if_icmp .gt 7, 3) := by decide +kernel
theorem dJ9_min_7cf53_5 : decode cJ9_min_7cf53 5 = .ok (.iload_n 0, 1) := by decide +kernel
theorem dJ9_min_7cf53_6 : decode cJ9_min_7cf53 6 = .ok (.goto 4, 3) := by decide +kernel
theorem dJ9_min_7cf53_9 : decode cJ9_min_7cf53 9 = .ok (.iload_n 1, 1) := by decide +kernel
theorem dJ9_min_7cf53_10 : decode cJ9_min_7cf53 10 = .ok (.ireturn, 1) := by decide +kernel
theorem dJ7_fill_53178_0 : decode cJ7_fill_53178 0 = .ok (.iconst 0, 1) := by decide +kernel
theorem dJ7_fill_53178_1 : decode cJ7_fill_53178 1 = .ok (.istore_n 2, 1) := by decide +kernel
theorem dJ7_fill_53178_2 : decode cJ7_fill_53178 2 = .ok (.aload_n 0, 1) := by decide +kernel
theorem dJ7_fill_53178_3 : decode cJ7_fill_53178 3 = .ok (.arraylength, 1) := by decide +kernel
theorem dJ7_fill_53178_4 : decode cJ7_fill_53178 4 = .ok (.istore_n 3, 1) := by decide +kernel
theorem dJ7_fill_53178_5 : decode cJ7_fill_53178 5 = .ok (.iload_n 2, 1) := by decide +kernel
theorem dJ7_fill_53178_6 : decode cJ7_fill_53178 6 = .ok (.iload_n 3, 1) := by decide +kernel
theorem dJ7_fill_53178_7 : decode cJ7_fill_53178 7 = .ok (.if_icmp .ge 13, 3) := by decide +kernel
theorem dJ7_fill_53178_10 : decode cJ7_fill_53178 10 = .ok (.aload_n 0, 1) := by decide +kernel
theorem dJ7_fill_53178_11 : decode cJ7_fill_53178 11 = .ok (.iload_n 2, 1) := by decide +kernel
theorem dJ7_fill_53178_12 : decode cJ7_fill_53178 12 = .ok (.iload_n 1, 1) := by decide +kernel
theorem dJ7_fill_53178_13 : decode cJ7_fill_53178 13 = .ok (.iastore, 1) := by decide +kernel
theorem dJ7_fill_53178_14 : decode cJ7_fill_53178 14 = .ok (.iinc 2 1, 3) := by decide +kernel
theorem dJ7_fill_53178_17 : decode cJ7_fill_53178 17 = .ok (.goto (-12), 3) := by decide +kernel
theorem dJ7_fill_53178_20 : decode cJ7_fill_53178 20 = .ok (.return_, 1) := by decide +kernel
end
section
/-! OUR OWN KIT: contracts of methods that make no cells; read-only ones (RO), writing ones (MU, MI) -/
abbrev Kt : Type := ClassId × ClassId × ClassId × ClassId
abbrev KT (k : Kt) : List (ClassId × FieldType) := [(k.1, .int), (k.2.1, .boolean), (k.2.2.1, .long), (k.2.2.2, .array .int)]
def NN (U : State) : Prop := va_Nw (.methodLinkNest RX7 41 yX9_isWithin RX9) U ∧ va_Nw (.methodLinkNest RX6 34 yX9_isInSet RX9) U ∧ va_Nw (.methodLinkNest RX8 81 yX9_isInSet RX9) U
def GW (D : va_G) (k : Kt) (U : State) : Prop := va_K D vwCl (KT k) U ∧ NN U
theorem GW.warm {D : va_G} {k : Kt} {s U : State} (hW : s.WarmedH U.vm) (h : GW D k s) : GW D k U := ⟨va_K.moved hW.alike h.1, va_Nw.warmM hW h.2.1, va_Nw.warmM hW h.2.2.1, va_Nw.warmM hW h.2.2.2⟩
theorem GW.calling {D : va_G} {k : Kt} {U : State} {g : JFrame} {mk : MethodId} {a : Array Value} (h : GW D k U) : GW D k (U.calling g mk a) := ⟨va_K.moved (u := U) (U := U.calling g mk a) (Vm.Alike.refl U.vm) h.1, va_Nw.same rfl rfl h.2.1, va_Nw.same rfl rfl h.2.2.1, va_Nw.same rfl rfl h.2.2.2⟩
/-- the addresses of a world -/
def fA (ws : va_W) : Nat → Prop := fun q => ∃ (i : Nat) (e : va_E), ws[i]? = some (q, e)
theorem fA_D {ws : va_W} {A : Nat → Prop} (h : va_D A ws) : va_D (fA ws) ws := ⟨h.1, fun i q hq => ⟨i, q.2, hq⟩⟩
theorem D_addr {A : Nat → Prop} {ws ws' : va_W} (h : ws'.map Prod.fst = ws.map Prod.fst) (hD : va_D A ws) : va_D A ws' := by
  have key : ∀ (i : Nat) (q : Nat × va_E), ws'[i]? = some q → ∃ q0, ws[i]? = some q0 ∧ q0.1 = q.1 := by
    intro i q hq
    have h1 : (ws'.map Prod.fst)[i]? = some q.1 := by rw [List.getElem?_map, hq]; rfl
    rw [h, List.getElem?_map] at h1
    cases hw : ws[i]? with
    | none => rw [hw] at h1; cases h1
    | some q0 => rw [hw] at h1; exact ⟨q0, rfl, Option.some.inj h1⟩
  refine ⟨fun i j x y hi hj hxy => ?_, fun i q hq => ?_⟩
  · obtain ⟨x0, h1, h2⟩ := key i x hi
    obtain ⟨y0, h3, h4⟩ := key j y hj
    exact hD.1 i j x0 y0 h1 h3 (by rw [h2, h4, hxy])
  · obtain ⟨q0, h1, h2⟩ := key i q hq
    rw [← h2]
    exact hD.2 i q0 h1
theorem fA_sub {A : Nat → Prop} {ws wc : va_W} (hD : va_D A ws) (is : List Nat) (hC : is.map (fun i => ws[i]?) = wc.map some) : ∀ q, fA wc q → A q := by
  intro q h
  obtain ⟨i, e, h⟩ := h
  have h1 : (is.map (fun i => ws[i]?))[i]? = some (some (q, e)) := by rw [hC, List.getElem?_map, h]; rfl
  rw [List.getElem?_map] at h1
  cases hi : is[i]? with
  | none => rw [hi] at h1; cases h1
  | some j => rw [hi] at h1; exact hD.2 j (q, e) (Option.some.inj h1)
def sA : va_W → List Nat → va_W → va_W
  | ws, i :: is, x :: xs => sA (ws.set i x) is xs
  | ws, _, _ => ws
theorem sA_get : ∀ (is : List Nat) (xs ws : va_W) (i : Nat) (q : Nat × va_E), xs.length = is.length → (sA ws is xs)[i]? = some q → (i ∉ is ∧ ws[i]? = some q) ∨ ∃ j : Nat, xs[j]? = some q
  | [], xs, ws, i, q, hl, h => by
    cases xs with
    | nil => exact Or.inl ⟨List.not_mem_nil, h⟩
    | cons x xs => cases hl
  | j :: is, xs, ws, i, q, hl, h => by
    cases xs with
    | nil => cases hl
    | cons x xs =>
      rcases sA_get is xs (ws.set j x) i q (Nat.succ.inj hl) h with ⟨h1, h2⟩ | ⟨j', h1⟩
      · by_cases hij : i = j
        · subst hij
          by_cases hlt : i < ws.length
          · rw [List.getElem?_set_self hlt] at h2
            exact Or.inr ⟨0, h2⟩
          · rw [List.getElem?_eq_none (by rw [List.length_set]; omega)] at h2
            cases h2
        · rw [List.getElem?_set_ne (Ne.symm hij)] at h2
          exact Or.inl ⟨fun hm => by rcases List.mem_cons.mp hm with e | e; exact hij e; exact h1 e, h2⟩
      · exact Or.inr ⟨j' + 1, h1⟩
/-- behind a call that makes nothing: the callee's cells in their places, the others as they were -/
theorem jn {A0 : Nat → Prop} {D : va_G} {cl : List vw_C} {ws wc w1 : va_W} {H H1 : Heap} (hP : va_P D cl ws H) (hD : va_D A0 ws) (is : List Nat) (hC : is.map (fun i => ws[i]?) = wc.map some) (hk : ∀ q : Nat, q < H.size → ¬ fA wc q → H1[q]? = H[q]?) (hP1 : va_P D cl w1 H1) (hl : w1.length = is.length) (ha : (sA ws is w1).map Prod.fst = ws.map Prod.fst) : va_P D cl (sA ws is w1) H1 ∧ va_D A0 (sA ws is w1) := by
  refine ⟨fun i q hq => ?_, D_addr ha hD⟩
  rcases sA_get is w1 ws i q hl hq with ⟨h1, h2⟩ | ⟨j, h1⟩
  · refine (hP i q h2).kept (hk q.1 (hP i q h2).lt (fun hf => ?_))
    obtain ⟨j, e, hj⟩ := hf
    have h3 : (is.map (fun i => ws[i]?))[j]? = some (some (q.1, e)) := by rw [hC, List.getElem?_map, hj]; rfl
    rw [List.getElem?_map] at h3
    cases hi : is[j]? with
    | none => rw [hi] at h3; cases h3
    | some j' =>
      rw [hi] at h3
      have h4 : ws[j']? = some (q.1, e) := Option.some.inj h3
      have h5 := hD.1 i j' q (q.1, e) h2 h4 rfl
      subst h5
      exact h1 (List.mem_of_getElem? hi)
  · exact hP1 j q h1
/-- a contract that writes nothing: arguments, world, what its answer is -/
def RO (l : Launch) (D : va_G) (k : Kt) (y : MethodName) (wy : List Cond) (fr lo : Nat) (as : List Value) (ws : va_W) (post : Int32 → Prop) : Prop :=
  Met l y wy ({ frames := fr, cells := 0, slots := 0, locals := lo }) (va_Pc as (fun U => va_P D vwCl ws U.heap ∧ GW D k U)) (vp_Si post) 0 0 (fun _ => False)
/-- a contract that writes in its world, and answers nothing -/
def MU (l : Launch) (D : va_G) (k : Kt) (y : MethodName) (wy : List Cond) (fr lo : Nat) (as : List Value) (ws : va_W) {S : Type} (post : S → Prop) (w' : S → va_W) : Prop :=
  Met l y wy ({ frames := fr, cells := 0, slots := 0, locals := lo }) (va_Pc as (fun U => va_P D vwCl ws U.heap ∧ GW D k U ∧ va_D (fun _ => True) ws)) (va_Qv post (fun u t => va_P D vwCl (w' u) t.heap) (fA ws)) 0 0 (fA ws)
/-- a contract that writes in its world, and answers a number -/
def MI (l : Launch) (D : va_G) (k : Kt) (y : MethodName) (wy : List Cond) (fr lo : Nat) (as : List Value) (ws : va_W) {S : Type} (post : Int32 → S → Prop) (w' : S → va_W) : Prop :=
  Met l y wy ({ frames := fr, cells := 0, slots := 0, locals := lo }) (va_Pc as (fun U => va_P D vwCl ws U.heap ∧ GW D k U ∧ va_D (fun _ => True) ws)) (va_Qi post (fun u t => va_P D vwCl (w' u) t.heap) (fA ws)) 0 0 (fA ws)
/-- .. and answers a long -/
def ML (l : Launch) (D : va_G) (k : Kt) (y : MethodName) (wy : List Cond) (fr lo : Nat) (as : List Value) (ws : va_W) {S : Type} (post : Int64 → S → Prop) (w' : S → va_W) : Prop :=
  Met l y wy ({ frames := fr, cells := 0, slots := 0, locals := lo }) (va_Pc as (fun U => va_P D vwCl ws U.heap ∧ GW D k U ∧ va_D (fun _ => True) ws)) (va_Ql post (fun u t => va_P D vwCl (w' u) t.heap) (fA ws)) 0 0 (fA ws)
/-- .. and answers a cell that is told ahead -/
def MR (l : Launch) (D : va_G) (k : Kt) (y : MethodName) (wy : List Cond) (fr lo : Nat) (as : List Value) (ws : va_W) (ra : Nat) {S : Type} (post : S → Prop) (w' : S → va_W) : Prop :=
  Met l y wy ({ frames := fr, cells := 0, slots := 0, locals := lo }) (va_Pc as (fun U => va_P D vwCl ws U.heap ∧ GW D k U ∧ va_D (fun _ => True) ws)) (va_Qr post (fun u a t => a = ra ∧ va_P D vwCl (w' u) t.heap) (fA ws)) 0 0 (fA ws)
theorem blindR {as : List Value} {D : va_G} {k : Kt} {ws : va_W} : FrameBlind (va_Pc as (fun U => va_P D vwCl ws U.heap ∧ GW D k U)) := fun a U g mk q => ⟨q.1, q.2.1, q.2.2.calling⟩
theorem blindM {as : List Value} {D : va_G} {k : Kt} {ws : va_W} : FrameBlind (va_Pc as (fun U => va_P D vwCl ws U.heap ∧ GW D k U ∧ va_D (fun _ => True) ws)) := fun a U g mk q => ⟨q.1, q.2.1, q.2.2.1.calling, q.2.2.2⟩
section OK1
variable {p : Program} {l : Launch} {e : Env} {R : Room} {s : State} {m : MethodId} {args : Array Value} {below : List Frame} {meth : Method} {c : Code} {H H0 : Heap} {locs : List Loc} {cells slots : Nat} {Q : State → Prop}
  {Ts wy wy' : List Cond} {cc bytes : ByteArray} {nL maxL index n pc fr lo ci N : Nat} {own C host : String} {T : u_T} {y : MethodName} {ret : Option FieldType} {b : Nat} {fs : List Value}
  {As rest st0 : List Value} {ls : Array Slot} {D : va_G} {k : Kt} {ws wc : va_W} {A0 : Nat → Prop}
theorem te {x y : Int32} (h : x = y) (kk : W p l e R s m args below meth c H locs cells slots Q (F0 m pc ls (.int y :: rest))) : W p l e R s m args below meth c H locs cells slots Q (F0 m pc ls (.int x :: rest)) := h ▸ kk
theorem tel {x y : Int64} (h : x = y) (kk : W p l e R s m args below meth c H locs cells slots Q (F0 m pc ls (.long y :: rest))) : W p l e R s m args below meth c H locs cells slots Q (F0 m pc ls (.long x :: rest)) := h ▸ kk
theorem roV {post : Int32 → Prop} (S : CallFix p m c cc nL s args Ts own) (hM : RO l D k y wy fr lo (.ref b :: As) wc post) (hG : GoodIn Ts (wsV own index C y wy)) (hw : wy = Cond.code y bytes maxL ret :: wy') (hd : y.cls = C ∧ y.cls ≠ "java/lang/invoke/MethodHandle" ∧ y.cls ≠ "java/lang/invoke/VarHandle" ∧ (parseMethodDescriptor y.desc).map (fun d => d.parameters.length) = some n) (hR : fr + 1 ≤ R.frames ∧ 8 + (maxL + 11) + lo ≤ R.locals)
    (hK : GW D k s) (hP : va_P D vwCl ws H) (is : List Nat) (hs : is.filterMap (fun i => ws[i]?) = wc) (q0 : Nat) (he : wc[q0]? = some (b, .inr (ci, fs))) (hc : vwCl[ci]? = some (C, T, N)) (hn : As.length = n) (hsz : ls.size = nL) (hst : st0 = As.reverse ++ .ref b :: rest) (hW : (rest.map fun v => v.category).sum ≤ 8) (hdg : decode cc pc = .ok (.invokevirtual index, 3)) (hf : cells ≤ R.cells ∧ slots ≤ R.slots)
    (kk : ∀ r : Int32, post r → W p l e R s m args below meth c H locs cells slots Q (F0 m (pc + 3) ls (.int r :: rest))) : W p l e R s m args below meth c H locs cells slots Q (F0 m pc ls st0) := by
  have hPc := hP.sub is hs
  exact vp_callSi (va_runV (g := F0 m pc ls st0) S hM (cwV n S.2.2.2.2 hG hw rfl rfl hd hR) ⟨blindR, va_recv hK.1 hPc hc he, fun U hU hW => ⟨rfl, by rw [hU]; exact hPc, hK.warm hW⟩⟩ rfl hn hsz hst (by show 2 * 0 + _ ≤ 8; omega) hdg hf).run kk
theorem roS {post : Int32 → Prop} (S : CallFix p m c cc nL s args Ts own) (hM : RO l D k y wy fr lo As wc post) (hG : GoodIn Ts (va_wsS own index y wy)) (hw : wy = Cond.code y bytes maxL ret :: wy') (hd : y.cls ≠ "java/lang/invoke/MethodHandle" ∧ y.cls ≠ "java/lang/invoke/VarHandle" ∧ (parseMethodDescriptor y.desc).map (fun d => d.parameters.length) = some n) (hR : fr + 1 ≤ R.frames ∧ 8 + (maxL + 11) + lo ≤ R.locals)
    (hK : GW D k s) (hP : va_P D vwCl ws H) (is : List Nat) (hs : is.filterMap (fun i => ws[i]?) = wc) (hn : As.length = n) (hsz : ls.size = nL) (hst : st0 = As.reverse ++ rest) (hW : (rest.map fun v => v.category).sum ≤ 8) (hdg : decode cc pc = .ok (.invokestatic index, 3)) (hf : cells ≤ R.cells ∧ slots ≤ R.slots)
    (kk : ∀ r : Int32, post r → W p l e R s m args below meth c H locs cells slots Q (F0 m (pc + 3) ls (.int r :: rest))) : W p l e R s m args below meth c H locs cells slots Q (F0 m pc ls st0) := by
  have hPc := hP.sub is hs
  exact vp_callSi (va_runS (g := F0 m pc ls st0) S hM (va_cwS n S.2.2.2.2 hG hw rfl rfl hd hR) ⟨blindR, fun U hU hW => ⟨rfl, by rw [hU]; exact hPc, hK.warm hW⟩⟩ rfl hn hsz hst (by show 2 * 0 + _ ≤ 8; omega) hdg hf).run kk
theorem roSN {post : Int32 → Prop} (S : CallFix p m c cc nL s args Ts own) (hM : RO l D k y wy fr lo As wc post) (hG : GoodIn Ts wy) (hw : wy = Cond.code y bytes maxL ret :: wy') (hl : va_Nw (.methodLinkNest own index y host) s) (hini : (Cond.initialized y.cls).before args s = true) (hst0 : (Cond.static y).before args s = true) (hd : y.cls ≠ "java/lang/invoke/MethodHandle" ∧ y.cls ≠ "java/lang/invoke/VarHandle" ∧ (parseMethodDescriptor y.desc).map (fun d => d.parameters.length) = some n) (hR : fr + 1 ≤ R.frames ∧ 8 + (maxL + 11) + lo ≤ R.locals)
    (hK : GW D k s) (hP : va_P D vwCl ws H) (is : List Nat) (hs : is.filterMap (fun i => ws[i]?) = wc) (hn : As.length = n) (hsz : ls.size = nL) (hst : st0 = As.reverse ++ rest) (hW : (rest.map fun v => v.category).sum ≤ 8) (hdg : decode cc pc = .ok (.invokestatic index, 3)) (hf : cells ≤ R.cells ∧ slots ≤ R.slots)
    (kk : ∀ r : Int32, post r → W p l e R s m args below meth c H locs cells slots Q (F0 m (pc + 3) ls (.int r :: rest))) : W p l e R s m args below meth c H locs cells slots Q (F0 m pc ls st0) := by
  have hPc := hP.sub is hs
  exact vp_callSi (va_runSN (g := F0 m pc ls st0) S hM ⟨va_cnB n S.2.2.2.2 hG hw rfl rfl hl hini hd hR, hst0, trivial⟩ ⟨blindR, fun U hU hW => ⟨rfl, by rw [hU]; exact hPc, hK.warm hW⟩⟩ rfl hn hsz hst (by show 2 * 0 + _ ≤ 8; omega) hdg hf).run kk
theorem muV {Sy : Type} {post : Sy → Prop} {w' : Sy → va_W} (S : CallFix p m c cc nL s args Ts own) (hM : MU l D k y wy fr lo (.ref b :: As) wc post w') (hG : GoodIn Ts (wsV own index C y wy)) (hw : wy = Cond.code y bytes maxL ret :: wy') (hd : y.cls = C ∧ y.cls ≠ "java/lang/invoke/MethodHandle" ∧ y.cls ≠ "java/lang/invoke/VarHandle" ∧ (parseMethodDescriptor y.desc).map (fun d => d.parameters.length) = some n) (hR : fr + 1 ≤ R.frames ∧ 8 + (maxL + 11) + lo ≤ R.locals)
    (hK : GW D k s) (hP : va_P D vwCl ws H) (hD : va_D A0 ws) (hS : va_S A0 H0 H locs) (is : List Nat) (hs : is.filterMap (fun i => ws[i]?) = wc) (hC : is.map (fun i => ws[i]?) = wc.map some) (hnd : va_nd is = true) (hl : ∀ u, (w' u).length = is.length) (ha : ∀ u, (sA ws is (w' u)).map Prod.fst = ws.map Prod.fst) (q0 : Nat) (he : wc[q0]? = some (b, .inr (ci, fs))) (hc : vwCl[ci]? = some (C, T, N)) (hn : As.length = n) (hsz : ls.size = nL) (hst : st0 = As.reverse ++ .ref b :: rest) (hW : (rest.map fun v => v.category).sum ≤ 8) (hdg : decode cc pc = .ok (.invokevirtual index, 3)) (hf : cells ≤ R.cells ∧ slots ≤ R.slots)
    (kk : ∀ (u : Sy) (H1 : Heap) (locs1 : List Loc), post u → va_P D vwCl (sA ws is (w' u)) H1 → va_D A0 (sA ws is (w' u)) → va_S A0 H0 H1 locs1 → W p l e R s m args below meth c H1 locs1 cells slots Q (F0 m (pc + 3) ls rest)) : W p l e R s m args below meth c H locs cells slots Q (F0 m pc ls st0) := by
  have hPc := hP.sub is hs
  have hDc : va_D (fun _ => True) wc := (hD.sub is hnd hC).weaken (fun _ _ _ _ => trivial)
  have hF := fA_sub hD is hC
  refine va_callv (va_runV (g := F0 m pc ls st0) S hM (cwV n S.2.2.2.2 hG hw rfl rfl hd hR) ⟨blindM, va_recv hK.1 hPc hc he, fun U hU hW => ⟨rfl, by rw [hU]; exact hPc, hK.warm hW, hDc⟩⟩ rfl hn hsz hst (by show 2 * 0 + _ ≤ 8; omega) hdg hf) hS (fun q _ h => hF q h) hF (fun u t H1 locs1 ht hvm hp hB hz1 hk1 hS1 => ?_)
  rw [ht] at hB
  obtain ⟨h1, h2⟩ := jn hP hD is hC hk1 hB (hl u) (ha u)
  exact kk u H1 locs1 hp h1 h2 hS1
theorem miV {Sy : Type} {post : Int32 → Sy → Prop} {w' : Sy → va_W} (S : CallFix p m c cc nL s args Ts own) (hM : MI l D k y wy fr lo (.ref b :: As) wc post w') (hG : GoodIn Ts (wsV own index C y wy)) (hw : wy = Cond.code y bytes maxL ret :: wy') (hd : y.cls = C ∧ y.cls ≠ "java/lang/invoke/MethodHandle" ∧ y.cls ≠ "java/lang/invoke/VarHandle" ∧ (parseMethodDescriptor y.desc).map (fun d => d.parameters.length) = some n) (hR : fr + 1 ≤ R.frames ∧ 8 + (maxL + 11) + lo ≤ R.locals)
    (hK : GW D k s) (hP : va_P D vwCl ws H) (hD : va_D A0 ws) (hS : va_S A0 H0 H locs) (is : List Nat) (hs : is.filterMap (fun i => ws[i]?) = wc) (hC : is.map (fun i => ws[i]?) = wc.map some) (hnd : va_nd is = true) (hl : ∀ u, (w' u).length = is.length) (ha : ∀ u, (sA ws is (w' u)).map Prod.fst = ws.map Prod.fst) (q0 : Nat) (he : wc[q0]? = some (b, .inr (ci, fs))) (hc : vwCl[ci]? = some (C, T, N)) (hn : As.length = n) (hsz : ls.size = nL) (hst : st0 = As.reverse ++ .ref b :: rest) (hW : (rest.map fun v => v.category).sum ≤ 8) (hdg : decode cc pc = .ok (.invokevirtual index, 3)) (hf : cells ≤ R.cells ∧ slots ≤ R.slots)
    (kk : ∀ (r : Int32) (u : Sy) (H1 : Heap) (locs1 : List Loc), post r u → va_P D vwCl (sA ws is (w' u)) H1 → va_D A0 (sA ws is (w' u)) → va_S A0 H0 H1 locs1 → W p l e R s m args below meth c H1 locs1 cells slots Q (F0 m (pc + 3) ls (.int r :: rest))) : W p l e R s m args below meth c H locs cells slots Q (F0 m pc ls st0) := by
  have hPc := hP.sub is hs
  have hDc : va_D (fun _ => True) wc := (hD.sub is hnd hC).weaken (fun _ _ _ _ => trivial)
  have hF := fA_sub hD is hC
  refine va_calli (va_runV (g := F0 m pc ls st0) S hM (cwV n S.2.2.2.2 hG hw rfl rfl hd hR) ⟨blindM, va_recv hK.1 hPc hc he, fun U hU hW => ⟨rfl, by rw [hU]; exact hPc, hK.warm hW, hDc⟩⟩ rfl hn hsz hst (by show 2 * 0 + _ ≤ 8; omega) hdg hf) hS (fun q _ h => hF q h) hF (fun r u t H1 locs1 ht hvm hp hB hz1 hk1 hS1 => ?_)
  rw [ht] at hB
  obtain ⟨h1, h2⟩ := jn hP hD is hC hk1 hB (hl u) (ha u)
  exact kk r u H1 locs1 hp h1 h2 hS1
theorem mlV {Sy : Type} {post : Int64 → Sy → Prop} {w' : Sy → va_W} (S : CallFix p m c cc nL s args Ts own) (hM : ML l D k y wy fr lo (.ref b :: As) wc post w') (hG : GoodIn Ts (wsV own index C y wy)) (hw : wy = Cond.code y bytes maxL ret :: wy') (hd : y.cls = C ∧ y.cls ≠ "java/lang/invoke/MethodHandle" ∧ y.cls ≠ "java/lang/invoke/VarHandle" ∧ (parseMethodDescriptor y.desc).map (fun d => d.parameters.length) = some n) (hR : fr + 1 ≤ R.frames ∧ 8 + (maxL + 11) + lo ≤ R.locals)
    (hK : GW D k s) (hP : va_P D vwCl ws H) (hD : va_D A0 ws) (hS : va_S A0 H0 H locs) (is : List Nat) (hs : is.filterMap (fun i => ws[i]?) = wc) (hC : is.map (fun i => ws[i]?) = wc.map some) (hnd : va_nd is = true) (hl : ∀ u, (w' u).length = is.length) (ha : ∀ u, (sA ws is (w' u)).map Prod.fst = ws.map Prod.fst) (q0 : Nat) (he : wc[q0]? = some (b, .inr (ci, fs))) (hc : vwCl[ci]? = some (C, T, N)) (hn : As.length = n) (hsz : ls.size = nL) (hst : st0 = As.reverse ++ .ref b :: rest) (hW : (rest.map fun v => v.category).sum ≤ 8) (hdg : decode cc pc = .ok (.invokevirtual index, 3)) (hf : cells ≤ R.cells ∧ slots ≤ R.slots)
    (kk : ∀ (r : Int64) (u : Sy) (H1 : Heap) (locs1 : List Loc), post r u → va_P D vwCl (sA ws is (w' u)) H1 → va_D A0 (sA ws is (w' u)) → va_S A0 H0 H1 locs1 → W p l e R s m args below meth c H1 locs1 cells slots Q (F0 m (pc + 3) ls (.long r :: rest))) : W p l e R s m args below meth c H locs cells slots Q (F0 m pc ls st0) := by
  have hPc := hP.sub is hs
  have hDc : va_D (fun _ => True) wc := (hD.sub is hnd hC).weaken (fun _ _ _ _ => trivial)
  have hF := fA_sub hD is hC
  refine va_calll (va_runV (g := F0 m pc ls st0) S hM (cwV n S.2.2.2.2 hG hw rfl rfl hd hR) ⟨blindM, va_recv hK.1 hPc hc he, fun U hU hW => ⟨rfl, by rw [hU]; exact hPc, hK.warm hW, hDc⟩⟩ rfl hn hsz hst (by show 2 * 0 + _ ≤ 8; omega) hdg hf) hS (fun q _ h => hF q h) hF (fun r u t H1 locs1 ht hvm hp hB hz1 hk1 hS1 => ?_)
  rw [ht] at hB
  obtain ⟨h1, h2⟩ := jn hP hD is hC hk1 hB (hl u) (ha u)
  exact kk r u H1 locs1 hp h1 h2 hS1
theorem mrV {ra : Nat} {Sy : Type} {post : Sy → Prop} {w' : Sy → va_W} (S : CallFix p m c cc nL s args Ts own) (hM : MR l D k y wy fr lo (.ref b :: As) wc ra post w') (hG : GoodIn Ts (wsV own index C y wy)) (hw : wy = Cond.code y bytes maxL ret :: wy') (hd : y.cls = C ∧ y.cls ≠ "java/lang/invoke/MethodHandle" ∧ y.cls ≠ "java/lang/invoke/VarHandle" ∧ (parseMethodDescriptor y.desc).map (fun d => d.parameters.length) = some n) (hR : fr + 1 ≤ R.frames ∧ 8 + (maxL + 11) + lo ≤ R.locals)
    (hK : GW D k s) (hP : va_P D vwCl ws H) (hD : va_D A0 ws) (hS : va_S A0 H0 H locs) (is : List Nat) (hs : is.filterMap (fun i => ws[i]?) = wc) (hC : is.map (fun i => ws[i]?) = wc.map some) (hnd : va_nd is = true) (hl : ∀ u, (w' u).length = is.length) (ha : ∀ u, (sA ws is (w' u)).map Prod.fst = ws.map Prod.fst) (q0 : Nat) (he : wc[q0]? = some (b, .inr (ci, fs))) (hc : vwCl[ci]? = some (C, T, N)) (hn : As.length = n) (hsz : ls.size = nL) (hst : st0 = As.reverse ++ .ref b :: rest) (hW : (rest.map fun v => v.category).sum ≤ 8) (hdg : decode cc pc = .ok (.invokevirtual index, 3)) (hf : cells ≤ R.cells ∧ slots ≤ R.slots)
    (kk : ∀ (u : Sy) (H1 : Heap) (locs1 : List Loc), post u → va_P D vwCl (sA ws is (w' u)) H1 → va_D A0 (sA ws is (w' u)) → va_S A0 H0 H1 locs1 → W p l e R s m args below meth c H1 locs1 cells slots Q (F0 m (pc + 3) ls (.ref ra :: rest))) : W p l e R s m args below meth c H locs cells slots Q (F0 m pc ls st0) := by
  have hPc := hP.sub is hs
  have hDc : va_D (fun _ => True) wc := (hD.sub is hnd hC).weaken (fun _ _ _ _ => trivial)
  have hF := fA_sub hD is hC
  refine va_callr (va_runV (g := F0 m pc ls st0) S hM (cwV n S.2.2.2.2 hG hw rfl rfl hd hR) ⟨blindM, va_recv hK.1 hPc hc he, fun U hU hW => ⟨rfl, by rw [hU]; exact hPc, hK.warm hW, hDc⟩⟩ rfl hn hsz hst (by show 2 * 0 + _ ≤ 8; omega) hdg hf) hS (fun q _ h => hF q h) hF (fun u ra1 t H1 locs1 ht hvm hp hB hz1 hk1 hS1 => ?_)
  obtain ⟨he1, hB⟩ := hB
  subst he1
  rw [ht] at hB
  obtain ⟨h1, h2⟩ := jn hP hD is hC hk1 hB (hl u) (ha u)
  exact kk u H1 locs1 hp h1 h2 hS1
theorem muS {Sy : Type} {post : Sy → Prop} {w' : Sy → va_W} (S : CallFix p m c cc nL s args Ts own) (hM : MU l D k y wy fr lo As wc post w') (hG : GoodIn Ts (va_wsS own index y wy)) (hw : wy = Cond.code y bytes maxL ret :: wy') (hd : y.cls ≠ "java/lang/invoke/MethodHandle" ∧ y.cls ≠ "java/lang/invoke/VarHandle" ∧ (parseMethodDescriptor y.desc).map (fun d => d.parameters.length) = some n) (hR : fr + 1 ≤ R.frames ∧ 8 + (maxL + 11) + lo ≤ R.locals)
    (hK : GW D k s) (hP : va_P D vwCl ws H) (hD : va_D A0 ws) (hS : va_S A0 H0 H locs) (is : List Nat) (hs : is.filterMap (fun i => ws[i]?) = wc) (hC : is.map (fun i => ws[i]?) = wc.map some) (hnd : va_nd is = true) (hl : ∀ u, (w' u).length = is.length) (ha : ∀ u, (sA ws is (w' u)).map Prod.fst = ws.map Prod.fst) (hn : As.length = n) (hsz : ls.size = nL) (hst : st0 = As.reverse ++ rest) (hW : (rest.map fun v => v.category).sum ≤ 8) (hdg : decode cc pc = .ok (.invokestatic index, 3)) (hf : cells ≤ R.cells ∧ slots ≤ R.slots)
    (kk : ∀ (u : Sy) (H1 : Heap) (locs1 : List Loc), post u → va_P D vwCl (sA ws is (w' u)) H1 → va_D A0 (sA ws is (w' u)) → va_S A0 H0 H1 locs1 → W p l e R s m args below meth c H1 locs1 cells slots Q (F0 m (pc + 3) ls rest)) : W p l e R s m args below meth c H locs cells slots Q (F0 m pc ls st0) := by
  have hPc := hP.sub is hs
  have hDc : va_D (fun _ => True) wc := (hD.sub is hnd hC).weaken (fun _ _ _ _ => trivial)
  have hF := fA_sub hD is hC
  refine va_callv (va_runS (g := F0 m pc ls st0) S hM (va_cwS n S.2.2.2.2 hG hw rfl rfl hd hR) ⟨blindM, fun U hU hW => ⟨rfl, by rw [hU]; exact hPc, hK.warm hW, hDc⟩⟩ rfl hn hsz hst (by show 2 * 0 + _ ≤ 8; omega) hdg hf) hS (fun q _ h => hF q h) hF (fun u t H1 locs1 ht hvm hp hB hz1 hk1 hS1 => ?_)
  rw [ht] at hB
  obtain ⟨h1, h2⟩ := jn hP hD is hC hk1 hB (hl u) (ha u)
  exact kk u H1 locs1 hp h1 h2 hS1
end OK1
end
section
/-! NUMBERS AS WHOLE NUMBERS: every int on the stack is 'zI z' (z : Int), every int array 'zF g' (g : Nat → Int) -/
def zI (z : Int) : Int32 := Int32.ofInt z
def zL (z : Int) : Int64 := Int64.ofInt z
def zF (g : Nat → Int) : Nat → Int32 := fun j => zI (g j)
def zG (g : Nat → Int) : Nat → Int64 := fun j => zL (g j)
def upZ (g : Nat → Int) (k : Nat) (v : Int) : Nat → Int := fun j => if j = k then v else g j
theorem upZ_s {g : Nat → Int} {k : Nat} {v : Int} : upZ g k v k = v := if_pos rfl
theorem upZ_n {g : Nat → Int} {k j : Nat} {v : Int} (h : j ≠ k) : upZ g k v j = g j := if_neg h
theorem zF_upd (g : Nat → Int) (k : Nat) (v : Int) : upd (zF g) k (zI v) = zF (upZ g k v) := by
  funext j
  unfold upd zF upZ
  split <;> rfl
theorem zG_upd (g : Nat → Int) (k : Nat) (v : Int) : vp_updL (zG g) k (zL v) = zG (upZ g k v) := by
  funext j
  unfold vp_updL zG upZ
  split <;> rfl
theorem zI_nat (n : Nat) : zI (n : Int) = nI n := Int32.ofInt_eq_ofNat
theorem zL_nat (n : Nat) : zL (n : Int) = lN n := Int64.ofInt_eq_ofNat
theorem zI_of (x : Int32) : zI x.toInt = x := Int32.ofInt_toInt x
theorem zI_rg (x : Int32) : -2147483648 ≤ x.toInt ∧ x.toInt < 2147483648 := ⟨Int32.le_toInt x, Int32.toInt_lt x⟩
theorem zI_toInt {a : Int} (h : -2147483648 ≤ a ∧ a < 2147483648) : (zI a).toInt = a := Int32.toInt_ofInt_of_le h.1 h.2
theorem zL_toInt {a : Int} (h : -9223372036854775808 ≤ a ∧ a < 9223372036854775808) : (zL a).toInt = a := Int64.toInt_ofInt_of_le h.1 h.2
theorem zI_lt {a b : Int} (ha : -2147483648 ≤ a ∧ a < 2147483648) (hb : -2147483648 ≤ b ∧ b < 2147483648) : zI a < zI b ↔ a < b := by rw [Int32.lt_iff_toInt_lt, zI_toInt ha, zI_toInt hb]
theorem zI_le {a b : Int} (ha : -2147483648 ≤ a ∧ a < 2147483648) (hb : -2147483648 ≤ b ∧ b < 2147483648) : zI a ≤ zI b ↔ a ≤ b := by rw [Int32.le_iff_toInt_le, zI_toInt ha, zI_toInt hb]
theorem zI_eq {a b : Int} (ha : -2147483648 ≤ a ∧ a < 2147483648) (hb : -2147483648 ≤ b ∧ b < 2147483648) : zI a = zI b ↔ a = b := by rw [← Int32.toInt_inj, zI_toInt ha, zI_toInt hb]
theorem zI_0 : (0 : Int32) = zI 0 := by decide +kernel
theorem zI_add (a b : Int) : zI a + zI b = zI (a + b) := (Int32.ofInt_add a b).symm
theorem zI_sub (a b : Int) : zI a - zI b = zI (a - b) := (Int32.ofInt_sub a b).symm
theorem zI_mul (a b : Int) : zI a * zI b = zI (a * b) := (Int32.ofInt_mul a b).symm
theorem zL_add (a b : Int) : zL a + zL b = zL (a + b) := (Int64.ofInt_add a b).symm
theorem zL_sub (a b : Int) : zL a - zL b = zL (a - b) := (Int64.ofInt_sub a b).symm
theorem zL_mul (a b : Int) : zL a * zL b = zL (a * b) := (Int64.ofInt_mul a b).symm
theorem zI_div {a b : Int} (h0 : 0 ≤ a) (h1 : a < 2147483648) (h2 : 0 < b) (h3 : b < 2147483648) : zI a / zI b = zI (a / b) := by
  obtain ⟨n, rfl⟩ := Int.eq_ofNat_of_zero_le h0
  obtain ⟨d, rfl⟩ := Int.eq_ofNat_of_zero_le (Int.le_of_lt h2)
  rw [show ((n : Int) / (d : Int)) = ((n / d : Nat) : Int) from (Int.natCast_ediv n d).symm, zI_nat, zI_nat, zI_nat]
  exact pk_div (by omega) (by omega) (by omega)
theorem zI_rem {a b : Int} (h0 : 0 ≤ a) (h1 : a < 2147483648) (h2 : 0 < b) (h3 : b < 2147483648) : zI a - zI a / zI b * zI b = zI (a % b) := by
  rw [zI_div h0 h1 h2 h3, zI_mul, zI_sub]
  congr 1
  have := Int.mul_ediv_add_emod a b
  rw [Int.mul_comm] at this
  omega
theorem zL_div {a b : Int} (h0 : 0 ≤ a) (h1 : a < 9223372036854775808) (h2 : 0 < b) (h3 : b < 9223372036854775808) : zL a / zL b = zL (a / b) := by
  obtain ⟨n, rfl⟩ := Int.eq_ofNat_of_zero_le h0
  obtain ⟨d, rfl⟩ := Int.eq_ofNat_of_zero_le (Int.le_of_lt h2)
  rw [show ((n : Int) / (d : Int)) = ((n / d : Nat) : Int) from (Int.natCast_ediv n d).symm, zL_nat, zL_nat, zL_nat]
  exact pk_lDiv (by omega) (by omega) (by omega)
theorem zL_rem {a b : Int} (h0 : 0 ≤ a) (h1 : a < 9223372036854775808) (h2 : 0 < b) (h3 : b < 9223372036854775808) : zL a - zL a / zL b * zL b = zL (a % b) := by
  rw [zL_div h0 h1 h2 h3, zL_mul, zL_sub]
  congr 1
  have := Int.mul_ediv_add_emod a b
  rw [Int.mul_comm] at this
  omega
theorem zI_inj (a b : Nat) (h : nI a = nI b) (ha : a < 4294967296) (hb : b < 4294967296) : a = b := by
  have h1 : (nI a).toBitVec.toNat = (nI b).toBitVec.toNat := by rw [h]
  rwa [pk_tn ha, pk_tn hb] at h1
theorem bv_nI (n : Nat) : (nI n).toBitVec = BitVec.ofNat 32 n := rfl
theorem zI_and (a b : Nat) : zI (a : Int) &&& zI (b : Int) = zI ((a &&& b : Nat) : Int) := by
  rw [zI_nat, zI_nat, zI_nat]
  apply Int32.toBitVec_inj.mp
  rw [Int32.toBitVec_and, bv_nI, bv_nI, bv_nI, BitVec.ofNat_and]
theorem zI_or (a b : Nat) : zI (a : Int) ||| zI (b : Int) = zI ((a ||| b : Nat) : Int) := by
  rw [zI_nat, zI_nat, zI_nat]
  apply Int32.toBitVec_inj.mp
  rw [Int32.toBitVec_or, bv_nI, bv_nI, bv_nI, BitVec.ofNat_or]
theorem zI_xor (a b : Nat) : zI (a : Int) ^^^ zI (b : Int) = zI ((a ^^^ b : Nat) : Int) := by
  rw [zI_nat, zI_nat, zI_nat]
  apply Int32.toBitVec_inj.mp
  rw [Int32.toBitVec_xor, bv_nI, bv_nI, bv_nI, BitVec.ofNat_xor]
theorem zI_m1 : zI (-1) = zI ((4294967295 : Nat) : Int) := by decide +kernel
theorem zI_not {a : Nat} (h : a < 4294967296) : zI (a : Int) ^^^ zI (-1) = zI ((2 ^ 32 - (a + 1) : Nat) : Int) := by
  rw [zI_m1, zI_xor]
  congr 2
  apply Nat.eq_of_testBit_eq
  intro i
  rw [Nat.testBit_two_pow_sub_succ (by omega), Nat.testBit_xor, show (4294967295 : Nat) = 2 ^ 32 - 1 from by decide, Nat.testBit_two_pow_sub_one]
  by_cases hi : i < 32
  · simp [hi]
  · simp [hi, Nat.testBit_lt_two_pow (show a < 2 ^ i from Nat.lt_of_lt_of_le (show a < 2 ^ 32 by omega) (Nat.pow_le_pow_right (by decide) (by omega)))]
theorem sh_l : ∀ n, n < 32 → ((nI n &&& 31).toBitVec.smod 32).toNat = n := by decide +kernel
theorem sh_u : ∀ n, n < 32 → (((nI n).toUInt32 &&& Int32.toUInt32 31).toBitVec % 32).toNat = n := by decide +kernel
theorem zI_shl {a s : Nat} (hs : s < 32) (h : a <<< s < 4294967296) : zI (a : Int) <<< (zI (s : Int) &&& 31) = zI ((a <<< s : Nat) : Int) := by
  rw [Nat.shiftLeft_eq] at h
  rw [zI_nat, zI_nat, zI_nat, Nat.shiftLeft_eq]
  exact pk_shlN _ s (sh_l s hs) (by omega)
theorem zI_shr {a s : Nat} (hs : s < 32) (h : a < 2147483648) : zI (a : Int) >>> (zI (s : Int) &&& 31) = zI ((a >>> s : Nat) : Int) := by
  rw [zI_nat, zI_nat, zI_nat, Nat.shiftRight_eq_div_pow]
  exact pk_shrN (by omega) _ s (sh_l s hs)
theorem zI_ushr {a s : Nat} (hs : s < 32) (h : a < 4294967296) : ((zI (a : Int)).toUInt32 >>> ((zI (s : Int)).toUInt32 &&& Int32.toUInt32 31)).toInt32 = zI ((a >>> s : Nat) : Int) := by
  rw [zI_nat, zI_nat, zI_nat, Nat.shiftRight_eq_div_pow]
  exact pk_ushrN (by omega) _ s (sh_u s hs)
theorem zI_mask0 {a : Nat} (h : a < 4294967296) : zI (a : Int) = 0 ↔ a = 0 := by
  rw [zI_nat]
  exact ⟨fun h1 => zI_inj a 0 h1 h (by decide), fun h1 => by rw [h1]; rfl⟩
section ZI
variable {p : Program} {l : Launch} {e : Env} {R : Room} {s : State} {m : MethodId} {args : Array Value} {below : List Frame} {meth : Method} {c : Code} {H H0 : Heap} {locs : List Loc} {cells slots : Nat} {Q : State → Prop}
variable {cc : ByteArray} {pc : Nat} {ls : Array Slot} {rest : List Value} {D : va_G} {k : Kt} {ws : va_W} {A : Nat → Prop}
theorem z_iconst (hx : p.tables.exec = Jvm.exec) (hb : c.code = cc) {n : Int} (hdg : decode cc pc = .ok (.iconst n, 1)) (kk : W p l e R s m args below meth c H locs cells slots Q (F0 m (pc + 1) ls (.int (zI n) :: rest))) : W p l e R s m args below meth c H locs cells slots Q (F0 m pc ls rest) := lv_iconst hx hb hdg rfl kk
theorem z_bipush (hx : p.tables.exec = Jvm.exec) (hb : c.code = cc) {n : Int} (hdg : decode cc pc = .ok (.bipush n, 2)) (hv : (Int8.ofInt n).toInt32 = zI n) (kk : W p l e R s m args below meth c H locs cells slots Q (F0 m (pc + 2) ls (.int (zI n) :: rest))) : W p l e R s m args below meth c H locs cells slots Q (F0 m pc ls rest) := lv_bipush hx hb hdg hv kk
theorem z_sipush (hx : p.tables.exec = Jvm.exec) (hb : c.code = cc) {n : Int} (hdg : decode cc pc = .ok (.sipush n, 3)) (hv : (Int16.ofInt n).toInt32 = zI n) (kk : W p l e R s m args below meth c H locs cells slots Q (F0 m (pc + 3) ls (.int (zI n) :: rest))) : W p l e R s m args below meth c H locs cells slots Q (F0 m pc ls rest) := lv_sipush hx hb hdg hv kk
theorem z_iadd (hx : p.tables.exec = Jvm.exec) (hb : c.code = cc) {x y : Int} (hdg : decode cc pc = .ok (.iadd, 1)) (kk : W p l e R s m args below meth c H locs cells slots Q (F0 m (pc + 1) ls (.int (zI (x + y)) :: rest))) : W p l e R s m args below meth c H locs cells slots Q (F0 m pc ls (.int (zI y) :: .int (zI x) :: rest)) := lv_iadd hx hb hdg (te (zI_add x y) kk)
theorem z_isub (hx : p.tables.exec = Jvm.exec) (hb : c.code = cc) {x y : Int} (hdg : decode cc pc = .ok (.isub, 1)) (kk : W p l e R s m args below meth c H locs cells slots Q (F0 m (pc + 1) ls (.int (zI (x - y)) :: rest))) : W p l e R s m args below meth c H locs cells slots Q (F0 m pc ls (.int (zI y) :: .int (zI x) :: rest)) := lv_isub hx hb hdg (te (zI_sub x y) kk)
theorem z_imul (hx : p.tables.exec = Jvm.exec) (hb : c.code = cc) {x y : Int} (hdg : decode cc pc = .ok (.imul, 1)) (kk : W p l e R s m args below meth c H locs cells slots Q (F0 m (pc + 1) ls (.int (zI (x * y)) :: rest))) : W p l e R s m args below meth c H locs cells slots Q (F0 m pc ls (.int (zI y) :: .int (zI x) :: rest)) := lv_imul hx hb hdg (te (zI_mul x y) kk)
theorem zI_ne0 {y : Int} (h1 : 0 < y) (h2 : y < 2147483648) : ¬ zI y = 0 := fun h => by rw [zI_0, zI_eq (by omega) (by omega)] at h; omega
theorem zL_ne0 {y : Int} (h1 : 0 < y) (h2 : y < 9223372036854775808) : ¬ zL y = 0 := fun h => by
  have := congrArg Int64.toInt h
  rw [zL_toInt (by omega), show (0 : Int64).toInt = 0 from by decide +kernel] at this
  omega
theorem z_idiv (hx : p.tables.exec = Jvm.exec) (hb : c.code = cc) {x y : Int} (hdg : decode cc pc = .ok (.idiv, 1)) (h0 : 0 ≤ x ∧ x < 2147483648) (h1 : 0 < y ∧ y < 2147483648) (kk : W p l e R s m args below meth c H locs cells slots Q (F0 m (pc + 1) ls (.int (zI (x / y)) :: rest))) : W p l e R s m args below meth c H locs cells slots Q (F0 m pc ls (.int (zI y) :: .int (zI x) :: rest)) := lv_idiv hx hb hdg (zI_ne0 h1.1 h1.2) (te (zI_div h0.1 h0.2 h1.1 h1.2) kk)
theorem z_irem (hx : p.tables.exec = Jvm.exec) (hb : c.code = cc) {x y : Int} (hdg : decode cc pc = .ok (.irem, 1)) (h0 : 0 ≤ x ∧ x < 2147483648) (h1 : 0 < y ∧ y < 2147483648) (kk : W p l e R s m args below meth c H locs cells slots Q (F0 m (pc + 1) ls (.int (zI (x % y)) :: rest))) : W p l e R s m args below meth c H locs cells slots Q (F0 m pc ls (.int (zI y) :: .int (zI x) :: rest)) := lv_irem hx hb hdg (zI_ne0 h1.1 h1.2) (te (zI_rem h0.1 h0.2 h1.1 h1.2) kk)
theorem z_iand (hx : p.tables.exec = Jvm.exec) (hb : c.code = cc) {x y : Int} (hdg : decode cc pc = .ok (.iand, 1)) (X Y : Nat) (hX : x = (X : Int)) (hY : y = (Y : Int)) (kk : W p l e R s m args below meth c H locs cells slots Q (F0 m (pc + 1) ls (.int (zI ((X &&& Y : Nat) : Int)) :: rest))) : W p l e R s m args below meth c H locs cells slots Q (F0 m pc ls (.int (zI y) :: .int (zI x) :: rest)) := by subst hX; subst hY; exact lv_iand hx hb hdg (te (zI_and X Y) kk)
theorem z_ior (hx : p.tables.exec = Jvm.exec) (hb : c.code = cc) {x y : Int} (hdg : decode cc pc = .ok (.ior, 1)) (X Y : Nat) (hX : x = (X : Int)) (hY : y = (Y : Int)) (kk : W p l e R s m args below meth c H locs cells slots Q (F0 m (pc + 1) ls (.int (zI ((X ||| Y : Nat) : Int)) :: rest))) : W p l e R s m args below meth c H locs cells slots Q (F0 m pc ls (.int (zI y) :: .int (zI x) :: rest)) := by subst hX; subst hY; exact lv_ior hx hb hdg (te (zI_or X Y) kk)
theorem z_ixor (hx : p.tables.exec = Jvm.exec) (hb : c.code = cc) {x y : Int} (hdg : decode cc pc = .ok (.ixor, 1)) (X Y : Nat) (hX : x = (X : Int)) (hY : y = (Y : Int)) (kk : W p l e R s m args below meth c H locs cells slots Q (F0 m (pc + 1) ls (.int (zI ((X ^^^ Y : Nat) : Int)) :: rest))) : W p l e R s m args below meth c H locs cells slots Q (F0 m pc ls (.int (zI y) :: .int (zI x) :: rest)) := by subst hX; subst hY; exact lv_ixor hx hb hdg (te (zI_xor X Y) kk)
theorem z_not (hx : p.tables.exec = Jvm.exec) (hb : c.code = cc) {x : Int} (hdg : decode cc pc = .ok (.ixor, 1)) (X : Nat) (hX : x = (X : Int)) (hb2 : X < 4294967296) (kk : W p l e R s m args below meth c H locs cells slots Q (F0 m (pc + 1) ls (.int (zI ((2 ^ 32 - (X + 1) : Nat) : Int)) :: rest))) : W p l e R s m args below meth c H locs cells slots Q (F0 m pc ls (.int (zI (-1)) :: .int (zI x) :: rest)) := by subst hX; exact lv_ixor hx hb hdg (te (zI_not hb2) kk)
theorem z_ishl (hx : p.tables.exec = Jvm.exec) (hb : c.code = cc) {x y : Int} (hdg : decode cc pc = .ok (.ishl, 1)) (X Y : Nat) (hX : x = (X : Int)) (hY : y = (Y : Int)) (h1 : Y < 32) (h2 : X <<< Y < 4294967296) (kk : W p l e R s m args below meth c H locs cells slots Q (F0 m (pc + 1) ls (.int (zI ((X <<< Y : Nat) : Int)) :: rest))) : W p l e R s m args below meth c H locs cells slots Q (F0 m pc ls (.int (zI y) :: .int (zI x) :: rest)) := by subst hX; subst hY; exact lv_ishl hx hb hdg (te (zI_shl h1 h2) kk)
theorem z_ishr (hx : p.tables.exec = Jvm.exec) (hb : c.code = cc) {x y : Int} (hdg : decode cc pc = .ok (.ishr, 1)) (X Y : Nat) (hX : x = (X : Int)) (hY : y = (Y : Int)) (h1 : Y < 32) (h2 : X < 2147483648) (kk : W p l e R s m args below meth c H locs cells slots Q (F0 m (pc + 1) ls (.int (zI ((X >>> Y : Nat) : Int)) :: rest))) : W p l e R s m args below meth c H locs cells slots Q (F0 m pc ls (.int (zI y) :: .int (zI x) :: rest)) := by subst hX; subst hY; exact lv_ishr hx hb hdg (te (zI_shr h1 h2) kk)
theorem z_iushr (hx : p.tables.exec = Jvm.exec) (hb : c.code = cc) {x y : Int} (hdg : decode cc pc = .ok (.iushr, 1)) (X Y : Nat) (hX : x = (X : Int)) (hY : y = (Y : Int)) (h1 : Y < 32) (h2 : X < 4294967296) (kk : W p l e R s m args below meth c H locs cells slots Q (F0 m (pc + 1) ls (.int (zI ((X >>> Y : Nat) : Int)) :: rest))) : W p l e R s m args below meth c H locs cells slots Q (F0 m pc ls (.int (zI y) :: .int (zI x) :: rest)) := by subst hX; subst hY; exact lv_iushr hx hb hdg (zI_ushr h1 h2) kk
theorem z_if_eq (hx : p.tables.exec = Jvm.exec) (hb : c.code = cc) {x : Int} {off : Int} {tgt : Nat} (hdg : decode cc pc = .ok (.ifCond .eq off, 3)) (ht : (pc : Int) + off = (tgt : Int)) (hr : -2147483648 ≤ x ∧ x < 2147483648) (kt : x = 0 → W p l e R s m args below meth c H locs cells slots Q (F0 m tgt ls rest)) (kf : x ≠ 0 → W p l e R s m args below meth c H locs cells slots Q (F0 m (pc + 3) ls rest)) : W p l e R s m args below meth c H locs cells slots Q (F0 m pc ls (.int (zI x) :: rest)) := lv_if_eq hx hb hdg ht (fun h => kt (by rw [zI_0, zI_eq hr (by omega)] at h; exact h)) (fun h => kf (by rw [zI_0, zI_eq hr (by omega)] at h; exact h))
theorem z_if_ne (hx : p.tables.exec = Jvm.exec) (hb : c.code = cc) {x : Int} {off : Int} {tgt : Nat} (hdg : decode cc pc = .ok (.ifCond .ne off, 3)) (ht : (pc : Int) + off = (tgt : Int)) (hr : -2147483648 ≤ x ∧ x < 2147483648) (kt : x ≠ 0 → W p l e R s m args below meth c H locs cells slots Q (F0 m tgt ls rest)) (kf : x = 0 → W p l e R s m args below meth c H locs cells slots Q (F0 m (pc + 3) ls rest)) : W p l e R s m args below meth c H locs cells slots Q (F0 m pc ls (.int (zI x) :: rest)) := lv_if_ne hx hb hdg ht (fun h => kt (by rw [zI_0, zI_eq hr (by omega)] at h; exact h)) (fun h => kf (by rw [zI_0, zI_eq hr (by omega)] at h; exact h))
theorem z_if_eqm (hx : p.tables.exec = Jvm.exec) (hb : c.code = cc) {x : Nat} {off : Int} {tgt : Nat} (hdg : decode cc pc = .ok (.ifCond .eq off, 3)) (ht : (pc : Int) + off = (tgt : Int)) (hr : x < 4294967296) (kt : x = 0 → W p l e R s m args below meth c H locs cells slots Q (F0 m tgt ls rest)) (kf : x ≠ 0 → W p l e R s m args below meth c H locs cells slots Q (F0 m (pc + 3) ls rest)) : W p l e R s m args below meth c H locs cells slots Q (F0 m pc ls (.int (zI ((x : Nat) : Int)) :: rest)) := lv_if_eq hx hb hdg ht (fun h => kt ((zI_mask0 hr).mp h)) (fun h => kf (fun h2 => h ((zI_mask0 hr).mpr h2)))
theorem z_if_lt (hx : p.tables.exec = Jvm.exec) (hb : c.code = cc) {x : Int} {off : Int} {tgt : Nat} (hdg : decode cc pc = .ok (.ifCond .lt off, 3)) (ht : (pc : Int) + off = (tgt : Int)) (hr : -2147483648 ≤ x ∧ x < 2147483648) (kt : x < 0 → W p l e R s m args below meth c H locs cells slots Q (F0 m tgt ls rest)) (kf : 0 ≤ x → W p l e R s m args below meth c H locs cells slots Q (F0 m (pc + 3) ls rest)) : W p l e R s m args below meth c H locs cells slots Q (F0 m pc ls (.int (zI x) :: rest)) := lv_if_lt hx hb hdg ht (fun h => kt (by rw [zI_0, zI_lt hr (by omega)] at h; exact h)) (fun h => kf (by rw [zI_0, zI_lt hr (by omega)] at h; omega))
theorem z_if_ge (hx : p.tables.exec = Jvm.exec) (hb : c.code = cc) {x : Int} {off : Int} {tgt : Nat} (hdg : decode cc pc = .ok (.ifCond .ge off, 3)) (ht : (pc : Int) + off = (tgt : Int)) (hr : -2147483648 ≤ x ∧ x < 2147483648) (kt : 0 ≤ x → W p l e R s m args below meth c H locs cells slots Q (F0 m tgt ls rest)) (kf : x < 0 → W p l e R s m args below meth c H locs cells slots Q (F0 m (pc + 3) ls rest)) : W p l e R s m args below meth c H locs cells slots Q (F0 m pc ls (.int (zI x) :: rest)) := lv_if_ge hx hb hdg ht (fun h => kt (by rw [zI_0, zI_le (by omega) hr] at h; exact h)) (fun h => kf (by rw [zI_0, zI_le (by omega) hr] at h; omega))
theorem z_if_gt (hx : p.tables.exec = Jvm.exec) (hb : c.code = cc) {x : Int} {off : Int} {tgt : Nat} (hdg : decode cc pc = .ok (.ifCond .gt off, 3)) (ht : (pc : Int) + off = (tgt : Int)) (hr : -2147483648 ≤ x ∧ x < 2147483648) (kt : 0 < x → W p l e R s m args below meth c H locs cells slots Q (F0 m tgt ls rest)) (kf : x ≤ 0 → W p l e R s m args below meth c H locs cells slots Q (F0 m (pc + 3) ls rest)) : W p l e R s m args below meth c H locs cells slots Q (F0 m pc ls (.int (zI x) :: rest)) := lv_if_gt hx hb hdg ht (fun h => kt (by rw [zI_0, zI_lt (by omega) hr] at h; exact h)) (fun h => kf (by rw [zI_0, zI_lt (by omega) hr] at h; omega))
theorem z_if_le (hx : p.tables.exec = Jvm.exec) (hb : c.code = cc) {x : Int} {off : Int} {tgt : Nat} (hdg : decode cc pc = .ok (.ifCond .le off, 3)) (ht : (pc : Int) + off = (tgt : Int)) (hr : -2147483648 ≤ x ∧ x < 2147483648) (kt : x ≤ 0 → W p l e R s m args below meth c H locs cells slots Q (F0 m tgt ls rest)) (kf : 0 < x → W p l e R s m args below meth c H locs cells slots Q (F0 m (pc + 3) ls rest)) : W p l e R s m args below meth c H locs cells slots Q (F0 m pc ls (.int (zI x) :: rest)) := lv_if_le hx hb hdg ht (fun h => kt (by rw [zI_0, zI_le hr (by omega)] at h; exact h)) (fun h => kf (by rw [zI_0, zI_le hr (by omega)] at h; omega))
theorem z_icmp_eq (hx : p.tables.exec = Jvm.exec) (hb : c.code = cc) {x y : Int} {off : Int} {tgt : Nat} (hdg : decode cc pc = .ok (.if_icmp .eq off, 3)) (ht : (pc : Int) + off = (tgt : Int)) (hr : -2147483648 ≤ x ∧ x < 2147483648) (hr2 : -2147483648 ≤ y ∧ y < 2147483648) (kt : x = y → W p l e R s m args below meth c H locs cells slots Q (F0 m tgt ls rest)) (kf : x ≠ y → W p l e R s m args below meth c H locs cells slots Q (F0 m (pc + 3) ls rest)) : W p l e R s m args below meth c H locs cells slots Q (F0 m pc ls (.int (zI y) :: .int (zI x) :: rest)) := lv_icmp_eq hx hb hdg ht (fun h => kt ((zI_eq hr hr2).mp h)) (fun h => kf (fun h2 => h (by rw [h2])))
theorem z_icmp_ne (hx : p.tables.exec = Jvm.exec) (hb : c.code = cc) {x y : Int} {off : Int} {tgt : Nat} (hdg : decode cc pc = .ok (.if_icmp .ne off, 3)) (ht : (pc : Int) + off = (tgt : Int)) (hr : -2147483648 ≤ x ∧ x < 2147483648) (hr2 : -2147483648 ≤ y ∧ y < 2147483648) (kt : x ≠ y → W p l e R s m args below meth c H locs cells slots Q (F0 m tgt ls rest)) (kf : x = y → W p l e R s m args below meth c H locs cells slots Q (F0 m (pc + 3) ls rest)) : W p l e R s m args below meth c H locs cells slots Q (F0 m pc ls (.int (zI y) :: .int (zI x) :: rest)) := lv_icmp_ne hx hb hdg ht (fun h => kt (fun h2 => h (by rw [h2]))) (fun h => kf ((zI_eq hr hr2).mp h))
theorem z_icmp_lt (hx : p.tables.exec = Jvm.exec) (hb : c.code = cc) {x y : Int} {off : Int} {tgt : Nat} (hdg : decode cc pc = .ok (.if_icmp .lt off, 3)) (ht : (pc : Int) + off = (tgt : Int)) (hr : -2147483648 ≤ x ∧ x < 2147483648) (hr2 : -2147483648 ≤ y ∧ y < 2147483648) (kt : x < y → W p l e R s m args below meth c H locs cells slots Q (F0 m tgt ls rest)) (kf : y ≤ x → W p l e R s m args below meth c H locs cells slots Q (F0 m (pc + 3) ls rest)) : W p l e R s m args below meth c H locs cells slots Q (F0 m pc ls (.int (zI y) :: .int (zI x) :: rest)) := lv_icmp_lt hx hb hdg ht (fun h => kt ((zI_lt hr hr2).mp h)) (fun h => kf (by rw [zI_lt hr hr2] at h; omega))
theorem z_icmp_ge (hx : p.tables.exec = Jvm.exec) (hb : c.code = cc) {x y : Int} {off : Int} {tgt : Nat} (hdg : decode cc pc = .ok (.if_icmp .ge off, 3)) (ht : (pc : Int) + off = (tgt : Int)) (hr : -2147483648 ≤ x ∧ x < 2147483648) (hr2 : -2147483648 ≤ y ∧ y < 2147483648) (kt : y ≤ x → W p l e R s m args below meth c H locs cells slots Q (F0 m tgt ls rest)) (kf : x < y → W p l e R s m args below meth c H locs cells slots Q (F0 m (pc + 3) ls rest)) : W p l e R s m args below meth c H locs cells slots Q (F0 m pc ls (.int (zI y) :: .int (zI x) :: rest)) := lv_icmp_ge hx hb hdg ht (fun h => kt ((zI_le hr2 hr).mp h)) (fun h => kf (by rw [zI_le hr2 hr] at h; omega))
theorem z_icmp_gt (hx : p.tables.exec = Jvm.exec) (hb : c.code = cc) {x y : Int} {off : Int} {tgt : Nat} (hdg : decode cc pc = .ok (.if_icmp .gt off, 3)) (ht : (pc : Int) + off = (tgt : Int)) (hr : -2147483648 ≤ x ∧ x < 2147483648) (hr2 : -2147483648 ≤ y ∧ y < 2147483648) (kt : y < x → W p l e R s m args below meth c H locs cells slots Q (F0 m tgt ls rest)) (kf : x ≤ y → W p l e R s m args below meth c H locs cells slots Q (F0 m (pc + 3) ls rest)) : W p l e R s m args below meth c H locs cells slots Q (F0 m pc ls (.int (zI y) :: .int (zI x) :: rest)) := lv_icmp_gt hx hb hdg ht (fun h => kt ((zI_lt hr2 hr).mp h)) (fun h => kf (by rw [zI_lt hr2 hr] at h; omega))
theorem z_icmp_le (hx : p.tables.exec = Jvm.exec) (hb : c.code = cc) {x y : Int} {off : Int} {tgt : Nat} (hdg : decode cc pc = .ok (.if_icmp .le off, 3)) (ht : (pc : Int) + off = (tgt : Int)) (hr : -2147483648 ≤ x ∧ x < 2147483648) (hr2 : -2147483648 ≤ y ∧ y < 2147483648) (kt : x ≤ y → W p l e R s m args below meth c H locs cells slots Q (F0 m tgt ls rest)) (kf : y < x → W p l e R s m args below meth c H locs cells slots Q (F0 m (pc + 3) ls rest)) : W p l e R s m args below meth c H locs cells slots Q (F0 m pc ls (.int (zI y) :: .int (zI x) :: rest)) := lv_icmp_le hx hb hdg ht (fun h => kt ((zI_le hr hr2).mp h)) (fun h => kf (by rw [zI_le hr hr2] at h; omega))
theorem zI_cl {n : Nat} (h : n < 2147483648) : (zI (n : Int)).toNatClampNeg = n := by rw [zI_nat]; exact nI_clamp (by omega)
theorem zI_vin {n N : Nat} (h : n < N) (hN : N < 2147483648) : vp_in (zI (n : Int)) N := by rw [zI_nat]; exact vp_in_nI h (by omega)
theorem z_ald (hx : p.tables.exec = Jvm.exec) (hb : c.code = cc) (hK : GW D k s) (hP : va_P D vwCl ws H) (q0 : Nat) {a n : Nat} {g : Nat → Int} (ha : ws[q0]? = some (a, .inl (k.1, n, .inl (zF g)))) {i : Int} (E : Nat) (he : i = (E : Int)) (hE : E < n) (hn : n < 2147483648) (hdg : decode cc pc = .ok (.iaload, 1)) (kk : W p l e R s m args below meth c H locs cells slots Q (F0 m (pc + 1) ls (.int (zI (g E)) :: rest))) : W p l e R s m args below meth c H locs cells slots Q (F0 m pc ls (.int (zI i) :: .ref a :: rest)) := by
  subst he
  refine va_iald hx hb hK.1 hP q0 0 ha rfl (zI_vin hE hn) hdg ?_
  rw [zI_cl (by omega)]
  exact kk
theorem z_ast (hx : p.tables.exec = Jvm.exec) (hb : c.code = cc) (hK : GW D k s) (hP : va_P D vwCl ws H) (hD : va_D A ws) (hS : va_S A H0 H locs) (q0 : Nat) {a n : Nat} {g : Nat → Int} (ha : ws[q0]? = some (a, .inl (k.1, n, .inl (zF g)))) {i x : Int} (E : Nat) (he : i = (E : Int)) (hE : E < n) (hn : n < 2147483648) (hdg : decode cc pc = .ok (.iastore, 1)) (kk : ∀ (H1 : Heap) (locs1 : List Loc), va_P D vwCl (ws.set q0 (a, .inl (k.1, n, .inl (zF (upZ g E x))))) H1 → va_D A (ws.set q0 (a, .inl (k.1, n, .inl (zF (upZ g E x))))) → va_S A H0 H1 locs1 → W p l e R s m args below meth c H1 locs1 cells slots Q (F0 m (pc + 1) ls rest)) : W p l e R s m args below meth c H locs cells slots Q (F0 m pc ls (.int (zI x) :: .int (zI i) :: .ref a :: rest)) := by
  subst he
  refine va_iast hx hb hK.1 hP hD hS q0 0 ha rfl (zI_vin hE hn) hdg (fun H1 locs1 h1 h2 h3 => ?_)
  rw [zI_cl (by omega), zF_upd] at h1 h2
  exact kk H1 locs1 h1 h2 h3
theorem z_zald (hx : p.tables.exec = Jvm.exec) (hb : c.code = cc) (hK : GW D k s) (hP : va_P D vwCl ws H) (q0 : Nat) {a n : Nat} {g : Nat → Int} (ha : ws[q0]? = some (a, .inl (k.2.1, n, .inl (zF g)))) {i : Int} (E : Nat) (he : i = (E : Int)) (hE : E < n) (hn : n < 2147483648) (hdg : decode cc pc = .ok (.baload, 1)) (kk : W p l e R s m args below meth c H locs cells slots Q (F0 m (pc + 1) ls (.int (zI (g E)) :: rest))) : W p l e R s m args below meth c H locs cells slots Q (F0 m pc ls (.int (zI i) :: .ref a :: rest)) := by
  subst he
  refine va_zald hx hb hK.1 hP q0 1 ha rfl (zI_vin hE hn) hdg ?_
  rw [zI_cl (by omega)]
  exact kk
theorem z_zast (hx : p.tables.exec = Jvm.exec) (hb : c.code = cc) (hK : GW D k s) (hP : va_P D vwCl ws H) (hD : va_D A ws) (hS : va_S A H0 H locs) (q0 : Nat) {a n : Nat} {g : Nat → Int} (ha : ws[q0]? = some (a, .inl (k.2.1, n, .inl (zF g)))) {i : Int} (E : Nat) (he : i = (E : Int)) (hE : E < n) (hn : n < 2147483648) (hdg : decode cc pc = .ok (.bastore, 1)) (kk : ∀ (H1 : Heap) (locs1 : List Loc), va_P D vwCl (ws.set q0 (a, .inl (k.2.1, n, .inl (zF (upZ g E 1))))) H1 → va_D A (ws.set q0 (a, .inl (k.2.1, n, .inl (zF (upZ g E 1))))) → va_S A H0 H1 locs1 → W p l e R s m args below meth c H1 locs1 cells slots Q (F0 m (pc + 1) ls rest)) : W p l e R s m args below meth c H locs cells slots Q (F0 m pc ls (.int (zI 1) :: .int (zI i) :: .ref a :: rest)) := by
  subst he
  refine va_zast hx hb hK.1 hP hD hS q0 1 ha rfl (zI_vin hE hn) hdg (fun H1 locs1 h1 h2 h3 => ?_)
  rw [zI_cl (by omega), show vp_nar .boolean (zI 1) = zI 1 from by decide +kernel, zF_upd] at h1 h2
  exact kk H1 locs1 h1 h2 h3
theorem z_lald (hx : p.tables.exec = Jvm.exec) (hb : c.code = cc) (hK : GW D k s) (hP : va_P D vwCl ws H) (q0 : Nat) {a n : Nat} {g : Nat → Int} (ha : ws[q0]? = some (a, .inl (k.2.2.1, n, .inr (.inl (zG g))))) {i : Int} (E : Nat) (he : i = (E : Int)) (hE : E < n) (hn : n < 2147483648) (hdg : decode cc pc = .ok (.laload, 1)) (kk : W p l e R s m args below meth c H locs cells slots Q (F0 m (pc + 1) ls (.long (zL (g E)) :: rest))) : W p l e R s m args below meth c H locs cells slots Q (F0 m pc ls (.int (zI i) :: .ref a :: rest)) := by
  subst he
  refine va_lald hx hb hK.1 hP q0 2 ha rfl (zI_vin hE hn) hdg ?_
  rw [zI_cl (by omega)]
  exact kk
theorem z_last (hx : p.tables.exec = Jvm.exec) (hb : c.code = cc) (hK : GW D k s) (hP : va_P D vwCl ws H) (hD : va_D A ws) (hS : va_S A H0 H locs) (q0 : Nat) {a n : Nat} {g : Nat → Int} (ha : ws[q0]? = some (a, .inl (k.2.2.1, n, .inr (.inl (zG g))))) {i x : Int} (E : Nat) (he : i = (E : Int)) (hE : E < n) (hn : n < 2147483648) (hdg : decode cc pc = .ok (.lastore, 1)) (kk : ∀ (H1 : Heap) (locs1 : List Loc), va_P D vwCl (ws.set q0 (a, .inl (k.2.2.1, n, .inr (.inl (zG (upZ g E x)))))) H1 → va_D A (ws.set q0 (a, .inl (k.2.2.1, n, .inr (.inl (zG (upZ g E x)))))) → va_S A H0 H1 locs1 → W p l e R s m args below meth c H1 locs1 cells slots Q (F0 m (pc + 1) ls rest)) : W p l e R s m args below meth c H locs cells slots Q (F0 m pc ls (.long (zL x) :: .int (zI i) :: .ref a :: rest)) := by
  subst he
  refine va_last hx hb hK.1 hP hD hS q0 2 ha rfl (zI_vin hE hn) hdg (fun H1 locs1 h1 h2 h3 => ?_)
  rw [zI_cl (by omega), zG_upd] at h1 h2
  exact kk H1 locs1 h1 h2 h3
end ZI
end
section
theorem zc {a b : Int} (h : a = b) : zI a = zI b := congrArg zI h
theorem zcl {a b : Int} (h : a = b) : zL a = zL b := congrArg zL h
theorem zI_l {a : Int} (h : -2147483648 ≤ a ∧ a < 2147483648) : (zI a).toInt64 = zL a := by
  apply Int64.toInt_inj.mp
  rw [Int32.toInt_toInt64, zI_toInt h, zL_toInt (by omega)]
theorem zL_i (a : Int) : (zL a).toInt32 = zI a := Int64.toInt32_ofInt
theorem lv_c {ls : Array Slot} {n i : Nat} {x y : Int} {l1 l2 : List (Nat × Value)} (h : lv_has ls n (l1 ++ (i, .int (zI x)) :: l2)) (e : x = y) : lv_has ls n (l1 ++ (i, .int (zI y)) :: l2) := e ▸ h
def b2i (b : Bool) : Int := if b then 1 else 0
theorem b2i_t : b2i true = 1 := rfl
theorem b2i_f : b2i false = 0 := rfl
theorem b2i_01 (b : Bool) : 0 ≤ b2i b ∧ b2i b ≤ 1 := by cases b <;> decide
theorem nbb (b : Bool) : narrow .boolean (.int (zI (b2i b))) = .int (zI (b2i b)) := by cases b <;> decide +kernel
theorem nb1 : narrow .boolean (.int (zI 1)) = .int (zI 1) := by decide +kernel
theorem nb0 : narrow .boolean (.int (zI 0)) = .int (zI 0) := by decide +kernel
theorem zI_max {a b : Int} (ha : -2147483648 ≤ a ∧ a < 2147483648) (hb : -2147483648 ≤ b ∧ b < 2147483648) : (if zI a < zI b then zI b else zI a) = zI (max a b) := by
  by_cases h : a < b
  · rw [if_pos ((zI_lt ha hb).mpr h)]; congr 1; omega
  · rw [if_neg (fun q => h ((zI_lt ha hb).mp q))]; congr 1; omega
theorem zI_min {a b : Int} (ha : -2147483648 ≤ a ∧ a < 2147483648) (hb : -2147483648 ≤ b ∧ b < 2147483648) : (if zI b < zI a then zI b else zI a) = zI (min a b) := by
  by_cases h : b < a
  · rw [if_pos ((zI_lt hb ha).mpr h)]; congr 1; omega
  · rw [if_neg (fun q => h ((zI_lt hb ha).mp q))]; congr 1; omega
theorem sw_cases {x lo hi : Int} : (x < lo ∨ hi < x) ∨ (lo ≤ x ∧ x ≤ hi) := by omega
def cpZ (f g : Nat → Int) (sp dp n : Nat) : Nat → Int := fun k => if dp ≤ k ∧ k < dp + n then f (sp + (k - dp)) else g k
theorem cpZ_in {f g : Nat → Int} {sp dp n k : Nat} (h1 : dp ≤ k) (h2 : k < dp + n) : cpZ f g sp dp n k = f (sp + (k - dp)) := if_pos ⟨h1, h2⟩
theorem cpZ_out {f g : Nat → Int} {sp dp n k : Nat} (h : k < dp ∨ dp + n ≤ k) : cpZ f g sp dp n k = g k := if_neg (fun q => by omega)
theorem zF_cpy (f g : Nat → Int) (sp dp n : Nat) : va_cpy (zF f) (zF g) sp dp n = zF (cpZ f g sp dp n) := by
  funext j
  unfold va_cpy zF cpZ
  split <;> rfl
section ZJ
variable {p : Program} {l : Launch} {e : Env} {R : Room} {s : State} {m : MethodId} {args : Array Value} {below : List Frame} {meth : Method} {c : Code} {H H0 : Heap} {locs : List Loc} {cells slots : Nat} {Q : State → Prop}
variable {cc : ByteArray} {pc : Nat} {ls : Array Slot} {rest : List Value} {D : va_G} {k : Kt} {ws : va_W} {A : Nat → Prop}
theorem z_if_eqb (hx : p.tables.exec = Jvm.exec) (hb : c.code = cc) {B : Bool} {off : Int} {tgt : Nat} (hdg : decode cc pc = .ok (.ifCond .eq off, 3)) (ht : (pc : Int) + off = (tgt : Int)) (kt : B = false → W p l e R s m args below meth c H locs cells slots Q (F0 m tgt ls rest)) (kf : B = true → W p l e R s m args below meth c H locs cells slots Q (F0 m (pc + 3) ls rest)) : W p l e R s m args below meth c H locs cells slots Q (F0 m pc ls (.int (zI (b2i B)) :: rest)) := z_if_eq hx hb hdg ht (by have := b2i_01 B; omega) (fun h => kt (by cases B; rfl; exact absurd h (by decide))) (fun h => kf (by cases B; exact absurd rfl h; rfl))
theorem z_if_neb (hx : p.tables.exec = Jvm.exec) (hb : c.code = cc) {B : Bool} {off : Int} {tgt : Nat} (hdg : decode cc pc = .ok (.ifCond .ne off, 3)) (ht : (pc : Int) + off = (tgt : Int)) (kt : B = true → W p l e R s m args below meth c H locs cells slots Q (F0 m tgt ls rest)) (kf : B = false → W p l e R s m args below meth c H locs cells slots Q (F0 m (pc + 3) ls rest)) : W p l e R s m args below meth c H locs cells slots Q (F0 m pc ls (.int (zI (b2i B)) :: rest)) := z_if_ne hx hb hdg ht (by have := b2i_01 B; omega) (fun h => kt (by cases B; exact absurd rfl h; rfl)) (fun h => kf (by cases B; rfl; exact absurd h (by decide)))
theorem z_copy (hx : p.tables.exec = Jvm.exec) (hb : c.code = cc) (hml : c.maxLocals = ls.size) {own : String} {index : Nat} (hown : s.vm.findClass own = some m.cls) (hlink : (Cond.methodLink own index arraycopyName).before args s = true) (hnat : (Cond.native arraycopyName).before args s = true) (hstat : (Cond.static arraycopyName).before args s = true) (hini : (Cond.initialized "java/lang/System").before args s = true)
    (hK : GW D k s) (hP : va_P D vwCl ws H) (hD : va_D A ws) (hS : va_S A H0 H locs) (q0 q1 : Nat) {a0 a n0 n1 : Nat} {f g : Nat → Int} (ha0 : ws[q0]? = some (a0, .inl (k.1, n0, .inl (zF f)))) (ha1 : ws[q1]? = some (a, .inl (k.1, n1, .inl (zF g)))) {x y z : Int} (SP DP N : Nat) (h1 : x = (SP : Int)) (h2 : y = (DP : Int)) (h3 : z = (N : Int)) (h4 : SP + N ≤ n0) (h5 : DP + N ≤ n1) (hn0 : n0 < 2147483648) (hn1 : n1 < 2147483648)
    (hframes : 1 ≤ R.frames) (hlocals : (rest.map fun v => v.category).sum + (nativeFrameWords "java/lang/System" "arraycopy" 5 + 11) ≤ R.locals) (hdg : decode cc pc = .ok (.invokestatic index, 3))
    (kk : ∀ (H1 : Heap) (locs1 : List Loc), va_P D vwCl (ws.set q1 (a, .inl (k.1, n1, .inl (zF (cpZ f g SP DP N))))) H1 → va_D A (ws.set q1 (a, .inl (k.1, n1, .inl (zF (cpZ f g SP DP N))))) → va_S A H0 H1 locs1 → W p l e R s m args below meth c H1 locs1 cells slots Q (F0 m (pc + 3) ls rest)) : W p l e R s m args below meth c H locs cells slots Q (F0 m pc ls (.int (zI z) :: .int (zI y) :: .ref a :: .int (zI x) :: .ref a0 :: rest)) := by
  subst h1; subst h2; subst h3
  have nn : ∀ n : Nat, n < 2147483648 → ¬ zI (n : Int) < 0 := fun n hn q => by rw [zI_0, zI_lt (by omega) (by omega)] at q; omega
  refine va_copyi hx hb hml hown hlink hnat hstat hini hK.1 hP hD hS q0 q1 0 0 ha0 ha1 rfl rfl rfl (nn _ (by omega)) (nn _ (by omega)) (nn _ (by omega)) (by rw [zI_cl (by omega), zI_cl (by omega)]; exact h4) (by rw [zI_cl (by omega), zI_cl (by omega)]; exact h5) (fun _ _ => rfl) hframes hlocals hdg (fun H1 locs1 k1 k2 k3 => ?_)
  rw [zI_cl (by omega), zI_cl (by omega), zI_cl (by omega), zF_cpy] at k1 k2
  exact kk H1 locs1 k1 k2 k3
end ZJ
end
section
/-! WHAT IS SO, in whole numbers: a scene is f : Nat → Int (its 132 cells) -/
abbrev St : Type := Nat → Int
def nT (f : St) : Nat := (f 0).toNat
def th (f : St) (t w : Nat) : Int := f (36 + 8 * t + w)
/-- what a scene is: its numbers in their bounds; FRAME at most B -/
def Va (B : Int) (f : St) : Prop :=
  (0 ≤ f 0 ∧ f 0 ≤ 12) ∧ (1 ≤ f 1 ∧ f 1 ≤ 8) ∧ (0 ≤ f 2 ∧ f 2 ≤ 3) ∧ (0 ≤ f 3 ∧ f 3 ≤ B) ∧ (∀ j, 4 ≤ j → j < 36 → 0 ≤ f j ∧ f j ≤ 255) ∧
  ∀ t, t < nT f → (-8 ≤ th f t 0 ∧ th f t 0 ≤ 31) ∧ (-8 ≤ th f t 1 ∧ th f t 1 ≤ 23) ∧ (0 ≤ th f t 2 ∧ th f t 2 ≤ 3) ∧ (0 ≤ th f t 3 ∧ th f t 3 ≤ 3) ∧ (0 ≤ th f t 4 ∧ th f t 4 ≤ 3) ∧ (1 ≤ th f t 5 ∧ th f t 5 ≤ 7) ∧ (-8 ≤ th f t 6 ∧ th f t 6 ≤ 8) ∧ (-8 ≤ th f t 7 ∧ th f t 7 ≤ 8)
theorem Va.n {B : Int} {f : St} (h : Va B f) : (nT f : Int) = f 0 ∧ nT f ≤ 12 := by
  have := h.1
  unfold nT
  omega
theorem Va.t {B : Int} {f : St} (h : Va B f) {t : Nat} (ht : t < nT f) : (-8 ≤ th f t 0 ∧ th f t 0 ≤ 31) ∧ (-8 ≤ th f t 1 ∧ th f t 1 ≤ 23) ∧ (0 ≤ th f t 2 ∧ th f t 2 ≤ 3) ∧ (0 ≤ th f t 3 ∧ th f t 3 ≤ 3) ∧ (0 ≤ th f t 4 ∧ th f t 4 ≤ 3) ∧ (1 ≤ th f t 5 ∧ th f t 5 ≤ 7) ∧ (-8 ≤ th f t 6 ∧ th f t 6 ≤ 8) ∧ (-8 ≤ th f t 7 ∧ th f t 7 ≤ 8) := h.2.2.2.2.2 t ht
theorem Va.p {B : Int} {f : St} (h : Va B f) {j : Nat} (h1 : 4 ≤ j) (h2 : j < 36) : 0 ≤ f j ∧ f j ≤ 255 := h.2.2.2.2.1 j h1 h2
def setP (p : Nat → Bool) : Nat → Nat
  | 0 => 0
  | n + 1 => setP p n ||| (if p n then 1 <<< n else 0)
theorem setP_t {p : Nat → Bool} {n : Nat} (h : p n = true) : setP p n ||| 1 <<< n = setP p (n + 1) := by rw [setP, if_pos h]
theorem setP_f {p : Nat → Bool} {n : Nat} (h : p n = false) : setP p n = setP p (n + 1) := by rw [setP, if_neg (by rw [h]; decide), Nat.or_zero]
theorem setP_bit (p : Nat → Bool) : ∀ n i, (setP p n).testBit i = (decide (i < n) && p i)
  | 0, i => by simp [setP]
  | n + 1, i => by
    rw [setP, Nat.testBit_or, setP_bit p n i]
    by_cases hp : p n = true
    · rw [if_pos hp, Nat.one_shiftLeft, Nat.testBit_two_pow]
      by_cases hi : n = i
      · subst hi; simp [hp]
      · have : (i < n) ↔ (i < n + 1) := by omega
        simp [hi, this]
    · rw [if_neg hp, Nat.zero_testBit]
      by_cases hi : n = i
      · subst hi; simp [hp]
      · have : (i < n) ↔ (i < n + 1) := by omega
        simp [this]
theorem setP_lt (p : Nat → Bool) (n : Nat) : setP p n < 2 ^ n := Nat.lt_pow_two_of_testBit _ (fun i hi => by rw [setP_bit, decide_eq_false (by omega)]; rfl)
theorem setP_lt12 (p : Nat → Bool) {n : Nat} (h : n ≤ 12) : setP p n < 4096 := Nat.lt_of_lt_of_le (setP_lt p n) (Nat.pow_le_pow_right (by decide) h)
theorem setP_lt24 (p : Nat → Bool) {n : Nat} (h : n ≤ 24) : setP p n < 16777216 := Nat.lt_of_lt_of_le (setP_lt p n) (Nat.pow_le_pow_right (by decide) h)
theorem setP_ext {n a : Nat} {p : Nat → Bool} (h1 : ∀ i, i < n → a.testBit i = p i) (h2 : ∀ i, n ≤ i → a.testBit i = false) : a = setP p n := Nat.eq_of_testBit_eq (fun i => by
  rw [setP_bit]
  by_cases hi : i < n
  · rw [h1 i hi, decide_eq_true hi, Bool.true_and]
  · rw [h2 i (by omega), decide_eq_false hi, Bool.false_and])
theorem setP_cong {p q : Nat → Bool} {n : Nat} (h : ∀ i, i < n → p i = q i) : setP p n = setP q n := setP_ext (fun i hi => by rw [setP_bit, decide_eq_true hi, Bool.true_and, h i hi]) (fun i hi => by rw [setP_bit, decide_eq_false (by omega), Bool.false_and])
theorem sh1_lt {t n : Nat} (h : t < n) (hn : n ≤ 31) : 1 <<< t < 4294967296 := by
  rw [Nat.one_shiftLeft]
  exact Nat.lt_of_lt_of_le (Nat.pow_lt_pow_right (by decide) (show t < 32 by omega)) (by decide)
theorem bit1 (a k : Nat) : (a >>> k &&& 1) = (a.testBit k).toNat := by
  rw [Nat.and_one_is_mod, Nat.testBit_eq_decide_div_mod_eq, Nat.shiftRight_eq_div_pow]
  have := Nat.mod_two_eq_zero_or_one (a / 2 ^ k)
  rcases this with h | h <;> rw [h] <;> rfl
/-- a THING is ON a LINE -/
def onL (f : St) (t L : Nat) : Bool := decide (0 ≤ (L : Int) - th f t 1) && decide ((L : Int) - th f t 1 ≤ 7)
def onS (f : St) (L : Nat) : Nat := setP (fun u => onL f u L) (nT f)
/-- Math.floorMod's sign test -/
theorem fm_sign {x y : Int} (hx : -2147483648 ≤ x ∧ x < 2147483648) (hy : 0 < y ∧ y < 2147483648) : 0 ≤ zI x ^^^ zI y ↔ 0 ≤ x := by
  have h1 : ∀ a : Int32, decide (a.toInt < 0) = a.toBitVec.msb := fun a => (BitVec.msb_eq_toInt).symm
  have h2 := h1 (zI x ^^^ zI y)
  rw [Int32.toBitVec_xor, BitVec.msb_xor, ← h1, ← h1, zI_toInt hx, zI_toInt (by omega)] at h2
  rw [Int32.le_iff_toInt_le, show (0 : Int32).toInt = 0 from by decide +kernel]
  rw [show decide (y < 0) = false from decide_eq_false (by omega), Bool.xor_false] at h2
  have := decide_eq_decide.mp h2
  omega
theorem tm1 {x y : Int} (hx : x < 0) (hy : 0 < y) (h : x.tmod y = 0) : x.tmod y = x % y := by
  have h1 := Int.tmod_eq_emod (a := x) (b := y)
  have h2 := Int.emod_nonneg x (show y ≠ 0 by omega)
  have h3 := Int.emod_lt_of_pos x hy
  split at h1 <;> omega
theorem tm2 {x y : Int} (hx : x < 0) (hy : 0 < y) (h : x.tmod y ≠ 0) : x.tmod y + y = x % y := by
  have h1 := Int.tmod_eq_emod (a := x) (b := y)
  split at h1
  · rename_i h4
    rcases h4 with h4 | h4
    · omega
    · have := Int.emod_eq_zero_of_dvd h4
      omega
  · omega
theorem z_rem_toInt {x y : Int} (hx : -2147483648 ≤ x ∧ x < 2147483648) (hy : 0 < y ∧ y < 2147483648) : zI x - zI x / zI y * zI y = zI (x.tmod y) := by
  have h1 := rem_toInt (zI x) (zI y)
  rw [zI_toInt hx, zI_toInt (by omega)] at h1
  rw [← zI_of (zI x - zI x / zI y * zI y), h1]
section ZK
variable {p : Program} {l : Launch} {e : Env} {R : Room} {s : State} {m : MethodId} {args : Array Value} {below : List Frame} {meth : Method} {c : Code} {H H0 : Heap} {locs : List Loc} {cells slots : Nat} {Q : State → Prop}
variable {cc : ByteArray} {pc : Nat} {ls : Array Slot} {rest : List Value}
theorem z_iremT (hx : p.tables.exec = Jvm.exec) (hb : c.code = cc) {x y : Int} (hdg : decode cc pc = .ok (.irem, 1)) (h0 : -2147483648 ≤ x ∧ x < 2147483648) (h1 : 0 < y ∧ y < 2147483648) (kk : W p l e R s m args below meth c H locs cells slots Q (F0 m (pc + 1) ls (.int (zI (x.tmod y)) :: rest))) : W p l e R s m args below meth c H locs cells slots Q (F0 m pc ls (.int (zI y) :: .int (zI x) :: rest)) := lv_irem hx hb hdg (zI_ne0 h1.1 h1.2) (te (z_rem_toInt h0 h1) kk)
end ZK
/-- a row of a PICTURE, turned round -/
def mirL (b : Nat) : Nat → Nat
  | 0 => 0
  | k + 1 => (mirL b k <<< 1) ||| (b >>> k &&& 1)
theorem mir_ok : ∀ b, b < 256 → mirL b 8 < 256 ∧ ∀ i, i < 8 → (mirL b 8).testBit i = b.testBit (7 - i) := by decide +kernel
theorem mirL_lt (b : Nat) : ∀ k, mirL b k < 2 ^ k
  | 0 => Nat.zero_lt_one
  | k + 1 => Nat.lt_pow_two_of_testBit _ (fun i hi => by
    rw [mirL, Nat.testBit_or, Nat.testBit_shiftLeft, bit1, Nat.testBit_lt_two_pow (show mirL b k < 2 ^ (i - 1) from Nat.lt_of_lt_of_le (mirL_lt b k) (Nat.pow_le_pow_right (by decide) (by omega))), Nat.testBit_lt_two_pow (show (b.testBit k).toNat < 2 ^ i from Nat.lt_of_le_of_lt (Bool.toNat_le _) (Nat.one_lt_two_pow (by omega)))]
    simp)
/-- the bits of a THING's row on a LINE where it is ON -/
def rowN (f : St) (t L : Nat) : Nat :=
  let r := ((L : Int) - th f t 1).toNat
  let b := (f (4 + 8 * (th f t 2).toNat + if (th f t 3).toNat &&& 2 = 0 then r else 7 - r)).toNat
  if (th f t 3).toNat &&& 1 = 0 then b else mirL b 8
/-- the COLUMNS where a THING HAS a dot on a LINE, column 0 the highest of 32 bits -/
def dotsN (f : St) (t L : Nat) : Nat := if onL f t L then rowN f t L * 2 ^ 32 / 2 ^ (th f t 0 + 8).toNat % 2 ^ 32 else 0
-- from the kit's texts to paste (BITS): shifts of longs
theorem wb_tb (n : Nat) : (lN n).toBitVec = BitVec.ofNat 64 n := rfl
theorem wb_inj {a b : Int64} (h : a.toBitVec = b.toBitVec) : a = b := Int64.toBitVec_inj.mp h
theorem wb_tn {n : Nat} (h : n < 2 ^ 64) : (lN n).toBitVec.toNat = n := by rw [wb_tb, BitVec.toNat_ofNat, Nat.mod_eq_of_lt h]
theorem wb_of (x : Int64) : ∃ n, n < 2 ^ 64 ∧ x = lN n := ⟨x.toBitVec.toNat, x.toBitVec.isLt, wb_inj (by rw [wb_tb]; simp)⟩
theorem wb_of32 (x : Int32) : ∃ n, n < 2 ^ 32 ∧ x = nI n := ⟨x.toBitVec.toNat, x.toBitVec.isLt, Int32.toBitVec_inj.mp (by show _ = BitVec.ofNat 32 _; simp)⟩
theorem wb_c : ∀ k, k < 64 → ((nI k).toInt64 &&& 63) = lN k := by decide +kernel
theorem wb_cu : ∀ k, k < 64 → ((nI k).toInt64.toUInt64 &&& Int64.toUInt64 63) = UInt64.ofNat k := by decide +kernel
theorem wb_sm : ∀ k, k < 64 → (BitVec.ofNat 64 k).smod 64 = BitVec.ofNat 64 k := by decide +kernel
theorem wb_pw {a b : Nat} (h : a ≤ b) : 2 ^ b = 2 ^ a * 2 ^ (b - a) := by rw [← Nat.pow_add]; congr 1; omega
theorem wb_lt2 {a b : Nat} (h : a < b) : 2 ^ a < 2 ^ b := Nat.pow_lt_pow_right (by decide) h
theorem wb_mod (n : Nat) : lN n = lN (n % 2 ^ 64) := wb_inj (by rw [wb_tb, wb_tb]; apply BitVec.eq_of_toNat_eq; rw [BitVec.toNat_ofNat, BitVec.toNat_ofNat, Nat.mod_mod])
theorem wb_shr {n k : Nat} (hn : n < 2 ^ 64) (hk : k < 64) : ((lN n).toUInt64 >>> ((nI k).toInt64.toUInt64 &&& Int64.toUInt64 63)).toInt64 = lN (n / 2 ^ k) := by
  rw [wb_cu k hk]
  apply wb_inj
  apply BitVec.eq_of_toNat_eq
  show ((lN n).toUInt64 >>> UInt64.ofNat k).toNat = (BitVec.ofNat 64 _).toNat
  have h1 : (UInt64.ofNat k).toNat = k := by
    show (BitVec.ofNat 64 k).toNat = k
    rw [BitVec.toNat_ofNat, Nat.mod_eq_of_lt (by omega)]
  have h2 : (lN n).toUInt64.toNat = n := wb_tn hn
  rw [UInt64.toNat_shiftRight, h1, h2, Nat.mod_eq_of_lt hk, Nat.shiftRight_eq_div_pow, BitVec.toNat_ofNat, Nat.mod_eq_of_lt (Nat.lt_of_le_of_lt (Nat.div_le_self _ _) hn)]
theorem wb_shl (n : Nat) {k : Nat} (hk : k < 64) : lN n <<< ((nI k).toInt64 &&& 63) = lN (n * 2 ^ k) := by
  rw [wb_c k hk]
  apply wb_inj
  rw [Int64.toBitVec_shiftLeft, wb_tb, wb_tb, wb_tb, wb_sm k hk]
  apply BitVec.eq_of_toNat_eq
  rw [BitVec.shiftLeft_eq', BitVec.toNat_shiftLeft, BitVec.toNat_ofNat, BitVec.toNat_ofNat, BitVec.toNat_ofNat, Nat.mod_eq_of_lt (show k < 2 ^ 64 by omega), Nat.shiftLeft_eq, Nat.mul_mod, Nat.mod_mod, ← Nat.mul_mod]
theorem zL_shl (n : Nat) {k : Nat} (hk : k < 64) : zL (n : Int) <<< ((zI (k : Int)).toInt64 &&& 63) = zL ((n * 2 ^ k : Nat) : Int) := by
  rw [zL_nat, zI_nat, zL_nat]
  exact wb_shl n hk
theorem zL_shr {n k : Nat} (hn : n < 2 ^ 64) (hk : k < 64) : ((zL (n : Int)).toUInt64 >>> ((zI (k : Int)).toInt64.toUInt64 &&& Int64.toUInt64 63)).toInt64 = zL ((n / 2 ^ k : Nat) : Int) := by
  rw [zL_nat, zI_nat, zL_nat]
  exact wb_shr hn hk
theorem zI_m32 (n : Nat) : zI (n : Int) = zI ((n % 2 ^ 32 : Nat) : Int) := by
  rw [zI_nat, zI_nat]
  apply Int32.toBitVec_inj.mp
  rw [bv_nI, bv_nI]
  apply BitVec.eq_of_toNat_eq
  rw [BitVec.toNat_ofNat, BitVec.toNat_ofNat, Nat.mod_mod]
section ZM
variable {p : Program} {l : Launch} {e : Env} {R : Room} {s : State} {m : MethodId} {args : Array Value} {below : List Frame} {meth : Method} {c : Code} {H H0 : Heap} {locs : List Loc} {cells slots : Nat} {Q : State → Prop}
variable {cc : ByteArray} {pc : Nat} {ls : Array Slot} {rest : List Value}
theorem z_lshl (hx : p.tables.exec = Jvm.exec) (hb : c.code = cc) {x y : Int} (hdg : decode cc pc = .ok (.lshl, 1)) (X Y : Nat) (hX : x = (X : Int)) (hY : y = (Y : Int)) (h1 : Y < 64) (kk : W p l e R s m args below meth c H locs cells slots Q (F0 m (pc + 1) ls (.long (zL ((X * 2 ^ Y : Nat) : Int)) :: rest))) : W p l e R s m args below meth c H locs cells slots Q (F0 m pc ls (.int (zI y) :: .long (zL x) :: rest)) := by subst hX; subst hY; exact lv_lshl hx hb hdg (zL_shl X h1) kk
theorem z_lushr (hx : p.tables.exec = Jvm.exec) (hb : c.code = cc) {x y : Int} (hdg : decode cc pc = .ok (.lushr, 1)) (X Y : Nat) (hX : x = (X : Int)) (hY : y = (Y : Int)) (h1 : Y < 64) (h2 : X < 2 ^ 64) (kk : W p l e R s m args below meth c H locs cells slots Q (F0 m (pc + 1) ls (.long (zL ((X / 2 ^ Y : Nat) : Int)) :: rest))) : W p l e R s m args below meth c H locs cells slots Q (F0 m pc ls (.int (zI y) :: .long (zL x) :: rest)) := by subst hX; subst hY; exact lv_lushr hx hb hdg (zL_shr h2 h1) kk
end ZM
end
section
/-! COUNTING: how many below n; the bits of a number; Integer.bitCount's way of counting them -/
def ct (p : Nat → Bool) : Nat → Nat
  | 0 => 0
  | n + 1 => ct p n + (p n).toNat
theorem ct_le (p : Nat → Bool) : ∀ n, ct p n ≤ n
  | 0 => Nat.le_refl _
  | n + 1 => by have := ct_le p n; have := Bool.toNat_le (p n); rw [ct]; omega
theorem ct_cong {p q : Nat → Bool} : ∀ {n : Nat}, (∀ i, i < n → p i = q i) → ct p n = ct q n
  | 0, _ => rfl
  | n + 1, h => by rw [ct, ct, ct_cong (fun i hi => h i (by omega)), h n (by omega)]
theorem ct_split (p : Nat → Bool) (m : Nat) : ∀ n, ct p (m + n) = ct p m + ct (fun i => p (m + i)) n
  | 0 => rfl
  | n + 1 => by rw [← Nat.add_assoc, ct, ct_split p m n, ct]; omega
theorem ct_zero {p : Nat → Bool} : ∀ {n : Nat}, (∀ i, i < n → p i = false) → ct p n = 0
  | 0, _ => rfl
  | n + 1, h => by rw [ct, ct_zero (fun i hi => h i (by omega)), h n (by omega)]; rfl
def pc32 (n : Nat) : Nat := ct (fun i => n.testBit i) 32
theorem and_dig {k a b d m : Nat} (hd : d < 2 ^ k) (hm : m < 2 ^ k) : (2 ^ k * a + d) &&& (2 ^ k * b + m) = 2 ^ k * (a &&& b) + (d &&& m) := by
  apply Nat.eq_of_testBit_eq
  intro i
  rw [Nat.testBit_and, Nat.testBit_two_pow_mul_add _ hd, Nat.testBit_two_pow_mul_add _ hm, Nat.testBit_two_pow_mul_add _ (Nat.and_lt_two_pow _ hm)]
  by_cases hi : i < k
  · simp [hi]
  · simp [hi]
theorem and4 {x0 x1 x2 x3 m : Nat} (h0 : x0 < 256) (h1 : x1 < 256) (h2 : x2 < 256) (hm : m < 256) : (x0 + 256 * x1 + 65536 * x2 + 16777216 * x3) &&& (m + 256 * m + 65536 * m + 16777216 * m) = (x0 &&& m) + 256 * (x1 &&& m) + 65536 * (x2 &&& m) + 16777216 * (x3 &&& m) := by
  have e1 := and_dig (k := 8) (a := x2 + 256 * x3) (b := m + 256 * m) (d := x1) (m := m) h1 hm
  have e2 := and_dig (k := 8) (a := x1 + 256 * (x2 + 256 * x3)) (b := m + 256 * (m + 256 * m)) (d := x0) (m := m) h0 hm
  have e3 := and_dig (k := 8) (a := x3) (b := m) (d := x2) (m := m) h2 hm
  rw [show (2 : Nat) ^ 8 = 256 from rfl] at e1 e2 e3
  rw [show x0 + 256 * x1 + 65536 * x2 + 16777216 * x3 = 256 * (x1 + 256 * (x2 + 256 * x3)) + x0 by omega, show m + 256 * m + 65536 * m + 16777216 * m = 256 * (m + 256 * (m + 256 * m)) + m by omega, e2, show x1 + 256 * (x2 + 256 * x3) = 256 * (x2 + 256 * x3) + x1 by omega, show m + 256 * (m + 256 * m) = 256 * (m + 256 * m) + m by omega, e1, show x2 + 256 * x3 = 256 * x3 + x2 by omega, show m + 256 * m = 256 * m + m by omega, e3]
  omega
theorem dv4 (q k x0 x1 x2 x3 : Nat) (hq : 0 < q) (h : q * k = 256) : (x0 + 256 * x1 + 65536 * x2 + 16777216 * x3) / q = (x0 / q + k * (x1 % q)) + 256 * (x1 / q + k * (x2 % q)) + 65536 * (x2 / q + k * (x3 % q)) + 16777216 * (x3 / q + k * 0) := by
  have e : x0 + 256 * x1 + 65536 * x2 + 16777216 * x3 = x0 + q * (k * (x1 + 256 * x2 + 65536 * x3)) := by
    rw [← Nat.mul_assoc, h]
    omega
  rw [e, Nat.add_mul_div_left _ _ hq]
  have m1 := Nat.div_add_mod x1 q
  have m2 := Nat.div_add_mod x2 q
  have m3 := Nat.div_add_mod x3 q
  have z : ∀ a b : Nat, k * (q * a + b) = 256 * a + k * b := fun a b => by rw [Nat.mul_add, ← Nat.mul_assoc, Nat.mul_comm k q, h]
  have z1 : k * x1 = 256 * (x1 / q) + k * (x1 % q) := by rw [← z, m1]
  have z2 : k * x2 = 256 * (x2 / q) + k * (x2 % q) := by rw [← z, m2]
  have z3 : k * x3 = 256 * (x3 / q) + k * (x3 % q) := by rw [← z, m3]
  have z4 : k * (x1 + 256 * x2 + 65536 * x3) = k * x1 + 256 * (k * x2) + 65536 * (k * x3) := by
    rw [Nat.mul_add, Nat.mul_add, Nat.mul_left_comm k 256 x2, Nat.mul_left_comm k 65536 x3]
  rw [z4, z1, z2, z3, Nat.mul_zero]
  generalize x1 / q = a1
  generalize x2 / q = a2
  generalize x3 / q = a3
  generalize x0 / q = a0
  generalize k * (x1 % q) = b1
  generalize k * (x2 % q) = b2
  generalize k * (x3 % q) = b3
  omega
def bc1 (n : Nat) : Nat := n - (n >>> 1 &&& 1431655765)
def bc2 (n : Nat) : Nat := (bc1 n &&& 858993459) + (bc1 n >>> 2 &&& 858993459)
def bc3 (n : Nat) : Nat := (bc2 n + bc2 n >>> 4) &&& 252645135
def bc4 (n : Nat) : Nat := bc3 n + bc3 n >>> 8
def bc5 (n : Nat) : Nat := bc4 n + bc4 n >>> 16
def by1 (x : Nat) : Nat := x - (x / 2 &&& 85)
def by2 (x : Nat) : Nat := (by1 x &&& 51) + (by1 x / 4 &&& 51)
def by3 (x : Nat) : Nat := (by2 x + by2 x / 16) % 16
theorem by_1 : ∀ x, x < 256 → ∀ e, e < 2 → (x / 2 + 128 * e) &&& 85 = x / 2 &&& 85 := by decide +kernel
theorem by_1b : ∀ x, x < 256 → (x / 2 &&& 85) ≤ x ∧ by1 x < 256 := by decide +kernel
theorem by_2 : ∀ x, x < 256 → ∀ e, e < 4 → (x / 4 + 64 * e) &&& 51 = x / 4 &&& 51 := by decide +kernel
theorem by_2b : ∀ x, x < 256 → by2 x % 16 ≤ 4 ∧ by2 x ≤ 68 := by decide +kernel
theorem by_3 : ∀ x, x < 69 → ∀ e, e < 5 → (x + x / 16 + 16 * e) &&& 15 = (x + x / 16) % 16 := by decide +kernel
theorem by_3b : ∀ x, x < 256 → by3 x = ct (fun i => x.testBit i) 8 := by decide +kernel
theorem bc_ok {n : Nat} (hn : n < 4294967296) : (n >>> 1 &&& 1431655765) ≤ n ∧ bc1 n < 4294967296 ∧ bc2 n < 1200000000 ∧ bc3 n < 252645136 ∧ bc5 n &&& 63 = pc32 n := by
  obtain ⟨x0, x1, x2, x3, h0, h1, h2, h3, rfl⟩ : ∃ x0 x1 x2 x3 : Nat, x0 < 256 ∧ x1 < 256 ∧ x2 < 256 ∧ x3 < 256 ∧ n = x0 + 256 * x1 + 65536 * x2 + 16777216 * x3 := ⟨n % 256, n / 256 % 256, n / 65536 % 256, n / 16777216, by omega, by omega, by omega, by omega, by omega⟩
  have e1 : ((x0 + 256 * x1 + 65536 * x2 + 16777216 * x3) >>> 1 &&& 1431655765) = (x0 / 2 &&& 85) + 256 * (x1 / 2 &&& 85) + 65536 * (x2 / 2 &&& 85) + 16777216 * (x3 / 2 &&& 85) := by
    rw [Nat.shiftRight_eq_div_pow, show (2 : Nat) ^ 1 = 2 from rfl, dv4 2 128 x0 x1 x2 x3 (by decide) rfl, show 1431655765 = 85 + 256 * 85 + 65536 * 85 + 16777216 * 85 from rfl, and4 (by omega) (by omega) (by omega) (by omega), by_1 x0 h0 _ (by omega), by_1 x1 h1 _ (by omega), by_1 x2 h2 _ (by omega), by_1 x3 h3 _ (by omega)]
  have b0 := by_1b x0 h0
  have b1 := by_1b x1 h1
  have b2 := by_1b x2 h2
  have b3 := by_1b x3 h3
  have e2 : bc1 (x0 + 256 * x1 + 65536 * x2 + 16777216 * x3) = by1 x0 + 256 * by1 x1 + 65536 * by1 x2 + 16777216 * by1 x3 := by
    unfold bc1
    rw [e1]
    unfold by1
    omega
  have e3 : bc2 (x0 + 256 * x1 + 65536 * x2 + 16777216 * x3) = by2 x0 + 256 * by2 x1 + 65536 * by2 x2 + 16777216 * by2 x3 := by
    unfold bc2
    rw [e2]
    have q1 := and4 (x3 := by1 x3) b0.2 b1.2 b2.2 (show 51 < 256 by decide)
    rw [show 51 + 256 * 51 + 65536 * 51 + 16777216 * 51 = 858993459 from rfl] at q1
    have q2 := and4 (x0 := by1 x0 / 4 + 64 * (by1 x1 % 4)) (x1 := by1 x1 / 4 + 64 * (by1 x2 % 4)) (x2 := by1 x2 / 4 + 64 * (by1 x3 % 4)) (x3 := by1 x3 / 4 + 64 * 0) (m := 51) (by omega) (by omega) (by omega) (by omega)
    rw [show 51 + 256 * 51 + 65536 * 51 + 16777216 * 51 = 858993459 from rfl, by_2 _ b0.2 _ (by omega), by_2 _ b1.2 _ (by omega), by_2 _ b2.2 _ (by omega), by_2 _ b3.2 _ (by omega)] at q2
    rw [q1, Nat.shiftRight_eq_div_pow, show (2 : Nat) ^ 2 = 4 from rfl, dv4 4 64 (by1 x0) (by1 x1) (by1 x2) (by1 x3) (by decide) rfl, q2]
    unfold by2
    generalize (by1 x0 &&& 51) = a0
    generalize (by1 x1 &&& 51) = a1
    generalize (by1 x2 &&& 51) = a2
    generalize (by1 x3 &&& 51) = a3
    generalize (by1 x0 / 4 &&& 51) = c0
    generalize (by1 x1 / 4 &&& 51) = c1
    generalize (by1 x2 / 4 &&& 51) = c2
    generalize (by1 x3 / 4 &&& 51) = c3
    omega
  have c0 := by_2b x0 h0
  have c1 := by_2b x1 h1
  have c2 := by_2b x2 h2
  have c3 := by_2b x3 h3
  have e4 : bc3 (x0 + 256 * x1 + 65536 * x2 + 16777216 * x3) = by3 x0 + 256 * by3 x1 + 65536 * by3 x2 + 16777216 * by3 x3 := by
    unfold bc3
    rw [e3]
    have q2 := and4 (x0 := by2 x0 + by2 x0 / 16 + 16 * (by2 x1 % 16)) (x1 := by2 x1 + by2 x1 / 16 + 16 * (by2 x2 % 16)) (x2 := by2 x2 + by2 x2 / 16 + 16 * (by2 x3 % 16)) (x3 := by2 x3 + by2 x3 / 16 + 16 * 0) (m := 15) (by omega) (by omega) (by omega) (by omega)
    rw [show 15 + 256 * 15 + 65536 * 15 + 16777216 * 15 = 252645135 from rfl, by_3 _ (by omega) _ (by omega), by_3 _ (by omega) _ (by omega), by_3 _ (by omega) _ (by omega), by_3 _ (by omega) _ (by omega)] at q2
    have q3 := dv4 16 16 (by2 x0) (by2 x1) (by2 x2) (by2 x3) (by decide) rfl
    rw [Nat.shiftRight_eq_div_pow, show (2 : Nat) ^ 4 = 16 from rfl, q3, ← show ∀ a0 a1 a2 a3 b0 b1 b2 b3 e1 e2 e3 e4 : Nat, (a0 + b0 + e1) + 256 * (a1 + b1 + e2) + 65536 * (a2 + b2 + e3) + 16777216 * (a3 + b3 + e4) = a0 + 256 * a1 + 65536 * a2 + 16777216 * a3 + ((b0 + e1) + 256 * (b1 + e2) + 65536 * (b2 + e3) + 16777216 * (b3 + e4)) from fun a0 a1 a2 a3 b0 b1 b2 b3 e1 e2 e3 e4 => by omega, q2]
    unfold by3
    rfl
  have d0 := by_3b x0 h0
  have d1 := by_3b x1 h1
  have d2 := by_3b x2 h2
  have d3 := by_3b x3 h3
  have g0 := ct_le (fun i => x0.testBit i) 8
  have g1 := ct_le (fun i => x1.testBit i) 8
  have g2 := ct_le (fun i => x2.testBit i) 8
  have g3 := ct_le (fun i => x3.testBit i) 8
  refine ⟨by rw [e1]; omega, by rw [e2]; omega, by rw [e3]; omega, by rw [e4, d0, d1, d2, d3]; omega, ?_⟩
  have e5 : bc5 (x0 + 256 * x1 + 65536 * x2 + 16777216 * x3) &&& 63 = by3 x0 + by3 x1 + by3 x2 + by3 x3 := by
    unfold bc5 bc4
    rw [e4, show (63 : Nat) = 2 ^ 6 - 1 from rfl, Nat.and_two_pow_sub_one_eq_mod, Nat.shiftRight_eq_div_pow, Nat.shiftRight_eq_div_pow]
    rw [d0, d1, d2, d3]
    generalize ct (fun i => x0.testBit i) 8 = s0 at g0 ⊢
    generalize ct (fun i => x1.testBit i) 8 = s1 at g1 ⊢
    generalize ct (fun i => x2.testBit i) 8 = s2 at g2 ⊢
    generalize ct (fun i => x3.testBit i) 8 = s3 at g3 ⊢
    clear e1 e2 e3 e4 b0 b1 b2 b3 c0 c1 c2 c3 d0 d1 d2 d3 h0 h1 h2 h3 hn
    have k1 : (s0 + 256 * s1 + 65536 * s2 + 16777216 * s3) / 2 ^ 8 = s1 + 256 * s2 + 65536 * s3 := by omega
    rw [k1]
    have k2 : (s0 + 256 * s1 + 65536 * s2 + 16777216 * s3 + (s1 + 256 * s2 + 65536 * s3)) / 2 ^ 16 = s2 + s3 + 256 * s3 := by omega
    rw [k2]
    omega
  rw [e5]
  unfold pc32
  rw [show (32 : Nat) = 8 + (8 + (8 + 8)) from rfl, ct_split, ct_split, ct_split, d0, d1, d2, d3]
  have z : ∀ (a q k i : Nat), a = 256 * q + k → k < 256 → i < 8 → a.testBit i = k.testBit i := by
    intro a q k i ha hk hi
    rw [ha, show 256 * q + k = 2 ^ 8 * q + k from rfl, Nat.testBit_two_pow_mul_add _ hk, if_pos hi]
  have s8 : ∀ a i : Nat, a.testBit (8 + i) = (a / 256).testBit i := fun a i => by rw [Nat.add_comm, ← Nat.testBit_div_two_pow]
  have w0 : ct (fun i => (x0 + 256 * x1 + 65536 * x2 + 16777216 * x3).testBit i) 8 = ct (fun i => x0.testBit i) 8 := ct_cong (fun i hi => z _ (x1 + 256 * x2 + 65536 * x3) x0 i (by omega) h0 hi)
  have w1 : ct (fun i => (x0 + 256 * x1 + 65536 * x2 + 16777216 * x3).testBit (8 + i)) 8 = ct (fun i => x1.testBit i) 8 := ct_cong (fun i hi => by rw [s8]; exact z _ (x2 + 256 * x3) x1 i (by omega) h1 hi)
  have w2 : ct (fun i => (x0 + 256 * x1 + 65536 * x2 + 16777216 * x3).testBit (8 + (8 + i))) 8 = ct (fun i => x2.testBit i) 8 := ct_cong (fun i hi => by rw [s8, s8]; exact z _ x3 x2 i (by omega) h2 hi)
  have w3 : ct (fun i => (x0 + 256 * x1 + 65536 * x2 + 16777216 * x3).testBit (8 + (8 + (8 + i)))) 8 = ct (fun i => x3.testBit i) 8 := ct_cong (fun i hi => by rw [s8, s8, s8]; exact z _ 0 x3 i (by omega) h3 hi)
  rw [w0, w1, w2, w3]
  omega
end
section
set_option maxHeartbeats 4000000 in
set_option maxRecDepth 100000 in
theorem c_isWithin (l : Launch) (D : va_G) (k : Kt) (v1 : Int) (v2 : Int) (v3 : Int) (hv1 : -2147483648 ≤ v1 ∧ v1 < 2147483648) (hv2 : -2147483648 ≤ v2 ∧ v2 < 2147483648) (hv3 : -2147483648 ≤ v3 ∧ v3 < 2147483648) : RO l D k yX9_isWithin wsX9_isWithin 0 0 [.int (zI v1), .int (zI v2), .int (zI v3)] [] (fun r => r = zI (b2i (decide (v2 ≤ v1) && decide (v1 ≤ v3)))) := by
  refine Met.ofW (cc := cX9_isWithin) (maxL := 3) (ret := (some .boolean)) (by decide) rfl ?_
  intro p e s m args below meth c s₁ Bd hml hv
  obtain ⟨rfl, hP, hK⟩ := hv
  have hx := Bd.exec
  have hb := Bd.bytes
  have hr := Bd.returns
  have hts := atoms_spec (ws := wsX9_isWithin) Bd.pre
  have hown : s.vm.findClass RX9 = some m.cls := findClass_of_methodNamed Bd.named
  have hlocks := Bd.notSynchronized
  have hSf : CallFix p m c cX9_isWithin 3 s ([.int (zI v1), .int (zI v2), .int (zI v3)] : List Value).toArray wsX9_isWithin RX9 := ⟨hx, hb, hml, hown, hts⟩
  have hl := lv_entry ([.int (zI v1), .int (zI v2), .int (zI v3)]) (n := 3) (Nat.le_of_ble_eq_true rfl)
  rw [lg_entry_eq]
  generalize (lg_sl ([.int (zI v1), .int (zI v2), .int (zI v3)]) ++ List.replicate (3 - (lg_sl ([.int (zI v1), .int (zI v2), .int (zI v3)])).length) Slot.unset).toArray = ls at hl ⊢
  have hl : lv_has ls 3 [(0, .int (zI v1)), (1, .int (zI v2)), (2, .int (zI v3))] := hl
  refine lv_iload_n hx hb dX9_isWithin_0 rfl (lv_at hl 0 rfl) ?_
  refine lv_iload_n hx hb dX9_isWithin_1 rfl (lv_at hl 1 rfl) ?_
  refine z_icmp_lt (tgt := 14) hx hb dX9_isWithin_2 (by decide) (by omega) (by omega) (fun c_2 => ?_) (fun c_2 => ?_)
  · refine z_iconst hx hb dX9_isWithin_14 ?_
    exact W.zret hx hb hr (by decide +kernel) (fun t ht hW => ⟨_, rfl, zc (by simp [b2i]; omega), ht⟩) (fun q hq => by cases hq) dX9_isWithin_15
  · refine lv_iload_n hx hb dX9_isWithin_5 rfl (lv_at hl 0 rfl) ?_
    refine lv_iload_n hx hb dX9_isWithin_6 rfl (lv_at hl 2 rfl) ?_
    refine z_icmp_gt (tgt := 14) hx hb dX9_isWithin_7 (by decide) (by omega) (by omega) (fun c_7 => ?_) (fun c_7 => ?_)
    · refine z_iconst hx hb dX9_isWithin_14 ?_
      exact W.zret hx hb hr (by decide +kernel) (fun t ht hW => ⟨_, rfl, zc (by simp [b2i]; omega), ht⟩) (fun q hq => by cases hq) dX9_isWithin_15
    · refine z_iconst hx hb dX9_isWithin_10 ?_
      refine lv_goto (tgt := 15) hx hb dX9_isWithin_11 (by decide) ?_
      exact W.zret hx hb hr (by decide +kernel) (fun t ht hW => ⟨_, rfl, zc (by simp [b2i]; omega), ht⟩) (fun q hq => by cases hq) dX9_isWithin_15
set_option maxHeartbeats 4000000 in
set_option maxRecDepth 100000 in
theorem c_isInSet (l : Launch) (D : va_G) (k : Kt) (a1 : Nat) (k1 : Nat) (ha1 : a1 < 4294967296) (hk1 : k1 < 32) : RO l D k yX9_isInSet wsX9_isInSet 0 0 [.int (zI ((a1 : Nat) : Int)), .int (zI ((k1 : Nat) : Int))] [] (fun r => r = zI (b2i (a1.testBit k1))) := by
  refine Met.ofW (cc := cX9_isInSet) (maxL := 2) (ret := (some .boolean)) (by decide) rfl ?_
  intro p e s m args below meth c s₁ Bd hml hv
  obtain ⟨rfl, hP, hK⟩ := hv
  have hx := Bd.exec
  have hb := Bd.bytes
  have hr := Bd.returns
  have hts := atoms_spec (ws := wsX9_isInSet) Bd.pre
  have hown : s.vm.findClass RX9 = some m.cls := findClass_of_methodNamed Bd.named
  have hlocks := Bd.notSynchronized
  have hSf : CallFix p m c cX9_isInSet 2 s ([.int (zI ((a1 : Nat) : Int)), .int (zI ((k1 : Nat) : Int))] : List Value).toArray wsX9_isInSet RX9 := ⟨hx, hb, hml, hown, hts⟩
  have hl := lv_entry ([.int (zI ((a1 : Nat) : Int)), .int (zI ((k1 : Nat) : Int))]) (n := 2) (Nat.le_of_ble_eq_true rfl)
  rw [lg_entry_eq]
  generalize (lg_sl ([.int (zI ((a1 : Nat) : Int)), .int (zI ((k1 : Nat) : Int))]) ++ List.replicate (2 - (lg_sl ([.int (zI ((a1 : Nat) : Int)), .int (zI ((k1 : Nat) : Int))])).length) Slot.unset).toArray = ls at hl ⊢
  have hl : lv_has ls 2 [(0, .int (zI ((a1 : Nat) : Int))), (1, .int (zI ((k1 : Nat) : Int)))] := hl
  have hb1 := Bool.toNat_le (a1.testBit k1)
  refine lv_iload_n hx hb dX9_isInSet_0 rfl (lv_at hl 0 rfl) ?_
  refine lv_iload_n hx hb dX9_isInSet_1 rfl (lv_at hl 1 rfl) ?_
  refine z_iushr hx hb dX9_isInSet_2 (a1) (k1) (by omega) (by omega) (by omega) (by omega) ?_
  refine z_iconst hx hb dX9_isInSet_3 ?_
  refine z_iand hx hb dX9_isInSet_4 (a1 >>> k1) (1) (by omega) (by omega) ?_
  refine te (zc (show (((a1 >>> k1) &&& 1 : Nat) : Int) = (((a1.testBit k1).toNat : Nat) : Int) from by rw [bit1])) ?_
  refine z_iconst hx hb dX9_isInSet_5 ?_
  refine z_icmp_ne (tgt := 13) hx hb dX9_isInSet_6 (by decide) (by omega) (by omega) (fun c_6 => ?_) (fun c_6 => ?_)
  · refine z_iconst hx hb dX9_isInSet_13 ?_
    exact W.zret hx hb hr (by decide +kernel) (fun t ht hW => ⟨_, rfl, zc (by cases hh : a1.testBit k1 <;> simp_all [b2i]), ht⟩) (fun q hq => by cases hq) dX9_isInSet_14
  · refine z_iconst hx hb dX9_isInSet_9 ?_
    refine lv_goto (tgt := 14) hx hb dX9_isInSet_10 (by decide) ?_
    exact W.zret hx hb hr (by decide +kernel) (fun t ht hW => ⟨_, rfl, zc (by cases hh : a1.testBit k1 <;> simp_all [b2i]), ht⟩) (fun q hq => by cases hq) dX9_isInSet_14
set_option maxHeartbeats 4000000 in
set_option maxRecDepth 100000 in
theorem c_floorMod (l : Launch) (D : va_G) (k : Kt) (x1 : Int) (y1 : Int) (hx1 : -2147483648 ≤ x1 ∧ x1 < 2147483648) (hy1 : 0 < y1 ∧ y1 < 2147483648) : RO l D k yJ9_floorMod_7cf53 wsJ9_floorMod_7cf53 0 0 [.int (zI x1), .int (zI y1)] [] (fun r => r = zI (x1 % y1)) := by
  refine va_MetF (cc := cJ9_floorMod_7cf53) (maxL := 3) (ret := (some .int)) (by decide +kernel) rfl ?_
  intro p e s m args below meth c s₁ Bd hml hv
  obtain ⟨rfl, hP, hK⟩ := hv
  have hx := Bd.exec
  have hb := Bd.bytes
  have hr := Bd.returns
  have hts := atoms_spec (ws := wsJ9_floorMod_7cf53) Bd.pre
  have hown : s.vm.findClass RJ9 = some m.cls := findClass_of_methodNamed Bd.named
  have hlocks := Bd.notSynchronized
  have hSf : CallFix p m c cJ9_floorMod_7cf53 3 s ([.int (zI x1), .int (zI y1)] : List Value).toArray wsJ9_floorMod_7cf53 RJ9 := ⟨hx, hb, hml, hown, hts⟩
  have hl := lv_entry ([.int (zI x1), .int (zI y1)]) (n := 3) (Nat.le_of_ble_eq_true rfl)
  rw [lg_entry_eq]
  generalize (lg_sl ([.int (zI x1), .int (zI y1)]) ++ List.replicate (3 - (lg_sl ([.int (zI x1), .int (zI y1)])).length) Slot.unset).toArray = ls at hl ⊢
  have hl : lv_has ls 3 [(0, .int (zI x1)), (1, .int (zI y1))] := hl
  have ht1 := tmod_bounds (a := x1) hy1.1
  refine lv_iload_n hx hb dJ9_floorMod_7cf53_0 rfl (lv_at hl 0 rfl) ?_
  refine lv_iload_n hx hb dJ9_floorMod_7cf53_1 rfl (lv_at hl 1 rfl) ?_
  refine z_iremT hx hb dJ9_floorMod_7cf53_2 (by omega) (by omega) ?_
  refine lv_istore_n (lv' := [(2, .int (zI (x1.tmod y1))), (0, .int (zI x1)), (1, .int (zI y1))]) hx hb dJ9_floorMod_7cf53_3 rfl hl (by decide) rfl (fun ls hl => ?_)
  refine lv_iload_n hx hb dJ9_floorMod_7cf53_4 rfl (lv_at hl 1 rfl) ?_
  refine lv_iload_n hx hb dJ9_floorMod_7cf53_5 rfl (lv_at hl 2 rfl) ?_
  refine lv_ixor hx hb dJ9_floorMod_7cf53_6 ?_
  refine lv_if_ge (tgt := 18) hx hb dJ9_floorMod_7cf53_7 (by decide) (fun c_7 => ?_) (fun c_7 => ?_)
  · have c_7 := (fm_sign hx1 hy1).mp c_7
    refine lv_iload_n hx hb dJ9_floorMod_7cf53_18 rfl (lv_at hl 0 rfl) ?_
    exact W.iret hx hb hr (fun t ht hW => ⟨_, rfl, by first | exact zc (Int.tmod_eq_emod_of_nonneg c_7) | exact zc (tm1 c_7 hy1.1 c_11), ht⟩) (fun q hq => by cases hq) dJ9_floorMod_7cf53_19
  · have c_7 : x1 < 0 := by rw [fm_sign hx1 hy1] at c_7; omega
    refine lv_iload_n hx hb dJ9_floorMod_7cf53_10 rfl (lv_at hl 0 rfl) ?_
    refine z_if_eq (tgt := 18) hx hb dJ9_floorMod_7cf53_11 (by decide) (by omega) (fun c_11 => ?_) (fun c_11 => ?_)
    · refine lv_iload_n hx hb dJ9_floorMod_7cf53_18 rfl (lv_at hl 0 rfl) ?_
      exact W.iret hx hb hr (fun t ht hW => ⟨_, rfl, by first | exact zc (Int.tmod_eq_emod_of_nonneg c_7) | exact zc (tm1 c_7 hy1.1 c_11), ht⟩) (fun q hq => by cases hq) dJ9_floorMod_7cf53_19
    · refine lv_iload_n hx hb dJ9_floorMod_7cf53_14 rfl (lv_at hl 0 rfl) ?_
      refine lv_iload_n hx hb dJ9_floorMod_7cf53_15 rfl (lv_at hl 2 rfl) ?_
      refine z_iadd hx hb dJ9_floorMod_7cf53_16 ?_
      exact W.iret hx hb hr (fun t ht hW => ⟨_, rfl, zc (tm2 c_7 hy1.1 c_11), ht⟩) (fun q hq => by cases hq) dJ9_floorMod_7cf53_17
set_option maxHeartbeats 4000000 in
set_option maxRecDepth 100000 in
theorem c_cell (l : Launch) (D : va_G) (k : Kt) (h0 : Nat) (c0 : Nat) (f : St) (j1 : Nat) (hj1 : j1 < 132) : RO l D k yX7_cell wsX7_cell 0 0 [.ref h0, .int (zI ((j1 : Nat) : Int))] [(h0, .inr (7, [.ref c0])), (c0, .inl (k.1, 132, .inl (zF f)))] (fun r => r = zI (f j1)) := by
  refine Met.ofW (cc := cX7_cell) (maxL := 2) (ret := (some .int)) (by decide) rfl ?_
  intro p e s m args below meth c s₁ Bd hml hv
  obtain ⟨rfl, hP, hK⟩ := hv
  have hx := Bd.exec
  have hb := Bd.bytes
  have hr := Bd.returns
  have hts := atoms_spec (ws := wsX7_cell) Bd.pre
  have hown : s.vm.findClass RX7 = some m.cls := findClass_of_methodNamed Bd.named
  have hlocks := Bd.notSynchronized
  have hSf : CallFix p m c cX7_cell 2 s ([.ref h0, .int (zI ((j1 : Nat) : Int))] : List Value).toArray wsX7_cell RX7 := ⟨hx, hb, hml, hown, hts⟩
  have hinX7 : ∀ w ∈ u_ws RX7 TX7 1, w ∈ wsX7_cell := by decide +kernel
  have fl11 := hts (.fieldLink RX7 11 "DotObjects$Scene" "cells" "[I") (by decide +kernel)
  have hl := lv_entry ([.ref h0, .int (zI ((j1 : Nat) : Int))]) (n := 2) (Nat.le_of_ble_eq_true rfl)
  rw [lg_entry_eq]
  generalize (lg_sl ([.ref h0, .int (zI ((j1 : Nat) : Int))]) ++ List.replicate (2 - (lg_sl ([.ref h0, .int (zI ((j1 : Nat) : Int))])).length) Slot.unset).toArray = ls at hl ⊢
  have hl : lv_has ls 2 [(0, .ref h0), (1, .int (zI ((j1 : Nat) : Int)))] := hl
  refine lv_aload_n hx hb dX7_cell_0 rfl (lv_at hl 0 rfl) ?_
  refine va_get (D := D) (ci := 7) (v := .ref c0) (C := RX7) (T := TX7) (N := 1) hx hb hts hinX7 hown hK.1 hP 0 rfl rfl 0 (by decide) fl11 (fun _ h9 => h9) rfl dX7_cell_1 ?_
  refine lv_iload_n hx hb dX7_cell_4 rfl (lv_at hl 1 rfl) ?_
  refine z_ald hx hb hK hP 1 rfl (j1) (by omega) (by omega) (Nat.le_of_ble_eq_true rfl) dX7_cell_5 ?_
  exact W.iret hx hb hr (fun t ht hW => ⟨_, rfl, rfl, ht⟩) (fun q hq => by cases hq) dX7_cell_6
set_option maxHeartbeats 4000000 in
set_option maxRecDepth 100000 in
theorem c_field (l : Launch) (D : va_G) (k : Kt) (h0 : Nat) (c0 : Nat) (f : St) (t1 : Nat) (w1 : Nat) (ht1 : t1 < 12) (hw1 : w1 < 8) : RO l D k yX7_field wsX7_field 0 0 [.ref h0, .int (zI ((t1 : Nat) : Int)), .int (zI ((w1 : Nat) : Int))] [(h0, .inr (7, [.ref c0])), (c0, .inl (k.1, 132, .inl (zF f)))] (fun r => r = zI (th f t1 w1)) := by
  refine Met.ofW (cc := cX7_field) (maxL := 3) (ret := (some .int)) (by decide) rfl ?_
  intro p e s m args below meth c s₁ Bd hml hv
  obtain ⟨rfl, hP, hK⟩ := hv
  have hx := Bd.exec
  have hb := Bd.bytes
  have hr := Bd.returns
  have hts := atoms_spec (ws := wsX7_field) Bd.pre
  have hown : s.vm.findClass RX7 = some m.cls := findClass_of_methodNamed Bd.named
  have hlocks := Bd.notSynchronized
  have hSf : CallFix p m c cX7_field 3 s ([.ref h0, .int (zI ((t1 : Nat) : Int)), .int (zI ((w1 : Nat) : Int))] : List Value).toArray wsX7_field RX7 := ⟨hx, hb, hml, hown, hts⟩
  have hinX7 : ∀ w ∈ u_ws RX7 TX7 1, w ∈ wsX7_field := by decide +kernel
  have fl11 := hts (.fieldLink RX7 11 "DotObjects$Scene" "cells" "[I") (by decide +kernel)
  have hl := lv_entry ([.ref h0, .int (zI ((t1 : Nat) : Int)), .int (zI ((w1 : Nat) : Int))]) (n := 3) (Nat.le_of_ble_eq_true rfl)
  rw [lg_entry_eq]
  generalize (lg_sl ([.ref h0, .int (zI ((t1 : Nat) : Int)), .int (zI ((w1 : Nat) : Int))]) ++ List.replicate (3 - (lg_sl ([.ref h0, .int (zI ((t1 : Nat) : Int)), .int (zI ((w1 : Nat) : Int))])).length) Slot.unset).toArray = ls at hl ⊢
  have hl : lv_has ls 3 [(0, .ref h0), (1, .int (zI ((t1 : Nat) : Int))), (2, .int (zI ((w1 : Nat) : Int)))] := hl
  refine lv_aload_n hx hb dX7_field_0 rfl (lv_at hl 0 rfl) ?_
  refine va_get (D := D) (ci := 7) (v := .ref c0) (C := RX7) (T := TX7) (N := 1) hx hb hts hinX7 hown hK.1 hP 0 rfl rfl 0 (by decide) fl11 (fun _ h9 => h9) rfl dX7_field_1 ?_
  refine z_bipush hx hb dX7_field_4 (by decide +kernel) ?_
  refine lv_iload_n hx hb dX7_field_6 rfl (lv_at hl 1 rfl) ?_
  refine z_bipush hx hb dX7_field_7 (by decide +kernel) ?_
  refine z_imul hx hb dX7_field_9 ?_
  refine z_iadd hx hb dX7_field_10 ?_
  refine lv_iload_n hx hb dX7_field_11 rfl (lv_at hl 2 rfl) ?_
  refine z_iadd hx hb dX7_field_12 ?_
  refine z_ald hx hb hK hP 1 rfl (36 + 8 * t1 + w1) (by omega) (by omega) (Nat.le_of_ble_eq_true rfl) dX7_field_13 ?_
  exact W.iret hx hb hr (fun t ht hW => ⟨_, rfl, rfl, ht⟩) (fun q hq => by cases hq) dX7_field_14
set_option maxHeartbeats 4000000 in
set_option maxRecDepth 100000 in
theorem c_bits (l : Launch) (D : va_G) (k : Kt) (h0 : Nat) (c0 : Nat) (f : St) (p1 : Nat) (r1 : Nat) (hp1 : p1 < 4) (hr1 : r1 < 8) : RO l D k yX7_bits wsX7_bits 0 0 [.ref h0, .int (zI ((p1 : Nat) : Int)), .int (zI ((r1 : Nat) : Int))] [(h0, .inr (7, [.ref c0])), (c0, .inl (k.1, 132, .inl (zF f)))] (fun r => r = zI (f (4 + 8 * p1 + r1))) := by
  refine Met.ofW (cc := cX7_bits) (maxL := 3) (ret := (some .int)) (by decide) rfl ?_
  intro p e s m args below meth c s₁ Bd hml hv
  obtain ⟨rfl, hP, hK⟩ := hv
  have hx := Bd.exec
  have hb := Bd.bytes
  have hr := Bd.returns
  have hts := atoms_spec (ws := wsX7_bits) Bd.pre
  have hown : s.vm.findClass RX7 = some m.cls := findClass_of_methodNamed Bd.named
  have hlocks := Bd.notSynchronized
  have hSf : CallFix p m c cX7_bits 3 s ([.ref h0, .int (zI ((p1 : Nat) : Int)), .int (zI ((r1 : Nat) : Int))] : List Value).toArray wsX7_bits RX7 := ⟨hx, hb, hml, hown, hts⟩
  have hinX7 : ∀ w ∈ u_ws RX7 TX7 1, w ∈ wsX7_bits := by decide +kernel
  have fl11 := hts (.fieldLink RX7 11 "DotObjects$Scene" "cells" "[I") (by decide +kernel)
  have hl := lv_entry ([.ref h0, .int (zI ((p1 : Nat) : Int)), .int (zI ((r1 : Nat) : Int))]) (n := 3) (Nat.le_of_ble_eq_true rfl)
  rw [lg_entry_eq]
  generalize (lg_sl ([.ref h0, .int (zI ((p1 : Nat) : Int)), .int (zI ((r1 : Nat) : Int))]) ++ List.replicate (3 - (lg_sl ([.ref h0, .int (zI ((p1 : Nat) : Int)), .int (zI ((r1 : Nat) : Int))])).length) Slot.unset).toArray = ls at hl ⊢
  have hl : lv_has ls 3 [(0, .ref h0), (1, .int (zI ((p1 : Nat) : Int))), (2, .int (zI ((r1 : Nat) : Int)))] := hl
  refine lv_aload_n hx hb dX7_bits_0 rfl (lv_at hl 0 rfl) ?_
  refine va_get (D := D) (ci := 7) (v := .ref c0) (C := RX7) (T := TX7) (N := 1) hx hb hts hinX7 hown hK.1 hP 0 rfl rfl 0 (by decide) fl11 (fun _ h9 => h9) rfl dX7_bits_1 ?_
  refine z_iconst hx hb dX7_bits_4 ?_
  refine lv_iload_n hx hb dX7_bits_5 rfl (lv_at hl 1 rfl) ?_
  refine z_bipush hx hb dX7_bits_6 (by decide +kernel) ?_
  refine z_imul hx hb dX7_bits_8 ?_
  refine z_iadd hx hb dX7_bits_9 ?_
  refine lv_iload_n hx hb dX7_bits_10 rfl (lv_at hl 2 rfl) ?_
  refine z_iadd hx hb dX7_bits_11 ?_
  refine z_ald hx hb hK hP 1 rfl (4 + 8 * p1 + r1) (by omega) (by omega) (Nat.le_of_ble_eq_true rfl) dX7_bits_12 ?_
  exact W.iret hx hb hr (fun t ht hW => ⟨_, rfl, rfl, ht⟩) (fun q hq => by cases hq) dX7_bits_13
set_option maxHeartbeats 4000000 in
set_option maxRecDepth 100000 in
theorem c_isFull (l : Launch) (D : va_G) (k : Kt) (h0 : Nat) (c0 : Nat) (f : St) (B : Int) (hV : Va B f) : RO l D k yX7_isFull wsX7_isFull 0 0 [.ref h0] [(h0, .inr (7, [.ref c0])), (c0, .inl (k.1, 132, .inl (zF f)))] (fun r => r = zI (b2i (decide (12 ≤ nT f)))) := by
  refine Met.ofW (cc := cX7_isFull) (maxL := 1) (ret := (some .boolean)) (by decide) rfl ?_
  intro p e s m args below meth c s₁ Bd hml hv
  obtain ⟨rfl, hP, hK⟩ := hv
  have hx := Bd.exec
  have hb := Bd.bytes
  have hr := Bd.returns
  have hts := atoms_spec (ws := wsX7_isFull) Bd.pre
  have hown : s.vm.findClass RX7 = some m.cls := findClass_of_methodNamed Bd.named
  have hlocks := Bd.notSynchronized
  have hSf : CallFix p m c cX7_isFull 1 s ([.ref h0] : List Value).toArray wsX7_isFull RX7 := ⟨hx, hb, hml, hown, hts⟩
  have hinX7 : ∀ w ∈ u_ws RX7 TX7 1, w ∈ wsX7_isFull := by decide +kernel
  have fl11 := hts (.fieldLink RX7 11 "DotObjects$Scene" "cells" "[I") (by decide +kernel)
  have hl := lv_entry ([.ref h0]) (n := 1) (Nat.le_of_ble_eq_true rfl)
  rw [lg_entry_eq]
  generalize (lg_sl ([.ref h0]) ++ List.replicate (1 - (lg_sl ([.ref h0])).length) Slot.unset).toArray = ls at hl ⊢
  have hl : lv_has ls 1 [(0, .ref h0)] := hl
  have hn := hV.n
  have hv := hV.1
  refine lv_aload_n hx hb dX7_isFull_0 rfl (lv_at hl 0 rfl) ?_
  refine va_get (D := D) (ci := 7) (v := .ref c0) (C := RX7) (T := TX7) (N := 1) hx hb hts hinX7 hown hK.1 hP 0 rfl rfl 0 (by decide) fl11 (fun _ h9 => h9) rfl dX7_isFull_1 ?_
  refine z_iconst hx hb dX7_isFull_4 ?_
  refine z_ald hx hb hK hP 1 rfl (0) (by omega) (by omega) (Nat.le_of_ble_eq_true rfl) dX7_isFull_5 ?_
  refine z_bipush hx hb dX7_isFull_6 (by decide +kernel) ?_
  refine z_icmp_lt (tgt := 15) hx hb dX7_isFull_8 (by decide) (by omega) (by omega) (fun c_8 => ?_) (fun c_8 => ?_)
  · refine z_iconst hx hb dX7_isFull_15 ?_
    exact W.zret hx hb hr (by decide +kernel) (fun t ht hW => ⟨_, rfl, zc (by simp [b2i]; omega), ht⟩) (fun q hq => by cases hq) dX7_isFull_16
  · refine z_iconst hx hb dX7_isFull_11 ?_
    refine lv_goto (tgt := 16) hx hb dX7_isFull_12 (by decide) ?_
    exact W.zret hx hb hr (by decide +kernel) (fun t ht hW => ⟨_, rfl, zc (by simp [b2i]; omega), ht⟩) (fun q hq => by cases hq) dX7_isFull_16
set_option maxHeartbeats 4000000 in
set_option maxRecDepth 100000 in
theorem c_isOn (l : Launch) (D : va_G) (k : Kt) (h0 : Nat) (c0 : Nat) (f : St) (B : Int) (hV : Va B f) (t1 : Nat) (L1 : Nat) (ht1 : t1 < nT f) (hL1 : L1 < 24) : RO l D k yX7_isOn wsX7_isOn 1 22 [.ref h0, .int (zI ((t1 : Nat) : Int)), .int (zI ((L1 : Nat) : Int))] [(h0, .inr (7, [.ref c0])), (c0, .inl (k.1, 132, .inl (zF f)))] (fun r => r = zI (b2i (onL f t1 L1))) := by
  refine Met.ofW (cc := cX7_isOn) (maxL := 3) (ret := (some .boolean)) (by decide) rfl ?_
  intro p e s m args below meth c s₁ Bd hml hv
  obtain ⟨rfl, hP, hK⟩ := hv
  have hx := Bd.exec
  have hb := Bd.bytes
  have hr := Bd.returns
  have hts := atoms_spec (ws := wsX7_isOn) Bd.pre
  have hown : s.vm.findClass RX7 = some m.cls := findClass_of_methodNamed Bd.named
  have hlocks := Bd.notSynchronized
  have hSf : CallFix p m c cX7_isOn 3 s ([.ref h0, .int (zI ((t1 : Nat) : Int)), .int (zI ((L1 : Nat) : Int))] : List Value).toArray wsX7_isOn RX7 := ⟨hx, hb, hml, hown, hts⟩
  have hl := lv_entry ([.ref h0, .int (zI ((t1 : Nat) : Int)), .int (zI ((L1 : Nat) : Int))]) (n := 3) (Nat.le_of_ble_eq_true rfl)
  rw [lg_entry_eq]
  generalize (lg_sl ([.ref h0, .int (zI ((t1 : Nat) : Int)), .int (zI ((L1 : Nat) : Int))]) ++ List.replicate (3 - (lg_sl ([.ref h0, .int (zI ((t1 : Nat) : Int)), .int (zI ((L1 : Nat) : Int))])).length) Slot.unset).toArray = ls at hl ⊢
  have hl : lv_has ls 3 [(0, .ref h0), (1, .int (zI ((t1 : Nat) : Int))), (2, .int (zI ((L1 : Nat) : Int)))] := hl
  have hn := hV.n
  have hv := hV.t ht1
  refine lv_iload_n hx hb dX7_isOn_0 rfl (lv_at hl 2 rfl) ?_
  refine lv_aload_n hx hb dX7_isOn_1 rfl (lv_at hl 0 rfl) ?_
  refine lv_iload_n hx hb dX7_isOn_2 rfl (lv_at hl 1 rfl) ?_
  refine z_iconst hx hb dX7_isOn_3 ?_
  refine roV (n := 2) (As := [.int (zI ((t1 : Nat) : Int)), .int (zI ((1 : Nat) : Int))]) (rest := [.int (zI ((L1 : Nat) : Int))]) hSf (c_field l D k h0 c0 f t1 1 (by omega) (by omega)) gX7_isOn_X7_field rfl (by decide +kernel) ⟨Nat.le_of_ble_eq_true rfl, Nat.le_of_ble_eq_true rfl⟩ hK hP [0, 1] rfl 0 rfl rfl rfl hl.1 (by rw [show zI 1 = zI ((1 : Nat) : Int) from zc (by omega)]; rfl) (Nat.le_of_ble_eq_true rfl) dX7_isOn_4 ⟨Nat.zero_le _, Nat.zero_le _⟩ (fun r_4 h_4 => ?_)
  subst h_4
  refine z_isub hx hb dX7_isOn_7 ?_
  refine z_iconst hx hb dX7_isOn_8 ?_
  refine z_bipush hx hb dX7_isOn_9 (by decide +kernel) ?_
  refine roSN (n := 3) (As := [.int (zI (((L1 : Nat) : Int) - th f t1 1)), .int (zI 0), .int (zI 7)]) (rest := []) hSf (c_isWithin l D k (((L1 : Nat) : Int) - th f t1 1) 0 7 (by omega) (by omega) (by omega)) gX7_isOn_X9_isWithin_n41 rfl hK.2.1 (hts (.initialized RX9) (by decide +kernel)) (hts (.static yX9_isWithin) (by decide +kernel)) (by decide +kernel) ⟨Nat.le_of_ble_eq_true rfl, Nat.le_of_ble_eq_true rfl⟩ hK hP [] rfl rfl hl.1 rfl (Nat.le_of_ble_eq_true rfl) dX7_isOn_11 ⟨Nat.zero_le _, Nat.zero_le _⟩ (fun r_11 h_11 => ?_)
  subst h_11
  exact W.zret hx hb hr (nbb _) (fun t ht hW => ⟨_, rfl, rfl, ht⟩) (fun q hq => by cases hq) dX7_isOn_14
set_option maxHeartbeats 4000000 in
set_option maxRecDepth 100000 in
theorem c_setOn (l : Launch) (D : va_G) (k : Kt) (h0 : Nat) (c0 : Nat) (f : St) (B : Int) (hV : Va B f) (L1 : Nat) (hL1 : L1 < 24) : RO l D k yX7_setOn wsX7_setOn 2 44 [.ref h0, .int (zI ((L1 : Nat) : Int))] [(h0, .inr (7, [.ref c0])), (c0, .inl (k.1, 132, .inl (zF f)))] (fun r => r = zI ((onS f L1 : Nat) : Int)) := by
  refine Met.ofW (cc := cX7_setOn) (maxL := 4) (ret := (some .int)) (by decide) rfl ?_
  intro p e s m args below meth c s₁ Bd hml hv
  obtain ⟨rfl, hP, hK⟩ := hv
  have hx := Bd.exec
  have hb := Bd.bytes
  have hr := Bd.returns
  have hts := atoms_spec (ws := wsX7_setOn) Bd.pre
  have hown : s.vm.findClass RX7 = some m.cls := findClass_of_methodNamed Bd.named
  have hlocks := Bd.notSynchronized
  have hSf : CallFix p m c cX7_setOn 4 s ([.ref h0, .int (zI ((L1 : Nat) : Int))] : List Value).toArray wsX7_setOn RX7 := ⟨hx, hb, hml, hown, hts⟩
  have hinX7 : ∀ w ∈ u_ws RX7 TX7 1, w ∈ wsX7_setOn := by decide +kernel
  have fl11 := hts (.fieldLink RX7 11 "DotObjects$Scene" "cells" "[I") (by decide +kernel)
  have hl := lv_entry ([.ref h0, .int (zI ((L1 : Nat) : Int))]) (n := 4) (Nat.le_of_ble_eq_true rfl)
  rw [lg_entry_eq]
  generalize (lg_sl ([.ref h0, .int (zI ((L1 : Nat) : Int))]) ++ List.replicate (4 - (lg_sl ([.ref h0, .int (zI ((L1 : Nat) : Int))])).length) Slot.unset).toArray = ls at hl ⊢
  have hl : lv_has ls 4 [(0, .ref h0), (1, .int (zI ((L1 : Nat) : Int)))] := hl
  have hn := hV.n
  refine z_iconst hx hb dX7_setOn_0 ?_
  refine lv_istore_n (lv' := [(2, .int (zI 0)), (0, .ref h0), (1, .int (zI ((L1 : Nat) : Int)))]) hx hb dX7_setOn_1 rfl hl (by decide) rfl (fun ls hl => ?_)
  refine z_iconst hx hb dX7_setOn_2 ?_
  refine lv_istore_n (lv' := [(3, .int (zI 0)), (2, .int (zI 0)), (0, .ref h0), (1, .int (zI ((L1 : Nat) : Int)))]) hx hb dX7_setOn_3 rfl hl (by decide) rfl (fun ls hl => ?_)
  have L4 : ∀ (NN4 : Nat), ∀ (t : Nat), (t ≤ nT f) → nT f - t < NN4 → ∀ (ls : Array Slot), lv_has ls 4 [(0, .ref h0), (1, .int (zI ((L1 : Nat) : Int))), (2, .int (zI ((setP (fun u => onL f u L1) t : Nat) : Int))), (3, .int (zI ((t : Nat) : Int)))] → W p l e (headSpec wsX7_setOn { frames := 2, cells := 0, slots := 0, locals := 44 }).room s m ([.ref h0, .int (zI ((L1 : Nat) : Int))] : List Value).toArray below meth c s.heap [] 0 0 (MQ below (vp_Si (fun r => r = zI ((onS f L1 : Nat) : Int))) ([.ref h0, .int (zI ((L1 : Nat) : Int))] : List Value).toArray s 0 0 (fun _ => False)) (F0 m 4 ls []) := by
    intro NN4
    induction NN4 with
    | zero => intro t _ hN; exact absurd hN (Nat.not_lt_zero _)
    | succ NN4 ih4 =>
      intro t ht hN ls hl
      refine lv_iload_n hx hb dX7_setOn_4 rfl (lv_at hl 3 rfl) ?_
      refine lv_aload_n hx hb dX7_setOn_5 rfl (lv_at hl 0 rfl) ?_
      refine va_get (D := D) (ci := 7) (v := .ref c0) (C := RX7) (T := TX7) (N := 1) hx hb hts hinX7 hown hK.1 hP 0 rfl rfl 0 (by decide) fl11 (fun _ h9 => h9) rfl dX7_setOn_6 ?_
      refine z_iconst hx hb dX7_setOn_9 ?_
      refine z_ald hx hb hK hP 1 rfl (0) (by omega) (by omega) (Nat.le_of_ble_eq_true rfl) dX7_setOn_10 ?_
      refine z_icmp_ge (tgt := 35) hx hb dX7_setOn_11 (by decide) (by omega) (by omega) (fun c_11 => ?_) (fun c_11 => ?_)
      · obtain rfl : t = nT f := by omega
        refine lv_iload_n hx hb dX7_setOn_35 rfl (lv_at hl 2 rfl) ?_
        exact W.iret hx hb hr (fun t ht hW => ⟨_, rfl, rfl, ht⟩) (fun q hq => by cases hq) dX7_setOn_36
      · refine lv_aload_n hx hb dX7_setOn_14 rfl (lv_at hl 0 rfl) ?_
        refine lv_iload_n hx hb dX7_setOn_15 rfl (lv_at hl 3 rfl) ?_
        refine lv_iload_n hx hb dX7_setOn_16 rfl (lv_at hl 1 rfl) ?_
        refine roV (n := 2) (As := [.int (zI ((t : Nat) : Int)), .int (zI ((L1 : Nat) : Int))]) (rest := []) hSf (c_isOn l D k h0 c0 f B hV t L1 (by omega) hL1) gX7_setOn_X7_isOn rfl (by decide +kernel) ⟨Nat.le_of_ble_eq_true rfl, Nat.le_of_ble_eq_true rfl⟩ hK hP [0, 1] rfl 0 rfl rfl rfl hl.1 rfl (Nat.le_of_ble_eq_true rfl) dX7_setOn_17 ⟨Nat.zero_le _, Nat.zero_le _⟩ (fun r_17 h_17 => ?_)
        subst h_17
        refine z_if_eqb (tgt := 29) hx hb dX7_setOn_20 (by decide) (fun c_20 => ?_) (fun c_20 => ?_)
        · refine lv_iinc (v := zI (((t : Nat) : Int) + 1)) (lv' := [(3, .int (zI (((t : Nat) : Int) + 1))), (0, .ref h0), (1, .int (zI ((L1 : Nat) : Int))), (2, .int (zI ((setP (fun u => onL f u L1) t : Nat) : Int)))]) hx hb dX7_setOn_29 hl (k := 3) rfl (zI_add _ _) (by decide) rfl (fun ls hl => ?_)
          refine lv_goto (tgt := 4) hx hb dX7_setOn_32 (by decide) ?_
          have hl : lv_has ls 4 [(3, .int (zI (((t : Nat) : Int) + 1))), (0, .ref h0), (1, .int (zI ((L1 : Nat) : Int))), (2, .int (zI ((setP (fun u => onL f u L1) (t + 1) : Nat) : Int)))] := lv_c (l1 := [(3, .int (zI (((t : Nat) : Int) + 1))), (0, .ref h0), (1, .int (zI ((L1 : Nat) : Int)))]) (l2 := []) hl (show ((setP (fun u => onL f u L1) t : Nat) : Int) = ((setP (fun u => onL f u L1) (t + 1) : Nat) : Int) from by first | exact congrArg Nat.cast (setP_t (p := (fun u => onL f u L1)) c_20) | exact congrArg Nat.cast (setP_f (p := (fun u => onL f u L1)) c_20))
          have hl : lv_has ls 4 [(3, .int (zI (((t + 1) : Nat) : Int))), (0, .ref h0), (1, .int (zI ((L1 : Nat) : Int))), (2, .int (zI ((setP (fun u => onL f u L1) (t + 1) : Nat) : Int)))] := lv_c (l1 := []) (l2 := [(0, .ref h0), (1, .int (zI ((L1 : Nat) : Int))), (2, .int (zI ((setP (fun u => onL f u L1) (t + 1) : Nat) : Int)))]) hl (show ((t : Nat) : Int) + 1 = (((t + 1) : Nat) : Int) from by omega)
          exact ih4 (t + 1) (by omega) (by omega) ls (lv_sub hl [1, 2, 3, 0] rfl)
        · refine lv_iload_n hx hb dX7_setOn_23 rfl (lv_at hl 2 rfl) ?_
          refine z_iconst hx hb dX7_setOn_24 ?_
          refine lv_iload_n hx hb dX7_setOn_25 rfl (lv_at hl 3 rfl) ?_
          refine z_ishl hx hb dX7_setOn_26 (1) (t) (by omega) (by omega) (by omega) (sh1_lt (n := 12) (by omega) (by decide)) ?_
          refine z_ior hx hb dX7_setOn_27 (setP (fun u => onL f u L1) t) (1 <<< t) (by omega) (by omega) ?_
          refine lv_istore_n (lv' := [(2, .int (zI (((setP (fun u => onL f u L1) t) ||| (1 <<< t) : Nat) : Int))), (0, .ref h0), (1, .int (zI ((L1 : Nat) : Int))), (3, .int (zI ((t : Nat) : Int)))]) hx hb dX7_setOn_28 rfl hl (by decide) rfl (fun ls hl => ?_)
          refine lv_iinc (v := zI (((t : Nat) : Int) + 1)) (lv' := [(3, .int (zI (((t : Nat) : Int) + 1))), (2, .int (zI (((setP (fun u => onL f u L1) t) ||| (1 <<< t) : Nat) : Int))), (0, .ref h0), (1, .int (zI ((L1 : Nat) : Int)))]) hx hb dX7_setOn_29 hl (k := 3) rfl (zI_add _ _) (by decide) rfl (fun ls hl => ?_)
          refine lv_goto (tgt := 4) hx hb dX7_setOn_32 (by decide) ?_
          have hl : lv_has ls 4 [(3, .int (zI (((t : Nat) : Int) + 1))), (2, .int (zI ((setP (fun u => onL f u L1) (t + 1) : Nat) : Int))), (0, .ref h0), (1, .int (zI ((L1 : Nat) : Int)))] := lv_c (l1 := [(3, .int (zI (((t : Nat) : Int) + 1)))]) (l2 := [(0, .ref h0), (1, .int (zI ((L1 : Nat) : Int)))]) hl (show (((setP (fun u => onL f u L1) t) ||| (1 <<< t) : Nat) : Int) = ((setP (fun u => onL f u L1) (t + 1) : Nat) : Int) from by first | exact congrArg Nat.cast (setP_t (p := (fun u => onL f u L1)) c_20) | exact congrArg Nat.cast (setP_f (p := (fun u => onL f u L1)) c_20))
          have hl : lv_has ls 4 [(3, .int (zI (((t + 1) : Nat) : Int))), (2, .int (zI ((setP (fun u => onL f u L1) (t + 1) : Nat) : Int))), (0, .ref h0), (1, .int (zI ((L1 : Nat) : Int)))] := lv_c (l1 := []) (l2 := [(2, .int (zI ((setP (fun u => onL f u L1) (t + 1) : Nat) : Int))), (0, .ref h0), (1, .int (zI ((L1 : Nat) : Int)))]) hl (show ((t : Nat) : Int) + 1 = (((t + 1) : Nat) : Int) from by omega)
          exact ih4 (t + 1) (by omega) (by omega) ls (lv_sub hl [2, 3, 1, 0] rfl)
  have hl : lv_has ls 4 [(3, .int (zI 0)), (2, .int (zI ((setP (fun u => onL f u L1) 0 : Nat) : Int))), (0, .ref h0), (1, .int (zI ((L1 : Nat) : Int)))] := lv_c (l1 := [(3, .int (zI 0))]) (l2 := [(0, .ref h0), (1, .int (zI ((L1 : Nat) : Int)))]) hl (show 0 = ((setP (fun u => onL f u L1) 0 : Nat) : Int) from rfl)
  have hl : lv_has ls 4 [(3, .int (zI ((0 : Nat) : Int))), (2, .int (zI ((setP (fun u => onL f u L1) 0 : Nat) : Int))), (0, .ref h0), (1, .int (zI ((L1 : Nat) : Int)))] := lv_c (l1 := []) (l2 := [(2, .int (zI ((setP (fun u => onL f u L1) 0 : Nat) : Int))), (0, .ref h0), (1, .int (zI ((L1 : Nat) : Int)))]) hl (show 0 = ((0 : Nat) : Int) from rfl)
  exact L4 _ 0 (Nat.zero_le _) (Nat.lt_succ_self _) ls (lv_sub hl [2, 3, 1, 0] rfl)
end
section
theorem dots_ret {f : St} {t L X Y : Nat} (hon : onL f t L = true) (hX : X = rowN f t L) (hY : Y = (th f t 0 + 8).toNat) : zI ((X * 2 ^ 32 / 2 ^ Y : Nat) : Int) = zI ((dotsN f t L : Nat) : Int) := by
  subst hX; subst hY
  rw [zI_m32, dotsN, if_pos hon]
theorem row_00 {f : St} {t L : Nat} (h1 : (th f t 3).toNat &&& 1 = 0) (h2 : (th f t 3).toNat &&& 2 = 0) : (f (4 + 8 * (th f t 2).toNat + ((L : Int) - th f t 1).toNat)).toNat = rowN f t L := by
  simp only [rowN]
  rw [if_pos h1, if_pos h2]
theorem row_01 {f : St} {t L : Nat} (h1 : (th f t 3).toNat &&& 1 = 0) (h2 : ¬ (th f t 3).toNat &&& 2 = 0) : (f (4 + 8 * (th f t 2).toNat + (7 - ((L : Int) - th f t 1).toNat))).toNat = rowN f t L := by
  simp only [rowN]
  rw [if_pos h1, if_neg h2]
theorem row_10 {f : St} {t L : Nat} (h1 : ¬ (th f t 3).toNat &&& 1 = 0) (h2 : (th f t 3).toNat &&& 2 = 0) : mirL (f (4 + 8 * (th f t 2).toNat + ((L : Int) - th f t 1).toNat)).toNat 8 = rowN f t L := by
  simp only [rowN]
  rw [if_neg h1, if_pos h2]
theorem row_11 {f : St} {t L : Nat} (h1 : ¬ (th f t 3).toNat &&& 1 = 0) (h2 : ¬ (th f t 3).toNat &&& 2 = 0) : mirL (f (4 + 8 * (th f t 2).toNat + (7 - ((L : Int) - th f t 1).toNat))).toNat 8 = rowN f t L := by
  simp only [rowN]
  rw [if_neg h1, if_neg h2]
theorem dotsN_lt (f : St) (t L : Nat) : dotsN f t L < 4294967296 := by
  unfold dotsN
  split
  · exact Nat.mod_lt _ (by decide)
  · decide
def fillZ (f : Nat → Int) (n : Nat) (v : Int) : Nat → Int := fun j => if j < n then v else f j
theorem fillZ_0 (f : Nat → Int) (v : Int) : fillZ f 0 v = f := by funext j; unfold fillZ; rw [if_neg (by omega)]
theorem fillZ_s (f : Nat → Int) (n : Nat) (v : Int) : upZ (fillZ f n v) n v = fillZ f (n + 1) v := by
  funext j
  unfold upZ fillZ
  by_cases h : j = n
  · subst h; rw [if_pos rfl, if_pos (by omega)]
  · rw [if_neg h]
    by_cases h2 : j < n
    · rw [if_pos h2, if_pos (by omega)]
    · rw [if_neg h2, if_neg (by omega)]
theorem fillZ_in {f : Nat → Int} {n j : Nat} {v : Int} (h : j < n) : fillZ f n v j = v := if_pos h
set_option maxHeartbeats 4000000 in
set_option maxRecDepth 100000 in
theorem c_bitCount (l : Launch) (D : va_G) (k : Kt) (n1 : Nat) (hn1 : n1 < 4294967296) : RO l D k yJ6_bitCount_0f7a4 wsJ6_bitCount_0f7a4 0 0 [.int (zI ((n1 : Nat) : Int))] [] (fun r => r = zI ((pc32 n1 : Nat) : Int)) := by
  refine va_MetF (cc := cJ6_bitCount_0f7a4) (maxL := 1) (ret := (some .int)) (by decide +kernel) rfl ?_
  intro p e s m args below meth c s₁ Bd hml hv
  obtain ⟨rfl, hP, hK⟩ := hv
  have hx := Bd.exec
  have hb := Bd.bytes
  have hr := Bd.returns
  have hts := atoms_spec (ws := wsJ6_bitCount_0f7a4) Bd.pre
  have hown : s.vm.findClass RJ6 = some m.cls := findClass_of_methodNamed Bd.named
  have hlocks := Bd.notSynchronized
  have hSf : CallFix p m c cJ6_bitCount_0f7a4 1 s ([.int (zI ((n1 : Nat) : Int))] : List Value).toArray wsJ6_bitCount_0f7a4 RJ6 := ⟨hx, hb, hml, hown, hts⟩
  have hl := lv_entry ([.int (zI ((n1 : Nat) : Int))]) (n := 1) (Nat.le_of_ble_eq_true rfl)
  rw [lg_entry_eq]
  generalize (lg_sl ([.int (zI ((n1 : Nat) : Int))]) ++ List.replicate (1 - (lg_sl ([.int (zI ((n1 : Nat) : Int))])).length) Slot.unset).toArray = ls at hl ⊢
  have hl : lv_has ls 1 [(0, .int (zI ((n1 : Nat) : Int)))] := hl
  obtain ⟨q1, q2, q3, q4, q5⟩ := bc_ok hn1
  have q6 : bc4 n1 < 300000000 := by unfold bc4; rw [Nat.shiftRight_eq_div_pow]; omega
  refine lv_iload_n hx hb dJ6_bitCount_0f7a4_0 rfl (lv_at hl 0 rfl) ?_
  refine lv_iload_n hx hb dJ6_bitCount_0f7a4_1 rfl (lv_at hl 0 rfl) ?_
  refine z_iconst hx hb dJ6_bitCount_0f7a4_2 ?_
  refine z_iushr hx hb dJ6_bitCount_0f7a4_3 (n1) (1) (by omega) (by omega) (by omega) (by omega) ?_
  refine lv_ldcw hx hb hown (hts (.constant RJ6 265 (1431655765)) (by decide +kernel)) dJ6_bitCount_0f7a4_4 ?_
  refine te (show (1431655765 : Int32) = zI (1431655765) from by decide +kernel) ?_
  refine z_iand hx hb dJ6_bitCount_0f7a4_7 (n1 >>> 1) (1431655765) (by omega) (by omega) ?_
  refine z_isub hx hb dJ6_bitCount_0f7a4_8 ?_
  refine te (zc (show ((n1 : Nat) : Int) - (((n1 >>> 1) &&& 1431655765 : Nat) : Int) = ((bc1 n1 : Nat) : Int) from by unfold bc1; omega)) ?_
  refine lv_istore_n (lv' := [(0, .int (zI ((bc1 n1 : Nat) : Int)))]) hx hb dJ6_bitCount_0f7a4_9 rfl hl (by decide) rfl (fun ls hl => ?_)
  refine lv_iload_n hx hb dJ6_bitCount_0f7a4_10 rfl (lv_at hl 0 rfl) ?_
  refine lv_ldcw hx hb hown (hts (.constant RJ6 266 (858993459)) (by decide +kernel)) dJ6_bitCount_0f7a4_11 ?_
  refine te (show (858993459 : Int32) = zI (858993459) from by decide +kernel) ?_
  refine z_iand hx hb dJ6_bitCount_0f7a4_14 (bc1 n1) (858993459) (by omega) (by omega) ?_
  refine lv_iload_n hx hb dJ6_bitCount_0f7a4_15 rfl (lv_at hl 0 rfl) ?_
  refine z_iconst hx hb dJ6_bitCount_0f7a4_16 ?_
  refine z_iushr hx hb dJ6_bitCount_0f7a4_17 (bc1 n1) (2) (by omega) (by omega) (by omega) (by omega) ?_
  refine lv_ldcw hx hb hown (hts (.constant RJ6 266 (858993459)) (by decide +kernel)) dJ6_bitCount_0f7a4_18 ?_
  refine te (show (858993459 : Int32) = zI (858993459) from by decide +kernel) ?_
  refine z_iand hx hb dJ6_bitCount_0f7a4_21 ((bc1 n1) >>> 2) (858993459) (by omega) (by omega) ?_
  refine z_iadd hx hb dJ6_bitCount_0f7a4_22 ?_
  refine te (zc (show (((bc1 n1) &&& 858993459 : Nat) : Int) + ((((bc1 n1) >>> 2) &&& 858993459 : Nat) : Int) = ((bc2 n1 : Nat) : Int) from by unfold bc2; omega)) ?_
  refine lv_istore_n (lv' := [(0, .int (zI ((bc2 n1 : Nat) : Int)))]) hx hb dJ6_bitCount_0f7a4_23 rfl hl (by decide) rfl (fun ls hl => ?_)
  refine lv_iload_n hx hb dJ6_bitCount_0f7a4_24 rfl (lv_at hl 0 rfl) ?_
  refine lv_iload_n hx hb dJ6_bitCount_0f7a4_25 rfl (lv_at hl 0 rfl) ?_
  refine z_iconst hx hb dJ6_bitCount_0f7a4_26 ?_
  refine z_iushr hx hb dJ6_bitCount_0f7a4_27 (bc2 n1) (4) (by omega) (by omega) (by omega) (by omega) ?_
  refine z_iadd hx hb dJ6_bitCount_0f7a4_28 ?_
  refine te (zc (show ((bc2 n1 : Nat) : Int) + (((bc2 n1) >>> 4 : Nat) : Int) = ((bc2 n1 + bc2 n1 >>> 4 : Nat) : Int) from by omega)) ?_
  refine lv_ldcw hx hb hown (hts (.constant RJ6 267 (252645135)) (by decide +kernel)) dJ6_bitCount_0f7a4_29 ?_
  refine te (show (252645135 : Int32) = zI (252645135) from by decide +kernel) ?_
  refine z_iand hx hb dJ6_bitCount_0f7a4_32 (bc2 n1 + bc2 n1 >>> 4) (252645135) (by omega) (by omega) ?_
  refine te (zc (show (((bc2 n1 + bc2 n1 >>> 4) &&& 252645135 : Nat) : Int) = ((bc3 n1 : Nat) : Int) from rfl)) ?_
  refine lv_istore_n (lv' := [(0, .int (zI ((bc3 n1 : Nat) : Int)))]) hx hb dJ6_bitCount_0f7a4_33 rfl hl (by decide) rfl (fun ls hl => ?_)
  refine lv_iload_n hx hb dJ6_bitCount_0f7a4_34 rfl (lv_at hl 0 rfl) ?_
  refine lv_iload_n hx hb dJ6_bitCount_0f7a4_35 rfl (lv_at hl 0 rfl) ?_
  refine z_bipush hx hb dJ6_bitCount_0f7a4_36 (by decide +kernel) ?_
  refine z_iushr hx hb dJ6_bitCount_0f7a4_38 (bc3 n1) (8) (by omega) (by omega) (by omega) (by omega) ?_
  refine z_iadd hx hb dJ6_bitCount_0f7a4_39 ?_
  refine te (zc (show ((bc3 n1 : Nat) : Int) + (((bc3 n1) >>> 8 : Nat) : Int) = ((bc4 n1 : Nat) : Int) from by unfold bc4; omega)) ?_
  refine lv_istore_n (lv' := [(0, .int (zI ((bc4 n1 : Nat) : Int)))]) hx hb dJ6_bitCount_0f7a4_40 rfl hl (by decide) rfl (fun ls hl => ?_)
  refine lv_iload_n hx hb dJ6_bitCount_0f7a4_41 rfl (lv_at hl 0 rfl) ?_
  refine lv_iload_n hx hb dJ6_bitCount_0f7a4_42 rfl (lv_at hl 0 rfl) ?_
  refine z_bipush hx hb dJ6_bitCount_0f7a4_43 (by decide +kernel) ?_
  refine z_iushr hx hb dJ6_bitCount_0f7a4_45 (bc4 n1) (16) (by omega) (by omega) (by omega) (by omega) ?_
  refine z_iadd hx hb dJ6_bitCount_0f7a4_46 ?_
  refine te (zc (show ((bc4 n1 : Nat) : Int) + (((bc4 n1) >>> 16 : Nat) : Int) = ((bc5 n1 : Nat) : Int) from by unfold bc5; omega)) ?_
  refine lv_istore_n (lv' := [(0, .int (zI ((bc5 n1 : Nat) : Int)))]) hx hb dJ6_bitCount_0f7a4_47 rfl hl (by decide) rfl (fun ls hl => ?_)
  refine lv_iload_n hx hb dJ6_bitCount_0f7a4_48 rfl (lv_at hl 0 rfl) ?_
  refine z_bipush hx hb dJ6_bitCount_0f7a4_49 (by decide +kernel) ?_
  refine z_iand hx hb dJ6_bitCount_0f7a4_51 (bc5 n1) (63) (by omega) (by omega) ?_
  refine te (zc (show (((bc5 n1) &&& 63 : Nat) : Int) = ((pc32 n1 : Nat) : Int) from by rw [q5])) ?_
  exact W.iret hx hb hr (fun t ht hW => ⟨_, rfl, rfl, ht⟩) (fun q hq => by cases hq) dJ6_bitCount_0f7a4_52
set_option maxHeartbeats 4000000 in
set_option maxRecDepth 100000 in
theorem c_fill (l : Launch) (D : va_G) (k : Kt) (a0 : Nat) (n0 : Nat) (f : Nat → Int) (v1 : Int) (hn0 : n0 < 1000) : MU l D k yJ7_fill_53178 wsJ7_fill_53178 0 0 [.ref a0, .int (zI v1)] [(a0, .inl (k.1, n0, .inl (zF f)))] (fun (u : Unit) => True) (fun u => [(a0, .inl (k.1, n0, .inl (zF (fillZ f n0 v1))))]) := by
  refine va_MetF (cc := cJ7_fill_53178) (maxL := 4) (ret := none) (by decide +kernel) rfl ?_
  intro p e s m args below meth c s₁ Bd hml hv
  obtain ⟨rfl, hP, hK, hD0⟩ := hv
  have hx := Bd.exec
  have hb := Bd.bytes
  have hr := Bd.returns
  have hts := atoms_spec (ws := wsJ7_fill_53178) Bd.pre
  have hown : s.vm.findClass RJ7 = some m.cls := findClass_of_methodNamed Bd.named
  have hlocks := Bd.notSynchronized
  have hSf : CallFix p m c cJ7_fill_53178 4 s ([.ref a0, .int (zI v1)] : List Value).toArray wsJ7_fill_53178 RJ7 := ⟨hx, hb, hml, hown, hts⟩
  have hD := fA_D hD0
  have hS : va_S (fA [(a0, .inl (k.1, n0, .inl (zF f)))]) s.heap s.heap [] := va_S.rf
  generalize hAe : fA [(a0, .inl (k.1, n0, .inl (zF f)))] = A at hD hS ⊢
  have hP : va_P D vwCl [(a0, .inl (k.1, n0, .inl (zF f)))] s.heap := hP
  have hl := lv_entry ([.ref a0, .int (zI v1)]) (n := 4) (Nat.le_of_ble_eq_true rfl)
  rw [lg_entry_eq]
  generalize (lg_sl ([.ref a0, .int (zI v1)]) ++ List.replicate (4 - (lg_sl ([.ref a0, .int (zI v1)])).length) Slot.unset).toArray = ls at hl ⊢
  have hl : lv_has ls 4 [(0, .ref a0), (1, .int (zI v1))] := hl
  refine z_iconst hx hb dJ7_fill_53178_0 ?_
  refine lv_istore_n (lv' := [(2, .int (zI 0)), (0, .ref a0), (1, .int (zI v1))]) hx hb dJ7_fill_53178_1 rfl hl (by decide) rfl (fun ls hl => ?_)
  refine lv_aload_n hx hb dJ7_fill_53178_2 rfl (lv_at hl 1 rfl) ?_
  refine va_alen (v := zI ((n0 : Nat) : Int)) hx hb hK.1 hP 0 0 rfl rfl (zI_nat _).symm dJ7_fill_53178_3 ?_
  refine lv_istore_n (lv' := [(3, .int (zI ((n0 : Nat) : Int))), (2, .int (zI 0)), (0, .ref a0), (1, .int (zI v1))]) hx hb dJ7_fill_53178_4 rfl hl (by decide) rfl (fun ls hl => ?_)
  have L5 : ∀ (NN5 : Nat), ∀ (j : Nat), (j ≤ n0) → n0 - j < NN5 → ∀ (H : Heap) (locs : List Loc), va_P D vwCl [(a0, .inl (k.1, n0, .inl (zF (fillZ f j v1))))] H → va_D A [(a0, .inl (k.1, n0, .inl (zF (fillZ f j v1))))] → va_S A s.heap H locs → ∀ (ls : Array Slot), lv_has ls 4 [(0, .ref a0), (1, .int (zI v1)), (2, .int (zI ((j : Nat) : Int))), (3, .int (zI ((n0 : Nat) : Int)))] → W p l e (headSpec wsJ7_fill_53178 { frames := 0, cells := 0, slots := 0, locals := 0 }).room s m ([.ref a0, .int (zI v1)] : List Value).toArray below meth c H locs 0 0 (MQ below (va_Qv (fun (u : Unit) => True) (fun (u : Unit) t => va_P D vwCl [(a0, .inl (k.1, n0, .inl (zF (fillZ f n0 v1))))] t.heap) A) ([.ref a0, .int (zI v1)] : List Value).toArray s 0 0 A) (F0 m 5 ls []) := by
    intro NN5
    induction NN5 with
    | zero => intro j _ hN; exact absurd hN (Nat.not_lt_zero _)
    | succ NN5 ih5 =>
      intro j hj hN H locs hP hD hS ls hl
      refine lv_iload_n hx hb dJ7_fill_53178_5 rfl (lv_at hl 2 rfl) ?_
      refine lv_iload_n hx hb dJ7_fill_53178_6 rfl (lv_at hl 3 rfl) ?_
      refine z_icmp_ge (tgt := 20) hx hb dJ7_fill_53178_7 (by decide) (by omega) (by omega) (fun c_7 => ?_) (fun c_7 => ?_)
      · obtain rfl : j = n0 := by omega
        exact W.vret hx hb hr (fun t ht hW => ⟨⟨(), rfl, trivial, by show va_P D vwCl _ _; rw [ht]; exact hP⟩, hS.F ht⟩) hS.2.2 dJ7_fill_53178_20
      · refine lv_aload_n hx hb dJ7_fill_53178_10 rfl (lv_at hl 0 rfl) ?_
        refine lv_iload_n hx hb dJ7_fill_53178_11 rfl (lv_at hl 2 rfl) ?_
        refine lv_iload_n hx hb dJ7_fill_53178_12 rfl (lv_at hl 1 rfl) ?_
        refine z_ast hx hb hK hP hD hS 0 rfl (j) (by omega) (by omega) (by omega) dJ7_fill_53178_13 (fun H locs hP hD hS => ?_)
        have hP : va_P D vwCl [(a0, .inl (k.1, n0, .inl (zF (upZ (fillZ f j v1) j v1))))] H := hP
        have hD : va_D A [(a0, .inl (k.1, n0, .inl (zF (upZ (fillZ f j v1) j v1))))] := hD
        refine lv_iinc (v := zI (((j : Nat) : Int) + 1)) (lv' := [(2, .int (zI (((j : Nat) : Int) + 1))), (0, .ref a0), (1, .int (zI v1)), (3, .int (zI ((n0 : Nat) : Int)))]) hx hb dJ7_fill_53178_14 hl (k := 2) rfl (zI_add _ _) (by decide) rfl (fun ls hl => ?_)
        refine lv_goto (tgt := 5) hx hb dJ7_fill_53178_17 (by decide) ?_
        have hl : lv_has ls 4 [(2, .int (zI (((j + 1) : Nat) : Int))), (0, .ref a0), (1, .int (zI v1)), (3, .int (zI ((n0 : Nat) : Int)))] := lv_c (l1 := []) (l2 := [(0, .ref a0), (1, .int (zI v1)), (3, .int (zI ((n0 : Nat) : Int)))]) hl (show ((j : Nat) : Int) + 1 = (((j + 1) : Nat) : Int) from by omega)
        exact ih5 (j + 1) (by omega) (by omega) _ _ (by rw [← fillZ_s]; exact hP) (by rw [← fillZ_s]; exact hD) hS ls (lv_sub hl [1, 2, 0, 3] rfl)
  have hl : lv_has ls 4 [(3, .int (zI ((n0 : Nat) : Int))), (2, .int (zI ((0 : Nat) : Int))), (0, .ref a0), (1, .int (zI v1))] := lv_c (l1 := [(3, .int (zI ((n0 : Nat) : Int)))]) (l2 := [(0, .ref a0), (1, .int (zI v1))]) hl (show 0 = ((0 : Nat) : Int) from rfl)
  exact L5 _ 0 (Nat.zero_le _) (Nat.lt_succ_self _) _ _ (by rw [fillZ_0]; exact hP) (by rw [fillZ_0]; exact hD) hS ls (lv_sub hl [2, 3, 1, 0] rfl)
set_option maxHeartbeats 4000000 in
set_option maxRecDepth 100000 in
theorem c_mirrored (l : Launch) (D : va_G) (k : Kt) (b1 : Nat) (hb1 : b1 < 256) : RO l D k yX7_mirrored wsX7_mirrored 0 0 [.int (zI ((b1 : Nat) : Int))] [] (fun r => r = zI ((mirL b1 8 : Nat) : Int)) := by
  refine Met.ofW (cc := cX7_mirrored) (maxL := 3) (ret := (some .int)) (by decide) rfl ?_
  intro p e s m args below meth c s₁ Bd hml hv
  obtain ⟨rfl, hP, hK⟩ := hv
  have hx := Bd.exec
  have hb := Bd.bytes
  have hr := Bd.returns
  have hts := atoms_spec (ws := wsX7_mirrored) Bd.pre
  have hown : s.vm.findClass RX7 = some m.cls := findClass_of_methodNamed Bd.named
  have hlocks := Bd.notSynchronized
  have hSf : CallFix p m c cX7_mirrored 3 s ([.int (zI ((b1 : Nat) : Int))] : List Value).toArray wsX7_mirrored RX7 := ⟨hx, hb, hml, hown, hts⟩
  have hl := lv_entry ([.int (zI ((b1 : Nat) : Int))]) (n := 3) (Nat.le_of_ble_eq_true rfl)
  rw [lg_entry_eq]
  generalize (lg_sl ([.int (zI ((b1 : Nat) : Int))]) ++ List.replicate (3 - (lg_sl ([.int (zI ((b1 : Nat) : Int))])).length) Slot.unset).toArray = ls at hl ⊢
  have hl : lv_has ls 3 [(0, .int (zI ((b1 : Nat) : Int)))] := hl
  refine z_iconst hx hb dX7_mirrored_0 ?_
  refine lv_istore_n (lv' := [(1, .int (zI 0)), (0, .int (zI ((b1 : Nat) : Int)))]) hx hb dX7_mirrored_1 rfl hl (by decide) rfl (fun ls hl => ?_)
  refine z_iconst hx hb dX7_mirrored_2 ?_
  refine lv_istore_n (lv' := [(2, .int (zI 0)), (1, .int (zI 0)), (0, .int (zI ((b1 : Nat) : Int)))]) hx hb dX7_mirrored_3 rfl hl (by decide) rfl (fun ls hl => ?_)
  have L4 : ∀ (NN4 : Nat), ∀ (j : Nat), (j ≤ 8) → 8 - j < NN4 → ∀ (ls : Array Slot), lv_has ls 3 [(0, .int (zI ((b1 : Nat) : Int))), (1, .int (zI ((mirL b1 j : Nat) : Int))), (2, .int (zI ((j : Nat) : Int)))] → W p l e (headSpec wsX7_mirrored { frames := 0, cells := 0, slots := 0, locals := 0 }).room s m ([.int (zI ((b1 : Nat) : Int))] : List Value).toArray below meth c s.heap [] 0 0 (MQ below (vp_Si (fun r => r = zI ((mirL b1 8 : Nat) : Int))) ([.int (zI ((b1 : Nat) : Int))] : List Value).toArray s 0 0 (fun _ => False)) (F0 m 4 ls []) := by
    intro NN4
    induction NN4 with
    | zero => intro j _ hN; exact absurd hN (Nat.not_lt_zero _)
    | succ NN4 ih4 =>
      intro j hj hN ls hl
      refine lv_iload_n hx hb dX7_mirrored_4 rfl (lv_at hl 2 rfl) ?_
      refine z_bipush hx hb dX7_mirrored_5 (by decide +kernel) ?_
      refine z_icmp_ge (tgt := 26) hx hb dX7_mirrored_7 (by decide) (by omega) (by omega) (fun c_7 => ?_) (fun c_7 => ?_)
      · obtain rfl : j = 8 := by omega
        refine lv_iload_n hx hb dX7_mirrored_26 rfl (lv_at hl 1 rfl) ?_
        exact W.iret hx hb hr (fun t ht hW => ⟨_, rfl, rfl, ht⟩) (fun q hq => by cases hq) dX7_mirrored_27
      · refine lv_iload_n hx hb dX7_mirrored_10 rfl (lv_at hl 1 rfl) ?_
        refine z_iconst hx hb dX7_mirrored_11 ?_
        refine z_ishl hx hb dX7_mirrored_12 (mirL b1 j) (1) (by omega) (by omega) (by decide) (by rw [Nat.shiftLeft_eq]; have := mirL_lt b1 j; have := Nat.pow_le_pow_right (n := 2) (by decide) hj; omega) ?_
        refine lv_iload_n hx hb dX7_mirrored_13 rfl (lv_at hl 0 rfl) ?_
        refine lv_iload_n hx hb dX7_mirrored_14 rfl (lv_at hl 2 rfl) ?_
        refine z_iushr hx hb dX7_mirrored_15 (b1) (j) (by omega) (by omega) (by omega) (by omega) ?_
        refine z_iconst hx hb dX7_mirrored_16 ?_
        refine z_iand hx hb dX7_mirrored_17 (b1 >>> j) (1) (by omega) (by omega) ?_
        refine z_ior hx hb dX7_mirrored_18 ((mirL b1 j) <<< 1) ((b1 >>> j) &&& 1) (by omega) (by omega) ?_
        refine lv_istore_n (lv' := [(1, .int (zI ((((mirL b1 j) <<< 1) ||| ((b1 >>> j) &&& 1) : Nat) : Int))), (0, .int (zI ((b1 : Nat) : Int))), (2, .int (zI ((j : Nat) : Int)))]) hx hb dX7_mirrored_19 rfl hl (by decide) rfl (fun ls hl => ?_)
        refine lv_iinc (v := zI (((j : Nat) : Int) + 1)) (lv' := [(2, .int (zI (((j : Nat) : Int) + 1))), (1, .int (zI ((((mirL b1 j) <<< 1) ||| ((b1 >>> j) &&& 1) : Nat) : Int))), (0, .int (zI ((b1 : Nat) : Int)))]) hx hb dX7_mirrored_20 hl (k := 2) rfl (zI_add _ _) (by decide) rfl (fun ls hl => ?_)
        refine lv_goto (tgt := 4) hx hb dX7_mirrored_23 (by decide) ?_
        have hl : lv_has ls 3 [(2, .int (zI (((j : Nat) : Int) + 1))), (1, .int (zI ((mirL b1 (j + 1) : Nat) : Int))), (0, .int (zI ((b1 : Nat) : Int)))] := lv_c (l1 := [(2, .int (zI (((j : Nat) : Int) + 1)))]) (l2 := [(0, .int (zI ((b1 : Nat) : Int)))]) hl (show ((((mirL b1 j) <<< 1) ||| ((b1 >>> j) &&& 1) : Nat) : Int) = ((mirL b1 (j + 1) : Nat) : Int) from rfl)
        have hl : lv_has ls 3 [(2, .int (zI (((j + 1) : Nat) : Int))), (1, .int (zI ((mirL b1 (j + 1) : Nat) : Int))), (0, .int (zI ((b1 : Nat) : Int)))] := lv_c (l1 := []) (l2 := [(1, .int (zI ((mirL b1 (j + 1) : Nat) : Int))), (0, .int (zI ((b1 : Nat) : Int)))]) hl (show ((j : Nat) : Int) + 1 = (((j + 1) : Nat) : Int) from by omega)
        exact ih4 (j + 1) (by omega) (by omega) ls (lv_sub hl [2, 1, 0] rfl)
  have hl : lv_has ls 3 [(2, .int (zI 0)), (1, .int (zI ((mirL b1 0 : Nat) : Int))), (0, .int (zI ((b1 : Nat) : Int)))] := lv_c (l1 := [(2, .int (zI 0))]) (l2 := [(0, .int (zI ((b1 : Nat) : Int)))]) hl (show 0 = ((mirL b1 0 : Nat) : Int) from rfl)
  have hl : lv_has ls 3 [(2, .int (zI ((0 : Nat) : Int))), (1, .int (zI ((mirL b1 0 : Nat) : Int))), (0, .int (zI ((b1 : Nat) : Int)))] := lv_c (l1 := []) (l2 := [(1, .int (zI ((mirL b1 0 : Nat) : Int))), (0, .int (zI ((b1 : Nat) : Int)))]) hl (show 0 = ((0 : Nat) : Int) from rfl)
  exact L4 _ 0 (by decide) (Nat.lt_succ_self _) ls (lv_sub hl [2, 1, 0] rfl)
set_option maxHeartbeats 4000000 in
set_option maxRecDepth 100000 in
theorem c_wrapped (l : Launch) (D : va_G) (k : Kt) (x1 : Int) (y1 : Int) (hx1 : -1000 ≤ x1 ∧ x1 ≤ 1000) (hy1 : 0 < y1 ∧ y1 < 1000) : RO l D k yX7_wrapped wsX7_wrapped 1 22 [.int (zI x1), .int (zI y1)] [] (fun r => r = zI ((x1 + 8) % y1 - 8)) := by
  refine Met.ofW (cc := cX7_wrapped) (maxL := 2) (ret := (some .int)) (by decide) rfl ?_
  intro p e s m args below meth c s₁ Bd hml hv
  obtain ⟨rfl, hP, hK⟩ := hv
  have hx := Bd.exec
  have hb := Bd.bytes
  have hr := Bd.returns
  have hts := atoms_spec (ws := wsX7_wrapped) Bd.pre
  have hown : s.vm.findClass RX7 = some m.cls := findClass_of_methodNamed Bd.named
  have hlocks := Bd.notSynchronized
  have hSf : CallFix p m c cX7_wrapped 2 s ([.int (zI x1), .int (zI y1)] : List Value).toArray wsX7_wrapped RX7 := ⟨hx, hb, hml, hown, hts⟩
  have hl := lv_entry ([.int (zI x1), .int (zI y1)]) (n := 2) (Nat.le_of_ble_eq_true rfl)
  rw [lg_entry_eq]
  generalize (lg_sl ([.int (zI x1), .int (zI y1)]) ++ List.replicate (2 - (lg_sl ([.int (zI x1), .int (zI y1)])).length) Slot.unset).toArray = ls at hl ⊢
  have hl : lv_has ls 2 [(0, .int (zI x1)), (1, .int (zI y1))] := hl
  refine lv_iload_n hx hb dX7_wrapped_0 rfl (lv_at hl 0 rfl) ?_
  refine z_bipush hx hb dX7_wrapped_1 (by decide +kernel) ?_
  refine z_iadd hx hb dX7_wrapped_3 ?_
  refine lv_iload_n hx hb dX7_wrapped_4 rfl (lv_at hl 1 rfl) ?_
  refine roS (n := 2) (As := [.int (zI (x1 + 8)), .int (zI y1)]) (rest := []) hSf (c_floorMod l D k (x1 + 8) y1 (by omega) (by omega)) gX7_wrapped_J9_floorMod_7cf53 rfl (by decide +kernel) ⟨Nat.le_of_ble_eq_true rfl, Nat.le_of_ble_eq_true rfl⟩ hK hP [] rfl rfl hl.1 rfl (Nat.le_of_ble_eq_true rfl) dX7_wrapped_5 ⟨Nat.zero_le _, Nat.zero_le _⟩ (fun r_5 h_5 => ?_)
  subst h_5
  refine z_bipush hx hb dX7_wrapped_8 (by decide +kernel) ?_
  refine z_isub hx hb dX7_wrapped_10 ?_
  exact W.iret hx hb hr (fun t ht hW => ⟨_, rfl, rfl, ht⟩) (fun q hq => by cases hq) dX7_wrapped_11
set_option maxHeartbeats 4000000 in
set_option maxRecDepth 100000 in
theorem c_linesOf (l : Launch) (D : va_G) (k : Kt) (h0 : Nat) (c0 : Nat) (f : St) (B : Int) (hV : Va B f) (t1 : Nat) (ht1 : t1 < nT f) : RO l D k yX7_linesOf wsX7_linesOf 1 22 [.ref h0, .int (zI ((t1 : Nat) : Int))] [(h0, .inr (7, [.ref c0])), (c0, .inl (k.1, 132, .inl (zF f)))] (fun r => r = zI (max (min (th f t1 1 + 8) 24 - max (th f t1 1) 0) 0)) := by
  refine Met.ofW (cc := cX7_linesOf) (maxL := 4) (ret := (some .int)) (by decide) rfl ?_
  intro p e s m args below meth c s₁ Bd hml hv
  obtain ⟨rfl, hP, hK⟩ := hv
  have hx := Bd.exec
  have hb := Bd.bytes
  have hr := Bd.returns
  have hts := atoms_spec (ws := wsX7_linesOf) Bd.pre
  have hown : s.vm.findClass RX7 = some m.cls := findClass_of_methodNamed Bd.named
  have hlocks := Bd.notSynchronized
  have hSf : CallFix p m c cX7_linesOf 4 s ([.ref h0, .int (zI ((t1 : Nat) : Int))] : List Value).toArray wsX7_linesOf RX7 := ⟨hx, hb, hml, hown, hts⟩
  have hmmax := And.intro (hts (.methodLink RX7 49 Lib.Math.max.name) (by decide +kernel)) (And.intro (hts (.static Lib.Math.max.name) (by decide +kernel)) (And.intro (hts (.initialized "java/lang/Math") (by decide +kernel)) (hts (.code Lib.Math.max.name Lib.Math.max.code 2 (some .int)) (by decide +kernel))))
  have hmmin := And.intro (hts (.methodLink RX7 52 Lib.Math.min.name) (by decide +kernel)) (And.intro (hts (.static Lib.Math.min.name) (by decide +kernel)) (And.intro (hts (.initialized "java/lang/Math") (by decide +kernel)) (hts (.code Lib.Math.min.name Lib.Math.min.code 2 (some .int)) (by decide +kernel))))
  have hl := lv_entry ([.ref h0, .int (zI ((t1 : Nat) : Int))]) (n := 4) (Nat.le_of_ble_eq_true rfl)
  rw [lg_entry_eq]
  generalize (lg_sl ([.ref h0, .int (zI ((t1 : Nat) : Int))]) ++ List.replicate (4 - (lg_sl ([.ref h0, .int (zI ((t1 : Nat) : Int))])).length) Slot.unset).toArray = ls at hl ⊢
  have hl : lv_has ls 4 [(0, .ref h0), (1, .int (zI ((t1 : Nat) : Int)))] := hl
  have hn := hV.n
  have hv := hV.t ht1
  refine lv_aload_n hx hb dX7_linesOf_0 rfl (lv_at hl 0 rfl) ?_
  refine lv_iload_n hx hb dX7_linesOf_1 rfl (lv_at hl 1 rfl) ?_
  refine z_iconst hx hb dX7_linesOf_2 ?_
  refine roV (n := 2) (As := [.int (zI ((t1 : Nat) : Int)), .int (zI ((1 : Nat) : Int))]) (rest := []) hSf (c_field l D k h0 c0 f t1 1 (by omega) (by omega)) gX7_linesOf_X7_field rfl (by decide +kernel) ⟨Nat.le_of_ble_eq_true rfl, Nat.le_of_ble_eq_true rfl⟩ hK hP [0, 1] rfl 0 rfl rfl rfl hl.1 (by rw [show zI 1 = zI ((1 : Nat) : Int) from zc (by omega)]; rfl) (Nat.le_of_ble_eq_true rfl) dX7_linesOf_3 ⟨Nat.zero_le _, Nat.zero_le _⟩ (fun r_3 h_3 => ?_)
  subst h_3
  refine z_iconst hx hb dX7_linesOf_6 ?_
  refine va_mmax hx hb (hml.trans hl.1.symm) hown hmmax.1 hmmax.2.1 hmmax.2.2.1 hmmax.2.2.2 (Nat.le_of_ble_eq_true rfl) (Nat.le_of_ble_eq_true rfl) (Nat.zero_le _) (Nat.zero_le _) dX7_linesOf_7 ?_
  refine te (zI_max (by omega) (by omega)) ?_
  refine lv_istore_n (lv' := [(2, .int (zI (max (th f t1 1) 0))), (0, .ref h0), (1, .int (zI ((t1 : Nat) : Int)))]) hx hb dX7_linesOf_10 rfl hl (by decide) rfl (fun ls hl => ?_)
  refine lv_aload_n hx hb dX7_linesOf_11 rfl (lv_at hl 1 rfl) ?_
  refine lv_iload_n hx hb dX7_linesOf_12 rfl (lv_at hl 2 rfl) ?_
  refine z_iconst hx hb dX7_linesOf_13 ?_
  refine roV (n := 2) (As := [.int (zI ((t1 : Nat) : Int)), .int (zI ((1 : Nat) : Int))]) (rest := []) hSf (c_field l D k h0 c0 f t1 1 (by omega) (by omega)) gX7_linesOf_X7_field rfl (by decide +kernel) ⟨Nat.le_of_ble_eq_true rfl, Nat.le_of_ble_eq_true rfl⟩ hK hP [0, 1] rfl 0 rfl rfl rfl hl.1 (by rw [show zI 1 = zI ((1 : Nat) : Int) from zc (by omega)]; rfl) (Nat.le_of_ble_eq_true rfl) dX7_linesOf_14 ⟨Nat.zero_le _, Nat.zero_le _⟩ (fun r_14 h_14 => ?_)
  subst h_14
  refine z_bipush hx hb dX7_linesOf_17 (by decide +kernel) ?_
  refine z_iadd hx hb dX7_linesOf_19 ?_
  refine z_bipush hx hb dX7_linesOf_20 (by decide +kernel) ?_
  refine va_mmin hx hb (hml.trans hl.1.symm) hown hmmin.1 hmmin.2.1 hmmin.2.2.1 hmmin.2.2.2 (Nat.le_of_ble_eq_true rfl) (Nat.le_of_ble_eq_true rfl) (Nat.zero_le _) (Nat.zero_le _) dX7_linesOf_22 ?_
  refine te (zI_min (by omega) (by omega)) ?_
  refine lv_istore_n (lv' := [(3, .int (zI (min ((th f t1 1) + 8) 24))), (2, .int (zI (max (th f t1 1) 0))), (0, .ref h0), (1, .int (zI ((t1 : Nat) : Int)))]) hx hb dX7_linesOf_25 rfl hl (by decide) rfl (fun ls hl => ?_)
  refine lv_iload_n hx hb dX7_linesOf_26 rfl (lv_at hl 0 rfl) ?_
  refine lv_iload_n hx hb dX7_linesOf_27 rfl (lv_at hl 1 rfl) ?_
  refine z_isub hx hb dX7_linesOf_28 ?_
  refine z_iconst hx hb dX7_linesOf_29 ?_
  refine va_mmax hx hb (hml.trans hl.1.symm) hown hmmax.1 hmmax.2.1 hmmax.2.2.1 hmmax.2.2.2 (Nat.le_of_ble_eq_true rfl) (Nat.le_of_ble_eq_true rfl) (Nat.zero_le _) (Nat.zero_le _) dX7_linesOf_30 ?_
  refine te (zI_max (by omega) (by omega)) ?_
  exact W.iret hx hb hr (fun t ht hW => ⟨_, rfl, rfl, ht⟩) (fun q hq => by cases hq) dX7_linesOf_33
set_option maxHeartbeats 4000000 in
set_option maxRecDepth 100000 in
theorem c_dotsOf (l : Launch) (D : va_G) (k : Kt) (h0 : Nat) (c0 : Nat) (f : St) (B : Int) (hV : Va B f) (t1 : Nat) (L1 : Nat) (ht1 : t1 < nT f) (hL1 : L1 < 24) : RO l D k yX7_dotsOf wsX7_dotsOf 1 22 [.ref h0, .int (zI ((t1 : Nat) : Int)), .int (zI ((L1 : Nat) : Int))] [(h0, .inr (7, [.ref c0])), (c0, .inl (k.1, 132, .inl (zF f)))] (fun r => r = zI ((dotsN f t1 L1 : Nat) : Int)) := by
  refine Met.ofW (cc := cX7_dotsOf) (maxL := 6) (ret := (some .int)) (by decide) rfl ?_
  intro p e s m args below meth c s₁ Bd hml hv
  obtain ⟨rfl, hP, hK⟩ := hv
  have hx := Bd.exec
  have hb := Bd.bytes
  have hr := Bd.returns
  have hts := atoms_spec (ws := wsX7_dotsOf) Bd.pre
  have hown : s.vm.findClass RX7 = some m.cls := findClass_of_methodNamed Bd.named
  have hlocks := Bd.notSynchronized
  have hSf : CallFix p m c cX7_dotsOf 6 s ([.ref h0, .int (zI ((t1 : Nat) : Int)), .int (zI ((L1 : Nat) : Int))] : List Value).toArray wsX7_dotsOf RX7 := ⟨hx, hb, hml, hown, hts⟩
  have hl := lv_entry ([.ref h0, .int (zI ((t1 : Nat) : Int)), .int (zI ((L1 : Nat) : Int))]) (n := 6) (Nat.le_of_ble_eq_true rfl)
  rw [lg_entry_eq]
  generalize (lg_sl ([.ref h0, .int (zI ((t1 : Nat) : Int)), .int (zI ((L1 : Nat) : Int))]) ++ List.replicate (6 - (lg_sl ([.ref h0, .int (zI ((t1 : Nat) : Int)), .int (zI ((L1 : Nat) : Int))])).length) Slot.unset).toArray = ls at hl ⊢
  have hl : lv_has ls 6 [(0, .ref h0), (1, .int (zI ((t1 : Nat) : Int))), (2, .int (zI ((L1 : Nat) : Int)))] := hl
  have hn := hV.n
  have hv := hV.t ht1
  have ha1 := Nat.and_le_right (n := (th f t1 3).toNat) (m := 1)
  have ha2 := Nat.and_le_right (n := (th f t1 3).toNat) (m := 2)
  refine lv_iload_n hx hb dX7_dotsOf_0 rfl (lv_at hl 2 rfl) ?_
  refine lv_aload_n hx hb dX7_dotsOf_1 rfl (lv_at hl 0 rfl) ?_
  refine lv_iload_n hx hb dX7_dotsOf_2 rfl (lv_at hl 1 rfl) ?_
  refine z_iconst hx hb dX7_dotsOf_3 ?_
  refine roV (n := 2) (As := [.int (zI ((t1 : Nat) : Int)), .int (zI ((1 : Nat) : Int))]) (rest := [.int (zI ((L1 : Nat) : Int))]) hSf (c_field l D k h0 c0 f t1 1 (by omega) (by omega)) gX7_dotsOf_X7_field rfl (by decide +kernel) ⟨Nat.le_of_ble_eq_true rfl, Nat.le_of_ble_eq_true rfl⟩ hK hP [0, 1] rfl 0 rfl rfl rfl hl.1 (by rw [show zI 1 = zI ((1 : Nat) : Int) from zc (by omega)]; rfl) (Nat.le_of_ble_eq_true rfl) dX7_dotsOf_4 ⟨Nat.zero_le _, Nat.zero_le _⟩ (fun r_4 h_4 => ?_)
  subst h_4
  refine z_isub hx hb dX7_dotsOf_7 ?_
  refine lv_istore_n (lv' := [(3, .int (zI (((L1 : Nat) : Int) - (th f t1 1)))), (0, .ref h0), (1, .int (zI ((t1 : Nat) : Int))), (2, .int (zI ((L1 : Nat) : Int)))]) hx hb dX7_dotsOf_8 rfl hl (by decide) rfl (fun ls hl => ?_)
  refine lv_iload_n hx hb dX7_dotsOf_9 rfl (lv_at hl 0 rfl) ?_
  refine z_iconst hx hb dX7_dotsOf_10 ?_
  refine z_bipush hx hb dX7_dotsOf_11 (by decide +kernel) ?_
  refine roSN (n := 3) (As := [.int (zI (((L1 : Nat) : Int) - th f t1 1)), .int (zI 0), .int (zI 7)]) (rest := []) hSf (c_isWithin l D k (((L1 : Nat) : Int) - th f t1 1) 0 7 (by omega) (by omega) (by omega)) gX7_dotsOf_X9_isWithin_n41 rfl hK.2.1 (hts (.initialized RX9) (by decide +kernel)) (hts (.static yX9_isWithin) (by decide +kernel)) (by decide +kernel) ⟨Nat.le_of_ble_eq_true rfl, Nat.le_of_ble_eq_true rfl⟩ hK hP [] rfl rfl hl.1 rfl (Nat.le_of_ble_eq_true rfl) dX7_dotsOf_13 ⟨Nat.zero_le _, Nat.zero_le _⟩ (fun r_13 h_13 => ?_)
  subst h_13
  refine z_if_neb (tgt := 21) hx hb dX7_dotsOf_16 (by decide) (fun c_16 => ?_) (fun c_16 => ?_)
  · have hon : onL f t1 L1 = true := c_16
    have hrr : 0 ≤ ((L1 : Nat) : Int) - th f t1 1 ∧ ((L1 : Nat) : Int) - th f t1 1 ≤ 7 := by simpa [onL] using hon
    refine lv_aload_n hx hb dX7_dotsOf_21 rfl (lv_at hl 1 rfl) ?_
    refine lv_iload_n hx hb dX7_dotsOf_22 rfl (lv_at hl 2 rfl) ?_
    refine z_iconst hx hb dX7_dotsOf_23 ?_
    refine roV (n := 2) (As := [.int (zI ((t1 : Nat) : Int)), .int (zI ((3 : Nat) : Int))]) (rest := []) hSf (c_field l D k h0 c0 f t1 3 (by omega) (by omega)) gX7_dotsOf_X7_field rfl (by decide +kernel) ⟨Nat.le_of_ble_eq_true rfl, Nat.le_of_ble_eq_true rfl⟩ hK hP [0, 1] rfl 0 rfl rfl rfl hl.1 (by rw [show zI 3 = zI ((3 : Nat) : Int) from zc (by omega)]; rfl) (Nat.le_of_ble_eq_true rfl) dX7_dotsOf_24 ⟨Nat.zero_le _, Nat.zero_le _⟩ (fun r_24 h_24 => ?_)
    subst h_24
    refine lv_istore (lv' := [(4, .int (zI (th f t1 3))), (3, .int (zI (((L1 : Nat) : Int) - (th f t1 1)))), (0, .ref h0), (1, .int (zI ((t1 : Nat) : Int))), (2, .int (zI ((L1 : Nat) : Int)))]) hx hb dX7_dotsOf_27 hl (by decide) rfl (fun ls hl => ?_)
    refine lv_aload_n hx hb dX7_dotsOf_29 rfl (lv_at hl 2 rfl) ?_
    refine lv_aload_n hx hb dX7_dotsOf_30 rfl (lv_at hl 2 rfl) ?_
    refine lv_iload_n hx hb dX7_dotsOf_31 rfl (lv_at hl 3 rfl) ?_
    refine z_iconst hx hb dX7_dotsOf_32 ?_
    refine roV (n := 2) (As := [.int (zI ((t1 : Nat) : Int)), .int (zI ((2 : Nat) : Int))]) (rest := [.ref h0]) hSf (c_field l D k h0 c0 f t1 2 (by omega) (by omega)) gX7_dotsOf_X7_field rfl (by decide +kernel) ⟨Nat.le_of_ble_eq_true rfl, Nat.le_of_ble_eq_true rfl⟩ hK hP [0, 1] rfl 0 rfl rfl rfl hl.1 (by rw [show zI 2 = zI ((2 : Nat) : Int) from zc (by omega)]; rfl) (Nat.le_of_ble_eq_true rfl) dX7_dotsOf_33 ⟨Nat.zero_le _, Nat.zero_le _⟩ (fun r_33 h_33 => ?_)
    subst h_33
    refine lv_iload hx hb dX7_dotsOf_36 (lv_at hl 0 rfl) ?_
    refine z_iconst hx hb dX7_dotsOf_38 ?_
    refine z_iand hx hb dX7_dotsOf_39 ((th f t1 3).toNat) (2) (by omega) (by omega) ?_
    refine z_if_eq (tgt := 50) hx hb dX7_dotsOf_40 (by decide) (by omega) (fun c_40 => ?_) (fun c_40 => ?_)
    · refine lv_iload_n hx hb dX7_dotsOf_50 rfl (lv_at hl 1 rfl) ?_
      refine roV (n := 2) (As := [.int (zI ((((th f t1 2).toNat) : Nat) : Int)), .int (zI ((((((L1 : Nat) : Int) - th f t1 1).toNat) : Nat) : Int))]) (rest := []) hSf (c_bits l D k h0 c0 f ((th f t1 2).toNat) ((((L1 : Nat) : Int) - th f t1 1).toNat) (by omega) (by omega)) gX7_dotsOf_X7_bits rfl (by decide +kernel) ⟨Nat.le_of_ble_eq_true rfl, Nat.le_of_ble_eq_true rfl⟩ hK hP [0, 1] rfl 0 rfl rfl rfl hl.1 (by rw [show zI (th f t1 2) = zI ((((th f t1 2).toNat) : Nat) : Int) from zc (by omega)]; rw [show zI (((L1 : Nat) : Int) - (th f t1 1)) = zI ((((((L1 : Nat) : Int) - th f t1 1).toNat) : Nat) : Int) from zc (by omega)]; rfl) (Nat.le_of_ble_eq_true rfl) dX7_dotsOf_51 ⟨Nat.zero_le _, Nat.zero_le _⟩ (fun r_51 h_51 => ?_)
      subst h_51
      have hp := hV.p (j := 4 + 8 * (th f t1 2).toNat + (((L1 : Nat) : Int) - th f t1 1).toNat) (by omega) (by omega)
      refine te (zc (show f (4 + 8 * ((th f t1 2).toNat) + ((((L1 : Nat) : Int) - th f t1 1).toNat)) = (((f (4 + 8 * (th f t1 2).toNat + (((L1 : Nat) : Int) - th f t1 1).toNat)).toNat : Nat) : Int) from by omega)) ?_
      refine lv_istore (lv' := [(5, .int (zI (((f (4 + 8 * (th f t1 2).toNat + (((L1 : Nat) : Int) - th f t1 1).toNat)).toNat : Nat) : Int))), (4, .int (zI (th f t1 3))), (3, .int (zI (((L1 : Nat) : Int) - (th f t1 1)))), (0, .ref h0), (1, .int (zI ((t1 : Nat) : Int))), (2, .int (zI ((L1 : Nat) : Int)))]) hx hb dX7_dotsOf_54 hl (by decide) rfl (fun ls hl => ?_)
      refine lv_iload hx hb dX7_dotsOf_56 (lv_at hl 1 rfl) ?_
      refine z_iconst hx hb dX7_dotsOf_58 ?_
      refine z_iand hx hb dX7_dotsOf_59 ((th f t1 3).toNat) (1) (by omega) (by omega) ?_
      refine z_if_eq (tgt := 70) hx hb dX7_dotsOf_60 (by decide) (by omega) (fun c_60 => ?_) (fun c_60 => ?_)
      · refine lv_iload hx hb dX7_dotsOf_70 (lv_at hl 0 rfl) ?_
        refine lv_i2l (v := zL (((f (4 + 8 * (th f t1 2).toNat + (((L1 : Nat) : Int) - th f t1 1).toNat)).toNat : Nat) : Int)) hx hb dX7_dotsOf_72 (zI_l (by omega)) ?_
        refine z_bipush hx hb dX7_dotsOf_73 (by decide +kernel) ?_
        refine z_lshl hx hb dX7_dotsOf_75 ((f (4 + 8 * (th f t1 2).toNat + (((L1 : Nat) : Int) - th f t1 1).toNat)).toNat) (32) (by omega) (by omega) (by omega) ?_
        refine lv_aload_n hx hb dX7_dotsOf_76 rfl (lv_at hl 3 rfl) ?_
        refine lv_iload_n hx hb dX7_dotsOf_77 rfl (lv_at hl 4 rfl) ?_
        refine z_iconst hx hb dX7_dotsOf_78 ?_
        refine roV (n := 2) (As := [.int (zI ((t1 : Nat) : Int)), .int (zI ((0 : Nat) : Int))]) (rest := [.long (zL ((((f (4 + 8 * (th f t1 2).toNat + (((L1 : Nat) : Int) - th f t1 1).toNat)).toNat) * 2 ^ 32 : Nat) : Int))]) hSf (c_field l D k h0 c0 f t1 0 (by omega) (by omega)) gX7_dotsOf_X7_field rfl (by decide +kernel) ⟨Nat.le_of_ble_eq_true rfl, Nat.le_of_ble_eq_true rfl⟩ hK hP [0, 1] rfl 0 rfl rfl rfl hl.1 (by rw [show zI 0 = zI ((0 : Nat) : Int) from zc (by omega)]; rfl) (Nat.le_of_ble_eq_true rfl) dX7_dotsOf_79 ⟨Nat.zero_le _, Nat.zero_le _⟩ (fun r_79 h_79 => ?_)
        subst h_79
        refine z_bipush hx hb dX7_dotsOf_82 (by decide +kernel) ?_
        refine z_iadd hx hb dX7_dotsOf_84 ?_
        refine z_lushr hx hb dX7_dotsOf_85 (((f (4 + 8 * (th f t1 2).toNat + (((L1 : Nat) : Int) - th f t1 1).toNat)).toNat) * 2 ^ 32) ((th f t1 0 + 8).toNat) (by omega) (by omega) (by omega) (by omega) ?_
        refine lv_l2i (v := zI (((((f (4 + 8 * (th f t1 2).toNat + (((L1 : Nat) : Int) - th f t1 1).toNat)).toNat) * 2 ^ 32) / 2 ^ ((th f t1 0 + 8).toNat) : Nat) : Int)) hx hb dX7_dotsOf_86 (zL_i _) ?_
        exact W.iret hx hb hr (fun t ht hW => ⟨_, rfl, dots_ret hon (row_00 (by omega) (by omega)) rfl, ht⟩) (fun q hq => by cases hq) dX7_dotsOf_87
      · refine lv_iload hx hb dX7_dotsOf_63 (lv_at hl 0 rfl) ?_
        refine roS (n := 1) (As := [.int (zI ((((f (4 + 8 * (th f t1 2).toNat + (((L1 : Nat) : Int) - th f t1 1).toNat)).toNat) : Nat) : Int))]) (rest := []) hSf (c_mirrored l D k ((f (4 + 8 * (th f t1 2).toNat + (((L1 : Nat) : Int) - th f t1 1).toNat)).toNat) (by omega)) gX7_dotsOf_X7_mirrored rfl (by decide +kernel) ⟨Nat.le_of_ble_eq_true rfl, Nat.le_of_ble_eq_true rfl⟩ hK hP [] rfl rfl hl.1 rfl (Nat.le_of_ble_eq_true rfl) dX7_dotsOf_65 ⟨Nat.zero_le _, Nat.zero_le _⟩ (fun r_65 h_65 => ?_)
        subst h_65
        have hm := (mir_ok (f (4 + 8 * (th f t1 2).toNat + (((L1 : Nat) : Int) - th f t1 1).toNat)).toNat (by omega)).1
        refine lv_istore (lv' := [(5, .int (zI ((mirL ((f (4 + 8 * (th f t1 2).toNat + (((L1 : Nat) : Int) - th f t1 1).toNat)).toNat) 8 : Nat) : Int))), (4, .int (zI (th f t1 3))), (3, .int (zI (((L1 : Nat) : Int) - (th f t1 1)))), (0, .ref h0), (1, .int (zI ((t1 : Nat) : Int))), (2, .int (zI ((L1 : Nat) : Int)))]) hx hb dX7_dotsOf_68 hl (by decide) rfl (fun ls hl => ?_)
        refine lv_iload hx hb dX7_dotsOf_70 (lv_at hl 0 rfl) ?_
        refine lv_i2l (v := zL ((mirL ((f (4 + 8 * (th f t1 2).toNat + (((L1 : Nat) : Int) - th f t1 1).toNat)).toNat) 8 : Nat) : Int)) hx hb dX7_dotsOf_72 (zI_l (by omega)) ?_
        refine z_bipush hx hb dX7_dotsOf_73 (by decide +kernel) ?_
        refine z_lshl hx hb dX7_dotsOf_75 (mirL ((f (4 + 8 * (th f t1 2).toNat + (((L1 : Nat) : Int) - th f t1 1).toNat)).toNat) 8) (32) (by omega) (by omega) (by omega) ?_
        refine lv_aload_n hx hb dX7_dotsOf_76 rfl (lv_at hl 3 rfl) ?_
        refine lv_iload_n hx hb dX7_dotsOf_77 rfl (lv_at hl 4 rfl) ?_
        refine z_iconst hx hb dX7_dotsOf_78 ?_
        refine roV (n := 2) (As := [.int (zI ((t1 : Nat) : Int)), .int (zI ((0 : Nat) : Int))]) (rest := [.long (zL (((mirL ((f (4 + 8 * (th f t1 2).toNat + (((L1 : Nat) : Int) - th f t1 1).toNat)).toNat) 8) * 2 ^ 32 : Nat) : Int))]) hSf (c_field l D k h0 c0 f t1 0 (by omega) (by omega)) gX7_dotsOf_X7_field rfl (by decide +kernel) ⟨Nat.le_of_ble_eq_true rfl, Nat.le_of_ble_eq_true rfl⟩ hK hP [0, 1] rfl 0 rfl rfl rfl hl.1 (by rw [show zI 0 = zI ((0 : Nat) : Int) from zc (by omega)]; rfl) (Nat.le_of_ble_eq_true rfl) dX7_dotsOf_79 ⟨Nat.zero_le _, Nat.zero_le _⟩ (fun r_79 h_79 => ?_)
        subst h_79
        refine z_bipush hx hb dX7_dotsOf_82 (by decide +kernel) ?_
        refine z_iadd hx hb dX7_dotsOf_84 ?_
        refine z_lushr hx hb dX7_dotsOf_85 ((mirL ((f (4 + 8 * (th f t1 2).toNat + (((L1 : Nat) : Int) - th f t1 1).toNat)).toNat) 8) * 2 ^ 32) ((th f t1 0 + 8).toNat) (by omega) (by omega) (by omega) (by omega) ?_
        refine lv_l2i (v := zI ((((mirL ((f (4 + 8 * (th f t1 2).toNat + (((L1 : Nat) : Int) - th f t1 1).toNat)).toNat) 8) * 2 ^ 32) / 2 ^ ((th f t1 0 + 8).toNat) : Nat) : Int)) hx hb dX7_dotsOf_86 (zL_i _) ?_
        exact W.iret hx hb hr (fun t ht hW => ⟨_, rfl, dots_ret hon (row_10 (by omega) (by omega)) rfl, ht⟩) (fun q hq => by cases hq) dX7_dotsOf_87
    · refine z_bipush hx hb dX7_dotsOf_43 (by decide +kernel) ?_
      refine lv_iload_n hx hb dX7_dotsOf_45 rfl (lv_at hl 1 rfl) ?_
      refine z_isub hx hb dX7_dotsOf_46 ?_
      refine lv_goto (tgt := 51) hx hb dX7_dotsOf_47 (by decide) ?_
      refine roV (n := 2) (As := [.int (zI ((((th f t1 2).toNat) : Nat) : Int)), .int (zI (((7 - (((L1 : Nat) : Int) - th f t1 1).toNat) : Nat) : Int))]) (rest := []) hSf (c_bits l D k h0 c0 f ((th f t1 2).toNat) (7 - (((L1 : Nat) : Int) - th f t1 1).toNat) (by omega) (by omega)) gX7_dotsOf_X7_bits rfl (by decide +kernel) ⟨Nat.le_of_ble_eq_true rfl, Nat.le_of_ble_eq_true rfl⟩ hK hP [0, 1] rfl 0 rfl rfl rfl hl.1 (by rw [show zI (th f t1 2) = zI ((((th f t1 2).toNat) : Nat) : Int) from zc (by omega)]; rw [show zI (7 - (((L1 : Nat) : Int) - (th f t1 1))) = zI (((7 - (((L1 : Nat) : Int) - th f t1 1).toNat) : Nat) : Int) from zc (by omega)]; rfl) (Nat.le_of_ble_eq_true rfl) dX7_dotsOf_51 ⟨Nat.zero_le _, Nat.zero_le _⟩ (fun r_51 h_51 => ?_)
      subst h_51
      have hp := hV.p (j := 4 + 8 * (th f t1 2).toNat + (7 - (((L1 : Nat) : Int) - th f t1 1).toNat)) (by omega) (by omega)
      refine te (zc (show f (4 + 8 * ((th f t1 2).toNat) + (7 - (((L1 : Nat) : Int) - th f t1 1).toNat)) = (((f (4 + 8 * (th f t1 2).toNat + (7 - (((L1 : Nat) : Int) - th f t1 1).toNat))).toNat : Nat) : Int) from by omega)) ?_
      refine lv_istore (lv' := [(5, .int (zI (((f (4 + 8 * (th f t1 2).toNat + (7 - (((L1 : Nat) : Int) - th f t1 1).toNat))).toNat : Nat) : Int))), (4, .int (zI (th f t1 3))), (3, .int (zI (((L1 : Nat) : Int) - (th f t1 1)))), (0, .ref h0), (1, .int (zI ((t1 : Nat) : Int))), (2, .int (zI ((L1 : Nat) : Int)))]) hx hb dX7_dotsOf_54 hl (by decide) rfl (fun ls hl => ?_)
      refine lv_iload hx hb dX7_dotsOf_56 (lv_at hl 1 rfl) ?_
      refine z_iconst hx hb dX7_dotsOf_58 ?_
      refine z_iand hx hb dX7_dotsOf_59 ((th f t1 3).toNat) (1) (by omega) (by omega) ?_
      refine z_if_eq (tgt := 70) hx hb dX7_dotsOf_60 (by decide) (by omega) (fun c_60 => ?_) (fun c_60 => ?_)
      · refine lv_iload hx hb dX7_dotsOf_70 (lv_at hl 0 rfl) ?_
        refine lv_i2l (v := zL (((f (4 + 8 * (th f t1 2).toNat + (7 - (((L1 : Nat) : Int) - th f t1 1).toNat))).toNat : Nat) : Int)) hx hb dX7_dotsOf_72 (zI_l (by omega)) ?_
        refine z_bipush hx hb dX7_dotsOf_73 (by decide +kernel) ?_
        refine z_lshl hx hb dX7_dotsOf_75 ((f (4 + 8 * (th f t1 2).toNat + (7 - (((L1 : Nat) : Int) - th f t1 1).toNat))).toNat) (32) (by omega) (by omega) (by omega) ?_
        refine lv_aload_n hx hb dX7_dotsOf_76 rfl (lv_at hl 3 rfl) ?_
        refine lv_iload_n hx hb dX7_dotsOf_77 rfl (lv_at hl 4 rfl) ?_
        refine z_iconst hx hb dX7_dotsOf_78 ?_
        refine roV (n := 2) (As := [.int (zI ((t1 : Nat) : Int)), .int (zI ((0 : Nat) : Int))]) (rest := [.long (zL ((((f (4 + 8 * (th f t1 2).toNat + (7 - (((L1 : Nat) : Int) - th f t1 1).toNat))).toNat) * 2 ^ 32 : Nat) : Int))]) hSf (c_field l D k h0 c0 f t1 0 (by omega) (by omega)) gX7_dotsOf_X7_field rfl (by decide +kernel) ⟨Nat.le_of_ble_eq_true rfl, Nat.le_of_ble_eq_true rfl⟩ hK hP [0, 1] rfl 0 rfl rfl rfl hl.1 (by rw [show zI 0 = zI ((0 : Nat) : Int) from zc (by omega)]; rfl) (Nat.le_of_ble_eq_true rfl) dX7_dotsOf_79 ⟨Nat.zero_le _, Nat.zero_le _⟩ (fun r_79 h_79 => ?_)
        subst h_79
        refine z_bipush hx hb dX7_dotsOf_82 (by decide +kernel) ?_
        refine z_iadd hx hb dX7_dotsOf_84 ?_
        refine z_lushr hx hb dX7_dotsOf_85 (((f (4 + 8 * (th f t1 2).toNat + (7 - (((L1 : Nat) : Int) - th f t1 1).toNat))).toNat) * 2 ^ 32) ((th f t1 0 + 8).toNat) (by omega) (by omega) (by omega) (by omega) ?_
        refine lv_l2i (v := zI (((((f (4 + 8 * (th f t1 2).toNat + (7 - (((L1 : Nat) : Int) - th f t1 1).toNat))).toNat) * 2 ^ 32) / 2 ^ ((th f t1 0 + 8).toNat) : Nat) : Int)) hx hb dX7_dotsOf_86 (zL_i _) ?_
        exact W.iret hx hb hr (fun t ht hW => ⟨_, rfl, dots_ret hon (row_01 (by omega) (by omega)) rfl, ht⟩) (fun q hq => by cases hq) dX7_dotsOf_87
      · refine lv_iload hx hb dX7_dotsOf_63 (lv_at hl 0 rfl) ?_
        refine roS (n := 1) (As := [.int (zI ((((f (4 + 8 * (th f t1 2).toNat + (7 - (((L1 : Nat) : Int) - th f t1 1).toNat))).toNat) : Nat) : Int))]) (rest := []) hSf (c_mirrored l D k ((f (4 + 8 * (th f t1 2).toNat + (7 - (((L1 : Nat) : Int) - th f t1 1).toNat))).toNat) (by omega)) gX7_dotsOf_X7_mirrored rfl (by decide +kernel) ⟨Nat.le_of_ble_eq_true rfl, Nat.le_of_ble_eq_true rfl⟩ hK hP [] rfl rfl hl.1 rfl (Nat.le_of_ble_eq_true rfl) dX7_dotsOf_65 ⟨Nat.zero_le _, Nat.zero_le _⟩ (fun r_65 h_65 => ?_)
        subst h_65
        have hm := (mir_ok (f (4 + 8 * (th f t1 2).toNat + (7 - (((L1 : Nat) : Int) - th f t1 1).toNat))).toNat (by omega)).1
        refine lv_istore (lv' := [(5, .int (zI ((mirL ((f (4 + 8 * (th f t1 2).toNat + (7 - (((L1 : Nat) : Int) - th f t1 1).toNat))).toNat) 8 : Nat) : Int))), (4, .int (zI (th f t1 3))), (3, .int (zI (((L1 : Nat) : Int) - (th f t1 1)))), (0, .ref h0), (1, .int (zI ((t1 : Nat) : Int))), (2, .int (zI ((L1 : Nat) : Int)))]) hx hb dX7_dotsOf_68 hl (by decide) rfl (fun ls hl => ?_)
        refine lv_iload hx hb dX7_dotsOf_70 (lv_at hl 0 rfl) ?_
        refine lv_i2l (v := zL ((mirL ((f (4 + 8 * (th f t1 2).toNat + (7 - (((L1 : Nat) : Int) - th f t1 1).toNat))).toNat) 8 : Nat) : Int)) hx hb dX7_dotsOf_72 (zI_l (by omega)) ?_
        refine z_bipush hx hb dX7_dotsOf_73 (by decide +kernel) ?_
        refine z_lshl hx hb dX7_dotsOf_75 (mirL ((f (4 + 8 * (th f t1 2).toNat + (7 - (((L1 : Nat) : Int) - th f t1 1).toNat))).toNat) 8) (32) (by omega) (by omega) (by omega) ?_
        refine lv_aload_n hx hb dX7_dotsOf_76 rfl (lv_at hl 3 rfl) ?_
        refine lv_iload_n hx hb dX7_dotsOf_77 rfl (lv_at hl 4 rfl) ?_
        refine z_iconst hx hb dX7_dotsOf_78 ?_
        refine roV (n := 2) (As := [.int (zI ((t1 : Nat) : Int)), .int (zI ((0 : Nat) : Int))]) (rest := [.long (zL (((mirL ((f (4 + 8 * (th f t1 2).toNat + (7 - (((L1 : Nat) : Int) - th f t1 1).toNat))).toNat) 8) * 2 ^ 32 : Nat) : Int))]) hSf (c_field l D k h0 c0 f t1 0 (by omega) (by omega)) gX7_dotsOf_X7_field rfl (by decide +kernel) ⟨Nat.le_of_ble_eq_true rfl, Nat.le_of_ble_eq_true rfl⟩ hK hP [0, 1] rfl 0 rfl rfl rfl hl.1 (by rw [show zI 0 = zI ((0 : Nat) : Int) from zc (by omega)]; rfl) (Nat.le_of_ble_eq_true rfl) dX7_dotsOf_79 ⟨Nat.zero_le _, Nat.zero_le _⟩ (fun r_79 h_79 => ?_)
        subst h_79
        refine z_bipush hx hb dX7_dotsOf_82 (by decide +kernel) ?_
        refine z_iadd hx hb dX7_dotsOf_84 ?_
        refine z_lushr hx hb dX7_dotsOf_85 ((mirL ((f (4 + 8 * (th f t1 2).toNat + (7 - (((L1 : Nat) : Int) - th f t1 1).toNat))).toNat) 8) * 2 ^ 32) ((th f t1 0 + 8).toNat) (by omega) (by omega) (by omega) (by omega) ?_
        refine lv_l2i (v := zI ((((mirL ((f (4 + 8 * (th f t1 2).toNat + (7 - (((L1 : Nat) : Int) - th f t1 1).toNat))).toNat) 8) * 2 ^ 32) / 2 ^ ((th f t1 0 + 8).toNat) : Nat) : Int)) hx hb dX7_dotsOf_86 (zL_i _) ?_
        exact W.iret hx hb hr (fun t ht hW => ⟨_, rfl, dots_ret hon (row_11 (by omega) (by omega)) rfl, ht⟩) (fun q hq => by cases hq) dX7_dotsOf_87
  · refine z_iconst hx hb dX7_dotsOf_19 ?_
    exact W.iret hx hb hr (fun t ht hW => ⟨_, rfl, zc (by rw [dotsN, if_neg (by rw [show onL f t1 L1 = false from c_16]; decide)]; rfl), ht⟩) (fun q hq => by cases hq) dX7_dotsOf_20
end
section
def addZ (f : St) (x y pi tu le co : Int) : St := upZ (upZ (upZ (upZ (upZ (upZ (upZ (upZ (upZ f (36 + 8 * nT f + 0) x) (36 + 8 * nT f + 1) y) (36 + 8 * nT f + 2) pi) (36 + 8 * nT f + 3) tu) (36 + 8 * nT f + 4) le) (36 + 8 * nT f + 5) co) (36 + 8 * nT f + 6) 0) (36 + 8 * nT f + 7) 0) 0 (f 0 + 1)
def takeC (f : St) (t : Nat) : St := upZ (cpZ f f (36 + 8 * t + 8) (36 + 8 * t) (8 * (nT f - 1 - t))) 0 (f 0 - 1)
def gx (f : St) (t : Nat) : Int := (th f t 0 + th f t 6 + 8) % 40 - 8
def gy (f : St) (t : Nat) : Int := (th f t 1 + th f t 7 + 8) % 32 - 8
/-- NEXT FRAME, as far as THING j -/
def nz (f : St) (j : Nat) : St := fun i => if i = 3 then f 3 + 1 else if 36 ≤ i ∧ i < 36 + 8 * j ∧ i % 8 = 4 then gx f ((i - 36) / 8) else if 36 ≤ i ∧ i < 36 + 8 * j ∧ i % 8 = 5 then gy f ((i - 36) / 8) else f i
def nextZ (f : St) : St := nz f (nT f)
theorem nz_0 (f : St) : upZ f 3 (f 3 + 1) = nz f 0 := by
  funext i
  unfold upZ nz
  by_cases h : i = 3
  · rw [if_pos h, if_pos h]
  · rw [if_neg h, if_neg h, if_neg (by omega), if_neg (by omega)]
theorem nz_c (f : St) (j i : Nat) (h : i < 3) : nz f j i = f i := by
  unfold nz
  rw [if_neg (by omega), if_neg (by omega), if_neg (by omega)]
theorem nz_th {f : St} {j t w : Nat} (hw : w < 8) (h : j ≤ t ∨ 2 ≤ w) : th (nz f j) t w = th f t w := by
  unfold th nz
  rw [if_neg (by omega), if_neg (by omega), if_neg (by omega)]
theorem nz_s (f : St) (j : Nat) : upZ (upZ (nz f j) (36 + 8 * j + 0) (gx f j)) (36 + 8 * j + 1) (gy f j) = nz f (j + 1) := by
  funext i
  unfold upZ nz
  by_cases h1 : i = 36 + 8 * j + 1
  · rw [if_pos h1, if_neg (by omega), if_neg (by omega), if_pos (by omega), show (i - 36) / 8 = j by omega]
  · rw [if_neg h1]
    by_cases h2 : i = 36 + 8 * j + 0
    · rw [if_pos h2, if_neg (by omega), if_pos (by omega), show (i - 36) / 8 = j by omega]
    · rw [if_neg h2]
      by_cases h3 : i = 3
      · rw [if_pos h3, if_pos h3]
      · rw [if_neg h3, if_neg h3]
        have e1 : (36 ≤ i ∧ i < 36 + 8 * j ∧ i % 8 = 4) ↔ (36 ≤ i ∧ i < 36 + 8 * (j + 1) ∧ i % 8 = 4) := by omega
        have e2 : (36 ≤ i ∧ i < 36 + 8 * j ∧ i % 8 = 5) ↔ (36 ≤ i ∧ i < 36 + 8 * (j + 1) ∧ i % 8 = 5) := by omega
        simp only [e1, e2]
set_option maxHeartbeats 4000000 in
set_option maxRecDepth 100000 in
theorem c_setCell (l : Launch) (D : va_G) (k : Kt) (h0 : Nat) (c0 : Nat) (f : St) (j1 : Nat) (v1 : Int) (hj1 : j1 < 132) : MU l D k yX7_setCell wsX7_setCell 0 0 [.ref h0, .int (zI ((j1 : Nat) : Int)), .int (zI v1)] [(h0, .inr (7, [.ref c0])), (c0, .inl (k.1, 132, .inl (zF f)))] (fun (u : Unit) => True) (fun u => [(h0, .inr (7, [.ref c0])), (c0, .inl (k.1, 132, .inl (zF (upZ f j1 v1))))]) := by
  refine Met.ofW (cc := cX7_setCell) (maxL := 3) (ret := none) (by decide) rfl ?_
  intro p e s m args below meth c s₁ Bd hml hv
  obtain ⟨rfl, hP, hK, hD0⟩ := hv
  have hx := Bd.exec
  have hb := Bd.bytes
  have hr := Bd.returns
  have hts := atoms_spec (ws := wsX7_setCell) Bd.pre
  have hown : s.vm.findClass RX7 = some m.cls := findClass_of_methodNamed Bd.named
  have hlocks := Bd.notSynchronized
  have hSf : CallFix p m c cX7_setCell 3 s ([.ref h0, .int (zI ((j1 : Nat) : Int)), .int (zI v1)] : List Value).toArray wsX7_setCell RX7 := ⟨hx, hb, hml, hown, hts⟩
  have hD := fA_D hD0
  have hS : va_S (fA [(h0, .inr (7, [.ref c0])), (c0, .inl (k.1, 132, .inl (zF f)))]) s.heap s.heap [] := va_S.rf
  generalize hAe : fA [(h0, .inr (7, [.ref c0])), (c0, .inl (k.1, 132, .inl (zF f)))] = A at hD hS ⊢
  have hP : va_P D vwCl [(h0, .inr (7, [.ref c0])), (c0, .inl (k.1, 132, .inl (zF f)))] s.heap := hP
  have hinX7 : ∀ w ∈ u_ws RX7 TX7 1, w ∈ wsX7_setCell := by decide +kernel
  have fl11 := hts (.fieldLink RX7 11 "DotObjects$Scene" "cells" "[I") (by decide +kernel)
  have hl := lv_entry ([.ref h0, .int (zI ((j1 : Nat) : Int)), .int (zI v1)]) (n := 3) (Nat.le_of_ble_eq_true rfl)
  rw [lg_entry_eq]
  generalize (lg_sl ([.ref h0, .int (zI ((j1 : Nat) : Int)), .int (zI v1)]) ++ List.replicate (3 - (lg_sl ([.ref h0, .int (zI ((j1 : Nat) : Int)), .int (zI v1)])).length) Slot.unset).toArray = ls at hl ⊢
  have hl : lv_has ls 3 [(0, .ref h0), (1, .int (zI ((j1 : Nat) : Int))), (2, .int (zI v1))] := hl
  refine lv_aload_n hx hb dX7_setCell_0 rfl (lv_at hl 0 rfl) ?_
  refine va_get (D := D) (ci := 7) (v := .ref c0) (C := RX7) (T := TX7) (N := 1) hx hb hts hinX7 hown hK.1 hP 0 rfl rfl 0 (by decide) fl11 (fun _ h9 => h9) rfl dX7_setCell_1 ?_
  refine lv_iload_n hx hb dX7_setCell_4 rfl (lv_at hl 1 rfl) ?_
  refine lv_iload_n hx hb dX7_setCell_5 rfl (lv_at hl 2 rfl) ?_
  refine z_ast hx hb hK hP hD hS 1 rfl (j1) (by omega) (by omega) (Nat.le_of_ble_eq_true rfl) dX7_setCell_6 (fun H locs hP hD hS => ?_)
  have hP : va_P D vwCl [(h0, .inr (7, [.ref c0])), (c0, .inl (k.1, 132, .inl (zF (upZ f j1 v1))))] H := hP
  have hD : va_D A [(h0, .inr (7, [.ref c0])), (c0, .inl (k.1, 132, .inl (zF (upZ f j1 v1))))] := hD
  exact W.vret hx hb hr (fun t ht hW => ⟨⟨(), rfl, trivial, by show va_P D vwCl _ _; rw [ht]; exact hP⟩, hS.F ht⟩) hS.2.2 dX7_setCell_7
set_option maxHeartbeats 4000000 in
set_option maxRecDepth 100000 in
theorem c_setField (l : Launch) (D : va_G) (k : Kt) (h0 : Nat) (c0 : Nat) (f : St) (t1 : Nat) (w1 : Nat) (v1 : Int) (ht1 : t1 < 12) (hw1 : w1 < 8) : MU l D k yX7_setField wsX7_setField 0 0 [.ref h0, .int (zI ((t1 : Nat) : Int)), .int (zI ((w1 : Nat) : Int)), .int (zI v1)] [(h0, .inr (7, [.ref c0])), (c0, .inl (k.1, 132, .inl (zF f)))] (fun (u : Unit) => True) (fun u => [(h0, .inr (7, [.ref c0])), (c0, .inl (k.1, 132, .inl (zF (upZ f (36 + 8 * t1 + w1) v1))))]) := by
  refine Met.ofW (cc := cX7_setField) (maxL := 4) (ret := none) (by decide) rfl ?_
  intro p e s m args below meth c s₁ Bd hml hv
  obtain ⟨rfl, hP, hK, hD0⟩ := hv
  have hx := Bd.exec
  have hb := Bd.bytes
  have hr := Bd.returns
  have hts := atoms_spec (ws := wsX7_setField) Bd.pre
  have hown : s.vm.findClass RX7 = some m.cls := findClass_of_methodNamed Bd.named
  have hlocks := Bd.notSynchronized
  have hSf : CallFix p m c cX7_setField 4 s ([.ref h0, .int (zI ((t1 : Nat) : Int)), .int (zI ((w1 : Nat) : Int)), .int (zI v1)] : List Value).toArray wsX7_setField RX7 := ⟨hx, hb, hml, hown, hts⟩
  have hD := fA_D hD0
  have hS : va_S (fA [(h0, .inr (7, [.ref c0])), (c0, .inl (k.1, 132, .inl (zF f)))]) s.heap s.heap [] := va_S.rf
  generalize hAe : fA [(h0, .inr (7, [.ref c0])), (c0, .inl (k.1, 132, .inl (zF f)))] = A at hD hS ⊢
  have hP : va_P D vwCl [(h0, .inr (7, [.ref c0])), (c0, .inl (k.1, 132, .inl (zF f)))] s.heap := hP
  have hinX7 : ∀ w ∈ u_ws RX7 TX7 1, w ∈ wsX7_setField := by decide +kernel
  have fl11 := hts (.fieldLink RX7 11 "DotObjects$Scene" "cells" "[I") (by decide +kernel)
  have hl := lv_entry ([.ref h0, .int (zI ((t1 : Nat) : Int)), .int (zI ((w1 : Nat) : Int)), .int (zI v1)]) (n := 4) (Nat.le_of_ble_eq_true rfl)
  rw [lg_entry_eq]
  generalize (lg_sl ([.ref h0, .int (zI ((t1 : Nat) : Int)), .int (zI ((w1 : Nat) : Int)), .int (zI v1)]) ++ List.replicate (4 - (lg_sl ([.ref h0, .int (zI ((t1 : Nat) : Int)), .int (zI ((w1 : Nat) : Int)), .int (zI v1)])).length) Slot.unset).toArray = ls at hl ⊢
  have hl : lv_has ls 4 [(0, .ref h0), (1, .int (zI ((t1 : Nat) : Int))), (2, .int (zI ((w1 : Nat) : Int))), (3, .int (zI v1))] := hl
  refine lv_aload_n hx hb dX7_setField_0 rfl (lv_at hl 0 rfl) ?_
  refine va_get (D := D) (ci := 7) (v := .ref c0) (C := RX7) (T := TX7) (N := 1) hx hb hts hinX7 hown hK.1 hP 0 rfl rfl 0 (by decide) fl11 (fun _ h9 => h9) rfl dX7_setField_1 ?_
  refine z_bipush hx hb dX7_setField_4 (by decide +kernel) ?_
  refine lv_iload_n hx hb dX7_setField_6 rfl (lv_at hl 1 rfl) ?_
  refine z_bipush hx hb dX7_setField_7 (by decide +kernel) ?_
  refine z_imul hx hb dX7_setField_9 ?_
  refine z_iadd hx hb dX7_setField_10 ?_
  refine lv_iload_n hx hb dX7_setField_11 rfl (lv_at hl 2 rfl) ?_
  refine z_iadd hx hb dX7_setField_12 ?_
  refine lv_iload_n hx hb dX7_setField_13 rfl (lv_at hl 3 rfl) ?_
  refine z_ast hx hb hK hP hD hS 1 rfl (36 + 8 * t1 + w1) (by omega) (by omega) (Nat.le_of_ble_eq_true rfl) dX7_setField_14 (fun H locs hP hD hS => ?_)
  have hP : va_P D vwCl [(h0, .inr (7, [.ref c0])), (c0, .inl (k.1, 132, .inl (zF (upZ f (36 + 8 * t1 + w1) v1))))] H := hP
  have hD : va_D A [(h0, .inr (7, [.ref c0])), (c0, .inl (k.1, 132, .inl (zF (upZ f (36 + 8 * t1 + w1) v1))))] := hD
  exact W.vret hx hb hr (fun t ht hW => ⟨⟨(), rfl, trivial, by show va_P D vwCl _ _; rw [ht]; exact hP⟩, hS.F ht⟩) hS.2.2 dX7_setField_15
set_option maxHeartbeats 4000000 in
set_option maxRecDepth 100000 in
theorem c_setBits (l : Launch) (D : va_G) (k : Kt) (h0 : Nat) (c0 : Nat) (f : St) (p1 : Nat) (r1 : Nat) (v1 : Int) (hp1 : p1 < 4) (hr1 : r1 < 8) : MU l D k yX7_setBits wsX7_setBits 0 0 [.ref h0, .int (zI ((p1 : Nat) : Int)), .int (zI ((r1 : Nat) : Int)), .int (zI v1)] [(h0, .inr (7, [.ref c0])), (c0, .inl (k.1, 132, .inl (zF f)))] (fun (u : Unit) => True) (fun u => [(h0, .inr (7, [.ref c0])), (c0, .inl (k.1, 132, .inl (zF (upZ f (4 + 8 * p1 + r1) v1))))]) := by
  refine Met.ofW (cc := cX7_setBits) (maxL := 4) (ret := none) (by decide) rfl ?_
  intro p e s m args below meth c s₁ Bd hml hv
  obtain ⟨rfl, hP, hK, hD0⟩ := hv
  have hx := Bd.exec
  have hb := Bd.bytes
  have hr := Bd.returns
  have hts := atoms_spec (ws := wsX7_setBits) Bd.pre
  have hown : s.vm.findClass RX7 = some m.cls := findClass_of_methodNamed Bd.named
  have hlocks := Bd.notSynchronized
  have hSf : CallFix p m c cX7_setBits 4 s ([.ref h0, .int (zI ((p1 : Nat) : Int)), .int (zI ((r1 : Nat) : Int)), .int (zI v1)] : List Value).toArray wsX7_setBits RX7 := ⟨hx, hb, hml, hown, hts⟩
  have hD := fA_D hD0
  have hS : va_S (fA [(h0, .inr (7, [.ref c0])), (c0, .inl (k.1, 132, .inl (zF f)))]) s.heap s.heap [] := va_S.rf
  generalize hAe : fA [(h0, .inr (7, [.ref c0])), (c0, .inl (k.1, 132, .inl (zF f)))] = A at hD hS ⊢
  have hP : va_P D vwCl [(h0, .inr (7, [.ref c0])), (c0, .inl (k.1, 132, .inl (zF f)))] s.heap := hP
  have hinX7 : ∀ w ∈ u_ws RX7 TX7 1, w ∈ wsX7_setBits := by decide +kernel
  have fl11 := hts (.fieldLink RX7 11 "DotObjects$Scene" "cells" "[I") (by decide +kernel)
  have hl := lv_entry ([.ref h0, .int (zI ((p1 : Nat) : Int)), .int (zI ((r1 : Nat) : Int)), .int (zI v1)]) (n := 4) (Nat.le_of_ble_eq_true rfl)
  rw [lg_entry_eq]
  generalize (lg_sl ([.ref h0, .int (zI ((p1 : Nat) : Int)), .int (zI ((r1 : Nat) : Int)), .int (zI v1)]) ++ List.replicate (4 - (lg_sl ([.ref h0, .int (zI ((p1 : Nat) : Int)), .int (zI ((r1 : Nat) : Int)), .int (zI v1)])).length) Slot.unset).toArray = ls at hl ⊢
  have hl : lv_has ls 4 [(0, .ref h0), (1, .int (zI ((p1 : Nat) : Int))), (2, .int (zI ((r1 : Nat) : Int))), (3, .int (zI v1))] := hl
  refine lv_aload_n hx hb dX7_setBits_0 rfl (lv_at hl 0 rfl) ?_
  refine va_get (D := D) (ci := 7) (v := .ref c0) (C := RX7) (T := TX7) (N := 1) hx hb hts hinX7 hown hK.1 hP 0 rfl rfl 0 (by decide) fl11 (fun _ h9 => h9) rfl dX7_setBits_1 ?_
  refine z_iconst hx hb dX7_setBits_4 ?_
  refine lv_iload_n hx hb dX7_setBits_5 rfl (lv_at hl 1 rfl) ?_
  refine z_bipush hx hb dX7_setBits_6 (by decide +kernel) ?_
  refine z_imul hx hb dX7_setBits_8 ?_
  refine z_iadd hx hb dX7_setBits_9 ?_
  refine lv_iload_n hx hb dX7_setBits_10 rfl (lv_at hl 2 rfl) ?_
  refine z_iadd hx hb dX7_setBits_11 ?_
  refine lv_iload_n hx hb dX7_setBits_12 rfl (lv_at hl 3 rfl) ?_
  refine z_ast hx hb hK hP hD hS 1 rfl (4 + 8 * p1 + r1) (by omega) (by omega) (Nat.le_of_ble_eq_true rfl) dX7_setBits_13 (fun H locs hP hD hS => ?_)
  have hP : va_P D vwCl [(h0, .inr (7, [.ref c0])), (c0, .inl (k.1, 132, .inl (zF (upZ f (4 + 8 * p1 + r1) v1))))] H := hP
  have hD : va_D A [(h0, .inr (7, [.ref c0])), (c0, .inl (k.1, 132, .inl (zF (upZ f (4 + 8 * p1 + r1) v1))))] := hD
  exact W.vret hx hb hr (fun t ht hW => ⟨⟨(), rfl, trivial, by show va_P D vwCl _ _; rw [ht]; exact hP⟩, hS.F ht⟩) hS.2.2 dX7_setBits_14
set_option maxHeartbeats 4000000 in
set_option maxRecDepth 100000 in
theorem c_add (l : Launch) (D : va_G) (k : Kt) (h0 : Nat) (c0 : Nat) (f : St) (B : Int) (hV : Va B f) (x1 : Int) (x2 : Int) (x3 : Int) (x4 : Int) (x5 : Int) (x6 : Int) (hf : nT f < 12) : MI l D k yX7_add wsX7_add 1 23 [.ref h0, .int (zI x1), .int (zI x2), .int (zI x3), .int (zI x4), .int (zI x5), .int (zI x6)] [(h0, .inr (7, [.ref c0])), (c0, .inl (k.1, 132, .inl (zF f)))] (fun (r : Int32) (u : Unit) => r = zI (f 0) ∧ True) (fun u => [(h0, .inr (7, [.ref c0])), (c0, .inl (k.1, 132, .inl (zF (addZ f x1 x2 x3 x4 x5 x6))))]) := by
  refine Met.ofW (cc := cX7_add) (maxL := 8) (ret := (some .int)) (by decide) rfl ?_
  intro p e s m args below meth c s₁ Bd hml hv
  obtain ⟨rfl, hP, hK, hD0⟩ := hv
  have hx := Bd.exec
  have hb := Bd.bytes
  have hr := Bd.returns
  have hts := atoms_spec (ws := wsX7_add) Bd.pre
  have hown : s.vm.findClass RX7 = some m.cls := findClass_of_methodNamed Bd.named
  have hlocks := Bd.notSynchronized
  have hSf : CallFix p m c cX7_add 8 s ([.ref h0, .int (zI x1), .int (zI x2), .int (zI x3), .int (zI x4), .int (zI x5), .int (zI x6)] : List Value).toArray wsX7_add RX7 := ⟨hx, hb, hml, hown, hts⟩
  have hD := fA_D hD0
  have hS : va_S (fA [(h0, .inr (7, [.ref c0])), (c0, .inl (k.1, 132, .inl (zF f)))]) s.heap s.heap [] := va_S.rf
  generalize hAe : fA [(h0, .inr (7, [.ref c0])), (c0, .inl (k.1, 132, .inl (zF f)))] = A at hD hS ⊢
  have hP : va_P D vwCl [(h0, .inr (7, [.ref c0])), (c0, .inl (k.1, 132, .inl (zF f)))] s.heap := hP
  have hinX7 : ∀ w ∈ u_ws RX7 TX7 1, w ∈ wsX7_add := by decide +kernel
  have fl11 := hts (.fieldLink RX7 11 "DotObjects$Scene" "cells" "[I") (by decide +kernel)
  have hl := lv_entry ([.ref h0, .int (zI x1), .int (zI x2), .int (zI x3), .int (zI x4), .int (zI x5), .int (zI x6)]) (n := 8) (Nat.le_of_ble_eq_true rfl)
  rw [lg_entry_eq]
  generalize (lg_sl ([.ref h0, .int (zI x1), .int (zI x2), .int (zI x3), .int (zI x4), .int (zI x5), .int (zI x6)]) ++ List.replicate (8 - (lg_sl ([.ref h0, .int (zI x1), .int (zI x2), .int (zI x3), .int (zI x4), .int (zI x5), .int (zI x6)])).length) Slot.unset).toArray = ls at hl ⊢
  have hl : lv_has ls 8 [(0, .ref h0), (1, .int (zI x1)), (2, .int (zI x2)), (3, .int (zI x3)), (4, .int (zI x4)), (5, .int (zI x5)), (6, .int (zI x6))] := hl
  have hn := hV.n
  have hv := hV.1
  refine lv_aload_n hx hb dX7_add_0 rfl (lv_at hl 0 rfl) ?_
  refine va_get (D := D) (ci := 7) (v := .ref c0) (C := RX7) (T := TX7) (N := 1) hx hb hts hinX7 hown hK.1 hP 0 rfl rfl 0 (by decide) fl11 (fun _ h9 => h9) rfl dX7_add_1 ?_
  refine z_iconst hx hb dX7_add_4 ?_
  refine z_ald hx hb hK hP 1 rfl (0) (by omega) (by omega) (Nat.le_of_ble_eq_true rfl) dX7_add_5 ?_
  refine lv_istore (lv' := [(7, .int (zI (f 0))), (0, .ref h0), (1, .int (zI x1)), (2, .int (zI x2)), (3, .int (zI x3)), (4, .int (zI x4)), (5, .int (zI x5)), (6, .int (zI x6))]) hx hb dX7_add_6 hl (by decide) rfl (fun ls hl => ?_)
  refine lv_aload_n hx hb dX7_add_8 rfl (lv_at hl 1 rfl) ?_
  refine lv_iload hx hb dX7_add_9 (lv_at hl 0 rfl) ?_
  refine z_iconst hx hb dX7_add_11 ?_
  refine lv_iload_n hx hb dX7_add_12 rfl (lv_at hl 2 rfl) ?_
  refine muV (n := 3) (As := [.int (zI (((nT f) : Nat) : Int)), .int (zI ((0 : Nat) : Int)), .int (zI x1)]) (rest := []) hSf (c_setField l D k h0 c0 f (nT f) 0 x1 (by omega) (by omega)) gX7_add_X7_setField rfl (by decide +kernel) ⟨Nat.le_of_ble_eq_true rfl, Nat.le_of_ble_eq_true rfl⟩ hK hP hD hS [0, 1] rfl rfl (by decide) (fun _ => rfl) (fun _ => rfl) 0 rfl rfl rfl hl.1 (by rw [show zI (f 0) = zI (((nT f) : Nat) : Int) from zc (by omega)]; rw [show zI 0 = zI ((0 : Nat) : Int) from zc (by omega)]; rfl) (Nat.le_of_ble_eq_true rfl) dX7_add_13 ⟨Nat.zero_le _, Nat.zero_le _⟩ (fun u_13 H locs h_13 hP hD hS => ?_)
  have hP : va_P D vwCl [(h0, .inr (7, [.ref c0])), (c0, .inl (k.1, 132, .inl (zF (upZ f (36 + 8 * (nT f) + 0) x1))))] H := hP
  have hD : va_D A [(h0, .inr (7, [.ref c0])), (c0, .inl (k.1, 132, .inl (zF (upZ f (36 + 8 * (nT f) + 0) x1))))] := hD
  refine lv_aload_n hx hb dX7_add_16 rfl (lv_at hl 1 rfl) ?_
  refine lv_iload hx hb dX7_add_17 (lv_at hl 0 rfl) ?_
  refine z_iconst hx hb dX7_add_19 ?_
  refine lv_iload_n hx hb dX7_add_20 rfl (lv_at hl 3 rfl) ?_
  refine muV (n := 3) (As := [.int (zI (((nT f) : Nat) : Int)), .int (zI ((1 : Nat) : Int)), .int (zI x2)]) (rest := []) hSf (c_setField l D k h0 c0 (upZ f (36 + 8 * (nT f) + 0) x1) (nT f) 1 x2 (by omega) (by omega)) gX7_add_X7_setField rfl (by decide +kernel) ⟨Nat.le_of_ble_eq_true rfl, Nat.le_of_ble_eq_true rfl⟩ hK hP hD hS [0, 1] rfl rfl (by decide) (fun _ => rfl) (fun _ => rfl) 0 rfl rfl rfl hl.1 (by rw [show zI (f 0) = zI (((nT f) : Nat) : Int) from zc (by omega)]; rw [show zI 1 = zI ((1 : Nat) : Int) from zc (by omega)]; rfl) (Nat.le_of_ble_eq_true rfl) dX7_add_21 ⟨Nat.zero_le _, Nat.zero_le _⟩ (fun u_21 H locs h_21 hP hD hS => ?_)
  have hP : va_P D vwCl [(h0, .inr (7, [.ref c0])), (c0, .inl (k.1, 132, .inl (zF (upZ (upZ f (36 + 8 * (nT f) + 0) x1) (36 + 8 * (nT f) + 1) x2))))] H := hP
  have hD : va_D A [(h0, .inr (7, [.ref c0])), (c0, .inl (k.1, 132, .inl (zF (upZ (upZ f (36 + 8 * (nT f) + 0) x1) (36 + 8 * (nT f) + 1) x2))))] := hD
  refine lv_aload_n hx hb dX7_add_24 rfl (lv_at hl 1 rfl) ?_
  refine lv_iload hx hb dX7_add_25 (lv_at hl 0 rfl) ?_
  refine z_iconst hx hb dX7_add_27 ?_
  refine lv_iload_n hx hb dX7_add_28 rfl (lv_at hl 4 rfl) ?_
  refine muV (n := 3) (As := [.int (zI (((nT f) : Nat) : Int)), .int (zI ((2 : Nat) : Int)), .int (zI x3)]) (rest := []) hSf (c_setField l D k h0 c0 (upZ (upZ f (36 + 8 * (nT f) + 0) x1) (36 + 8 * (nT f) + 1) x2) (nT f) 2 x3 (by omega) (by omega)) gX7_add_X7_setField rfl (by decide +kernel) ⟨Nat.le_of_ble_eq_true rfl, Nat.le_of_ble_eq_true rfl⟩ hK hP hD hS [0, 1] rfl rfl (by decide) (fun _ => rfl) (fun _ => rfl) 0 rfl rfl rfl hl.1 (by rw [show zI (f 0) = zI (((nT f) : Nat) : Int) from zc (by omega)]; rw [show zI 2 = zI ((2 : Nat) : Int) from zc (by omega)]; rfl) (Nat.le_of_ble_eq_true rfl) dX7_add_29 ⟨Nat.zero_le _, Nat.zero_le _⟩ (fun u_29 H locs h_29 hP hD hS => ?_)
  have hP : va_P D vwCl [(h0, .inr (7, [.ref c0])), (c0, .inl (k.1, 132, .inl (zF (upZ (upZ (upZ f (36 + 8 * (nT f) + 0) x1) (36 + 8 * (nT f) + 1) x2) (36 + 8 * (nT f) + 2) x3))))] H := hP
  have hD : va_D A [(h0, .inr (7, [.ref c0])), (c0, .inl (k.1, 132, .inl (zF (upZ (upZ (upZ f (36 + 8 * (nT f) + 0) x1) (36 + 8 * (nT f) + 1) x2) (36 + 8 * (nT f) + 2) x3))))] := hD
  refine lv_aload_n hx hb dX7_add_32 rfl (lv_at hl 1 rfl) ?_
  refine lv_iload hx hb dX7_add_33 (lv_at hl 0 rfl) ?_
  refine z_iconst hx hb dX7_add_35 ?_
  refine lv_iload hx hb dX7_add_36 (lv_at hl 5 rfl) ?_
  refine muV (n := 3) (As := [.int (zI (((nT f) : Nat) : Int)), .int (zI ((3 : Nat) : Int)), .int (zI x4)]) (rest := []) hSf (c_setField l D k h0 c0 (upZ (upZ (upZ f (36 + 8 * (nT f) + 0) x1) (36 + 8 * (nT f) + 1) x2) (36 + 8 * (nT f) + 2) x3) (nT f) 3 x4 (by omega) (by omega)) gX7_add_X7_setField rfl (by decide +kernel) ⟨Nat.le_of_ble_eq_true rfl, Nat.le_of_ble_eq_true rfl⟩ hK hP hD hS [0, 1] rfl rfl (by decide) (fun _ => rfl) (fun _ => rfl) 0 rfl rfl rfl hl.1 (by rw [show zI (f 0) = zI (((nT f) : Nat) : Int) from zc (by omega)]; rw [show zI 3 = zI ((3 : Nat) : Int) from zc (by omega)]; rfl) (Nat.le_of_ble_eq_true rfl) dX7_add_38 ⟨Nat.zero_le _, Nat.zero_le _⟩ (fun u_38 H locs h_38 hP hD hS => ?_)
  have hP : va_P D vwCl [(h0, .inr (7, [.ref c0])), (c0, .inl (k.1, 132, .inl (zF (upZ (upZ (upZ (upZ f (36 + 8 * (nT f) + 0) x1) (36 + 8 * (nT f) + 1) x2) (36 + 8 * (nT f) + 2) x3) (36 + 8 * (nT f) + 3) x4))))] H := hP
  have hD : va_D A [(h0, .inr (7, [.ref c0])), (c0, .inl (k.1, 132, .inl (zF (upZ (upZ (upZ (upZ f (36 + 8 * (nT f) + 0) x1) (36 + 8 * (nT f) + 1) x2) (36 + 8 * (nT f) + 2) x3) (36 + 8 * (nT f) + 3) x4))))] := hD
  refine lv_aload_n hx hb dX7_add_41 rfl (lv_at hl 1 rfl) ?_
  refine lv_iload hx hb dX7_add_42 (lv_at hl 0 rfl) ?_
  refine z_iconst hx hb dX7_add_44 ?_
  refine lv_iload hx hb dX7_add_45 (lv_at hl 6 rfl) ?_
  refine muV (n := 3) (As := [.int (zI (((nT f) : Nat) : Int)), .int (zI ((4 : Nat) : Int)), .int (zI x5)]) (rest := []) hSf (c_setField l D k h0 c0 (upZ (upZ (upZ (upZ f (36 + 8 * (nT f) + 0) x1) (36 + 8 * (nT f) + 1) x2) (36 + 8 * (nT f) + 2) x3) (36 + 8 * (nT f) + 3) x4) (nT f) 4 x5 (by omega) (by omega)) gX7_add_X7_setField rfl (by decide +kernel) ⟨Nat.le_of_ble_eq_true rfl, Nat.le_of_ble_eq_true rfl⟩ hK hP hD hS [0, 1] rfl rfl (by decide) (fun _ => rfl) (fun _ => rfl) 0 rfl rfl rfl hl.1 (by rw [show zI (f 0) = zI (((nT f) : Nat) : Int) from zc (by omega)]; rw [show zI 4 = zI ((4 : Nat) : Int) from zc (by omega)]; rfl) (Nat.le_of_ble_eq_true rfl) dX7_add_47 ⟨Nat.zero_le _, Nat.zero_le _⟩ (fun u_47 H locs h_47 hP hD hS => ?_)
  have hP : va_P D vwCl [(h0, .inr (7, [.ref c0])), (c0, .inl (k.1, 132, .inl (zF (upZ (upZ (upZ (upZ (upZ f (36 + 8 * (nT f) + 0) x1) (36 + 8 * (nT f) + 1) x2) (36 + 8 * (nT f) + 2) x3) (36 + 8 * (nT f) + 3) x4) (36 + 8 * (nT f) + 4) x5))))] H := hP
  have hD : va_D A [(h0, .inr (7, [.ref c0])), (c0, .inl (k.1, 132, .inl (zF (upZ (upZ (upZ (upZ (upZ f (36 + 8 * (nT f) + 0) x1) (36 + 8 * (nT f) + 1) x2) (36 + 8 * (nT f) + 2) x3) (36 + 8 * (nT f) + 3) x4) (36 + 8 * (nT f) + 4) x5))))] := hD
  refine lv_aload_n hx hb dX7_add_50 rfl (lv_at hl 1 rfl) ?_
  refine lv_iload hx hb dX7_add_51 (lv_at hl 0 rfl) ?_
  refine z_iconst hx hb dX7_add_53 ?_
  refine lv_iload hx hb dX7_add_54 (lv_at hl 7 rfl) ?_
  refine muV (n := 3) (As := [.int (zI (((nT f) : Nat) : Int)), .int (zI ((5 : Nat) : Int)), .int (zI x6)]) (rest := []) hSf (c_setField l D k h0 c0 (upZ (upZ (upZ (upZ (upZ f (36 + 8 * (nT f) + 0) x1) (36 + 8 * (nT f) + 1) x2) (36 + 8 * (nT f) + 2) x3) (36 + 8 * (nT f) + 3) x4) (36 + 8 * (nT f) + 4) x5) (nT f) 5 x6 (by omega) (by omega)) gX7_add_X7_setField rfl (by decide +kernel) ⟨Nat.le_of_ble_eq_true rfl, Nat.le_of_ble_eq_true rfl⟩ hK hP hD hS [0, 1] rfl rfl (by decide) (fun _ => rfl) (fun _ => rfl) 0 rfl rfl rfl hl.1 (by rw [show zI (f 0) = zI (((nT f) : Nat) : Int) from zc (by omega)]; rw [show zI 5 = zI ((5 : Nat) : Int) from zc (by omega)]; rfl) (Nat.le_of_ble_eq_true rfl) dX7_add_56 ⟨Nat.zero_le _, Nat.zero_le _⟩ (fun u_56 H locs h_56 hP hD hS => ?_)
  have hP : va_P D vwCl [(h0, .inr (7, [.ref c0])), (c0, .inl (k.1, 132, .inl (zF (upZ (upZ (upZ (upZ (upZ (upZ f (36 + 8 * (nT f) + 0) x1) (36 + 8 * (nT f) + 1) x2) (36 + 8 * (nT f) + 2) x3) (36 + 8 * (nT f) + 3) x4) (36 + 8 * (nT f) + 4) x5) (36 + 8 * (nT f) + 5) x6))))] H := hP
  have hD : va_D A [(h0, .inr (7, [.ref c0])), (c0, .inl (k.1, 132, .inl (zF (upZ (upZ (upZ (upZ (upZ (upZ f (36 + 8 * (nT f) + 0) x1) (36 + 8 * (nT f) + 1) x2) (36 + 8 * (nT f) + 2) x3) (36 + 8 * (nT f) + 3) x4) (36 + 8 * (nT f) + 4) x5) (36 + 8 * (nT f) + 5) x6))))] := hD
  refine lv_aload_n hx hb dX7_add_59 rfl (lv_at hl 1 rfl) ?_
  refine lv_iload hx hb dX7_add_60 (lv_at hl 0 rfl) ?_
  refine z_bipush hx hb dX7_add_62 (by decide +kernel) ?_
  refine z_iconst hx hb dX7_add_64 ?_
  refine muV (n := 3) (As := [.int (zI (((nT f) : Nat) : Int)), .int (zI ((6 : Nat) : Int)), .int (zI 0)]) (rest := []) hSf (c_setField l D k h0 c0 (upZ (upZ (upZ (upZ (upZ (upZ f (36 + 8 * (nT f) + 0) x1) (36 + 8 * (nT f) + 1) x2) (36 + 8 * (nT f) + 2) x3) (36 + 8 * (nT f) + 3) x4) (36 + 8 * (nT f) + 4) x5) (36 + 8 * (nT f) + 5) x6) (nT f) 6 0 (by omega) (by omega)) gX7_add_X7_setField rfl (by decide +kernel) ⟨Nat.le_of_ble_eq_true rfl, Nat.le_of_ble_eq_true rfl⟩ hK hP hD hS [0, 1] rfl rfl (by decide) (fun _ => rfl) (fun _ => rfl) 0 rfl rfl rfl hl.1 (by rw [show zI (f 0) = zI (((nT f) : Nat) : Int) from zc (by omega)]; rw [show zI 6 = zI ((6 : Nat) : Int) from zc (by omega)]; rfl) (Nat.le_of_ble_eq_true rfl) dX7_add_65 ⟨Nat.zero_le _, Nat.zero_le _⟩ (fun u_65 H locs h_65 hP hD hS => ?_)
  have hP : va_P D vwCl [(h0, .inr (7, [.ref c0])), (c0, .inl (k.1, 132, .inl (zF (upZ (upZ (upZ (upZ (upZ (upZ (upZ f (36 + 8 * (nT f) + 0) x1) (36 + 8 * (nT f) + 1) x2) (36 + 8 * (nT f) + 2) x3) (36 + 8 * (nT f) + 3) x4) (36 + 8 * (nT f) + 4) x5) (36 + 8 * (nT f) + 5) x6) (36 + 8 * (nT f) + 6) 0))))] H := hP
  have hD : va_D A [(h0, .inr (7, [.ref c0])), (c0, .inl (k.1, 132, .inl (zF (upZ (upZ (upZ (upZ (upZ (upZ (upZ f (36 + 8 * (nT f) + 0) x1) (36 + 8 * (nT f) + 1) x2) (36 + 8 * (nT f) + 2) x3) (36 + 8 * (nT f) + 3) x4) (36 + 8 * (nT f) + 4) x5) (36 + 8 * (nT f) + 5) x6) (36 + 8 * (nT f) + 6) 0))))] := hD
  refine lv_aload_n hx hb dX7_add_68 rfl (lv_at hl 1 rfl) ?_
  refine lv_iload hx hb dX7_add_69 (lv_at hl 0 rfl) ?_
  refine z_bipush hx hb dX7_add_71 (by decide +kernel) ?_
  refine z_iconst hx hb dX7_add_73 ?_
  refine muV (n := 3) (As := [.int (zI (((nT f) : Nat) : Int)), .int (zI ((7 : Nat) : Int)), .int (zI 0)]) (rest := []) hSf (c_setField l D k h0 c0 (upZ (upZ (upZ (upZ (upZ (upZ (upZ f (36 + 8 * (nT f) + 0) x1) (36 + 8 * (nT f) + 1) x2) (36 + 8 * (nT f) + 2) x3) (36 + 8 * (nT f) + 3) x4) (36 + 8 * (nT f) + 4) x5) (36 + 8 * (nT f) + 5) x6) (36 + 8 * (nT f) + 6) 0) (nT f) 7 0 (by omega) (by omega)) gX7_add_X7_setField rfl (by decide +kernel) ⟨Nat.le_of_ble_eq_true rfl, Nat.le_of_ble_eq_true rfl⟩ hK hP hD hS [0, 1] rfl rfl (by decide) (fun _ => rfl) (fun _ => rfl) 0 rfl rfl rfl hl.1 (by rw [show zI (f 0) = zI (((nT f) : Nat) : Int) from zc (by omega)]; rw [show zI 7 = zI ((7 : Nat) : Int) from zc (by omega)]; rfl) (Nat.le_of_ble_eq_true rfl) dX7_add_74 ⟨Nat.zero_le _, Nat.zero_le _⟩ (fun u_74 H locs h_74 hP hD hS => ?_)
  have hP : va_P D vwCl [(h0, .inr (7, [.ref c0])), (c0, .inl (k.1, 132, .inl (zF (upZ (upZ (upZ (upZ (upZ (upZ (upZ (upZ f (36 + 8 * (nT f) + 0) x1) (36 + 8 * (nT f) + 1) x2) (36 + 8 * (nT f) + 2) x3) (36 + 8 * (nT f) + 3) x4) (36 + 8 * (nT f) + 4) x5) (36 + 8 * (nT f) + 5) x6) (36 + 8 * (nT f) + 6) 0) (36 + 8 * (nT f) + 7) 0))))] H := hP
  have hD : va_D A [(h0, .inr (7, [.ref c0])), (c0, .inl (k.1, 132, .inl (zF (upZ (upZ (upZ (upZ (upZ (upZ (upZ (upZ f (36 + 8 * (nT f) + 0) x1) (36 + 8 * (nT f) + 1) x2) (36 + 8 * (nT f) + 2) x3) (36 + 8 * (nT f) + 3) x4) (36 + 8 * (nT f) + 4) x5) (36 + 8 * (nT f) + 5) x6) (36 + 8 * (nT f) + 6) 0) (36 + 8 * (nT f) + 7) 0))))] := hD
  refine lv_aload_n hx hb dX7_add_77 rfl (lv_at hl 1 rfl) ?_
  refine va_get (D := D) (ci := 7) (v := .ref c0) (C := RX7) (T := TX7) (N := 1) hx hb hts hinX7 hown hK.1 hP 0 rfl rfl 0 (by decide) fl11 (fun _ h9 => h9) rfl dX7_add_78 ?_
  refine z_iconst hx hb dX7_add_81 ?_
  refine lv_iload hx hb dX7_add_82 (lv_at hl 0 rfl) ?_
  refine z_iconst hx hb dX7_add_84 ?_
  refine z_iadd hx hb dX7_add_85 ?_
  refine z_ast hx hb hK hP hD hS 1 rfl (0) (by omega) (by omega) (Nat.le_of_ble_eq_true rfl) dX7_add_86 (fun H locs hP hD hS => ?_)
  have hP : va_P D vwCl [(h0, .inr (7, [.ref c0])), (c0, .inl (k.1, 132, .inl (zF (upZ (upZ (upZ (upZ (upZ (upZ (upZ (upZ (upZ f (36 + 8 * (nT f) + 0) x1) (36 + 8 * (nT f) + 1) x2) (36 + 8 * (nT f) + 2) x3) (36 + 8 * (nT f) + 3) x4) (36 + 8 * (nT f) + 4) x5) (36 + 8 * (nT f) + 5) x6) (36 + 8 * (nT f) + 6) 0) (36 + 8 * (nT f) + 7) 0) 0 ((f 0) + 1)))))] H := hP
  have hD : va_D A [(h0, .inr (7, [.ref c0])), (c0, .inl (k.1, 132, .inl (zF (upZ (upZ (upZ (upZ (upZ (upZ (upZ (upZ (upZ f (36 + 8 * (nT f) + 0) x1) (36 + 8 * (nT f) + 1) x2) (36 + 8 * (nT f) + 2) x3) (36 + 8 * (nT f) + 3) x4) (36 + 8 * (nT f) + 4) x5) (36 + 8 * (nT f) + 5) x6) (36 + 8 * (nT f) + 6) 0) (36 + 8 * (nT f) + 7) 0) 0 ((f 0) + 1)))))] := hD
  refine lv_iload hx hb dX7_add_87 (lv_at hl 0 rfl) ?_
  exact W.iret hx hb hr (fun t ht hW => ⟨⟨_, (), rfl, ⟨rfl, trivial⟩, by show va_P D vwCl _ _; rw [ht]; exact hP⟩, hS.F ht⟩) hS.2.2 dX7_add_89
set_option maxHeartbeats 4000000 in
set_option maxRecDepth 100000 in
theorem c_removeThing (l : Launch) (D : va_G) (k : Kt) (h0 : Nat) (c0 : Nat) (f : St) (B : Int) (hV : Va B f) (t1 : Nat) (ht1 : t1 < nT f) : MU l D k yX7_removeThing wsX7_removeThing 1 40 [.ref h0, .int (zI ((t1 : Nat) : Int))] [(h0, .inr (7, [.ref c0])), (c0, .inl (k.1, 132, .inl (zF f)))] (fun (u : Unit) => True) (fun u => [(h0, .inr (7, [.ref c0])), (c0, .inl (k.1, 132, .inl (zF (takeC f t1))))]) := by
  refine Met.ofW (cc := cX7_removeThing) (maxL := 4) (ret := none) (by decide) rfl ?_
  intro p e s m args below meth c s₁ Bd hml hv
  obtain ⟨rfl, hP, hK, hD0⟩ := hv
  have hx := Bd.exec
  have hb := Bd.bytes
  have hr := Bd.returns
  have hts := atoms_spec (ws := wsX7_removeThing) Bd.pre
  have hown : s.vm.findClass RX7 = some m.cls := findClass_of_methodNamed Bd.named
  have hlocks := Bd.notSynchronized
  have hSf : CallFix p m c cX7_removeThing 4 s ([.ref h0, .int (zI ((t1 : Nat) : Int))] : List Value).toArray wsX7_removeThing RX7 := ⟨hx, hb, hml, hown, hts⟩
  have hD := fA_D hD0
  have hS : va_S (fA [(h0, .inr (7, [.ref c0])), (c0, .inl (k.1, 132, .inl (zF f)))]) s.heap s.heap [] := va_S.rf
  generalize hAe : fA [(h0, .inr (7, [.ref c0])), (c0, .inl (k.1, 132, .inl (zF f)))] = A at hD hS ⊢
  have hP : va_P D vwCl [(h0, .inr (7, [.ref c0])), (c0, .inl (k.1, 132, .inl (zF f)))] s.heap := hP
  have hinX7 : ∀ w ∈ u_ws RX7 TX7 1, w ∈ wsX7_removeThing := by decide +kernel
  have fl11 := hts (.fieldLink RX7 11 "DotObjects$Scene" "cells" "[I") (by decide +kernel)
  have hac := And.intro (hts (.methodLink RX7 15 arraycopyName) (by decide +kernel)) (And.intro (hts (.native arraycopyName) (by decide +kernel)) (And.intro (hts (.static arraycopyName) (by decide +kernel)) (hts (.initialized "java/lang/System") (by decide +kernel))))
  have hl := lv_entry ([.ref h0, .int (zI ((t1 : Nat) : Int))]) (n := 4) (Nat.le_of_ble_eq_true rfl)
  rw [lg_entry_eq]
  generalize (lg_sl ([.ref h0, .int (zI ((t1 : Nat) : Int))]) ++ List.replicate (4 - (lg_sl ([.ref h0, .int (zI ((t1 : Nat) : Int))])).length) Slot.unset).toArray = ls at hl ⊢
  have hl : lv_has ls 4 [(0, .ref h0), (1, .int (zI ((t1 : Nat) : Int)))] := hl
  have hn := hV.n
  have hv := hV.1
  refine z_bipush hx hb dX7_removeThing_0 (by decide +kernel) ?_
  refine lv_iload_n hx hb dX7_removeThing_2 rfl (lv_at hl 1 rfl) ?_
  refine z_bipush hx hb dX7_removeThing_3 (by decide +kernel) ?_
  refine z_imul hx hb dX7_removeThing_5 ?_
  refine z_iadd hx hb dX7_removeThing_6 ?_
  refine lv_istore_n (lv' := [(2, .int (zI (36 + (((t1 : Nat) : Int) * 8)))), (0, .ref h0), (1, .int (zI ((t1 : Nat) : Int)))]) hx hb dX7_removeThing_7 rfl hl (by decide) rfl (fun ls hl => ?_)
  refine lv_aload_n hx hb dX7_removeThing_8 rfl (lv_at hl 1 rfl) ?_
  refine va_get (D := D) (ci := 7) (v := .ref c0) (C := RX7) (T := TX7) (N := 1) hx hb hts hinX7 hown hK.1 hP 0 rfl rfl 0 (by decide) fl11 (fun _ h9 => h9) rfl dX7_removeThing_9 ?_
  refine z_iconst hx hb dX7_removeThing_12 ?_
  refine z_ald hx hb hK hP 1 rfl (0) (by omega) (by omega) (Nat.le_of_ble_eq_true rfl) dX7_removeThing_13 ?_
  refine z_iconst hx hb dX7_removeThing_14 ?_
  refine z_isub hx hb dX7_removeThing_15 ?_
  refine lv_iload_n hx hb dX7_removeThing_16 rfl (lv_at hl 2 rfl) ?_
  refine z_isub hx hb dX7_removeThing_17 ?_
  refine lv_istore_n (lv' := [(3, .int (zI (((f 0) - 1) - ((t1 : Nat) : Int)))), (2, .int (zI (36 + (((t1 : Nat) : Int) * 8)))), (0, .ref h0), (1, .int (zI ((t1 : Nat) : Int)))]) hx hb dX7_removeThing_18 rfl hl (by decide) rfl (fun ls hl => ?_)
  refine lv_aload_n hx hb dX7_removeThing_19 rfl (lv_at hl 2 rfl) ?_
  refine va_get (D := D) (ci := 7) (v := .ref c0) (C := RX7) (T := TX7) (N := 1) hx hb hts hinX7 hown hK.1 hP 0 rfl rfl 0 (by decide) fl11 (fun _ h9 => h9) rfl dX7_removeThing_20 ?_
  refine lv_iload_n hx hb dX7_removeThing_23 rfl (lv_at hl 1 rfl) ?_
  refine z_bipush hx hb dX7_removeThing_24 (by decide +kernel) ?_
  refine z_iadd hx hb dX7_removeThing_26 ?_
  refine lv_aload_n hx hb dX7_removeThing_27 rfl (lv_at hl 2 rfl) ?_
  refine va_get (D := D) (ci := 7) (v := .ref c0) (C := RX7) (T := TX7) (N := 1) hx hb hts hinX7 hown hK.1 hP 0 rfl rfl 0 (by decide) fl11 (fun _ h9 => h9) rfl dX7_removeThing_28 ?_
  refine lv_iload_n hx hb dX7_removeThing_31 rfl (lv_at hl 1 rfl) ?_
  refine lv_iload_n hx hb dX7_removeThing_32 rfl (lv_at hl 0 rfl) ?_
  refine z_bipush hx hb dX7_removeThing_33 (by decide +kernel) ?_
  refine z_imul hx hb dX7_removeThing_35 ?_
  refine z_copy hx hb (hml.trans hl.1.symm) hown hac.1 hac.2.1 hac.2.2.1 hac.2.2.2 hK hP hD hS 1 1 rfl rfl (36 + 8 * t1 + 8) (36 + 8 * t1) (8 * (nT f - 1 - t1)) (by omega) (by omega) (by omega) (by omega) (by omega) (by decide) (by decide) (Nat.le_of_ble_eq_true rfl) (by decide) dX7_removeThing_36 (fun H locs hP hD hS => ?_)
  have hP : va_P D vwCl [(h0, .inr (7, [.ref c0])), (c0, .inl (k.1, 132, .inl (zF (cpZ f f (36 + 8 * t1 + 8) (36 + 8 * t1) (8 * (nT f - 1 - t1))))))] H := hP
  have hD : va_D A [(h0, .inr (7, [.ref c0])), (c0, .inl (k.1, 132, .inl (zF (cpZ f f (36 + 8 * t1 + 8) (36 + 8 * t1) (8 * (nT f - 1 - t1))))))] := hD
  refine lv_aload_n hx hb dX7_removeThing_39 rfl (lv_at hl 2 rfl) ?_
  refine va_get (D := D) (ci := 7) (v := .ref c0) (C := RX7) (T := TX7) (N := 1) hx hb hts hinX7 hown hK.1 hP 0 rfl rfl 0 (by decide) fl11 (fun _ h9 => h9) rfl dX7_removeThing_40 ?_
  refine z_iconst hx hb dX7_removeThing_43 ?_
  refine lv_dup2_11 hx hb dX7_removeThing_44 rfl rfl ?_
  refine z_ald hx hb hK hP 1 rfl (0) (by omega) (by omega) (Nat.le_of_ble_eq_true rfl) dX7_removeThing_45 ?_
  refine te (zc (show (cpZ f f (36 + 8 * t1 + 8) (36 + 8 * t1) (8 * (nT f - 1 - t1))) 0 = f 0 from by rw [cpZ_out (by omega)])) ?_
  refine z_iconst hx hb dX7_removeThing_46 ?_
  refine z_isub hx hb dX7_removeThing_47 ?_
  refine z_ast hx hb hK hP hD hS 1 rfl (0) (by omega) (by omega) (Nat.le_of_ble_eq_true rfl) dX7_removeThing_48 (fun H locs hP hD hS => ?_)
  have hP : va_P D vwCl [(h0, .inr (7, [.ref c0])), (c0, .inl (k.1, 132, .inl (zF (upZ (cpZ f f (36 + 8 * t1 + 8) (36 + 8 * t1) (8 * (nT f - 1 - t1))) 0 ((f 0) - 1)))))] H := hP
  have hD : va_D A [(h0, .inr (7, [.ref c0])), (c0, .inl (k.1, 132, .inl (zF (upZ (cpZ f f (36 + 8 * t1 + 8) (36 + 8 * t1) (8 * (nT f - 1 - t1))) 0 ((f 0) - 1)))))] := hD
  exact W.vret hx hb hr (fun t ht hW => ⟨⟨(), rfl, trivial, by show va_P D vwCl _ _; rw [ht]; exact hP⟩, hS.F ht⟩) hS.2.2 dX7_removeThing_49
set_option maxHeartbeats 4000000 in
set_option maxRecDepth 100000 in
theorem c_goNextFrame (l : Launch) (D : va_G) (k : Kt) (h0 : Nat) (c0 : Nat) (f : St) (B : Int) (hV : Va B f) (hB : B < 1000000) : MU l D k yX7_goNextFrame wsX7_goNextFrame 2 43 [.ref h0] [(h0, .inr (7, [.ref c0])), (c0, .inl (k.1, 132, .inl (zF f)))] (fun (u : Unit) => True) (fun u => [(h0, .inr (7, [.ref c0])), (c0, .inl (k.1, 132, .inl (zF (nextZ f))))]) := by
  refine Met.ofW (cc := cX7_goNextFrame) (maxL := 2) (ret := none) (by decide) rfl ?_
  intro p e s m args below meth c s₁ Bd hml hv
  obtain ⟨rfl, hP, hK, hD0⟩ := hv
  have hx := Bd.exec
  have hb := Bd.bytes
  have hr := Bd.returns
  have hts := atoms_spec (ws := wsX7_goNextFrame) Bd.pre
  have hown : s.vm.findClass RX7 = some m.cls := findClass_of_methodNamed Bd.named
  have hlocks := Bd.notSynchronized
  have hSf : CallFix p m c cX7_goNextFrame 2 s ([.ref h0] : List Value).toArray wsX7_goNextFrame RX7 := ⟨hx, hb, hml, hown, hts⟩
  have hD := fA_D hD0
  have hS : va_S (fA [(h0, .inr (7, [.ref c0])), (c0, .inl (k.1, 132, .inl (zF f)))]) s.heap s.heap [] := va_S.rf
  generalize hAe : fA [(h0, .inr (7, [.ref c0])), (c0, .inl (k.1, 132, .inl (zF f)))] = A at hD hS ⊢
  have hP : va_P D vwCl [(h0, .inr (7, [.ref c0])), (c0, .inl (k.1, 132, .inl (zF f)))] s.heap := hP
  have hinX7 : ∀ w ∈ u_ws RX7 TX7 1, w ∈ wsX7_goNextFrame := by decide +kernel
  have fl11 := hts (.fieldLink RX7 11 "DotObjects$Scene" "cells" "[I") (by decide +kernel)
  have hl := lv_entry ([.ref h0]) (n := 2) (Nat.le_of_ble_eq_true rfl)
  rw [lg_entry_eq]
  generalize (lg_sl ([.ref h0]) ++ List.replicate (2 - (lg_sl ([.ref h0])).length) Slot.unset).toArray = ls at hl ⊢
  have hl : lv_has ls 2 [(0, .ref h0)] := hl
  have hn := hV.n
  have hv0 := hV.1
  refine lv_aload_n hx hb dX7_goNextFrame_0 rfl (lv_at hl 0 rfl) ?_
  refine va_get (D := D) (ci := 7) (v := .ref c0) (C := RX7) (T := TX7) (N := 1) hx hb hts hinX7 hown hK.1 hP 0 rfl rfl 0 (by decide) fl11 (fun _ h9 => h9) rfl dX7_goNextFrame_1 ?_
  refine z_iconst hx hb dX7_goNextFrame_4 ?_
  refine lv_dup2_11 hx hb dX7_goNextFrame_5 rfl rfl ?_
  refine z_ald hx hb hK hP 1 rfl (3) (by omega) (by omega) (Nat.le_of_ble_eq_true rfl) dX7_goNextFrame_6 ?_
  refine z_iconst hx hb dX7_goNextFrame_7 ?_
  refine z_iadd hx hb dX7_goNextFrame_8 ?_
  refine z_ast hx hb hK hP hD hS 1 rfl (3) (by omega) (by omega) (Nat.le_of_ble_eq_true rfl) dX7_goNextFrame_9 (fun H locs hP hD hS => ?_)
  have hP : va_P D vwCl [(h0, .inr (7, [.ref c0])), (c0, .inl (k.1, 132, .inl (zF (upZ f 3 ((f 3) + 1)))))] H := hP
  have hD : va_D A [(h0, .inr (7, [.ref c0])), (c0, .inl (k.1, 132, .inl (zF (upZ f 3 ((f 3) + 1)))))] := hD
  refine z_iconst hx hb dX7_goNextFrame_10 ?_
  refine lv_istore_n (lv' := [(1, .int (zI 0)), (0, .ref h0)]) hx hb dX7_goNextFrame_11 rfl hl (by decide) rfl (fun ls hl => ?_)
  have L12 : ∀ (NN12 : Nat), ∀ (j : Nat), (j ≤ nT f) → nT f - j < NN12 → ∀ (H : Heap) (locs : List Loc), va_P D vwCl [(h0, .inr (7, [.ref c0])), (c0, .inl (k.1, 132, .inl (zF (nz f j))))] H → va_D A [(h0, .inr (7, [.ref c0])), (c0, .inl (k.1, 132, .inl (zF (nz f j))))] → va_S A s.heap H locs → ∀ (ls : Array Slot), lv_has ls 2 [(0, .ref h0), (1, .int (zI ((j : Nat) : Int)))] → W p l e (headSpec wsX7_goNextFrame { frames := 2, cells := 0, slots := 0, locals := 43 }).room s m ([.ref h0] : List Value).toArray below meth c H locs 0 0 (MQ below (va_Qv (fun (u : Unit) => True) (fun (u : Unit) t => va_P D vwCl [(h0, .inr (7, [.ref c0])), (c0, .inl (k.1, 132, .inl (zF (nextZ f))))] t.heap) A) ([.ref h0] : List Value).toArray s 0 0 A) (F0 m 12 ls []) := by
    intro NN12
    induction NN12 with
    | zero => intro j _ hN; exact absurd hN (Nat.not_lt_zero _)
    | succ NN12 ih12 =>
      intro j hj hN H locs hP hD hS ls hl
      refine lv_iload_n hx hb dX7_goNextFrame_12 rfl (lv_at hl 1 rfl) ?_
      refine lv_aload_n hx hb dX7_goNextFrame_13 rfl (lv_at hl 0 rfl) ?_
      refine va_get (D := D) (ci := 7) (v := .ref c0) (C := RX7) (T := TX7) (N := 1) hx hb hts hinX7 hown hK.1 hP 0 rfl rfl 0 (by decide) fl11 (fun _ h9 => h9) rfl dX7_goNextFrame_14 ?_
      refine z_iconst hx hb dX7_goNextFrame_17 ?_
      refine z_ald hx hb hK hP 1 rfl (0) (by omega) (by omega) (Nat.le_of_ble_eq_true rfl) dX7_goNextFrame_18 ?_
      refine te (zc (show (nz f j) 0 = f 0 from nz_c f j 0 (by decide))) ?_
      refine z_icmp_ge (tgt := 78) hx hb dX7_goNextFrame_19 (by decide) (by omega) (by omega) (fun c_19 => ?_) (fun c_19 => ?_)
      · obtain rfl : j = nT f := by omega
        exact W.vret hx hb hr (fun t ht hW => ⟨⟨(), rfl, trivial, by show va_P D vwCl _ _; rw [ht]; exact hP⟩, hS.F ht⟩) hS.2.2 dX7_goNextFrame_78
      · have hv := hV.t (t := j) (by omega)
        refine lv_aload_n hx hb dX7_goNextFrame_22 rfl (lv_at hl 0 rfl) ?_
        refine lv_iload_n hx hb dX7_goNextFrame_23 rfl (lv_at hl 1 rfl) ?_
        refine z_iconst hx hb dX7_goNextFrame_24 ?_
        refine lv_aload_n hx hb dX7_goNextFrame_25 rfl (lv_at hl 0 rfl) ?_
        refine lv_iload_n hx hb dX7_goNextFrame_26 rfl (lv_at hl 1 rfl) ?_
        refine z_iconst hx hb dX7_goNextFrame_27 ?_
        refine roV (n := 2) (As := [.int (zI ((j : Nat) : Int)), .int (zI ((0 : Nat) : Int))]) (rest := [.int (zI 0), .int (zI ((j : Nat) : Int)), .ref h0]) hSf (c_field l D k h0 c0 (nz f j) j 0 (by omega) (by omega)) gX7_goNextFrame_X7_field rfl (by decide +kernel) ⟨Nat.le_of_ble_eq_true rfl, Nat.le_of_ble_eq_true rfl⟩ hK hP [0, 1] rfl 0 rfl rfl rfl hl.1 (by rw [show zI 0 = zI ((0 : Nat) : Int) from zc (by omega)]; rfl) (Nat.le_of_ble_eq_true rfl) dX7_goNextFrame_28 ⟨Nat.zero_le _, Nat.zero_le _⟩ (fun r_28 h_28 => ?_)
        subst h_28
        refine te (zc (show th (nz f j) j 0 = th f j 0 from nz_th (by decide) (Or.inl (Nat.le_refl _)))) ?_
        refine lv_aload_n hx hb dX7_goNextFrame_31 rfl (lv_at hl 0 rfl) ?_
        refine lv_iload_n hx hb dX7_goNextFrame_32 rfl (lv_at hl 1 rfl) ?_
        refine z_bipush hx hb dX7_goNextFrame_33 (by decide +kernel) ?_
        refine roV (n := 2) (As := [.int (zI ((j : Nat) : Int)), .int (zI ((6 : Nat) : Int))]) (rest := [.int (zI (th f j 0)), .int (zI 0), .int (zI ((j : Nat) : Int)), .ref h0]) hSf (c_field l D k h0 c0 (nz f j) j 6 (by omega) (by omega)) gX7_goNextFrame_X7_field rfl (by decide +kernel) ⟨Nat.le_of_ble_eq_true rfl, Nat.le_of_ble_eq_true rfl⟩ hK hP [0, 1] rfl 0 rfl rfl rfl hl.1 (by rw [show zI 6 = zI ((6 : Nat) : Int) from zc (by omega)]; rfl) (Nat.le_of_ble_eq_true rfl) dX7_goNextFrame_35 ⟨Nat.zero_le _, Nat.zero_le _⟩ (fun r_35 h_35 => ?_)
        subst h_35
        refine te (zc (show th (nz f j) j 6 = th f j 6 from nz_th (by decide) (Or.inl (Nat.le_refl _)))) ?_
        refine z_iadd hx hb dX7_goNextFrame_38 ?_
        refine z_bipush hx hb dX7_goNextFrame_39 (by decide +kernel) ?_
        refine roS (n := 2) (As := [.int (zI (th f j 0 + th f j 6)), .int (zI 40)]) (rest := [.int (zI 0), .int (zI ((j : Nat) : Int)), .ref h0]) hSf (c_wrapped l D k (th f j 0 + th f j 6) 40 (by omega) (by omega)) gX7_goNextFrame_X7_wrapped rfl (by decide +kernel) ⟨Nat.le_of_ble_eq_true rfl, Nat.le_of_ble_eq_true rfl⟩ hK hP [] rfl rfl hl.1 rfl (Nat.le_of_ble_eq_true rfl) dX7_goNextFrame_41 ⟨Nat.zero_le _, Nat.zero_le _⟩ (fun r_41 h_41 => ?_)
        subst h_41
        refine te (zc (show ((th f j 0 + th f j 6) + 8) % 40 - 8 = gx f j from rfl)) ?_
        refine muV (n := 3) (As := [.int (zI ((j : Nat) : Int)), .int (zI ((0 : Nat) : Int)), .int (zI (gx f j))]) (rest := []) hSf (c_setField l D k h0 c0 (nz f j) j 0 (gx f j) (by omega) (by omega)) gX7_goNextFrame_X7_setField rfl (by decide +kernel) ⟨Nat.le_of_ble_eq_true rfl, Nat.le_of_ble_eq_true rfl⟩ hK hP hD hS [0, 1] rfl rfl (by decide) (fun _ => rfl) (fun _ => rfl) 0 rfl rfl rfl hl.1 (by rw [show zI 0 = zI ((0 : Nat) : Int) from zc (by omega)]; rfl) (Nat.le_of_ble_eq_true rfl) dX7_goNextFrame_44 ⟨Nat.zero_le _, Nat.zero_le _⟩ (fun u_44 H locs h_44 hP hD hS => ?_)
        have hP : va_P D vwCl [(h0, .inr (7, [.ref c0])), (c0, .inl (k.1, 132, .inl (zF (upZ (nz f j) (36 + 8 * j + 0) (gx f j)))))] H := hP
        have hD : va_D A [(h0, .inr (7, [.ref c0])), (c0, .inl (k.1, 132, .inl (zF (upZ (nz f j) (36 + 8 * j + 0) (gx f j)))))] := hD
        refine lv_aload_n hx hb dX7_goNextFrame_47 rfl (lv_at hl 0 rfl) ?_
        refine lv_iload_n hx hb dX7_goNextFrame_48 rfl (lv_at hl 1 rfl) ?_
        refine z_iconst hx hb dX7_goNextFrame_49 ?_
        refine lv_aload_n hx hb dX7_goNextFrame_50 rfl (lv_at hl 0 rfl) ?_
        refine lv_iload_n hx hb dX7_goNextFrame_51 rfl (lv_at hl 1 rfl) ?_
        refine z_iconst hx hb dX7_goNextFrame_52 ?_
        refine roV (n := 2) (As := [.int (zI ((j : Nat) : Int)), .int (zI ((1 : Nat) : Int))]) (rest := [.int (zI 1), .int (zI ((j : Nat) : Int)), .ref h0]) hSf (c_field l D k h0 c0 (upZ (nz f j) (36 + 8 * j + 0) (gx f j)) j 1 (by omega) (by omega)) gX7_goNextFrame_X7_field rfl (by decide +kernel) ⟨Nat.le_of_ble_eq_true rfl, Nat.le_of_ble_eq_true rfl⟩ hK hP [0, 1] rfl 0 rfl rfl rfl hl.1 (by rw [show zI 1 = zI ((1 : Nat) : Int) from zc (by omega)]; rfl) (Nat.le_of_ble_eq_true rfl) dX7_goNextFrame_53 ⟨Nat.zero_le _, Nat.zero_le _⟩ (fun r_53 h_53 => ?_)
        subst h_53
        refine te (zc (show th (upZ (nz f j) (36 + 8 * j + 0) (gx f j)) j 1 = th f j 1 from (show th (upZ (nz f j) (36 + 8 * j + 0) (gx f j)) j 1 = th (nz f j) j 1 from upZ_n (by omega)).trans (nz_th (by decide) (Or.inl (Nat.le_refl _))))) ?_
        refine lv_aload_n hx hb dX7_goNextFrame_56 rfl (lv_at hl 0 rfl) ?_
        refine lv_iload_n hx hb dX7_goNextFrame_57 rfl (lv_at hl 1 rfl) ?_
        refine z_bipush hx hb dX7_goNextFrame_58 (by decide +kernel) ?_
        refine roV (n := 2) (As := [.int (zI ((j : Nat) : Int)), .int (zI ((7 : Nat) : Int))]) (rest := [.int (zI (th f j 1)), .int (zI 1), .int (zI ((j : Nat) : Int)), .ref h0]) hSf (c_field l D k h0 c0 (upZ (nz f j) (36 + 8 * j + 0) (gx f j)) j 7 (by omega) (by omega)) gX7_goNextFrame_X7_field rfl (by decide +kernel) ⟨Nat.le_of_ble_eq_true rfl, Nat.le_of_ble_eq_true rfl⟩ hK hP [0, 1] rfl 0 rfl rfl rfl hl.1 (by rw [show zI 7 = zI ((7 : Nat) : Int) from zc (by omega)]; rfl) (Nat.le_of_ble_eq_true rfl) dX7_goNextFrame_60 ⟨Nat.zero_le _, Nat.zero_le _⟩ (fun r_60 h_60 => ?_)
        subst h_60
        refine te (zc (show th (upZ (nz f j) (36 + 8 * j + 0) (gx f j)) j 7 = th f j 7 from (show th (upZ (nz f j) (36 + 8 * j + 0) (gx f j)) j 7 = th (nz f j) j 7 from upZ_n (by omega)).trans (nz_th (by decide) (Or.inl (Nat.le_refl _))))) ?_
        refine z_iadd hx hb dX7_goNextFrame_63 ?_
        refine z_bipush hx hb dX7_goNextFrame_64 (by decide +kernel) ?_
        refine roS (n := 2) (As := [.int (zI (th f j 1 + th f j 7)), .int (zI 32)]) (rest := [.int (zI 1), .int (zI ((j : Nat) : Int)), .ref h0]) hSf (c_wrapped l D k (th f j 1 + th f j 7) 32 (by omega) (by omega)) gX7_goNextFrame_X7_wrapped rfl (by decide +kernel) ⟨Nat.le_of_ble_eq_true rfl, Nat.le_of_ble_eq_true rfl⟩ hK hP [] rfl rfl hl.1 rfl (Nat.le_of_ble_eq_true rfl) dX7_goNextFrame_66 ⟨Nat.zero_le _, Nat.zero_le _⟩ (fun r_66 h_66 => ?_)
        subst h_66
        refine te (zc (show ((th f j 1 + th f j 7) + 8) % 32 - 8 = gy f j from rfl)) ?_
        refine muV (n := 3) (As := [.int (zI ((j : Nat) : Int)), .int (zI ((1 : Nat) : Int)), .int (zI (gy f j))]) (rest := []) hSf (c_setField l D k h0 c0 (upZ (nz f j) (36 + 8 * j + 0) (gx f j)) j 1 (gy f j) (by omega) (by omega)) gX7_goNextFrame_X7_setField rfl (by decide +kernel) ⟨Nat.le_of_ble_eq_true rfl, Nat.le_of_ble_eq_true rfl⟩ hK hP hD hS [0, 1] rfl rfl (by decide) (fun _ => rfl) (fun _ => rfl) 0 rfl rfl rfl hl.1 (by rw [show zI 1 = zI ((1 : Nat) : Int) from zc (by omega)]; rfl) (Nat.le_of_ble_eq_true rfl) dX7_goNextFrame_69 ⟨Nat.zero_le _, Nat.zero_le _⟩ (fun u_69 H locs h_69 hP hD hS => ?_)
        have hP : va_P D vwCl [(h0, .inr (7, [.ref c0])), (c0, .inl (k.1, 132, .inl (zF (upZ (upZ (nz f j) (36 + 8 * j + 0) (gx f j)) (36 + 8 * j + 1) (gy f j)))))] H := hP
        have hD : va_D A [(h0, .inr (7, [.ref c0])), (c0, .inl (k.1, 132, .inl (zF (upZ (upZ (nz f j) (36 + 8 * j + 0) (gx f j)) (36 + 8 * j + 1) (gy f j)))))] := hD
        refine lv_iinc (v := zI (((j : Nat) : Int) + 1)) (lv' := [(1, .int (zI (((j : Nat) : Int) + 1))), (0, .ref h0)]) hx hb dX7_goNextFrame_72 hl (k := 1) rfl (zI_add _ _) (by decide) rfl (fun ls hl => ?_)
        refine lv_goto (tgt := 12) hx hb dX7_goNextFrame_75 (by decide) ?_
        have hl : lv_has ls 2 [(1, .int (zI (((j + 1) : Nat) : Int))), (0, .ref h0)] := lv_c (l1 := []) (l2 := [(0, .ref h0)]) hl (show ((j : Nat) : Int) + 1 = (((j + 1) : Nat) : Int) from by omega)
        exact ih12 (j + 1) (by omega) (by omega) _ _ (by rw [← nz_s]; exact hP) (by rw [← nz_s]; exact hD) hS ls (lv_sub hl [1, 0] rfl)
  have hl : lv_has ls 2 [(1, .int (zI ((0 : Nat) : Int))), (0, .ref h0)] := lv_c (l1 := []) (l2 := [(0, .ref h0)]) hl (show 0 = ((0 : Nat) : Int) from rfl)
  exact L12 _ 0 (Nat.zero_le _) (Nat.lt_succ_self _) _ _ (by rw [← nz_0]; exact hP) (by rw [← nz_0]; exact hD) hS ls (lv_sub hl [1, 0] rfl)
set_option maxHeartbeats 4000000 in
set_option maxRecDepth 100000 in
theorem c_saveTo (l : Launch) (D : va_G) (k : Kt) (h0 : Nat) (c0 : Nat) (f : St) (c1 : Nat) (g : St) : MU l D k yX7_saveTo wsX7_saveTo 1 40 [.ref h0, .ref c1] [(h0, .inr (7, [.ref c0])), (c0, .inl (k.1, 132, .inl (zF f))), (c1, .inl (k.1, 132, .inl (zF g)))] (fun (u : Unit) => True) (fun u => [(h0, .inr (7, [.ref c0])), (c0, .inl (k.1, 132, .inl (zF f))), (c1, .inl (k.1, 132, .inl (zF (cpZ f g 0 0 132))))]) := by
  refine Met.ofW (cc := cX7_saveTo) (maxL := 2) (ret := none) (by decide) rfl ?_
  intro p e s m args below meth c s₁ Bd hml hv
  obtain ⟨rfl, hP, hK, hD0⟩ := hv
  have hx := Bd.exec
  have hb := Bd.bytes
  have hr := Bd.returns
  have hts := atoms_spec (ws := wsX7_saveTo) Bd.pre
  have hown : s.vm.findClass RX7 = some m.cls := findClass_of_methodNamed Bd.named
  have hlocks := Bd.notSynchronized
  have hSf : CallFix p m c cX7_saveTo 2 s ([.ref h0, .ref c1] : List Value).toArray wsX7_saveTo RX7 := ⟨hx, hb, hml, hown, hts⟩
  have hD := fA_D hD0
  have hS : va_S (fA [(h0, .inr (7, [.ref c0])), (c0, .inl (k.1, 132, .inl (zF f))), (c1, .inl (k.1, 132, .inl (zF g)))]) s.heap s.heap [] := va_S.rf
  generalize hAe : fA [(h0, .inr (7, [.ref c0])), (c0, .inl (k.1, 132, .inl (zF f))), (c1, .inl (k.1, 132, .inl (zF g)))] = A at hD hS ⊢
  have hP : va_P D vwCl [(h0, .inr (7, [.ref c0])), (c0, .inl (k.1, 132, .inl (zF f))), (c1, .inl (k.1, 132, .inl (zF g)))] s.heap := hP
  have hinX7 : ∀ w ∈ u_ws RX7 TX7 1, w ∈ wsX7_saveTo := by decide +kernel
  have fl11 := hts (.fieldLink RX7 11 "DotObjects$Scene" "cells" "[I") (by decide +kernel)
  have hac := And.intro (hts (.methodLink RX7 15 arraycopyName) (by decide +kernel)) (And.intro (hts (.native arraycopyName) (by decide +kernel)) (And.intro (hts (.static arraycopyName) (by decide +kernel)) (hts (.initialized "java/lang/System") (by decide +kernel))))
  have hl := lv_entry ([.ref h0, .ref c1]) (n := 2) (Nat.le_of_ble_eq_true rfl)
  rw [lg_entry_eq]
  generalize (lg_sl ([.ref h0, .ref c1]) ++ List.replicate (2 - (lg_sl ([.ref h0, .ref c1])).length) Slot.unset).toArray = ls at hl ⊢
  have hl : lv_has ls 2 [(0, .ref h0), (1, .ref c1)] := hl
  refine lv_aload_n hx hb dX7_saveTo_0 rfl (lv_at hl 0 rfl) ?_
  refine va_get (D := D) (ci := 7) (v := .ref c0) (C := RX7) (T := TX7) (N := 1) hx hb hts hinX7 hown hK.1 hP 0 rfl rfl 0 (by decide) fl11 (fun _ h9 => h9) rfl dX7_saveTo_1 ?_
  refine z_iconst hx hb dX7_saveTo_4 ?_
  refine lv_aload_n hx hb dX7_saveTo_5 rfl (lv_at hl 1 rfl) ?_
  refine z_iconst hx hb dX7_saveTo_6 ?_
  refine z_sipush hx hb dX7_saveTo_7 (by decide +kernel) ?_
  refine z_copy hx hb (hml.trans hl.1.symm) hown hac.1 hac.2.1 hac.2.2.1 hac.2.2.2 hK hP hD hS 1 2 rfl rfl (0) (0) (132) (by omega) (by omega) (by omega) (by omega) (by omega) (by decide) (by decide) (Nat.le_of_ble_eq_true rfl) (by decide) dX7_saveTo_10 (fun H locs hP hD hS => ?_)
  have hP : va_P D vwCl [(h0, .inr (7, [.ref c0])), (c0, .inl (k.1, 132, .inl (zF f))), (c1, .inl (k.1, 132, .inl (zF (cpZ f g 0 0 132))))] H := hP
  have hD : va_D A [(h0, .inr (7, [.ref c0])), (c0, .inl (k.1, 132, .inl (zF f))), (c1, .inl (k.1, 132, .inl (zF (cpZ f g 0 0 132))))] := hD
  exact W.vret hx hb hr (fun t ht hW => ⟨⟨(), rfl, trivial, by show va_P D vwCl _ _; rw [ht]; exact hP⟩, hS.F ht⟩) hS.2.2 dX7_saveTo_13
set_option maxHeartbeats 4000000 in
set_option maxRecDepth 100000 in
theorem c_loadFrom (l : Launch) (D : va_G) (k : Kt) (h0 : Nat) (c0 : Nat) (f : St) (c1 : Nat) (g : St) : MU l D k yX7_loadFrom wsX7_loadFrom 1 40 [.ref h0, .ref c1] [(h0, .inr (7, [.ref c0])), (c0, .inl (k.1, 132, .inl (zF f))), (c1, .inl (k.1, 132, .inl (zF g)))] (fun (u : Unit) => True) (fun u => [(h0, .inr (7, [.ref c0])), (c0, .inl (k.1, 132, .inl (zF (cpZ g f 0 0 132)))), (c1, .inl (k.1, 132, .inl (zF g)))]) := by
  refine Met.ofW (cc := cX7_loadFrom) (maxL := 2) (ret := none) (by decide) rfl ?_
  intro p e s m args below meth c s₁ Bd hml hv
  obtain ⟨rfl, hP, hK, hD0⟩ := hv
  have hx := Bd.exec
  have hb := Bd.bytes
  have hr := Bd.returns
  have hts := atoms_spec (ws := wsX7_loadFrom) Bd.pre
  have hown : s.vm.findClass RX7 = some m.cls := findClass_of_methodNamed Bd.named
  have hlocks := Bd.notSynchronized
  have hSf : CallFix p m c cX7_loadFrom 2 s ([.ref h0, .ref c1] : List Value).toArray wsX7_loadFrom RX7 := ⟨hx, hb, hml, hown, hts⟩
  have hD := fA_D hD0
  have hS : va_S (fA [(h0, .inr (7, [.ref c0])), (c0, .inl (k.1, 132, .inl (zF f))), (c1, .inl (k.1, 132, .inl (zF g)))]) s.heap s.heap [] := va_S.rf
  generalize hAe : fA [(h0, .inr (7, [.ref c0])), (c0, .inl (k.1, 132, .inl (zF f))), (c1, .inl (k.1, 132, .inl (zF g)))] = A at hD hS ⊢
  have hP : va_P D vwCl [(h0, .inr (7, [.ref c0])), (c0, .inl (k.1, 132, .inl (zF f))), (c1, .inl (k.1, 132, .inl (zF g)))] s.heap := hP
  have hinX7 : ∀ w ∈ u_ws RX7 TX7 1, w ∈ wsX7_loadFrom := by decide +kernel
  have fl11 := hts (.fieldLink RX7 11 "DotObjects$Scene" "cells" "[I") (by decide +kernel)
  have hac := And.intro (hts (.methodLink RX7 15 arraycopyName) (by decide +kernel)) (And.intro (hts (.native arraycopyName) (by decide +kernel)) (And.intro (hts (.static arraycopyName) (by decide +kernel)) (hts (.initialized "java/lang/System") (by decide +kernel))))
  have hl := lv_entry ([.ref h0, .ref c1]) (n := 2) (Nat.le_of_ble_eq_true rfl)
  rw [lg_entry_eq]
  generalize (lg_sl ([.ref h0, .ref c1]) ++ List.replicate (2 - (lg_sl ([.ref h0, .ref c1])).length) Slot.unset).toArray = ls at hl ⊢
  have hl : lv_has ls 2 [(0, .ref h0), (1, .ref c1)] := hl
  refine lv_aload_n hx hb dX7_loadFrom_0 rfl (lv_at hl 1 rfl) ?_
  refine z_iconst hx hb dX7_loadFrom_1 ?_
  refine lv_aload_n hx hb dX7_loadFrom_2 rfl (lv_at hl 0 rfl) ?_
  refine va_get (D := D) (ci := 7) (v := .ref c0) (C := RX7) (T := TX7) (N := 1) hx hb hts hinX7 hown hK.1 hP 0 rfl rfl 0 (by decide) fl11 (fun _ h9 => h9) rfl dX7_loadFrom_3 ?_
  refine z_iconst hx hb dX7_loadFrom_6 ?_
  refine z_sipush hx hb dX7_loadFrom_7 (by decide +kernel) ?_
  refine z_copy hx hb (hml.trans hl.1.symm) hown hac.1 hac.2.1 hac.2.2.1 hac.2.2.2 hK hP hD hS 2 1 rfl rfl (0) (0) (132) (by omega) (by omega) (by omega) (by omega) (by omega) (by decide) (by decide) (Nat.le_of_ble_eq_true rfl) (by decide) dX7_loadFrom_10 (fun H locs hP hD hS => ?_)
  have hP : va_P D vwCl [(h0, .inr (7, [.ref c0])), (c0, .inl (k.1, 132, .inl (zF (cpZ g f 0 0 132)))), (c1, .inl (k.1, 132, .inl (zF g)))] H := hP
  have hD : va_D A [(h0, .inr (7, [.ref c0])), (c0, .inl (k.1, 132, .inl (zF (cpZ g f 0 0 132)))), (c1, .inl (k.1, 132, .inl (zF g)))] := hD
  exact W.vret hx hb hr (fun t ht hW => ⟨⟨(), rfl, trivial, by show va_P D vwCl _ _; rw [ht]; exact hP⟩, hS.F ht⟩) hS.2.2 dX7_loadFrom_13
set_option maxHeartbeats 4000000 in
set_option maxRecDepth 100000 in
theorem c_copyFrom (l : Launch) (D : va_G) (k : Kt) (h0 : Nat) (c0 : Nat) (f : St) (h1 : Nat) (c1 : Nat) (g : St) : MU l D k yX7_copyFrom wsX7_copyFrom 2 61 [.ref h0, .ref h1] [(h0, .inr (7, [.ref c0])), (c0, .inl (k.1, 132, .inl (zF f))), (h1, .inr (7, [.ref c1])), (c1, .inl (k.1, 132, .inl (zF g)))] (fun (u : Unit) => True) (fun u => [(h0, .inr (7, [.ref c0])), (c0, .inl (k.1, 132, .inl (zF (cpZ g f 0 0 132)))), (h1, .inr (7, [.ref c1])), (c1, .inl (k.1, 132, .inl (zF g)))]) := by
  refine Met.ofW (cc := cX7_copyFrom) (maxL := 2) (ret := none) (by decide) rfl ?_
  intro p e s m args below meth c s₁ Bd hml hv
  obtain ⟨rfl, hP, hK, hD0⟩ := hv
  have hx := Bd.exec
  have hb := Bd.bytes
  have hr := Bd.returns
  have hts := atoms_spec (ws := wsX7_copyFrom) Bd.pre
  have hown : s.vm.findClass RX7 = some m.cls := findClass_of_methodNamed Bd.named
  have hlocks := Bd.notSynchronized
  have hSf : CallFix p m c cX7_copyFrom 2 s ([.ref h0, .ref h1] : List Value).toArray wsX7_copyFrom RX7 := ⟨hx, hb, hml, hown, hts⟩
  have hD := fA_D hD0
  have hS : va_S (fA [(h0, .inr (7, [.ref c0])), (c0, .inl (k.1, 132, .inl (zF f))), (h1, .inr (7, [.ref c1])), (c1, .inl (k.1, 132, .inl (zF g)))]) s.heap s.heap [] := va_S.rf
  generalize hAe : fA [(h0, .inr (7, [.ref c0])), (c0, .inl (k.1, 132, .inl (zF f))), (h1, .inr (7, [.ref c1])), (c1, .inl (k.1, 132, .inl (zF g)))] = A at hD hS ⊢
  have hP : va_P D vwCl [(h0, .inr (7, [.ref c0])), (c0, .inl (k.1, 132, .inl (zF f))), (h1, .inr (7, [.ref c1])), (c1, .inl (k.1, 132, .inl (zF g)))] s.heap := hP
  have hinX7 : ∀ w ∈ u_ws RX7 TX7 1, w ∈ wsX7_copyFrom := by decide +kernel
  have fl11 := hts (.fieldLink RX7 11 "DotObjects$Scene" "cells" "[I") (by decide +kernel)
  have hl := lv_entry ([.ref h0, .ref h1]) (n := 2) (Nat.le_of_ble_eq_true rfl)
  rw [lg_entry_eq]
  generalize (lg_sl ([.ref h0, .ref h1]) ++ List.replicate (2 - (lg_sl ([.ref h0, .ref h1])).length) Slot.unset).toArray = ls at hl ⊢
  have hl : lv_has ls 2 [(0, .ref h0), (1, .ref h1)] := hl
  refine lv_aload_n hx hb dX7_copyFrom_0 rfl (lv_at hl 0 rfl) ?_
  refine lv_aload_n hx hb dX7_copyFrom_1 rfl (lv_at hl 1 rfl) ?_
  refine va_get (D := D) (ci := 7) (v := .ref c1) (C := RX7) (T := TX7) (N := 1) hx hb hts hinX7 hown hK.1 hP 2 rfl rfl 0 (by decide) fl11 (fun _ h9 => h9) rfl dX7_copyFrom_2 ?_
  refine muV (n := 1) (As := [.ref c1]) (rest := []) hSf (c_loadFrom l D k h0 c0 f c1 g) gX7_copyFrom_X7_loadFrom rfl (by decide +kernel) ⟨Nat.le_of_ble_eq_true rfl, Nat.le_of_ble_eq_true rfl⟩ hK hP hD hS [0, 1, 3] rfl rfl (by decide) (fun _ => rfl) (fun _ => rfl) 0 rfl rfl rfl hl.1 rfl (Nat.le_of_ble_eq_true rfl) dX7_copyFrom_5 ⟨Nat.zero_le _, Nat.zero_le _⟩ (fun u_5 H locs h_5 hP hD hS => ?_)
  have hP : va_P D vwCl [(h0, .inr (7, [.ref c0])), (c0, .inl (k.1, 132, .inl (zF (cpZ g f 0 0 132)))), (h1, .inr (7, [.ref c1])), (c1, .inl (k.1, 132, .inl (zF g)))] H := hP
  have hD : va_D A [(h0, .inr (7, [.ref c0])), (c0, .inl (k.1, 132, .inl (zF (cpZ g f 0 0 132)))), (h1, .inr (7, [.ref c1])), (c1, .inl (k.1, 132, .inl (zF g)))] := hD
  exact W.vret hx hb hr (fun t ht hW => ⟨⟨(), rfl, trivial, by show va_P D vwCl _ _; rw [ht]; exact hP⟩, hS.F ht⟩) hS.2.2 dX7_copyFrom_8
end
section
/-! WHO STANDS AHEAD, who is DRAWN; the order's row as a way through all THINGS -/
def ahd (f : St) (ru : Int) (a b : Nat) : Bool :=
  if ru = 0 then decide (a < b) else if ru = 1 then decide (b < a) else if ru = 2 then decide (((a : Int) - f 3 % f 0 + f 0) % f 0 < ((b : Int) - f 3 % f 0 + f 0) % f 0)
  else decide (th f a 4 < th f b 4) || (decide (th f a 4 = th f b 4) && decide (a < b))
def rank (f : St) (ru : Int) (L t : Nat) : Nat := ct (fun u => decide (u ≠ t) && onL f u L && ahd f ru u t) (nT f)
def drP (f : St) (ru lim : Int) (L t : Nat) : Bool := onL f t L && decide ((rank f ru L t : Int) < lim)
def drS (f : St) (ru lim : Int) (L : Nat) : Nat := setP (fun u => drP f ru lim L u) (nT f)
def OrdOK (f : St) (ru : Int) (o : Nat → Int) : Prop := (∀ i, i < nT f → 0 ≤ o i ∧ o i < nT f) ∧ ∀ i j, i < nT f → j < nT f → ahd f ru (o i).toNat (o j).toNat = decide (i < j)
theorem OrdOK.inj {f : St} {ru : Int} {o : Nat → Int} (h : OrdOK f ru o) {i j : Nat} (hi : i < nT f) (hj : j < nT f) (e : (o i).toNat = (o j).toNat) : i = j := by
  have h1 := h.2 i j hi hj
  have h2 := h.2 j i hj hi
  have h3 := h.2 i i hi hi
  rw [← e] at h1
  rw [h3] at h1
  rw [← e, h3] at h2
  have a1 := decide_eq_decide.mp h1
  have a2 := decide_eq_decide.mp h2
  omega
-- from the kit's texts to paste (COUNTS): drawers
theorem fb_holes : ∀ (m n : Nat) (f : Nat → Nat), (∀ i, i < n → f i < m) → (∀ i j, i < j → j < n → f i ≠ f j) → n ≤ m := by
  intro m
  induction m with
  | zero =>
    intro n f h1 _
    rcases Nat.eq_zero_or_pos n with h | h
    · omega
    · exact absurd (h1 0 h) (Nat.not_lt_zero _)
  | succ m ih =>
    intro n f h1 h2
    by_cases hx : ∃ i, i < n ∧ f i = m
    · obtain ⟨a, ha, hfa⟩ := hx
      have hg := ih (n - 1) (fun i => if i < a then f i else f (i + 1)) (by
        intro i hi
        by_cases q : i < a
        · simp only [if_pos q]
          have b1 := h1 i (by omega)
          have b2 := h2 i a q ha
          omega
        · simp only [if_neg q]
          have b1 := h1 (i + 1) (by omega)
          have b2 := h2 a (i + 1) (by omega) (by omega)
          omega) (by
        intro i j hij hj
        by_cases q : i < a
        · by_cases r : j < a
          · simp only [if_pos q, if_pos r]
            exact h2 i j hij (by omega)
          · simp only [if_pos q, if_neg r]
            exact h2 i (j + 1) (by omega) (by omega)
        · have r : ¬ j < a := by omega
          simp only [if_neg q, if_neg r]
          exact h2 (i + 1) (j + 1) (by omega) (by omega))
      omega
    · have hg := ih n f (fun i hi => by
        have b1 := h1 i hi
        have b2 : f i ≠ m := fun e => hx ⟨i, hi, e⟩
        omega) h2
      omega
/-- two of them in one place -/
theorem fb_twice {m n : Nat} {f : Nat → Nat} (h : ∀ i, i < n → f i < m) (hm : m < n) : ∃ i j, i < j ∧ j < n ∧ f i = f j := by
  refine Classical.byContradiction fun hx => ?_
  have := fb_holes m n f h (fun i j hij hj e => hx ⟨i, j, hij, hj, e⟩)
  omega
/-- as many as places, none twice: each place is taken -/
theorem fb_onto {n : Nat} {f : Nat → Nat} (h : ∀ i, i < n → f i < n) (h2 : ∀ i j, i < j → j < n → f i ≠ f j) {y : Nat} (hy : y < n) : ∃ i, i < n ∧ f i = y := by
  refine Classical.byContradiction fun hx => ?_
  have hne : ∀ i, i < n → f i ≠ y := fun i hi e => hx ⟨i, hi, e⟩
  have := fb_holes (n - 1) n (fun i => if f i < y then f i else f i - 1) (by
    intro i hi
    have b1 := h i hi
    have b2 := hne i hi
    by_cases q : f i < y
    · simp only [if_pos q]; omega
    · simp only [if_neg q]; omega) (by
    intro i j hij hj
    have b1 := hne i (by omega)
    have b2 := hne j hj
    have b3 := h2 i j hij hj
    by_cases q : f i < y
    · by_cases r : f j < y
      · simp only [if_pos q, if_pos r]; exact b3
      · simp only [if_pos q, if_neg r]; omega
    · by_cases r : f j < y
      · simp only [if_neg q, if_pos r]; omega
      · simp only [if_neg q, if_neg r]; omega)
  omega

def sm (F : Nat → Nat) : Nat → Nat
  | 0 => 0
  | n + 1 => sm F n + F n
theorem sm_cong {F G : Nat → Nat} : ∀ {n : Nat}, (∀ i, i < n → F i = G i) → sm F n = sm G n
  | 0, _ => rfl
  | n + 1, h => by rw [sm, sm, sm_cong (fun i hi => h i (by omega)), h n (by omega)]
theorem sm_zero (n : Nat) : sm (fun _ => 0) n = 0 := by
  induction n with
  | zero => rfl
  | succ n ih => rw [sm, ih]
theorem sm_add (F G : Nat → Nat) : ∀ n, sm (fun i => F i + G i) n = sm F n + sm G n
  | 0 => rfl
  | n + 1 => by rw [sm, sm, sm, sm_add F G n]; omega
theorem sm_swap (F : Nat → Nat → Nat) (n : Nat) : ∀ m, sm (fun a => sm (fun b => F a b) n) m = sm (fun b => sm (fun a => F a b) m) n
  | 0 => by rw [sm]; exact (sm_zero n).symm
  | m + 1 => by
    rw [sm, sm_swap F n m, ← sm_add]
    rfl
theorem sm_one {g : Nat → Nat} {v : Nat} : ∀ {n : Nat}, v < n → sm (fun u => if u = v then g u else 0) n = g v
  | 0, h => absurd h (Nat.not_lt_zero _)
  | n + 1, h => by
    rw [sm]
    by_cases e : n = v
    · subst e
      rw [if_pos rfl, sm_cong (G := fun _ => 0) (fun i hi => if_neg (by omega)), sm_zero, Nat.zero_add]
    · rw [if_neg e, sm_one (by omega), Nat.add_zero]
theorem ct_sm (P : Nat → Bool) : ∀ n, ct P n = sm (fun u => (P u).toNat) n
  | 0 => rfl
  | n + 1 => by rw [ct, sm, ct_sm P n]
theorem ct_perm {n : Nat} {o : Nat → Nat} (h1 : ∀ i, i < n → o i < n) (h2 : ∀ i j, i < n → j < n → o i = o j → i = j) (P : Nat → Bool) : ct (fun j => P (o j)) n = ct P n := by
  rw [ct_sm, ct_sm]
  have e1 : sm (fun u => (P u).toNat) n = sm (fun u => sm (fun j => if u = o j then (P u).toNat else 0) n) n := by
    apply sm_cong
    intro u hu
    obtain ⟨j0, hj0, rfl⟩ := fb_onto h1 (fun i j hij hj e => absurd (h2 i j (by omega) hj e) (by omega)) hu
    rw [sm_cong (G := fun j => if j = j0 then (P (o j0)).toNat else 0) (fun j hj => ?_), sm_one (g := fun _ => (P (o j0)).toNat) hj0]
    by_cases e : j = j0
    · subst e; rw [if_pos rfl, if_pos rfl]
    · rw [if_neg e, if_neg (fun q => e (h2 j j0 hj hj0 q.symm))]
  rw [e1, sm_swap]
  apply sm_cong
  intro j hj
  exact (sm_one (g := fun u => (P u).toNat) (h1 j hj)).symm
theorem ct_cut (P : Nat → Bool) {i n : Nat} (h : i ≤ n) : ct (fun j => P j && decide (j < i)) n = ct P i := by
  obtain ⟨d, rfl⟩ := Nat.exists_eq_add_of_le h
  rw [ct_split, ct_zero (p := fun j => P (i + j) && decide (i + j < i)) (fun j _ => by rw [decide_eq_false (by omega), Bool.and_false])]
  exact ct_cong (fun j hj => by rw [decide_eq_true hj, Bool.and_true])
theorem ct_mono (P : Nat → Bool) {a b : Nat} (h : a ≤ b) : ct P a ≤ ct P b := by
  obtain ⟨d, rfl⟩ := Nat.exists_eq_add_of_le h
  rw [ct_split]
  omega
theorem rank_o {f : St} {ru : Int} {o : Nat → Int} (h : OrdOK f ru o) {L i : Nat} (hi : i < nT f) : rank f ru L (o i).toNat = ct (fun j => onL f (o j).toNat L) i := by
  unfold rank
  rw [← ct_perm (o := fun j => (o j).toNat) (fun j hj => by have := h.1 j hj; omega) (fun a b ha hb e => h.inj ha hb e) (fun u => decide (u ≠ (o i).toNat) && onL f u L && ahd f ru u (o i).toNat), ← ct_cut _ (Nat.le_of_lt hi)]
  apply ct_cong
  intro j hj
  show (decide ((o j).toNat ≠ (o i).toNat) && onL f (o j).toNat L && ahd f ru (o j).toNat (o i).toNat) = _
  rw [h.2 j i hj hi]
  by_cases e : j < i
  · rw [decide_eq_true (p := (o j).toNat ≠ (o i).toNat) (fun q => absurd (h.inj hj hi q) (by omega)), Bool.true_and]
  · rw [decide_eq_false e, Bool.and_false, Bool.and_false]
/-- what 'chosen' holds at place k: those of the first k that are ON -/
def chI (f : St) (o : Nat → Int) (L k S : Nat) : Prop := S < 4096 ∧ ∀ t, S.testBit t = true ↔ ∃ i, i < k ∧ (o i).toNat = t ∧ onL f t L = true
theorem chI_0 {f : St} {o : Nat → Int} {L : Nat} : chI f o L 0 0 := ⟨by decide, fun t => by rw [Nat.zero_testBit]; exact ⟨fun h => absurd h (by decide), fun ⟨i, h, _⟩ => absurd h (Nat.not_lt_zero _)⟩⟩
theorem chI_n {f : St} {o : Nat → Int} {L k S : Nat} (h : chI f o L k S) (ho : onL f (o k).toNat L = false) : chI f o L (k + 1) S := ⟨h.1, fun t => (h.2 t).trans ⟨fun ⟨i, h1, h2⟩ => ⟨i, by omega, h2⟩, fun ⟨i, h1, h2, h3⟩ => by
  by_cases e : i = k
  · subst e; rw [h2] at ho; rw [ho] at h3; cases h3
  · exact ⟨i, by omega, h2, h3⟩⟩⟩
theorem chI_y {f : St} {o : Nat → Int} {L k S : Nat} (h : chI f o L k S) (hl : (o k).toNat < 12) (ho : onL f (o k).toNat L = true) : chI f o L (k + 1) (S ||| 1 <<< (o k).toNat) := by
  refine ⟨?_, fun t => ?_⟩
  · have h1 : 1 <<< (o k).toNat < 2 ^ 12 := by rw [Nat.one_shiftLeft]; exact Nat.pow_lt_pow_right (by decide) hl
    exact Nat.or_lt_two_pow (n := 12) h.1 h1
  · rw [Nat.testBit_or, Nat.one_shiftLeft, Nat.testBit_two_pow, Bool.or_eq_true, h.2 t, decide_eq_true_eq]
    constructor
    · rintro (⟨i, h1, h2, h3⟩ | h1)
      · exact ⟨i, by omega, h2, h3⟩
      · exact ⟨k, by omega, h1, by rw [← h1]; exact ho⟩
    · rintro ⟨i, h1, h2, h3⟩
      by_cases e : i = k
      · subst e; exact Or.inr h2
      · exact Or.inl ⟨i, by omega, h2, h3⟩
theorem chI_end {f : St} {ru : Int} {o : Nat → Int} (h : OrdOK f ru o) {L k S : Nat} {lim : Int} (hk : k ≤ nT f) (hI : chI f o L k S) (hc : (ct (fun j => onL f (o j).toNat L) k : Int) ≤ lim) (hs : k = nT f ∨ (ct (fun j => onL f (o j).toNat L) k : Int) = lim) : S = drS f ru lim L := by
  unfold drS
  apply setP_ext
  · intro t ht
    obtain ⟨i, hi, e⟩ := fb_onto (f := fun j => (o j).toNat) (fun j hj => by have := h.1 j hj; omega) (fun a b hab hb e => absurd (h.inj (by omega) hb e) (by omega)) ht
    have e : (o i).toNat = t := e
    rw [Bool.eq_iff_iff, hI.2 t]
    unfold drP
    rw [Bool.and_eq_true, decide_eq_true_eq, ← e, rank_o h hi]
    constructor
    · rintro ⟨j, h1, h2, h3⟩
      have e2 := h.inj (by omega) hi h2
      subst e2
      refine ⟨h3, ?_⟩
      have := ct_mono (fun j => onL f (o j).toNat L) (show j + 1 ≤ k by omega)
      rw [ct, h3] at this
      have t1 : (true).toNat = 1 := rfl
      omega
    · rintro ⟨h1, h2⟩
      refine ⟨i, ?_, rfl, h1⟩
      rcases hs with hs | hs
      · omega
      · rcases Nat.lt_or_ge i k with q | q
        · exact q
        · have := ct_mono (fun j => onL f (o j).toNat L) q
          omega
  · intro t ht
    rw [Bool.eq_false_iff]
    intro h1
    obtain ⟨i, h2, h3, -⟩ := (hI.2 t).mp h1
    have := h.1 i (by omega)
    omega
def ordv (n fi ru : Int) (i : Nat) : Int := if ru = 1 then n - 1 - i else if fi + i < n then fi + i else fi + i - n
theorem ord_012 {f : St} {B ru fi : Int} {o : Nat → Int} (hV : Va B f) (hr : 0 ≤ ru ∧ ru ≤ 2) (hfi : 0 < f 0 → 0 ≤ fi ∧ fi < f 0 ∧ fi = if ru = 2 then f 3 % f 0 else 0) (ho : ∀ i, i < nT f → o i = ordv (f 0) fi ru i) : OrdOK f ru o := by
  have hn := hV.n
  have hv : ∀ i, i < nT f → 0 ≤ ordv (f 0) fi ru i ∧ ordv (f 0) fi ru i < f 0 := by
    intro i hi
    obtain ⟨g1, g2, -⟩ := hfi (by omega)
    unfold ordv
    split
    · omega
    · split <;> omega
  refine ⟨fun i hi => by rw [ho i hi]; have := hv i hi; omega, fun i j hi hj => ?_⟩
  obtain ⟨g1, g2, g3⟩ := hfi (by omega)
  have vi := hv i hi
  have vj := hv j hj
  rw [ho i hi, ho j hj]
  unfold ahd
  have ei : (((ordv (f 0) fi ru i).toNat : Nat) : Int) = ordv (f 0) fi ru i := by omega
  have ej : (((ordv (f 0) fi ru j).toNat : Nat) : Int) = ordv (f 0) fi ru j := by omega
  rcases (show ru = 0 ∨ ru = 1 ∨ ru = 2 by omega) with r | r | r
  · subst r
    rw [if_neg (by decide)] at g3
    rw [if_pos rfl, decide_eq_decide]
    have q1 : ordv (f 0) fi 0 i = i := by unfold ordv; rw [if_neg (by decide), if_pos (by omega)]; omega
    have q2 : ordv (f 0) fi 0 j = j := by unfold ordv; rw [if_neg (by decide), if_pos (by omega)]; omega
    rw [q1, q2]
    omega
  · subst r
    rw [if_neg (by decide), if_pos rfl, decide_eq_decide]
    have q1 : ordv (f 0) fi 1 i = f 0 - 1 - i := by unfold ordv; rw [if_pos rfl]
    have q2 : ordv (f 0) fi 1 j = f 0 - 1 - j := by unfold ordv; rw [if_pos rfl]
    rw [q1, q2]
    omega
  · subst r
    rw [if_pos rfl] at g3
    rw [if_neg (by decide), if_neg (by decide), if_pos rfl, decide_eq_decide, ei, ej, ← g3]
    have q : ∀ i : Nat, i < nT f → (ordv (f 0) fi 2 i - fi + f 0) % f 0 = i := by
      intro i hi
      unfold ordv
      rw [if_neg (by decide)]
      split
      · rw [show fi + (i : Int) - fi + f 0 = i + f 0 by omega, Int.add_emod_right, Int.emod_eq_of_lt (by omega) (by omega)]
      · rw [show fi + (i : Int) - f 0 - fi + f 0 = i by omega, Int.emod_eq_of_lt (by omega) (by omega)]
    rw [q i hi, q j hj]
    omega
/-- LEVEL and number in one -/
def key (f : St) (a : Nat) : Int := 16 * th f a 4 + a
theorem ahd3 (f : St) {a b : Nat} (ha : a < 12) (hb : b < 12) : ahd f 3 a b = decide (key f a < key f b) := by
  unfold ahd key
  rw [if_neg (by decide), if_neg (by decide), if_neg (by decide), Bool.eq_iff_iff, Bool.or_eq_true, Bool.and_eq_true, decide_eq_true_eq, decide_eq_true_eq, decide_eq_true_eq, decide_eq_true_eq]
  omega
/-- what 'arrangeByLevel' holds at the number K = 16 LEVEL + THING -/
def lvI (f : St) (o : Nat → Int) (K : Int) (k : Nat) : Prop := k = ct (fun u => decide (key f u < K)) (nT f) ∧ (∀ i, i < k → 0 ≤ o i ∧ o i < nT f ∧ key f (o i).toNat < K) ∧ ∀ i j, i < j → j < k → key f (o i).toNat < key f (o j).toNat
theorem ct_lt {p : Nat → Bool} {t : Nat} : ∀ {n : Nat}, t < n → p t = false → ct p n < n
  | 0, h, _ => absurd h (Nat.not_lt_zero _)
  | n + 1, h, hp => by
    rw [ct]
    by_cases e : t = n
    · subst e; rw [hp]; have := ct_le p t; have : (false).toNat = 0 := rfl; omega
    · have := ct_lt (p := p) (show t < n by omega) hp; have := Bool.toNat_le (p n); omega
theorem ct_ins {p q : Nat → Bool} {t : Nat} : ∀ {n : Nat}, t < n → p t = false → q t = true → (∀ i, i < n → i ≠ t → p i = q i) → ct q n = ct p n + 1
  | 0, h, _, _, _ => absurd h (Nat.not_lt_zero _)
  | n + 1, h, hp, hq, he => by
    rw [ct, ct]
    by_cases e : t = n
    · subst e
      rw [hp, hq, ct_cong (q := p) (fun i hi => (he i (by omega) (by omega)).symm)]
      rfl
    · rw [ct_ins (p := p) (show t < n by omega) hp hq (fun i hi hne => he i (by omega) hne), he n (by omega) (fun q => e q.symm)]
      omega
theorem lvI_0 {f : St} {B : Int} {o : Nat → Int} (hV : Va B f) : lvI f o 0 0 := ⟨(ct_zero (fun i hi => decide_eq_false (by have := hV.t hi; unfold key; omega))).symm, fun i hi => absurd hi (Nat.not_lt_zero _), fun i j _ h => absurd h (Nat.not_lt_zero _)⟩
theorem lvI_mv {f : St} {o : Nat → Int} {K K2 : Int} {k : Nat} (h : lvI f o K k) (hk : K ≤ K2) (he : ∀ u, u < nT f → (key f u < K ↔ key f u < K2)) : lvI f o K2 k := ⟨h.1.trans (ct_cong (fun i hi => decide_eq_decide.mpr (he i hi))), fun i hi => by have := h.2.1 i hi; omega, h.2.2⟩
theorem lvI_lt {f : St} {o : Nat → Int} {K : Int} {k t : Nat} (h : lvI f o K k) (ht : t < nT f) (hk : key f t = K) : k < nT f := by
  rw [h.1]
  exact ct_lt ht (decide_eq_false (by omega))
theorem lvI_put {f : St} {o : Nat → Int} {K : Int} {k t : Nat} (hn : nT f ≤ 12) (h : lvI f o K k) (ht : t < nT f) (hk : key f t = K) : lvI f (upZ o k t) (K + 1) (k + 1) := by
  have hs : ∀ i, i < k → upZ o k t i = o i := fun i hi => upZ_n (by omega)
  have hu : ∀ u, u < nT f → u ≠ t → key f u ≠ K := by
    intro u hu hne q
    unfold key at q hk
    omega
  refine ⟨?_, fun i hi => ?_, fun i j hij hj => ?_⟩
  · rw [ct_ins (p := fun u => decide (key f u < K)) ht (decide_eq_false (by omega)) (decide_eq_true (by omega)) (fun i hi hne => decide_eq_decide.mpr (by have := hu i hi hne; omega)), ← h.1]
  · by_cases e : i = k
    · subst e
      rw [upZ_s]
      refine ⟨by omega, by omega, ?_⟩
      rw [Int.toNat_natCast]
      omega
    · rw [hs i (by omega)]
      have := h.2.1 i (by omega)
      omega
  · rw [hs i (by omega)]
    by_cases e : j = k
    · subst e
      rw [upZ_s, Int.toNat_natCast, hk]
      exact (h.2.1 i hij).2.2
    · rw [hs j (by omega)]
      exact h.2.2 i j hij (by omega)
theorem ord_3 {f : St} {B : Int} {o : Nat → Int} {k : Nat} (hV : Va B f) (h : lvI f o 64 k) : OrdOK f 3 o := by
  have hn := hV.n
  have hk : k = nT f := by
    rw [h.1]
    have : ∀ n, n ≤ nT f → ct (fun u => decide (key f u < 64)) n = n := by
      intro n
      induction n with
      | zero => intro _; rfl
      | succ n ih => intro hle; rw [ct, ih (by omega), decide_eq_true (by have := hV.t (t := n) (by omega); unfold key; omega)]; rfl
    exact this _ (Nat.le_refl _)
  subst hk
  refine ⟨fun i hi => by have := h.2.1 i hi; omega, fun i j hi hj => ?_⟩
  have a := h.2.1 i hi
  have b := h.2.1 j hj
  rw [ahd3 f (by omega) (by omega), decide_eq_decide]
  rcases Nat.lt_trichotomy i j with q | q | q
  · have := h.2.2 i j q hj; omega
  · subst q; omega
  · have := h.2.2 j i q hi; omega
theorem lvI_sk {f : St} {B : Int} {o : Nat → Int} {lv tt k : Nat} (hV : Va B f) (h : lvI f o (16 * (lv : Int) + (tt : Int)) k) (hne : th f tt 4 ≠ lv) (ht : tt < 12) : lvI f o (16 * (lv : Int) + ((tt + 1 : Nat) : Int)) k := lvI_mv h (by omega) (fun u hu => by
  have hn := hV.n
  have hw := hV.t hu
  unfold key
  by_cases q : u = tt
  · subst q; omega
  · omega)
theorem up_s {o w : Nat → Int} {j : Nat} {v : Int} (h : ∀ i, i < j → o i = w i) (hv : v = w j) : ∀ i, i < j + 1 → upZ o j v i = w i := by
  intro i hi
  by_cases q : i = j
  · subst q; rw [upZ_s]; exact hv
  · rw [upZ_n q]; exact h i (by omega)
end
section
set_option maxHeartbeats 4000000 in
set_option maxRecDepth 100000 in
theorem c_arrangeByLevel (l : Launch) (D : va_G) (k : Kt) (h0 : Nat) (c0 : Nat) (f : St) (B : Int) (hV : Va B f) (h5 : Nat) (a5 : Nat) (o : Nat → Int) : MU l D k yX5_arrangeByLevel wsX5_arrangeByLevel 1 22 [.ref h5, .ref h0, .int (zI (f 0))] [(h0, .inr (7, [.ref c0])), (c0, .inl (k.1, 132, .inl (zF f))), (h5, .inr (5, [.ref a5])), (a5, .inl (k.1, 12, .inl (zF o)))] (fun (u : Nat → Int) => OrdOK f 3 u) (fun u => [(h0, .inr (7, [.ref c0])), (c0, .inl (k.1, 132, .inl (zF f))), (h5, .inr (5, [.ref a5])), (a5, .inl (k.1, 12, .inl (zF u)))]) := by
  refine Met.ofW (cc := cX5_arrangeByLevel) (maxL := 6) (ret := none) (by decide) rfl ?_
  intro p e s m args below meth c s₁ Bd hml hv
  obtain ⟨rfl, hP, hK, hD0⟩ := hv
  have hx := Bd.exec
  have hb := Bd.bytes
  have hr := Bd.returns
  have hts := atoms_spec (ws := wsX5_arrangeByLevel) Bd.pre
  have hown : s.vm.findClass RX5 = some m.cls := findClass_of_methodNamed Bd.named
  have hlocks := Bd.notSynchronized
  have hSf : CallFix p m c cX5_arrangeByLevel 6 s ([.ref h5, .ref h0, .int (zI (f 0))] : List Value).toArray wsX5_arrangeByLevel RX5 := ⟨hx, hb, hml, hown, hts⟩
  have hD := fA_D hD0
  have hS : va_S (fA [(h0, .inr (7, [.ref c0])), (c0, .inl (k.1, 132, .inl (zF f))), (h5, .inr (5, [.ref a5])), (a5, .inl (k.1, 12, .inl (zF o)))]) s.heap s.heap [] := va_S.rf
  generalize hAe : fA [(h0, .inr (7, [.ref c0])), (c0, .inl (k.1, 132, .inl (zF f))), (h5, .inr (5, [.ref a5])), (a5, .inl (k.1, 12, .inl (zF o)))] = A at hD hS ⊢
  have hP : va_P D vwCl [(h0, .inr (7, [.ref c0])), (c0, .inl (k.1, 132, .inl (zF f))), (h5, .inr (5, [.ref a5])), (a5, .inl (k.1, 12, .inl (zF o)))] s.heap := hP
  have hinX5 : ∀ w ∈ u_ws RX5 TX5 1, w ∈ wsX5_arrangeByLevel := by decide +kernel
  have fl9 := hts (.fieldLink RX5 9 "DotObjects$Order" "order" "[I") (by decide +kernel)
  have hl := lv_entry ([.ref h5, .ref h0, .int (zI (f 0))]) (n := 6) (Nat.le_of_ble_eq_true rfl)
  rw [lg_entry_eq]
  generalize (lg_sl ([.ref h5, .ref h0, .int (zI (f 0))]) ++ List.replicate (6 - (lg_sl ([.ref h5, .ref h0, .int (zI (f 0))])).length) Slot.unset).toArray = ls at hl ⊢
  have hl : lv_has ls 6 [(0, .ref h5), (1, .ref h0), (2, .int (zI (f 0)))] := hl
  have hn := hV.n
  have hv0 := hV.1
  refine z_iconst hx hb dX5_arrangeByLevel_0 ?_
  refine lv_istore_n (lv' := [(3, .int (zI 0)), (0, .ref h5), (1, .ref h0), (2, .int (zI (f 0)))]) hx hb dX5_arrangeByLevel_1 rfl hl (by decide) rfl (fun ls hl => ?_)
  refine z_iconst hx hb dX5_arrangeByLevel_2 ?_
  refine lv_istore (lv' := [(4, .int (zI 0)), (3, .int (zI 0)), (0, .ref h5), (1, .ref h0), (2, .int (zI (f 0)))]) hx hb dX5_arrangeByLevel_3 hl (by decide) rfl (fun ls hl => ?_)
  have L5 : ∀ (NN5 : Nat), ∀ (lv : Nat) (kk : Nat) (oo : Nat → Int), (lv ≤ 4) → (lvI f oo (16 * (lv : Int)) kk) → 4 - lv < NN5 → ∀ (H : Heap) (locs : List Loc), va_P D vwCl [(h0, .inr (7, [.ref c0])), (c0, .inl (k.1, 132, .inl (zF f))), (h5, .inr (5, [.ref a5])), (a5, .inl (k.1, 12, .inl (zF oo)))] H → va_D A [(h0, .inr (7, [.ref c0])), (c0, .inl (k.1, 132, .inl (zF f))), (h5, .inr (5, [.ref a5])), (a5, .inl (k.1, 12, .inl (zF oo)))] → va_S A s.heap H locs → ∀ (ls : Array Slot), lv_has ls 6 [(0, .ref h5), (1, .ref h0), (2, .int (zI (f 0))), (3, .int (zI ((kk : Nat) : Int))), (4, .int (zI ((lv : Nat) : Int)))] → W p l e (headSpec wsX5_arrangeByLevel { frames := 1, cells := 0, slots := 0, locals := 22 }).room s m ([.ref h5, .ref h0, .int (zI (f 0))] : List Value).toArray below meth c H locs 0 0 (MQ below (va_Qv (fun (u : Nat → Int) => OrdOK f 3 u) (fun (u : Nat → Int) t => va_P D vwCl [(h0, .inr (7, [.ref c0])), (c0, .inl (k.1, 132, .inl (zF f))), (h5, .inr (5, [.ref a5])), (a5, .inl (k.1, 12, .inl (zF u)))] t.heap) A) ([.ref h5, .ref h0, .int (zI (f 0))] : List Value).toArray s 0 0 A) (F0 m 5 ls []) := by
    intro NN5
    induction NN5 with
    | zero => intro lv kk oo _ _ hN; exact absurd hN (Nat.not_lt_zero _)
    | succ NN5 ih5 =>
      intro lv kk oo hlv hI hN H locs hP hD hS ls hl
      refine lv_iload hx hb dX5_arrangeByLevel_5 (lv_at hl 4 rfl) ?_
      refine z_iconst hx hb dX5_arrangeByLevel_7 ?_
      refine z_icmp_ge (tgt := 61) hx hb dX5_arrangeByLevel_8 (by decide) (by omega) (by omega) (fun c_8 => ?_) (fun c_8 => ?_)
      · obtain rfl : lv = 4 := by omega
        exact W.vret hx hb hr (fun t ht hW => ⟨⟨oo, rfl, ord_3 hV hI, by show va_P D vwCl _ _; rw [ht]; exact hP⟩, hS.F ht⟩) hS.2.2 dX5_arrangeByLevel_61
      · refine z_iconst hx hb dX5_arrangeByLevel_11 ?_
        refine lv_istore (lv' := [(5, .int (zI 0)), (0, .ref h5), (1, .ref h0), (2, .int (zI (f 0))), (3, .int (zI ((kk : Nat) : Int))), (4, .int (zI ((lv : Nat) : Int)))]) hx hb dX5_arrangeByLevel_12 hl (by decide) rfl (fun ls hl => ?_)
        have L14 : ∀ (NN14 : Nat), ∀ (tt : Nat) (kk : Nat) (oo : Nat → Int), (tt ≤ nT f) → (lvI f oo (16 * (lv : Int) + (tt : Int)) kk) → nT f - tt < NN14 → ∀ (H : Heap) (locs : List Loc), va_P D vwCl [(h0, .inr (7, [.ref c0])), (c0, .inl (k.1, 132, .inl (zF f))), (h5, .inr (5, [.ref a5])), (a5, .inl (k.1, 12, .inl (zF oo)))] H → va_D A [(h0, .inr (7, [.ref c0])), (c0, .inl (k.1, 132, .inl (zF f))), (h5, .inr (5, [.ref a5])), (a5, .inl (k.1, 12, .inl (zF oo)))] → va_S A s.heap H locs → ∀ (ls : Array Slot), lv_has ls 6 [(0, .ref h5), (1, .ref h0), (2, .int (zI (f 0))), (3, .int (zI ((kk : Nat) : Int))), (4, .int (zI ((lv : Nat) : Int))), (5, .int (zI ((tt : Nat) : Int)))] → W p l e (headSpec wsX5_arrangeByLevel { frames := 1, cells := 0, slots := 0, locals := 22 }).room s m ([.ref h5, .ref h0, .int (zI (f 0))] : List Value).toArray below meth c H locs 0 0 (MQ below (va_Qv (fun (u : Nat → Int) => OrdOK f 3 u) (fun (u : Nat → Int) t => va_P D vwCl [(h0, .inr (7, [.ref c0])), (c0, .inl (k.1, 132, .inl (zF f))), (h5, .inr (5, [.ref a5])), (a5, .inl (k.1, 12, .inl (zF u)))] t.heap) A) ([.ref h5, .ref h0, .int (zI (f 0))] : List Value).toArray s 0 0 A) (F0 m 14 ls []) := by
          intro NN14
          induction NN14 with
          | zero => intro tt kk oo _ _ hN; exact absurd hN (Nat.not_lt_zero _)
          | succ NN14 ih14 =>
            intro tt kk oo htt hI hN H locs hP hD hS ls hl
            refine lv_iload hx hb dX5_arrangeByLevel_14 (lv_at hl 5 rfl) ?_
            refine lv_iload_n hx hb dX5_arrangeByLevel_16 rfl (lv_at hl 2 rfl) ?_
            refine z_icmp_ge (tgt := 55) hx hb dX5_arrangeByLevel_17 (by decide) (by omega) (by omega) (fun c_17 => ?_) (fun c_17 => ?_)
            · have htt2 : tt = nT f := by omega
              refine lv_iinc (v := zI (((lv : Nat) : Int) + 1)) (lv' := [(4, .int (zI (((lv : Nat) : Int) + 1))), (0, .ref h5), (1, .ref h0), (2, .int (zI (f 0))), (3, .int (zI ((kk : Nat) : Int))), (5, .int (zI ((tt : Nat) : Int)))]) hx hb dX5_arrangeByLevel_55 hl (k := 4) rfl (zI_add _ _) (by decide) rfl (fun ls hl => ?_)
              refine lv_goto (tgt := 5) hx hb dX5_arrangeByLevel_58 (by decide) ?_
              have hl : lv_has ls 6 [(4, .int (zI (((lv + 1) : Nat) : Int))), (0, .ref h5), (1, .ref h0), (2, .int (zI (f 0))), (3, .int (zI ((kk : Nat) : Int))), (5, .int (zI ((tt : Nat) : Int)))] := lv_c (l1 := []) (l2 := [(0, .ref h5), (1, .ref h0), (2, .int (zI (f 0))), (3, .int (zI ((kk : Nat) : Int))), (5, .int (zI ((tt : Nat) : Int)))]) hl (show ((lv : Nat) : Int) + 1 = (((lv + 1) : Nat) : Int) from by omega)
              exact ih5 (lv + 1) kk oo (by omega) (lvI_mv hI (by omega) (fun u hu => by have hw := hV.t hu; unfold key; omega)) (by omega) _ _ hP hD hS ls (lv_sub hl [1, 2, 3, 4, 0] rfl)
            · have hv := hV.t (t := tt) (by omega)
              refine lv_aload_n hx hb dX5_arrangeByLevel_20 rfl (lv_at hl 1 rfl) ?_
              refine lv_iload hx hb dX5_arrangeByLevel_21 (lv_at hl 5 rfl) ?_
              refine z_iconst hx hb dX5_arrangeByLevel_23 ?_
              refine roV (n := 2) (As := [.int (zI ((tt : Nat) : Int)), .int (zI ((4 : Nat) : Int))]) (rest := []) hSf (c_field l D k h0 c0 f tt 4 (by omega) (by omega)) gX5_arrangeByLevel_X7_field rfl (by decide +kernel) ⟨Nat.le_of_ble_eq_true rfl, Nat.le_of_ble_eq_true rfl⟩ hK hP [0, 1] rfl 0 rfl rfl rfl hl.1 (by rw [show zI 4 = zI ((4 : Nat) : Int) from zc (by omega)]; rfl) (Nat.le_of_ble_eq_true rfl) dX5_arrangeByLevel_24 ⟨Nat.zero_le _, Nat.zero_le _⟩ (fun r_24 h_24 => ?_)
              subst h_24
              refine lv_iload hx hb dX5_arrangeByLevel_27 (lv_at hl 4 rfl) ?_
              refine z_icmp_ne (tgt := 49) hx hb dX5_arrangeByLevel_29 (by decide) (by omega) (by omega) (fun c_29 => ?_) (fun c_29 => ?_)
              · refine lv_iinc (v := zI (((tt : Nat) : Int) + 1)) (lv' := [(5, .int (zI (((tt : Nat) : Int) + 1))), (0, .ref h5), (1, .ref h0), (2, .int (zI (f 0))), (3, .int (zI ((kk : Nat) : Int))), (4, .int (zI ((lv : Nat) : Int)))]) hx hb dX5_arrangeByLevel_49 hl (k := 5) rfl (zI_add _ _) (by decide) rfl (fun ls hl => ?_)
                refine lv_goto (tgt := 14) hx hb dX5_arrangeByLevel_52 (by decide) ?_
                have hl : lv_has ls 6 [(5, .int (zI (((tt + 1) : Nat) : Int))), (0, .ref h5), (1, .ref h0), (2, .int (zI (f 0))), (3, .int (zI ((kk : Nat) : Int))), (4, .int (zI ((lv : Nat) : Int)))] := lv_c (l1 := []) (l2 := [(0, .ref h5), (1, .ref h0), (2, .int (zI (f 0))), (3, .int (zI ((kk : Nat) : Int))), (4, .int (zI ((lv : Nat) : Int)))]) hl (show ((tt : Nat) : Int) + 1 = (((tt + 1) : Nat) : Int) from by omega)
                exact ih14 (tt + 1) kk oo (by omega) (lvI_sk hV hI c_29 (by omega)) (by omega) _ _ hP hD hS ls (lv_sub hl [1, 2, 3, 4, 5, 0] rfl)
              · have hk1 := lvI_lt hI (show tt < nT f by omega) (by unfold key; omega)
                refine lv_iload_n hx hb dX5_arrangeByLevel_32 rfl (lv_at hl 3 rfl) ?_
                refine z_bipush hx hb dX5_arrangeByLevel_33 (by decide +kernel) ?_
                refine z_icmp_ge (tgt := 49) hx hb dX5_arrangeByLevel_35 (by decide) (by have := hI.1; have := ct_le (fun u => decide (key f u < 16 * (lv : Int) + (tt : Int))) (nT f); omega) (by omega) (fun c_35 => ?_) (fun c_35 => ?_)
                · exact absurd c_35 (by omega)
                · refine lv_aload_n hx hb dX5_arrangeByLevel_38 rfl (lv_at hl 0 rfl) ?_
                  refine va_get (D := D) (ci := 5) (v := .ref a5) (C := RX5) (T := TX5) (N := 1) hx hb hts hinX5 hown hK.1 hP 2 rfl rfl 0 (by decide) fl9 (fun _ h9 => h9) rfl dX5_arrangeByLevel_39 ?_
                  refine lv_iload_n hx hb dX5_arrangeByLevel_42 rfl (lv_at hl 3 rfl) ?_
                  refine lv_iload hx hb dX5_arrangeByLevel_43 (lv_at hl 5 rfl) ?_
                  refine z_ast hx hb hK hP hD hS 3 rfl (kk) (by omega) (by omega) (Nat.le_of_ble_eq_true rfl) dX5_arrangeByLevel_45 (fun H locs hP hD hS => ?_)
                  have hP : va_P D vwCl [(h0, .inr (7, [.ref c0])), (c0, .inl (k.1, 132, .inl (zF f))), (h5, .inr (5, [.ref a5])), (a5, .inl (k.1, 12, .inl (zF (upZ oo kk ((tt : Nat) : Int)))))] H := hP
                  have hD : va_D A [(h0, .inr (7, [.ref c0])), (c0, .inl (k.1, 132, .inl (zF f))), (h5, .inr (5, [.ref a5])), (a5, .inl (k.1, 12, .inl (zF (upZ oo kk ((tt : Nat) : Int)))))] := hD
                  refine lv_iinc (v := zI (((kk : Nat) : Int) + 1)) (lv' := [(3, .int (zI (((kk : Nat) : Int) + 1))), (0, .ref h5), (1, .ref h0), (2, .int (zI (f 0))), (4, .int (zI ((lv : Nat) : Int))), (5, .int (zI ((tt : Nat) : Int)))]) hx hb dX5_arrangeByLevel_46 hl (k := 3) rfl (zI_add _ _) (by decide) rfl (fun ls hl => ?_)
                  refine lv_iinc (v := zI (((tt : Nat) : Int) + 1)) (lv' := [(5, .int (zI (((tt : Nat) : Int) + 1))), (3, .int (zI (((kk : Nat) : Int) + 1))), (0, .ref h5), (1, .ref h0), (2, .int (zI (f 0))), (4, .int (zI ((lv : Nat) : Int)))]) hx hb dX5_arrangeByLevel_49 hl (k := 5) rfl (zI_add _ _) (by decide) rfl (fun ls hl => ?_)
                  refine lv_goto (tgt := 14) hx hb dX5_arrangeByLevel_52 (by decide) ?_
                  have hl : lv_has ls 6 [(5, .int (zI (((tt : Nat) : Int) + 1))), (3, .int (zI (((kk + 1) : Nat) : Int))), (0, .ref h5), (1, .ref h0), (2, .int (zI (f 0))), (4, .int (zI ((lv : Nat) : Int)))] := lv_c (l1 := [(5, .int (zI (((tt : Nat) : Int) + 1)))]) (l2 := [(0, .ref h5), (1, .ref h0), (2, .int (zI (f 0))), (4, .int (zI ((lv : Nat) : Int)))]) hl (show ((kk : Nat) : Int) + 1 = (((kk + 1) : Nat) : Int) from by omega)
                  have hl : lv_has ls 6 [(5, .int (zI (((tt + 1) : Nat) : Int))), (3, .int (zI (((kk + 1) : Nat) : Int))), (0, .ref h5), (1, .ref h0), (2, .int (zI (f 0))), (4, .int (zI ((lv : Nat) : Int)))] := lv_c (l1 := []) (l2 := [(3, .int (zI (((kk + 1) : Nat) : Int))), (0, .ref h5), (1, .ref h0), (2, .int (zI (f 0))), (4, .int (zI ((lv : Nat) : Int)))]) hl (show ((tt : Nat) : Int) + 1 = (((tt + 1) : Nat) : Int) from by omega)
                  exact ih14 (tt + 1) (kk + 1) (upZ oo kk ((tt : Nat) : Int)) (by omega) (by have hq := lvI_put hn.2 hI (show tt < nT f by omega) (by unfold key; omega); rw [show 16 * (lv : Int) + ((tt + 1 : Nat) : Int) = 16 * (lv : Int) + (tt : Int) + 1 by omega]; exact hq) (by omega) _ _ hP hD hS ls (lv_sub hl [2, 3, 4, 1, 5, 0] rfl)
        have hl : lv_has ls 6 [(5, .int (zI ((0 : Nat) : Int))), (0, .ref h5), (1, .ref h0), (2, .int (zI (f 0))), (3, .int (zI ((kk : Nat) : Int))), (4, .int (zI ((lv : Nat) : Int)))] := lv_c (l1 := []) (l2 := [(0, .ref h5), (1, .ref h0), (2, .int (zI (f 0))), (3, .int (zI ((kk : Nat) : Int))), (4, .int (zI ((lv : Nat) : Int)))]) hl (show 0 = ((0 : Nat) : Int) from rfl)
        exact L14 _ 0 kk oo (Nat.zero_le _) (lvI_mv hI (by omega) (fun u hu => by rw [show 16 * (lv : Int) + ((0 : Nat) : Int) = 16 * (lv : Int) by omega])) (Nat.lt_succ_self _) _ _ hP hD hS ls (lv_sub hl [1, 2, 3, 4, 5, 0] rfl)
  have hl : lv_has ls 6 [(4, .int (zI 0)), (3, .int (zI ((0 : Nat) : Int))), (0, .ref h5), (1, .ref h0), (2, .int (zI (f 0)))] := lv_c (l1 := [(4, .int (zI 0))]) (l2 := [(0, .ref h5), (1, .ref h0), (2, .int (zI (f 0)))]) hl (show 0 = ((0 : Nat) : Int) from rfl)
  have hl : lv_has ls 6 [(4, .int (zI ((0 : Nat) : Int))), (3, .int (zI ((0 : Nat) : Int))), (0, .ref h5), (1, .ref h0), (2, .int (zI (f 0)))] := lv_c (l1 := []) (l2 := [(3, .int (zI ((0 : Nat) : Int))), (0, .ref h5), (1, .ref h0), (2, .int (zI (f 0)))]) hl (show 0 = ((0 : Nat) : Int) from rfl)
  exact L5 _ 0 0 o (by decide) (lvI_0 hV) (Nat.lt_succ_self _) _ _ hP hD hS ls (lv_sub hl [2, 3, 4, 1, 0] rfl)
set_option maxHeartbeats 4000000 in
set_option maxRecDepth 100000 in
theorem c_arrange (l : Launch) (D : va_G) (k : Kt) (h0 : Nat) (c0 : Nat) (f : St) (B : Int) (hV : Va B f) (h5 : Nat) (a5 : Nat) (o : Nat → Int) (ru : Int) (hru : 0 ≤ ru ∧ ru ≤ 3) (hB : B < 1000000) : MU l D k yX5_arrange wsX5_arrange 2 47 [.ref h5, .ref h0, .int (zI ru)] [(h0, .inr (7, [.ref c0])), (c0, .inl (k.1, 132, .inl (zF f))), (h5, .inr (5, [.ref a5])), (a5, .inl (k.1, 12, .inl (zF o)))] (fun (u : Nat → Int) => OrdOK f ru u) (fun u => [(h0, .inr (7, [.ref c0])), (c0, .inl (k.1, 132, .inl (zF f))), (h5, .inr (5, [.ref a5])), (a5, .inl (k.1, 12, .inl (zF u)))]) := by
  refine Met.ofW (cc := cX5_arrange) (maxL := 7) (ret := none) (by decide) rfl ?_
  intro p e s m args below meth c s₁ Bd hml hv
  obtain ⟨rfl, hP, hK, hD0⟩ := hv
  have hx := Bd.exec
  have hb := Bd.bytes
  have hr := Bd.returns
  have hts := atoms_spec (ws := wsX5_arrange) Bd.pre
  have hown : s.vm.findClass RX5 = some m.cls := findClass_of_methodNamed Bd.named
  have hlocks := Bd.notSynchronized
  have hSf : CallFix p m c cX5_arrange 7 s ([.ref h5, .ref h0, .int (zI ru)] : List Value).toArray wsX5_arrange RX5 := ⟨hx, hb, hml, hown, hts⟩
  have hD := fA_D hD0
  have hS : va_S (fA [(h0, .inr (7, [.ref c0])), (c0, .inl (k.1, 132, .inl (zF f))), (h5, .inr (5, [.ref a5])), (a5, .inl (k.1, 12, .inl (zF o)))]) s.heap s.heap [] := va_S.rf
  generalize hAe : fA [(h0, .inr (7, [.ref c0])), (c0, .inl (k.1, 132, .inl (zF f))), (h5, .inr (5, [.ref a5])), (a5, .inl (k.1, 12, .inl (zF o)))] = A at hD hS ⊢
  have hP : va_P D vwCl [(h0, .inr (7, [.ref c0])), (c0, .inl (k.1, 132, .inl (zF f))), (h5, .inr (5, [.ref a5])), (a5, .inl (k.1, 12, .inl (zF o)))] s.heap := hP
  have hinX5 : ∀ w ∈ u_ws RX5 TX5 1, w ∈ wsX5_arrange := by decide +kernel
  have fl9 := hts (.fieldLink RX5 9 "DotObjects$Order" "order" "[I") (by decide +kernel)
  have hl := lv_entry ([.ref h5, .ref h0, .int (zI ru)]) (n := 7) (Nat.le_of_ble_eq_true rfl)
  rw [lg_entry_eq]
  generalize (lg_sl ([.ref h5, .ref h0, .int (zI ru)]) ++ List.replicate (7 - (lg_sl ([.ref h5, .ref h0, .int (zI ru)])).length) Slot.unset).toArray = ls at hl ⊢
  have hl : lv_has ls 7 [(0, .ref h5), (1, .ref h0), (2, .int (zI ru))] := hl
  have hn := hV.n
  have hv0 := hV.1
  have hv3 := hV.2.2.2.1
  refine lv_aload_n hx hb dX5_arrange_0 rfl (lv_at hl 1 rfl) ?_
  refine z_iconst hx hb dX5_arrange_1 ?_
  refine roV (n := 1) (As := [.int (zI ((0 : Nat) : Int))]) (rest := []) hSf (c_cell l D k h0 c0 f 0 (by omega)) gX5_arrange_X7_cell rfl (by decide +kernel) ⟨Nat.le_of_ble_eq_true rfl, Nat.le_of_ble_eq_true rfl⟩ hK hP [0, 1] rfl 0 rfl rfl rfl hl.1 (by rw [show zI 0 = zI ((0 : Nat) : Int) from zc (by omega)]; rfl) (Nat.le_of_ble_eq_true rfl) dX5_arrange_2 ⟨Nat.zero_le _, Nat.zero_le _⟩ (fun r_2 h_2 => ?_)
  subst h_2
  refine lv_istore_n (lv' := [(3, .int (zI (f 0))), (0, .ref h5), (1, .ref h0), (2, .int (zI ru))]) hx hb dX5_arrange_5 rfl hl (by decide) rfl (fun ls hl => ?_)
  refine lv_iload_n hx hb dX5_arrange_6 rfl (lv_at hl 3 rfl) ?_
  refine z_iconst hx hb dX5_arrange_7 ?_
  refine z_icmp_ne (tgt := 18) hx hb dX5_arrange_8 (by decide) (by omega) (by omega) (fun c_8 => ?_) (fun c_8 => ?_)
  · have L45 : ∀ (NN45 : Nat), ∀ (fi : Int) (jj : Nat) (oo : Nat → Int), (0 < f 0 → 0 ≤ fi ∧ fi < f 0 ∧ fi = if ru = 2 then f 3 % f 0 else 0) → (jj ≤ nT f) → (∀ i, i < jj → oo i = ordv (f 0) fi ru i) → nT f - jj < NN45 → ∀ (H : Heap) (locs : List Loc), va_P D vwCl [(h0, .inr (7, [.ref c0])), (c0, .inl (k.1, 132, .inl (zF f))), (h5, .inr (5, [.ref a5])), (a5, .inl (k.1, 12, .inl (zF oo)))] H → va_D A [(h0, .inr (7, [.ref c0])), (c0, .inl (k.1, 132, .inl (zF f))), (h5, .inr (5, [.ref a5])), (a5, .inl (k.1, 12, .inl (zF oo)))] → va_S A s.heap H locs → ∀ (ls : Array Slot), lv_has ls 7 [(0, .ref h5), (1, .ref h0), (2, .int (zI ru)), (3, .int (zI (f 0))), (4, .int (zI fi)), (5, .int (zI ((jj : Nat) : Int)))] → W p l e (headSpec wsX5_arrange { frames := 2, cells := 0, slots := 0, locals := 47 }).room s m ([.ref h5, .ref h0, .int (zI ru)] : List Value).toArray below meth c H locs 0 0 (MQ below (va_Qv (fun (u : Nat → Int) => OrdOK f ru u) (fun (u : Nat → Int) t => va_P D vwCl [(h0, .inr (7, [.ref c0])), (c0, .inl (k.1, 132, .inl (zF f))), (h5, .inr (5, [.ref a5])), (a5, .inl (k.1, 12, .inl (zF u)))] t.heap) A) ([.ref h5, .ref h0, .int (zI ru)] : List Value).toArray s 0 0 A) (F0 m 45 ls []) := by
      intro NN45
      induction NN45 with
      | zero => intro fi jj oo _ _ _ hN; exact absurd hN (Nat.not_lt_zero _)
      | succ NN45 ih45 =>
        intro fi jj oo hfi hjj hoo hN H locs hP hD hS ls hl
        have hfi2 : 0 < f 0 → 0 ≤ fi ∧ fi < f 0 := fun q => ⟨(hfi q).1, (hfi q).2.1⟩
        refine lv_iload hx hb dX5_arrange_45 (lv_at hl 5 rfl) ?_
        refine lv_iload_n hx hb dX5_arrange_47 rfl (lv_at hl 3 rfl) ?_
        refine z_icmp_ge (tgt := 106) hx hb dX5_arrange_48 (by decide) (by omega) (by omega) (fun c_48 => ?_) (fun c_48 => ?_)
        · obtain rfl : jj = nT f := by omega
          exact W.vret hx hb hr (fun t ht hW => ⟨⟨oo, rfl, ord_012 hV (by omega) hfi hoo, by show va_P D vwCl _ _; rw [ht]; exact hP⟩, hS.F ht⟩) hS.2.2 dX5_arrange_106
        · refine lv_iload hx hb dX5_arrange_51 (lv_at hl 4 rfl) ?_
          refine lv_iload hx hb dX5_arrange_53 (lv_at hl 5 rfl) ?_
          refine z_iadd hx hb dX5_arrange_55 ?_
          refine lv_iload_n hx hb dX5_arrange_56 rfl (lv_at hl 3 rfl) ?_
          refine z_icmp_ge (tgt := 68) hx hb dX5_arrange_57 (by decide) (by have := hfi (by omega); omega) (by omega) (fun c_57 => ?_) (fun c_57 => ?_)
          · refine lv_iload hx hb dX5_arrange_68 (lv_at hl 4 rfl) ?_
            refine lv_iload hx hb dX5_arrange_70 (lv_at hl 5 rfl) ?_
            refine z_iadd hx hb dX5_arrange_72 ?_
            refine lv_iload_n hx hb dX5_arrange_73 rfl (lv_at hl 3 rfl) ?_
            refine z_isub hx hb dX5_arrange_74 ?_
            refine lv_istore (lv' := [(6, .int (zI ((fi + ((jj : Nat) : Int)) - (f 0)))), (0, .ref h5), (1, .ref h0), (2, .int (zI ru)), (3, .int (zI (f 0))), (4, .int (zI fi)), (5, .int (zI ((jj : Nat) : Int)))]) hx hb dX5_arrange_75 hl (by decide) rfl (fun ls hl => ?_)
            refine lv_aload_n hx hb dX5_arrange_77 rfl (lv_at hl 1 rfl) ?_
            refine va_get (D := D) (ci := 5) (v := .ref a5) (C := RX5) (T := TX5) (N := 1) hx hb hts hinX5 hown hK.1 hP 2 rfl rfl 0 (by decide) fl9 (fun _ h9 => h9) rfl dX5_arrange_78 ?_
            refine lv_iload hx hb dX5_arrange_81 (lv_at hl 6 rfl) ?_
            refine lv_iload_n hx hb dX5_arrange_83 rfl (lv_at hl 3 rfl) ?_
            refine z_iconst hx hb dX5_arrange_84 ?_
            refine z_icmp_ne (tgt := 97) hx hb dX5_arrange_85 (by decide) (by omega) (by omega) (fun c_85 => ?_) (fun c_85 => ?_)
            · refine lv_iload hx hb dX5_arrange_97 (lv_at hl 0 rfl) ?_
              refine z_ast hx hb hK hP hD hS 3 rfl (jj) (by omega) (by omega) (Nat.le_of_ble_eq_true rfl) dX5_arrange_99 (fun H locs hP hD hS => ?_)
              have hP : va_P D vwCl [(h0, .inr (7, [.ref c0])), (c0, .inl (k.1, 132, .inl (zF f))), (h5, .inr (5, [.ref a5])), (a5, .inl (k.1, 12, .inl (zF (upZ oo jj ((fi + ((jj : Nat) : Int)) - (f 0))))))] H := hP
              have hD : va_D A [(h0, .inr (7, [.ref c0])), (c0, .inl (k.1, 132, .inl (zF f))), (h5, .inr (5, [.ref a5])), (a5, .inl (k.1, 12, .inl (zF (upZ oo jj ((fi + ((jj : Nat) : Int)) - (f 0))))))] := hD
              refine lv_iinc (v := zI (((jj : Nat) : Int) + 1)) (lv' := [(5, .int (zI (((jj : Nat) : Int) + 1))), (6, .int (zI ((fi + ((jj : Nat) : Int)) - (f 0)))), (0, .ref h5), (1, .ref h0), (2, .int (zI ru)), (3, .int (zI (f 0))), (4, .int (zI fi))]) hx hb dX5_arrange_100 hl (k := 6) rfl (zI_add _ _) (by decide) rfl (fun ls hl => ?_)
              refine lv_goto (tgt := 45) hx hb dX5_arrange_103 (by decide) ?_
              have hl : lv_has ls 7 [(5, .int (zI (((jj + 1) : Nat) : Int))), (6, .int (zI ((fi + ((jj : Nat) : Int)) - (f 0)))), (0, .ref h5), (1, .ref h0), (2, .int (zI ru)), (3, .int (zI (f 0))), (4, .int (zI fi))] := lv_c (l1 := []) (l2 := [(6, .int (zI ((fi + ((jj : Nat) : Int)) - (f 0)))), (0, .ref h5), (1, .ref h0), (2, .int (zI ru)), (3, .int (zI (f 0))), (4, .int (zI fi))]) hl (show ((jj : Nat) : Int) + 1 = (((jj + 1) : Nat) : Int) from by omega)
              exact ih45 fi (jj + 1) (upZ oo jj ((fi + ((jj : Nat) : Int)) - (f 0))) hfi (by omega) (up_s (w := fun i => ordv (f 0) fi ru i) hoo (by unfold ordv; rw [if_neg (by omega), if_neg (by omega)])) (by omega) _ _ hP hD hS ls (lv_sub hl [2, 3, 4, 5, 6, 0] rfl)
            · refine lv_iload_n hx hb dX5_arrange_88 rfl (lv_at hl 4 rfl) ?_
              refine z_iconst hx hb dX5_arrange_89 ?_
              refine z_isub hx hb dX5_arrange_90 ?_
              refine lv_iload hx hb dX5_arrange_91 (lv_at hl 6 rfl) ?_
              refine z_isub hx hb dX5_arrange_93 ?_
              refine lv_goto (tgt := 99) hx hb dX5_arrange_94 (by decide) ?_
              refine z_ast hx hb hK hP hD hS 3 rfl (jj) (by omega) (by omega) (Nat.le_of_ble_eq_true rfl) dX5_arrange_99 (fun H locs hP hD hS => ?_)
              have hP : va_P D vwCl [(h0, .inr (7, [.ref c0])), (c0, .inl (k.1, 132, .inl (zF f))), (h5, .inr (5, [.ref a5])), (a5, .inl (k.1, 12, .inl (zF (upZ oo jj (((f 0) - 1) - ((jj : Nat) : Int))))))] H := hP
              have hD : va_D A [(h0, .inr (7, [.ref c0])), (c0, .inl (k.1, 132, .inl (zF f))), (h5, .inr (5, [.ref a5])), (a5, .inl (k.1, 12, .inl (zF (upZ oo jj (((f 0) - 1) - ((jj : Nat) : Int))))))] := hD
              refine lv_iinc (v := zI (((jj : Nat) : Int) + 1)) (lv' := [(5, .int (zI (((jj : Nat) : Int) + 1))), (6, .int (zI ((fi + ((jj : Nat) : Int)) - (f 0)))), (0, .ref h5), (1, .ref h0), (2, .int (zI ru)), (3, .int (zI (f 0))), (4, .int (zI fi))]) hx hb dX5_arrange_100 hl (k := 6) rfl (zI_add _ _) (by decide) rfl (fun ls hl => ?_)
              refine lv_goto (tgt := 45) hx hb dX5_arrange_103 (by decide) ?_
              have hl : lv_has ls 7 [(5, .int (zI (((jj + 1) : Nat) : Int))), (6, .int (zI ((fi + ((jj : Nat) : Int)) - (f 0)))), (0, .ref h5), (1, .ref h0), (2, .int (zI ru)), (3, .int (zI (f 0))), (4, .int (zI fi))] := lv_c (l1 := []) (l2 := [(6, .int (zI ((fi + ((jj : Nat) : Int)) - (f 0)))), (0, .ref h5), (1, .ref h0), (2, .int (zI ru)), (3, .int (zI (f 0))), (4, .int (zI fi))]) hl (show ((jj : Nat) : Int) + 1 = (((jj + 1) : Nat) : Int) from by omega)
              exact ih45 fi (jj + 1) (upZ oo jj (((f 0) - 1) - ((jj : Nat) : Int))) hfi (by omega) (up_s (w := fun i => ordv (f 0) fi ru i) hoo (by unfold ordv; rw [if_pos (by omega)])) (by omega) _ _ hP hD hS ls (lv_sub hl [2, 3, 4, 5, 6, 0] rfl)
          · refine lv_iload hx hb dX5_arrange_60 (lv_at hl 4 rfl) ?_
            refine lv_iload hx hb dX5_arrange_62 (lv_at hl 5 rfl) ?_
            refine z_iadd hx hb dX5_arrange_64 ?_
            refine lv_goto (tgt := 75) hx hb dX5_arrange_65 (by decide) ?_
            refine lv_istore (lv' := [(6, .int (zI (fi + ((jj : Nat) : Int)))), (0, .ref h5), (1, .ref h0), (2, .int (zI ru)), (3, .int (zI (f 0))), (4, .int (zI fi)), (5, .int (zI ((jj : Nat) : Int)))]) hx hb dX5_arrange_75 hl (by decide) rfl (fun ls hl => ?_)
            refine lv_aload_n hx hb dX5_arrange_77 rfl (lv_at hl 1 rfl) ?_
            refine va_get (D := D) (ci := 5) (v := .ref a5) (C := RX5) (T := TX5) (N := 1) hx hb hts hinX5 hown hK.1 hP 2 rfl rfl 0 (by decide) fl9 (fun _ h9 => h9) rfl dX5_arrange_78 ?_
            refine lv_iload hx hb dX5_arrange_81 (lv_at hl 6 rfl) ?_
            refine lv_iload_n hx hb dX5_arrange_83 rfl (lv_at hl 3 rfl) ?_
            refine z_iconst hx hb dX5_arrange_84 ?_
            refine z_icmp_ne (tgt := 97) hx hb dX5_arrange_85 (by decide) (by omega) (by omega) (fun c_85 => ?_) (fun c_85 => ?_)
            · refine lv_iload hx hb dX5_arrange_97 (lv_at hl 0 rfl) ?_
              refine z_ast hx hb hK hP hD hS 3 rfl (jj) (by omega) (by omega) (Nat.le_of_ble_eq_true rfl) dX5_arrange_99 (fun H locs hP hD hS => ?_)
              have hP : va_P D vwCl [(h0, .inr (7, [.ref c0])), (c0, .inl (k.1, 132, .inl (zF f))), (h5, .inr (5, [.ref a5])), (a5, .inl (k.1, 12, .inl (zF (upZ oo jj (fi + ((jj : Nat) : Int))))))] H := hP
              have hD : va_D A [(h0, .inr (7, [.ref c0])), (c0, .inl (k.1, 132, .inl (zF f))), (h5, .inr (5, [.ref a5])), (a5, .inl (k.1, 12, .inl (zF (upZ oo jj (fi + ((jj : Nat) : Int))))))] := hD
              refine lv_iinc (v := zI (((jj : Nat) : Int) + 1)) (lv' := [(5, .int (zI (((jj : Nat) : Int) + 1))), (6, .int (zI (fi + ((jj : Nat) : Int)))), (0, .ref h5), (1, .ref h0), (2, .int (zI ru)), (3, .int (zI (f 0))), (4, .int (zI fi))]) hx hb dX5_arrange_100 hl (k := 6) rfl (zI_add _ _) (by decide) rfl (fun ls hl => ?_)
              refine lv_goto (tgt := 45) hx hb dX5_arrange_103 (by decide) ?_
              have hl : lv_has ls 7 [(5, .int (zI (((jj + 1) : Nat) : Int))), (6, .int (zI (fi + ((jj : Nat) : Int)))), (0, .ref h5), (1, .ref h0), (2, .int (zI ru)), (3, .int (zI (f 0))), (4, .int (zI fi))] := lv_c (l1 := []) (l2 := [(6, .int (zI (fi + ((jj : Nat) : Int)))), (0, .ref h5), (1, .ref h0), (2, .int (zI ru)), (3, .int (zI (f 0))), (4, .int (zI fi))]) hl (show ((jj : Nat) : Int) + 1 = (((jj + 1) : Nat) : Int) from by omega)
              exact ih45 fi (jj + 1) (upZ oo jj (fi + ((jj : Nat) : Int))) hfi (by omega) (up_s (w := fun i => ordv (f 0) fi ru i) hoo (by unfold ordv; rw [if_neg (by omega), if_pos (by omega)])) (by omega) _ _ hP hD hS ls (lv_sub hl [2, 3, 4, 5, 6, 0] rfl)
            · refine lv_iload_n hx hb dX5_arrange_88 rfl (lv_at hl 4 rfl) ?_
              refine z_iconst hx hb dX5_arrange_89 ?_
              refine z_isub hx hb dX5_arrange_90 ?_
              refine lv_iload hx hb dX5_arrange_91 (lv_at hl 6 rfl) ?_
              refine z_isub hx hb dX5_arrange_93 ?_
              refine lv_goto (tgt := 99) hx hb dX5_arrange_94 (by decide) ?_
              refine z_ast hx hb hK hP hD hS 3 rfl (jj) (by omega) (by omega) (Nat.le_of_ble_eq_true rfl) dX5_arrange_99 (fun H locs hP hD hS => ?_)
              have hP : va_P D vwCl [(h0, .inr (7, [.ref c0])), (c0, .inl (k.1, 132, .inl (zF f))), (h5, .inr (5, [.ref a5])), (a5, .inl (k.1, 12, .inl (zF (upZ oo jj (((f 0) - 1) - ((jj : Nat) : Int))))))] H := hP
              have hD : va_D A [(h0, .inr (7, [.ref c0])), (c0, .inl (k.1, 132, .inl (zF f))), (h5, .inr (5, [.ref a5])), (a5, .inl (k.1, 12, .inl (zF (upZ oo jj (((f 0) - 1) - ((jj : Nat) : Int))))))] := hD
              refine lv_iinc (v := zI (((jj : Nat) : Int) + 1)) (lv' := [(5, .int (zI (((jj : Nat) : Int) + 1))), (6, .int (zI (fi + ((jj : Nat) : Int)))), (0, .ref h5), (1, .ref h0), (2, .int (zI ru)), (3, .int (zI (f 0))), (4, .int (zI fi))]) hx hb dX5_arrange_100 hl (k := 6) rfl (zI_add _ _) (by decide) rfl (fun ls hl => ?_)
              refine lv_goto (tgt := 45) hx hb dX5_arrange_103 (by decide) ?_
              have hl : lv_has ls 7 [(5, .int (zI (((jj + 1) : Nat) : Int))), (6, .int (zI (fi + ((jj : Nat) : Int)))), (0, .ref h5), (1, .ref h0), (2, .int (zI ru)), (3, .int (zI (f 0))), (4, .int (zI fi))] := lv_c (l1 := []) (l2 := [(6, .int (zI (fi + ((jj : Nat) : Int)))), (0, .ref h5), (1, .ref h0), (2, .int (zI ru)), (3, .int (zI (f 0))), (4, .int (zI fi))]) hl (show ((jj : Nat) : Int) + 1 = (((jj + 1) : Nat) : Int) from by omega)
              exact ih45 fi (jj + 1) (upZ oo jj (((f 0) - 1) - ((jj : Nat) : Int))) hfi (by omega) (up_s (w := fun i => ordv (f 0) fi ru i) hoo (by unfold ordv; rw [if_pos (by omega)])) (by omega) _ _ hP hD hS ls (lv_sub hl [2, 3, 4, 5, 6, 0] rfl)
    refine lv_iload_n hx hb dX5_arrange_18 rfl (lv_at hl 3 rfl) ?_
    refine z_iconst hx hb dX5_arrange_19 ?_
    refine z_icmp_ne (tgt := 39) hx hb dX5_arrange_20 (by decide) (by omega) (by omega) (fun c_20 => ?_) (fun c_20 => ?_)
    · refine z_iconst hx hb dX5_arrange_39 ?_
      refine lv_istore (lv' := [(4, .int (zI 0)), (3, .int (zI (f 0))), (0, .ref h5), (1, .ref h0), (2, .int (zI ru))]) hx hb dX5_arrange_40 hl (by decide) rfl (fun ls hl => ?_)
      refine z_iconst hx hb dX5_arrange_42 ?_
      refine lv_istore (lv' := [(5, .int (zI 0)), (4, .int (zI 0)), (3, .int (zI (f 0))), (0, .ref h5), (1, .ref h0), (2, .int (zI ru))]) hx hb dX5_arrange_43 hl (by decide) rfl (fun ls hl => ?_)
      have hl : lv_has ls 7 [(5, .int (zI ((0 : Nat) : Int))), (4, .int (zI 0)), (3, .int (zI (f 0))), (0, .ref h5), (1, .ref h0), (2, .int (zI ru))] := lv_c (l1 := []) (l2 := [(4, .int (zI 0)), (3, .int (zI (f 0))), (0, .ref h5), (1, .ref h0), (2, .int (zI ru))]) hl (show 0 = ((0 : Nat) : Int) from rfl)
      exact L45 _ 0 0 o (fun h0 => ⟨by omega, by omega, by rw [if_neg (by omega)]⟩) (Nat.zero_le _) (fun i hi => absurd hi (Nat.not_lt_zero _)) (Nat.lt_succ_self _) _ _ hP hD hS ls (lv_sub hl [3, 4, 5, 2, 1, 0] rfl)
    · refine lv_iload_n hx hb dX5_arrange_23 rfl (lv_at hl 0 rfl) ?_
      refine z_if_le (tgt := 39) hx hb dX5_arrange_24 (by decide) (by omega) (fun c_24 => ?_) (fun c_24 => ?_)
      · refine z_iconst hx hb dX5_arrange_39 ?_
        refine lv_istore (lv' := [(4, .int (zI 0)), (3, .int (zI (f 0))), (0, .ref h5), (1, .ref h0), (2, .int (zI ru))]) hx hb dX5_arrange_40 hl (by decide) rfl (fun ls hl => ?_)
        refine z_iconst hx hb dX5_arrange_42 ?_
        refine lv_istore (lv' := [(5, .int (zI 0)), (4, .int (zI 0)), (3, .int (zI (f 0))), (0, .ref h5), (1, .ref h0), (2, .int (zI ru))]) hx hb dX5_arrange_43 hl (by decide) rfl (fun ls hl => ?_)
        have hl : lv_has ls 7 [(5, .int (zI ((0 : Nat) : Int))), (4, .int (zI 0)), (3, .int (zI (f 0))), (0, .ref h5), (1, .ref h0), (2, .int (zI ru))] := lv_c (l1 := []) (l2 := [(4, .int (zI 0)), (3, .int (zI (f 0))), (0, .ref h5), (1, .ref h0), (2, .int (zI ru))]) hl (show 0 = ((0 : Nat) : Int) from rfl)
        exact L45 _ 0 0 o (fun h0 => absurd h0 (by omega)) (Nat.zero_le _) (fun i hi => absurd hi (Nat.not_lt_zero _)) (Nat.lt_succ_self _) _ _ hP hD hS ls (lv_sub hl [3, 4, 5, 2, 1, 0] rfl)
      · refine lv_aload_n hx hb dX5_arrange_27 rfl (lv_at hl 2 rfl) ?_
        refine z_iconst hx hb dX5_arrange_28 ?_
        refine roV (n := 1) (As := [.int (zI ((3 : Nat) : Int))]) (rest := []) hSf (c_cell l D k h0 c0 f 3 (by omega)) gX5_arrange_X7_cell rfl (by decide +kernel) ⟨Nat.le_of_ble_eq_true rfl, Nat.le_of_ble_eq_true rfl⟩ hK hP [0, 1] rfl 0 rfl rfl rfl hl.1 (by rw [show zI 3 = zI ((3 : Nat) : Int) from zc (by omega)]; rfl) (Nat.le_of_ble_eq_true rfl) dX5_arrange_29 ⟨Nat.zero_le _, Nat.zero_le _⟩ (fun r_29 h_29 => ?_)
        subst h_29
        refine lv_iload_n hx hb dX5_arrange_32 rfl (lv_at hl 0 rfl) ?_
        refine roS (n := 2) (As := [.int (zI (f 3)), .int (zI (f 0))]) (rest := []) hSf (c_floorMod l D k (f 3) (f 0) (by omega) (by omega)) gX5_arrange_J9_floorMod_7cf53 rfl (by decide +kernel) ⟨Nat.le_of_ble_eq_true rfl, Nat.le_of_ble_eq_true rfl⟩ hK hP [] rfl rfl hl.1 rfl (Nat.le_of_ble_eq_true rfl) dX5_arrange_33 ⟨Nat.zero_le _, Nat.zero_le _⟩ (fun r_33 h_33 => ?_)
        subst h_33
        refine lv_goto (tgt := 40) hx hb dX5_arrange_36 (by decide) ?_
        refine lv_istore (lv' := [(4, .int (zI ((f 3) % (f 0)))), (3, .int (zI (f 0))), (0, .ref h5), (1, .ref h0), (2, .int (zI ru))]) hx hb dX5_arrange_40 hl (by decide) rfl (fun ls hl => ?_)
        refine z_iconst hx hb dX5_arrange_42 ?_
        refine lv_istore (lv' := [(5, .int (zI 0)), (4, .int (zI ((f 3) % (f 0)))), (3, .int (zI (f 0))), (0, .ref h5), (1, .ref h0), (2, .int (zI ru))]) hx hb dX5_arrange_43 hl (by decide) rfl (fun ls hl => ?_)
        have hl : lv_has ls 7 [(5, .int (zI ((0 : Nat) : Int))), (4, .int (zI ((f 3) % (f 0)))), (3, .int (zI (f 0))), (0, .ref h5), (1, .ref h0), (2, .int (zI ru))] := lv_c (l1 := []) (l2 := [(4, .int (zI ((f 3) % (f 0)))), (3, .int (zI (f 0))), (0, .ref h5), (1, .ref h0), (2, .int (zI ru))]) hl (show 0 = ((0 : Nat) : Int) from rfl)
        exact L45 _ ((f 3) % (f 0)) 0 o (fun h0 => ⟨Int.emod_nonneg _ (by omega), Int.emod_lt_of_pos _ h0, by rw [if_pos (by omega)]⟩) (Nat.zero_le _) (fun i hi => absurd hi (Nat.not_lt_zero _)) (Nat.lt_succ_self _) _ _ hP hD hS ls (lv_sub hl [3, 4, 5, 2, 1, 0] rfl)
  · refine lv_aload_n hx hb dX5_arrange_11 rfl (lv_at hl 1 rfl) ?_
    refine lv_aload_n hx hb dX5_arrange_12 rfl (lv_at hl 2 rfl) ?_
    refine lv_iload_n hx hb dX5_arrange_13 rfl (lv_at hl 0 rfl) ?_
    refine muV (n := 2) (As := [.ref h0, .int (zI (f 0))]) (rest := []) hSf (c_arrangeByLevel l D k h0 c0 f B hV h5 a5 o) gX5_arrange_X5_arrangeByLevel rfl (by decide +kernel) ⟨Nat.le_of_ble_eq_true rfl, Nat.le_of_ble_eq_true rfl⟩ hK hP hD hS [0, 1, 2, 3] rfl rfl (by decide) (fun _ => rfl) (fun _ => rfl) 2 rfl rfl rfl hl.1 rfl (Nat.le_of_ble_eq_true rfl) dX5_arrange_14 ⟨Nat.zero_le _, Nat.zero_le _⟩ (fun u_14 H locs h_14 hP hD hS => ?_)
    have hP : va_P D vwCl [(h0, .inr (7, [.ref c0])), (c0, .inl (k.1, 132, .inl (zF f))), (h5, .inr (5, [.ref a5])), (a5, .inl (k.1, 12, .inl (zF u_14)))] H := hP
    have hD : va_D A [(h0, .inr (7, [.ref c0])), (c0, .inl (k.1, 132, .inl (zF f))), (h5, .inr (5, [.ref a5])), (a5, .inl (k.1, 12, .inl (zF u_14)))] := hD
    exact W.vret hx hb hr (fun t ht hW => ⟨⟨u_14, rfl, (by rw [c_8]; exact h_14), by show va_P D vwCl _ _; rw [ht]; exact hP⟩, hS.F ht⟩) hS.2.2 dX5_arrange_17
set_option maxHeartbeats 4000000 in
set_option maxRecDepth 100000 in
theorem c_chosen (l : Launch) (D : va_G) (k : Kt) (h0 : Nat) (c0 : Nat) (f : St) (B : Int) (hV : Va B f) (h5 : Nat) (a5 : Nat) (o : Nat → Int) (ru : Int) (hO : OrdOK f ru o) (L1 : Nat) (hL1 : L1 < 24) : RO l D k yX5_chosen wsX5_chosen 2 44 [.ref h5, .ref h0, .int (zI ((L1 : Nat) : Int))] [(h0, .inr (7, [.ref c0])), (c0, .inl (k.1, 132, .inl (zF f))), (h5, .inr (5, [.ref a5])), (a5, .inl (k.1, 12, .inl (zF o)))] (fun r => r = zI ((drS f ru (f 1) L1 : Nat) : Int)) := by
  refine Met.ofW (cc := cX5_chosen) (maxL := 6) (ret := (some .int)) (by decide) rfl ?_
  intro p e s m args below meth c s₁ Bd hml hv
  obtain ⟨rfl, hP, hK⟩ := hv
  have hx := Bd.exec
  have hb := Bd.bytes
  have hr := Bd.returns
  have hts := atoms_spec (ws := wsX5_chosen) Bd.pre
  have hown : s.vm.findClass RX5 = some m.cls := findClass_of_methodNamed Bd.named
  have hlocks := Bd.notSynchronized
  have hSf : CallFix p m c cX5_chosen 6 s ([.ref h5, .ref h0, .int (zI ((L1 : Nat) : Int))] : List Value).toArray wsX5_chosen RX5 := ⟨hx, hb, hml, hown, hts⟩
  have hinX5 : ∀ w ∈ u_ws RX5 TX5 1, w ∈ wsX5_chosen := by decide +kernel
  have fl9 := hts (.fieldLink RX5 9 "DotObjects$Order" "order" "[I") (by decide +kernel)
  have hl := lv_entry ([.ref h5, .ref h0, .int (zI ((L1 : Nat) : Int))]) (n := 6) (Nat.le_of_ble_eq_true rfl)
  rw [lg_entry_eq]
  generalize (lg_sl ([.ref h5, .ref h0, .int (zI ((L1 : Nat) : Int))]) ++ List.replicate (6 - (lg_sl ([.ref h5, .ref h0, .int (zI ((L1 : Nat) : Int))])).length) Slot.unset).toArray = ls at hl ⊢
  have hl : lv_has ls 6 [(0, .ref h5), (1, .ref h0), (2, .int (zI ((L1 : Nat) : Int)))] := hl
  have hn := hV.n
  have hv0 := hV.1
  have hv1 := hV.2.1
  refine lv_aload_n hx hb dX5_chosen_0 rfl (lv_at hl 1 rfl) ?_
  refine z_iconst hx hb dX5_chosen_1 ?_
  refine roV (n := 1) (As := [.int (zI ((1 : Nat) : Int))]) (rest := []) hSf (c_cell l D k h0 c0 f 1 (by omega)) gX5_chosen_X7_cell rfl (by decide +kernel) ⟨Nat.le_of_ble_eq_true rfl, Nat.le_of_ble_eq_true rfl⟩ hK hP [0, 1] rfl 0 rfl rfl rfl hl.1 (by rw [show zI 1 = zI ((1 : Nat) : Int) from zc (by omega)]; rfl) (Nat.le_of_ble_eq_true rfl) dX5_chosen_2 ⟨Nat.zero_le _, Nat.zero_le _⟩ (fun r_2 h_2 => ?_)
  subst h_2
  refine lv_istore_n (lv' := [(3, .int (zI (f 1))), (0, .ref h5), (1, .ref h0), (2, .int (zI ((L1 : Nat) : Int)))]) hx hb dX5_chosen_5 rfl hl (by decide) rfl (fun ls hl => ?_)
  refine z_iconst hx hb dX5_chosen_6 ?_
  refine lv_istore (lv' := [(4, .int (zI 0)), (3, .int (zI (f 1))), (0, .ref h5), (1, .ref h0), (2, .int (zI ((L1 : Nat) : Int)))]) hx hb dX5_chosen_7 hl (by decide) rfl (fun ls hl => ?_)
  refine z_iconst hx hb dX5_chosen_9 ?_
  refine lv_istore (lv' := [(5, .int (zI 0)), (4, .int (zI 0)), (3, .int (zI (f 1))), (0, .ref h5), (1, .ref h0), (2, .int (zI ((L1 : Nat) : Int)))]) hx hb dX5_chosen_10 hl (by decide) rfl (fun ls hl => ?_)
  have L12 : ∀ (NN12 : Nat), ∀ (kk : Nat) (SS : Nat), (kk ≤ nT f) → (chI f o L1 kk SS) → (((ct (fun j => onL f (o j).toNat L1) kk : Nat) : Int) ≤ f 1) → nT f - kk < NN12 → ∀ (ls : Array Slot), lv_has ls 6 [(0, .ref h5), (1, .ref h0), (2, .int (zI ((L1 : Nat) : Int))), (3, .int (zI (f 1 - ((ct (fun j => onL f (o j).toNat L1) kk : Nat) : Int)))), (4, .int (zI ((SS : Nat) : Int))), (5, .int (zI ((kk : Nat) : Int)))] → W p l e (headSpec wsX5_chosen { frames := 2, cells := 0, slots := 0, locals := 44 }).room s m ([.ref h5, .ref h0, .int (zI ((L1 : Nat) : Int))] : List Value).toArray below meth c s.heap [] 0 0 (MQ below (vp_Si (fun r => r = zI ((drS f ru (f 1) L1 : Nat) : Int))) ([.ref h5, .ref h0, .int (zI ((L1 : Nat) : Int))] : List Value).toArray s 0 0 (fun _ => False)) (F0 m 12 ls []) := by
    intro NN12
    induction NN12 with
    | zero => intro kk SS _ _ _ hN; exact absurd hN (Nat.not_lt_zero _)
    | succ NN12 ih12 =>
      intro kk SS hkk hI hc hN ls hl
      have hSS := hI.1
      refine lv_iload hx hb dX5_chosen_12 (lv_at hl 5 rfl) ?_
      refine lv_aload_n hx hb dX5_chosen_14 rfl (lv_at hl 1 rfl) ?_
      refine z_iconst hx hb dX5_chosen_15 ?_
      refine roV (n := 1) (As := [.int (zI ((0 : Nat) : Int))]) (rest := [.int (zI ((kk : Nat) : Int))]) hSf (c_cell l D k h0 c0 f 0 (by omega)) gX5_chosen_X7_cell rfl (by decide +kernel) ⟨Nat.le_of_ble_eq_true rfl, Nat.le_of_ble_eq_true rfl⟩ hK hP [0, 1] rfl 0 rfl rfl rfl hl.1 (by rw [show zI 0 = zI ((0 : Nat) : Int) from zc (by omega)]; rfl) (Nat.le_of_ble_eq_true rfl) dX5_chosen_16 ⟨Nat.zero_le _, Nat.zero_le _⟩ (fun r_16 h_16 => ?_)
      subst h_16
      refine z_icmp_ge (tgt := 64) hx hb dX5_chosen_19 (by decide) (by omega) (by omega) (fun c_19 => ?_) (fun c_19 => ?_)
      · refine lv_iload hx hb dX5_chosen_64 (lv_at hl 4 rfl) ?_
        exact W.iret hx hb hr (fun t ht hW => ⟨_, rfl, zc (congrArg Nat.cast (chI_end hO hkk hI hc (Or.inl (by omega)))), ht⟩) (fun q hq => by cases hq) dX5_chosen_66
      · have ho := hO.1 kk (by omega)
        refine lv_iload_n hx hb dX5_chosen_22 rfl (lv_at hl 3 rfl) ?_
        refine z_if_le (tgt := 64) hx hb dX5_chosen_23 (by decide) (by omega) (fun c_23 => ?_) (fun c_23 => ?_)
        · refine lv_iload hx hb dX5_chosen_64 (lv_at hl 4 rfl) ?_
          exact W.iret hx hb hr (fun t ht hW => ⟨_, rfl, zc (congrArg Nat.cast (chI_end hO hkk hI hc (Or.inr (by omega)))), ht⟩) (fun q hq => by cases hq) dX5_chosen_66
        · refine lv_aload_n hx hb dX5_chosen_26 rfl (lv_at hl 1 rfl) ?_
          refine lv_aload_n hx hb dX5_chosen_27 rfl (lv_at hl 0 rfl) ?_
          refine va_get (D := D) (ci := 5) (v := .ref a5) (C := RX5) (T := TX5) (N := 1) hx hb hts hinX5 hown hK.1 hP 2 rfl rfl 0 (by decide) fl9 (fun _ h9 => h9) rfl dX5_chosen_28 ?_
          refine lv_iload hx hb dX5_chosen_31 (lv_at hl 5 rfl) ?_
          refine z_ald hx hb hK hP 3 rfl (kk) (by omega) (by omega) (Nat.le_of_ble_eq_true rfl) dX5_chosen_33 ?_
          refine lv_iload_n hx hb dX5_chosen_34 rfl (lv_at hl 2 rfl) ?_
          refine roV (n := 2) (As := [.int (zI ((((o kk).toNat) : Nat) : Int)), .int (zI ((L1 : Nat) : Int))]) (rest := []) hSf (c_isOn l D k h0 c0 f B hV ((o kk).toNat) L1 (by omega) hL1) gX5_chosen_X7_isOn rfl (by decide +kernel) ⟨Nat.le_of_ble_eq_true rfl, Nat.le_of_ble_eq_true rfl⟩ hK hP [0, 1] rfl 0 rfl rfl rfl hl.1 (by rw [show zI (o kk) = zI ((((o kk).toNat) : Nat) : Int) from zc (by omega)]; rfl) (Nat.le_of_ble_eq_true rfl) dX5_chosen_35 ⟨Nat.zero_le _, Nat.zero_le _⟩ (fun r_35 h_35 => ?_)
          subst h_35
          refine z_if_eqb (tgt := 58) hx hb dX5_chosen_38 (by decide) (fun c_38 => ?_) (fun c_38 => ?_)
          · refine lv_iinc (v := zI (((kk : Nat) : Int) + 1)) (lv' := [(5, .int (zI (((kk : Nat) : Int) + 1))), (0, .ref h5), (1, .ref h0), (2, .int (zI ((L1 : Nat) : Int))), (3, .int (zI (f 1 - ((ct (fun j => onL f (o j).toNat L1) kk : Nat) : Int)))), (4, .int (zI ((SS : Nat) : Int)))]) hx hb dX5_chosen_58 hl (k := 5) rfl (zI_add _ _) (by decide) rfl (fun ls hl => ?_)
            refine lv_goto (tgt := 12) hx hb dX5_chosen_61 (by decide) ?_
            have hl : lv_has ls 6 [(5, .int (zI (((kk : Nat) : Int) + 1))), (0, .ref h5), (1, .ref h0), (2, .int (zI ((L1 : Nat) : Int))), (3, .int (zI (f 1 - ((ct (fun j => onL f (o j).toNat L1) (kk + 1) : Nat) : Int)))), (4, .int (zI ((SS : Nat) : Int)))] := lv_c (l1 := [(5, .int (zI (((kk : Nat) : Int) + 1))), (0, .ref h5), (1, .ref h0), (2, .int (zI ((L1 : Nat) : Int)))]) (l2 := [(4, .int (zI ((SS : Nat) : Int)))]) hl (show f 1 - ((ct (fun j => onL f (o j).toNat L1) kk : Nat) : Int) = f 1 - ((ct (fun j => onL f (o j).toNat L1) (kk + 1) : Nat) : Int) from by rw [ct, c_38]; rfl)
            have hl : lv_has ls 6 [(5, .int (zI (((kk + 1) : Nat) : Int))), (0, .ref h5), (1, .ref h0), (2, .int (zI ((L1 : Nat) : Int))), (3, .int (zI (f 1 - ((ct (fun j => onL f (o j).toNat L1) (kk + 1) : Nat) : Int)))), (4, .int (zI ((SS : Nat) : Int)))] := lv_c (l1 := []) (l2 := [(0, .ref h5), (1, .ref h0), (2, .int (zI ((L1 : Nat) : Int))), (3, .int (zI (f 1 - ((ct (fun j => onL f (o j).toNat L1) (kk + 1) : Nat) : Int)))), (4, .int (zI ((SS : Nat) : Int)))]) hl (show ((kk : Nat) : Int) + 1 = (((kk + 1) : Nat) : Int) from by omega)
            exact ih12 (kk + 1) SS (by omega) (chI_n hI c_38) (by rw [ct, c_38]; exact hc) (by omega) ls (lv_sub hl [1, 2, 3, 4, 5, 0] rfl)
          · refine lv_iload hx hb dX5_chosen_41 (lv_at hl 4 rfl) ?_
            refine z_iconst hx hb dX5_chosen_43 ?_
            refine lv_aload_n hx hb dX5_chosen_44 rfl (lv_at hl 0 rfl) ?_
            refine va_get (D := D) (ci := 5) (v := .ref a5) (C := RX5) (T := TX5) (N := 1) hx hb hts hinX5 hown hK.1 hP 2 rfl rfl 0 (by decide) fl9 (fun _ h9 => h9) rfl dX5_chosen_45 ?_
            refine lv_iload hx hb dX5_chosen_48 (lv_at hl 5 rfl) ?_
            refine z_ald hx hb hK hP 3 rfl (kk) (by omega) (by omega) (Nat.le_of_ble_eq_true rfl) dX5_chosen_50 ?_
            refine z_ishl hx hb dX5_chosen_51 (1) ((o kk).toNat) (by omega) (by omega) (by omega) (sh1_lt (n := 12) (by omega) (by decide)) ?_
            refine z_ior hx hb dX5_chosen_52 (SS) (1 <<< ((o kk).toNat)) (by omega) (by omega) ?_
            refine lv_istore (lv' := [(4, .int (zI ((SS ||| (1 <<< ((o kk).toNat)) : Nat) : Int))), (0, .ref h5), (1, .ref h0), (2, .int (zI ((L1 : Nat) : Int))), (3, .int (zI (f 1 - ((ct (fun j => onL f (o j).toNat L1) kk : Nat) : Int)))), (5, .int (zI ((kk : Nat) : Int)))]) hx hb dX5_chosen_53 hl (by decide) rfl (fun ls hl => ?_)
            refine lv_iinc (v := zI ((f 1 - ((ct (fun j => onL f (o j).toNat L1) kk : Nat) : Int)) + (-1))) (lv' := [(3, .int (zI ((f 1 - ((ct (fun j => onL f (o j).toNat L1) kk : Nat) : Int)) + (-1)))), (4, .int (zI ((SS ||| (1 <<< ((o kk).toNat)) : Nat) : Int))), (0, .ref h5), (1, .ref h0), (2, .int (zI ((L1 : Nat) : Int))), (5, .int (zI ((kk : Nat) : Int)))]) hx hb dX5_chosen_55 hl (k := 4) rfl (zI_add _ _) (by decide) rfl (fun ls hl => ?_)
            refine lv_iinc (v := zI (((kk : Nat) : Int) + 1)) (lv' := [(5, .int (zI (((kk : Nat) : Int) + 1))), (3, .int (zI ((f 1 - ((ct (fun j => onL f (o j).toNat L1) kk : Nat) : Int)) + (-1)))), (4, .int (zI ((SS ||| (1 <<< ((o kk).toNat)) : Nat) : Int))), (0, .ref h5), (1, .ref h0), (2, .int (zI ((L1 : Nat) : Int)))]) hx hb dX5_chosen_58 hl (k := 5) rfl (zI_add _ _) (by decide) rfl (fun ls hl => ?_)
            refine lv_goto (tgt := 12) hx hb dX5_chosen_61 (by decide) ?_
            have hl : lv_has ls 6 [(5, .int (zI (((kk : Nat) : Int) + 1))), (3, .int (zI (f 1 - ((ct (fun j => onL f (o j).toNat L1) (kk + 1) : Nat) : Int)))), (4, .int (zI ((SS ||| (1 <<< ((o kk).toNat)) : Nat) : Int))), (0, .ref h5), (1, .ref h0), (2, .int (zI ((L1 : Nat) : Int)))] := lv_c (l1 := [(5, .int (zI (((kk : Nat) : Int) + 1)))]) (l2 := [(4, .int (zI ((SS ||| (1 <<< ((o kk).toNat)) : Nat) : Int))), (0, .ref h5), (1, .ref h0), (2, .int (zI ((L1 : Nat) : Int)))]) hl (show (f 1 - ((ct (fun j => onL f (o j).toNat L1) kk : Nat) : Int)) + (-1) = f 1 - ((ct (fun j => onL f (o j).toNat L1) (kk + 1) : Nat) : Int) from by rw [ct, c_38]; have t1 : (true).toNat = 1 := rfl; omega)
            have hl : lv_has ls 6 [(5, .int (zI (((kk + 1) : Nat) : Int))), (3, .int (zI (f 1 - ((ct (fun j => onL f (o j).toNat L1) (kk + 1) : Nat) : Int)))), (4, .int (zI ((SS ||| (1 <<< ((o kk).toNat)) : Nat) : Int))), (0, .ref h5), (1, .ref h0), (2, .int (zI ((L1 : Nat) : Int)))] := lv_c (l1 := []) (l2 := [(3, .int (zI (f 1 - ((ct (fun j => onL f (o j).toNat L1) (kk + 1) : Nat) : Int)))), (4, .int (zI ((SS ||| (1 <<< ((o kk).toNat)) : Nat) : Int))), (0, .ref h5), (1, .ref h0), (2, .int (zI ((L1 : Nat) : Int)))]) hl (show ((kk : Nat) : Int) + 1 = (((kk + 1) : Nat) : Int) from by omega)
            exact ih12 (kk + 1) (SS ||| 1 <<< (o kk).toNat) (by omega) (chI_y hI (by omega) c_38) (by rw [ct, c_38]; have t1 : (true).toNat = 1 := rfl; omega) (by omega) ls (lv_sub hl [3, 4, 5, 1, 2, 0] rfl)
  have hl : lv_has ls 6 [(5, .int (zI 0)), (4, .int (zI 0)), (3, .int (zI (f 1 - ((ct (fun j => onL f (o j).toNat L1) 0 : Nat) : Int)))), (0, .ref h5), (1, .ref h0), (2, .int (zI ((L1 : Nat) : Int)))] := lv_c (l1 := [(5, .int (zI 0)), (4, .int (zI 0))]) (l2 := [(0, .ref h5), (1, .ref h0), (2, .int (zI ((L1 : Nat) : Int)))]) hl (show f 1 = f 1 - ((ct (fun j => onL f (o j).toNat L1) 0 : Nat) : Int) from by show f 1 = f 1 - ((0 : Nat) : Int); omega)
  have hl : lv_has ls 6 [(5, .int (zI 0)), (4, .int (zI ((0 : Nat) : Int))), (3, .int (zI (f 1 - ((ct (fun j => onL f (o j).toNat L1) 0 : Nat) : Int)))), (0, .ref h5), (1, .ref h0), (2, .int (zI ((L1 : Nat) : Int)))] := lv_c (l1 := [(5, .int (zI 0))]) (l2 := [(3, .int (zI (f 1 - ((ct (fun j => onL f (o j).toNat L1) 0 : Nat) : Int)))), (0, .ref h5), (1, .ref h0), (2, .int (zI ((L1 : Nat) : Int)))]) hl (show 0 = ((0 : Nat) : Int) from rfl)
  have hl : lv_has ls 6 [(5, .int (zI ((0 : Nat) : Int))), (4, .int (zI ((0 : Nat) : Int))), (3, .int (zI (f 1 - ((ct (fun j => onL f (o j).toNat L1) 0 : Nat) : Int)))), (0, .ref h5), (1, .ref h0), (2, .int (zI ((L1 : Nat) : Int)))] := lv_c (l1 := []) (l2 := [(4, .int (zI ((0 : Nat) : Int))), (3, .int (zI (f 1 - ((ct (fun j => onL f (o j).toNat L1) 0 : Nat) : Int)))), (0, .ref h5), (1, .ref h0), (2, .int (zI ((L1 : Nat) : Int)))]) hl (show 0 = ((0 : Nat) : Int) from rfl)
  exact L12 _ 0 0 (Nat.zero_le _) chI_0 (by show ((0 : Nat) : Int) ≤ f 1; omega) (Nat.lt_succ_self _) ls (lv_sub hl [3, 4, 5, 2, 1, 0] rfl)
end
section
/-! A PAINTED LINE: masks of 32 columns, column 0 the highest bit -/
def nF (a : Nat → Nat) : Nat → Int := fun i => (a i : Int)
def upN (a : Nat → Nat) (k v : Nat) : Nat → Nat := fun j => if j = k then v else a j
theorem upN_s {a : Nat → Nat} {k v : Nat} : upN a k v k = v := if_pos rfl
theorem upN_n {a : Nat → Nat} {k j v : Nat} (h : j ≠ k) : upN a k v j = a j := if_neg h
theorem nF_up (a : Nat → Nat) (k v : Nat) : upZ (nF a) k (v : Int) = nF (upN a k v) := by
  funext j
  unfold upZ nF upN
  split <;> rfl
def fiN (a : Nat → Nat) (n : Nat) : Nat → Nat := fun i => if i < n then 0 else a i
theorem nF_fill (a : Nat → Nat) (n : Nat) : fillZ (nF a) n 0 = nF (fiN a n) := by
  funext j
  unfold fillZ nF fiN
  split <;> rfl
/-- what stands when all in S with a number (LEVEL, number) below K are painted -/
def paI (f : St) (S L : Nat) (K : Int) (sn pn : Nat → Nat) (fl : Nat) : Prop :=
  fl < 4294967296 ∧ (∀ t, t < 12 → sn t < 4294967296) ∧ (∀ b, b < 3 → pn b < 4294967296) ∧
  (∀ i, fl.testBit i = true ↔ ∃ u, u < nT f ∧ S.testBit u = true ∧ key f u < K ∧ (dotsN f u L).testBit i = true) ∧
  (∀ t, t < 12 → ∀ i, (sn t).testBit i = true ↔ t < nT f ∧ S.testBit t = true ∧ key f t < K ∧ (dotsN f t L).testBit i = true ∧ ∀ u, u < nT f → S.testBit u = true → (dotsN f u L).testBit i = true → key f t ≤ key f u) ∧
  (∀ b, b < 3 → ∀ i, (pn b).testBit i = true ↔ ∃ t, t < nT f ∧ (sn t).testBit i = true ∧ (th f t 5).toNat.testBit b = true)
theorem paI_0 {f : St} {B : Int} {S L : Nat} {sn pn : Nat → Nat} (hV : Va B f) : paI f S L 0 (fiN sn 12) (fiN pn 3) 0 := by
  have hk : ∀ u, u < nT f → ¬ key f u < 0 := fun u hu => by have := hV.t hu; unfold key; omega
  have hn := hV.n
  have h0 : ∀ t, t < 12 → fiN sn 12 t = 0 := fun t ht => if_pos ht
  have h1 : ∀ b, b < 3 → fiN pn 3 b = 0 := fun t ht => if_pos ht
  refine ⟨by decide, fun t ht => by rw [h0 t ht]; decide, fun b hb => by rw [h1 b hb]; decide, fun i => ?_, fun t ht i => ?_, fun b hb i => ?_⟩
  · rw [Nat.zero_testBit]
    exact ⟨fun h => absurd h (by decide), fun ⟨u, hu, _, hk2, _⟩ => absurd hk2 (hk u hu)⟩
  · rw [h0 t ht, Nat.zero_testBit]
    exact ⟨fun h => absurd h (by decide), fun ⟨hu, _, hk2, _⟩ => absurd hk2 (hk t hu)⟩
  · rw [h1 b hb, Nat.zero_testBit]
    refine ⟨fun h => absurd h (by decide), fun ⟨t, ht, h2, _⟩ => ?_⟩
    rw [h0 t (by omega), Nat.zero_testBit] at h2
    exact absurd h2 (by decide)
theorem paI_mv {f : St} {S L : Nat} {K K2 : Int} {sn pn : Nat → Nat} {fl : Nat} (h : paI f S L K sn pn fl) (he : ∀ u, u < nT f → S.testBit u = true → (key f u < K ↔ key f u < K2)) : paI f S L K2 sn pn fl := by
  obtain ⟨a1, a2, a3, a4, a5, a6⟩ := h
  refine ⟨a1, a2, a3, fun i => (a4 i).trans ⟨fun ⟨u, h1, h2, h3, h4⟩ => ⟨u, h1, h2, (he u h1 h2).mp h3, h4⟩, fun ⟨u, h1, h2, h3, h4⟩ => ⟨u, h1, h2, (he u h1 h2).mpr h3, h4⟩⟩, fun t ht i => (a5 t ht i).trans ⟨fun ⟨h1, h2, h3, h4⟩ => ⟨h1, h2, (he t h1 h2).mp h3, h4⟩, fun ⟨h1, h2, h3, h4⟩ => ⟨h1, h2, (he t h1 h2).mpr h3, h4⟩⟩, a6⟩
theorem paI_sk {f : St} {B : Int} {S L lv tt : Nat} {sn pn : Nat → Nat} {fl : Nat} (hV : Va B f) (h : paI f S L (16 * (lv : Int) + (tt : Int)) sn pn fl) (hne : S.testBit tt = false ∨ th f tt 4 ≠ lv) (ht : tt < 12) : paI f S L (16 * (lv : Int) + ((tt + 1 : Nat) : Int)) sn pn fl := paI_mv h (fun u hu hs => by
  have hn := hV.n
  have hw := hV.t hu
  unfold key
  by_cases q : u = tt
  · subst q
    rcases hne with hne | hne
    · rw [hne] at hs; cases hs
    · omega
  · omega)
def plJ (pn : Nat → Nat) (co v j : Nat) : Nat → Nat := fun b => if b < j ∧ co.testBit b = true then pn b ||| v else pn b
theorem plJ_0 (pn : Nat → Nat) (co v : Nat) : plJ pn co v 0 = pn := by
  funext b
  unfold plJ
  rw [if_neg (by omega)]
theorem plJ_t {pn : Nat → Nat} {co v j : Nat} (h : co.testBit j = true) : upN (plJ pn co v j) j (plJ pn co v j j ||| v) = plJ pn co v (j + 1) := by
  funext b
  unfold upN plJ
  by_cases q : b = j
  · subst q
    rw [if_pos rfl, if_neg (by omega), if_pos ⟨by omega, h⟩]
  · rw [if_neg q]
    have : (b < j ∧ co.testBit b = true) ↔ (b < j + 1 ∧ co.testBit b = true) := by constructor <;> (rintro ⟨h1, h2⟩; exact ⟨by omega, h2⟩)
    simp only [this]
theorem plJ_f {pn : Nat → Nat} {co v j : Nat} (h : co.testBit j = false) : plJ pn co v j = plJ pn co v (j + 1) := by
  funext b
  unfold plJ
  by_cases q : b = j
  · subst q
    rw [if_neg (by omega), if_neg (by rw [h]; rintro ⟨-, h2⟩; cases h2)]
  · have : (b < j ∧ co.testBit b = true) ↔ (b < j + 1 ∧ co.testBit b = true) := by constructor <;> (rintro ⟨h1, h2⟩; exact ⟨by omega, h2⟩)
    simp only [this]
theorem not_bit {fl : Nat} (h : fl < 4294967296) (i : Nat) : (2 ^ 32 - (fl + 1)).testBit i = (decide (i < 32) && !fl.testBit i) := Nat.testBit_two_pow_sub_succ (by omega) i
theorem bit_big {a i : Nat} (h : a < 4294967296) (hi : 32 ≤ i) : a.testBit i = false := Nat.testBit_lt_two_pow (Nat.lt_of_lt_of_le (show a < 2 ^ 32 by omega) (Nat.pow_le_pow_right (by decide) hi))
theorem paI_put {f : St} {B : Int} {S L lv tt : Nat} {sn pn : Nat → Nat} {fl : Nat} (hV : Va B f) (h : paI f S L (16 * (lv : Int) + (tt : Int)) sn pn fl) (ht : tt < nT f) (hs : S.testBit tt = true) (hl : th f tt 4 = lv) :
    paI f S L (16 * (lv : Int) + ((tt + 1 : Nat) : Int)) (upN sn tt (dotsN f tt L &&& (2 ^ 32 - (fl + 1)))) (plJ pn (th f tt 5).toNat (dotsN f tt L &&& (2 ^ 32 - (fl + 1))) 3) (fl ||| dotsN f tt L) := by
  obtain ⟨a1, a2, a3, a4, a5, a6⟩ := h
  have hn := hV.n
  have hd := dotsN_lt f tt L
  have hkt : key f tt = 16 * (lv : Int) + (tt : Int) := by unfold key; omega
  have hv1 : dotsN f tt L &&& (2 ^ 32 - (fl + 1)) < 4294967296 := Nat.and_lt_two_pow (n := 32) _ (by omega)
  have hkey : ∀ u, u < nT f → (key f u < 16 * (lv : Int) + ((tt + 1 : Nat) : Int) ↔ key f u < 16 * (lv : Int) + (tt : Int) ∨ u = tt) := by
    intro u hu
    have hw := hV.t hu
    unfold key
    by_cases q : u = tt
    · subst q; omega
    · omega
  have hnew : ∀ i, (dotsN f tt L &&& (2 ^ 32 - (fl + 1))).testBit i = true ↔ (dotsN f tt L).testBit i = true ∧ ∀ u, u < nT f → S.testBit u = true → (dotsN f u L).testBit i = true → key f tt ≤ key f u := by
    intro i
    rw [Nat.testBit_and, not_bit a1, Bool.and_eq_true, Bool.and_eq_true, decide_eq_true_eq, Bool.not_eq_true']
    constructor
    · rintro ⟨h1, h2, h3⟩
      refine ⟨h1, fun u hu hus hud => ?_⟩
      rcases Int.lt_or_le (key f u) (key f tt) with q | q
      · have := (a4 i).mpr ⟨u, hu, hus, by rw [← hkt]; exact q, hud⟩
        rw [this] at h3
        cases h3
      · exact q
    · rintro ⟨h1, h2⟩
      refine ⟨h1, ?_, ?_⟩
      · rcases Nat.lt_or_ge i 32 with q | q
        · exact q
        · rw [bit_big hd q] at h1; cases h1
      · rw [Bool.eq_false_iff]
        intro h3
        obtain ⟨u, hu, hus, huk, hud⟩ := (a4 i).mp h3
        have := h2 u hu hus hud
        omega
  have hold : ∀ t, t < 12 → t ≠ tt → upN sn tt (dotsN f tt L &&& (2 ^ 32 - (fl + 1))) t = sn t := fun t _ q => upN_n q
  refine ⟨Nat.or_lt_two_pow (n := 32) a1 hd, fun t h1 => ?_, fun b hb => ?_, fun i => ?_, fun t h1 i => ?_, fun b hb i => ?_⟩
  · by_cases q : t = tt
    · subst q; rw [upN_s]; exact hv1
    · rw [upN_n q]; exact a2 t h1
  · unfold plJ
    split
    · exact Nat.or_lt_two_pow (n := 32) (a3 b hb) hv1
    · exact a3 b hb
  · rw [Nat.testBit_or, Bool.or_eq_true, a4 i]
    constructor
    · rintro (⟨u, h1, h2, h3, h4⟩ | h1)
      · exact ⟨u, h1, h2, (hkey u h1).mpr (Or.inl h3), h4⟩
      · exact ⟨tt, ht, hs, (hkey tt ht).mpr (Or.inr rfl), h1⟩
    · rintro ⟨u, h1, h2, h3, h4⟩
      rcases (hkey u h1).mp h3 with q | q
      · exact Or.inl ⟨u, h1, h2, q, h4⟩
      · subst q; exact Or.inr h4
  · by_cases q : t = tt
    · subst q
      rw [upN_s, hnew i]
      constructor
      · rintro ⟨g1, g2⟩
        exact ⟨ht, hs, (hkey t ht).mpr (Or.inr rfl), g1, g2⟩
      · rintro ⟨-, -, -, g1, g2⟩
        exact ⟨g1, g2⟩
    · rw [upN_n q, a5 t h1 i]
      constructor
      · rintro ⟨g1, g2, g3, g4⟩
        exact ⟨g1, g2, (hkey t g1).mpr (Or.inl g3), g4⟩
      · rintro ⟨g1, g2, g3, g4⟩
        rcases (hkey t g1).mp g3 with z | z
        · exact ⟨g1, g2, z, g4⟩
        · exact absurd z q
  · have hzero : ∀ i, (sn tt).testBit i = true → False := by
      intro i hh
      obtain ⟨-, -, g3, -⟩ := (a5 tt (by omega) i).mp hh
      omega
    have hex : (∃ t, t < nT f ∧ (upN sn tt (dotsN f tt L &&& (2 ^ 32 - (fl + 1))) t).testBit i = true ∧ (th f t 5).toNat.testBit b = true) ↔ ((pn b).testBit i = true ∨ ((dotsN f tt L &&& (2 ^ 32 - (fl + 1))).testBit i = true ∧ (th f tt 5).toNat.testBit b = true)) := by
      rw [a6 b hb i]
      constructor
      · rintro ⟨t, g1, g2, g3⟩
        by_cases q : t = tt
        · subst q; rw [upN_s] at g2; exact Or.inr ⟨g2, g3⟩
        · rw [upN_n q] at g2; exact Or.inl ⟨t, g1, g2, g3⟩
      · rintro (⟨t, g1, g2, g3⟩ | ⟨g2, g3⟩)
        · by_cases q : t = tt
          · subst q; exact (hzero i g2).elim
          · exact ⟨t, g1, by rw [upN_n q]; exact g2, g3⟩
        · exact ⟨tt, ht, by rw [upN_s]; exact g2, g3⟩
    rw [hex]
    unfold plJ
    by_cases q : (th f tt 5).toNat.testBit b = true
    · rw [if_pos ⟨hb, q⟩, Nat.testBit_or, Bool.or_eq_true]
      exact ⟨fun g => g.elim Or.inl (fun g => Or.inr ⟨g, q⟩), fun g => g.elim Or.inl (fun g => Or.inr g.1)⟩
    · rw [if_neg (fun g => q g.2)]
      exact ⟨Or.inl, fun g => g.elim id (fun g => absurd g.2 q)⟩
/-- who is SEEN at a dot, of those in S: the one of least LEVEL, then number; -1: none -/
def TopI (f : St) (S L cl : Nat) (r : Int) : Prop := (r = -1 ∧ ∀ u, u < nT f → S.testBit u = true → (dotsN f u L).testBit (31 - cl) = true → False) ∨ ∃ t : Nat, t < nT f ∧ r = t ∧ S.testBit t = true ∧ (dotsN f t L).testBit (31 - cl) = true ∧ ∀ u, u < nT f → S.testBit u = true → (dotsN f u L).testBit (31 - cl) = true → key f t ≤ key f u
theorem TopI.one {f : St} {S L cl : Nat} {r q : Int} (hn : nT f ≤ 12) (h1 : TopI f S L cl r) (h2 : TopI f S L cl q) : r = q := by
  rcases h1 with ⟨rfl, h1⟩ | ⟨t, ht, rfl, hs, hd, h1⟩
  · rcases h2 with ⟨rfl, -⟩ | ⟨u, hu, rfl, us, ud, -⟩
    · rfl
    · exact (h1 u hu us ud).elim
  · rcases h2 with ⟨rfl, h2⟩ | ⟨u, hu, rfl, us, ud, h2⟩
    · exact (h2 t ht hs hd).elim
    · have a := h1 u hu us ud
      have b := h2 t ht hs hd
      unfold key at a b
      omega
noncomputable def seenA (f : St) (S L cl : Nat) : Int := Classical.epsilon (TopI f S L cl)
theorem seenA_top {f : St} {S L cl : Nat} {r : Int} (h : TopI f S L cl r) : TopI f S L cl (seenA f S L cl) := Classical.epsilon_spec (p := TopI f S L cl) ⟨r, h⟩
theorem seenA_eq {f : St} {S L cl : Nat} {r : Int} (hn : nT f ≤ 12) (h : TopI f S L cl r) : r = seenA f S L cl := h.one hn (seenA_top h)
noncomputable def colA (f : St) (S L cl : Nat) : Int := if seenA f S L cl = -1 then 0 else th f (seenA f S L cl).toNat 5
theorem thing_bit {f : St} {S L : Nat} {sn pn : Nat → Nat} {fl : Nat} (h : paI f S L 64 sn pn fl) {t : Nat} (ht : t < 12) (i : Nat) (hV : ∀ u, u < nT f → key f u < 64) : (sn t).testBit i = true ↔ t < nT f ∧ S.testBit t = true ∧ (dotsN f t L).testBit i = true ∧ ∀ u, u < nT f → S.testBit u = true → (dotsN f u L).testBit i = true → key f t ≤ key f u := by
  rw [h.2.2.2.2.1 t ht i]
  exact ⟨fun ⟨a, b, _, d⟩ => ⟨a, b, d⟩, fun ⟨a, b, d⟩ => ⟨a, b, hV t a, d⟩⟩
theorem key_lt {f : St} {B : Int} (hV : Va B f) : ∀ u, u < nT f → key f u < 64 := fun u hu => by have := hV.t hu; have := hV.n; unfold key; omega
/-- the least of those that hold, by LEVEL and number, is there -/
theorem top_ex {f : St} {B : Int} (hV : Va B f) (P : Nat → Bool) : ∀ n, n ≤ nT f → (∀ u, u < n → P u = false) ∨ ∃ t, t < n ∧ P t = true ∧ ∀ u, u < n → P u = true → key f t ≤ key f u
  | 0, _ => Or.inl (fun u hu => absurd hu (Nat.not_lt_zero _))
  | n + 1, h => by
    rcases top_ex hV P n (by omega) with q | ⟨t, h1, h2, h3⟩
    · by_cases hp : P n = true
      · exact Or.inr ⟨n, by omega, hp, fun u hu hpu => by
          rcases Nat.lt_or_ge u n with z | z
          · rw [q u z] at hpu; cases hpu
          · rw [show u = n by omega]; exact Int.le_refl _⟩
      · refine Or.inl (fun u hu => ?_)
        rcases Nat.lt_or_ge u n with z | z
        · exact q u z
        · rw [show u = n by omega]; exact Bool.eq_false_iff.mpr hp
    · by_cases hp : P n = true ∧ key f n < key f t
      · refine Or.inr ⟨n, by omega, hp.1, fun u hu hpu => ?_⟩
        rcases Nat.lt_or_ge u n with z | z
        · have := h3 u z hpu; omega
        · rw [show u = n by omega]; exact Int.le_refl _
      · refine Or.inr ⟨t, by omega, h2, fun u hu hpu => ?_⟩
        rcases Nat.lt_or_ge u n with z | z
        · exact h3 u z hpu
        · rw [show u = n by omega] at hpu ⊢
          rcases Int.lt_or_le (key f n) (key f t) with y | y
          · exact absurd ⟨hpu, y⟩ hp
          · exact y
theorem seenA_ex {f : St} {B : Int} (hV : Va B f) (S L cl : Nat) : TopI f S L cl (seenA f S L cl) := by
  rcases top_ex hV (fun u => S.testBit u && (dotsN f u L).testBit (31 - cl)) (nT f) (Nat.le_refl _) with q | ⟨t, h1, h2, h3⟩
  · refine seenA_top (r := -1) (Or.inl ⟨rfl, fun u hu a b => ?_⟩)
    have := q u hu
    rw [a, b] at this
    cases this
  · rw [Bool.and_eq_true] at h2
    refine seenA_top (r := t) (Or.inr ⟨t, h1, rfl, h2.1, h2.2, fun u hu a b => h3 u hu (by rw [a, b]; rfl)⟩)
theorem seenA_rg {f : St} {B : Int} (hV : Va B f) (S L cl : Nat) : seenA f S L cl = -1 ∨ (0 ≤ seenA f S L cl ∧ seenA f S L cl < nT f) := by
  rcases seenA_ex hV S L cl with ⟨h, -⟩ | ⟨t, ht, h, -⟩
  · exact Or.inl h
  · exact Or.inr (by omega)
theorem colA_rg {f : St} {B : Int} (hV : Va B f) (S L cl : Nat) : 0 ≤ colA f S L cl ∧ colA f S L cl ≤ 7 := by
  unfold colA
  have h := seenA_rg hV S L cl
  by_cases q : seenA f S L cl = -1
  · rw [if_pos q]; decide
  · rw [if_neg q]
    have := hV.t (t := (seenA f S L cl).toNat) (by omega)
    omega
/-- bit b of the COLOUR that is seen is the plane's -/
theorem plane_col {f : St} {B : Int} {S L : Nat} {sn pn : Nat → Nat} {fl : Nat} (hV : Va B f) (h : paI f S L 64 sn pn fl) {b : Nat} (hb : b < 3) (cl : Nat) : (pn b).testBit (31 - cl) = (colA f S L cl).toNat.testBit b := by
  have hn := hV.n
  rw [Bool.eq_iff_iff, h.2.2.2.2.2 b hb]
  unfold colA
  constructor
  · rintro ⟨t, h1, h2, h3⟩
    have g := (thing_bit h (by omega) (31 - cl) (key_lt hV)).mp h2
    have e := seenA_eq (r := t) hn.2 (Or.inr ⟨t, g.1, rfl, g.2.1, g.2.2.1, g.2.2.2⟩)
    rw [← e, if_neg (by omega), Int.toNat_natCast]
    exact h3
  · intro h1
    rcases seenA_ex hV S L cl with ⟨e, -⟩ | ⟨t, ht, e, g1, g2, g3⟩
    · rw [if_pos e] at h1
      rw [show (0 : Int).toNat = 0 from rfl, Nat.zero_testBit] at h1
      cases h1
    · rw [e, if_neg (by omega), Int.toNat_natCast] at h1
      exact ⟨t, ht, (thing_bit h (by omega) (31 - cl) (key_lt hV)).mpr ⟨ht, g1, g2, g3⟩, h1⟩
def orX (a b : Nat → Nat) : Nat → Nat
  | 0 => 0
  | j + 1 => orX a b j ||| (a j ^^^ b j)
theorem bits3 {a b : Nat} (ha : a < 8) (hb : b < 8) : (a ≠ b) ↔ ((a.testBit 0 ^^ b.testBit 0) || (a.testBit 1 ^^ b.testBit 1) || (a.testBit 2 ^^ b.testBit 2)) = true := by
  have : ∀ a, a < 8 → ∀ b, b < 8 → ((a ≠ b) ↔ ((a.testBit 0 ^^ b.testBit 0) || (a.testBit 1 ^^ b.testBit 1) || (a.testBit 2 ^^ b.testBit 2)) = true) := by decide +kernel
  exact this a ha b hb
theorem orX_col {f : St} {B : Int} {S S2 L : Nat} {sn pn sn2 pn2 : Nat → Nat} {fl fl2 : Nat} (hV : Va B f) (h : paI f S L 64 sn pn fl) (h2 : paI f S2 L 64 sn2 pn2 fl2) (cl : Nat) : (orX pn pn2 3).testBit (31 - cl) = decide (colA f S L cl ≠ colA f S2 L cl) := by
  have e1 := colA_rg hV S L cl
  have e2 := colA_rg hV S2 L cl
  have b := bits3 (a := (colA f S L cl).toNat) (b := (colA f S2 L cl).toNat) (by omega) (by omega)
  rw [← plane_col hV h (by decide) cl, ← plane_col hV h2 (by decide) cl, ← plane_col hV h (by decide) cl, ← plane_col hV h2 (by decide) cl, ← plane_col hV h (by decide) cl, ← plane_col hV h2 (by decide) cl] at b
  rw [Bool.eq_iff_iff, decide_eq_true_eq, show (colA f S L cl ≠ colA f S2 L cl) ↔ ((colA f S L cl).toNat ≠ (colA f S2 L cl).toNat) by omega, b]
  simp only [orX, Nat.testBit_or, Nat.testBit_xor, Nat.zero_testBit, Bool.false_or]
theorem orX_lt {a b : Nat → Nat} (ha : ∀ j, j < 3 → a j < 4294967296) (hb : ∀ j, j < 3 → b j < 4294967296) : ∀ j, j ≤ 3 → orX a b j < 4294967296
  | 0, _ => by show 0 < 4294967296; decide
  | j + 1, h => Nat.or_lt_two_pow (n := 32) (orX_lt ha hb j (by omega)) (Nat.xor_lt_two_pow (n := 32) (ha j (by omega)) (hb j (by omega)))
theorem thing_none {f : St} {B : Int} {S L : Nat} {sn pn : Nat → Nat} {fl cl : Nat} (hV : Va B f) (h : paI f S L 64 sn pn fl) (hno : ∀ u, u < 12 → (sn u).testBit (31 - cl) = false) : TopI f S L cl (-1) := by
  have hn := hV.n
  rcases top_ex hV (fun u => S.testBit u && (dotsN f u L).testBit (31 - cl)) (nT f) (Nat.le_refl _) with q | ⟨t, h1, h2, h3⟩
  · refine Or.inl ⟨rfl, fun u hu a b => ?_⟩
    have := q u hu
    rw [a, b] at this
    cases this
  · rw [Bool.and_eq_true] at h2
    have g := (thing_bit h (by omega) (31 - cl) (key_lt hV)).mpr ⟨h1, h2.1, h2.2, fun u hu a b => h3 u hu (by rw [a, b]; rfl)⟩
    rw [hno t (by omega)] at g
    cases g
end
section
set_option maxHeartbeats 4000000 in
set_option maxRecDepth 100000 in
theorem c_paintBehind (l : Launch) (D : va_G) (k : Kt) (h6 : Nat) (s6 : Nat) (p6 : Nat) (sn : Nat → Nat) (pn : Nat → Nat) (fl : Nat) (t1 : Nat) (dd : Nat) (co : Nat) (ht1 : t1 < 12) (hfl : fl < 4294967296) (hco : co < 8) : MU l D k yX6_paintBehind wsX6_paintBehind 1 21 [.ref h6, .int (zI ((t1 : Nat) : Int)), .int (zI ((dd : Nat) : Int)), .int (zI ((co : Nat) : Int))] [(h6, .inr (6, [.ref s6, .ref p6, .int (zI ((fl : Nat) : Int))])), (s6, .inl (k.1, 12, .inl (zF (nF sn)))), (p6, .inl (k.1, 3, .inl (zF (nF pn))))] (fun (u : Unit) => True) (fun u => [(h6, .inr (6, [.ref s6, .ref p6, .int (zI ((fl ||| dd : Nat) : Int))])), (s6, .inl (k.1, 12, .inl (zF (nF (upN sn t1 (dd &&& (2 ^ 32 - (fl + 1)))))))), (p6, .inl (k.1, 3, .inl (zF (nF (plJ pn co (dd &&& (2 ^ 32 - (fl + 1))) 3)))))]) := by
  refine Met.ofW (cc := cX6_paintBehind) (maxL := 5) (ret := none) (by decide) rfl ?_
  intro p e s m args below meth c s₁ Bd hml hv
  obtain ⟨rfl, hP, hK, hD0⟩ := hv
  have hx := Bd.exec
  have hb := Bd.bytes
  have hr := Bd.returns
  have hts := atoms_spec (ws := wsX6_paintBehind) Bd.pre
  have hown : s.vm.findClass RX6 = some m.cls := findClass_of_methodNamed Bd.named
  have hlocks := Bd.notSynchronized
  have hSf : CallFix p m c cX6_paintBehind 5 s ([.ref h6, .int (zI ((t1 : Nat) : Int)), .int (zI ((dd : Nat) : Int)), .int (zI ((co : Nat) : Int))] : List Value).toArray wsX6_paintBehind RX6 := ⟨hx, hb, hml, hown, hts⟩
  have hD := fA_D hD0
  have hS : va_S (fA [(h6, .inr (6, [.ref s6, .ref p6, .int (zI ((fl : Nat) : Int))])), (s6, .inl (k.1, 12, .inl (zF (nF sn)))), (p6, .inl (k.1, 3, .inl (zF (nF pn))))]) s.heap s.heap [] := va_S.rf
  generalize hAe : fA [(h6, .inr (6, [.ref s6, .ref p6, .int (zI ((fl : Nat) : Int))])), (s6, .inl (k.1, 12, .inl (zF (nF sn)))), (p6, .inl (k.1, 3, .inl (zF (nF pn))))] = A at hD hS ⊢
  have hP : va_P D vwCl [(h6, .inr (6, [.ref s6, .ref p6, .int (zI ((fl : Nat) : Int))])), (s6, .inl (k.1, 12, .inl (zF (nF sn)))), (p6, .inl (k.1, 3, .inl (zF (nF pn))))] s.heap := hP
  have hinX6 : ∀ w ∈ u_ws RX6 TX6 3, w ∈ wsX6_paintBehind := by decide +kernel
  have fl9 := hts (.fieldLink RX6 9 "DotObjects$PaintedLine" "seen" "[I") (by decide +kernel)
  have fl24 := hts (.fieldLink RX6 24 "DotObjects$PaintedLine" "filled" "I") (by decide +kernel)
  have fl15 := hts (.fieldLink RX6 15 "DotObjects$PaintedLine" "planes" "[I") (by decide +kernel)
  have hl := lv_entry ([.ref h6, .int (zI ((t1 : Nat) : Int)), .int (zI ((dd : Nat) : Int)), .int (zI ((co : Nat) : Int))]) (n := 5) (Nat.le_of_ble_eq_true rfl)
  rw [lg_entry_eq]
  generalize (lg_sl ([.ref h6, .int (zI ((t1 : Nat) : Int)), .int (zI ((dd : Nat) : Int)), .int (zI ((co : Nat) : Int))]) ++ List.replicate (5 - (lg_sl ([.ref h6, .int (zI ((t1 : Nat) : Int)), .int (zI ((dd : Nat) : Int)), .int (zI ((co : Nat) : Int))])).length) Slot.unset).toArray = ls at hl ⊢
  have hl : lv_has ls 5 [(0, .ref h6), (1, .int (zI ((t1 : Nat) : Int))), (2, .int (zI ((dd : Nat) : Int))), (3, .int (zI ((co : Nat) : Int)))] := hl
  refine lv_aload_n hx hb dX6_paintBehind_0 rfl (lv_at hl 0 rfl) ?_
  refine va_get (D := D) (ci := 6) (v := .ref s6) (C := RX6) (T := TX6) (N := 3) hx hb hts hinX6 hown hK.1 hP 0 rfl rfl 0 (by decide) fl9 (fun _ h9 => h9) rfl dX6_paintBehind_1 ?_
  refine lv_iload_n hx hb dX6_paintBehind_4 rfl (lv_at hl 1 rfl) ?_
  refine lv_iload_n hx hb dX6_paintBehind_5 rfl (lv_at hl 2 rfl) ?_
  refine lv_aload_n hx hb dX6_paintBehind_6 rfl (lv_at hl 0 rfl) ?_
  refine va_get (D := D) (ci := 6) (v := .int (zI ((fl : Nat) : Int))) (C := RX6) (T := TX6) (N := 3) hx hb hts hinX6 hown hK.1 hP 0 rfl rfl 2 (by decide) fl24 (fun _ h9 => h9) rfl dX6_paintBehind_7 ?_
  refine z_iconst hx hb dX6_paintBehind_10 ?_
  refine z_not hx hb dX6_paintBehind_11 (fl) (by omega) (by omega) ?_
  refine z_iand hx hb dX6_paintBehind_12 (dd) (2 ^ 32 - (fl + 1)) (by omega) (by omega) ?_
  refine z_ast hx hb hK hP hD hS 1 rfl (t1) (by omega) (by omega) (Nat.le_of_ble_eq_true rfl) dX6_paintBehind_13 (fun H locs hP hD hS => ?_)
  have hP : va_P D vwCl [(h6, .inr (6, [.ref s6, .ref p6, .int (zI ((fl : Nat) : Int))])), (s6, .inl (k.1, 12, .inl (zF (upZ (nF sn) t1 ((dd &&& (2 ^ 32 - (fl + 1)) : Nat) : Int))))), (p6, .inl (k.1, 3, .inl (zF (nF pn))))] H := hP
  have hD : va_D A [(h6, .inr (6, [.ref s6, .ref p6, .int (zI ((fl : Nat) : Int))])), (s6, .inl (k.1, 12, .inl (zF (upZ (nF sn) t1 ((dd &&& (2 ^ 32 - (fl + 1)) : Nat) : Int))))), (p6, .inl (k.1, 3, .inl (zF (nF pn))))] := hD
  rw [show upZ (nF sn) t1 ((dd &&& (2 ^ 32 - (fl + 1)) : Nat) : Int) = nF (upN sn t1 (dd &&& (2 ^ 32 - (fl + 1)))) from nF_up _ _ _] at hP hD
  refine lv_aload_n hx hb dX6_paintBehind_14 rfl (lv_at hl 0 rfl) ?_
  refine lv_dup hx hb dX6_paintBehind_15 rfl ?_
  refine va_get (D := D) (ci := 6) (v := .int (zI ((fl : Nat) : Int))) (C := RX6) (T := TX6) (N := 3) hx hb hts hinX6 hown hK.1 hP 0 rfl rfl 2 (by decide) fl24 (fun _ h9 => h9) rfl dX6_paintBehind_16 ?_
  refine lv_iload_n hx hb dX6_paintBehind_19 rfl (lv_at hl 2 rfl) ?_
  refine z_ior hx hb dX6_paintBehind_20 (fl) (dd) (by omega) (by omega) ?_
  refine va_put (D := D) (ci := 6) (v := .int (zI ((fl ||| dd : Nat) : Int))) (ty := .int) (C := RX6) (T := TX6) (N := 3) hx hb hts hinX6 tyX6 tyX6_ok nmX6 hown hK.1 hP hD hS 0 rfl rfl 2 (by decide) fl24 (fun _ h9 => h9) rfl (by decide +kernel) rfl rfl (Nat.le_of_ble_eq_true rfl) dX6_paintBehind_21 (fun H locs hP hD hS => ?_)
  have hP : va_P D vwCl [(h6, .inr (6, [.ref s6, .ref p6, .int (zI ((fl ||| dd : Nat) : Int))])), (s6, .inl (k.1, 12, .inl (zF (nF (upN sn t1 (dd &&& (2 ^ 32 - (fl + 1)))))))), (p6, .inl (k.1, 3, .inl (zF (nF pn))))] H := hP
  have hD : va_D A [(h6, .inr (6, [.ref s6, .ref p6, .int (zI ((fl ||| dd : Nat) : Int))])), (s6, .inl (k.1, 12, .inl (zF (nF (upN sn t1 (dd &&& (2 ^ 32 - (fl + 1)))))))), (p6, .inl (k.1, 3, .inl (zF (nF pn))))] := hD
  refine z_iconst hx hb dX6_paintBehind_24 ?_
  refine lv_istore (lv' := [(4, .int (zI 0)), (0, .ref h6), (1, .int (zI ((t1 : Nat) : Int))), (2, .int (zI ((dd : Nat) : Int))), (3, .int (zI ((co : Nat) : Int)))]) hx hb dX6_paintBehind_25 hl (by decide) rfl (fun ls hl => ?_)
  have L27 : ∀ (NN27 : Nat), ∀ (jj : Nat), (jj ≤ 3) → 3 - jj < NN27 → ∀ (H : Heap) (locs : List Loc), va_P D vwCl [(h6, .inr (6, [.ref s6, .ref p6, .int (zI ((fl ||| dd : Nat) : Int))])), (s6, .inl (k.1, 12, .inl (zF (nF (upN sn t1 (dd &&& (2 ^ 32 - (fl + 1)))))))), (p6, .inl (k.1, 3, .inl (zF (nF (plJ pn co (dd &&& (2 ^ 32 - (fl + 1))) jj)))))] H → va_D A [(h6, .inr (6, [.ref s6, .ref p6, .int (zI ((fl ||| dd : Nat) : Int))])), (s6, .inl (k.1, 12, .inl (zF (nF (upN sn t1 (dd &&& (2 ^ 32 - (fl + 1)))))))), (p6, .inl (k.1, 3, .inl (zF (nF (plJ pn co (dd &&& (2 ^ 32 - (fl + 1))) jj)))))] → va_S A s.heap H locs → ∀ (ls : Array Slot), lv_has ls 5 [(0, .ref h6), (1, .int (zI ((t1 : Nat) : Int))), (2, .int (zI ((dd : Nat) : Int))), (3, .int (zI ((co : Nat) : Int))), (4, .int (zI ((jj : Nat) : Int)))] → W p l e (headSpec wsX6_paintBehind { frames := 1, cells := 0, slots := 0, locals := 21 }).room s m ([.ref h6, .int (zI ((t1 : Nat) : Int)), .int (zI ((dd : Nat) : Int)), .int (zI ((co : Nat) : Int))] : List Value).toArray below meth c H locs 0 0 (MQ below (va_Qv (fun (u : Unit) => True) (fun (u : Unit) t => va_P D vwCl [(h6, .inr (6, [.ref s6, .ref p6, .int (zI ((fl ||| dd : Nat) : Int))])), (s6, .inl (k.1, 12, .inl (zF (nF (upN sn t1 (dd &&& (2 ^ 32 - (fl + 1)))))))), (p6, .inl (k.1, 3, .inl (zF (nF (plJ pn co (dd &&& (2 ^ 32 - (fl + 1))) 3)))))] t.heap) A) ([.ref h6, .int (zI ((t1 : Nat) : Int)), .int (zI ((dd : Nat) : Int)), .int (zI ((co : Nat) : Int))] : List Value).toArray s 0 0 A) (F0 m 27 ls []) := by
    intro NN27
    induction NN27 with
    | zero => intro jj _ hN; exact absurd hN (Nat.not_lt_zero _)
    | succ NN27 ih27 =>
      intro jj hjj hN H locs hP hD hS ls hl
      refine lv_iload hx hb dX6_paintBehind_27 (lv_at hl 4 rfl) ?_
      refine z_iconst hx hb dX6_paintBehind_29 ?_
      refine z_icmp_ge (tgt := 64) hx hb dX6_paintBehind_30 (by decide) (by omega) (by omega) (fun c_30 => ?_) (fun c_30 => ?_)
      · obtain rfl : jj = 3 := by omega
        exact W.vret hx hb hr (fun t ht hW => ⟨⟨(), rfl, trivial, by show va_P D vwCl _ _; rw [ht]; exact hP⟩, hS.F ht⟩) hS.2.2 dX6_paintBehind_64
      · refine lv_iload_n hx hb dX6_paintBehind_33 rfl (lv_at hl 3 rfl) ?_
        refine lv_iload hx hb dX6_paintBehind_34 (lv_at hl 4 rfl) ?_
        refine roSN (n := 2) (As := [.int (zI ((co : Nat) : Int)), .int (zI ((jj : Nat) : Int))]) (rest := []) hSf (c_isInSet l D k co jj (by omega) (by omega)) gX6_paintBehind_X9_isInSet_n34 rfl hK.2.2.1 (hts (.initialized RX9) (by decide +kernel)) (hts (.static yX9_isInSet) (by decide +kernel)) (by decide +kernel) ⟨Nat.le_of_ble_eq_true rfl, Nat.le_of_ble_eq_true rfl⟩ hK hP [] rfl rfl hl.1 rfl (Nat.le_of_ble_eq_true rfl) dX6_paintBehind_36 ⟨Nat.zero_le _, Nat.zero_le _⟩ (fun r_36 h_36 => ?_)
        subst h_36
        refine z_if_eqb (tgt := 58) hx hb dX6_paintBehind_39 (by decide) (fun c_39 => ?_) (fun c_39 => ?_)
        · refine lv_iinc (v := zI (((jj : Nat) : Int) + 1)) (lv' := [(4, .int (zI (((jj : Nat) : Int) + 1))), (0, .ref h6), (1, .int (zI ((t1 : Nat) : Int))), (2, .int (zI ((dd : Nat) : Int))), (3, .int (zI ((co : Nat) : Int)))]) hx hb dX6_paintBehind_58 hl (k := 4) rfl (zI_add _ _) (by decide) rfl (fun ls hl => ?_)
          refine lv_goto (tgt := 27) hx hb dX6_paintBehind_61 (by decide) ?_
          have hl : lv_has ls 5 [(4, .int (zI (((jj + 1) : Nat) : Int))), (0, .ref h6), (1, .int (zI ((t1 : Nat) : Int))), (2, .int (zI ((dd : Nat) : Int))), (3, .int (zI ((co : Nat) : Int)))] := lv_c (l1 := []) (l2 := [(0, .ref h6), (1, .int (zI ((t1 : Nat) : Int))), (2, .int (zI ((dd : Nat) : Int))), (3, .int (zI ((co : Nat) : Int)))]) hl (show ((jj : Nat) : Int) + 1 = (((jj + 1) : Nat) : Int) from by omega)
          exact ih27 (jj + 1) (by omega) (by omega) _ _ (by rw [← plJ_f c_39]; exact hP) (by rw [← plJ_f c_39]; exact hD) hS ls (lv_sub hl [1, 2, 3, 4, 0] rfl)
        · refine lv_aload_n hx hb dX6_paintBehind_42 rfl (lv_at hl 0 rfl) ?_
          refine va_get (D := D) (ci := 6) (v := .ref p6) (C := RX6) (T := TX6) (N := 3) hx hb hts hinX6 hown hK.1 hP 0 rfl rfl 1 (by decide) fl15 (fun _ h9 => h9) rfl dX6_paintBehind_43 ?_
          refine lv_iload hx hb dX6_paintBehind_46 (lv_at hl 4 rfl) ?_
          refine lv_dup2_11 hx hb dX6_paintBehind_48 rfl rfl ?_
          refine z_ald hx hb hK hP 2 rfl (jj) (by omega) (by omega) (Nat.le_of_ble_eq_true rfl) dX6_paintBehind_49 ?_
          refine te (zc (show (nF (plJ pn co (dd &&& (2 ^ 32 - (fl + 1))) jj)) jj = (((plJ pn co (dd &&& (2 ^ 32 - (fl + 1))) jj) jj : Nat) : Int) from rfl)) ?_
          refine lv_aload_n hx hb dX6_paintBehind_50 rfl (lv_at hl 0 rfl) ?_
          refine va_get (D := D) (ci := 6) (v := .ref s6) (C := RX6) (T := TX6) (N := 3) hx hb hts hinX6 hown hK.1 hP 0 rfl rfl 0 (by decide) fl9 (fun _ h9 => h9) rfl dX6_paintBehind_51 ?_
          refine lv_iload_n hx hb dX6_paintBehind_54 rfl (lv_at hl 1 rfl) ?_
          refine z_ald hx hb hK hP 1 rfl (t1) (by omega) (by omega) (Nat.le_of_ble_eq_true rfl) dX6_paintBehind_55 ?_
          refine te (zc (show (nF (upN sn t1 (dd &&& (2 ^ 32 - (fl + 1))))) t1 = (((upN sn t1 (dd &&& (2 ^ 32 - (fl + 1)))) t1 : Nat) : Int) from rfl)) ?_
          refine te (zc (show (((upN sn t1 (dd &&& (2 ^ 32 - (fl + 1)))) t1 : Nat) : Int) = (((dd &&& (2 ^ 32 - (fl + 1))) : Nat) : Int) from by rw [upN_s])) ?_
          refine z_ior hx hb dX6_paintBehind_56 ((plJ pn co (dd &&& (2 ^ 32 - (fl + 1))) jj) jj) ((dd &&& (2 ^ 32 - (fl + 1)))) (by omega) (by omega) ?_
          refine z_ast hx hb hK hP hD hS 2 rfl (jj) (by omega) (by omega) (Nat.le_of_ble_eq_true rfl) dX6_paintBehind_57 (fun H locs hP hD hS => ?_)
          have hP : va_P D vwCl [(h6, .inr (6, [.ref s6, .ref p6, .int (zI ((fl ||| dd : Nat) : Int))])), (s6, .inl (k.1, 12, .inl (zF (nF (upN sn t1 (dd &&& (2 ^ 32 - (fl + 1)))))))), (p6, .inl (k.1, 3, .inl (zF (upZ (nF (plJ pn co (dd &&& (2 ^ 32 - (fl + 1))) jj)) jj ((((plJ pn co (dd &&& (2 ^ 32 - (fl + 1))) jj) jj) ||| (dd &&& (2 ^ 32 - (fl + 1))) : Nat) : Int)))))] H := hP
          have hD : va_D A [(h6, .inr (6, [.ref s6, .ref p6, .int (zI ((fl ||| dd : Nat) : Int))])), (s6, .inl (k.1, 12, .inl (zF (nF (upN sn t1 (dd &&& (2 ^ 32 - (fl + 1)))))))), (p6, .inl (k.1, 3, .inl (zF (upZ (nF (plJ pn co (dd &&& (2 ^ 32 - (fl + 1))) jj)) jj ((((plJ pn co (dd &&& (2 ^ 32 - (fl + 1))) jj) jj) ||| (dd &&& (2 ^ 32 - (fl + 1))) : Nat) : Int)))))] := hD
          rw [show upZ (nF (plJ pn co (dd &&& (2 ^ 32 - (fl + 1))) jj)) jj ((((plJ pn co (dd &&& (2 ^ 32 - (fl + 1))) jj) jj) ||| (dd &&& (2 ^ 32 - (fl + 1))) : Nat) : Int) = nF (upN (plJ pn co (dd &&& (2 ^ 32 - (fl + 1))) jj) jj (((plJ pn co (dd &&& (2 ^ 32 - (fl + 1))) jj) jj) ||| (dd &&& (2 ^ 32 - (fl + 1))))) from nF_up _ _ _] at hP hD
          refine lv_iinc (v := zI (((jj : Nat) : Int) + 1)) (lv' := [(4, .int (zI (((jj : Nat) : Int) + 1))), (0, .ref h6), (1, .int (zI ((t1 : Nat) : Int))), (2, .int (zI ((dd : Nat) : Int))), (3, .int (zI ((co : Nat) : Int)))]) hx hb dX6_paintBehind_58 hl (k := 4) rfl (zI_add _ _) (by decide) rfl (fun ls hl => ?_)
          refine lv_goto (tgt := 27) hx hb dX6_paintBehind_61 (by decide) ?_
          have hl : lv_has ls 5 [(4, .int (zI (((jj + 1) : Nat) : Int))), (0, .ref h6), (1, .int (zI ((t1 : Nat) : Int))), (2, .int (zI ((dd : Nat) : Int))), (3, .int (zI ((co : Nat) : Int)))] := lv_c (l1 := []) (l2 := [(0, .ref h6), (1, .int (zI ((t1 : Nat) : Int))), (2, .int (zI ((dd : Nat) : Int))), (3, .int (zI ((co : Nat) : Int)))]) hl (show ((jj : Nat) : Int) + 1 = (((jj + 1) : Nat) : Int) from by omega)
          exact ih27 (jj + 1) (by omega) (by omega) _ _ (by rw [← plJ_t c_39]; exact hP) (by rw [← plJ_t c_39]; exact hD) hS ls (lv_sub hl [1, 2, 3, 4, 0] rfl)
  have hl : lv_has ls 5 [(4, .int (zI ((0 : Nat) : Int))), (0, .ref h6), (1, .int (zI ((t1 : Nat) : Int))), (2, .int (zI ((dd : Nat) : Int))), (3, .int (zI ((co : Nat) : Int)))] := lv_c (l1 := []) (l2 := [(0, .ref h6), (1, .int (zI ((t1 : Nat) : Int))), (2, .int (zI ((dd : Nat) : Int))), (3, .int (zI ((co : Nat) : Int)))]) hl (show 0 = ((0 : Nat) : Int) from rfl)
  exact L27 _ 0 (by decide) (Nat.lt_succ_self _) _ _ (by rw [plJ_0]; exact hP) (by rw [plJ_0]; exact hD) hS ls (lv_sub hl [1, 2, 3, 4, 0] rfl)
set_option maxHeartbeats 4000000 in
set_option maxRecDepth 100000 in
theorem c_paint (l : Launch) (D : va_G) (k : Kt) (h0 : Nat) (c0 : Nat) (f : St) (B : Int) (hV : Va B f) (h6 : Nat) (s6 : Nat) (p6 : Nat) (sn : Nat → Nat) (pn : Nat → Nat) (fl : Nat) (L1 : Nat) (S1 : Nat) (hL1 : L1 < 24) (hS1 : S1 < 4096) : MU l D k yX6_paint wsX6_paint 2 47 [.ref h6, .ref h0, .int (zI ((L1 : Nat) : Int)), .int (zI ((S1 : Nat) : Int))] [(h0, .inr (7, [.ref c0])), (c0, .inl (k.1, 132, .inl (zF f))), (h6, .inr (6, [.ref s6, .ref p6, .int (zI ((fl : Nat) : Int))])), (s6, .inl (k.1, 12, .inl (zF (nF sn)))), (p6, .inl (k.1, 3, .inl (zF (nF pn))))] (fun (u : (Nat → Nat) × (Nat → Nat) × Nat) => paI f S1 L1 64 u.1 u.2.1 u.2.2) (fun u => [(h0, .inr (7, [.ref c0])), (c0, .inl (k.1, 132, .inl (zF f))), (h6, .inr (6, [.ref s6, .ref p6, .int (zI ((u.2.2 : Nat) : Int))])), (s6, .inl (k.1, 12, .inl (zF (nF u.1)))), (p6, .inl (k.1, 3, .inl (zF (nF u.2.1))))]) := by
  refine Met.ofW (cc := cX6_paint) (maxL := 6) (ret := none) (by decide) rfl ?_
  intro p e s m args below meth c s₁ Bd hml hv
  obtain ⟨rfl, hP, hK, hD0⟩ := hv
  have hx := Bd.exec
  have hb := Bd.bytes
  have hr := Bd.returns
  have hts := atoms_spec (ws := wsX6_paint) Bd.pre
  have hown : s.vm.findClass RX6 = some m.cls := findClass_of_methodNamed Bd.named
  have hlocks := Bd.notSynchronized
  have hSf : CallFix p m c cX6_paint 6 s ([.ref h6, .ref h0, .int (zI ((L1 : Nat) : Int)), .int (zI ((S1 : Nat) : Int))] : List Value).toArray wsX6_paint RX6 := ⟨hx, hb, hml, hown, hts⟩
  have hD := fA_D hD0
  have hS : va_S (fA [(h0, .inr (7, [.ref c0])), (c0, .inl (k.1, 132, .inl (zF f))), (h6, .inr (6, [.ref s6, .ref p6, .int (zI ((fl : Nat) : Int))])), (s6, .inl (k.1, 12, .inl (zF (nF sn)))), (p6, .inl (k.1, 3, .inl (zF (nF pn))))]) s.heap s.heap [] := va_S.rf
  generalize hAe : fA [(h0, .inr (7, [.ref c0])), (c0, .inl (k.1, 132, .inl (zF f))), (h6, .inr (6, [.ref s6, .ref p6, .int (zI ((fl : Nat) : Int))])), (s6, .inl (k.1, 12, .inl (zF (nF sn)))), (p6, .inl (k.1, 3, .inl (zF (nF pn))))] = A at hD hS ⊢
  have hP : va_P D vwCl [(h0, .inr (7, [.ref c0])), (c0, .inl (k.1, 132, .inl (zF f))), (h6, .inr (6, [.ref s6, .ref p6, .int (zI ((fl : Nat) : Int))])), (s6, .inl (k.1, 12, .inl (zF (nF sn)))), (p6, .inl (k.1, 3, .inl (zF (nF pn))))] s.heap := hP
  have hinX6 : ∀ w ∈ u_ws RX6 TX6 3, w ∈ wsX6_paint := by decide +kernel
  have fl9 := hts (.fieldLink RX6 9 "DotObjects$PaintedLine" "seen" "[I") (by decide +kernel)
  have fl15 := hts (.fieldLink RX6 15 "DotObjects$PaintedLine" "planes" "[I") (by decide +kernel)
  have fl24 := hts (.fieldLink RX6 24 "DotObjects$PaintedLine" "filled" "I") (by decide +kernel)
  have hl := lv_entry ([.ref h6, .ref h0, .int (zI ((L1 : Nat) : Int)), .int (zI ((S1 : Nat) : Int))]) (n := 6) (Nat.le_of_ble_eq_true rfl)
  rw [lg_entry_eq]
  generalize (lg_sl ([.ref h6, .ref h0, .int (zI ((L1 : Nat) : Int)), .int (zI ((S1 : Nat) : Int))]) ++ List.replicate (6 - (lg_sl ([.ref h6, .ref h0, .int (zI ((L1 : Nat) : Int)), .int (zI ((S1 : Nat) : Int))])).length) Slot.unset).toArray = ls at hl ⊢
  have hl : lv_has ls 6 [(0, .ref h6), (1, .ref h0), (2, .int (zI ((L1 : Nat) : Int))), (3, .int (zI ((S1 : Nat) : Int)))] := hl
  have hn := hV.n
  have hv0 := hV.1
  refine lv_aload_n hx hb dX6_paint_0 rfl (lv_at hl 0 rfl) ?_
  refine va_get (D := D) (ci := 6) (v := .ref s6) (C := RX6) (T := TX6) (N := 3) hx hb hts hinX6 hown hK.1 hP 2 rfl rfl 0 (by decide) fl9 (fun _ h9 => h9) rfl dX6_paint_1 ?_
  refine z_iconst hx hb dX6_paint_4 ?_
  refine muS (n := 2) (As := [.ref s6, .int (zI 0)]) (rest := []) hSf (c_fill l D k s6 12 (nF sn) 0 (by decide)) gX6_paint_J7_fill_53178 rfl (by decide +kernel) ⟨Nat.le_of_ble_eq_true rfl, Nat.le_of_ble_eq_true rfl⟩ hK hP hD hS [3] rfl rfl (by decide) (fun _ => rfl) (fun _ => rfl) rfl hl.1 rfl (Nat.le_of_ble_eq_true rfl) dX6_paint_5 ⟨Nat.zero_le _, Nat.zero_le _⟩ (fun u_5 H locs h_5 hP hD hS => ?_)
  have hP : va_P D vwCl [(h0, .inr (7, [.ref c0])), (c0, .inl (k.1, 132, .inl (zF f))), (h6, .inr (6, [.ref s6, .ref p6, .int (zI ((fl : Nat) : Int))])), (s6, .inl (k.1, 12, .inl (zF (fillZ (nF sn) 12 0)))), (p6, .inl (k.1, 3, .inl (zF (nF pn))))] H := hP
  have hD : va_D A [(h0, .inr (7, [.ref c0])), (c0, .inl (k.1, 132, .inl (zF f))), (h6, .inr (6, [.ref s6, .ref p6, .int (zI ((fl : Nat) : Int))])), (s6, .inl (k.1, 12, .inl (zF (fillZ (nF sn) 12 0)))), (p6, .inl (k.1, 3, .inl (zF (nF pn))))] := hD
  rw [nF_fill] at hP hD
  have hP : va_P D vwCl [(h0, .inr (7, [.ref c0])), (c0, .inl (k.1, 132, .inl (zF f))), (h6, .inr (6, [.ref s6, .ref p6, .int (zI ((fl : Nat) : Int))])), (s6, .inl (k.1, 12, .inl (zF (nF (fiN sn 12))))), (p6, .inl (k.1, 3, .inl (zF (nF pn))))] H := hP
  have hD : va_D A [(h0, .inr (7, [.ref c0])), (c0, .inl (k.1, 132, .inl (zF f))), (h6, .inr (6, [.ref s6, .ref p6, .int (zI ((fl : Nat) : Int))])), (s6, .inl (k.1, 12, .inl (zF (nF (fiN sn 12))))), (p6, .inl (k.1, 3, .inl (zF (nF pn))))] := hD
  refine lv_aload_n hx hb dX6_paint_8 rfl (lv_at hl 0 rfl) ?_
  refine va_get (D := D) (ci := 6) (v := .ref p6) (C := RX6) (T := TX6) (N := 3) hx hb hts hinX6 hown hK.1 hP 2 rfl rfl 1 (by decide) fl15 (fun _ h9 => h9) rfl dX6_paint_9 ?_
  refine z_iconst hx hb dX6_paint_12 ?_
  refine muS (n := 2) (As := [.ref p6, .int (zI 0)]) (rest := []) hSf (c_fill l D k p6 3 (nF pn) 0 (by decide)) gX6_paint_J7_fill_53178 rfl (by decide +kernel) ⟨Nat.le_of_ble_eq_true rfl, Nat.le_of_ble_eq_true rfl⟩ hK hP hD hS [4] rfl rfl (by decide) (fun _ => rfl) (fun _ => rfl) rfl hl.1 rfl (Nat.le_of_ble_eq_true rfl) dX6_paint_13 ⟨Nat.zero_le _, Nat.zero_le _⟩ (fun u_13 H locs h_13 hP hD hS => ?_)
  have hP : va_P D vwCl [(h0, .inr (7, [.ref c0])), (c0, .inl (k.1, 132, .inl (zF f))), (h6, .inr (6, [.ref s6, .ref p6, .int (zI ((fl : Nat) : Int))])), (s6, .inl (k.1, 12, .inl (zF (nF (fiN sn 12))))), (p6, .inl (k.1, 3, .inl (zF (fillZ (nF pn) 3 0))))] H := hP
  have hD : va_D A [(h0, .inr (7, [.ref c0])), (c0, .inl (k.1, 132, .inl (zF f))), (h6, .inr (6, [.ref s6, .ref p6, .int (zI ((fl : Nat) : Int))])), (s6, .inl (k.1, 12, .inl (zF (nF (fiN sn 12))))), (p6, .inl (k.1, 3, .inl (zF (fillZ (nF pn) 3 0))))] := hD
  rw [nF_fill] at hP hD
  have hP : va_P D vwCl [(h0, .inr (7, [.ref c0])), (c0, .inl (k.1, 132, .inl (zF f))), (h6, .inr (6, [.ref s6, .ref p6, .int (zI ((fl : Nat) : Int))])), (s6, .inl (k.1, 12, .inl (zF (nF (fiN sn 12))))), (p6, .inl (k.1, 3, .inl (zF (nF (fiN pn 3)))))] H := hP
  have hD : va_D A [(h0, .inr (7, [.ref c0])), (c0, .inl (k.1, 132, .inl (zF f))), (h6, .inr (6, [.ref s6, .ref p6, .int (zI ((fl : Nat) : Int))])), (s6, .inl (k.1, 12, .inl (zF (nF (fiN sn 12))))), (p6, .inl (k.1, 3, .inl (zF (nF (fiN pn 3)))))] := hD
  refine lv_aload_n hx hb dX6_paint_16 rfl (lv_at hl 0 rfl) ?_
  refine z_iconst hx hb dX6_paint_17 ?_
  refine va_put (D := D) (ci := 6) (v := .int (zI 0)) (ty := .int) (C := RX6) (T := TX6) (N := 3) hx hb hts hinX6 tyX6 tyX6_ok nmX6 hown hK.1 hP hD hS 2 rfl rfl 2 (by decide) fl24 (fun _ h9 => h9) rfl (by decide +kernel) rfl rfl (Nat.le_of_ble_eq_true rfl) dX6_paint_18 (fun H locs hP hD hS => ?_)
  have hP : va_P D vwCl [(h0, .inr (7, [.ref c0])), (c0, .inl (k.1, 132, .inl (zF f))), (h6, .inr (6, [.ref s6, .ref p6, .int (zI 0)])), (s6, .inl (k.1, 12, .inl (zF (nF (fiN sn 12))))), (p6, .inl (k.1, 3, .inl (zF (nF (fiN pn 3)))))] H := hP
  have hD : va_D A [(h0, .inr (7, [.ref c0])), (c0, .inl (k.1, 132, .inl (zF f))), (h6, .inr (6, [.ref s6, .ref p6, .int (zI 0)])), (s6, .inl (k.1, 12, .inl (zF (nF (fiN sn 12))))), (p6, .inl (k.1, 3, .inl (zF (nF (fiN pn 3)))))] := hD
  refine z_iconst hx hb dX6_paint_21 ?_
  refine lv_istore (lv' := [(4, .int (zI 0)), (0, .ref h6), (1, .ref h0), (2, .int (zI ((L1 : Nat) : Int))), (3, .int (zI ((S1 : Nat) : Int)))]) hx hb dX6_paint_22 hl (by decide) rfl (fun ls hl => ?_)
  have L24 : ∀ (NN24 : Nat), ∀ (lv : Nat) (xs : Nat → Nat) (xp : Nat → Nat) (xf : Nat), (lv ≤ 4) → (paI f S1 L1 (16 * (lv : Int)) xs xp xf) → 4 - lv < NN24 → ∀ (H : Heap) (locs : List Loc), va_P D vwCl [(h0, .inr (7, [.ref c0])), (c0, .inl (k.1, 132, .inl (zF f))), (h6, .inr (6, [.ref s6, .ref p6, .int (zI ((xf : Nat) : Int))])), (s6, .inl (k.1, 12, .inl (zF (nF xs)))), (p6, .inl (k.1, 3, .inl (zF (nF xp))))] H → va_D A [(h0, .inr (7, [.ref c0])), (c0, .inl (k.1, 132, .inl (zF f))), (h6, .inr (6, [.ref s6, .ref p6, .int (zI ((xf : Nat) : Int))])), (s6, .inl (k.1, 12, .inl (zF (nF xs)))), (p6, .inl (k.1, 3, .inl (zF (nF xp))))] → va_S A s.heap H locs → ∀ (ls : Array Slot), lv_has ls 6 [(0, .ref h6), (1, .ref h0), (2, .int (zI ((L1 : Nat) : Int))), (3, .int (zI ((S1 : Nat) : Int))), (4, .int (zI ((lv : Nat) : Int)))] → W p l e (headSpec wsX6_paint { frames := 2, cells := 0, slots := 0, locals := 47 }).room s m ([.ref h6, .ref h0, .int (zI ((L1 : Nat) : Int)), .int (zI ((S1 : Nat) : Int))] : List Value).toArray below meth c H locs 0 0 (MQ below (va_Qv (fun (u : (Nat → Nat) × (Nat → Nat) × Nat) => paI f S1 L1 64 u.1 u.2.1 u.2.2) (fun (u : (Nat → Nat) × (Nat → Nat) × Nat) t => va_P D vwCl [(h0, .inr (7, [.ref c0])), (c0, .inl (k.1, 132, .inl (zF f))), (h6, .inr (6, [.ref s6, .ref p6, .int (zI ((u.2.2 : Nat) : Int))])), (s6, .inl (k.1, 12, .inl (zF (nF u.1)))), (p6, .inl (k.1, 3, .inl (zF (nF u.2.1))))] t.heap) A) ([.ref h6, .ref h0, .int (zI ((L1 : Nat) : Int)), .int (zI ((S1 : Nat) : Int))] : List Value).toArray s 0 0 A) (F0 m 24 ls []) := by
    intro NN24
    induction NN24 with
    | zero => intro lv xs xp xf _ _ hN; exact absurd hN (Nat.not_lt_zero _)
    | succ NN24 ih24 =>
      intro lv xs xp xf hlv hI hN H locs hP hD hS ls hl
      refine lv_iload hx hb dX6_paint_24 (lv_at hl 4 rfl) ?_
      refine z_iconst hx hb dX6_paint_26 ?_
      refine z_icmp_ge (tgt := 96) hx hb dX6_paint_27 (by decide) (by omega) (by omega) (fun c_27 => ?_) (fun c_27 => ?_)
      · obtain rfl : lv = 4 := by omega
        exact W.vret hx hb hr (fun t ht hW => ⟨⟨(xs, xp, xf), rfl, hI, by show va_P D vwCl _ _; rw [ht]; exact hP⟩, hS.F ht⟩) hS.2.2 dX6_paint_96
      · refine z_iconst hx hb dX6_paint_30 ?_
        refine lv_istore (lv' := [(5, .int (zI 0)), (0, .ref h6), (1, .ref h0), (2, .int (zI ((L1 : Nat) : Int))), (3, .int (zI ((S1 : Nat) : Int))), (4, .int (zI ((lv : Nat) : Int)))]) hx hb dX6_paint_31 hl (by decide) rfl (fun ls hl => ?_)
        have L33 : ∀ (NN33 : Nat), ∀ (tt : Nat) (xs : Nat → Nat) (xp : Nat → Nat) (xf : Nat), (tt ≤ nT f) → (paI f S1 L1 (16 * (lv : Int) + (tt : Int)) xs xp xf) → nT f - tt < NN33 → ∀ (H : Heap) (locs : List Loc), va_P D vwCl [(h0, .inr (7, [.ref c0])), (c0, .inl (k.1, 132, .inl (zF f))), (h6, .inr (6, [.ref s6, .ref p6, .int (zI ((xf : Nat) : Int))])), (s6, .inl (k.1, 12, .inl (zF (nF xs)))), (p6, .inl (k.1, 3, .inl (zF (nF xp))))] H → va_D A [(h0, .inr (7, [.ref c0])), (c0, .inl (k.1, 132, .inl (zF f))), (h6, .inr (6, [.ref s6, .ref p6, .int (zI ((xf : Nat) : Int))])), (s6, .inl (k.1, 12, .inl (zF (nF xs)))), (p6, .inl (k.1, 3, .inl (zF (nF xp))))] → va_S A s.heap H locs → ∀ (ls : Array Slot), lv_has ls 6 [(0, .ref h6), (1, .ref h0), (2, .int (zI ((L1 : Nat) : Int))), (3, .int (zI ((S1 : Nat) : Int))), (4, .int (zI ((lv : Nat) : Int))), (5, .int (zI ((tt : Nat) : Int)))] → W p l e (headSpec wsX6_paint { frames := 2, cells := 0, slots := 0, locals := 47 }).room s m ([.ref h6, .ref h0, .int (zI ((L1 : Nat) : Int)), .int (zI ((S1 : Nat) : Int))] : List Value).toArray below meth c H locs 0 0 (MQ below (va_Qv (fun (u : (Nat → Nat) × (Nat → Nat) × Nat) => paI f S1 L1 64 u.1 u.2.1 u.2.2) (fun (u : (Nat → Nat) × (Nat → Nat) × Nat) t => va_P D vwCl [(h0, .inr (7, [.ref c0])), (c0, .inl (k.1, 132, .inl (zF f))), (h6, .inr (6, [.ref s6, .ref p6, .int (zI ((u.2.2 : Nat) : Int))])), (s6, .inl (k.1, 12, .inl (zF (nF u.1)))), (p6, .inl (k.1, 3, .inl (zF (nF u.2.1))))] t.heap) A) ([.ref h6, .ref h0, .int (zI ((L1 : Nat) : Int)), .int (zI ((S1 : Nat) : Int))] : List Value).toArray s 0 0 A) (F0 m 33 ls []) := by
          intro NN33
          induction NN33 with
          | zero => intro tt xs xp xf _ _ hN; exact absurd hN (Nat.not_lt_zero _)
          | succ NN33 ih33 =>
            intro tt xs xp xf htt hI hN H locs hP hD hS ls hl
            refine lv_iload hx hb dX6_paint_33 (lv_at hl 5 rfl) ?_
            refine lv_aload_n hx hb dX6_paint_35 rfl (lv_at hl 1 rfl) ?_
            refine z_iconst hx hb dX6_paint_36 ?_
            refine roV (n := 1) (As := [.int (zI ((0 : Nat) : Int))]) (rest := [.int (zI ((tt : Nat) : Int))]) hSf (c_cell l D k h0 c0 f 0 (by omega)) gX6_paint_X7_cell rfl (by decide +kernel) ⟨Nat.le_of_ble_eq_true rfl, Nat.le_of_ble_eq_true rfl⟩ hK hP [0, 1] rfl 0 rfl rfl rfl hl.1 (by rw [show zI 0 = zI ((0 : Nat) : Int) from zc (by omega)]; rfl) (Nat.le_of_ble_eq_true rfl) dX6_paint_37 ⟨Nat.zero_le _, Nat.zero_le _⟩ (fun r_37 h_37 => ?_)
            subst h_37
            refine z_icmp_ge (tgt := 90) hx hb dX6_paint_40 (by decide) (by omega) (by omega) (fun c_40 => ?_) (fun c_40 => ?_)
            · have htt2 : tt = nT f := by omega
              refine lv_iinc (v := zI (((lv : Nat) : Int) + 1)) (lv' := [(4, .int (zI (((lv : Nat) : Int) + 1))), (0, .ref h6), (1, .ref h0), (2, .int (zI ((L1 : Nat) : Int))), (3, .int (zI ((S1 : Nat) : Int))), (5, .int (zI ((tt : Nat) : Int)))]) hx hb dX6_paint_90 hl (k := 4) rfl (zI_add _ _) (by decide) rfl (fun ls hl => ?_)
              refine lv_goto (tgt := 24) hx hb dX6_paint_93 (by decide) ?_
              have hl : lv_has ls 6 [(4, .int (zI (((lv + 1) : Nat) : Int))), (0, .ref h6), (1, .ref h0), (2, .int (zI ((L1 : Nat) : Int))), (3, .int (zI ((S1 : Nat) : Int))), (5, .int (zI ((tt : Nat) : Int)))] := lv_c (l1 := []) (l2 := [(0, .ref h6), (1, .ref h0), (2, .int (zI ((L1 : Nat) : Int))), (3, .int (zI ((S1 : Nat) : Int))), (5, .int (zI ((tt : Nat) : Int)))]) hl (show ((lv : Nat) : Int) + 1 = (((lv + 1) : Nat) : Int) from by omega)
              exact ih24 (lv + 1) xs xp xf (by omega) (paI_mv hI (fun u hu hs => by have hw := hV.t hu; unfold key; omega)) (by omega) _ _ hP hD hS ls (lv_sub hl [1, 2, 3, 4, 0] rfl)
            · have hv := hV.t (t := tt) (by omega)
              refine lv_iload_n hx hb dX6_paint_43 rfl (lv_at hl 3 rfl) ?_
              refine lv_iload hx hb dX6_paint_44 (lv_at hl 5 rfl) ?_
              refine roSN (n := 2) (As := [.int (zI ((S1 : Nat) : Int)), .int (zI ((tt : Nat) : Int))]) (rest := []) hSf (c_isInSet l D k S1 tt (by omega) (by omega)) gX6_paint_X9_isInSet_n34 rfl hK.2.2.1 (hts (.initialized RX9) (by decide +kernel)) (hts (.static yX9_isInSet) (by decide +kernel)) (by decide +kernel) ⟨Nat.le_of_ble_eq_true rfl, Nat.le_of_ble_eq_true rfl⟩ hK hP [] rfl rfl hl.1 rfl (Nat.le_of_ble_eq_true rfl) dX6_paint_46 ⟨Nat.zero_le _, Nat.zero_le _⟩ (fun r_46 h_46 => ?_)
              subst h_46
              refine z_if_eqb (tgt := 84) hx hb dX6_paint_49 (by decide) (fun c_49 => ?_) (fun c_49 => ?_)
              · refine lv_iinc (v := zI (((tt : Nat) : Int) + 1)) (lv' := [(5, .int (zI (((tt : Nat) : Int) + 1))), (0, .ref h6), (1, .ref h0), (2, .int (zI ((L1 : Nat) : Int))), (3, .int (zI ((S1 : Nat) : Int))), (4, .int (zI ((lv : Nat) : Int)))]) hx hb dX6_paint_84 hl (k := 5) rfl (zI_add _ _) (by decide) rfl (fun ls hl => ?_)
                refine lv_goto (tgt := 33) hx hb dX6_paint_87 (by decide) ?_
                have hl : lv_has ls 6 [(5, .int (zI (((tt + 1) : Nat) : Int))), (0, .ref h6), (1, .ref h0), (2, .int (zI ((L1 : Nat) : Int))), (3, .int (zI ((S1 : Nat) : Int))), (4, .int (zI ((lv : Nat) : Int)))] := lv_c (l1 := []) (l2 := [(0, .ref h6), (1, .ref h0), (2, .int (zI ((L1 : Nat) : Int))), (3, .int (zI ((S1 : Nat) : Int))), (4, .int (zI ((lv : Nat) : Int)))]) hl (show ((tt : Nat) : Int) + 1 = (((tt + 1) : Nat) : Int) from by omega)
                exact ih33 (tt + 1) xs xp xf (by omega) (paI_sk hV hI (Or.inl c_49) (by omega)) (by omega) _ _ hP hD hS ls (lv_sub hl [1, 2, 3, 4, 5, 0] rfl)
              · refine lv_aload_n hx hb dX6_paint_52 rfl (lv_at hl 1 rfl) ?_
                refine lv_iload hx hb dX6_paint_53 (lv_at hl 5 rfl) ?_
                refine z_iconst hx hb dX6_paint_55 ?_
                refine roV (n := 2) (As := [.int (zI ((tt : Nat) : Int)), .int (zI ((4 : Nat) : Int))]) (rest := []) hSf (c_field l D k h0 c0 f tt 4 (by omega) (by omega)) gX6_paint_X7_field rfl (by decide +kernel) ⟨Nat.le_of_ble_eq_true rfl, Nat.le_of_ble_eq_true rfl⟩ hK hP [0, 1] rfl 0 rfl rfl rfl hl.1 (by rw [show zI 4 = zI ((4 : Nat) : Int) from zc (by omega)]; rfl) (Nat.le_of_ble_eq_true rfl) dX6_paint_56 ⟨Nat.zero_le _, Nat.zero_le _⟩ (fun r_56 h_56 => ?_)
                subst h_56
                refine lv_iload hx hb dX6_paint_59 (lv_at hl 4 rfl) ?_
                refine z_icmp_ne (tgt := 84) hx hb dX6_paint_61 (by decide) (by omega) (by omega) (fun c_61 => ?_) (fun c_61 => ?_)
                · refine lv_iinc (v := zI (((tt : Nat) : Int) + 1)) (lv' := [(5, .int (zI (((tt : Nat) : Int) + 1))), (0, .ref h6), (1, .ref h0), (2, .int (zI ((L1 : Nat) : Int))), (3, .int (zI ((S1 : Nat) : Int))), (4, .int (zI ((lv : Nat) : Int)))]) hx hb dX6_paint_84 hl (k := 5) rfl (zI_add _ _) (by decide) rfl (fun ls hl => ?_)
                  refine lv_goto (tgt := 33) hx hb dX6_paint_87 (by decide) ?_
                  have hl : lv_has ls 6 [(5, .int (zI (((tt + 1) : Nat) : Int))), (0, .ref h6), (1, .ref h0), (2, .int (zI ((L1 : Nat) : Int))), (3, .int (zI ((S1 : Nat) : Int))), (4, .int (zI ((lv : Nat) : Int)))] := lv_c (l1 := []) (l2 := [(0, .ref h6), (1, .ref h0), (2, .int (zI ((L1 : Nat) : Int))), (3, .int (zI ((S1 : Nat) : Int))), (4, .int (zI ((lv : Nat) : Int)))]) hl (show ((tt : Nat) : Int) + 1 = (((tt + 1) : Nat) : Int) from by omega)
                  exact ih33 (tt + 1) xs xp xf (by omega) (paI_sk hV hI (Or.inr c_61) (by omega)) (by omega) _ _ hP hD hS ls (lv_sub hl [1, 2, 3, 4, 5, 0] rfl)
                · refine lv_aload_n hx hb dX6_paint_64 rfl (lv_at hl 0 rfl) ?_
                  refine lv_iload hx hb dX6_paint_65 (lv_at hl 5 rfl) ?_
                  refine lv_aload_n hx hb dX6_paint_67 rfl (lv_at hl 1 rfl) ?_
                  refine lv_iload hx hb dX6_paint_68 (lv_at hl 5 rfl) ?_
                  refine lv_iload_n hx hb dX6_paint_70 rfl (lv_at hl 2 rfl) ?_
                  refine roV (n := 2) (As := [.int (zI ((tt : Nat) : Int)), .int (zI ((L1 : Nat) : Int))]) (rest := [.int (zI ((tt : Nat) : Int)), .ref h6]) hSf (c_dotsOf l D k h0 c0 f B hV tt L1 (by omega) hL1) gX6_paint_X7_dotsOf rfl (by decide +kernel) ⟨Nat.le_of_ble_eq_true rfl, Nat.le_of_ble_eq_true rfl⟩ hK hP [0, 1] rfl 0 rfl rfl rfl hl.1 rfl (Nat.le_of_ble_eq_true rfl) dX6_paint_71 ⟨Nat.zero_le _, Nat.zero_le _⟩ (fun r_71 h_71 => ?_)
                  subst h_71
                  refine lv_aload_n hx hb dX6_paint_74 rfl (lv_at hl 1 rfl) ?_
                  refine lv_iload hx hb dX6_paint_75 (lv_at hl 5 rfl) ?_
                  refine z_iconst hx hb dX6_paint_77 ?_
                  refine roV (n := 2) (As := [.int (zI ((tt : Nat) : Int)), .int (zI ((5 : Nat) : Int))]) (rest := [.int (zI ((dotsN f tt L1 : Nat) : Int)), .int (zI ((tt : Nat) : Int)), .ref h6]) hSf (c_field l D k h0 c0 f tt 5 (by omega) (by omega)) gX6_paint_X7_field rfl (by decide +kernel) ⟨Nat.le_of_ble_eq_true rfl, Nat.le_of_ble_eq_true rfl⟩ hK hP [0, 1] rfl 0 rfl rfl rfl hl.1 (by rw [show zI 5 = zI ((5 : Nat) : Int) from zc (by omega)]; rfl) (Nat.le_of_ble_eq_true rfl) dX6_paint_78 ⟨Nat.zero_le _, Nat.zero_le _⟩ (fun r_78 h_78 => ?_)
                  subst h_78
                  refine muV (n := 3) (As := [.int (zI ((tt : Nat) : Int)), .int (zI (((dotsN f tt L1) : Nat) : Int)), .int (zI ((((th f tt 5).toNat) : Nat) : Int))]) (rest := []) hSf (c_paintBehind l D k h6 s6 p6 xs xp xf tt (dotsN f tt L1) ((th f tt 5).toNat) (by omega) hI.1 (by omega)) gX6_paint_X6_paintBehind rfl (by decide +kernel) ⟨Nat.le_of_ble_eq_true rfl, Nat.le_of_ble_eq_true rfl⟩ hK hP hD hS [2, 3, 4] rfl rfl (by decide) (fun _ => rfl) (fun _ => rfl) 0 rfl rfl rfl hl.1 (by rw [show zI (th f tt 5) = zI ((((th f tt 5).toNat) : Nat) : Int) from zc (by omega)]; rfl) (Nat.le_of_ble_eq_true rfl) dX6_paint_81 ⟨Nat.zero_le _, Nat.zero_le _⟩ (fun u_81 H locs h_81 hP hD hS => ?_)
                  have hP : va_P D vwCl [(h0, .inr (7, [.ref c0])), (c0, .inl (k.1, 132, .inl (zF f))), (h6, .inr (6, [.ref s6, .ref p6, .int (zI ((xf ||| (dotsN f tt L1) : Nat) : Int))])), (s6, .inl (k.1, 12, .inl (zF (nF (upN xs tt ((dotsN f tt L1) &&& (2 ^ 32 - (xf + 1)))))))), (p6, .inl (k.1, 3, .inl (zF (nF (plJ xp ((th f tt 5).toNat) ((dotsN f tt L1) &&& (2 ^ 32 - (xf + 1))) 3)))))] H := hP
                  have hD : va_D A [(h0, .inr (7, [.ref c0])), (c0, .inl (k.1, 132, .inl (zF f))), (h6, .inr (6, [.ref s6, .ref p6, .int (zI ((xf ||| (dotsN f tt L1) : Nat) : Int))])), (s6, .inl (k.1, 12, .inl (zF (nF (upN xs tt ((dotsN f tt L1) &&& (2 ^ 32 - (xf + 1)))))))), (p6, .inl (k.1, 3, .inl (zF (nF (plJ xp ((th f tt 5).toNat) ((dotsN f tt L1) &&& (2 ^ 32 - (xf + 1))) 3)))))] := hD
                  refine lv_iinc (v := zI (((tt : Nat) : Int) + 1)) (lv' := [(5, .int (zI (((tt : Nat) : Int) + 1))), (0, .ref h6), (1, .ref h0), (2, .int (zI ((L1 : Nat) : Int))), (3, .int (zI ((S1 : Nat) : Int))), (4, .int (zI ((lv : Nat) : Int)))]) hx hb dX6_paint_84 hl (k := 5) rfl (zI_add _ _) (by decide) rfl (fun ls hl => ?_)
                  refine lv_goto (tgt := 33) hx hb dX6_paint_87 (by decide) ?_
                  have hl : lv_has ls 6 [(5, .int (zI (((tt + 1) : Nat) : Int))), (0, .ref h6), (1, .ref h0), (2, .int (zI ((L1 : Nat) : Int))), (3, .int (zI ((S1 : Nat) : Int))), (4, .int (zI ((lv : Nat) : Int)))] := lv_c (l1 := []) (l2 := [(0, .ref h6), (1, .ref h0), (2, .int (zI ((L1 : Nat) : Int))), (3, .int (zI ((S1 : Nat) : Int))), (4, .int (zI ((lv : Nat) : Int)))]) hl (show ((tt : Nat) : Int) + 1 = (((tt + 1) : Nat) : Int) from by omega)
                  exact ih33 (tt + 1) (upN xs tt (dotsN f tt L1 &&& (2 ^ 32 - (xf + 1)))) (plJ xp (th f tt 5).toNat (dotsN f tt L1 &&& (2 ^ 32 - (xf + 1))) 3) (xf ||| dotsN f tt L1) (by omega) (paI_put hV hI (by omega) c_49 c_61) (by omega) _ _ hP hD hS ls (lv_sub hl [1, 2, 3, 4, 5, 0] rfl)
        have hl : lv_has ls 6 [(5, .int (zI ((0 : Nat) : Int))), (0, .ref h6), (1, .ref h0), (2, .int (zI ((L1 : Nat) : Int))), (3, .int (zI ((S1 : Nat) : Int))), (4, .int (zI ((lv : Nat) : Int)))] := lv_c (l1 := []) (l2 := [(0, .ref h6), (1, .ref h0), (2, .int (zI ((L1 : Nat) : Int))), (3, .int (zI ((S1 : Nat) : Int))), (4, .int (zI ((lv : Nat) : Int)))]) hl (show 0 = ((0 : Nat) : Int) from rfl)
        exact L33 _ 0 xs xp xf (Nat.zero_le _) (paI_mv hI (fun u hu hs => by rw [show 16 * (lv : Int) + ((0 : Nat) : Int) = 16 * (lv : Int) by omega])) (Nat.lt_succ_self _) _ _ hP hD hS ls (lv_sub hl [1, 2, 3, 4, 5, 0] rfl)
  have hl : lv_has ls 6 [(4, .int (zI ((0 : Nat) : Int))), (0, .ref h6), (1, .ref h0), (2, .int (zI ((L1 : Nat) : Int))), (3, .int (zI ((S1 : Nat) : Int)))] := lv_c (l1 := []) (l2 := [(0, .ref h6), (1, .ref h0), (2, .int (zI ((L1 : Nat) : Int))), (3, .int (zI ((S1 : Nat) : Int)))]) hl (show 0 = ((0 : Nat) : Int) from rfl)
  exact L24 _ 0 (fiN sn 12) (fiN pn 3) 0 (by decide) (paI_0 hV) (Nat.lt_succ_self _) _ _ hP hD hS ls (lv_sub hl [1, 2, 3, 4, 0] rfl)
set_option maxHeartbeats 4000000 in
set_option maxRecDepth 100000 in
theorem c_filledColumns (l : Launch) (D : va_G) (k : Kt) (h6 : Nat) (s6 : Nat) (p6 : Nat) (sn : Nat → Nat) (pn : Nat → Nat) (fl : Nat) : RO l D k yX6_filledColumns wsX6_filledColumns 0 0 [.ref h6] [(h6, .inr (6, [.ref s6, .ref p6, .int (zI ((fl : Nat) : Int))])), (s6, .inl (k.1, 12, .inl (zF (nF sn)))), (p6, .inl (k.1, 3, .inl (zF (nF pn))))] (fun r => r = zI ((fl : Nat) : Int)) := by
  refine Met.ofW (cc := cX6_filledColumns) (maxL := 1) (ret := (some .int)) (by decide) rfl ?_
  intro p e s m args below meth c s₁ Bd hml hv
  obtain ⟨rfl, hP, hK⟩ := hv
  have hx := Bd.exec
  have hb := Bd.bytes
  have hr := Bd.returns
  have hts := atoms_spec (ws := wsX6_filledColumns) Bd.pre
  have hown : s.vm.findClass RX6 = some m.cls := findClass_of_methodNamed Bd.named
  have hlocks := Bd.notSynchronized
  have hSf : CallFix p m c cX6_filledColumns 1 s ([.ref h6] : List Value).toArray wsX6_filledColumns RX6 := ⟨hx, hb, hml, hown, hts⟩
  have hinX6 : ∀ w ∈ u_ws RX6 TX6 3, w ∈ wsX6_filledColumns := by decide +kernel
  have fl24 := hts (.fieldLink RX6 24 "DotObjects$PaintedLine" "filled" "I") (by decide +kernel)
  have hl := lv_entry ([.ref h6]) (n := 1) (Nat.le_of_ble_eq_true rfl)
  rw [lg_entry_eq]
  generalize (lg_sl ([.ref h6]) ++ List.replicate (1 - (lg_sl ([.ref h6])).length) Slot.unset).toArray = ls at hl ⊢
  have hl : lv_has ls 1 [(0, .ref h6)] := hl
  refine lv_aload_n hx hb dX6_filledColumns_0 rfl (lv_at hl 0 rfl) ?_
  refine va_get (D := D) (ci := 6) (v := .int (zI ((fl : Nat) : Int))) (C := RX6) (T := TX6) (N := 3) hx hb hts hinX6 hown hK.1 hP 0 rfl rfl 2 (by decide) fl24 (fun _ h9 => h9) rfl dX6_filledColumns_1 ?_
  exact W.iret hx hb hr (fun t ht hW => ⟨_, rfl, rfl, ht⟩) (fun q hq => by cases hq) dX6_filledColumns_4
set_option maxHeartbeats 4000000 in
set_option maxRecDepth 100000 in
theorem c_seenColumns (l : Launch) (D : va_G) (k : Kt) (h6 : Nat) (s6 : Nat) (p6 : Nat) (sn : Nat → Nat) (pn : Nat → Nat) (fl : Nat) (t1 : Nat) (ht1 : t1 < 12) : RO l D k yX6_seenColumns wsX6_seenColumns 0 0 [.ref h6, .int (zI ((t1 : Nat) : Int))] [(h6, .inr (6, [.ref s6, .ref p6, .int (zI ((fl : Nat) : Int))])), (s6, .inl (k.1, 12, .inl (zF (nF sn)))), (p6, .inl (k.1, 3, .inl (zF (nF pn))))] (fun r => r = zI ((sn t1 : Nat) : Int)) := by
  refine Met.ofW (cc := cX6_seenColumns) (maxL := 2) (ret := (some .int)) (by decide) rfl ?_
  intro p e s m args below meth c s₁ Bd hml hv
  obtain ⟨rfl, hP, hK⟩ := hv
  have hx := Bd.exec
  have hb := Bd.bytes
  have hr := Bd.returns
  have hts := atoms_spec (ws := wsX6_seenColumns) Bd.pre
  have hown : s.vm.findClass RX6 = some m.cls := findClass_of_methodNamed Bd.named
  have hlocks := Bd.notSynchronized
  have hSf : CallFix p m c cX6_seenColumns 2 s ([.ref h6, .int (zI ((t1 : Nat) : Int))] : List Value).toArray wsX6_seenColumns RX6 := ⟨hx, hb, hml, hown, hts⟩
  have hinX6 : ∀ w ∈ u_ws RX6 TX6 3, w ∈ wsX6_seenColumns := by decide +kernel
  have fl9 := hts (.fieldLink RX6 9 "DotObjects$PaintedLine" "seen" "[I") (by decide +kernel)
  have hl := lv_entry ([.ref h6, .int (zI ((t1 : Nat) : Int))]) (n := 2) (Nat.le_of_ble_eq_true rfl)
  rw [lg_entry_eq]
  generalize (lg_sl ([.ref h6, .int (zI ((t1 : Nat) : Int))]) ++ List.replicate (2 - (lg_sl ([.ref h6, .int (zI ((t1 : Nat) : Int))])).length) Slot.unset).toArray = ls at hl ⊢
  have hl : lv_has ls 2 [(0, .ref h6), (1, .int (zI ((t1 : Nat) : Int)))] := hl
  refine lv_aload_n hx hb dX6_seenColumns_0 rfl (lv_at hl 0 rfl) ?_
  refine va_get (D := D) (ci := 6) (v := .ref s6) (C := RX6) (T := TX6) (N := 3) hx hb hts hinX6 hown hK.1 hP 0 rfl rfl 0 (by decide) fl9 (fun _ h9 => h9) rfl dX6_seenColumns_1 ?_
  refine lv_iload_n hx hb dX6_seenColumns_4 rfl (lv_at hl 1 rfl) ?_
  refine z_ald hx hb hK hP 1 rfl (t1) (by omega) (by omega) (Nat.le_of_ble_eq_true rfl) dX6_seenColumns_5 ?_
  refine te (zc (show (nF sn) t1 = ((sn t1 : Nat) : Int) from rfl)) ?_
  exact W.iret hx hb hr (fun t ht hW => ⟨_, rfl, rfl, ht⟩) (fun q hq => by cases hq) dX6_seenColumns_6
set_option maxHeartbeats 4000000 in
set_option maxRecDepth 100000 in
theorem c_thingAt (l : Launch) (D : va_G) (k : Kt) (f : St) (B : Int) (hV : Va B f) (h6 : Nat) (s6 : Nat) (p6 : Nat) (sn : Nat → Nat) (pn : Nat → Nat) (fl : Nat) (L1 : Nat) (S1 : Nat) (hI : paI f S1 L1 64 sn pn fl) (cl : Nat) (hcl : cl < 32) : RO l D k yX6_thingAt wsX6_thingAt 1 21 [.ref h6, .int (zI ((cl : Nat) : Int))] [(h6, .inr (6, [.ref s6, .ref p6, .int (zI ((fl : Nat) : Int))])), (s6, .inl (k.1, 12, .inl (zF (nF sn)))), (p6, .inl (k.1, 3, .inl (zF (nF pn))))] (fun r => r = zI (seenA f S1 L1 cl)) := by
  refine Met.ofW (cc := cX6_thingAt) (maxL := 3) (ret := (some .int)) (by decide) rfl ?_
  intro p e s m args below meth c s₁ Bd hml hv
  obtain ⟨rfl, hP, hK⟩ := hv
  have hx := Bd.exec
  have hb := Bd.bytes
  have hr := Bd.returns
  have hts := atoms_spec (ws := wsX6_thingAt) Bd.pre
  have hown : s.vm.findClass RX6 = some m.cls := findClass_of_methodNamed Bd.named
  have hlocks := Bd.notSynchronized
  have hSf : CallFix p m c cX6_thingAt 3 s ([.ref h6, .int (zI ((cl : Nat) : Int))] : List Value).toArray wsX6_thingAt RX6 := ⟨hx, hb, hml, hown, hts⟩
  have hinX6 : ∀ w ∈ u_ws RX6 TX6 3, w ∈ wsX6_thingAt := by decide +kernel
  have fl9 := hts (.fieldLink RX6 9 "DotObjects$PaintedLine" "seen" "[I") (by decide +kernel)
  have hl := lv_entry ([.ref h6, .int (zI ((cl : Nat) : Int))]) (n := 3) (Nat.le_of_ble_eq_true rfl)
  rw [lg_entry_eq]
  generalize (lg_sl ([.ref h6, .int (zI ((cl : Nat) : Int))]) ++ List.replicate (3 - (lg_sl ([.ref h6, .int (zI ((cl : Nat) : Int))])).length) Slot.unset).toArray = ls at hl ⊢
  have hl : lv_has ls 3 [(0, .ref h6), (1, .int (zI ((cl : Nat) : Int)))] := hl
  have hn := hV.n
  refine z_iconst hx hb dX6_thingAt_0 ?_
  refine lv_istore_n (lv' := [(2, .int (zI 0)), (0, .ref h6), (1, .int (zI ((cl : Nat) : Int)))]) hx hb dX6_thingAt_1 rfl hl (by decide) rfl (fun ls hl => ?_)
  have L2 : ∀ (NN2 : Nat), ∀ (tt : Nat), (tt ≤ 12) → (∀ u, u < tt → (sn u).testBit (31 - cl) = false) → 12 - tt < NN2 → ∀ (ls : Array Slot), lv_has ls 3 [(0, .ref h6), (1, .int (zI ((cl : Nat) : Int))), (2, .int (zI ((tt : Nat) : Int)))] → W p l e (headSpec wsX6_thingAt { frames := 1, cells := 0, slots := 0, locals := 21 }).room s m ([.ref h6, .int (zI ((cl : Nat) : Int))] : List Value).toArray below meth c s.heap [] 0 0 (MQ below (vp_Si (fun r => r = zI (seenA f S1 L1 cl))) ([.ref h6, .int (zI ((cl : Nat) : Int))] : List Value).toArray s 0 0 (fun _ => False)) (F0 m 2 ls []) := by
    intro NN2
    induction NN2 with
    | zero => intro tt _ _ hN; exact absurd hN (Nat.not_lt_zero _)
    | succ NN2 ih2 =>
      intro tt htt hno hN ls hl
      refine lv_iload_n hx hb dX6_thingAt_2 rfl (lv_at hl 2 rfl) ?_
      refine z_bipush hx hb dX6_thingAt_3 (by decide +kernel) ?_
      refine z_icmp_ge (tgt := 32) hx hb dX6_thingAt_5 (by decide) (by omega) (by omega) (fun c_5 => ?_) (fun c_5 => ?_)
      · refine z_iconst hx hb dX6_thingAt_32 ?_
        exact W.iret hx hb hr (fun t ht hW => ⟨_, rfl, zc (seenA_eq hn.2 (thing_none hV hI (fun u hu => hno u (by omega)))), ht⟩) (fun q hq => by cases hq) dX6_thingAt_33
      · refine lv_aload_n hx hb dX6_thingAt_8 rfl (lv_at hl 0 rfl) ?_
        refine va_get (D := D) (ci := 6) (v := .ref s6) (C := RX6) (T := TX6) (N := 3) hx hb hts hinX6 hown hK.1 hP 0 rfl rfl 0 (by decide) fl9 (fun _ h9 => h9) rfl dX6_thingAt_9 ?_
        refine lv_iload_n hx hb dX6_thingAt_12 rfl (lv_at hl 2 rfl) ?_
        refine z_ald hx hb hK hP 1 rfl (tt) (by omega) (by omega) (Nat.le_of_ble_eq_true rfl) dX6_thingAt_13 ?_
        refine te (zc (show (nF sn) tt = ((sn tt : Nat) : Int) from rfl)) ?_
        refine z_bipush hx hb dX6_thingAt_14 (by decide +kernel) ?_
        refine lv_iload_n hx hb dX6_thingAt_16 rfl (lv_at hl 1 rfl) ?_
        refine z_isub hx hb dX6_thingAt_17 ?_
        refine te (zc (show 31 - ((cl : Nat) : Int) = ((31 - cl : Nat) : Int) from by omega)) ?_
        refine roSN (n := 2) (As := [.int (zI (((sn tt) : Nat) : Int)), .int (zI (((31 - cl) : Nat) : Int))]) (rest := []) hSf (c_isInSet l D k (sn tt) (31 - cl) (hI.2.1 tt (by omega)) (by omega)) gX6_thingAt_X9_isInSet_n34 rfl hK.2.2.1 (hts (.initialized RX9) (by decide +kernel)) (hts (.static yX9_isInSet) (by decide +kernel)) (by decide +kernel) ⟨Nat.le_of_ble_eq_true rfl, Nat.le_of_ble_eq_true rfl⟩ hK hP [] rfl rfl hl.1 rfl (Nat.le_of_ble_eq_true rfl) dX6_thingAt_18 ⟨Nat.zero_le _, Nat.zero_le _⟩ (fun r_18 h_18 => ?_)
        subst h_18
        refine z_if_eqb (tgt := 26) hx hb dX6_thingAt_21 (by decide) (fun c_21 => ?_) (fun c_21 => ?_)
        · refine lv_iinc (v := zI (((tt : Nat) : Int) + 1)) (lv' := [(2, .int (zI (((tt : Nat) : Int) + 1))), (0, .ref h6), (1, .int (zI ((cl : Nat) : Int)))]) hx hb dX6_thingAt_26 hl (k := 2) rfl (zI_add _ _) (by decide) rfl (fun ls hl => ?_)
          refine lv_goto (tgt := 2) hx hb dX6_thingAt_29 (by decide) ?_
          have hl : lv_has ls 3 [(2, .int (zI (((tt + 1) : Nat) : Int))), (0, .ref h6), (1, .int (zI ((cl : Nat) : Int)))] := lv_c (l1 := []) (l2 := [(0, .ref h6), (1, .int (zI ((cl : Nat) : Int)))]) hl (show ((tt : Nat) : Int) + 1 = (((tt + 1) : Nat) : Int) from by omega)
          exact ih2 (tt + 1) (by omega) (lt_s hno c_21) (by omega) ls (lv_sub hl [1, 2, 0] rfl)
        · refine lv_iload_n hx hb dX6_thingAt_24 rfl (lv_at hl 2 rfl) ?_
          exact W.iret hx hb hr (fun t ht hW => ⟨_, rfl, zc (seenA_eq hn.2 (Or.inr ⟨tt, ((thing_bit hI (by omega) _ (key_lt hV)).mp c_21).1, rfl, ((thing_bit hI (by omega) _ (key_lt hV)).mp c_21).2⟩)), ht⟩) (fun q hq => by cases hq) dX6_thingAt_25
  have hl : lv_has ls 3 [(2, .int (zI ((0 : Nat) : Int))), (0, .ref h6), (1, .int (zI ((cl : Nat) : Int)))] := lv_c (l1 := []) (l2 := [(0, .ref h6), (1, .int (zI ((cl : Nat) : Int)))]) hl (show 0 = ((0 : Nat) : Int) from rfl)
  exact L2 _ 0 (by decide) (fun u hu => absurd hu (Nat.not_lt_zero _)) (Nat.lt_succ_self _) ls (lv_sub hl [1, 2, 0] rfl)
set_option maxHeartbeats 4000000 in
set_option maxRecDepth 100000 in
theorem c_colourAt (l : Launch) (D : va_G) (k : Kt) (h0 : Nat) (c0 : Nat) (f : St) (B : Int) (hV : Va B f) (h6 : Nat) (s6 : Nat) (p6 : Nat) (sn : Nat → Nat) (pn : Nat → Nat) (fl : Nat) (L1 : Nat) (S1 : Nat) (hI : paI f S1 L1 64 sn pn fl) (cl : Nat) (hcl : cl < 32) : RO l D k yX6_colourAt wsX6_colourAt 2 43 [.ref h6, .ref h0, .int (zI ((cl : Nat) : Int))] [(h0, .inr (7, [.ref c0])), (c0, .inl (k.1, 132, .inl (zF f))), (h6, .inr (6, [.ref s6, .ref p6, .int (zI ((fl : Nat) : Int))])), (s6, .inl (k.1, 12, .inl (zF (nF sn)))), (p6, .inl (k.1, 3, .inl (zF (nF pn))))] (fun r => r = zI (colA f S1 L1 cl)) := by
  refine Met.ofW (cc := cX6_colourAt) (maxL := 4) (ret := (some .int)) (by decide) rfl ?_
  intro p e s m args below meth c s₁ Bd hml hv
  obtain ⟨rfl, hP, hK⟩ := hv
  have hx := Bd.exec
  have hb := Bd.bytes
  have hr := Bd.returns
  have hts := atoms_spec (ws := wsX6_colourAt) Bd.pre
  have hown : s.vm.findClass RX6 = some m.cls := findClass_of_methodNamed Bd.named
  have hlocks := Bd.notSynchronized
  have hSf : CallFix p m c cX6_colourAt 4 s ([.ref h6, .ref h0, .int (zI ((cl : Nat) : Int))] : List Value).toArray wsX6_colourAt RX6 := ⟨hx, hb, hml, hown, hts⟩
  have hl := lv_entry ([.ref h6, .ref h0, .int (zI ((cl : Nat) : Int))]) (n := 4) (Nat.le_of_ble_eq_true rfl)
  rw [lg_entry_eq]
  generalize (lg_sl ([.ref h6, .ref h0, .int (zI ((cl : Nat) : Int))]) ++ List.replicate (4 - (lg_sl ([.ref h6, .ref h0, .int (zI ((cl : Nat) : Int))])).length) Slot.unset).toArray = ls at hl ⊢
  have hl : lv_has ls 4 [(0, .ref h6), (1, .ref h0), (2, .int (zI ((cl : Nat) : Int)))] := hl
  have hn := hV.n
  have hs := seenA_rg hV S1 L1 cl
  refine lv_aload_n hx hb dX6_colourAt_0 rfl (lv_at hl 0 rfl) ?_
  refine lv_iload_n hx hb dX6_colourAt_1 rfl (lv_at hl 2 rfl) ?_
  refine roV (n := 1) (As := [.int (zI ((cl : Nat) : Int))]) (rest := []) hSf (c_thingAt l D k f B hV h6 s6 p6 sn pn fl L1 S1 hI cl hcl) gX6_colourAt_X6_thingAt rfl (by decide +kernel) ⟨Nat.le_of_ble_eq_true rfl, Nat.le_of_ble_eq_true rfl⟩ hK hP [2, 3, 4] rfl 0 rfl rfl rfl hl.1 rfl (Nat.le_of_ble_eq_true rfl) dX6_colourAt_2 ⟨Nat.zero_le _, Nat.zero_le _⟩ (fun r_2 h_2 => ?_)
  subst h_2
  refine lv_istore_n (lv' := [(3, .int (zI (seenA f S1 L1 cl))), (0, .ref h6), (1, .ref h0), (2, .int (zI ((cl : Nat) : Int)))]) hx hb dX6_colourAt_5 rfl hl (by decide) rfl (fun ls hl => ?_)
  refine lv_iload_n hx hb dX6_colourAt_6 rfl (lv_at hl 0 rfl) ?_
  refine z_iconst hx hb dX6_colourAt_7 ?_
  refine z_icmp_ne (tgt := 15) hx hb dX6_colourAt_8 (by decide) (by omega) (by omega) (fun c_8 => ?_) (fun c_8 => ?_)
  · refine lv_aload_n hx hb dX6_colourAt_15 rfl (lv_at hl 2 rfl) ?_
    refine lv_iload_n hx hb dX6_colourAt_16 rfl (lv_at hl 0 rfl) ?_
    refine z_iconst hx hb dX6_colourAt_17 ?_
    refine roV (n := 2) (As := [.int (zI ((((seenA f S1 L1 cl).toNat) : Nat) : Int)), .int (zI ((5 : Nat) : Int))]) (rest := []) hSf (c_field l D k h0 c0 f ((seenA f S1 L1 cl).toNat) 5 (by omega) (by omega)) gX6_colourAt_X7_field rfl (by decide +kernel) ⟨Nat.le_of_ble_eq_true rfl, Nat.le_of_ble_eq_true rfl⟩ hK hP [0, 1] rfl 0 rfl rfl rfl hl.1 (by rw [show zI (seenA f S1 L1 cl) = zI ((((seenA f S1 L1 cl).toNat) : Nat) : Int) from zc (by omega)]; rw [show zI 5 = zI ((5 : Nat) : Int) from zc (by omega)]; rfl) (Nat.le_of_ble_eq_true rfl) dX6_colourAt_18 ⟨Nat.zero_le _, Nat.zero_le _⟩ (fun r_18 h_18 => ?_)
    subst h_18
    exact W.iret hx hb hr (fun t ht hW => ⟨_, rfl, zc (by unfold colA; rw [if_neg c_8]), ht⟩) (fun q hq => by cases hq) dX6_colourAt_21
  · refine z_iconst hx hb dX6_colourAt_11 ?_
    refine lv_goto (tgt := 21) hx hb dX6_colourAt_12 (by decide) ?_
    exact W.iret hx hb hr (fun t ht hW => ⟨_, rfl, zc (by unfold colA; rw [if_pos c_8]), ht⟩) (fun q hq => by cases hq) dX6_colourAt_21
set_option maxHeartbeats 4000000 in
set_option maxRecDepth 100000 in
theorem c_otherColumns (l : Launch) (D : va_G) (k : Kt) (h6 : Nat) (s6 : Nat) (p6 : Nat) (sn : Nat → Nat) (pn : Nat → Nat) (fl : Nat) (h9 : Nat) (s9 : Nat) (p9 : Nat) (qs : Nat → Nat) (qn : Nat → Nat) (ql : Nat) : RO l D k yX6_otherColumns wsX6_otherColumns 0 0 [.ref h6, .ref h9] [(h6, .inr (6, [.ref s6, .ref p6, .int (zI ((fl : Nat) : Int))])), (s6, .inl (k.1, 12, .inl (zF (nF sn)))), (p6, .inl (k.1, 3, .inl (zF (nF pn)))), (h9, .inr (6, [.ref s9, .ref p9, .int (zI ((ql : Nat) : Int))])), (s9, .inl (k.1, 12, .inl (zF (nF qs)))), (p9, .inl (k.1, 3, .inl (zF (nF qn))))] (fun r => r = zI ((orX pn qn 3 : Nat) : Int)) := by
  refine Met.ofW (cc := cX6_otherColumns) (maxL := 4) (ret := (some .int)) (by decide) rfl ?_
  intro p e s m args below meth c s₁ Bd hml hv
  obtain ⟨rfl, hP, hK⟩ := hv
  have hx := Bd.exec
  have hb := Bd.bytes
  have hr := Bd.returns
  have hts := atoms_spec (ws := wsX6_otherColumns) Bd.pre
  have hown : s.vm.findClass RX6 = some m.cls := findClass_of_methodNamed Bd.named
  have hlocks := Bd.notSynchronized
  have hSf : CallFix p m c cX6_otherColumns 4 s ([.ref h6, .ref h9] : List Value).toArray wsX6_otherColumns RX6 := ⟨hx, hb, hml, hown, hts⟩
  have hinX6 : ∀ w ∈ u_ws RX6 TX6 3, w ∈ wsX6_otherColumns := by decide +kernel
  have fl15 := hts (.fieldLink RX6 15 "DotObjects$PaintedLine" "planes" "[I") (by decide +kernel)
  have hl := lv_entry ([.ref h6, .ref h9]) (n := 4) (Nat.le_of_ble_eq_true rfl)
  rw [lg_entry_eq]
  generalize (lg_sl ([.ref h6, .ref h9]) ++ List.replicate (4 - (lg_sl ([.ref h6, .ref h9])).length) Slot.unset).toArray = ls at hl ⊢
  have hl : lv_has ls 4 [(0, .ref h6), (1, .ref h9)] := hl
  refine z_iconst hx hb dX6_otherColumns_0 ?_
  refine lv_istore_n (lv' := [(2, .int (zI 0)), (0, .ref h6), (1, .ref h9)]) hx hb dX6_otherColumns_1 rfl hl (by decide) rfl (fun ls hl => ?_)
  refine z_iconst hx hb dX6_otherColumns_2 ?_
  refine lv_istore_n (lv' := [(3, .int (zI 0)), (2, .int (zI 0)), (0, .ref h6), (1, .ref h9)]) hx hb dX6_otherColumns_3 rfl hl (by decide) rfl (fun ls hl => ?_)
  have L4 : ∀ (NN4 : Nat), ∀ (jj : Nat), (jj ≤ 3) → 3 - jj < NN4 → ∀ (ls : Array Slot), lv_has ls 4 [(0, .ref h6), (1, .ref h9), (2, .int (zI ((orX pn qn jj : Nat) : Int))), (3, .int (zI ((jj : Nat) : Int)))] → W p l e (headSpec wsX6_otherColumns { frames := 0, cells := 0, slots := 0, locals := 0 }).room s m ([.ref h6, .ref h9] : List Value).toArray below meth c s.heap [] 0 0 (MQ below (vp_Si (fun r => r = zI ((orX pn qn 3 : Nat) : Int))) ([.ref h6, .ref h9] : List Value).toArray s 0 0 (fun _ => False)) (F0 m 4 ls []) := by
    intro NN4
    induction NN4 with
    | zero => intro jj _ hN; exact absurd hN (Nat.not_lt_zero _)
    | succ NN4 ih4 =>
      intro jj hjj hN ls hl
      refine lv_iload_n hx hb dX6_otherColumns_4 rfl (lv_at hl 3 rfl) ?_
      refine z_iconst hx hb dX6_otherColumns_5 ?_
      refine z_icmp_ge (tgt := 31) hx hb dX6_otherColumns_6 (by decide) (by omega) (by omega) (fun c_6 => ?_) (fun c_6 => ?_)
      · obtain rfl : jj = 3 := by omega
        refine lv_iload_n hx hb dX6_otherColumns_31 rfl (lv_at hl 2 rfl) ?_
        exact W.iret hx hb hr (fun t ht hW => ⟨_, rfl, rfl, ht⟩) (fun q hq => by cases hq) dX6_otherColumns_32
      · refine lv_iload_n hx hb dX6_otherColumns_9 rfl (lv_at hl 2 rfl) ?_
        refine lv_aload_n hx hb dX6_otherColumns_10 rfl (lv_at hl 0 rfl) ?_
        refine va_get (D := D) (ci := 6) (v := .ref p6) (C := RX6) (T := TX6) (N := 3) hx hb hts hinX6 hown hK.1 hP 0 rfl rfl 1 (by decide) fl15 (fun _ h9 => h9) rfl dX6_otherColumns_11 ?_
        refine lv_iload_n hx hb dX6_otherColumns_14 rfl (lv_at hl 3 rfl) ?_
        refine z_ald hx hb hK hP 2 rfl (jj) (by omega) (by omega) (Nat.le_of_ble_eq_true rfl) dX6_otherColumns_15 ?_
        refine te (zc (show (nF pn) jj = ((pn jj : Nat) : Int) from rfl)) ?_
        refine lv_aload_n hx hb dX6_otherColumns_16 rfl (lv_at hl 1 rfl) ?_
        refine va_get (D := D) (ci := 6) (v := .ref p9) (C := RX6) (T := TX6) (N := 3) hx hb hts hinX6 hown hK.1 hP 3 rfl rfl 1 (by decide) fl15 (fun _ h9 => h9) rfl dX6_otherColumns_17 ?_
        refine lv_iload_n hx hb dX6_otherColumns_20 rfl (lv_at hl 3 rfl) ?_
        refine z_ald hx hb hK hP 5 rfl (jj) (by omega) (by omega) (Nat.le_of_ble_eq_true rfl) dX6_otherColumns_21 ?_
        refine te (zc (show (nF qn) jj = ((qn jj : Nat) : Int) from rfl)) ?_
        refine z_ixor hx hb dX6_otherColumns_22 (pn jj) (qn jj) (by omega) (by omega) ?_
        refine z_ior hx hb dX6_otherColumns_23 (orX pn qn jj) ((pn jj) ^^^ (qn jj)) (by omega) (by omega) ?_
        refine lv_istore_n (lv' := [(2, .int (zI (((orX pn qn jj) ||| ((pn jj) ^^^ (qn jj)) : Nat) : Int))), (0, .ref h6), (1, .ref h9), (3, .int (zI ((jj : Nat) : Int)))]) hx hb dX6_otherColumns_24 rfl hl (by decide) rfl (fun ls hl => ?_)
        refine lv_iinc (v := zI (((jj : Nat) : Int) + 1)) (lv' := [(3, .int (zI (((jj : Nat) : Int) + 1))), (2, .int (zI (((orX pn qn jj) ||| ((pn jj) ^^^ (qn jj)) : Nat) : Int))), (0, .ref h6), (1, .ref h9)]) hx hb dX6_otherColumns_25 hl (k := 3) rfl (zI_add _ _) (by decide) rfl (fun ls hl => ?_)
        refine lv_goto (tgt := 4) hx hb dX6_otherColumns_28 (by decide) ?_
        have hl : lv_has ls 4 [(3, .int (zI (((jj : Nat) : Int) + 1))), (2, .int (zI ((orX pn qn (jj + 1) : Nat) : Int))), (0, .ref h6), (1, .ref h9)] := lv_c (l1 := [(3, .int (zI (((jj : Nat) : Int) + 1)))]) (l2 := [(0, .ref h6), (1, .ref h9)]) hl (show (((orX pn qn jj) ||| ((pn jj) ^^^ (qn jj)) : Nat) : Int) = ((orX pn qn (jj + 1) : Nat) : Int) from rfl)
        have hl : lv_has ls 4 [(3, .int (zI (((jj + 1) : Nat) : Int))), (2, .int (zI ((orX pn qn (jj + 1) : Nat) : Int))), (0, .ref h6), (1, .ref h9)] := lv_c (l1 := []) (l2 := [(2, .int (zI ((orX pn qn (jj + 1) : Nat) : Int))), (0, .ref h6), (1, .ref h9)]) hl (show ((jj : Nat) : Int) + 1 = (((jj + 1) : Nat) : Int) from by omega)
        exact ih4 (jj + 1) (by omega) (by omega) ls (lv_sub hl [2, 3, 1, 0] rfl)
  have hl : lv_has ls 4 [(3, .int (zI 0)), (2, .int (zI ((orX pn qn 0 : Nat) : Int))), (0, .ref h6), (1, .ref h9)] := lv_c (l1 := [(3, .int (zI 0))]) (l2 := [(0, .ref h6), (1, .ref h9)]) hl (show 0 = ((orX pn qn 0 : Nat) : Int) from rfl)
  have hl : lv_has ls 4 [(3, .int (zI ((0 : Nat) : Int))), (2, .int (zI ((orX pn qn 0 : Nat) : Int))), (0, .ref h6), (1, .ref h9)] := lv_c (l1 := []) (l2 := [(2, .int (zI ((orX pn qn 0 : Nat) : Int))), (0, .ref h6), (1, .ref h9)]) hl (show 0 = ((0 : Nat) : Int) from rfl)
  exact L4 _ 0 (by decide) (Nat.lt_succ_self _) ls (lv_sub hl [2, 3, 1, 0] rfl)
end
