section
-- ===== PART A: goes FIRST, ahead of the names: the tables' words, and 'selects' of the private methods out of them =====
/-- a private method of a class that the tables say can be made, by its rows of tables_1 -/
def lw_okq (q : MethodName × Nat) : Prop := (q.1.cls ≠ "java/lang/invoke/MethodHandle" ∧ q.1.cls ≠ "java/lang/invoke/VarHandle") ∧ Cond.instantiable q.1.cls q.2 ∈ tables_1 ∧ Cond.privateMethod q.1 ∈ tables_1 ∧ Cond.instanceMethod q.1 ∈ tables_1
theorem lw_p0 : lw_okq (⟨"PerhapsWas$History", "append", "(III)I"⟩, 11) := ⟨⟨by decide +kernel, by decide +kernel⟩, List.mem_of_getElem? (i := 24) (by decide +kernel), List.mem_of_getElem? (i := 317) (by decide +kernel), List.mem_of_getElem? (i := 318) (by decide +kernel)⟩
theorem lw_p1 : lw_okq (⟨"PerhapsWas", "refusalOfPair", "(II)I"⟩, 9) := ⟨⟨by decide +kernel, by decide +kernel⟩, List.mem_of_getElem? (i := 16) (by decide +kernel), List.mem_of_getElem? (i := 335) (by decide +kernel), List.mem_of_getElem? (i := 336) (by decide +kernel)⟩
theorem lw_p2 : lw_okq (⟨"PerhapsWas$History", "follow", "(III)V"⟩, 11) := ⟨⟨by decide +kernel, by decide +kernel⟩, List.mem_of_getElem? (i := 24) (by decide +kernel), List.mem_of_getElem? (i := 359) (by decide +kernel), List.mem_of_getElem? (i := 360) (by decide +kernel)⟩
theorem lw_p3 : lw_okq (⟨"PerhapsWas", "freshNet", "()LPerhapsWas$Net;"⟩, 9) := ⟨⟨by decide +kernel, by decide +kernel⟩, List.mem_of_getElem? (i := 16) (by decide +kernel), List.mem_of_getElem? (i := 413) (by decide +kernel), List.mem_of_getElem? (i := 414) (by decide +kernel)⟩
theorem lw_p4 : lw_okq (⟨"PerhapsWas$Net", "isClosed", "(I)Z"⟩, 8) := ⟨⟨by decide +kernel, by decide +kernel⟩, List.mem_of_getElem? (i := 113) (by decide +kernel), List.mem_of_getElem? (i := 424) (by decide +kernel), List.mem_of_getElem? (i := 425) (by decide +kernel)⟩
theorem lw_p5 : lw_okq (⟨"PerhapsWas$Net", "sortBySize", "()V"⟩, 8) := ⟨⟨by decide +kernel, by decide +kernel⟩, List.mem_of_getElem? (i := 113) (by decide +kernel), List.mem_of_getElem? (i := 429) (by decide +kernel), List.mem_of_getElem? (i := 430) (by decide +kernel)⟩
theorem lw_p6 : lw_okq (⟨"PerhapsWas$Ways", "sumOver", "(LPerhapsWas$Net;I)J"⟩, 1) := ⟨⟨by decide +kernel, by decide +kernel⟩, List.mem_of_getElem? (i := 244) (by decide +kernel), List.mem_of_getElem? (i := 490) (by decide +kernel), List.mem_of_getElem? (i := 491) (by decide +kernel)⟩
theorem lw_p7 : lw_okq (⟨"PerhapsWas$Ways", "over", "(LPerhapsWas$Net;II)J"⟩, 1) := ⟨⟨by decide +kernel, by decide +kernel⟩, List.mem_of_getElem? (i := 244) (by decide +kernel), List.mem_of_getElem? (i := 494) (by decide +kernel), List.mem_of_getElem? (i := 495) (by decide +kernel)⟩
theorem lw_p8 : lw_okq (⟨"PerhapsWas$Moment", "seen", "(III)I"⟩, 3) := ⟨⟨by decide +kernel, by decide +kernel⟩, List.mem_of_getElem? (i := 211) (by decide +kernel), List.mem_of_getElem? (i := 579) (by decide +kernel), List.mem_of_getElem? (i := 580) (by decide +kernel)⟩
theorem lw_p9 : lw_okq (⟨"PerhapsWas$Moment", "howManyUnderWay", "(II)I"⟩, 3) := ⟨⟨by decide +kernel, by decide +kernel⟩, List.mem_of_getElem? (i := 211) (by decide +kernel), List.mem_of_getElem? (i := 584) (by decide +kernel), List.mem_of_getElem? (i := 585) (by decide +kernel)⟩
theorem lw_p10 : lw_okq (⟨"PerhapsWas", "markedNet", "(I)LPerhapsWas$Net;"⟩, 9) := ⟨⟨by decide +kernel, by decide +kernel⟩, List.mem_of_getElem? (i := 16) (by decide +kernel), List.mem_of_getElem? (i := 599) (by decide +kernel), List.mem_of_getElem? (i := 600) (by decide +kernel)⟩
theorem lw_p11 : lw_okq (⟨"PerhapsWas$Marks", "nearestBeyond", "(LPerhapsWas$Net;IZ)I"⟩, 3) := ⟨⟨by decide +kernel, by decide +kernel⟩, List.mem_of_getElem? (i := 227) (by decide +kernel), List.mem_of_getElem? (i := 655) (by decide +kernel), List.mem_of_getElem? (i := 656) (by decide +kernel)⟩
theorem lw_p12 : lw_okq (⟨"PerhapsWasModel", "isProcess", "(I)Z"⟩, 28) := ⟨⟨by decide +kernel, by decide +kernel⟩, List.mem_of_getElem? (i := 712) (by decide +kernel), List.mem_of_getElem? (i := 810) (by decide +kernel), List.mem_of_getElem? (i := 811) (by decide +kernel)⟩
theorem lw_p13 : lw_okq (⟨"PerhapsWasModel", "comes", "(IIII)I"⟩, 28) := ⟨⟨by decide +kernel, by decide +kernel⟩, List.mem_of_getElem? (i := 712) (by decide +kernel), List.mem_of_getElem? (i := 817) (by decide +kernel), List.mem_of_getElem? (i := 818) (by decide +kernel)⟩
theorem lw_p14 : lw_okq (⟨"PerhapsWasModel", "joins", "(II)V"⟩, 28) := ⟨⟨by decide +kernel, by decide +kernel⟩, List.mem_of_getElem? (i := 712) (by decide +kernel), List.mem_of_getElem? (i := 829) (by decide +kernel), List.mem_of_getElem? (i := 830) (by decide +kernel)⟩
theorem lw_p15 : lw_okq (⟨"PerhapsWasModel", "isEvent", "(II)Z"⟩, 28) := ⟨⟨by decide +kernel, by decide +kernel⟩, List.mem_of_getElem? (i := 712) (by decide +kernel), List.mem_of_getElem? (i := 845) (by decide +kernel), List.mem_of_getElem? (i := 846) (by decide +kernel)⟩
def lw_privs_1 : List (MethodName × Nat) := [(⟨"PerhapsWas$History", "append", "(III)I"⟩, 11), (⟨"PerhapsWas", "refusalOfPair", "(II)I"⟩, 9), (⟨"PerhapsWas$History", "follow", "(III)V"⟩, 11), (⟨"PerhapsWas", "freshNet", "()LPerhapsWas$Net;"⟩, 9), (⟨"PerhapsWas$Net", "isClosed", "(I)Z"⟩, 8), (⟨"PerhapsWas$Net", "sortBySize", "()V"⟩, 8), (⟨"PerhapsWas$Ways", "sumOver", "(LPerhapsWas$Net;I)J"⟩, 1), (⟨"PerhapsWas$Ways", "over", "(LPerhapsWas$Net;II)J"⟩, 1), (⟨"PerhapsWas$Moment", "seen", "(III)I"⟩, 3), (⟨"PerhapsWas$Moment", "howManyUnderWay", "(II)I"⟩, 3), (⟨"PerhapsWas", "markedNet", "(I)LPerhapsWas$Net;"⟩, 9), (⟨"PerhapsWas$Marks", "nearestBeyond", "(LPerhapsWas$Net;IZ)I"⟩, 3), (⟨"PerhapsWasModel", "isProcess", "(I)Z"⟩, 28), (⟨"PerhapsWasModel", "comes", "(IIII)I"⟩, 28), (⟨"PerhapsWasModel", "joins", "(II)V"⟩, 28), (⟨"PerhapsWasModel", "isEvent", "(II)Z"⟩, 28)]
theorem lw_r1 : ∀ q ∈ lw_privs_1, lw_okq q := List.forall_mem_cons.mpr ⟨lw_p0, List.forall_mem_cons.mpr ⟨lw_p1, List.forall_mem_cons.mpr ⟨lw_p2, List.forall_mem_cons.mpr ⟨lw_p3, List.forall_mem_cons.mpr ⟨lw_p4, List.forall_mem_cons.mpr ⟨lw_p5, List.forall_mem_cons.mpr ⟨lw_p6, List.forall_mem_cons.mpr ⟨lw_p7, List.forall_mem_cons.mpr ⟨lw_p8, List.forall_mem_cons.mpr ⟨lw_p9, List.forall_mem_cons.mpr ⟨lw_p10, List.forall_mem_cons.mpr ⟨lw_p11, List.forall_mem_cons.mpr ⟨lw_p12, List.forall_mem_cons.mpr ⟨lw_p13, List.forall_mem_cons.mpr ⟨lw_p14, List.forall_mem_cons.mpr ⟨lw_p15, fun _ h => absurd h List.not_mem_nil⟩⟩⟩⟩⟩⟩⟩⟩⟩⟩⟩⟩⟩⟩⟩⟩
theorem lw_p16 : lw_okq (⟨"PerhapsWasModel", "isCut", "(I)Z"⟩, 28) := ⟨⟨by decide +kernel, by decide +kernel⟩, List.mem_of_getElem? (i := 712) (by decide +kernel), List.mem_of_getElem? (i := 865) (by decide +kernel), List.mem_of_getElem? (i := 866) (by decide +kernel)⟩
theorem lw_p17 : lw_okq (⟨"PerhapsWasModel", "isPossible", "(I)Z"⟩, 28) := ⟨⟨by decide +kernel, by decide +kernel⟩, List.mem_of_getElem? (i := 712) (by decide +kernel), List.mem_of_getElem? (i := 875) (by decide +kernel), List.mem_of_getElem? (i := 876) (by decide +kernel)⟩
theorem lw_p18 : lw_okq (⟨"PerhapsWasModel", "open", "()V"⟩, 28) := ⟨⟨by decide +kernel, by decide +kernel⟩, List.mem_of_getElem? (i := 712) (by decide +kernel), List.mem_of_getElem? (i := 905) (by decide +kernel), List.mem_of_getElem? (i := 906) (by decide +kernel)⟩
theorem lw_p19 : lw_okq (⟨"PerhapsWasModel", "count", "()V"⟩, 28) := ⟨⟨by decide +kernel, by decide +kernel⟩, List.mem_of_getElem? (i := 712) (by decide +kernel), List.mem_of_getElem? (i := 909) (by decide +kernel), List.mem_of_getElem? (i := 910) (by decide +kernel)⟩
theorem lw_p20 : lw_okq (⟨"PerhapsWasModel", "whole", "()I"⟩, 28) := ⟨⟨by decide +kernel, by decide +kernel⟩, List.mem_of_getElem? (i := 712) (by decide +kernel), List.mem_of_getElem? (i := 913) (by decide +kernel), List.mem_of_getElem? (i := 914) (by decide +kernel)⟩
theorem lw_p21 : lw_okq (⟨"PerhapsWasModel", "walk", "(JI)I"⟩, 28) := ⟨⟨by decide +kernel, by decide +kernel⟩, List.mem_of_getElem? (i := 712) (by decide +kernel), List.mem_of_getElem? (i := 922) (by decide +kernel), List.mem_of_getElem? (i := 923) (by decide +kernel)⟩
theorem lw_p22 : lw_okq (⟨"PerhapsWasModel", "push", "(III)I"⟩, 28) := ⟨⟨by decide +kernel, by decide +kernel⟩, List.mem_of_getElem? (i := 712) (by decide +kernel), List.mem_of_getElem? (i := 930) (by decide +kernel), List.mem_of_getElem? (i := 931) (by decide +kernel)⟩
theorem lw_p23 : lw_okq (⟨"PerhapsWasModel", "copy", "(II)V"⟩, 28) := ⟨⟨by decide +kernel, by decide +kernel⟩, List.mem_of_getElem? (i := 712) (by decide +kernel), List.mem_of_getElem? (i := 942) (by decide +kernel), List.mem_of_getElem? (i := 943) (by decide +kernel)⟩
theorem lw_p24 : lw_okq (⟨"PerhapsWasModel", "worthOf", "(II)I"⟩, 28) := ⟨⟨by decide +kernel, by decide +kernel⟩, List.mem_of_getElem? (i := 712) (by decide +kernel), List.mem_of_getElem? (i := 958) (by decide +kernel), List.mem_of_getElem? (i := 959) (by decide +kernel)⟩
theorem lw_p25 : lw_okq (⟨"PerhapsWasModel", "nameAt", "(III)I"⟩, 28) := ⟨⟨by decide +kernel, by decide +kernel⟩, List.mem_of_getElem? (i := 712) (by decide +kernel), List.mem_of_getElem? (i := 965) (by decide +kernel), List.mem_of_getElem? (i := 966) (by decide +kernel)⟩
theorem lw_p26 : lw_okq (⟨"PerhapsWasModel", "underWay", "(III)I"⟩, 28) := ⟨⟨by decide +kernel, by decide +kernel⟩, List.mem_of_getElem? (i := 712) (by decide +kernel), List.mem_of_getElem? (i := 969) (by decide +kernel), List.mem_of_getElem? (i := 970) (by decide +kernel)⟩
theorem lw_p27 : lw_okq (⟨"PerhapsWasModel", "extreme", "(IZ)I"⟩, 28) := ⟨⟨by decide +kernel, by decide +kernel⟩, List.mem_of_getElem? (i := 712) (by decide +kernel), List.mem_of_getElem? (i := 981) (by decide +kernel), List.mem_of_getElem? (i := 982) (by decide +kernel)⟩
theorem lw_p28 : lw_okq (⟨"PerhapsWasModel", "study", "(I)Z"⟩, 28) := ⟨⟨by decide +kernel, by decide +kernel⟩, List.mem_of_getElem? (i := 712) (by decide +kernel), List.mem_of_getElem? (i := 985) (by decide +kernel), List.mem_of_getElem? (i := 986) (by decide +kernel)⟩
theorem lw_p29 : lw_okq (⟨"PerhapsWasModel", "bars", "(I)Z"⟩, 28) := ⟨⟨by decide +kernel, by decide +kernel⟩, List.mem_of_getElem? (i := 712) (by decide +kernel), List.mem_of_getElem? (i := 1001) (by decide +kernel), List.mem_of_getElem? (i := 1002) (by decide +kernel)⟩
theorem lw_p30 : lw_okq (⟨"PerhapsWasModel", "isKept", "()Z"⟩, 28) := ⟨⟨by decide +kernel, by decide +kernel⟩, List.mem_of_getElem? (i := 712) (by decide +kernel), List.mem_of_getElem? (i := 1018) (by decide +kernel), List.mem_of_getElem? (i := 1019) (by decide +kernel)⟩
theorem lw_p31 : lw_okq (⟨"PerhapsWasModel", "isClosed", "(Z)Z"⟩, 28) := ⟨⟨by decide +kernel, by decide +kernel⟩, List.mem_of_getElem? (i := 712) (by decide +kernel), List.mem_of_getElem? (i := 1022) (by decide +kernel), List.mem_of_getElem? (i := 1023) (by decide +kernel)⟩
def lw_privs_2 : List (MethodName × Nat) := [(⟨"PerhapsWasModel", "isCut", "(I)Z"⟩, 28), (⟨"PerhapsWasModel", "isPossible", "(I)Z"⟩, 28), (⟨"PerhapsWasModel", "open", "()V"⟩, 28), (⟨"PerhapsWasModel", "count", "()V"⟩, 28), (⟨"PerhapsWasModel", "whole", "()I"⟩, 28), (⟨"PerhapsWasModel", "walk", "(JI)I"⟩, 28), (⟨"PerhapsWasModel", "push", "(III)I"⟩, 28), (⟨"PerhapsWasModel", "copy", "(II)V"⟩, 28), (⟨"PerhapsWasModel", "worthOf", "(II)I"⟩, 28), (⟨"PerhapsWasModel", "nameAt", "(III)I"⟩, 28), (⟨"PerhapsWasModel", "underWay", "(III)I"⟩, 28), (⟨"PerhapsWasModel", "extreme", "(IZ)I"⟩, 28), (⟨"PerhapsWasModel", "study", "(I)Z"⟩, 28), (⟨"PerhapsWasModel", "bars", "(I)Z"⟩, 28), (⟨"PerhapsWasModel", "isKept", "()Z"⟩, 28), (⟨"PerhapsWasModel", "isClosed", "(Z)Z"⟩, 28)]
theorem lw_r2 : ∀ q ∈ lw_privs_2, lw_okq q := List.forall_mem_cons.mpr ⟨lw_p16, List.forall_mem_cons.mpr ⟨lw_p17, List.forall_mem_cons.mpr ⟨lw_p18, List.forall_mem_cons.mpr ⟨lw_p19, List.forall_mem_cons.mpr ⟨lw_p20, List.forall_mem_cons.mpr ⟨lw_p21, List.forall_mem_cons.mpr ⟨lw_p22, List.forall_mem_cons.mpr ⟨lw_p23, List.forall_mem_cons.mpr ⟨lw_p24, List.forall_mem_cons.mpr ⟨lw_p25, List.forall_mem_cons.mpr ⟨lw_p26, List.forall_mem_cons.mpr ⟨lw_p27, List.forall_mem_cons.mpr ⟨lw_p28, List.forall_mem_cons.mpr ⟨lw_p29, List.forall_mem_cons.mpr ⟨lw_p30, List.forall_mem_cons.mpr ⟨lw_p31, fun _ h => absurd h List.not_mem_nil⟩⟩⟩⟩⟩⟩⟩⟩⟩⟩⟩⟩⟩⟩⟩⟩
theorem lw_p32 : lw_okq (⟨"PerhapsWasModel", "firstWrong", "()I"⟩, 28) := ⟨⟨by decide +kernel, by decide +kernel⟩, List.mem_of_getElem? (i := 712) (by decide +kernel), List.mem_of_getElem? (i := 1038) (by decide +kernel), List.mem_of_getElem? (i := 1039) (by decide +kernel)⟩
def lw_privs_3 : List (MethodName × Nat) := [(⟨"PerhapsWasModel", "firstWrong", "()I"⟩, 28)]
theorem lw_r3 : ∀ q ∈ lw_privs_3, lw_okq q := List.forall_mem_cons.mpr ⟨lw_p32, fun _ h => absurd h List.not_mem_nil⟩
def lw_privs : List (MethodName × Nat) := lw_privs_1 ++ (lw_privs_2 ++ (lw_privs_3))
def lw_tbl : List Cond := k2_sels lw_privs ++ tables_1
theorem lw_privs_ok : ∀ q ∈ lw_privs, lw_okq q := by
  show ∀ q ∈ lw_privs_1 ++ (lw_privs_2 ++ (lw_privs_3)), lw_okq q
  exact List.forall_mem_append.mpr ⟨lw_r1, List.forall_mem_append.mpr ⟨lw_r2, lw_r3⟩⟩
end
section
def RX0 : String := "PerhapsWas$Conditions"
def TX0 : u_T := fun k => match k with
  | 0 => ("PerhapsWas$Conditions", "formulas", "[LPerhapsWas$Formula;", true)
  | _ => ("PerhapsWas$Conditions", "total", "I", false)
def tyX0 : Nat → FieldType := fun k => match k with
  | 0 => .array (.object "PerhapsWas$Formula")
  | _ => .int
theorem nmX0 : ∀ a, a < 2 → ∀ b, b < 2 → a ≠ b → (TX0 a).2.1 ≠ (TX0 b).2.1 := by decide +kernel
theorem tyX0_ok : ∀ k, k < 2 → parseFieldDescriptor (TX0 k).2.2.1 = some (tyX0 k) := by decide +kernel
abbrev cX0_init : ByteArray := prog_2_method_1_code
def yX0_init : MethodName := ⟨RX0, "<init>", "()V"⟩
abbrev cX0_has : ByteArray := prog_2_method_2_code
def yX0_has : MethodName := ⟨RX0, "has", "(I)Z"⟩
abbrev cX0_keep : ByteArray := prog_2_method_3_code
def yX0_keep : MethodName := ⟨RX0, "keep", "(LPerhapsWas$Formula;)I"⟩
def RX1 : String := "PerhapsWas$Formula"
def TX1 : u_T := fun k => match k with
  | 0 => ("PerhapsWas$Formula", "kinds", "[I", true)
  | 1 => ("PerhapsWas$Formula", "firsts", "[I", true)
  | 2 => ("PerhapsWas$Formula", "seconds", "[I", true)
  | _ => ("PerhapsWas$Formula", "parts", "I", false)
def tyX1 : Nat → FieldType := fun k => match k with
  | 0 => .array .int
  | 1 => .array .int
  | 2 => .array .int
  | _ => .int
theorem nmX1 : ∀ a, a < 4 → ∀ b, b < 4 → a ≠ b → (TX1 a).2.1 ≠ (TX1 b).2.1 := by decide +kernel
theorem tyX1_ok : ∀ k, k < 4 → parseFieldDescriptor (TX1 k).2.2.1 = some (tyX1 k) := by decide +kernel
abbrev cX1_init : ByteArray := prog_3_method_1_code
def yX1_init : MethodName := ⟨RX1, "<init>", "()V"⟩
abbrev cX1_sidesOf : ByteArray := prog_3_method_2_code
def yX1_sidesOf : MethodName := ⟨RX1, "sidesOf", "(I)I"⟩
abbrev cX1_append : ByteArray := prog_3_method_3_code
def yX1_append : MethodName := ⟨RX1, "append", "(III)V"⟩
abbrev cX1_appendAll : ByteArray := prog_3_method_4_code
def yX1_appendAll : MethodName := ⟨RX1, "appendAll", "(LPerhapsWas$Formula;)V"⟩
def RX2 : String := "PerhapsWas$History"
def TX2 : u_T := fun k => match k with
  | 0 => ("PerhapsWas$History", "letters", "LPerhapsWas$Letters;", true)
  | 1 => ("PerhapsWas$History", "had", "[I", true)
  | 2 => ("PerhapsWas$History", "came", "[I", true)
  | 3 => ("PerhapsWas$History", "kinds", "[I", true)
  | 4 => ("PerhapsWas$History", "subjects", "[I", true)
  | 5 => ("PerhapsWas$History", "turns", "[I", true)
  | 6 => ("PerhapsWas$History", "clocks", "[I", true)
  | 7 => ("PerhapsWas$History", "values", "[I", true)
  | 8 => ("PerhapsWas$History", "processes", "I", false)
  | 9 => ("PerhapsWas$History", "total", "I", false)
  | _ => ("PerhapsWas$History", "changes", "I", false)
def tyX2 : Nat → FieldType := fun k => match k with
  | 0 => .object "PerhapsWas$Letters"
  | 1 => .array .int
  | 2 => .array .int
  | 3 => .array .int
  | 4 => .array .int
  | 5 => .array .int
  | 6 => .array .int
  | 7 => .array .int
  | 8 => .int
  | 9 => .int
  | _ => .int
theorem nmX2 : ∀ a, a < 11 → ∀ b, b < 11 → a ≠ b → (TX2 a).2.1 ≠ (TX2 b).2.1 := by decide +kernel
theorem tyX2_ok : ∀ k, k < 11 → parseFieldDescriptor (TX2 k).2.2.1 = some (tyX2 k) := by decide +kernel
abbrev cX2_init : ByteArray := prog_4_method_1_code
def yX2_init : MethodName := ⟨RX2, "<init>", "()V"⟩
abbrev cX2_place : ByteArray := prog_4_method_2_code
def yX2_place : MethodName := ⟨RX2, "place", "(II)I"⟩
abbrev cX2_valuePlace : ByteArray := prog_4_method_3_code
def yX2_valuePlace : MethodName := ⟨RX2, "valuePlace", "(III)I"⟩
abbrev cX2_hasProcess : ByteArray := prog_4_method_4_code
def yX2_hasProcess : MethodName := ⟨RX2, "hasProcess", "(I)Z"⟩
abbrev cX2_hasEvent : ByteArray := prog_4_method_5_code
def yX2_hasEvent : MethodName := ⟨RX2, "hasEvent", "(II)Z"⟩
abbrev cX2_hasCut : ByteArray := prog_4_method_6_code
def yX2_hasCut : MethodName := ⟨RX2, "hasCut", "(I)Z"⟩
abbrev cX2_isFull : ByteArray := prog_4_method_7_code
def yX2_isFull : MethodName := ⟨RX2, "isFull", "(I)Z"⟩
abbrev cX2_clockOf : ByteArray := prog_4_method_8_code
def yX2_clockOf : MethodName := ⟨RX2, "clockOf", "(III)I"⟩
abbrev cX2_leastWith : ByteArray := prog_4_method_9_code
def yX2_leastWith : MethodName := ⟨RX2, "leastWith", "(II)I"⟩
abbrev cX2_change : ByteArray := prog_4_method_10_code
def yX2_change : MethodName := ⟨RX2, "change", "(IIIZ)I"⟩
abbrev cX2_sendOut : ByteArray := prog_4_method_11_code
def yX2_sendOut : MethodName := ⟨RX2, "sendOut", "(II)I"⟩
abbrev cX2_takeIn : ByteArray := prog_4_method_12_code
def yX2_takeIn : MethodName := ⟨RX2, "takeIn", "(I)I"⟩
abbrev cX2_awaitAll : ByteArray := prog_4_method_13_code
def yX2_awaitAll : MethodName := ⟨RX2, "awaitAll", "(II)I"⟩
abbrev cX2_append : ByteArray := prog_4_method_14_code
def yX2_append : MethodName := ⟨RX2, "append", "(III)I"⟩
abbrev cX2_follow : ByteArray := prog_4_method_15_code
def yX2_follow : MethodName := ⟨RX2, "follow", "(III)V"⟩
abbrev cX2_takeBack : ByteArray := prog_4_method_16_code
def yX2_takeBack : MethodName := ⟨RX2, "takeBack", "()I"⟩
def RX3 : String := "PerhapsWas$Letters"
def TX3 : u_T := fun k => match k with
  | 0 => ("PerhapsWas$Letters", "from", "[I", true)
  | 1 => ("PerhapsWas$Letters", "to", "[I", true)
  | 2 => ("PerhapsWas$Letters", "sent", "[I", true)
  | 3 => ("PerhapsWas$Letters", "taken", "[I", true)
  | _ => ("PerhapsWas$Letters", "total", "I", false)
def tyX3 : Nat → FieldType := fun k => match k with
  | 0 => .array .int
  | 1 => .array .int
  | 2 => .array .int
  | 3 => .array .int
  | _ => .int
theorem nmX3 : ∀ a, a < 5 → ∀ b, b < 5 → a ≠ b → (TX3 a).2.1 ≠ (TX3 b).2.1 := by decide +kernel
theorem tyX3_ok : ∀ k, k < 5 → parseFieldDescriptor (TX3 k).2.2.1 = some (tyX3 k) := by decide +kernel
abbrev cX3_init : ByteArray := prog_5_method_1_code
def yX3_init : MethodName := ⟨RX3, "<init>", "()V"⟩
abbrev cX3_has : ByteArray := prog_5_method_2_code
def yX3_has : MethodName := ⟨RX3, "has", "(I)Z"⟩
abbrev cX3_write : ByteArray := prog_5_method_3_code
def yX3_write : MethodName := ⟨RX3, "write", "(III)I"⟩
abbrev cX3_howManyUntaken : ByteArray := prog_5_method_4_code
def yX3_howManyUntaken : MethodName := ⟨RX3, "howManyUntaken", "()I"⟩
def RX4 : String := "PerhapsWas$Marks"
def TX4 : u_T := fun k => match k with
  | 0 => ("PerhapsWas$Marks", "moment", "LPerhapsWas$Moment;", true)
  | 1 => ("PerhapsWas$Marks", "holds", "[Z", true)
  | _ => ("PerhapsWas$Marks", "nearest", "[I", true)
def tyX4 : Nat → FieldType := fun k => match k with
  | 0 => .object "PerhapsWas$Moment"
  | 1 => .array .boolean
  | _ => .array .int
theorem nmX4 : ∀ a, a < 3 → ∀ b, b < 3 → a ≠ b → (TX4 a).2.1 ≠ (TX4 b).2.1 := by decide +kernel
theorem tyX4_ok : ∀ k, k < 3 → parseFieldDescriptor (TX4 k).2.2.1 = some (tyX4 k) := by decide +kernel
abbrev cX4_init : ByteArray := prog_6_method_1_code
def yX4_init : MethodName := ⟨RX4, "<init>", "(LPerhapsWas$Moment;)V"⟩
abbrev cX4_wipe : ByteArray := prog_6_method_2_code
def yX4_wipe : MethodName := ⟨RX4, "wipe", "(LPerhapsWas$Net;)V"⟩
abbrev cX4_set : ByteArray := prog_6_method_3_code
def yX4_set : MethodName := ⟨RX4, "set", "(LPerhapsWas$Net;LPerhapsWas$Formula;)V"⟩
abbrev cX4_areKept : ByteArray := prog_6_method_4_code
def yX4_areKept : MethodName := ⟨RX4, "areKept", "(LPerhapsWas$Net;)Z"⟩
abbrev cX4_areMet : ByteArray := prog_6_method_5_code
def yX4_areMet : MethodName := ⟨RX4, "areMet", "(LPerhapsWas$Net;)Z"⟩
abbrev cX4_areJoined : ByteArray := prog_6_method_6_code
def yX4_areJoined : MethodName := ⟨RX4, "areJoined", "(LPerhapsWas$Net;)Z"⟩
abbrev cX4_nearestBeyond : ByteArray := prog_6_method_7_code
def yX4_nearestBeyond : MethodName := ⟨RX4, "nearestBeyond", "(LPerhapsWas$Net;IZ)I"⟩
def RX5 : String := "PerhapsWas$Moment"
def TX5 : u_T := fun k => match k with
  | 0 => ("PerhapsWas$Moment", "history", "LPerhapsWas$History;", true)
  | 1 => ("PerhapsWas$Moment", "counts", "[I", true)
  | _ => ("PerhapsWas$Moment", "pile", "[I", true)
def tyX5 : Nat → FieldType := fun k => match k with
  | 0 => .object "PerhapsWas$History"
  | 1 => .array .int
  | _ => .array .int
theorem nmX5 : ∀ a, a < 3 → ∀ b, b < 3 → a ≠ b → (TX5 a).2.1 ≠ (TX5 b).2.1 := by decide +kernel
theorem tyX5_ok : ∀ k, k < 3 → parseFieldDescriptor (TX5 k).2.2.1 = some (tyX5 k) := by decide +kernel
abbrev cX5_init : ByteArray := prog_7_method_1_code
def yX5_init : MethodName := ⟨RX5, "<init>", "(LPerhapsWas$History;)V"⟩
abbrev cX5_worth : ByteArray := prog_7_method_2_code
def yX5_worth : MethodName := ⟨RX5, "worth", "(LPerhapsWas$Formula;I)I"⟩
abbrev cX5_seen : ByteArray := prog_7_method_3_code
def yX5_seen : MethodName := ⟨RX5, "seen", "(III)I"⟩
abbrev cX5_howManyUnderWay : ByteArray := prog_7_method_4_code
def yX5_howManyUnderWay : MethodName := ⟨RX5, "howManyUnderWay", "(II)I"⟩
abbrev cX5_reckoned : ByteArray := prog_7_method_5_code
def yX5_reckoned : MethodName := ⟨RX5, "reckoned", "(III)I"⟩
def RX6 : String := "PerhapsWas$Net"
def TX6 : u_T := fun k => match k with
  | 0 => ("PerhapsWas$Net", "history", "LPerhapsWas$History;", true)
  | 1 => ("PerhapsWas$Net", "inOrder", "[I", true)
  | 2 => ("PerhapsWas$Net", "allowed", "[Z", true)
  | 3 => ("PerhapsWas$Net", "ends", "[I", true)
  | 4 => ("PerhapsWas$Net", "counts", "[I", true)
  | 5 => ("PerhapsWas$Net", "total", "I", false)
  | 6 => ("PerhapsWas$Net", "whole", "I", false)
  | _ => ("PerhapsWas$Net", "seenChanges", "I", false)
def tyX6 : Nat → FieldType := fun k => match k with
  | 0 => .object "PerhapsWas$History"
  | 1 => .array .int
  | 2 => .array .boolean
  | 3 => .array .int
  | 4 => .array .int
  | 5 => .int
  | 6 => .int
  | _ => .int
theorem nmX6 : ∀ a, a < 8 → ∀ b, b < 8 → a ≠ b → (TX6 a).2.1 ≠ (TX6 b).2.1 := by decide +kernel
theorem tyX6_ok : ∀ k, k < 8 → parseFieldDescriptor (TX6 k).2.2.1 = some (tyX6 k) := by decide +kernel
abbrev cX6_init : ByteArray := prog_8_method_1_code
def yX6_init : MethodName := ⟨RX6, "<init>", "(LPerhapsWas$History;)V"⟩
abbrev cX6_shareOf : ByteArray := prog_8_method_2_code
def yX6_shareOf : MethodName := ⟨RX6, "shareOf", "(II)I"⟩
abbrev cX6_sizeOf : ByteArray := prog_8_method_3_code
def yX6_sizeOf : MethodName := ⟨RX6, "sizeOf", "(I)I"⟩
abbrev cX6_combine : ByteArray := prog_8_method_4_code
def yX6_combine : MethodName := ⟨RX6, "combine", "(IIZ)I"⟩
abbrev cX6_refresh : ByteArray := prog_8_method_5_code
def yX6_refresh : MethodName := ⟨RX6, "refresh", "()V"⟩
abbrev cX6_isClosed : ByteArray := prog_8_method_6_code
def yX6_isClosed : MethodName := ⟨RX6, "isClosed", "(I)Z"⟩
abbrev cX6_sortBySize : ByteArray := prog_8_method_7_code
def yX6_sortBySize : MethodName := ⟨RX6, "sortBySize", "()V"⟩
abbrev cX6_howManyOf : ByteArray := prog_8_method_8_code
def yX6_howManyOf : MethodName := ⟨RX6, "howManyOf", "(I)I"⟩
abbrev cX6_firstBehind : ByteArray := prog_8_method_9_code
def yX6_firstBehind : MethodName := ⟨RX6, "firstBehind", "(I)I"⟩
abbrev cX6_up : ByteArray := prog_8_method_10_code
def yX6_up : MethodName := ⟨RX6, "up", "(II)I"⟩
abbrev cX6_down : ByteArray := prog_8_method_11_code
def yX6_down : MethodName := ⟨RX6, "down", "(II)I"⟩
abbrev cX6_firstOf : ByteArray := prog_8_method_12_code
def yX6_firstOf : MethodName := ⟨RX6, "firstOf", "([Z)I"⟩
abbrev cX6_lastOf : ByteArray := prog_8_method_13_code
def yX6_lastOf : MethodName := ⟨RX6, "lastOf", "([Z)I"⟩
abbrev cX6_howManyIn : ByteArray := prog_8_method_14_code
def yX6_howManyIn : MethodName := ⟨RX6, "howManyIn", "([Z)I"⟩
def RX7 : String := "PerhapsWas$Pile"
def TX7 : u_T := fun k => match k with
  | 0 => ("PerhapsWas$Pile", "formulas", "[LPerhapsWas$Formula;", true)
  | _ => ("PerhapsWas$Pile", "tops", "I", false)
def tyX7 : Nat → FieldType := fun k => match k with
  | 0 => .array (.object "PerhapsWas$Formula")
  | _ => .int
theorem nmX7 : ∀ a, a < 2 → ∀ b, b < 2 → a ≠ b → (TX7 a).2.1 ≠ (TX7 b).2.1 := by decide +kernel
theorem tyX7_ok : ∀ k, k < 2 → parseFieldDescriptor (TX7 k).2.2.1 = some (tyX7 k) := by decide +kernel
abbrev cX7_init : ByteArray := prog_9_method_1_code
def yX7_init : MethodName := ⟨RX7, "<init>", "()V"⟩
abbrev cX7_push : ByteArray := prog_9_method_2_code
def yX7_push : MethodName := ⟨RX7, "push", "(III)I"⟩
abbrev cX7_partsBehind : ByteArray := prog_9_method_3_code
def yX7_partsBehind : MethodName := ⟨RX7, "partsBehind", "(I)I"⟩
abbrev cX7_unite : ByteArray := prog_9_method_4_code
def yX7_unite : MethodName := ⟨RX7, "unite", "(I)I"⟩
def RX8 : String := "PerhapsWas$Row"
def TX8 : u_T := fun k => match k with
  | 0 => ("PerhapsWas$Row", "told", "[I", true)
  | _ => ("PerhapsWas$Row", "length", "I", false)
def tyX8 : Nat → FieldType := fun k => match k with
  | 0 => .array .int
  | _ => .int
theorem nmX8 : ∀ a, a < 2 → ∀ b, b < 2 → a ≠ b → (TX8 a).2.1 ≠ (TX8 b).2.1 := by decide +kernel
theorem tyX8_ok : ∀ k, k < 2 → parseFieldDescriptor (TX8 k).2.2.1 = some (tyX8 k) := by decide +kernel
abbrev cX8_init : ByteArray := prog_10_method_1_code
def yX8_init : MethodName := ⟨RX8, "<init>", "()V"⟩
abbrev cX8_append : ByteArray := prog_10_method_2_code
def yX8_append : MethodName := ⟨RX8, "append", "(I)I"⟩
abbrev cX8_rightPlaces : ByteArray := prog_10_method_3_code
def yX8_rightPlaces : MethodName := ⟨RX8, "rightPlaces", "(LPerhapsWas$Net;)I"⟩
abbrev cX8_firstAt : ByteArray := prog_10_method_4_code
def yX8_firstAt : MethodName := ⟨RX8, "firstAt", "(LPerhapsWas$Moment;LPerhapsWas$Formula;)I"⟩
def RX9 : String := "PerhapsWas$Ways"
def TX9 : u_T := fun k => match k with
  | _ => ("PerhapsWas$Ways", "onward", "[J", true)
def tyX9 : Nat → FieldType := fun k => match k with
  | _ => .array .long
theorem nmX9 : ∀ a, a < 1 → ∀ b, b < 1 → a ≠ b → (TX9 a).2.1 ≠ (TX9 b).2.1 := by decide +kernel
theorem tyX9_ok : ∀ k, k < 1 → parseFieldDescriptor (TX9 k).2.2.1 = some (tyX9 k) := by decide +kernel
abbrev cX9_init : ByteArray := prog_11_method_1_code
def yX9_init : MethodName := ⟨RX9, "<init>", "()V"⟩
abbrev cX9_fill : ByteArray := prog_11_method_2_code
def yX9_fill : MethodName := ⟨RX9, "fill", "(LPerhapsWas$Net;[Z)J"⟩
abbrev cX9_fillUntil : ByteArray := prog_11_method_3_code
def yX9_fillUntil : MethodName := ⟨RX9, "fillUntil", "(LPerhapsWas$Net;[ZLPerhapsWas$Moment;LPerhapsWas$Formula;)J"⟩
abbrev cX9_sumOver : ByteArray := prog_11_method_4_code
def yX9_sumOver : MethodName := ⟨RX9, "sumOver", "(LPerhapsWas$Net;I)J"⟩
abbrev cX9_over : ByteArray := prog_11_method_5_code
def yX9_over : MethodName := ⟨RX9, "over", "(LPerhapsWas$Net;II)J"⟩
abbrev cX9_processAt : ByteArray := prog_11_method_6_code
def yX9_processAt : MethodName := ⟨RX9, "processAt", "(LPerhapsWas$Net;JI)I"⟩
def RX10 : String := "PerhapsWas"
def TX10 : u_T := fun k => match k with
  | 0 => ("PerhapsWas", "history", "LPerhapsWas$History;", true)
  | 1 => ("PerhapsWas", "net", "LPerhapsWas$Net;", true)
  | 2 => ("PerhapsWas", "pile", "LPerhapsWas$Pile;", true)
  | 3 => ("PerhapsWas", "conditions", "LPerhapsWas$Conditions;", true)
  | 4 => ("PerhapsWas", "moment", "LPerhapsWas$Moment;", true)
  | 5 => ("PerhapsWas", "marks", "LPerhapsWas$Marks;", true)
  | 6 => ("PerhapsWas", "ways", "LPerhapsWas$Ways;", true)
  | 7 => ("PerhapsWas", "row", "LPerhapsWas$Row;", true)
  | _ => ("PerhapsWas", "refusal", "I", false)
def tyX10 : Nat → FieldType := fun k => match k with
  | 0 => .object "PerhapsWas$History"
  | 1 => .object "PerhapsWas$Net"
  | 2 => .object "PerhapsWas$Pile"
  | 3 => .object "PerhapsWas$Conditions"
  | 4 => .object "PerhapsWas$Moment"
  | 5 => .object "PerhapsWas$Marks"
  | 6 => .object "PerhapsWas$Ways"
  | 7 => .object "PerhapsWas$Row"
  | _ => .int
theorem nmX10 : ∀ a, a < 9 → ∀ b, b < 9 → a ≠ b → (TX10 a).2.1 ≠ (TX10 b).2.1 := by decide +kernel
theorem tyX10_ok : ∀ k, k < 9 → parseFieldDescriptor (TX10 k).2.2.1 = some (tyX10 k) := by decide +kernel
abbrev cX10_init : ByteArray := prog_1_method_1_code
def yX10_init : MethodName := ⟨RX10, "<init>", "()V"⟩
abbrev cX10_process : ByteArray := prog_1_method_2_code
def yX10_process : MethodName := ⟨RX10, "process", "()I"⟩
abbrev cX10_own : ByteArray := prog_1_method_3_code
def yX10_own : MethodName := ⟨RX10, "own", "(IIII)I"⟩
abbrev cX10_send : ByteArray := prog_1_method_4_code
def yX10_send : MethodName := ⟨RX10, "send", "(II)I"⟩
abbrev cX10_take : ByteArray := prog_1_method_5_code
def yX10_take : MethodName := ⟨RX10, "take", "(I)I"⟩
abbrev cX10_wait : ByteArray := prog_1_method_6_code
def yX10_wait : MethodName := ⟨RX10, "wait", "(II)I"⟩
abbrev cX10_refusalOfPair : ByteArray := prog_1_method_7_code
def yX10_refusalOfPair : MethodName := ⟨RX10, "refusalOfPair", "(II)I"⟩
abbrev cX10_undo : ByteArray := prog_1_method_8_code
def yX10_undo : MethodName := ⟨RX10, "undo", "()I"⟩
abbrev cX10_event : ByteArray := prog_1_method_9_code
def yX10_event : MethodName := ⟨RX10, "event", "(III)I"⟩
abbrev cX10_letter : ByteArray := prog_1_method_10_code
def yX10_letter : MethodName := ⟨RX10, "letter", "(II)I"⟩
abbrev cX10_ahead : ByteArray := prog_1_method_11_code
def yX10_ahead : MethodName := ⟨RX10, "ahead", "(IIII)I"⟩
abbrev cX10_clock : ByteArray := prog_1_method_12_code
def yX10_clock : MethodName := ⟨RX10, "clock", "(III)I"⟩
abbrev cX10_possible : ByteArray := prog_1_method_13_code
def yX10_possible : MethodName := ⟨RX10, "possible", "(I)I"⟩
abbrev cX10_cuts : ByteArray := prog_1_method_14_code
def yX10_cuts : MethodName := ⟨RX10, "cuts", "(I)I"⟩
abbrev cX10_next : ByteArray := prog_1_method_15_code
def yX10_next : MethodName := ⟨RX10, "next", "(I)I"⟩
abbrev cX10_join : ByteArray := prog_1_method_16_code
def yX10_join : MethodName := ⟨RX10, "join", "(III)I"⟩
abbrev cX10_least : ByteArray := prog_1_method_17_code
def yX10_least : MethodName := ⟨RX10, "least", "(II)I"⟩
abbrev cX10_orders : ByteArray := prog_1_method_18_code
def yX10_orders : MethodName := ⟨RX10, "orders", "()J"⟩
abbrev cX10_order : ByteArray := prog_1_method_19_code
def yX10_order : MethodName := ⟨RX10, "order", "(JI)I"⟩
abbrev cX10_number : ByteArray := prog_1_method_20_code
def yX10_number : MethodName := ⟨RX10, "number", "(I)I"⟩
abbrev cX10_part : ByteArray := prog_1_method_21_code
def yX10_part : MethodName := ⟨RX10, "part", "(III)I"⟩
abbrev cX10_mayBeProcess : ByteArray := prog_1_method_22_code
def yX10_mayBeProcess : MethodName := ⟨RX10, "mayBeProcess", "(I)Z"⟩
abbrev cX10_op : ByteArray := prog_1_method_23_code
def yX10_op : MethodName := ⟨RX10, "op", "(I)I"⟩
abbrev cX10_condition : ByteArray := prog_1_method_24_code
def yX10_condition : MethodName := ⟨RX10, "condition", "()I"⟩
abbrev cX10_clear : ByteArray := prog_1_method_25_code
def yX10_clear : MethodName := ⟨RX10, "clear", "(I)I"⟩
abbrev cX10_value : ByteArray := prog_1_method_26_code
def yX10_value : MethodName := ⟨RX10, "value", "(II)I"⟩
abbrev cX10_status : ByteArray := prog_1_method_27_code
def yX10_status : MethodName := ⟨RX10, "status", "()I"⟩
abbrev cX10_may : ByteArray := prog_1_method_28_code
def yX10_may : MethodName := ⟨RX10, "may", "(I)I"⟩
abbrev cX10_last : ByteArray := prog_1_method_29_code
def yX10_last : MethodName := ⟨RX10, "last", "(I)I"⟩
abbrev cX10_many : ByteArray := prog_1_method_30_code
def yX10_many : MethodName := ⟨RX10, "many", "(I)I"⟩
abbrev cX10_sure : ByteArray := prog_1_method_31_code
def yX10_sure : MethodName := ⟨RX10, "sure", "(I)I"⟩
abbrev cX10_avoid : ByteArray := prog_1_method_32_code
def yX10_avoid : MethodName := ⟨RX10, "avoid", "(II)I"⟩
abbrev cX10_avoids : ByteArray := prog_1_method_33_code
def yX10_avoids : MethodName := ⟨RX10, "avoids", "(I)J"⟩
abbrev cX10_is : ByteArray := prog_1_method_34_code
def yX10_is : MethodName := ⟨RX10, "is", "(II)I"⟩
abbrev cX10_before : ByteArray := prog_1_method_35_code
def yX10_before : MethodName := ⟨RX10, "before", "(II)I"⟩
abbrev cX10_say : ByteArray := prog_1_method_36_code
def yX10_say : MethodName := ⟨RX10, "say", "(I)I"⟩
abbrev cX10_check : ByteArray := prog_1_method_37_code
def yX10_check : MethodName := ⟨RX10, "check", "()I"⟩
abbrev cX10_passes : ByteArray := prog_1_method_38_code
def yX10_passes : MethodName := ⟨RX10, "passes", "(I)I"⟩
abbrev cX10_count : ByteArray := prog_1_method_39_code
def yX10_count : MethodName := ⟨RX10, "count", "(I)I"⟩
abbrev cX10_freshNet : ByteArray := prog_1_method_40_code
def yX10_freshNet : MethodName := ⟨RX10, "freshNet", "()LPerhapsWas$Net;"⟩
abbrev cX10_markedNet : ByteArray := prog_1_method_41_code
def yX10_markedNet : MethodName := ⟨RX10, "markedNet", "(I)LPerhapsWas$Net;"⟩
def RX11 : String := "PerhapsWasModel"
def TX11 : u_T := fun k => match k with
  | 0 => ("PerhapsWasModel", "thrown", "I", false)
  | 1 => ("PerhapsWasModel", "processes", "I", false)
  | 2 => ("PerhapsWasModel", "events", "[I", true)
  | 3 => ("PerhapsWasModel", "kind", "[I", true)
  | 4 => ("PerhapsWasModel", "about", "[I", true)
  | 5 => ("PerhapsWasModel", "worth", "[I", true)
  | 6 => ("PerhapsWasModel", "came", "[I", true)
  | 7 => ("PerhapsWasModel", "clock", "[I", true)
  | 8 => ("PerhapsWasModel", "all", "I", false)
  | 9 => ("PerhapsWasModel", "letters", "I", false)
  | 10 => ("PerhapsWasModel", "from", "[I", true)
  | 11 => ("PerhapsWasModel", "to", "[I", true)
  | 12 => ("PerhapsWasModel", "sent", "[I", true)
  | 13 => ("PerhapsWasModel", "took", "[I", true)
  | 14 => ("PerhapsWasModel", "barred", "[Z", true)
  | 15 => ("PerhapsWasModel", "ways", "[J", true)
  | 16 => ("PerhapsWasModel", "what", "[I", true)
  | 17 => ("PerhapsWasModel", "partA", "[I", true)
  | 18 => ("PerhapsWasModel", "partB", "[I", true)
  | 19 => ("PerhapsWasModel", "parts", "[I", true)
  | 20 => ("PerhapsWasModel", "conditions", "I", false)
  | 21 => ("PerhapsWasModel", "piled", "I", false)
  | 22 => ("PerhapsWasModel", "status", "I", false)
  | 23 => ("PerhapsWasModel", "pile", "[I", true)
  | 24 => ("PerhapsWasModel", "holds", "[Z", true)
  | 25 => ("PerhapsWasModel", "come", "[Z", true)
  | 26 => ("PerhapsWasModel", "said", "[I", true)
  | _ => ("PerhapsWasModel", "saids", "I", false)
def tyX11 : Nat → FieldType := fun k => match k with
  | 0 => .int
  | 1 => .int
  | 2 => .array .int
  | 3 => .array .int
  | 4 => .array .int
  | 5 => .array .int
  | 6 => .array .int
  | 7 => .array .int
  | 8 => .int
  | 9 => .int
  | 10 => .array .int
  | 11 => .array .int
  | 12 => .array .int
  | 13 => .array .int
  | 14 => .array .boolean
  | 15 => .array .long
  | 16 => .array .int
  | 17 => .array .int
  | 18 => .array .int
  | 19 => .array .int
  | 20 => .int
  | 21 => .int
  | 22 => .int
  | 23 => .array .int
  | 24 => .array .boolean
  | 25 => .array .boolean
  | 26 => .array .int
  | _ => .int
theorem nmX11 : ∀ a, a < 28 → ∀ b, b < 28 → a ≠ b → (TX11 a).2.1 ≠ (TX11 b).2.1 := by decide +kernel
theorem tyX11_ok : ∀ k, k < 28 → parseFieldDescriptor (TX11 k).2.2.1 = some (tyX11 k) := by decide +kernel
abbrev cX11_init : ByteArray := prog_13_method_1_code
def yX11_init : MethodName := ⟨RX11, "<init>", "()V"⟩
abbrev cX11_in : ByteArray := prog_13_method_3_code
def yX11_in : MethodName := ⟨RX11, "in", "(III)Z"⟩
abbrev cX11_isProcess : ByteArray := prog_13_method_4_code
def yX11_isProcess : MethodName := ⟨RX11, "isProcess", "(I)Z"⟩
abbrev cX11_isEvent : ByteArray := prog_13_method_5_code
def yX11_isEvent : MethodName := ⟨RX11, "isEvent", "(II)Z"⟩
abbrev cX11_process : ByteArray := prog_13_method_6_code
def yX11_process : MethodName := ⟨RX11, "process", "()I"⟩
abbrev cX11_comes : ByteArray := prog_13_method_7_code
def yX11_comes : MethodName := ⟨RX11, "comes", "(IIII)I"⟩
abbrev cX11_joins : ByteArray := prog_13_method_8_code
def yX11_joins : MethodName := ⟨RX11, "joins", "(II)V"⟩
abbrev cX11_own : ByteArray := prog_13_method_9_code
def yX11_own : MethodName := ⟨RX11, "own", "(IIII)I"⟩
abbrev cX11_send : ByteArray := prog_13_method_10_code
def yX11_send : MethodName := ⟨RX11, "send", "(II)I"⟩
abbrev cX11_take : ByteArray := prog_13_method_11_code
def yX11_take : MethodName := ⟨RX11, "take", "(I)I"⟩
abbrev cX11_wait : ByteArray := prog_13_method_12_code
def yX11_wait : MethodName := ⟨RX11, "wait", "(II)I"⟩
abbrev cX11_undo : ByteArray := prog_13_method_13_code
def yX11_undo : MethodName := ⟨RX11, "undo", "()I"⟩
abbrev cX11_event : ByteArray := prog_13_method_14_code
def yX11_event : MethodName := ⟨RX11, "event", "(III)I"⟩
abbrev cX11_letter : ByteArray := prog_13_method_15_code
def yX11_letter : MethodName := ⟨RX11, "letter", "(II)I"⟩
abbrev cX11_ahead : ByteArray := prog_13_method_16_code
def yX11_ahead : MethodName := ⟨RX11, "ahead", "(IIII)I"⟩
abbrev cX11_clock : ByteArray := prog_13_method_17_code
def yX11_clock : MethodName := ⟨RX11, "clock", "(III)I"⟩
abbrev cX11_unit : ByteArray := prog_13_method_18_code
def yX11_unit : MethodName := ⟨RX11, "unit", "(I)I"⟩
abbrev cX11_part : ByteArray := prog_13_method_19_code
def yX11_part : MethodName := ⟨RX11, "part", "(II)I"⟩
abbrev cX11_isCut : ByteArray := prog_13_method_20_code
def yX11_isCut : MethodName := ⟨RX11, "isCut", "(I)Z"⟩
abbrev cX11_sizeOf : ByteArray := prog_13_method_21_code
def yX11_sizeOf : MethodName := ⟨RX11, "sizeOf", "(I)I"⟩
abbrev cX11_isPossible : ByteArray := prog_13_method_22_code
def yX11_isPossible : MethodName := ⟨RX11, "isPossible", "(I)Z"⟩
abbrev cX11_whole : ByteArray := prog_13_method_23_code
def yX11_whole : MethodName := ⟨RX11, "whole", "()I"⟩
abbrev cX11_possible : ByteArray := prog_13_method_24_code
def yX11_possible : MethodName := ⟨RX11, "possible", "(I)I"⟩
abbrev cX11_cuts : ByteArray := prog_13_method_25_code
def yX11_cuts : MethodName := ⟨RX11, "cuts", "(I)I"⟩
abbrev cX11_next : ByteArray := prog_13_method_26_code
def yX11_next : MethodName := ⟨RX11, "next", "(I)I"⟩
abbrev cX11_joined : ByteArray := prog_13_method_27_code
def yX11_joined : MethodName := ⟨RX11, "joined", "(IIZ)I"⟩
abbrev cX11_join : ByteArray := prog_13_method_28_code
def yX11_join : MethodName := ⟨RX11, "join", "(III)I"⟩
abbrev cX11_least : ByteArray := prog_13_method_29_code
def yX11_least : MethodName := ⟨RX11, "least", "(II)I"⟩
abbrev cX11_open : ByteArray := prog_13_method_30_code
def yX11_open : MethodName := ⟨RX11, "open", "()V"⟩
abbrev cX11_count : ByteArray := prog_13_method_31_code
def yX11_count : MethodName := ⟨RX11, "count", "()V"⟩
abbrev cX11_orders : ByteArray := prog_13_method_32_code
def yX11_orders : MethodName := ⟨RX11, "orders", "()J"⟩
abbrev cX11_walk : ByteArray := prog_13_method_33_code
def yX11_walk : MethodName := ⟨RX11, "walk", "(JI)I"⟩
abbrev cX11_order : ByteArray := prog_13_method_34_code
def yX11_order : MethodName := ⟨RX11, "order", "(JI)I"⟩
abbrev cX11_push : ByteArray := prog_13_method_35_code
def yX11_push : MethodName := ⟨RX11, "push", "(III)I"⟩
abbrev cX11_number : ByteArray := prog_13_method_36_code
def yX11_number : MethodName := ⟨RX11, "number", "(I)I"⟩
abbrev cX11_part_ : ByteArray := prog_13_method_37_code
def yX11_part_ : MethodName := ⟨RX11, "part", "(III)I"⟩
abbrev cX11_copy : ByteArray := prog_13_method_38_code
def yX11_copy : MethodName := ⟨RX11, "copy", "(II)V"⟩
abbrev cX11_op : ByteArray := prog_13_method_39_code
def yX11_op : MethodName := ⟨RX11, "op", "(I)I"⟩
abbrev cX11_condition : ByteArray := prog_13_method_40_code
def yX11_condition : MethodName := ⟨RX11, "condition", "()I"⟩
abbrev cX11_clear : ByteArray := prog_13_method_41_code
def yX11_clear : MethodName := ⟨RX11, "clear", "(I)I"⟩
abbrev cX11_nameAt : ByteArray := prog_13_method_42_code
def yX11_nameAt : MethodName := ⟨RX11, "nameAt", "(III)I"⟩
abbrev cX11_underWay : ByteArray := prog_13_method_43_code
def yX11_underWay : MethodName := ⟨RX11, "underWay", "(III)I"⟩
abbrev cX11_give : ByteArray := prog_13_method_44_code
def yX11_give : MethodName := ⟨RX11, "give", "(III)I"⟩
abbrev cX11_worthOf : ByteArray := prog_13_method_45_code
def yX11_worthOf : MethodName := ⟨RX11, "worthOf", "(II)I"⟩
abbrev cX11_value : ByteArray := prog_13_method_46_code
def yX11_value : MethodName := ⟨RX11, "value", "(II)I"⟩
abbrev cX11_status : ByteArray := prog_13_method_47_code
def yX11_status : MethodName := ⟨RX11, "status", "()I"⟩
abbrev cX11_study : ByteArray := prog_13_method_48_code
def yX11_study : MethodName := ⟨RX11, "study", "(I)Z"⟩
abbrev cX11_extreme : ByteArray := prog_13_method_49_code
def yX11_extreme : MethodName := ⟨RX11, "extreme", "(IZ)I"⟩
abbrev cX11_may : ByteArray := prog_13_method_50_code
def yX11_may : MethodName := ⟨RX11, "may", "(I)I"⟩
abbrev cX11_last : ByteArray := prog_13_method_51_code
def yX11_last : MethodName := ⟨RX11, "last", "(I)I"⟩
abbrev cX11_many : ByteArray := prog_13_method_52_code
def yX11_many : MethodName := ⟨RX11, "many", "(I)I"⟩
abbrev cX11_bars : ByteArray := prog_13_method_53_code
def yX11_bars : MethodName := ⟨RX11, "bars", "(I)Z"⟩
abbrev cX11_sure : ByteArray := prog_13_method_54_code
def yX11_sure : MethodName := ⟨RX11, "sure", "(I)I"⟩
abbrev cX11_avoid : ByteArray := prog_13_method_55_code
def yX11_avoid : MethodName := ⟨RX11, "avoid", "(II)I"⟩
abbrev cX11_avoids : ByteArray := prog_13_method_56_code
def yX11_avoids : MethodName := ⟨RX11, "avoids", "(I)J"⟩
abbrev cX11_isKept : ByteArray := prog_13_method_57_code
def yX11_isKept : MethodName := ⟨RX11, "isKept", "()Z"⟩
abbrev cX11_isClosed : ByteArray := prog_13_method_58_code
def yX11_isClosed : MethodName := ⟨RX11, "isClosed", "(Z)Z"⟩
abbrev cX11_is : ByteArray := prog_13_method_59_code
def yX11_is : MethodName := ⟨RX11, "is", "(II)I"⟩
abbrev cX11_before : ByteArray := prog_13_method_60_code
def yX11_before : MethodName := ⟨RX11, "before", "(II)I"⟩
abbrev cX11_say : ByteArray := prog_13_method_61_code
def yX11_say : MethodName := ⟨RX11, "say", "(I)I"⟩
abbrev cX11_firstWrong : ByteArray := prog_13_method_62_code
def yX11_firstWrong : MethodName := ⟨RX11, "firstWrong", "()I"⟩
abbrev cX11_check : ByteArray := prog_13_method_63_code
def yX11_check : MethodName := ⟨RX11, "check", "()I"⟩
abbrev cX11_passes : ByteArray := prog_13_method_64_code
def yX11_passes : MethodName := ⟨RX11, "passes", "(I)I"⟩
abbrev cX11_count_ : ByteArray := prog_13_method_65_code
def yX11_count_ : MethodName := ⟨RX11, "count", "(I)I"⟩
def RJ9 : String := "java/lang/Math"
def TJ9 : u_T := fun k => match k with
  | _ => ("", "", "", false)
def tyJ9 : Nat → FieldType := fun k => match k with
  | _ => .int
theorem nmJ9 : ∀ a, a < 0 → ∀ b, b < 0 → a ≠ b → (TJ9 a).2.1 ≠ (TJ9 b).2.1 := by decide +kernel
theorem tyJ9_ok : ∀ k, k < 0 → parseFieldDescriptor (TJ9 k).2.2.1 = some (tyJ9 k) := by decide +kernel
abbrev cJ9_max_7cf53 : ByteArray := prog_14_method_65_code
def yJ9_max_7cf53 : MethodName := ⟨RJ9, "max", "(II)I"⟩
abbrev cJ9_min_7cf53 : ByteArray := prog_14_method_69_code
def yJ9_min_7cf53 : MethodName := ⟨RJ9, "min", "(II)I"⟩
def RJ7 : String := "java/util/Arrays"
def TJ7 : u_T := fun k => match k with
  | _ => ("", "", "", false)
def tyJ7 : Nat → FieldType := fun k => match k with
  | _ => .int
theorem nmJ7 : ∀ a, a < 0 → ∀ b, b < 0 → a ≠ b → (TJ7 a).2.1 ≠ (TJ7 b).2.1 := by decide +kernel
theorem tyJ7_ok : ∀ k, k < 0 → parseFieldDescriptor (TJ7 k).2.2.1 = some (tyJ7 k) := by decide +kernel
abbrev cJ7_fill_53178 : ByteArray := prog_15_method_103_code
def yJ7_fill_53178 : MethodName := ⟨RJ7, "fill", "([II)V"⟩
def RL : String := "PerhapsWasLaw"
abbrev cL_law : ByteArray := code
def yL_law : MethodName := ⟨RL, "law", "([I)Z"⟩
abbrev vwCl : List vw_C := [(RX0, TX0, 2), (RX1, TX1, 4), (RX2, TX2, 11), (RX3, TX3, 5), (RX4, TX4, 3), (RX5, TX5, 3), (RX6, TX6, 8), (RX7, TX7, 2), (RX8, TX8, 2), (RX9, TX9, 1), (RX10, TX10, 9), (RX11, TX11, 28)]
end
section
theorem dX0_init_0 : decode cX0_init 0 = .ok (.aload_n 0, 1) := by decide +kernel
theorem dX0_init_1 : decode cX0_init 1 = .ok (.invokespecial 3, 3) := by decide +kernel
theorem dX0_init_4 : decode cX0_init 4 = .ok (.aload_n 0, 1) := by decide +kernel
theorem dX0_init_5 : decode cX0_init 5 = .ok (.bipush 8, 2) := by decide +kernel
theorem dX0_init_7 : decode cX0_init 7 = .ok (.anewarray 9, 3) := by decide +kernel
theorem dX0_init_10 : decode cX0_init 10 = .ok (.putfield 11, 3) := by decide +kernel
theorem dX0_init_13 : decode cX0_init 13 = .ok (.iconst 0, 1) := by decide +kernel
theorem dX0_init_14 : decode cX0_init 14 = .ok (.istore_n 1, 1) := by decide +kernel
theorem dX0_init_15 : decode cX0_init 15 = .ok (.iload_n 1, 1) := by decide +kernel
theorem dX0_init_16 : decode cX0_init 16 = .ok (.bipush 8, 2) := by decide +kernel
theorem dX0_init_18 : decode cX0_init 18 = .ok (.if_icmp .ge 22, 3) := by decide +kernel
theorem dX0_init_21 : decode cX0_init 21 = .ok (.aload_n 0, 1) := by decide +kernel
theorem dX0_init_22 : decode cX0_init 22 = .ok (.getfield 11, 3) := by decide +kernel
theorem dX0_init_25 : decode cX0_init 25 = .ok (.iload_n 1, 1) := by decide +kernel
theorem dX0_init_26 : decode cX0_init 26 = .ok (.new 9, 3) := by decide +kernel
theorem dX0_init_29 : decode cX0_init 29 = .ok (.dup, 1) := by decide +kernel
theorem dX0_init_30 : decode cX0_init 30 = .ok (.invokespecial 17, 3) := by decide +kernel
theorem dX0_init_33 : decode cX0_init 33 = .ok (.aastore, 1) := by decide +kernel
theorem dX0_init_34 : decode cX0_init 34 = .ok (.iinc 1 1, 3) := by decide +kernel
theorem dX0_init_37 : decode cX0_init 37 = .ok (.goto (-22), 3) := by decide +kernel
theorem dX0_init_40 : decode cX0_init 40 = .ok (.return_, 1) := by decide +kernel
theorem dX0_has_0 : decode cX0_has 0 = .ok (.iload_n 1, 1) := by decide +kernel
theorem dX0_has_1 : decode cX0_has 1 = .ok (.ifCond .lt 15, 3) := by decide +kernel
theorem dX0_has_4 : decode cX0_has 4 = .ok (.iload_n 1, 1) := by decide +kernel
theorem dX0_has_5 : decode cX0_has 5 = .ok (.aload_n 0, 1) := by decide +kernel
theorem dX0_has_6 : decode cX0_has 6 = .ok (.getfield 18, 3) := by decide +kernel
theorem dX0_has_9 : decode cX0_has 9 = .ok (.if_icmp .ge 7, 3) := by decide +kernel
theorem dX0_has_12 : decode cX0_has 12 = .ok (.iconst 1, 1) := by decide +kernel
theorem dX0_has_13 : decode cX0_has 13 = .ok (.goto 4, 3) := by decide +kernel
theorem dX0_has_16 : decode cX0_has 16 = .ok (.iconst 0, 1) := by decide +kernel
theorem dX0_has_17 : decode cX0_has 17 = .ok (.ireturn, 1) := by decide +kernel
theorem dX0_keep_0 : decode cX0_keep 0 = .ok (.aload_n 0, 1) := by decide +kernel
theorem dX0_keep_1 : decode cX0_keep 1 = .ok (.getfield 11, 3) := by decide +kernel
theorem dX0_keep_4 : decode cX0_keep 4 = .ok (.aload_n 0, 1) := by decide +kernel
theorem dX0_keep_5 : decode cX0_keep 5 = .ok (.getfield 18, 3) := by decide +kernel
theorem dX0_keep_8 : decode cX0_keep 8 = .ok (.aaload, 1) := by decide +kernel
theorem dX0_keep_9 : decode cX0_keep 9 = .ok (.iconst 0, 1) := by decide +kernel
theorem dX0_keep_10 : decode cX0_keep 10 = .ok (.putfield 22, 3) := by decide +kernel
theorem dX0_keep_13 : decode cX0_keep 13 = .ok (.aload_n 0, 1) := by decide +kernel
theorem dX0_keep_14 : decode cX0_keep 14 = .ok (.getfield 11, 3) := by decide +kernel
theorem dX0_keep_17 : decode cX0_keep 17 = .ok (.aload_n 0, 1) := by decide +kernel
theorem dX0_keep_18 : decode cX0_keep 18 = .ok (.getfield 18, 3) := by decide +kernel
theorem dX0_keep_21 : decode cX0_keep 21 = .ok (.aaload, 1) := by decide +kernel
theorem dX0_keep_22 : decode cX0_keep 22 = .ok (.aload_n 1, 1) := by decide +kernel
theorem dX0_keep_23 : decode cX0_keep 23 = .ok (.invokevirtual 25, 3) := by decide +kernel
theorem dX0_keep_26 : decode cX0_keep 26 = .ok (.aload_n 0, 1) := by decide +kernel
theorem dX0_keep_27 : decode cX0_keep 27 = .ok (.dup, 1) := by decide +kernel
theorem dX0_keep_28 : decode cX0_keep 28 = .ok (.getfield 18, 3) := by decide +kernel
theorem dX0_keep_31 : decode cX0_keep 31 = .ok (.iconst 1, 1) := by decide +kernel
theorem dX0_keep_32 : decode cX0_keep 32 = .ok (.iadd, 1) := by decide +kernel
theorem dX0_keep_33 : decode cX0_keep 33 = .ok (.putfield 18, 3) := by decide +kernel
theorem dX0_keep_36 : decode cX0_keep 36 = .ok (.aload_n 0, 1) := by decide +kernel
theorem dX0_keep_37 : decode cX0_keep 37 = .ok (.getfield 18, 3) := by decide +kernel
theorem dX0_keep_40 : decode cX0_keep 40 = .ok (.iconst 1, 1) := by decide +kernel
theorem dX0_keep_41 : decode cX0_keep 41 = .ok (.isub, 1) := by decide +kernel
theorem dX0_keep_42 : decode cX0_keep 42 = .ok (.ireturn, 1) := by decide +kernel
theorem dX1_init_0 : decode cX1_init 0 = .ok (.aload_n 0, 1) := by decide +kernel
theorem dX1_init_1 : decode cX1_init 1 = .ok (.invokespecial 3, 3) := by decide +kernel
theorem dX1_init_4 : decode cX1_init 4 = .ok (.aload_n 0, 1) := by decide +kernel
theorem dX1_init_5 : decode cX1_init 5 = .ok (.bipush 15, 2) := by decide +kernel
theorem dX1_init_7 : decode cX1_init 7 = .ok (.newarray .int, 2) := by decide +kernel
theorem dX1_init_9 : decode cX1_init 9 = .ok (.putfield 9, 3) := by decide +kernel
theorem dX1_init_12 : decode cX1_init 12 = .ok (.aload_n 0, 1) := by decide +kernel
theorem dX1_init_13 : decode cX1_init 13 = .ok (.bipush 15, 2) := by decide +kernel
theorem dX1_init_15 : decode cX1_init 15 = .ok (.newarray .int, 2) := by decide +kernel
theorem dX1_init_17 : decode cX1_init 17 = .ok (.putfield 15, 3) := by decide +kernel
theorem dX1_init_20 : decode cX1_init 20 = .ok (.aload_n 0, 1) := by decide +kernel
theorem dX1_init_21 : decode cX1_init 21 = .ok (.bipush 15, 2) := by decide +kernel
theorem dX1_init_23 : decode cX1_init 23 = .ok (.newarray .int, 2) := by decide +kernel
theorem dX1_init_25 : decode cX1_init 25 = .ok (.putfield 18, 3) := by decide +kernel
theorem dX1_init_28 : decode cX1_init 28 = .ok (.return_, 1) := by decide +kernel
theorem dX1_sidesOf_0 : decode cX1_sidesOf 0 = .ok (.iload_n 0, 1) := by decide +kernel
theorem dX1_sidesOf_1 : decode cX1_sidesOf 1 = .ok (.bipush 7, 2) := by decide +kernel
theorem dX1_sidesOf_3 : decode cX1_sidesOf 3 = .ok (.if_icmp .ge 7, 3) := by decide +kernel
theorem dX1_sidesOf_6 : decode cX1_sidesOf 6 = .ok (.iconst 2, 1) := by decide +kernel
theorem dX1_sidesOf_7 : decode cX1_sidesOf 7 = .ok (.goto 14, 3) := by decide +kernel
theorem dX1_sidesOf_10 : decode cX1_sidesOf 10 = .ok (.iload_n 0, 1) := by decide +kernel
theorem dX1_sidesOf_11 : decode cX1_sidesOf 11 = .ok (.bipush 7, 2) := by decide +kernel
theorem dX1_sidesOf_13 : decode cX1_sidesOf 13 = .ok (.if_icmp .ne 7, 3) := by decide +kernel
theorem dX1_sidesOf_16 : decode cX1_sidesOf 16 = .ok (.iconst 1, 1) := by decide +kernel
theorem dX1_sidesOf_17 : decode cX1_sidesOf 17 = .ok (.goto 4, 3) := by decide +kernel
theorem dX1_sidesOf_20 : decode cX1_sidesOf 20 = .ok (.iconst 0, 1) := by decide +kernel
theorem dX1_sidesOf_21 : decode cX1_sidesOf 21 = .ok (.ireturn, 1) := by decide +kernel
theorem dX1_append_0 : decode cX1_append 0 = .ok (.aload_n 0, 1) := by decide +kernel
theorem dX1_append_1 : decode cX1_append 1 = .ok (.getfield 9, 3) := by decide +kernel
theorem dX1_append_4 : decode cX1_append 4 = .ok (.aload_n 0, 1) := by decide +kernel
theorem dX1_append_5 : decode cX1_append 5 = .ok (.getfield 21, 3) := by decide +kernel
theorem dX1_append_8 : decode cX1_append 8 = .ok (.iload_n 1, 1) := by decide +kernel
theorem dX1_append_9 : decode cX1_append 9 = .ok (.iastore, 1) := by decide +kernel
theorem dX1_append_10 : decode cX1_append 10 = .ok (.aload_n 0, 1) := by decide +kernel
theorem dX1_append_11 : decode cX1_append 11 = .ok (.getfield 15, 3) := by decide +kernel
theorem dX1_append_14 : decode cX1_append 14 = .ok (.aload_n 0, 1) := by decide +kernel
theorem dX1_append_15 : decode cX1_append 15 = .ok (.getfield 21, 3) := by decide +kernel
theorem dX1_append_18 : decode cX1_append 18 = .ok (.iload_n 2, 1) := by decide +kernel
theorem dX1_append_19 : decode cX1_append 19 = .ok (.iastore, 1) := by decide +kernel
theorem dX1_append_20 : decode cX1_append 20 = .ok (.aload_n 0, 1) := by decide +kernel
theorem dX1_append_21 : decode cX1_append 21 = .ok (.getfield 18, 3) := by decide +kernel
theorem dX1_append_24 : decode cX1_append 24 = .ok (.aload_n 0, 1) := by decide +kernel
theorem dX1_append_25 : decode cX1_append 25 = .ok (.getfield 21, 3) := by decide +kernel
theorem dX1_append_28 : decode cX1_append 28 = .ok (.iload_n 3, 1) := by decide +kernel
theorem dX1_append_29 : decode cX1_append 29 = .ok (.iastore, 1) := by decide +kernel
theorem dX1_append_30 : decode cX1_append 30 = .ok (.aload_n 0, 1) := by decide +kernel
theorem dX1_append_31 : decode cX1_append 31 = .ok (.dup, 1) := by decide +kernel
theorem dX1_append_32 : decode cX1_append 32 = .ok (.getfield 21, 3) := by decide +kernel
theorem dX1_append_35 : decode cX1_append 35 = .ok (.iconst 1, 1) := by decide +kernel
theorem dX1_append_36 : decode cX1_append 36 = .ok (.iadd, 1) := by decide +kernel
theorem dX1_append_37 : decode cX1_append 37 = .ok (.putfield 21, 3) := by decide +kernel
theorem dX1_append_40 : decode cX1_append 40 = .ok (.return_, 1) := by decide +kernel
theorem dX1_appendAll_0 : decode cX1_appendAll 0 = .ok (.iconst 0, 1) := by decide +kernel
theorem dX1_appendAll_1 : decode cX1_appendAll 1 = .ok (.istore_n 2, 1) := by decide +kernel
theorem dX1_appendAll_2 : decode cX1_appendAll 2 = .ok (.iload_n 2, 1) := by decide +kernel
theorem dX1_appendAll_3 : decode cX1_appendAll 3 = .ok (.aload_n 1, 1) := by decide +kernel
theorem dX1_appendAll_4 : decode cX1_appendAll 4 = .ok (.getfield 21, 3) := by decide +kernel
theorem dX1_appendAll_7 : decode cX1_appendAll 7 = .ok (.if_icmp .ge 31, 3) := by decide +kernel
theorem dX1_appendAll_10 : decode cX1_appendAll 10 = .ok (.aload_n 0, 1) := by decide +kernel
theorem dX1_appendAll_11 : decode cX1_appendAll 11 = .ok (.aload_n 1, 1) := by decide +kernel
theorem dX1_appendAll_12 : decode cX1_appendAll 12 = .ok (.getfield 9, 3) := by decide +kernel
theorem dX1_appendAll_15 : decode cX1_appendAll 15 = .ok (.iload_n 2, 1) := by decide +kernel
theorem dX1_appendAll_16 : decode cX1_appendAll 16 = .ok (.iaload, 1) := by decide +kernel
theorem dX1_appendAll_17 : decode cX1_appendAll 17 = .ok (.aload_n 1, 1) := by decide +kernel
theorem dX1_appendAll_18 : decode cX1_appendAll 18 = .ok (.getfield 15, 3) := by decide +kernel
theorem dX1_appendAll_21 : decode cX1_appendAll 21 = .ok (.iload_n 2, 1) := by decide +kernel
theorem dX1_appendAll_22 : decode cX1_appendAll 22 = .ok (.iaload, 1) := by decide +kernel
theorem dX1_appendAll_23 : decode cX1_appendAll 23 = .ok (.aload_n 1, 1) := by decide +kernel
theorem dX1_appendAll_24 : decode cX1_appendAll 24 = .ok (.getfield 18, 3) := by decide +kernel
theorem dX1_appendAll_27 : decode cX1_appendAll 27 = .ok (.iload_n 2, 1) := by decide +kernel
theorem dX1_appendAll_28 : decode cX1_appendAll 28 = .ok (.iaload, 1) := by decide +kernel
theorem dX1_appendAll_29 : decode cX1_appendAll 29 = .ok (.invokevirtual 25, 3) := by decide +kernel
theorem dX1_appendAll_32 : decode cX1_appendAll 32 = .ok (.iinc 2 1, 3) := by decide +kernel
theorem dX1_appendAll_35 : decode cX1_appendAll 35 = .ok (.goto (-33), 3) := by decide +kernel
theorem dX1_appendAll_38 : decode cX1_appendAll 38 = .ok (.return_, 1) := by decide +kernel
theorem dX2_init_0 : decode cX2_init 0 = .ok (.aload_n 0, 1) := by decide +kernel
theorem dX2_init_1 : decode cX2_init 1 = .ok (.invokespecial 3, 3) := by decide +kernel
theorem dX2_init_4 : decode cX2_init 4 = .ok (.aload_n 0, 1) := by decide +kernel
theorem dX2_init_5 : decode cX2_init 5 = .ok (.new 9, 3) := by decide +kernel
theorem dX2_init_8 : decode cX2_init 8 = .ok (.dup, 1) := by decide +kernel
theorem dX2_init_9 : decode cX2_init 9 = .ok (.invokespecial 11, 3) := by decide +kernel
theorem dX2_init_12 : decode cX2_init 12 = .ok (.putfield 12, 3) := by decide +kernel
theorem dX2_init_15 : decode cX2_init 15 = .ok (.aload_n 0, 1) := by decide +kernel
theorem dX2_init_16 : decode cX2_init 16 = .ok (.iconst 4, 1) := by decide +kernel
theorem dX2_init_17 : decode cX2_init 17 = .ok (.newarray .int, 2) := by decide +kernel
theorem dX2_init_19 : decode cX2_init 19 = .ok (.putfield 18, 3) := by decide +kernel
theorem dX2_init_22 : decode cX2_init 22 = .ok (.aload_n 0, 1) := by decide +kernel
theorem dX2_init_23 : decode cX2_init 23 = .ok (.bipush 24, 2) := by decide +kernel
theorem dX2_init_25 : decode cX2_init 25 = .ok (.newarray .int, 2) := by decide +kernel
theorem dX2_init_27 : decode cX2_init 27 = .ok (.putfield 22, 3) := by decide +kernel
theorem dX2_init_30 : decode cX2_init 30 = .ok (.aload_n 0, 1) := by decide +kernel
theorem dX2_init_31 : decode cX2_init 31 = .ok (.bipush 24, 2) := by decide +kernel
theorem dX2_init_33 : decode cX2_init 33 = .ok (.newarray .int, 2) := by decide +kernel
theorem dX2_init_35 : decode cX2_init 35 = .ok (.putfield 25, 3) := by decide +kernel
theorem dX2_init_38 : decode cX2_init 38 = .ok (.aload_n 0, 1) := by decide +kernel
theorem dX2_init_39 : decode cX2_init 39 = .ok (.bipush 24, 2) := by decide +kernel
theorem dX2_init_41 : decode cX2_init 41 = .ok (.newarray .int, 2) := by decide +kernel
theorem dX2_init_43 : decode cX2_init 43 = .ok (.putfield 28, 3) := by decide +kernel
theorem dX2_init_46 : decode cX2_init 46 = .ok (.aload_n 0, 1) := by decide +kernel
theorem dX2_init_47 : decode cX2_init 47 = .ok (.bipush 24, 2) := by decide +kernel
theorem dX2_init_49 : decode cX2_init 49 = .ok (.newarray .int, 2) := by decide +kernel
theorem dX2_init_51 : decode cX2_init 51 = .ok (.putfield 31, 3) := by decide +kernel
theorem dX2_init_54 : decode cX2_init 54 = .ok (.aload_n 0, 1) := by decide +kernel
theorem dX2_init_55 : decode cX2_init 55 = .ok (.bipush 96, 2) := by decide +kernel
theorem dX2_init_57 : decode cX2_init 57 = .ok (.newarray .int, 2) := by decide +kernel
theorem dX2_init_59 : decode cX2_init 59 = .ok (.putfield 34, 3) := by decide +kernel
theorem dX2_init_62 : decode cX2_init 62 = .ok (.aload_n 0, 1) := by decide +kernel
theorem dX2_init_63 : decode cX2_init 63 = .ok (.bipush 84, 2) := by decide +kernel
theorem dX2_init_65 : decode cX2_init 65 = .ok (.newarray .int, 2) := by decide +kernel
theorem dX2_init_67 : decode cX2_init 67 = .ok (.putfield 37, 3) := by decide +kernel
theorem dX2_init_70 : decode cX2_init 70 = .ok (.return_, 1) := by decide +kernel
theorem dX2_place_0 : decode cX2_place 0 = .ok (.iload_n 0, 1) := by decide +kernel
theorem dX2_place_1 : decode cX2_place 1 = .ok (.bipush 6, 2) := by decide +kernel
theorem dX2_place_3 : decode cX2_place 3 = .ok (.imul, 1) := by decide +kernel
theorem dX2_place_4 : decode cX2_place 4 = .ok (.iload_n 1, 1) := by decide +kernel
theorem dX2_place_5 : decode cX2_place 5 = .ok (.iadd, 1) := by decide +kernel
theorem dX2_place_6 : decode cX2_place 6 = .ok (.ireturn, 1) := by decide +kernel
theorem dX2_valuePlace_0 : decode cX2_valuePlace 0 = .ok (.iload_n 0, 1) := by decide +kernel
theorem dX2_valuePlace_1 : decode cX2_valuePlace 1 = .ok (.bipush 7, 2) := by decide +kernel
theorem dX2_valuePlace_3 : decode cX2_valuePlace 3 = .ok (.imul, 1) := by decide +kernel
theorem dX2_valuePlace_4 : decode cX2_valuePlace 4 = .ok (.iload_n 1, 1) := by decide +kernel
theorem dX2_valuePlace_5 : decode cX2_valuePlace 5 = .ok (.iadd, 1) := by decide +kernel
theorem dX2_valuePlace_6 : decode cX2_valuePlace 6 = .ok (.iconst 3, 1) := by decide +kernel
theorem dX2_valuePlace_7 : decode cX2_valuePlace 7 = .ok (.imul, 1) := by decide +kernel
theorem dX2_valuePlace_8 : decode cX2_valuePlace 8 = .ok (.iload_n 2, 1) := by decide +kernel
theorem dX2_valuePlace_9 : decode cX2_valuePlace 9 = .ok (.iadd, 1) := by decide +kernel
theorem dX2_valuePlace_10 : decode cX2_valuePlace 10 = .ok (.ireturn, 1) := by decide +kernel
theorem dX2_hasProcess_0 : decode cX2_hasProcess 0 = .ok (.iload_n 1, 1) := by decide +kernel
theorem dX2_hasProcess_1 : decode cX2_hasProcess 1 = .ok (.ifCond .lt 15, 3) := by decide +kernel
theorem dX2_hasProcess_4 : decode cX2_hasProcess 4 = .ok (.iload_n 1, 1) := by decide +kernel
theorem dX2_hasProcess_5 : decode cX2_hasProcess 5 = .ok (.aload_n 0, 1) := by decide +kernel
theorem dX2_hasProcess_6 : decode cX2_hasProcess 6 = .ok (.getfield 40, 3) := by decide +kernel
theorem dX2_hasProcess_9 : decode cX2_hasProcess 9 = .ok (.if_icmp .ge 7, 3) := by decide +kernel
theorem dX2_hasProcess_12 : decode cX2_hasProcess 12 = .ok (.iconst 1, 1) := by decide +kernel
theorem dX2_hasProcess_13 : decode cX2_hasProcess 13 = .ok (.goto 4, 3) := by decide +kernel
theorem dX2_hasProcess_16 : decode cX2_hasProcess 16 = .ok (.iconst 0, 1) := by decide +kernel
theorem dX2_hasProcess_17 : decode cX2_hasProcess 17 = .ok (.ireturn, 1) := by decide +kernel
theorem dX2_hasEvent_0 : decode cX2_hasEvent 0 = .ok (.aload_n 0, 1) := by decide +kernel
theorem dX2_hasEvent_1 : decode cX2_hasEvent 1 = .ok (.iload_n 1, 1) := by decide +kernel
theorem dX2_hasEvent_2 : decode cX2_hasEvent 2 = .ok (.invokevirtual 44, 3) := by decide +kernel
theorem dX2_hasEvent_5 : decode cX2_hasEvent 5 = .ok (.ifCond .eq 21, 3) := by decide +kernel
theorem dX2_hasEvent_8 : decode cX2_hasEvent 8 = .ok (.iload_n 2, 1) := by decide +kernel
theorem dX2_hasEvent_9 : decode cX2_hasEvent 9 = .ok (.ifCond .lt 17, 3) := by decide +kernel
theorem dX2_hasEvent_12 : decode cX2_hasEvent 12 = .ok (.iload_n 2, 1) := by decide +kernel
theorem dX2_hasEvent_13 : decode cX2_hasEvent 13 = .ok (.aload_n 0, 1) := by decide +kernel
theorem dX2_hasEvent_14 : decode cX2_hasEvent 14 = .ok (.getfield 18, 3) := by decide +kernel
theorem dX2_hasEvent_17 : decode cX2_hasEvent 17 = .ok (.iload_n 1, 1) := by decide +kernel
theorem dX2_hasEvent_18 : decode cX2_hasEvent 18 = .ok (.iaload, 1) := by decide +kernel
theorem dX2_hasEvent_19 : decode cX2_hasEvent 19 = .ok (.if_icmp .ge 7, 3) := by decide +kernel
theorem dX2_hasEvent_22 : decode cX2_hasEvent 22 = .ok (.iconst 1, 1) := by decide +kernel
theorem dX2_hasEvent_23 : decode cX2_hasEvent 23 = .ok (.goto 4, 3) := by decide +kernel
theorem dX2_hasEvent_26 : decode cX2_hasEvent 26 = .ok (.iconst 0, 1) := by decide +kernel
theorem dX2_hasEvent_27 : decode cX2_hasEvent 27 = .ok (.ireturn, 1) := by decide +kernel
theorem dX2_hasCut_0 : decode cX2_hasCut 0 = .ok (.iload_n 1, 1) := by decide +kernel
theorem dX2_hasCut_1 : decode cX2_hasCut 1 = .ok (.ifCond .lt 10, 3) := by decide +kernel
theorem dX2_hasCut_4 : decode cX2_hasCut 4 = .ok (.iload_n 1, 1) := by decide +kernel
theorem dX2_hasCut_5 : decode cX2_hasCut 5 = .ok (.sipush 2401, 3) := by decide +kernel
theorem dX2_hasCut_8 : decode cX2_hasCut 8 = .ok (.if_icmp .lt 5, 3) := by decide +kernel
theorem dX2_hasCut_11 : decode cX2_hasCut 11 = .ok (.iconst 0, 1) := by decide +kernel
theorem dX2_hasCut_12 : decode cX2_hasCut 12 = .ok (.ireturn, 1) := by decide +kernel
theorem dX2_hasCut_13 : decode cX2_hasCut 13 = .ok (.iload_n 1, 1) := by decide +kernel
theorem dX2_hasCut_14 : decode cX2_hasCut 14 = .ok (.istore_n 2, 1) := by decide +kernel
theorem dX2_hasCut_15 : decode cX2_hasCut 15 = .ok (.iconst 0, 1) := by decide +kernel
theorem dX2_hasCut_16 : decode cX2_hasCut 16 = .ok (.istore_n 3, 1) := by decide +kernel
theorem dX2_hasCut_17 : decode cX2_hasCut 17 = .ok (.iload_n 3, 1) := by decide +kernel
theorem dX2_hasCut_18 : decode cX2_hasCut 18 = .ok (.iconst 4, 1) := by decide +kernel
theorem dX2_hasCut_19 : decode cX2_hasCut 19 = .ok (.if_icmp .ge 29, 3) := by decide +kernel
theorem dX2_hasCut_22 : decode cX2_hasCut 22 = .ok (.iload_n 2, 1) := by decide +kernel
theorem dX2_hasCut_23 : decode cX2_hasCut 23 = .ok (.bipush 7, 2) := by decide +kernel
theorem dX2_hasCut_25 : decode cX2_hasCut 25 = .ok (.irem, 1) := by decide +kernel
theorem dX2_hasCut_26 : decode cX2_hasCut 26 = .ok (.aload_n 0, 1) := by decide +kernel
theorem dX2_hasCut_27 : decode cX2_hasCut 27 = .ok (.getfield 18, 3) := by decide +kernel
theorem dX2_hasCut_30 : decode cX2_hasCut 30 = .ok (.iload_n 3, 1) := by decide +kernel
theorem dX2_hasCut_31 : decode cX2_hasCut 31 = .ok (.iaload, 1) := by decide +kernel
theorem dX2_hasCut_32 : decode cX2_hasCut 32 = .ok (.if_icmp .le 5, 3) := by decide +kernel
theorem dX2_hasCut_35 : decode cX2_hasCut 35 = .ok (.iconst 0, 1) := by decide +kernel
theorem dX2_hasCut_36 : decode cX2_hasCut 36 = .ok (.ireturn, 1) := by decide +kernel
theorem dX2_hasCut_37 : decode cX2_hasCut 37 = .ok (.iload_n 2, 1) := by decide +kernel
theorem dX2_hasCut_38 : decode cX2_hasCut 38 = .ok (.bipush 7, 2) := by decide +kernel
theorem dX2_hasCut_40 : decode cX2_hasCut 40 = .ok (.idiv, 1) := by decide +kernel
theorem dX2_hasCut_41 : decode cX2_hasCut 41 = .ok (.istore_n 2, 1) := by decide +kernel
theorem dX2_hasCut_42 : decode cX2_hasCut 42 = .ok (.iinc 3 1, 3) := by decide +kernel
theorem dX2_hasCut_45 : decode cX2_hasCut 45 = .ok (.goto (-28), 3) := by decide +kernel
theorem dX2_hasCut_48 : decode cX2_hasCut 48 = .ok (.iconst 1, 1) := by decide +kernel
theorem dX2_hasCut_49 : decode cX2_hasCut 49 = .ok (.ireturn, 1) := by decide +kernel
theorem dX2_isFull_0 : decode cX2_isFull 0 = .ok (.aload_n 0, 1) := by decide +kernel
theorem dX2_isFull_1 : decode cX2_isFull 1 = .ok (.getfield 18, 3) := by decide +kernel
theorem dX2_isFull_4 : decode cX2_isFull 4 = .ok (.iload_n 1, 1) := by decide +kernel
theorem dX2_isFull_5 : decode cX2_isFull 5 = .ok (.iaload, 1) := by decide +kernel
theorem dX2_isFull_6 : decode cX2_isFull 6 = .ok (.bipush 6, 2) := by decide +kernel
theorem dX2_isFull_8 : decode cX2_isFull 8 = .ok (.if_icmp .lt 7, 3) := by decide +kernel
theorem dX2_isFull_11 : decode cX2_isFull 11 = .ok (.iconst 1, 1) := by decide +kernel
theorem dX2_isFull_12 : decode cX2_isFull 12 = .ok (.goto 4, 3) := by decide +kernel
theorem dX2_isFull_15 : decode cX2_isFull 15 = .ok (.iconst 0, 1) := by decide +kernel
theorem dX2_isFull_16 : decode cX2_isFull 16 = .ok (.ireturn, 1) := by decide +kernel
theorem dX2_clockOf_0 : decode cX2_clockOf 0 = .ok (.aload_n 0, 1) := by decide +kernel
theorem dX2_clockOf_1 : decode cX2_clockOf 1 = .ok (.getfield 34, 3) := by decide +kernel
theorem dX2_clockOf_4 : decode cX2_clockOf 4 = .ok (.iload_n 1, 1) := by decide +kernel
theorem dX2_clockOf_5 : decode cX2_clockOf 5 = .ok (.bipush 6, 2) := by decide +kernel
theorem dX2_clockOf_7 : decode cX2_clockOf 7 = .ok (.imul, 1) := by decide +kernel
theorem dX2_clockOf_8 : decode cX2_clockOf 8 = .ok (.iload_n 2, 1) := by decide +kernel
theorem dX2_clockOf_9 : decode cX2_clockOf 9 = .ok (.iadd, 1) := by decide +kernel
theorem dX2_clockOf_10 : decode cX2_clockOf 10 = .ok (.iconst 4, 1) := by decide +kernel
theorem dX2_clockOf_11 : decode cX2_clockOf 11 = .ok (.imul, 1) := by decide +kernel
theorem dX2_clockOf_12 : decode cX2_clockOf 12 = .ok (.iload_n 3, 1) := by decide +kernel
theorem dX2_clockOf_13 : decode cX2_clockOf 13 = .ok (.iadd, 1) := by decide +kernel
theorem dX2_clockOf_14 : decode cX2_clockOf 14 = .ok (.iaload, 1) := by decide +kernel
theorem dX2_clockOf_15 : decode cX2_clockOf 15 = .ok (.ireturn, 1) := by decide +kernel
theorem dX2_leastWith_0 : decode cX2_leastWith 0 = .ok (.iconst 0, 1) := by decide +kernel
theorem dX2_leastWith_1 : decode cX2_leastWith 1 = .ok (.istore_n 3, 1) := by decide +kernel
theorem dX2_leastWith_2 : decode cX2_leastWith 2 = .ok (.iconst 0, 1) := by decide +kernel
theorem dX2_leastWith_3 : decode cX2_leastWith 3 = .ok (.istore 4, 2) := by decide +kernel
theorem dX2_leastWith_5 : decode cX2_leastWith 5 = .ok (.iload 4, 2) := by decide +kernel
theorem dX2_leastWith_7 : decode cX2_leastWith 7 = .ok (.iconst 4, 1) := by decide +kernel
theorem dX2_leastWith_8 : decode cX2_leastWith 8 = .ok (.if_icmp .ge 27, 3) := by decide +kernel
theorem dX2_leastWith_11 : decode cX2_leastWith 11 = .ok (.iload_n 3, 1) := by decide +kernel
theorem dX2_leastWith_12 : decode cX2_leastWith 12 = .ok (.aload_n 0, 1) := by decide +kernel
theorem dX2_leastWith_13 : decode cX2_leastWith 13 = .ok (.iload_n 1, 1) := by decide +kernel
theorem dX2_leastWith_14 : decode cX2_leastWith 14 = .ok (.iload_n 2, 1) := by decide +kernel
theorem dX2_leastWith_15 : decode cX2_leastWith 15 = .ok (.iload 4, 2) := by decide +kernel
theorem dX2_leastWith_17 : decode cX2_leastWith 17 = .ok (.invokevirtual 48, 3) := by decide +kernel
theorem dX2_leastWith_20 : decode cX2_leastWith 20 = .ok (.getstatic 52, 3) := by decide +kernel
theorem dX2_leastWith_23 : decode cX2_leastWith 23 = .ok (.iload 4, 2) := by decide +kernel
theorem dX2_leastWith_25 : decode cX2_leastWith 25 = .ok (.iaload, 1) := by decide +kernel
theorem dX2_leastWith_26 : decode cX2_leastWith 26 = .ok (.imul, 1) := by decide +kernel
theorem dX2_leastWith_27 : decode cX2_leastWith 27 = .ok (.iadd, 1) := by decide +kernel
theorem dX2_leastWith_28 : decode cX2_leastWith 28 = .ok (.istore_n 3, 1) := by decide +kernel
theorem dX2_leastWith_29 : decode cX2_leastWith 29 = .ok (.iinc 4 1, 3) := by decide +kernel
theorem dX2_leastWith_32 : decode cX2_leastWith 32 = .ok (.goto (-27), 3) := by decide +kernel
theorem dX2_leastWith_35 : decode cX2_leastWith 35 = .ok (.iload_n 3, 1) := by decide +kernel
theorem dX2_leastWith_36 : decode cX2_leastWith 36 = .ok (.ireturn, 1) := by decide +kernel
theorem dX2_change_0 : decode cX2_change 0 = .ok (.aload_n 0, 1) := by decide +kernel
theorem dX2_change_1 : decode cX2_change 1 = .ok (.iload_n 1, 1) := by decide +kernel
theorem dX2_change_2 : decode cX2_change 2 = .ok (.iload 4, 2) := by decide +kernel
theorem dX2_change_4 : decode cX2_change 4 = .ok (.ifCond .eq 7, 3) := by decide +kernel
theorem dX2_change_7 : decode cX2_change 7 = .ok (.iconst 1, 1) := by decide +kernel
theorem dX2_change_8 : decode cX2_change 8 = .ok (.goto 4, 3) := by decide +kernel
theorem dX2_change_11 : decode cX2_change 11 = .ok (.iconst 0, 1) := by decide +kernel
theorem dX2_change_12 : decode cX2_change 12 = .ok (.iload_n 2, 1) := by decide +kernel
theorem dX2_change_13 : decode cX2_change 13 = .ok (.invokevirtual 55, 3) := by decide +kernel
theorem dX2_change_16 : decode cX2_change 16 = .ok (.istore 5, 2) := by decide +kernel
theorem dX2_change_18 : decode cX2_change 18 = .ok (.iload_n 1, 1) := by decide +kernel
theorem dX2_change_19 : decode cX2_change 19 = .ok (.iload 5, 2) := by decide +kernel
theorem dX2_change_21 : decode cX2_change 21 = .ok (.iload_n 2, 1) := by decide +kernel
theorem dX2_change_22 : decode cX2_change 22 = .ok (.invokestatic 58, 3) := by decide +kernel
theorem dX2_change_25 : decode cX2_change 25 = .ok (.istore 6, 2) := by decide +kernel
theorem dX2_change_27 : decode cX2_change 27 = .ok (.aload_n 0, 1) := by decide +kernel
theorem dX2_change_28 : decode cX2_change 28 = .ok (.getfield 37, 3) := by decide +kernel
theorem dX2_change_31 : decode cX2_change 31 = .ok (.iload 6, 2) := by decide +kernel
theorem dX2_change_33 : decode cX2_change 33 = .ok (.iload 4, 2) := by decide +kernel
theorem dX2_change_35 : decode cX2_change 35 = .ok (.ifCond .eq 15, 3) := by decide +kernel
theorem dX2_change_38 : decode cX2_change 38 = .ok (.aload_n 0, 1) := by decide +kernel
theorem dX2_change_39 : decode cX2_change 39 = .ok (.getfield 37, 3) := by decide +kernel
theorem dX2_change_42 : decode cX2_change 42 = .ok (.iload 6, 2) := by decide +kernel
theorem dX2_change_44 : decode cX2_change 44 = .ok (.iaload, 1) := by decide +kernel
theorem dX2_change_45 : decode cX2_change 45 = .ok (.iload_n 3, 1) := by decide +kernel
theorem dX2_change_46 : decode cX2_change 46 = .ok (.iadd, 1) := by decide +kernel
theorem dX2_change_47 : decode cX2_change 47 = .ok (.goto 4, 3) := by decide +kernel
theorem dX2_change_50 : decode cX2_change 50 = .ok (.iload_n 3, 1) := by decide +kernel
theorem dX2_change_51 : decode cX2_change 51 = .ok (.iastore, 1) := by decide +kernel
theorem dX2_change_52 : decode cX2_change 52 = .ok (.iload 5, 2) := by decide +kernel
theorem dX2_change_54 : decode cX2_change 54 = .ok (.ireturn, 1) := by decide +kernel
theorem dX2_sendOut_0 : decode cX2_sendOut 0 = .ok (.aload_n 0, 1) := by decide +kernel
theorem dX2_sendOut_1 : decode cX2_sendOut 1 = .ok (.getfield 12, 3) := by decide +kernel
theorem dX2_sendOut_4 : decode cX2_sendOut 4 = .ok (.iload_n 1, 1) := by decide +kernel
theorem dX2_sendOut_5 : decode cX2_sendOut 5 = .ok (.iload_n 2, 1) := by decide +kernel
theorem dX2_sendOut_6 : decode cX2_sendOut 6 = .ok (.aload_n 0, 1) := by decide +kernel
theorem dX2_sendOut_7 : decode cX2_sendOut 7 = .ok (.getfield 18, 3) := by decide +kernel
theorem dX2_sendOut_10 : decode cX2_sendOut 10 = .ok (.iload_n 1, 1) := by decide +kernel
theorem dX2_sendOut_11 : decode cX2_sendOut 11 = .ok (.iaload, 1) := by decide +kernel
theorem dX2_sendOut_12 : decode cX2_sendOut 12 = .ok (.invokevirtual 61, 3) := by decide +kernel
theorem dX2_sendOut_15 : decode cX2_sendOut 15 = .ok (.istore_n 3, 1) := by decide +kernel
theorem dX2_sendOut_16 : decode cX2_sendOut 16 = .ok (.aload_n 0, 1) := by decide +kernel
theorem dX2_sendOut_17 : decode cX2_sendOut 17 = .ok (.iload_n 1, 1) := by decide +kernel
theorem dX2_sendOut_18 : decode cX2_sendOut 18 = .ok (.iconst 2, 1) := by decide +kernel
theorem dX2_sendOut_19 : decode cX2_sendOut 19 = .ok (.iload_n 3, 1) := by decide +kernel
theorem dX2_sendOut_20 : decode cX2_sendOut 20 = .ok (.invokevirtual 55, 3) := by decide +kernel
theorem dX2_sendOut_23 : decode cX2_sendOut 23 = .ok (.pop, 1) := by decide +kernel
theorem dX2_sendOut_24 : decode cX2_sendOut 24 = .ok (.iload_n 3, 1) := by decide +kernel
theorem dX2_sendOut_25 : decode cX2_sendOut 25 = .ok (.ireturn, 1) := by decide +kernel
theorem dX2_takeIn_0 : decode cX2_takeIn 0 = .ok (.aload_n 0, 1) := by decide +kernel
theorem dX2_takeIn_1 : decode cX2_takeIn 1 = .ok (.getfield 12, 3) := by decide +kernel
theorem dX2_takeIn_4 : decode cX2_takeIn 4 = .ok (.getfield 64, 3) := by decide +kernel
theorem dX2_takeIn_7 : decode cX2_takeIn 7 = .ok (.iload_n 1, 1) := by decide +kernel
theorem dX2_takeIn_8 : decode cX2_takeIn 8 = .ok (.iaload, 1) := by decide +kernel
theorem dX2_takeIn_9 : decode cX2_takeIn 9 = .ok (.istore_n 2, 1) := by decide +kernel
theorem dX2_takeIn_10 : decode cX2_takeIn 10 = .ok (.aload_n 0, 1) := by decide +kernel
theorem dX2_takeIn_11 : decode cX2_takeIn 11 = .ok (.getfield 12, 3) := by decide +kernel
theorem dX2_takeIn_14 : decode cX2_takeIn 14 = .ok (.getfield 67, 3) := by decide +kernel
theorem dX2_takeIn_17 : decode cX2_takeIn 17 = .ok (.iload_n 1, 1) := by decide +kernel
theorem dX2_takeIn_18 : decode cX2_takeIn 18 = .ok (.aload_n 0, 1) := by decide +kernel
theorem dX2_takeIn_19 : decode cX2_takeIn 19 = .ok (.getfield 18, 3) := by decide +kernel
theorem dX2_takeIn_22 : decode cX2_takeIn 22 = .ok (.iload_n 2, 1) := by decide +kernel
theorem dX2_takeIn_23 : decode cX2_takeIn 23 = .ok (.iaload, 1) := by decide +kernel
theorem dX2_takeIn_24 : decode cX2_takeIn 24 = .ok (.iastore, 1) := by decide +kernel
theorem dX2_takeIn_25 : decode cX2_takeIn 25 = .ok (.aload_n 0, 1) := by decide +kernel
theorem dX2_takeIn_26 : decode cX2_takeIn 26 = .ok (.iload_n 2, 1) := by decide +kernel
theorem dX2_takeIn_27 : decode cX2_takeIn 27 = .ok (.iconst 3, 1) := by decide +kernel
theorem dX2_takeIn_28 : decode cX2_takeIn 28 = .ok (.iload_n 1, 1) := by decide +kernel
theorem dX2_takeIn_29 : decode cX2_takeIn 29 = .ok (.invokevirtual 55, 3) := by decide +kernel
theorem dX2_takeIn_32 : decode cX2_takeIn 32 = .ok (.istore_n 3, 1) := by decide +kernel
theorem dX2_takeIn_33 : decode cX2_takeIn 33 = .ok (.aload_n 0, 1) := by decide +kernel
theorem dX2_takeIn_34 : decode cX2_takeIn 34 = .ok (.iload_n 2, 1) := by decide +kernel
theorem dX2_takeIn_35 : decode cX2_takeIn 35 = .ok (.aload_n 0, 1) := by decide +kernel
theorem dX2_takeIn_36 : decode cX2_takeIn 36 = .ok (.getfield 12, 3) := by decide +kernel
theorem dX2_takeIn_39 : decode cX2_takeIn 39 = .ok (.getfield 70, 3) := by decide +kernel
theorem dX2_takeIn_42 : decode cX2_takeIn 42 = .ok (.iload_n 1, 1) := by decide +kernel
theorem dX2_takeIn_43 : decode cX2_takeIn 43 = .ok (.iaload, 1) := by decide +kernel
theorem dX2_takeIn_44 : decode cX2_takeIn 44 = .ok (.aload_n 0, 1) := by decide +kernel
theorem dX2_takeIn_45 : decode cX2_takeIn 45 = .ok (.getfield 12, 3) := by decide +kernel
theorem dX2_takeIn_48 : decode cX2_takeIn 48 = .ok (.getfield 73, 3) := by decide +kernel
theorem dX2_takeIn_51 : decode cX2_takeIn 51 = .ok (.iload_n 1, 1) := by decide +kernel
theorem dX2_takeIn_52 : decode cX2_takeIn 52 = .ok (.iaload, 1) := by decide +kernel
theorem dX2_takeIn_53 : decode cX2_takeIn 53 = .ok (.invokevirtual 76, 3) := by decide +kernel
theorem dX2_takeIn_56 : decode cX2_takeIn 56 = .ok (.iload_n 3, 1) := by decide +kernel
theorem dX2_takeIn_57 : decode cX2_takeIn 57 = .ok (.ireturn, 1) := by decide +kernel
theorem dX2_awaitAll_0 : decode cX2_awaitAll 0 = .ok (.aload_n 0, 1) := by decide +kernel
theorem dX2_awaitAll_1 : decode cX2_awaitAll 1 = .ok (.iload_n 1, 1) := by decide +kernel
theorem dX2_awaitAll_2 : decode cX2_awaitAll 2 = .ok (.iconst 4, 1) := by decide +kernel
theorem dX2_awaitAll_3 : decode cX2_awaitAll 3 = .ok (.iload_n 2, 1) := by decide +kernel
theorem dX2_awaitAll_4 : decode cX2_awaitAll 4 = .ok (.invokevirtual 55, 3) := by decide +kernel
theorem dX2_awaitAll_7 : decode cX2_awaitAll 7 = .ok (.istore_n 3, 1) := by decide +kernel
theorem dX2_awaitAll_8 : decode cX2_awaitAll 8 = .ok (.aload_n 0, 1) := by decide +kernel
theorem dX2_awaitAll_9 : decode cX2_awaitAll 9 = .ok (.getfield 18, 3) := by decide +kernel
theorem dX2_awaitAll_12 : decode cX2_awaitAll 12 = .ok (.iload_n 2, 1) := by decide +kernel
theorem dX2_awaitAll_13 : decode cX2_awaitAll 13 = .ok (.iaload, 1) := by decide +kernel
theorem dX2_awaitAll_14 : decode cX2_awaitAll 14 = .ok (.ifCond .le 17, 3) := by decide +kernel
theorem dX2_awaitAll_17 : decode cX2_awaitAll 17 = .ok (.aload_n 0, 1) := by decide +kernel
theorem dX2_awaitAll_18 : decode cX2_awaitAll 18 = .ok (.iload_n 1, 1) := by decide +kernel
theorem dX2_awaitAll_19 : decode cX2_awaitAll 19 = .ok (.iload_n 2, 1) := by decide +kernel
theorem dX2_awaitAll_20 : decode cX2_awaitAll 20 = .ok (.aload_n 0, 1) := by decide +kernel
theorem dX2_awaitAll_21 : decode cX2_awaitAll 21 = .ok (.getfield 18, 3) := by decide +kernel
theorem dX2_awaitAll_24 : decode cX2_awaitAll 24 = .ok (.iload_n 2, 1) := by decide +kernel
theorem dX2_awaitAll_25 : decode cX2_awaitAll 25 = .ok (.iaload, 1) := by decide +kernel
theorem dX2_awaitAll_26 : decode cX2_awaitAll 26 = .ok (.iconst 1, 1) := by decide +kernel
theorem dX2_awaitAll_27 : decode cX2_awaitAll 27 = .ok (.isub, 1) := by decide +kernel
theorem dX2_awaitAll_28 : decode cX2_awaitAll 28 = .ok (.invokevirtual 76, 3) := by decide +kernel
theorem dX2_awaitAll_31 : decode cX2_awaitAll 31 = .ok (.iload_n 3, 1) := by decide +kernel
theorem dX2_awaitAll_32 : decode cX2_awaitAll 32 = .ok (.ireturn, 1) := by decide +kernel
theorem dX2_append_0 : decode cX2_append 0 = .ok (.aload_n 0, 1) := by decide +kernel
theorem dX2_append_1 : decode cX2_append 1 = .ok (.getfield 18, 3) := by decide +kernel
theorem dX2_append_4 : decode cX2_append 4 = .ok (.iload_n 1, 1) := by decide +kernel
theorem dX2_append_5 : decode cX2_append 5 = .ok (.iaload, 1) := by decide +kernel
theorem dX2_append_6 : decode cX2_append 6 = .ok (.istore 4, 2) := by decide +kernel
theorem dX2_append_8 : decode cX2_append 8 = .ok (.iload_n 1, 1) := by decide +kernel
theorem dX2_append_9 : decode cX2_append 9 = .ok (.iload 4, 2) := by decide +kernel
theorem dX2_append_11 : decode cX2_append 11 = .ok (.invokestatic 80, 3) := by decide +kernel
theorem dX2_append_14 : decode cX2_append 14 = .ok (.istore 5, 2) := by decide +kernel
theorem dX2_append_16 : decode cX2_append 16 = .ok (.aload_n 0, 1) := by decide +kernel
theorem dX2_append_17 : decode cX2_append 17 = .ok (.getfield 25, 3) := by decide +kernel
theorem dX2_append_20 : decode cX2_append 20 = .ok (.iload 5, 2) := by decide +kernel
theorem dX2_append_22 : decode cX2_append 22 = .ok (.iload_n 2, 1) := by decide +kernel
theorem dX2_append_23 : decode cX2_append 23 = .ok (.iastore, 1) := by decide +kernel
theorem dX2_append_24 : decode cX2_append 24 = .ok (.aload_n 0, 1) := by decide +kernel
theorem dX2_append_25 : decode cX2_append 25 = .ok (.getfield 28, 3) := by decide +kernel
theorem dX2_append_28 : decode cX2_append 28 = .ok (.iload 5, 2) := by decide +kernel
theorem dX2_append_30 : decode cX2_append 30 = .ok (.iload_n 3, 1) := by decide +kernel
theorem dX2_append_31 : decode cX2_append 31 = .ok (.iastore, 1) := by decide +kernel
theorem dX2_append_32 : decode cX2_append 32 = .ok (.aload_n 0, 1) := by decide +kernel
theorem dX2_append_33 : decode cX2_append 33 = .ok (.getfield 31, 3) := by decide +kernel
theorem dX2_append_36 : decode cX2_append 36 = .ok (.iload 5, 2) := by decide +kernel
theorem dX2_append_38 : decode cX2_append 38 = .ok (.aload_n 0, 1) := by decide +kernel
theorem dX2_append_39 : decode cX2_append 39 = .ok (.getfield 84, 3) := by decide +kernel
theorem dX2_append_42 : decode cX2_append 42 = .ok (.iastore, 1) := by decide +kernel
theorem dX2_append_43 : decode cX2_append 43 = .ok (.aload_n 0, 1) := by decide +kernel
theorem dX2_append_44 : decode cX2_append 44 = .ok (.getfield 22, 3) := by decide +kernel
theorem dX2_append_47 : decode cX2_append 47 = .ok (.aload_n 0, 1) := by decide +kernel
theorem dX2_append_48 : decode cX2_append 48 = .ok (.getfield 84, 3) := by decide +kernel
theorem dX2_append_51 : decode cX2_append 51 = .ok (.iload_n 1, 1) := by decide +kernel
theorem dX2_append_52 : decode cX2_append 52 = .ok (.iastore, 1) := by decide +kernel
theorem dX2_append_53 : decode cX2_append 53 = .ok (.iconst 0, 1) := by decide +kernel
theorem dX2_append_54 : decode cX2_append 54 = .ok (.istore 6, 2) := by decide +kernel
theorem dX2_append_56 : decode cX2_append 56 = .ok (.iload 6, 2) := by decide +kernel
theorem dX2_append_58 : decode cX2_append 58 = .ok (.iconst 4, 1) := by decide +kernel
theorem dX2_append_59 : decode cX2_append 59 = .ok (.if_icmp .ge 41, 3) := by decide +kernel
theorem dX2_append_62 : decode cX2_append 62 = .ok (.aload_n 0, 1) := by decide +kernel
theorem dX2_append_63 : decode cX2_append 63 = .ok (.getfield 34, 3) := by decide +kernel
theorem dX2_append_66 : decode cX2_append 66 = .ok (.iload 5, 2) := by decide +kernel
theorem dX2_append_68 : decode cX2_append 68 = .ok (.iconst 4, 1) := by decide +kernel
theorem dX2_append_69 : decode cX2_append 69 = .ok (.imul, 1) := by decide +kernel
theorem dX2_append_70 : decode cX2_append 70 = .ok (.iload 6, 2) := by decide +kernel
theorem dX2_append_72 : decode cX2_append 72 = .ok (.iadd, 1) := by decide +kernel
theorem dX2_append_73 : decode cX2_append 73 = .ok (.iload 4, 2) := by decide +kernel
theorem dX2_append_75 : decode cX2_append 75 = .ok (.ifCond .ne 7, 3) := by decide +kernel
theorem dX2_append_78 : decode cX2_append 78 = .ok (.iconst 0, 1) := by decide +kernel
theorem dX2_append_79 : decode cX2_append 79 = .ok (.goto 14, 3) := by decide +kernel
theorem dX2_append_82 : decode cX2_append 82 = .ok (.aload_n 0, 1) := by decide +kernel
theorem dX2_append_83 : decode cX2_append 83 = .ok (.iload_n 1, 1) := by decide +kernel
theorem dX2_append_84 : decode cX2_append 84 = .ok (.iload 4, 2) := by decide +kernel
theorem dX2_append_86 : decode cX2_append 86 = .ok (.iconst 1, 1) := by decide +kernel
theorem dX2_append_87 : decode cX2_append 87 = .ok (.isub, 1) := by decide +kernel
theorem dX2_append_88 : decode cX2_append 88 = .ok (.iload 6, 2) := by decide +kernel
theorem dX2_append_90 : decode cX2_append 90 = .ok (.invokevirtual 48, 3) := by decide +kernel
theorem dX2_append_93 : decode cX2_append 93 = .ok (.iastore, 1) := by decide +kernel
theorem dX2_append_94 : decode cX2_append 94 = .ok (.iinc 6 1, 3) := by decide +kernel
theorem dX2_append_97 : decode cX2_append 97 = .ok (.goto (-41), 3) := by decide +kernel
theorem dX2_append_100 : decode cX2_append 100 = .ok (.aload_n 0, 1) := by decide +kernel
theorem dX2_append_101 : decode cX2_append 101 = .ok (.getfield 34, 3) := by decide +kernel
theorem dX2_append_104 : decode cX2_append 104 = .ok (.iload 5, 2) := by decide +kernel
theorem dX2_append_106 : decode cX2_append 106 = .ok (.iconst 4, 1) := by decide +kernel
theorem dX2_append_107 : decode cX2_append 107 = .ok (.imul, 1) := by decide +kernel
theorem dX2_append_108 : decode cX2_append 108 = .ok (.iload_n 1, 1) := by decide +kernel
theorem dX2_append_109 : decode cX2_append 109 = .ok (.iadd, 1) := by decide +kernel
theorem dX2_append_110 : decode cX2_append 110 = .ok (.iload 4, 2) := by decide +kernel
theorem dX2_append_112 : decode cX2_append 112 = .ok (.iconst 1, 1) := by decide +kernel
theorem dX2_append_113 : decode cX2_append 113 = .ok (.iadd, 1) := by decide +kernel
theorem dX2_append_114 : decode cX2_append 114 = .ok (.iastore, 1) := by decide +kernel
theorem dX2_append_115 : decode cX2_append 115 = .ok (.iconst 0, 1) := by decide +kernel
theorem dX2_append_116 : decode cX2_append 116 = .ok (.istore 6, 2) := by decide +kernel
theorem dX2_append_118 : decode cX2_append 118 = .ok (.iload 6, 2) := by decide +kernel
theorem dX2_append_120 : decode cX2_append 120 = .ok (.iconst 3, 1) := by decide +kernel
theorem dX2_append_121 : decode cX2_append 121 = .ok (.if_icmp .ge 37, 3) := by decide +kernel
theorem dX2_append_124 : decode cX2_append 124 = .ok (.aload_n 0, 1) := by decide +kernel
theorem dX2_append_125 : decode cX2_append 125 = .ok (.getfield 37, 3) := by decide +kernel
theorem dX2_append_128 : decode cX2_append 128 = .ok (.iload_n 1, 1) := by decide +kernel
theorem dX2_append_129 : decode cX2_append 129 = .ok (.iload 4, 2) := by decide +kernel
theorem dX2_append_131 : decode cX2_append 131 = .ok (.iconst 1, 1) := by decide +kernel
theorem dX2_append_132 : decode cX2_append 132 = .ok (.iadd, 1) := by decide +kernel
theorem dX2_append_133 : decode cX2_append 133 = .ok (.iload 6, 2) := by decide +kernel
theorem dX2_append_135 : decode cX2_append 135 = .ok (.invokestatic 58, 3) := by decide +kernel
theorem dX2_append_138 : decode cX2_append 138 = .ok (.aload_n 0, 1) := by decide +kernel
theorem dX2_append_139 : decode cX2_append 139 = .ok (.getfield 37, 3) := by decide +kernel
theorem dX2_append_142 : decode cX2_append 142 = .ok (.iload_n 1, 1) := by decide +kernel
theorem dX2_append_143 : decode cX2_append 143 = .ok (.iload 4, 2) := by decide +kernel
theorem dX2_append_145 : decode cX2_append 145 = .ok (.iload 6, 2) := by decide +kernel
theorem dX2_append_147 : decode cX2_append 147 = .ok (.invokestatic 58, 3) := by decide +kernel
theorem dX2_append_150 : decode cX2_append 150 = .ok (.iaload, 1) := by decide +kernel
theorem dX2_append_151 : decode cX2_append 151 = .ok (.iastore, 1) := by decide +kernel
theorem dX2_append_152 : decode cX2_append 152 = .ok (.iinc 6 1, 3) := by decide +kernel
theorem dX2_append_155 : decode cX2_append 155 = .ok (.goto (-37), 3) := by decide +kernel
theorem dX2_append_158 : decode cX2_append 158 = .ok (.aload_n 0, 1) := by decide +kernel
theorem dX2_append_159 : decode cX2_append 159 = .ok (.getfield 18, 3) := by decide +kernel
theorem dX2_append_162 : decode cX2_append 162 = .ok (.iload_n 1, 1) := by decide +kernel
theorem dX2_append_163 : decode cX2_append 163 = .ok (.iload 4, 2) := by decide +kernel
theorem dX2_append_165 : decode cX2_append 165 = .ok (.iconst 1, 1) := by decide +kernel
theorem dX2_append_166 : decode cX2_append 166 = .ok (.iadd, 1) := by decide +kernel
theorem dX2_append_167 : decode cX2_append 167 = .ok (.iastore, 1) := by decide +kernel
theorem dX2_append_168 : decode cX2_append 168 = .ok (.aload_n 0, 1) := by decide +kernel
theorem dX2_append_169 : decode cX2_append 169 = .ok (.dup, 1) := by decide +kernel
theorem dX2_append_170 : decode cX2_append 170 = .ok (.getfield 84, 3) := by decide +kernel
theorem dX2_append_173 : decode cX2_append 173 = .ok (.iconst 1, 1) := by decide +kernel
theorem dX2_append_174 : decode cX2_append 174 = .ok (.iadd, 1) := by decide +kernel
theorem dX2_append_175 : decode cX2_append 175 = .ok (.putfield 84, 3) := by decide +kernel
theorem dX2_append_178 : decode cX2_append 178 = .ok (.aload_n 0, 1) := by decide +kernel
theorem dX2_append_179 : decode cX2_append 179 = .ok (.dup, 1) := by decide +kernel
theorem dX2_append_180 : decode cX2_append 180 = .ok (.getfield 87, 3) := by decide +kernel
theorem dX2_append_183 : decode cX2_append 183 = .ok (.iconst 1, 1) := by decide +kernel
theorem dX2_append_184 : decode cX2_append 184 = .ok (.iadd, 1) := by decide +kernel
theorem dX2_append_185 : decode cX2_append 185 = .ok (.putfield 87, 3) := by decide +kernel
theorem dX2_append_188 : decode cX2_append 188 = .ok (.iload 4, 2) := by decide +kernel
theorem dX2_append_190 : decode cX2_append 190 = .ok (.iconst 1, 1) := by decide +kernel
theorem dX2_append_191 : decode cX2_append 191 = .ok (.iadd, 1) := by decide +kernel
theorem dX2_append_192 : decode cX2_append 192 = .ok (.ireturn, 1) := by decide +kernel
theorem dX2_follow_0 : decode cX2_follow 0 = .ok (.iload_n 1, 1) := by decide +kernel
theorem dX2_follow_1 : decode cX2_follow 1 = .ok (.aload_n 0, 1) := by decide +kernel
theorem dX2_follow_2 : decode cX2_follow 2 = .ok (.getfield 18, 3) := by decide +kernel
theorem dX2_follow_5 : decode cX2_follow 5 = .ok (.iload_n 1, 1) := by decide +kernel
theorem dX2_follow_6 : decode cX2_follow 6 = .ok (.iaload, 1) := by decide +kernel
theorem dX2_follow_7 : decode cX2_follow 7 = .ok (.iconst 1, 1) := by decide +kernel
theorem dX2_follow_8 : decode cX2_follow 8 = .ok (.isub, 1) := by decide +kernel
theorem dX2_follow_9 : decode cX2_follow 9 = .ok (.invokestatic 80, 3) := by decide +kernel
theorem dX2_follow_12 : decode cX2_follow 12 = .ok (.iconst 4, 1) := by decide +kernel
theorem dX2_follow_13 : decode cX2_follow 13 = .ok (.imul, 1) := by decide +kernel
theorem dX2_follow_14 : decode cX2_follow 14 = .ok (.istore 4, 2) := by decide +kernel
theorem dX2_follow_16 : decode cX2_follow 16 = .ok (.iconst 0, 1) := by decide +kernel
theorem dX2_follow_17 : decode cX2_follow 17 = .ok (.istore 5, 2) := by decide +kernel
theorem dX2_follow_19 : decode cX2_follow 19 = .ok (.iload 5, 2) := by decide +kernel
theorem dX2_follow_21 : decode cX2_follow 21 = .ok (.iconst 4, 1) := by decide +kernel
theorem dX2_follow_22 : decode cX2_follow 22 = .ok (.if_icmp .ge 40, 3) := by decide +kernel
theorem dX2_follow_25 : decode cX2_follow 25 = .ok (.aload_n 0, 1) := by decide +kernel
theorem dX2_follow_26 : decode cX2_follow 26 = .ok (.getfield 34, 3) := by decide +kernel
theorem dX2_follow_29 : decode cX2_follow 29 = .ok (.iload 4, 2) := by decide +kernel
theorem dX2_follow_31 : decode cX2_follow 31 = .ok (.iload 5, 2) := by decide +kernel
theorem dX2_follow_33 : decode cX2_follow 33 = .ok (.iadd, 1) := by decide +kernel
theorem dX2_follow_34 : decode cX2_follow 34 = .ok (.aload_n 0, 1) := by decide +kernel
theorem dX2_follow_35 : decode cX2_follow 35 = .ok (.getfield 34, 3) := by decide +kernel
theorem dX2_follow_38 : decode cX2_follow 38 = .ok (.iload 4, 2) := by decide +kernel
theorem dX2_follow_40 : decode cX2_follow 40 = .ok (.iload 5, 2) := by decide +kernel
theorem dX2_follow_42 : decode cX2_follow 42 = .ok (.iadd, 1) := by decide +kernel
theorem dX2_follow_43 : decode cX2_follow 43 = .ok (.iaload, 1) := by decide +kernel
theorem dX2_follow_44 : decode cX2_follow 44 = .ok (.aload_n 0, 1) := by decide +kernel
theorem dX2_follow_45 : decode cX2_follow 45 = .ok (.iload_n 2, 1) := by decide +kernel
theorem dX2_follow_46 : decode cX2_follow 46 = .ok (.iload_n 3, 1) := by decide +kernel
theorem dX2_follow_47 : decode cX2_follow 47 = .ok (.iload 5, 2) := by decide +kernel
theorem dX2_follow_49 : decode cX2_follow 49 = .ok (.invokevirtual 48, 3) := by decide +kernel
theorem dX2_follow_52 : decode cX2_follow 52 = .ok (.invokestatic 90, 3) := by decide +kernel
theorem dX2_follow_55 : decode cX2_follow 55 = .ok (.iastore, 1) := by decide +kernel
theorem dX2_follow_56 : decode cX2_follow 56 = .ok (.iinc 5 1, 3) := by decide +kernel
theorem dX2_follow_59 : decode cX2_follow 59 = .ok (.goto (-40), 3) := by decide +kernel
theorem dX2_follow_62 : decode cX2_follow 62 = .ok (.return_, 1) := by decide +kernel
theorem dX2_takeBack_0 : decode cX2_takeBack 0 = .ok (.aload_n 0, 1) := by decide +kernel
theorem dX2_takeBack_1 : decode cX2_takeBack 1 = .ok (.dup, 1) := by decide +kernel
theorem dX2_takeBack_2 : decode cX2_takeBack 2 = .ok (.getfield 84, 3) := by decide +kernel
theorem dX2_takeBack_5 : decode cX2_takeBack 5 = .ok (.iconst 1, 1) := by decide +kernel
theorem dX2_takeBack_6 : decode cX2_takeBack 6 = .ok (.isub, 1) := by decide +kernel
theorem dX2_takeBack_7 : decode cX2_takeBack 7 = .ok (.putfield 84, 3) := by decide +kernel
theorem dX2_takeBack_10 : decode cX2_takeBack 10 = .ok (.aload_n 0, 1) := by decide +kernel
theorem dX2_takeBack_11 : decode cX2_takeBack 11 = .ok (.dup, 1) := by decide +kernel
theorem dX2_takeBack_12 : decode cX2_takeBack 12 = .ok (.getfield 87, 3) := by decide +kernel
theorem dX2_takeBack_15 : decode cX2_takeBack 15 = .ok (.iconst 1, 1) := by decide +kernel
theorem dX2_takeBack_16 : decode cX2_takeBack 16 = .ok (.iadd, 1) := by decide +kernel
theorem dX2_takeBack_17 : decode cX2_takeBack 17 = .ok (.putfield 87, 3) := by decide +kernel
theorem dX2_takeBack_20 : decode cX2_takeBack 20 = .ok (.aload_n 0, 1) := by decide +kernel
theorem dX2_takeBack_21 : decode cX2_takeBack 21 = .ok (.getfield 22, 3) := by decide +kernel
theorem dX2_takeBack_24 : decode cX2_takeBack 24 = .ok (.aload_n 0, 1) := by decide +kernel
theorem dX2_takeBack_25 : decode cX2_takeBack 25 = .ok (.getfield 84, 3) := by decide +kernel
theorem dX2_takeBack_28 : decode cX2_takeBack 28 = .ok (.iaload, 1) := by decide +kernel
theorem dX2_takeBack_29 : decode cX2_takeBack 29 = .ok (.istore_n 1, 1) := by decide +kernel
theorem dX2_takeBack_30 : decode cX2_takeBack 30 = .ok (.aload_n 0, 1) := by decide +kernel
theorem dX2_takeBack_31 : decode cX2_takeBack 31 = .ok (.getfield 18, 3) := by decide +kernel
theorem dX2_takeBack_34 : decode cX2_takeBack 34 = .ok (.iload_n 1, 1) := by decide +kernel
theorem dX2_takeBack_35 : decode cX2_takeBack 35 = .ok (.dup2, 1) := by decide +kernel
theorem dX2_takeBack_36 : decode cX2_takeBack 36 = .ok (.iaload, 1) := by decide +kernel
theorem dX2_takeBack_37 : decode cX2_takeBack 37 = .ok (.iconst 1, 1) := by decide +kernel
theorem dX2_takeBack_38 : decode cX2_takeBack 38 = .ok (.isub, 1) := by decide +kernel
theorem dX2_takeBack_39 : decode cX2_takeBack 39 = .ok (.iastore, 1) := by decide +kernel
theorem dX2_takeBack_40 : decode cX2_takeBack 40 = .ok (.iload_n 1, 1) := by decide +kernel
theorem dX2_takeBack_41 : decode cX2_takeBack 41 = .ok (.aload_n 0, 1) := by decide +kernel
theorem dX2_takeBack_42 : decode cX2_takeBack 42 = .ok (.getfield 18, 3) := by decide +kernel
theorem dX2_takeBack_45 : decode cX2_takeBack 45 = .ok (.iload_n 1, 1) := by decide +kernel
theorem dX2_takeBack_46 : decode cX2_takeBack 46 = .ok (.iaload, 1) := by decide +kernel
theorem dX2_takeBack_47 : decode cX2_takeBack 47 = .ok (.invokestatic 80, 3) := by decide +kernel
theorem dX2_takeBack_50 : decode cX2_takeBack 50 = .ok (.istore_n 2, 1) := by decide +kernel
theorem dX2_takeBack_51 : decode cX2_takeBack 51 = .ok (.aload_n 0, 1) := by decide +kernel
theorem dX2_takeBack_52 : decode cX2_takeBack 52 = .ok (.getfield 25, 3) := by decide +kernel
theorem dX2_takeBack_55 : decode cX2_takeBack 55 = .ok (.iload_n 2, 1) := by decide +kernel
theorem dX2_takeBack_56 : decode cX2_takeBack 56 = .ok (.iaload, 1) := by decide +kernel
theorem dX2_takeBack_57 : decode cX2_takeBack 57 = .ok (.iconst 2, 1) := by decide +kernel
theorem dX2_takeBack_58 : decode cX2_takeBack 58 = .ok (.if_icmp .ne 19, 3) := by decide +kernel
theorem dX2_takeBack_61 : decode cX2_takeBack 61 = .ok (.aload_n 0, 1) := by decide +kernel
theorem dX2_takeBack_62 : decode cX2_takeBack 62 = .ok (.getfield 12, 3) := by decide +kernel
theorem dX2_takeBack_65 : decode cX2_takeBack 65 = .ok (.dup, 1) := by decide +kernel
theorem dX2_takeBack_66 : decode cX2_takeBack 66 = .ok (.getfield 95, 3) := by decide +kernel
theorem dX2_takeBack_69 : decode cX2_takeBack 69 = .ok (.iconst 1, 1) := by decide +kernel
theorem dX2_takeBack_70 : decode cX2_takeBack 70 = .ok (.isub, 1) := by decide +kernel
theorem dX2_takeBack_71 : decode cX2_takeBack 71 = .ok (.putfield 95, 3) := by decide +kernel
theorem dX2_takeBack_74 : decode cX2_takeBack 74 = .ok (.goto 28, 3) := by decide +kernel
theorem dX2_takeBack_77 : decode cX2_takeBack 77 = .ok (.aload_n 0, 1) := by decide +kernel
theorem dX2_takeBack_78 : decode cX2_takeBack 78 = .ok (.getfield 25, 3) := by decide +kernel
theorem dX2_takeBack_81 : decode cX2_takeBack 81 = .ok (.iload_n 2, 1) := by decide +kernel
theorem dX2_takeBack_82 : decode cX2_takeBack 82 = .ok (.iaload, 1) := by decide +kernel
theorem dX2_takeBack_83 : decode cX2_takeBack 83 = .ok (.iconst 3, 1) := by decide +kernel
theorem dX2_takeBack_84 : decode cX2_takeBack 84 = .ok (.if_icmp .ne 18, 3) := by decide +kernel
theorem dX2_takeBack_87 : decode cX2_takeBack 87 = .ok (.aload_n 0, 1) := by decide +kernel
theorem dX2_takeBack_88 : decode cX2_takeBack 88 = .ok (.getfield 12, 3) := by decide +kernel
theorem dX2_takeBack_91 : decode cX2_takeBack 91 = .ok (.getfield 67, 3) := by decide +kernel
theorem dX2_takeBack_94 : decode cX2_takeBack 94 = .ok (.aload_n 0, 1) := by decide +kernel
theorem dX2_takeBack_95 : decode cX2_takeBack 95 = .ok (.getfield 28, 3) := by decide +kernel
theorem dX2_takeBack_98 : decode cX2_takeBack 98 = .ok (.iload_n 2, 1) := by decide +kernel
theorem dX2_takeBack_99 : decode cX2_takeBack 99 = .ok (.iaload, 1) := by decide +kernel
theorem dX2_takeBack_100 : decode cX2_takeBack 100 = .ok (.iconst (-1), 1) := by decide +kernel
theorem dX2_takeBack_101 : decode cX2_takeBack 101 = .ok (.iastore, 1) := by decide +kernel
theorem dX2_takeBack_102 : decode cX2_takeBack 102 = .ok (.iload_n 1, 1) := by decide +kernel
theorem dX2_takeBack_103 : decode cX2_takeBack 103 = .ok (.ireturn, 1) := by decide +kernel
theorem dX3_init_0 : decode cX3_init 0 = .ok (.aload_n 0, 1) := by decide +kernel
theorem dX3_init_1 : decode cX3_init 1 = .ok (.invokespecial 3, 3) := by decide +kernel
theorem dX3_init_4 : decode cX3_init 4 = .ok (.aload_n 0, 1) := by decide +kernel
theorem dX3_init_5 : decode cX3_init 5 = .ok (.bipush 24, 2) := by decide +kernel
theorem dX3_init_7 : decode cX3_init 7 = .ok (.newarray .int, 2) := by decide +kernel
theorem dX3_init_9 : decode cX3_init 9 = .ok (.putfield 9, 3) := by decide +kernel
theorem dX3_init_12 : decode cX3_init 12 = .ok (.aload_n 0, 1) := by decide +kernel
theorem dX3_init_13 : decode cX3_init 13 = .ok (.bipush 24, 2) := by decide +kernel
theorem dX3_init_15 : decode cX3_init 15 = .ok (.newarray .int, 2) := by decide +kernel
theorem dX3_init_17 : decode cX3_init 17 = .ok (.putfield 15, 3) := by decide +kernel
theorem dX3_init_20 : decode cX3_init 20 = .ok (.aload_n 0, 1) := by decide +kernel
theorem dX3_init_21 : decode cX3_init 21 = .ok (.bipush 24, 2) := by decide +kernel
theorem dX3_init_23 : decode cX3_init 23 = .ok (.newarray .int, 2) := by decide +kernel
theorem dX3_init_25 : decode cX3_init 25 = .ok (.putfield 18, 3) := by decide +kernel
theorem dX3_init_28 : decode cX3_init 28 = .ok (.aload_n 0, 1) := by decide +kernel
theorem dX3_init_29 : decode cX3_init 29 = .ok (.bipush 24, 2) := by decide +kernel
theorem dX3_init_31 : decode cX3_init 31 = .ok (.newarray .int, 2) := by decide +kernel
theorem dX3_init_33 : decode cX3_init 33 = .ok (.putfield 21, 3) := by decide +kernel
theorem dX3_init_36 : decode cX3_init 36 = .ok (.return_, 1) := by decide +kernel
theorem dX3_has_0 : decode cX3_has 0 = .ok (.iload_n 1, 1) := by decide +kernel
theorem dX3_has_1 : decode cX3_has 1 = .ok (.ifCond .lt 15, 3) := by decide +kernel
theorem dX3_has_4 : decode cX3_has 4 = .ok (.iload_n 1, 1) := by decide +kernel
theorem dX3_has_5 : decode cX3_has 5 = .ok (.aload_n 0, 1) := by decide +kernel
theorem dX3_has_6 : decode cX3_has 6 = .ok (.getfield 24, 3) := by decide +kernel
theorem dX3_has_9 : decode cX3_has 9 = .ok (.if_icmp .ge 7, 3) := by decide +kernel
theorem dX3_has_12 : decode cX3_has 12 = .ok (.iconst 1, 1) := by decide +kernel
theorem dX3_has_13 : decode cX3_has 13 = .ok (.goto 4, 3) := by decide +kernel
theorem dX3_has_16 : decode cX3_has 16 = .ok (.iconst 0, 1) := by decide +kernel
theorem dX3_has_17 : decode cX3_has 17 = .ok (.ireturn, 1) := by decide +kernel
theorem dX3_write_0 : decode cX3_write 0 = .ok (.aload_n 0, 1) := by decide +kernel
theorem dX3_write_1 : decode cX3_write 1 = .ok (.getfield 24, 3) := by decide +kernel
theorem dX3_write_4 : decode cX3_write 4 = .ok (.istore 4, 2) := by decide +kernel
theorem dX3_write_6 : decode cX3_write 6 = .ok (.aload_n 0, 1) := by decide +kernel
theorem dX3_write_7 : decode cX3_write 7 = .ok (.getfield 9, 3) := by decide +kernel
theorem dX3_write_10 : decode cX3_write 10 = .ok (.iload 4, 2) := by decide +kernel
theorem dX3_write_12 : decode cX3_write 12 = .ok (.iload_n 1, 1) := by decide +kernel
theorem dX3_write_13 : decode cX3_write 13 = .ok (.iastore, 1) := by decide +kernel
theorem dX3_write_14 : decode cX3_write 14 = .ok (.aload_n 0, 1) := by decide +kernel
theorem dX3_write_15 : decode cX3_write 15 = .ok (.getfield 15, 3) := by decide +kernel
theorem dX3_write_18 : decode cX3_write 18 = .ok (.iload 4, 2) := by decide +kernel
theorem dX3_write_20 : decode cX3_write 20 = .ok (.iload_n 2, 1) := by decide +kernel
theorem dX3_write_21 : decode cX3_write 21 = .ok (.iastore, 1) := by decide +kernel
theorem dX3_write_22 : decode cX3_write 22 = .ok (.aload_n 0, 1) := by decide +kernel
theorem dX3_write_23 : decode cX3_write 23 = .ok (.getfield 18, 3) := by decide +kernel
theorem dX3_write_26 : decode cX3_write 26 = .ok (.iload 4, 2) := by decide +kernel
theorem dX3_write_28 : decode cX3_write 28 = .ok (.iload_n 3, 1) := by decide +kernel
theorem dX3_write_29 : decode cX3_write 29 = .ok (.iastore, 1) := by decide +kernel
theorem dX3_write_30 : decode cX3_write 30 = .ok (.aload_n 0, 1) := by decide +kernel
theorem dX3_write_31 : decode cX3_write 31 = .ok (.getfield 21, 3) := by decide +kernel
theorem dX3_write_34 : decode cX3_write 34 = .ok (.iload 4, 2) := by decide +kernel
theorem dX3_write_36 : decode cX3_write 36 = .ok (.iconst (-1), 1) := by decide +kernel
theorem dX3_write_37 : decode cX3_write 37 = .ok (.iastore, 1) := by decide +kernel
theorem dX3_write_38 : decode cX3_write 38 = .ok (.aload_n 0, 1) := by decide +kernel
theorem dX3_write_39 : decode cX3_write 39 = .ok (.dup, 1) := by decide +kernel
theorem dX3_write_40 : decode cX3_write 40 = .ok (.getfield 24, 3) := by decide +kernel
theorem dX3_write_43 : decode cX3_write 43 = .ok (.iconst 1, 1) := by decide +kernel
theorem dX3_write_44 : decode cX3_write 44 = .ok (.iadd, 1) := by decide +kernel
theorem dX3_write_45 : decode cX3_write 45 = .ok (.putfield 24, 3) := by decide +kernel
theorem dX3_write_48 : decode cX3_write 48 = .ok (.iload 4, 2) := by decide +kernel
theorem dX3_write_50 : decode cX3_write 50 = .ok (.ireturn, 1) := by decide +kernel
theorem dX3_howManyUntaken_0 : decode cX3_howManyUntaken 0 = .ok (.iconst 0, 1) := by decide +kernel
theorem dX3_howManyUntaken_1 : decode cX3_howManyUntaken 1 = .ok (.istore_n 1, 1) := by decide +kernel
theorem dX3_howManyUntaken_2 : decode cX3_howManyUntaken 2 = .ok (.iconst 0, 1) := by decide +kernel
theorem dX3_howManyUntaken_3 : decode cX3_howManyUntaken 3 = .ok (.istore_n 2, 1) := by decide +kernel
theorem dX3_howManyUntaken_4 : decode cX3_howManyUntaken 4 = .ok (.iload_n 2, 1) := by decide +kernel
theorem dX3_howManyUntaken_5 : decode cX3_howManyUntaken 5 = .ok (.aload_n 0, 1) := by decide +kernel
theorem dX3_howManyUntaken_6 : decode cX3_howManyUntaken 6 = .ok (.getfield 24, 3) := by decide +kernel
theorem dX3_howManyUntaken_9 : decode cX3_howManyUntaken 9 = .ok (.if_icmp .ge 22, 3) := by decide +kernel
theorem dX3_howManyUntaken_12 : decode cX3_howManyUntaken 12 = .ok (.aload_n 0, 1) := by decide +kernel
theorem dX3_howManyUntaken_13 : decode cX3_howManyUntaken 13 = .ok (.getfield 21, 3) := by decide +kernel
theorem dX3_howManyUntaken_16 : decode cX3_howManyUntaken 16 = .ok (.iload_n 2, 1) := by decide +kernel
theorem dX3_howManyUntaken_17 : decode cX3_howManyUntaken 17 = .ok (.iaload, 1) := by decide +kernel
theorem dX3_howManyUntaken_18 : decode cX3_howManyUntaken 18 = .ok (.iconst (-1), 1) := by decide +kernel
theorem dX3_howManyUntaken_19 : decode cX3_howManyUntaken 19 = .ok (.if_icmp .ne 6, 3) := by decide +kernel
theorem dX3_howManyUntaken_22 : decode cX3_howManyUntaken 22 = .ok (.iinc 1 1, 3) := by decide +kernel
theorem dX3_howManyUntaken_25 : decode cX3_howManyUntaken 25 = .ok (.iinc 2 1, 3) := by decide +kernel
theorem dX3_howManyUntaken_28 : decode cX3_howManyUntaken 28 = .ok (.goto (-24), 3) := by decide +kernel
theorem dX3_howManyUntaken_31 : decode cX3_howManyUntaken 31 = .ok (.iload_n 1, 1) := by decide +kernel
theorem dX3_howManyUntaken_32 : decode cX3_howManyUntaken 32 = .ok (.ireturn, 1) := by decide +kernel
theorem dX4_init_0 : decode cX4_init 0 = .ok (.aload_n 0, 1) := by decide +kernel
theorem dX4_init_1 : decode cX4_init 1 = .ok (.invokespecial 3, 3) := by decide +kernel
theorem dX4_init_4 : decode cX4_init 4 = .ok (.aload_n 0, 1) := by decide +kernel
theorem dX4_init_5 : decode cX4_init 5 = .ok (.sipush 2401, 3) := by decide +kernel
theorem dX4_init_8 : decode cX4_init 8 = .ok (.newarray .boolean, 2) := by decide +kernel
theorem dX4_init_10 : decode cX4_init 10 = .ok (.putfield 9, 3) := by decide +kernel
theorem dX4_init_13 : decode cX4_init 13 = .ok (.aload_n 0, 1) := by decide +kernel
theorem dX4_init_14 : decode cX4_init 14 = .ok (.sipush 2401, 3) := by decide +kernel
theorem dX4_init_17 : decode cX4_init 17 = .ok (.newarray .int, 2) := by decide +kernel
theorem dX4_init_19 : decode cX4_init 19 = .ok (.putfield 15, 3) := by decide +kernel
theorem dX4_init_22 : decode cX4_init 22 = .ok (.aload_n 0, 1) := by decide +kernel
theorem dX4_init_23 : decode cX4_init 23 = .ok (.aload_n 1, 1) := by decide +kernel
theorem dX4_init_24 : decode cX4_init 24 = .ok (.putfield 19, 3) := by decide +kernel
theorem dX4_init_27 : decode cX4_init 27 = .ok (.return_, 1) := by decide +kernel
theorem dX4_wipe_0 : decode cX4_wipe 0 = .ok (.iconst 0, 1) := by decide +kernel
theorem dX4_wipe_1 : decode cX4_wipe 1 = .ok (.istore_n 2, 1) := by decide +kernel
theorem dX4_wipe_2 : decode cX4_wipe 2 = .ok (.iload_n 2, 1) := by decide +kernel
theorem dX4_wipe_3 : decode cX4_wipe 3 = .ok (.aload_n 1, 1) := by decide +kernel
theorem dX4_wipe_4 : decode cX4_wipe 4 = .ok (.getfield 23, 3) := by decide +kernel
theorem dX4_wipe_7 : decode cX4_wipe 7 = .ok (.if_icmp .ge 21, 3) := by decide +kernel
theorem dX4_wipe_10 : decode cX4_wipe 10 = .ok (.aload_n 0, 1) := by decide +kernel
theorem dX4_wipe_11 : decode cX4_wipe 11 = .ok (.getfield 9, 3) := by decide +kernel
theorem dX4_wipe_14 : decode cX4_wipe 14 = .ok (.aload_n 1, 1) := by decide +kernel
theorem dX4_wipe_15 : decode cX4_wipe 15 = .ok (.getfield 29, 3) := by decide +kernel
theorem dX4_wipe_18 : decode cX4_wipe 18 = .ok (.iload_n 2, 1) := by decide +kernel
theorem dX4_wipe_19 : decode cX4_wipe 19 = .ok (.iaload, 1) := by decide +kernel
theorem dX4_wipe_20 : decode cX4_wipe 20 = .ok (.iconst 0, 1) := by decide +kernel
theorem dX4_wipe_21 : decode cX4_wipe 21 = .ok (.bastore, 1) := by decide +kernel
theorem dX4_wipe_22 : decode cX4_wipe 22 = .ok (.iinc 2 1, 3) := by decide +kernel
theorem dX4_wipe_25 : decode cX4_wipe 25 = .ok (.goto (-23), 3) := by decide +kernel
theorem dX4_wipe_28 : decode cX4_wipe 28 = .ok (.return_, 1) := by decide +kernel
theorem dX4_set_0 : decode cX4_set 0 = .ok (.iconst 0, 1) := by decide +kernel
theorem dX4_set_1 : decode cX4_set 1 = .ok (.istore_n 3, 1) := by decide +kernel
theorem dX4_set_2 : decode cX4_set 2 = .ok (.iload_n 3, 1) := by decide +kernel
theorem dX4_set_3 : decode cX4_set 3 = .ok (.aload_n 1, 1) := by decide +kernel
theorem dX4_set_4 : decode cX4_set 4 = .ok (.getfield 23, 3) := by decide +kernel
theorem dX4_set_7 : decode cX4_set 7 = .ok (.if_icmp .ge 42, 3) := by decide +kernel
theorem dX4_set_10 : decode cX4_set 10 = .ok (.aload_n 1, 1) := by decide +kernel
theorem dX4_set_11 : decode cX4_set 11 = .ok (.getfield 29, 3) := by decide +kernel
theorem dX4_set_14 : decode cX4_set 14 = .ok (.iload_n 3, 1) := by decide +kernel
theorem dX4_set_15 : decode cX4_set 15 = .ok (.iaload, 1) := by decide +kernel
theorem dX4_set_16 : decode cX4_set 16 = .ok (.istore 4, 2) := by decide +kernel
theorem dX4_set_18 : decode cX4_set 18 = .ok (.aload_n 0, 1) := by decide +kernel
theorem dX4_set_19 : decode cX4_set 19 = .ok (.getfield 9, 3) := by decide +kernel
theorem dX4_set_22 : decode cX4_set 22 = .ok (.iload 4, 2) := by decide +kernel
theorem dX4_set_24 : decode cX4_set 24 = .ok (.aload_n 0, 1) := by decide +kernel
theorem dX4_set_25 : decode cX4_set 25 = .ok (.getfield 19, 3) := by decide +kernel
theorem dX4_set_28 : decode cX4_set 28 = .ok (.aload_n 2, 1) := by decide +kernel
theorem dX4_set_29 : decode cX4_set 29 = .ok (.iload 4, 2) := by decide +kernel
theorem dX4_set_31 : decode cX4_set 31 = .ok (.invokevirtual 32, 3) := by decide +kernel
theorem dX4_set_34 : decode cX4_set 34 = .ok (.ifCond .eq 7, 3) := by decide +kernel
theorem dX4_set_37 : decode cX4_set 37 = .ok (.iconst 1, 1) := by decide +kernel
theorem dX4_set_38 : decode cX4_set 38 = .ok (.goto 4, 3) := by decide +kernel
theorem dX4_set_41 : decode cX4_set 41 = .ok (.iconst 0, 1) := by decide +kernel
theorem dX4_set_42 : decode cX4_set 42 = .ok (.bastore, 1) := by decide +kernel
theorem dX4_set_43 : decode cX4_set 43 = .ok (.iinc 3 1, 3) := by decide +kernel
theorem dX4_set_46 : decode cX4_set 46 = .ok (.goto (-44), 3) := by decide +kernel
theorem dX4_set_49 : decode cX4_set 49 = .ok (.return_, 1) := by decide +kernel
theorem dX4_areKept_0 : decode cX4_areKept 0 = .ok (.iconst 0, 1) := by decide +kernel
theorem dX4_areKept_1 : decode cX4_areKept 1 = .ok (.istore_n 2, 1) := by decide +kernel
theorem dX4_areKept_2 : decode cX4_areKept 2 = .ok (.iload_n 2, 1) := by decide +kernel
theorem dX4_areKept_3 : decode cX4_areKept 3 = .ok (.aload_n 1, 1) := by decide +kernel
theorem dX4_areKept_4 : decode cX4_areKept 4 = .ok (.getfield 23, 3) := by decide +kernel
theorem dX4_areKept_7 : decode cX4_areKept 7 = .ok (.if_icmp .ge 67, 3) := by decide +kernel
theorem dX4_areKept_10 : decode cX4_areKept 10 = .ok (.aload_n 1, 1) := by decide +kernel
theorem dX4_areKept_11 : decode cX4_areKept 11 = .ok (.getfield 29, 3) := by decide +kernel
theorem dX4_areKept_14 : decode cX4_areKept 14 = .ok (.iload_n 2, 1) := by decide +kernel
theorem dX4_areKept_15 : decode cX4_areKept 15 = .ok (.iaload, 1) := by decide +kernel
theorem dX4_areKept_16 : decode cX4_areKept 16 = .ok (.istore_n 3, 1) := by decide +kernel
theorem dX4_areKept_17 : decode cX4_areKept 17 = .ok (.iconst 0, 1) := by decide +kernel
theorem dX4_areKept_18 : decode cX4_areKept 18 = .ok (.istore 4, 2) := by decide +kernel
theorem dX4_areKept_20 : decode cX4_areKept 20 = .ok (.iload 4, 2) := by decide +kernel
theorem dX4_areKept_22 : decode cX4_areKept 22 = .ok (.iconst 4, 1) := by decide +kernel
theorem dX4_areKept_23 : decode cX4_areKept 23 = .ok (.if_icmp .ge 45, 3) := by decide +kernel
theorem dX4_areKept_26 : decode cX4_areKept 26 = .ok (.aload_n 0, 1) := by decide +kernel
theorem dX4_areKept_27 : decode cX4_areKept 27 = .ok (.getfield 9, 3) := by decide +kernel
theorem dX4_areKept_30 : decode cX4_areKept 30 = .ok (.iload_n 3, 1) := by decide +kernel
theorem dX4_areKept_31 : decode cX4_areKept 31 = .ok (.baload, 1) := by decide +kernel
theorem dX4_areKept_32 : decode cX4_areKept 32 = .ok (.ifCond .eq 36, 3) := by decide +kernel
theorem dX4_areKept_35 : decode cX4_areKept 35 = .ok (.aload_n 1, 1) := by decide +kernel
theorem dX4_areKept_36 : decode cX4_areKept 36 = .ok (.iload_n 3, 1) := by decide +kernel
theorem dX4_areKept_37 : decode cX4_areKept 37 = .ok (.iload 4, 2) := by decide +kernel
theorem dX4_areKept_39 : decode cX4_areKept 39 = .ok (.invokevirtual 38, 3) := by decide +kernel
theorem dX4_areKept_42 : decode cX4_areKept 42 = .ok (.istore 5, 2) := by decide +kernel
theorem dX4_areKept_44 : decode cX4_areKept 44 = .ok (.iload 5, 2) := by decide +kernel
theorem dX4_areKept_46 : decode cX4_areKept 46 = .ok (.iconst (-1), 1) := by decide +kernel
theorem dX4_areKept_47 : decode cX4_areKept 47 = .ok (.if_icmp .eq 15, 3) := by decide +kernel
theorem dX4_areKept_50 : decode cX4_areKept 50 = .ok (.aload_n 0, 1) := by decide +kernel
theorem dX4_areKept_51 : decode cX4_areKept 51 = .ok (.getfield 9, 3) := by decide +kernel
theorem dX4_areKept_54 : decode cX4_areKept 54 = .ok (.iload 5, 2) := by decide +kernel
theorem dX4_areKept_56 : decode cX4_areKept 56 = .ok (.baload, 1) := by decide +kernel
theorem dX4_areKept_57 : decode cX4_areKept 57 = .ok (.ifCond .ne 5, 3) := by decide +kernel
theorem dX4_areKept_60 : decode cX4_areKept 60 = .ok (.iconst 0, 1) := by decide +kernel
theorem dX4_areKept_61 : decode cX4_areKept 61 = .ok (.ireturn, 1) := by decide +kernel
theorem dX4_areKept_62 : decode cX4_areKept 62 = .ok (.iinc 4 1, 3) := by decide +kernel
theorem dX4_areKept_65 : decode cX4_areKept 65 = .ok (.goto (-45), 3) := by decide +kernel
theorem dX4_areKept_68 : decode cX4_areKept 68 = .ok (.iinc 2 1, 3) := by decide +kernel
theorem dX4_areKept_71 : decode cX4_areKept 71 = .ok (.goto (-69), 3) := by decide +kernel
theorem dX4_areKept_74 : decode cX4_areKept 74 = .ok (.iconst 1, 1) := by decide +kernel
theorem dX4_areKept_75 : decode cX4_areKept 75 = .ok (.ireturn, 1) := by decide +kernel
theorem dX4_areMet_0 : decode cX4_areMet 0 = .ok (.aload_n 1, 1) := by decide +kernel
theorem dX4_areMet_1 : decode cX4_areMet 1 = .ok (.getfield 23, 3) := by decide +kernel
theorem dX4_areMet_4 : decode cX4_areMet 4 = .ok (.iconst 1, 1) := by decide +kernel
theorem dX4_areMet_5 : decode cX4_areMet 5 = .ok (.isub, 1) := by decide +kernel
theorem dX4_areMet_6 : decode cX4_areMet 6 = .ok (.istore_n 2, 1) := by decide +kernel
theorem dX4_areMet_7 : decode cX4_areMet 7 = .ok (.iload_n 2, 1) := by decide +kernel
theorem dX4_areMet_8 : decode cX4_areMet 8 = .ok (.ifCond .lt 63, 3) := by decide +kernel
theorem dX4_areMet_11 : decode cX4_areMet 11 = .ok (.aload_n 1, 1) := by decide +kernel
theorem dX4_areMet_12 : decode cX4_areMet 12 = .ok (.getfield 29, 3) := by decide +kernel
theorem dX4_areMet_15 : decode cX4_areMet 15 = .ok (.iload_n 2, 1) := by decide +kernel
theorem dX4_areMet_16 : decode cX4_areMet 16 = .ok (.iaload, 1) := by decide +kernel
theorem dX4_areMet_17 : decode cX4_areMet 17 = .ok (.istore_n 3, 1) := by decide +kernel
theorem dX4_areMet_18 : decode cX4_areMet 18 = .ok (.aload_n 0, 1) := by decide +kernel
theorem dX4_areMet_19 : decode cX4_areMet 19 = .ok (.getfield 15, 3) := by decide +kernel
theorem dX4_areMet_22 : decode cX4_areMet 22 = .ok (.iload_n 3, 1) := by decide +kernel
theorem dX4_areMet_23 : decode cX4_areMet 23 = .ok (.aload_n 0, 1) := by decide +kernel
theorem dX4_areMet_24 : decode cX4_areMet 24 = .ok (.getfield 9, 3) := by decide +kernel
theorem dX4_areMet_27 : decode cX4_areMet 27 = .ok (.iload_n 3, 1) := by decide +kernel
theorem dX4_areMet_28 : decode cX4_areMet 28 = .ok (.baload, 1) := by decide +kernel
theorem dX4_areMet_29 : decode cX4_areMet 29 = .ok (.ifCond .eq 7, 3) := by decide +kernel
theorem dX4_areMet_32 : decode cX4_areMet 32 = .ok (.iload_n 3, 1) := by decide +kernel
theorem dX4_areMet_33 : decode cX4_areMet 33 = .ok (.goto 10, 3) := by decide +kernel
theorem dX4_areMet_36 : decode cX4_areMet 36 = .ok (.aload_n 0, 1) := by decide +kernel
theorem dX4_areMet_37 : decode cX4_areMet 37 = .ok (.aload_n 1, 1) := by decide +kernel
theorem dX4_areMet_38 : decode cX4_areMet 38 = .ok (.iload_n 3, 1) := by decide +kernel
theorem dX4_areMet_39 : decode cX4_areMet 39 = .ok (.iconst 1, 1) := by decide +kernel
theorem dX4_areMet_40 : decode cX4_areMet 40 = .ok (.invokevirtual 42, 3) := by decide +kernel
theorem dX4_areMet_43 : decode cX4_areMet 43 = .ok (.iastore, 1) := by decide +kernel
theorem dX4_areMet_44 : decode cX4_areMet 44 = .ok (.aload_n 0, 1) := by decide +kernel
theorem dX4_areMet_45 : decode cX4_areMet 45 = .ok (.getfield 15, 3) := by decide +kernel
theorem dX4_areMet_48 : decode cX4_areMet 48 = .ok (.iload_n 3, 1) := by decide +kernel
theorem dX4_areMet_49 : decode cX4_areMet 49 = .ok (.iaload, 1) := by decide +kernel
theorem dX4_areMet_50 : decode cX4_areMet 50 = .ok (.iload_n 3, 1) := by decide +kernel
theorem dX4_areMet_51 : decode cX4_areMet 51 = .ok (.if_icmp .ne 14, 3) := by decide +kernel
theorem dX4_areMet_54 : decode cX4_areMet 54 = .ok (.aload_n 0, 1) := by decide +kernel
theorem dX4_areMet_55 : decode cX4_areMet 55 = .ok (.getfield 9, 3) := by decide +kernel
theorem dX4_areMet_58 : decode cX4_areMet 58 = .ok (.iload_n 3, 1) := by decide +kernel
theorem dX4_areMet_59 : decode cX4_areMet 59 = .ok (.baload, 1) := by decide +kernel
theorem dX4_areMet_60 : decode cX4_areMet 60 = .ok (.ifCond .ne 5, 3) := by decide +kernel
theorem dX4_areMet_63 : decode cX4_areMet 63 = .ok (.iconst 0, 1) := by decide +kernel
theorem dX4_areMet_64 : decode cX4_areMet 64 = .ok (.ireturn, 1) := by decide +kernel
theorem dX4_areMet_65 : decode cX4_areMet 65 = .ok (.iinc 2 (-1), 3) := by decide +kernel
theorem dX4_areMet_68 : decode cX4_areMet 68 = .ok (.goto (-61), 3) := by decide +kernel
theorem dX4_areMet_71 : decode cX4_areMet 71 = .ok (.iconst 1, 1) := by decide +kernel
theorem dX4_areMet_72 : decode cX4_areMet 72 = .ok (.ireturn, 1) := by decide +kernel
theorem dX4_areJoined_0 : decode cX4_areJoined 0 = .ok (.iconst 0, 1) := by decide +kernel
theorem dX4_areJoined_1 : decode cX4_areJoined 1 = .ok (.istore_n 2, 1) := by decide +kernel
theorem dX4_areJoined_2 : decode cX4_areJoined 2 = .ok (.iload_n 2, 1) := by decide +kernel
theorem dX4_areJoined_3 : decode cX4_areJoined 3 = .ok (.aload_n 1, 1) := by decide +kernel
theorem dX4_areJoined_4 : decode cX4_areJoined 4 = .ok (.getfield 23, 3) := by decide +kernel
theorem dX4_areJoined_7 : decode cX4_areJoined 7 = .ok (.if_icmp .ge 63, 3) := by decide +kernel
theorem dX4_areJoined_10 : decode cX4_areJoined 10 = .ok (.aload_n 1, 1) := by decide +kernel
theorem dX4_areJoined_11 : decode cX4_areJoined 11 = .ok (.getfield 29, 3) := by decide +kernel
theorem dX4_areJoined_14 : decode cX4_areJoined 14 = .ok (.iload_n 2, 1) := by decide +kernel
theorem dX4_areJoined_15 : decode cX4_areJoined 15 = .ok (.iaload, 1) := by decide +kernel
theorem dX4_areJoined_16 : decode cX4_areJoined 16 = .ok (.istore_n 3, 1) := by decide +kernel
theorem dX4_areJoined_17 : decode cX4_areJoined 17 = .ok (.aload_n 0, 1) := by decide +kernel
theorem dX4_areJoined_18 : decode cX4_areJoined 18 = .ok (.getfield 15, 3) := by decide +kernel
theorem dX4_areJoined_21 : decode cX4_areJoined 21 = .ok (.iload_n 3, 1) := by decide +kernel
theorem dX4_areJoined_22 : decode cX4_areJoined 22 = .ok (.aload_n 0, 1) := by decide +kernel
theorem dX4_areJoined_23 : decode cX4_areJoined 23 = .ok (.getfield 9, 3) := by decide +kernel
theorem dX4_areJoined_26 : decode cX4_areJoined 26 = .ok (.iload_n 3, 1) := by decide +kernel
theorem dX4_areJoined_27 : decode cX4_areJoined 27 = .ok (.baload, 1) := by decide +kernel
theorem dX4_areJoined_28 : decode cX4_areJoined 28 = .ok (.ifCond .eq 7, 3) := by decide +kernel
theorem dX4_areJoined_31 : decode cX4_areJoined 31 = .ok (.iload_n 3, 1) := by decide +kernel
theorem dX4_areJoined_32 : decode cX4_areJoined 32 = .ok (.goto 10, 3) := by decide +kernel
theorem dX4_areJoined_35 : decode cX4_areJoined 35 = .ok (.aload_n 0, 1) := by decide +kernel
theorem dX4_areJoined_36 : decode cX4_areJoined 36 = .ok (.aload_n 1, 1) := by decide +kernel
theorem dX4_areJoined_37 : decode cX4_areJoined 37 = .ok (.iload_n 3, 1) := by decide +kernel
theorem dX4_areJoined_38 : decode cX4_areJoined 38 = .ok (.iconst 0, 1) := by decide +kernel
theorem dX4_areJoined_39 : decode cX4_areJoined 39 = .ok (.invokevirtual 42, 3) := by decide +kernel
theorem dX4_areJoined_42 : decode cX4_areJoined 42 = .ok (.iastore, 1) := by decide +kernel
theorem dX4_areJoined_43 : decode cX4_areJoined 43 = .ok (.aload_n 0, 1) := by decide +kernel
theorem dX4_areJoined_44 : decode cX4_areJoined 44 = .ok (.getfield 15, 3) := by decide +kernel
theorem dX4_areJoined_47 : decode cX4_areJoined 47 = .ok (.iload_n 3, 1) := by decide +kernel
theorem dX4_areJoined_48 : decode cX4_areJoined 48 = .ok (.iaload, 1) := by decide +kernel
theorem dX4_areJoined_49 : decode cX4_areJoined 49 = .ok (.iload_n 3, 1) := by decide +kernel
theorem dX4_areJoined_50 : decode cX4_areJoined 50 = .ok (.if_icmp .ne 14, 3) := by decide +kernel
theorem dX4_areJoined_53 : decode cX4_areJoined 53 = .ok (.aload_n 0, 1) := by decide +kernel
theorem dX4_areJoined_54 : decode cX4_areJoined 54 = .ok (.getfield 9, 3) := by decide +kernel
theorem dX4_areJoined_57 : decode cX4_areJoined 57 = .ok (.iload_n 3, 1) := by decide +kernel
theorem dX4_areJoined_58 : decode cX4_areJoined 58 = .ok (.baload, 1) := by decide +kernel
theorem dX4_areJoined_59 : decode cX4_areJoined 59 = .ok (.ifCond .ne 5, 3) := by decide +kernel
theorem dX4_areJoined_62 : decode cX4_areJoined 62 = .ok (.iconst 0, 1) := by decide +kernel
theorem dX4_areJoined_63 : decode cX4_areJoined 63 = .ok (.ireturn, 1) := by decide +kernel
theorem dX4_areJoined_64 : decode cX4_areJoined 64 = .ok (.iinc 2 1, 3) := by decide +kernel
theorem dX4_areJoined_67 : decode cX4_areJoined 67 = .ok (.goto (-65), 3) := by decide +kernel
theorem dX4_areJoined_70 : decode cX4_areJoined 70 = .ok (.iconst 1, 1) := by decide +kernel
theorem dX4_areJoined_71 : decode cX4_areJoined 71 = .ok (.ireturn, 1) := by decide +kernel
theorem dX4_nearestBeyond_0 : decode cX4_nearestBeyond 0 = .ok (.iconst (-1), 1) := by decide +kernel
theorem dX4_nearestBeyond_1 : decode cX4_nearestBeyond 1 = .ok (.istore 4, 2) := by decide +kernel
theorem dX4_nearestBeyond_3 : decode cX4_nearestBeyond 3 = .ok (.iconst 0, 1) := by decide +kernel
theorem dX4_nearestBeyond_4 : decode cX4_nearestBeyond 4 = .ok (.istore 5, 2) := by decide +kernel
theorem dX4_nearestBeyond_6 : decode cX4_nearestBeyond 6 = .ok (.iload 5, 2) := by decide +kernel
theorem dX4_nearestBeyond_8 : decode cX4_nearestBeyond 8 = .ok (.iconst 4, 1) := by decide +kernel
theorem dX4_nearestBeyond_9 : decode cX4_nearestBeyond 9 = .ok (.if_icmp .ge 78, 3) := by decide +kernel
theorem dX4_nearestBeyond_12 : decode cX4_nearestBeyond 12 = .ok (.iload_n 3, 1) := by decide +kernel
theorem dX4_nearestBeyond_13 : decode cX4_nearestBeyond 13 = .ok (.ifCond .eq 13, 3) := by decide +kernel
theorem dX4_nearestBeyond_16 : decode cX4_nearestBeyond 16 = .ok (.aload_n 1, 1) := by decide +kernel
theorem dX4_nearestBeyond_17 : decode cX4_nearestBeyond 17 = .ok (.iload_n 2, 1) := by decide +kernel
theorem dX4_nearestBeyond_18 : decode cX4_nearestBeyond 18 = .ok (.iload 5, 2) := by decide +kernel
theorem dX4_nearestBeyond_20 : decode cX4_nearestBeyond 20 = .ok (.invokevirtual 38, 3) := by decide +kernel
theorem dX4_nearestBeyond_23 : decode cX4_nearestBeyond 23 = .ok (.goto 10, 3) := by decide +kernel
theorem dX4_nearestBeyond_26 : decode cX4_nearestBeyond 26 = .ok (.aload_n 1, 1) := by decide +kernel
theorem dX4_nearestBeyond_27 : decode cX4_nearestBeyond 27 = .ok (.iload_n 2, 1) := by decide +kernel
theorem dX4_nearestBeyond_28 : decode cX4_nearestBeyond 28 = .ok (.iload 5, 2) := by decide +kernel
theorem dX4_nearestBeyond_30 : decode cX4_nearestBeyond 30 = .ok (.invokevirtual 46, 3) := by decide +kernel
theorem dX4_nearestBeyond_33 : decode cX4_nearestBeyond 33 = .ok (.istore 6, 2) := by decide +kernel
theorem dX4_nearestBeyond_35 : decode cX4_nearestBeyond 35 = .ok (.iload 6, 2) := by decide +kernel
theorem dX4_nearestBeyond_37 : decode cX4_nearestBeyond 37 = .ok (.iconst (-1), 1) := by decide +kernel
theorem dX4_nearestBeyond_38 : decode cX4_nearestBeyond 38 = .ok (.if_icmp .ne 7, 3) := by decide +kernel
theorem dX4_nearestBeyond_41 : decode cX4_nearestBeyond 41 = .ok (.iconst (-1), 1) := by decide +kernel
theorem dX4_nearestBeyond_42 : decode cX4_nearestBeyond 42 = .ok (.goto 10, 3) := by decide +kernel
theorem dX4_nearestBeyond_45 : decode cX4_nearestBeyond 45 = .ok (.aload_n 0, 1) := by decide +kernel
theorem dX4_nearestBeyond_46 : decode cX4_nearestBeyond 46 = .ok (.getfield 15, 3) := by decide +kernel
theorem dX4_nearestBeyond_49 : decode cX4_nearestBeyond 49 = .ok (.iload 6, 2) := by decide +kernel
theorem dX4_nearestBeyond_51 : decode cX4_nearestBeyond 51 = .ok (.iaload, 1) := by decide +kernel
theorem dX4_nearestBeyond_52 : decode cX4_nearestBeyond 52 = .ok (.istore 7, 2) := by decide +kernel
theorem dX4_nearestBeyond_54 : decode cX4_nearestBeyond 54 = .ok (.iload 7, 2) := by decide +kernel
theorem dX4_nearestBeyond_56 : decode cX4_nearestBeyond 56 = .ok (.iconst (-1), 1) := by decide +kernel
theorem dX4_nearestBeyond_57 : decode cX4_nearestBeyond 57 = .ok (.if_icmp .eq 24, 3) := by decide +kernel
theorem dX4_nearestBeyond_60 : decode cX4_nearestBeyond 60 = .ok (.iload 4, 2) := by decide +kernel
theorem dX4_nearestBeyond_62 : decode cX4_nearestBeyond 62 = .ok (.iconst (-1), 1) := by decide +kernel
theorem dX4_nearestBeyond_63 : decode cX4_nearestBeyond 63 = .ok (.if_icmp .ne 8, 3) := by decide +kernel
theorem dX4_nearestBeyond_66 : decode cX4_nearestBeyond 66 = .ok (.iload 7, 2) := by decide +kernel
theorem dX4_nearestBeyond_68 : decode cX4_nearestBeyond 68 = .ok (.goto 11, 3) := by decide +kernel
theorem dX4_nearestBeyond_71 : decode cX4_nearestBeyond 71 = .ok (.iload 4, 2) := by decide +kernel
theorem dX4_nearestBeyond_73 : decode cX4_nearestBeyond 73 = .ok (.iload 7, 2) := by decide +kernel
theorem dX4_nearestBeyond_75 : decode cX4_nearestBeyond 75 = .ok (.iload_n 3, 1) := by decide +kernel
theorem dX4_nearestBeyond_76 : decode cX4_nearestBeyond 76 = .ok (.invokestatic 49, 3) := by decide +kernel
theorem dX4_nearestBeyond_79 : decode cX4_nearestBeyond 79 = .ok (.istore 4, 2) := by decide +kernel
theorem dX4_nearestBeyond_81 : decode cX4_nearestBeyond 81 = .ok (.iinc 5 1, 3) := by decide +kernel
theorem dX4_nearestBeyond_84 : decode cX4_nearestBeyond 84 = .ok (.goto (-78), 3) := by decide +kernel
theorem dX4_nearestBeyond_87 : decode cX4_nearestBeyond 87 = .ok (.iload 4, 2) := by decide +kernel
theorem dX4_nearestBeyond_89 : decode cX4_nearestBeyond 89 = .ok (.ireturn, 1) := by decide +kernel
theorem dX5_init_0 : decode cX5_init 0 = .ok (.aload_n 0, 1) := by decide +kernel
theorem dX5_init_1 : decode cX5_init 1 = .ok (.invokespecial 3, 3) := by decide +kernel
theorem dX5_init_4 : decode cX5_init 4 = .ok (.aload_n 0, 1) := by decide +kernel
theorem dX5_init_5 : decode cX5_init 5 = .ok (.iconst 4, 1) := by decide +kernel
theorem dX5_init_6 : decode cX5_init 6 = .ok (.newarray .int, 2) := by decide +kernel
theorem dX5_init_8 : decode cX5_init 8 = .ok (.putfield 9, 3) := by decide +kernel
theorem dX5_init_11 : decode cX5_init 11 = .ok (.aload_n 0, 1) := by decide +kernel
theorem dX5_init_12 : decode cX5_init 12 = .ok (.bipush 6, 2) := by decide +kernel
theorem dX5_init_14 : decode cX5_init 14 = .ok (.newarray .int, 2) := by decide +kernel
theorem dX5_init_16 : decode cX5_init 16 = .ok (.putfield 15, 3) := by decide +kernel
theorem dX5_init_19 : decode cX5_init 19 = .ok (.aload_n 0, 1) := by decide +kernel
theorem dX5_init_20 : decode cX5_init 20 = .ok (.aload_n 1, 1) := by decide +kernel
theorem dX5_init_21 : decode cX5_init 21 = .ok (.putfield 18, 3) := by decide +kernel
theorem dX5_init_24 : decode cX5_init 24 = .ok (.return_, 1) := by decide +kernel
theorem dX5_worth_0 : decode cX5_worth 0 = .ok (.iconst 0, 1) := by decide +kernel
theorem dX5_worth_1 : decode cX5_worth 1 = .ok (.istore_n 3, 1) := by decide +kernel
theorem dX5_worth_2 : decode cX5_worth 2 = .ok (.iload_n 3, 1) := by decide +kernel
theorem dX5_worth_3 : decode cX5_worth 3 = .ok (.iconst 4, 1) := by decide +kernel
theorem dX5_worth_4 : decode cX5_worth 4 = .ok (.if_icmp .ge 20, 3) := by decide +kernel
theorem dX5_worth_7 : decode cX5_worth 7 = .ok (.aload_n 0, 1) := by decide +kernel
theorem dX5_worth_8 : decode cX5_worth 8 = .ok (.getfield 9, 3) := by decide +kernel
theorem dX5_worth_11 : decode cX5_worth 11 = .ok (.iload_n 3, 1) := by decide +kernel
theorem dX5_worth_12 : decode cX5_worth 12 = .ok (.iload_n 2, 1) := by decide +kernel
theorem dX5_worth_13 : decode cX5_worth 13 = .ok (.iload_n 3, 1) := by decide +kernel
theorem dX5_worth_14 : decode cX5_worth 14 = .ok (.invokestatic 22, 3) := by decide +kernel
theorem dX5_worth_17 : decode cX5_worth 17 = .ok (.iastore, 1) := by decide +kernel
theorem dX5_worth_18 : decode cX5_worth 18 = .ok (.iinc 3 1, 3) := by decide +kernel
theorem dX5_worth_21 : decode cX5_worth 21 = .ok (.goto (-19), 3) := by decide +kernel
theorem dX5_worth_24 : decode cX5_worth 24 = .ok (.iconst 0, 1) := by decide +kernel
theorem dX5_worth_25 : decode cX5_worth 25 = .ok (.istore_n 3, 1) := by decide +kernel
theorem dX5_worth_26 : decode cX5_worth 26 = .ok (.iconst 0, 1) := by decide +kernel
theorem dX5_worth_27 : decode cX5_worth 27 = .ok (.istore 4, 2) := by decide +kernel
theorem dX5_worth_29 : decode cX5_worth 29 = .ok (.iload 4, 2) := by decide +kernel
theorem dX5_worth_31 : decode cX5_worth 31 = .ok (.aload_n 1, 1) := by decide +kernel
theorem dX5_worth_32 : decode cX5_worth 32 = .ok (.getfield 28, 3) := by decide +kernel
theorem dX5_worth_35 : decode cX5_worth 35 = .ok (.if_icmp .ge 100, 3) := by decide +kernel
theorem dX5_worth_38 : decode cX5_worth 38 = .ok (.aload_n 1, 1) := by decide +kernel
theorem dX5_worth_39 : decode cX5_worth 39 = .ok (.getfield 34, 3) := by decide +kernel
theorem dX5_worth_42 : decode cX5_worth 42 = .ok (.iload 4, 2) := by decide +kernel
theorem dX5_worth_44 : decode cX5_worth 44 = .ok (.iaload, 1) := by decide +kernel
theorem dX5_worth_45 : decode cX5_worth 45 = .ok (.istore 5, 2) := by decide +kernel
theorem dX5_worth_47 : decode cX5_worth 47 = .ok (.iload_n 3, 1) := by decide +kernel
theorem dX5_worth_48 : decode cX5_worth 48 = .ok (.iconst 1, 1) := by decide +kernel
theorem dX5_worth_49 : decode cX5_worth 49 = .ok (.iload 5, 2) := by decide +kernel
theorem dX5_worth_51 : decode cX5_worth 51 = .ok (.invokestatic 37, 3) := by decide +kernel
theorem dX5_worth_54 : decode cX5_worth 54 = .ok (.isub, 1) := by decide +kernel
theorem dX5_worth_55 : decode cX5_worth 55 = .ok (.iadd, 1) := by decide +kernel
theorem dX5_worth_56 : decode cX5_worth 56 = .ok (.istore_n 3, 1) := by decide +kernel
theorem dX5_worth_57 : decode cX5_worth 57 = .ok (.iload 5, 2) := by decide +kernel
theorem dX5_worth_59 : decode cX5_worth 59 = .ok (.bipush 7, 2) := by decide +kernel
theorem dX5_worth_61 : decode cX5_worth 61 = .ok (.if_icmp .ge 12, 3) := by decide +kernel
theorem dX5_worth_64 : decode cX5_worth 64 = .ok (.aload_n 0, 1) := by decide +kernel
theorem dX5_worth_65 : decode cX5_worth 65 = .ok (.getfield 15, 3) := by decide +kernel
theorem dX5_worth_68 : decode cX5_worth 68 = .ok (.iload_n 3, 1) := by decide +kernel
theorem dX5_worth_69 : decode cX5_worth 69 = .ok (.iaload, 1) := by decide +kernel
theorem dX5_worth_70 : decode cX5_worth 70 = .ok (.goto 4, 3) := by decide +kernel
theorem dX5_worth_73 : decode cX5_worth 73 = .ok (.iconst 0, 1) := by decide +kernel
theorem dX5_worth_74 : decode cX5_worth 74 = .ok (.istore 6, 2) := by decide +kernel
theorem dX5_worth_76 : decode cX5_worth 76 = .ok (.aload_n 0, 1) := by decide +kernel
theorem dX5_worth_77 : decode cX5_worth 77 = .ok (.getfield 15, 3) := by decide +kernel
theorem dX5_worth_80 : decode cX5_worth 80 = .ok (.iload_n 3, 1) := by decide +kernel
theorem dX5_worth_81 : decode cX5_worth 81 = .ok (.iconst 1, 1) := by decide +kernel
theorem dX5_worth_82 : decode cX5_worth 82 = .ok (.isub, 1) := by decide +kernel
theorem dX5_worth_83 : decode cX5_worth 83 = .ok (.iload 5, 2) := by decide +kernel
theorem dX5_worth_85 : decode cX5_worth 85 = .ok (.bipush 7, 2) := by decide +kernel
theorem dX5_worth_87 : decode cX5_worth 87 = .ok (.if_icmp .le 26, 3) := by decide +kernel
theorem dX5_worth_90 : decode cX5_worth 90 = .ok (.aload_n 0, 1) := by decide +kernel
theorem dX5_worth_91 : decode cX5_worth 91 = .ok (.iload 5, 2) := by decide +kernel
theorem dX5_worth_93 : decode cX5_worth 93 = .ok (.aload_n 1, 1) := by decide +kernel
theorem dX5_worth_94 : decode cX5_worth 94 = .ok (.getfield 41, 3) := by decide +kernel
theorem dX5_worth_97 : decode cX5_worth 97 = .ok (.iload 4, 2) := by decide +kernel
theorem dX5_worth_99 : decode cX5_worth 99 = .ok (.iaload, 1) := by decide +kernel
theorem dX5_worth_100 : decode cX5_worth 100 = .ok (.aload_n 1, 1) := by decide +kernel
theorem dX5_worth_101 : decode cX5_worth 101 = .ok (.getfield 44, 3) := by decide +kernel
theorem dX5_worth_104 : decode cX5_worth 104 = .ok (.iload 4, 2) := by decide +kernel
theorem dX5_worth_106 : decode cX5_worth 106 = .ok (.iaload, 1) := by decide +kernel
theorem dX5_worth_107 : decode cX5_worth 107 = .ok (.invokevirtual 47, 3) := by decide +kernel
theorem dX5_worth_110 : decode cX5_worth 110 = .ok (.goto 18, 3) := by decide +kernel
theorem dX5_worth_113 : decode cX5_worth 113 = .ok (.iload 5, 2) := by decide +kernel
theorem dX5_worth_115 : decode cX5_worth 115 = .ok (.aload_n 0, 1) := by decide +kernel
theorem dX5_worth_116 : decode cX5_worth 116 = .ok (.getfield 15, 3) := by decide +kernel
theorem dX5_worth_119 : decode cX5_worth 119 = .ok (.iload_n 3, 1) := by decide +kernel
theorem dX5_worth_120 : decode cX5_worth 120 = .ok (.iconst 1, 1) := by decide +kernel
theorem dX5_worth_121 : decode cX5_worth 121 = .ok (.isub, 1) := by decide +kernel
theorem dX5_worth_122 : decode cX5_worth 122 = .ok (.iaload, 1) := by decide +kernel
theorem dX5_worth_123 : decode cX5_worth 123 = .ok (.iload 6, 2) := by decide +kernel
theorem dX5_worth_125 : decode cX5_worth 125 = .ok (.invokestatic 51, 3) := by decide +kernel
theorem dX5_worth_128 : decode cX5_worth 128 = .ok (.iastore, 1) := by decide +kernel
theorem dX5_worth_129 : decode cX5_worth 129 = .ok (.iinc 4 1, 3) := by decide +kernel
theorem dX5_worth_132 : decode cX5_worth 132 = .ok (.goto (-103), 3) := by decide +kernel
theorem dX5_worth_135 : decode cX5_worth 135 = .ok (.aload_n 0, 1) := by decide +kernel
theorem dX5_worth_136 : decode cX5_worth 136 = .ok (.getfield 15, 3) := by decide +kernel
theorem dX5_worth_139 : decode cX5_worth 139 = .ok (.iconst 0, 1) := by decide +kernel
theorem dX5_worth_140 : decode cX5_worth 140 = .ok (.iaload, 1) := by decide +kernel
theorem dX5_worth_141 : decode cX5_worth 141 = .ok (.ireturn, 1) := by decide +kernel
theorem dX5_seen_0 : decode cX5_seen 0 = .ok (.iload_n 1, 1) := by decide +kernel
theorem dX5_seen_1 : decode cX5_seen 1 = .ok (.tableswitch 61 8 10 #[27, 47, 54], 27) := by decide +kernel
theorem dX5_seen_28 : decode cX5_seen 28 = .ok (.aload_n 0, 1) := by decide +kernel
theorem dX5_seen_29 : decode cX5_seen 29 = .ok (.getfield 18, 3) := by decide +kernel
theorem dX5_seen_32 : decode cX5_seen 32 = .ok (.getfield 54, 3) := by decide +kernel
theorem dX5_seen_35 : decode cX5_seen 35 = .ok (.iload_n 2, 1) := by decide +kernel
theorem dX5_seen_36 : decode cX5_seen 36 = .ok (.aload_n 0, 1) := by decide +kernel
theorem dX5_seen_37 : decode cX5_seen 37 = .ok (.getfield 9, 3) := by decide +kernel
theorem dX5_seen_40 : decode cX5_seen 40 = .ok (.iload_n 2, 1) := by decide +kernel
theorem dX5_seen_41 : decode cX5_seen 41 = .ok (.iaload, 1) := by decide +kernel
theorem dX5_seen_42 : decode cX5_seen 42 = .ok (.iload_n 3, 1) := by decide +kernel
theorem dX5_seen_43 : decode cX5_seen 43 = .ok (.invokestatic 59, 3) := by decide +kernel
theorem dX5_seen_46 : decode cX5_seen 46 = .ok (.iaload, 1) := by decide +kernel
theorem dX5_seen_47 : decode cX5_seen 47 = .ok (.ireturn, 1) := by decide +kernel
theorem dX5_seen_48 : decode cX5_seen 48 = .ok (.aload_n 0, 1) := by decide +kernel
theorem dX5_seen_49 : decode cX5_seen 49 = .ok (.iload_n 2, 1) := by decide +kernel
theorem dX5_seen_50 : decode cX5_seen 50 = .ok (.iload_n 3, 1) := by decide +kernel
theorem dX5_seen_51 : decode cX5_seen 51 = .ok (.invokevirtual 62, 3) := by decide +kernel
theorem dX5_seen_54 : decode cX5_seen 54 = .ok (.ireturn, 1) := by decide +kernel
theorem dX5_seen_55 : decode cX5_seen 55 = .ok (.aload_n 0, 1) := by decide +kernel
theorem dX5_seen_56 : decode cX5_seen 56 = .ok (.getfield 9, 3) := by decide +kernel
theorem dX5_seen_59 : decode cX5_seen 59 = .ok (.iload_n 2, 1) := by decide +kernel
theorem dX5_seen_60 : decode cX5_seen 60 = .ok (.iaload, 1) := by decide +kernel
theorem dX5_seen_61 : decode cX5_seen 61 = .ok (.ireturn, 1) := by decide +kernel
theorem dX5_seen_62 : decode cX5_seen 62 = .ok (.iload_n 2, 1) := by decide +kernel
theorem dX5_seen_63 : decode cX5_seen 63 = .ok (.ireturn, 1) := by decide +kernel
theorem dX5_howManyUnderWay_0 : decode cX5_howManyUnderWay 0 = .ok (.aload_n 0, 1) := by decide +kernel
theorem dX5_howManyUnderWay_1 : decode cX5_howManyUnderWay 1 = .ok (.getfield 18, 3) := by decide +kernel
theorem dX5_howManyUnderWay_4 : decode cX5_howManyUnderWay 4 = .ok (.getfield 65, 3) := by decide +kernel
theorem dX5_howManyUnderWay_7 : decode cX5_howManyUnderWay 7 = .ok (.astore_n 3, 1) := by decide +kernel
theorem dX5_howManyUnderWay_8 : decode cX5_howManyUnderWay 8 = .ok (.iconst 0, 1) := by decide +kernel
theorem dX5_howManyUnderWay_9 : decode cX5_howManyUnderWay 9 = .ok (.istore 4, 2) := by decide +kernel
theorem dX5_howManyUnderWay_11 : decode cX5_howManyUnderWay 11 = .ok (.iconst 0, 1) := by decide +kernel
theorem dX5_howManyUnderWay_12 : decode cX5_howManyUnderWay 12 = .ok (.istore 5, 2) := by decide +kernel
theorem dX5_howManyUnderWay_14 : decode cX5_howManyUnderWay 14 = .ok (.iload 5, 2) := by decide +kernel
theorem dX5_howManyUnderWay_16 : decode cX5_howManyUnderWay 16 = .ok (.aload_n 3, 1) := by decide +kernel
theorem dX5_howManyUnderWay_17 : decode cX5_howManyUnderWay 17 = .ok (.getfield 69, 3) := by decide +kernel
theorem dX5_howManyUnderWay_20 : decode cX5_howManyUnderWay 20 = .ok (.if_icmp .ge 113, 3) := by decide +kernel
theorem dX5_howManyUnderWay_23 : decode cX5_howManyUnderWay 23 = .ok (.aload_n 3, 1) := by decide +kernel
theorem dX5_howManyUnderWay_24 : decode cX5_howManyUnderWay 24 = .ok (.getfield 74, 3) := by decide +kernel
theorem dX5_howManyUnderWay_27 : decode cX5_howManyUnderWay 27 = .ok (.iload 5, 2) := by decide +kernel
theorem dX5_howManyUnderWay_29 : decode cX5_howManyUnderWay 29 = .ok (.iaload, 1) := by decide +kernel
theorem dX5_howManyUnderWay_30 : decode cX5_howManyUnderWay 30 = .ok (.iload_n 1, 1) := by decide +kernel
theorem dX5_howManyUnderWay_31 : decode cX5_howManyUnderWay 31 = .ok (.if_icmp .ne 18, 3) := by decide +kernel
theorem dX5_howManyUnderWay_34 : decode cX5_howManyUnderWay 34 = .ok (.aload_n 3, 1) := by decide +kernel
theorem dX5_howManyUnderWay_35 : decode cX5_howManyUnderWay 35 = .ok (.getfield 77, 3) := by decide +kernel
theorem dX5_howManyUnderWay_38 : decode cX5_howManyUnderWay 38 = .ok (.iload 5, 2) := by decide +kernel
theorem dX5_howManyUnderWay_40 : decode cX5_howManyUnderWay 40 = .ok (.iaload, 1) := by decide +kernel
theorem dX5_howManyUnderWay_41 : decode cX5_howManyUnderWay 41 = .ok (.iload_n 2, 1) := by decide +kernel
theorem dX5_howManyUnderWay_42 : decode cX5_howManyUnderWay 42 = .ok (.if_icmp .ne 7, 3) := by decide +kernel
theorem dX5_howManyUnderWay_45 : decode cX5_howManyUnderWay 45 = .ok (.iconst 1, 1) := by decide +kernel
theorem dX5_howManyUnderWay_46 : decode cX5_howManyUnderWay 46 = .ok (.goto 4, 3) := by decide +kernel
theorem dX5_howManyUnderWay_49 : decode cX5_howManyUnderWay 49 = .ok (.iconst 0, 1) := by decide +kernel
theorem dX5_howManyUnderWay_50 : decode cX5_howManyUnderWay 50 = .ok (.istore 6, 2) := by decide +kernel
theorem dX5_howManyUnderWay_52 : decode cX5_howManyUnderWay 52 = .ok (.aload_n 3, 1) := by decide +kernel
theorem dX5_howManyUnderWay_53 : decode cX5_howManyUnderWay 53 = .ok (.getfield 80, 3) := by decide +kernel
theorem dX5_howManyUnderWay_56 : decode cX5_howManyUnderWay 56 = .ok (.iload 5, 2) := by decide +kernel
theorem dX5_howManyUnderWay_58 : decode cX5_howManyUnderWay 58 = .ok (.iaload, 1) := by decide +kernel
theorem dX5_howManyUnderWay_59 : decode cX5_howManyUnderWay 59 = .ok (.aload_n 0, 1) := by decide +kernel
theorem dX5_howManyUnderWay_60 : decode cX5_howManyUnderWay 60 = .ok (.getfield 9, 3) := by decide +kernel
theorem dX5_howManyUnderWay_63 : decode cX5_howManyUnderWay 63 = .ok (.iload_n 1, 1) := by decide +kernel
theorem dX5_howManyUnderWay_64 : decode cX5_howManyUnderWay 64 = .ok (.iaload, 1) := by decide +kernel
theorem dX5_howManyUnderWay_65 : decode cX5_howManyUnderWay 65 = .ok (.if_icmp .ge 7, 3) := by decide +kernel
theorem dX5_howManyUnderWay_68 : decode cX5_howManyUnderWay 68 = .ok (.iconst 1, 1) := by decide +kernel
theorem dX5_howManyUnderWay_69 : decode cX5_howManyUnderWay 69 = .ok (.goto 4, 3) := by decide +kernel
theorem dX5_howManyUnderWay_72 : decode cX5_howManyUnderWay 72 = .ok (.iconst 0, 1) := by decide +kernel
theorem dX5_howManyUnderWay_73 : decode cX5_howManyUnderWay 73 = .ok (.istore 7, 2) := by decide +kernel
theorem dX5_howManyUnderWay_75 : decode cX5_howManyUnderWay 75 = .ok (.aload_n 3, 1) := by decide +kernel
theorem dX5_howManyUnderWay_76 : decode cX5_howManyUnderWay 76 = .ok (.getfield 83, 3) := by decide +kernel
theorem dX5_howManyUnderWay_79 : decode cX5_howManyUnderWay 79 = .ok (.iload 5, 2) := by decide +kernel
theorem dX5_howManyUnderWay_81 : decode cX5_howManyUnderWay 81 = .ok (.iaload, 1) := by decide +kernel
theorem dX5_howManyUnderWay_82 : decode cX5_howManyUnderWay 82 = .ok (.iconst (-1), 1) := by decide +kernel
theorem dX5_howManyUnderWay_83 : decode cX5_howManyUnderWay 83 = .ok (.if_icmp .eq 23, 3) := by decide +kernel
theorem dX5_howManyUnderWay_86 : decode cX5_howManyUnderWay 86 = .ok (.aload_n 3, 1) := by decide +kernel
theorem dX5_howManyUnderWay_87 : decode cX5_howManyUnderWay 87 = .ok (.getfield 83, 3) := by decide +kernel
theorem dX5_howManyUnderWay_90 : decode cX5_howManyUnderWay 90 = .ok (.iload 5, 2) := by decide +kernel
theorem dX5_howManyUnderWay_92 : decode cX5_howManyUnderWay 92 = .ok (.iaload, 1) := by decide +kernel
theorem dX5_howManyUnderWay_93 : decode cX5_howManyUnderWay 93 = .ok (.aload_n 0, 1) := by decide +kernel
theorem dX5_howManyUnderWay_94 : decode cX5_howManyUnderWay 94 = .ok (.getfield 9, 3) := by decide +kernel
theorem dX5_howManyUnderWay_97 : decode cX5_howManyUnderWay 97 = .ok (.iload_n 2, 1) := by decide +kernel
theorem dX5_howManyUnderWay_98 : decode cX5_howManyUnderWay 98 = .ok (.iaload, 1) := by decide +kernel
theorem dX5_howManyUnderWay_99 : decode cX5_howManyUnderWay 99 = .ok (.if_icmp .ge 7, 3) := by decide +kernel
theorem dX5_howManyUnderWay_102 : decode cX5_howManyUnderWay 102 = .ok (.iconst 1, 1) := by decide +kernel
theorem dX5_howManyUnderWay_103 : decode cX5_howManyUnderWay 103 = .ok (.goto 4, 3) := by decide +kernel
theorem dX5_howManyUnderWay_106 : decode cX5_howManyUnderWay 106 = .ok (.iconst 0, 1) := by decide +kernel
theorem dX5_howManyUnderWay_107 : decode cX5_howManyUnderWay 107 = .ok (.istore 8, 2) := by decide +kernel
theorem dX5_howManyUnderWay_109 : decode cX5_howManyUnderWay 109 = .ok (.iload 6, 2) := by decide +kernel
theorem dX5_howManyUnderWay_111 : decode cX5_howManyUnderWay 111 = .ok (.ifCond .eq 16, 3) := by decide +kernel
theorem dX5_howManyUnderWay_114 : decode cX5_howManyUnderWay 114 = .ok (.iload 7, 2) := by decide +kernel
theorem dX5_howManyUnderWay_116 : decode cX5_howManyUnderWay 116 = .ok (.ifCond .eq 11, 3) := by decide +kernel
theorem dX5_howManyUnderWay_119 : decode cX5_howManyUnderWay 119 = .ok (.iload 8, 2) := by decide +kernel
theorem dX5_howManyUnderWay_121 : decode cX5_howManyUnderWay 121 = .ok (.ifCond .ne 6, 3) := by decide +kernel
theorem dX5_howManyUnderWay_124 : decode cX5_howManyUnderWay 124 = .ok (.iinc 4 1, 3) := by decide +kernel
theorem dX5_howManyUnderWay_127 : decode cX5_howManyUnderWay 127 = .ok (.iinc 5 1, 3) := by decide +kernel
theorem dX5_howManyUnderWay_130 : decode cX5_howManyUnderWay 130 = .ok (.goto (-116), 3) := by decide +kernel
theorem dX5_howManyUnderWay_133 : decode cX5_howManyUnderWay 133 = .ok (.iload 4, 2) := by decide +kernel
theorem dX5_howManyUnderWay_135 : decode cX5_howManyUnderWay 135 = .ok (.ireturn, 1) := by decide +kernel
end
section
theorem dX5_reckoned_0 : decode cX5_reckoned 0 = .ok (.iload_n 0, 1) := by decide +kernel
theorem dX5_reckoned_1 : decode cX5_reckoned 1 = .ok (.tableswitch 105 0 6 #[43, 47, 51, 55, 66, 77, 91], 43) := by decide +kernel
theorem dX5_reckoned_44 : decode cX5_reckoned 44 = .ok (.iload_n 1, 1) := by decide +kernel
theorem dX5_reckoned_45 : decode cX5_reckoned 45 = .ok (.iload_n 2, 1) := by decide +kernel
theorem dX5_reckoned_46 : decode cX5_reckoned 46 = .ok (.iadd, 1) := by decide +kernel
theorem dX5_reckoned_47 : decode cX5_reckoned 47 = .ok (.ireturn, 1) := by decide +kernel
theorem dX5_reckoned_48 : decode cX5_reckoned 48 = .ok (.iload_n 1, 1) := by decide +kernel
theorem dX5_reckoned_49 : decode cX5_reckoned 49 = .ok (.iload_n 2, 1) := by decide +kernel
theorem dX5_reckoned_50 : decode cX5_reckoned 50 = .ok (.isub, 1) := by decide +kernel
theorem dX5_reckoned_51 : decode cX5_reckoned 51 = .ok (.ireturn, 1) := by decide +kernel
theorem dX5_reckoned_52 : decode cX5_reckoned 52 = .ok (.iload_n 1, 1) := by decide +kernel
theorem dX5_reckoned_53 : decode cX5_reckoned 53 = .ok (.iload_n 2, 1) := by decide +kernel
theorem dX5_reckoned_54 : decode cX5_reckoned 54 = .ok (.imul, 1) := by decide +kernel
theorem dX5_reckoned_55 : decode cX5_reckoned 55 = .ok (.ireturn, 1) := by decide +kernel
theorem dX5_reckoned_56 : decode cX5_reckoned 56 = .ok (.iload_n 1, 1) := by decide +kernel
theorem dX5_reckoned_57 : decode cX5_reckoned 57 = .ok (.iload_n 2, 1) := by decide +kernel
theorem dX5_reckoned_58 : decode cX5_reckoned 58 = .ok (.if_icmp .ge 7, 3) := by decide +kernel
theorem dX5_reckoned_61 : decode cX5_reckoned 61 = .ok (.iconst 1, 1) := by decide +kernel
theorem dX5_reckoned_62 : decode cX5_reckoned 62 = .ok (.goto 4, 3) := by decide +kernel
theorem dX5_reckoned_65 : decode cX5_reckoned 65 = .ok (.iconst 0, 1) := by decide +kernel
theorem dX5_reckoned_66 : decode cX5_reckoned 66 = .ok (.ireturn, 1) := by decide +kernel
theorem dX5_reckoned_67 : decode cX5_reckoned 67 = .ok (.iload_n 1, 1) := by decide +kernel
theorem dX5_reckoned_68 : decode cX5_reckoned 68 = .ok (.iload_n 2, 1) := by decide +kernel
theorem dX5_reckoned_69 : decode cX5_reckoned 69 = .ok (.if_icmp .ne 7, 3) := by decide +kernel
theorem dX5_reckoned_72 : decode cX5_reckoned 72 = .ok (.iconst 1, 1) := by decide +kernel
theorem dX5_reckoned_73 : decode cX5_reckoned 73 = .ok (.goto 4, 3) := by decide +kernel
theorem dX5_reckoned_76 : decode cX5_reckoned 76 = .ok (.iconst 0, 1) := by decide +kernel
theorem dX5_reckoned_77 : decode cX5_reckoned 77 = .ok (.ireturn, 1) := by decide +kernel
theorem dX5_reckoned_78 : decode cX5_reckoned 78 = .ok (.iload_n 1, 1) := by decide +kernel
theorem dX5_reckoned_79 : decode cX5_reckoned 79 = .ok (.ifCond .eq 11, 3) := by decide +kernel
theorem dX5_reckoned_82 : decode cX5_reckoned 82 = .ok (.iload_n 2, 1) := by decide +kernel
theorem dX5_reckoned_83 : decode cX5_reckoned 83 = .ok (.ifCond .eq 7, 3) := by decide +kernel
theorem dX5_reckoned_86 : decode cX5_reckoned 86 = .ok (.iconst 1, 1) := by decide +kernel
theorem dX5_reckoned_87 : decode cX5_reckoned 87 = .ok (.goto 4, 3) := by decide +kernel
theorem dX5_reckoned_90 : decode cX5_reckoned 90 = .ok (.iconst 0, 1) := by decide +kernel
theorem dX5_reckoned_91 : decode cX5_reckoned 91 = .ok (.ireturn, 1) := by decide +kernel
theorem dX5_reckoned_92 : decode cX5_reckoned 92 = .ok (.iload_n 1, 1) := by decide +kernel
theorem dX5_reckoned_93 : decode cX5_reckoned 93 = .ok (.ifCond .ne 7, 3) := by decide +kernel
theorem dX5_reckoned_96 : decode cX5_reckoned 96 = .ok (.iload_n 2, 1) := by decide +kernel
theorem dX5_reckoned_97 : decode cX5_reckoned 97 = .ok (.ifCond .eq 7, 3) := by decide +kernel
theorem dX5_reckoned_100 : decode cX5_reckoned 100 = .ok (.iconst 1, 1) := by decide +kernel
theorem dX5_reckoned_101 : decode cX5_reckoned 101 = .ok (.goto 4, 3) := by decide +kernel
theorem dX5_reckoned_104 : decode cX5_reckoned 104 = .ok (.iconst 0, 1) := by decide +kernel
theorem dX5_reckoned_105 : decode cX5_reckoned 105 = .ok (.ireturn, 1) := by decide +kernel
theorem dX5_reckoned_106 : decode cX5_reckoned 106 = .ok (.iload_n 1, 1) := by decide +kernel
theorem dX5_reckoned_107 : decode cX5_reckoned 107 = .ok (.ifCond .ne 7, 3) := by decide +kernel
theorem dX5_reckoned_110 : decode cX5_reckoned 110 = .ok (.iconst 1, 1) := by decide +kernel
theorem dX5_reckoned_111 : decode cX5_reckoned 111 = .ok (.goto 4, 3) := by decide +kernel
theorem dX5_reckoned_114 : decode cX5_reckoned 114 = .ok (.iconst 0, 1) := by decide +kernel
theorem dX5_reckoned_115 : decode cX5_reckoned 115 = .ok (.ireturn, 1) := by decide +kernel
theorem dX6_init_0 : decode cX6_init 0 = .ok (.aload_n 0, 1) := by decide +kernel
theorem dX6_init_1 : decode cX6_init 1 = .ok (.invokespecial 3, 3) := by decide +kernel
theorem dX6_init_4 : decode cX6_init 4 = .ok (.aload_n 0, 1) := by decide +kernel
theorem dX6_init_5 : decode cX6_init 5 = .ok (.sipush 2401, 3) := by decide +kernel
theorem dX6_init_8 : decode cX6_init 8 = .ok (.newarray .int, 2) := by decide +kernel
theorem dX6_init_10 : decode cX6_init 10 = .ok (.putfield 9, 3) := by decide +kernel
theorem dX6_init_13 : decode cX6_init 13 = .ok (.aload_n 0, 1) := by decide +kernel
theorem dX6_init_14 : decode cX6_init 14 = .ok (.sipush 2401, 3) := by decide +kernel
theorem dX6_init_17 : decode cX6_init 17 = .ok (.newarray .boolean, 2) := by decide +kernel
theorem dX6_init_19 : decode cX6_init 19 = .ok (.putfield 15, 3) := by decide +kernel
theorem dX6_init_22 : decode cX6_init 22 = .ok (.aload_n 0, 1) := by decide +kernel
theorem dX6_init_23 : decode cX6_init 23 = .ok (.bipush 25, 2) := by decide +kernel
theorem dX6_init_25 : decode cX6_init 25 = .ok (.newarray .int, 2) := by decide +kernel
theorem dX6_init_27 : decode cX6_init 27 = .ok (.putfield 19, 3) := by decide +kernel
theorem dX6_init_30 : decode cX6_init 30 = .ok (.aload_n 0, 1) := by decide +kernel
theorem dX6_init_31 : decode cX6_init 31 = .ok (.iconst 4, 1) := by decide +kernel
theorem dX6_init_32 : decode cX6_init 32 = .ok (.newarray .int, 2) := by decide +kernel
theorem dX6_init_34 : decode cX6_init 34 = .ok (.putfield 22, 3) := by decide +kernel
theorem dX6_init_37 : decode cX6_init 37 = .ok (.aload_n 0, 1) := by decide +kernel
theorem dX6_init_38 : decode cX6_init 38 = .ok (.iconst (-1), 1) := by decide +kernel
theorem dX6_init_39 : decode cX6_init 39 = .ok (.putfield 25, 3) := by decide +kernel
theorem dX6_init_42 : decode cX6_init 42 = .ok (.aload_n 0, 1) := by decide +kernel
theorem dX6_init_43 : decode cX6_init 43 = .ok (.aload_n 1, 1) := by decide +kernel
theorem dX6_init_44 : decode cX6_init 44 = .ok (.putfield 29, 3) := by decide +kernel
theorem dX6_init_47 : decode cX6_init 47 = .ok (.return_, 1) := by decide +kernel
theorem dX6_shareOf_0 : decode cX6_shareOf 0 = .ok (.iload_n 0, 1) := by decide +kernel
theorem dX6_shareOf_1 : decode cX6_shareOf 1 = .ok (.istore_n 2, 1) := by decide +kernel
theorem dX6_shareOf_2 : decode cX6_shareOf 2 = .ok (.iconst 0, 1) := by decide +kernel
theorem dX6_shareOf_3 : decode cX6_shareOf 3 = .ok (.istore_n 3, 1) := by decide +kernel
theorem dX6_shareOf_4 : decode cX6_shareOf 4 = .ok (.iload_n 3, 1) := by decide +kernel
theorem dX6_shareOf_5 : decode cX6_shareOf 5 = .ok (.iload_n 1, 1) := by decide +kernel
theorem dX6_shareOf_6 : decode cX6_shareOf 6 = .ok (.if_icmp .ge 14, 3) := by decide +kernel
theorem dX6_shareOf_9 : decode cX6_shareOf 9 = .ok (.iload_n 2, 1) := by decide +kernel
theorem dX6_shareOf_10 : decode cX6_shareOf 10 = .ok (.bipush 7, 2) := by decide +kernel
theorem dX6_shareOf_12 : decode cX6_shareOf 12 = .ok (.idiv, 1) := by decide +kernel
theorem dX6_shareOf_13 : decode cX6_shareOf 13 = .ok (.istore_n 2, 1) := by decide +kernel
theorem dX6_shareOf_14 : decode cX6_shareOf 14 = .ok (.iinc 3 1, 3) := by decide +kernel
theorem dX6_shareOf_17 : decode cX6_shareOf 17 = .ok (.goto (-13), 3) := by decide +kernel
theorem dX6_shareOf_20 : decode cX6_shareOf 20 = .ok (.iload_n 2, 1) := by decide +kernel
theorem dX6_shareOf_21 : decode cX6_shareOf 21 = .ok (.bipush 7, 2) := by decide +kernel
theorem dX6_shareOf_23 : decode cX6_shareOf 23 = .ok (.irem, 1) := by decide +kernel
theorem dX6_shareOf_24 : decode cX6_shareOf 24 = .ok (.ireturn, 1) := by decide +kernel
theorem dX6_sizeOf_0 : decode cX6_sizeOf 0 = .ok (.iconst 0, 1) := by decide +kernel
theorem dX6_sizeOf_1 : decode cX6_sizeOf 1 = .ok (.istore_n 1, 1) := by decide +kernel
theorem dX6_sizeOf_2 : decode cX6_sizeOf 2 = .ok (.iload_n 0, 1) := by decide +kernel
theorem dX6_sizeOf_3 : decode cX6_sizeOf 3 = .ok (.istore_n 2, 1) := by decide +kernel
theorem dX6_sizeOf_4 : decode cX6_sizeOf 4 = .ok (.iconst 0, 1) := by decide +kernel
theorem dX6_sizeOf_5 : decode cX6_sizeOf 5 = .ok (.istore_n 3, 1) := by decide +kernel
theorem dX6_sizeOf_6 : decode cX6_sizeOf 6 = .ok (.iload_n 3, 1) := by decide +kernel
theorem dX6_sizeOf_7 : decode cX6_sizeOf 7 = .ok (.iconst 4, 1) := by decide +kernel
theorem dX6_sizeOf_8 : decode cX6_sizeOf 8 = .ok (.if_icmp .ge 21, 3) := by decide +kernel
theorem dX6_sizeOf_11 : decode cX6_sizeOf 11 = .ok (.iload_n 1, 1) := by decide +kernel
theorem dX6_sizeOf_12 : decode cX6_sizeOf 12 = .ok (.iload_n 2, 1) := by decide +kernel
theorem dX6_sizeOf_13 : decode cX6_sizeOf 13 = .ok (.bipush 7, 2) := by decide +kernel
theorem dX6_sizeOf_15 : decode cX6_sizeOf 15 = .ok (.irem, 1) := by decide +kernel
theorem dX6_sizeOf_16 : decode cX6_sizeOf 16 = .ok (.iadd, 1) := by decide +kernel
theorem dX6_sizeOf_17 : decode cX6_sizeOf 17 = .ok (.istore_n 1, 1) := by decide +kernel
theorem dX6_sizeOf_18 : decode cX6_sizeOf 18 = .ok (.iload_n 2, 1) := by decide +kernel
theorem dX6_sizeOf_19 : decode cX6_sizeOf 19 = .ok (.bipush 7, 2) := by decide +kernel
theorem dX6_sizeOf_21 : decode cX6_sizeOf 21 = .ok (.idiv, 1) := by decide +kernel
theorem dX6_sizeOf_22 : decode cX6_sizeOf 22 = .ok (.istore_n 2, 1) := by decide +kernel
theorem dX6_sizeOf_23 : decode cX6_sizeOf 23 = .ok (.iinc 3 1, 3) := by decide +kernel
theorem dX6_sizeOf_26 : decode cX6_sizeOf 26 = .ok (.goto (-20), 3) := by decide +kernel
theorem dX6_sizeOf_29 : decode cX6_sizeOf 29 = .ok (.iload_n 1, 1) := by decide +kernel
theorem dX6_sizeOf_30 : decode cX6_sizeOf 30 = .ok (.ireturn, 1) := by decide +kernel
theorem dX6_combine_0 : decode cX6_combine 0 = .ok (.iconst 0, 1) := by decide +kernel
theorem dX6_combine_1 : decode cX6_combine 1 = .ok (.istore_n 3, 1) := by decide +kernel
theorem dX6_combine_2 : decode cX6_combine 2 = .ok (.iconst 0, 1) := by decide +kernel
theorem dX6_combine_3 : decode cX6_combine 3 = .ok (.istore 4, 2) := by decide +kernel
theorem dX6_combine_5 : decode cX6_combine 5 = .ok (.iload 4, 2) := by decide +kernel
theorem dX6_combine_7 : decode cX6_combine 7 = .ok (.iconst 4, 1) := by decide +kernel
theorem dX6_combine_8 : decode cX6_combine 8 = .ok (.if_icmp .ge 56, 3) := by decide +kernel
theorem dX6_combine_11 : decode cX6_combine 11 = .ok (.iload_n 0, 1) := by decide +kernel
theorem dX6_combine_12 : decode cX6_combine 12 = .ok (.iload 4, 2) := by decide +kernel
theorem dX6_combine_14 : decode cX6_combine 14 = .ok (.invokestatic 33, 3) := by decide +kernel
theorem dX6_combine_17 : decode cX6_combine 17 = .ok (.istore 5, 2) := by decide +kernel
theorem dX6_combine_19 : decode cX6_combine 19 = .ok (.iload_n 1, 1) := by decide +kernel
theorem dX6_combine_20 : decode cX6_combine 20 = .ok (.iload 4, 2) := by decide +kernel
theorem dX6_combine_22 : decode cX6_combine 22 = .ok (.invokestatic 33, 3) := by decide +kernel
theorem dX6_combine_25 : decode cX6_combine 25 = .ok (.istore 6, 2) := by decide +kernel
theorem dX6_combine_27 : decode cX6_combine 27 = .ok (.iload_n 3, 1) := by decide +kernel
theorem dX6_combine_28 : decode cX6_combine 28 = .ok (.iload_n 2, 1) := by decide +kernel
theorem dX6_combine_29 : decode cX6_combine 29 = .ok (.ifCond .eq 13, 3) := by decide +kernel
theorem dX6_combine_32 : decode cX6_combine 32 = .ok (.iload 5, 2) := by decide +kernel
theorem dX6_combine_34 : decode cX6_combine 34 = .ok (.iload 6, 2) := by decide +kernel
theorem dX6_combine_36 : decode cX6_combine 36 = .ok (.invokestatic 37, 3) := by decide +kernel
theorem dX6_combine_39 : decode cX6_combine 39 = .ok (.goto 10, 3) := by decide +kernel
theorem dX6_combine_42 : decode cX6_combine 42 = .ok (.iload 5, 2) := by decide +kernel
theorem dX6_combine_44 : decode cX6_combine 44 = .ok (.iload 6, 2) := by decide +kernel
theorem dX6_combine_46 : decode cX6_combine 46 = .ok (.invokestatic 42, 3) := by decide +kernel
theorem dX6_combine_49 : decode cX6_combine 49 = .ok (.getstatic 45, 3) := by decide +kernel
theorem dX6_combine_52 : decode cX6_combine 52 = .ok (.iload 4, 2) := by decide +kernel
theorem dX6_combine_54 : decode cX6_combine 54 = .ok (.iaload, 1) := by decide +kernel
theorem dX6_combine_55 : decode cX6_combine 55 = .ok (.imul, 1) := by decide +kernel
theorem dX6_combine_56 : decode cX6_combine 56 = .ok (.iadd, 1) := by decide +kernel
theorem dX6_combine_57 : decode cX6_combine 57 = .ok (.istore_n 3, 1) := by decide +kernel
theorem dX6_combine_58 : decode cX6_combine 58 = .ok (.iinc 4 1, 3) := by decide +kernel
theorem dX6_combine_61 : decode cX6_combine 61 = .ok (.goto (-56), 3) := by decide +kernel
theorem dX6_combine_64 : decode cX6_combine 64 = .ok (.iload_n 3, 1) := by decide +kernel
theorem dX6_combine_65 : decode cX6_combine 65 = .ok (.ireturn, 1) := by decide +kernel
theorem dX6_refresh_0 : decode cX6_refresh 0 = .ok (.aload_n 0, 1) := by decide +kernel
theorem dX6_refresh_1 : decode cX6_refresh 1 = .ok (.getfield 25, 3) := by decide +kernel
theorem dX6_refresh_4 : decode cX6_refresh 4 = .ok (.aload_n 0, 1) := by decide +kernel
theorem dX6_refresh_5 : decode cX6_refresh 5 = .ok (.getfield 29, 3) := by decide +kernel
theorem dX6_refresh_8 : decode cX6_refresh 8 = .ok (.getfield 48, 3) := by decide +kernel
theorem dX6_refresh_11 : decode cX6_refresh 11 = .ok (.if_icmp .ne 4, 3) := by decide +kernel
theorem dX6_refresh_14 : decode cX6_refresh 14 = .ok (.return_, 1) := by decide +kernel
theorem dX6_refresh_15 : decode cX6_refresh 15 = .ok (.aload_n 0, 1) := by decide +kernel
theorem dX6_refresh_16 : decode cX6_refresh 16 = .ok (.aload_n 0, 1) := by decide +kernel
theorem dX6_refresh_17 : decode cX6_refresh 17 = .ok (.getfield 29, 3) := by decide +kernel
theorem dX6_refresh_20 : decode cX6_refresh 20 = .ok (.getfield 48, 3) := by decide +kernel
theorem dX6_refresh_23 : decode cX6_refresh 23 = .ok (.putfield 25, 3) := by decide +kernel
theorem dX6_refresh_26 : decode cX6_refresh 26 = .ok (.aload_n 0, 1) := by decide +kernel
theorem dX6_refresh_27 : decode cX6_refresh 27 = .ok (.iconst 0, 1) := by decide +kernel
theorem dX6_refresh_28 : decode cX6_refresh 28 = .ok (.putfield 53, 3) := by decide +kernel
theorem dX6_refresh_31 : decode cX6_refresh 31 = .ok (.iconst 0, 1) := by decide +kernel
theorem dX6_refresh_32 : decode cX6_refresh 32 = .ok (.istore_n 1, 1) := by decide +kernel
theorem dX6_refresh_33 : decode cX6_refresh 33 = .ok (.iload_n 1, 1) := by decide +kernel
theorem dX6_refresh_34 : decode cX6_refresh 34 = .ok (.iconst 4, 1) := by decide +kernel
theorem dX6_refresh_35 : decode cX6_refresh 35 = .ok (.if_icmp .ge 33, 3) := by decide +kernel
theorem dX6_refresh_38 : decode cX6_refresh 38 = .ok (.aload_n 0, 1) := by decide +kernel
theorem dX6_refresh_39 : decode cX6_refresh 39 = .ok (.dup, 1) := by decide +kernel
theorem dX6_refresh_40 : decode cX6_refresh 40 = .ok (.getfield 53, 3) := by decide +kernel
theorem dX6_refresh_43 : decode cX6_refresh 43 = .ok (.aload_n 0, 1) := by decide +kernel
theorem dX6_refresh_44 : decode cX6_refresh 44 = .ok (.getfield 29, 3) := by decide +kernel
theorem dX6_refresh_47 : decode cX6_refresh 47 = .ok (.getfield 56, 3) := by decide +kernel
theorem dX6_refresh_50 : decode cX6_refresh 50 = .ok (.iload_n 1, 1) := by decide +kernel
theorem dX6_refresh_51 : decode cX6_refresh 51 = .ok (.iaload, 1) := by decide +kernel
theorem dX6_refresh_52 : decode cX6_refresh 52 = .ok (.getstatic 45, 3) := by decide +kernel
theorem dX6_refresh_55 : decode cX6_refresh 55 = .ok (.iload_n 1, 1) := by decide +kernel
theorem dX6_refresh_56 : decode cX6_refresh 56 = .ok (.iaload, 1) := by decide +kernel
theorem dX6_refresh_57 : decode cX6_refresh 57 = .ok (.imul, 1) := by decide +kernel
theorem dX6_refresh_58 : decode cX6_refresh 58 = .ok (.iadd, 1) := by decide +kernel
theorem dX6_refresh_59 : decode cX6_refresh 59 = .ok (.putfield 53, 3) := by decide +kernel
theorem dX6_refresh_62 : decode cX6_refresh 62 = .ok (.iinc 1 1, 3) := by decide +kernel
theorem dX6_refresh_65 : decode cX6_refresh 65 = .ok (.goto (-32), 3) := by decide +kernel
theorem dX6_refresh_68 : decode cX6_refresh 68 = .ok (.iconst 0, 1) := by decide +kernel
theorem dX6_refresh_69 : decode cX6_refresh 69 = .ok (.istore_n 1, 1) := by decide +kernel
theorem dX6_refresh_70 : decode cX6_refresh 70 = .ok (.iload_n 1, 1) := by decide +kernel
theorem dX6_refresh_71 : decode cX6_refresh 71 = .ok (.sipush 2401, 3) := by decide +kernel
theorem dX6_refresh_74 : decode cX6_refresh 74 = .ok (.if_icmp .ge 39, 3) := by decide +kernel
theorem dX6_refresh_77 : decode cX6_refresh 77 = .ok (.aload_n 0, 1) := by decide +kernel
theorem dX6_refresh_78 : decode cX6_refresh 78 = .ok (.getfield 15, 3) := by decide +kernel
theorem dX6_refresh_81 : decode cX6_refresh 81 = .ok (.iload_n 1, 1) := by decide +kernel
theorem dX6_refresh_82 : decode cX6_refresh 82 = .ok (.aload_n 0, 1) := by decide +kernel
theorem dX6_refresh_83 : decode cX6_refresh 83 = .ok (.getfield 29, 3) := by decide +kernel
theorem dX6_refresh_86 : decode cX6_refresh 86 = .ok (.iload_n 1, 1) := by decide +kernel
theorem dX6_refresh_87 : decode cX6_refresh 87 = .ok (.invokevirtual 59, 3) := by decide +kernel
theorem dX6_refresh_90 : decode cX6_refresh 90 = .ok (.ifCond .eq 15, 3) := by decide +kernel
theorem dX6_refresh_93 : decode cX6_refresh 93 = .ok (.aload_n 0, 1) := by decide +kernel
theorem dX6_refresh_94 : decode cX6_refresh 94 = .ok (.iload_n 1, 1) := by decide +kernel
theorem dX6_refresh_95 : decode cX6_refresh 95 = .ok (.invokevirtual 63, 3) := by decide +kernel
theorem dX6_refresh_98 : decode cX6_refresh 98 = .ok (.ifCond .eq 7, 3) := by decide +kernel
theorem dX6_refresh_101 : decode cX6_refresh 101 = .ok (.iconst 1, 1) := by decide +kernel
theorem dX6_refresh_102 : decode cX6_refresh 102 = .ok (.goto 4, 3) := by decide +kernel
theorem dX6_refresh_105 : decode cX6_refresh 105 = .ok (.iconst 0, 1) := by decide +kernel
theorem dX6_refresh_106 : decode cX6_refresh 106 = .ok (.bastore, 1) := by decide +kernel
theorem dX6_refresh_107 : decode cX6_refresh 107 = .ok (.iinc 1 1, 3) := by decide +kernel
theorem dX6_refresh_110 : decode cX6_refresh 110 = .ok (.goto (-40), 3) := by decide +kernel
theorem dX6_refresh_113 : decode cX6_refresh 113 = .ok (.aload_n 0, 1) := by decide +kernel
theorem dX6_refresh_114 : decode cX6_refresh 114 = .ok (.invokevirtual 66, 3) := by decide +kernel
theorem dX6_refresh_117 : decode cX6_refresh 117 = .ok (.return_, 1) := by decide +kernel
theorem dX6_isClosed_0 : decode cX6_isClosed 0 = .ok (.iload_n 1, 1) := by decide +kernel
theorem dX6_isClosed_1 : decode cX6_isClosed 1 = .ok (.istore_n 2, 1) := by decide +kernel
theorem dX6_isClosed_2 : decode cX6_isClosed 2 = .ok (.iconst 0, 1) := by decide +kernel
theorem dX6_isClosed_3 : decode cX6_isClosed 3 = .ok (.istore_n 3, 1) := by decide +kernel
theorem dX6_isClosed_4 : decode cX6_isClosed 4 = .ok (.iload_n 3, 1) := by decide +kernel
theorem dX6_isClosed_5 : decode cX6_isClosed 5 = .ok (.iconst 4, 1) := by decide +kernel
theorem dX6_isClosed_6 : decode cX6_isClosed 6 = .ok (.if_icmp .ge 24, 3) := by decide +kernel
theorem dX6_isClosed_9 : decode cX6_isClosed 9 = .ok (.aload_n 0, 1) := by decide +kernel
theorem dX6_isClosed_10 : decode cX6_isClosed 10 = .ok (.getfield 22, 3) := by decide +kernel
theorem dX6_isClosed_13 : decode cX6_isClosed 13 = .ok (.iload_n 3, 1) := by decide +kernel
theorem dX6_isClosed_14 : decode cX6_isClosed 14 = .ok (.iload_n 2, 1) := by decide +kernel
theorem dX6_isClosed_15 : decode cX6_isClosed 15 = .ok (.bipush 7, 2) := by decide +kernel
theorem dX6_isClosed_17 : decode cX6_isClosed 17 = .ok (.irem, 1) := by decide +kernel
theorem dX6_isClosed_18 : decode cX6_isClosed 18 = .ok (.iastore, 1) := by decide +kernel
theorem dX6_isClosed_19 : decode cX6_isClosed 19 = .ok (.iload_n 2, 1) := by decide +kernel
theorem dX6_isClosed_20 : decode cX6_isClosed 20 = .ok (.bipush 7, 2) := by decide +kernel
theorem dX6_isClosed_22 : decode cX6_isClosed 22 = .ok (.idiv, 1) := by decide +kernel
theorem dX6_isClosed_23 : decode cX6_isClosed 23 = .ok (.istore_n 2, 1) := by decide +kernel
theorem dX6_isClosed_24 : decode cX6_isClosed 24 = .ok (.iinc 3 1, 3) := by decide +kernel
theorem dX6_isClosed_27 : decode cX6_isClosed 27 = .ok (.goto (-23), 3) := by decide +kernel
theorem dX6_isClosed_30 : decode cX6_isClosed 30 = .ok (.iconst 0, 1) := by decide +kernel
theorem dX6_isClosed_31 : decode cX6_isClosed 31 = .ok (.istore_n 3, 1) := by decide +kernel
theorem dX6_isClosed_32 : decode cX6_isClosed 32 = .ok (.iload_n 3, 1) := by decide +kernel
theorem dX6_isClosed_33 : decode cX6_isClosed 33 = .ok (.iconst 4, 1) := by decide +kernel
theorem dX6_isClosed_34 : decode cX6_isClosed 34 = .ok (.if_icmp .ge 63, 3) := by decide +kernel
theorem dX6_isClosed_37 : decode cX6_isClosed 37 = .ok (.iconst 0, 1) := by decide +kernel
theorem dX6_isClosed_38 : decode cX6_isClosed 38 = .ok (.istore 4, 2) := by decide +kernel
theorem dX6_isClosed_40 : decode cX6_isClosed 40 = .ok (.iload 4, 2) := by decide +kernel
theorem dX6_isClosed_42 : decode cX6_isClosed 42 = .ok (.iconst 4, 1) := by decide +kernel
theorem dX6_isClosed_43 : decode cX6_isClosed 43 = .ok (.if_icmp .ge 48, 3) := by decide +kernel
theorem dX6_isClosed_46 : decode cX6_isClosed 46 = .ok (.aload_n 0, 1) := by decide +kernel
theorem dX6_isClosed_47 : decode cX6_isClosed 47 = .ok (.getfield 22, 3) := by decide +kernel
theorem dX6_isClosed_50 : decode cX6_isClosed 50 = .ok (.iload_n 3, 1) := by decide +kernel
theorem dX6_isClosed_51 : decode cX6_isClosed 51 = .ok (.iaload, 1) := by decide +kernel
theorem dX6_isClosed_52 : decode cX6_isClosed 52 = .ok (.ifCond .le 33, 3) := by decide +kernel
theorem dX6_isClosed_55 : decode cX6_isClosed 55 = .ok (.aload_n 0, 1) := by decide +kernel
theorem dX6_isClosed_56 : decode cX6_isClosed 56 = .ok (.getfield 29, 3) := by decide +kernel
theorem dX6_isClosed_59 : decode cX6_isClosed 59 = .ok (.iload_n 3, 1) := by decide +kernel
theorem dX6_isClosed_60 : decode cX6_isClosed 60 = .ok (.aload_n 0, 1) := by decide +kernel
theorem dX6_isClosed_61 : decode cX6_isClosed 61 = .ok (.getfield 22, 3) := by decide +kernel
theorem dX6_isClosed_64 : decode cX6_isClosed 64 = .ok (.iload_n 3, 1) := by decide +kernel
theorem dX6_isClosed_65 : decode cX6_isClosed 65 = .ok (.iaload, 1) := by decide +kernel
theorem dX6_isClosed_66 : decode cX6_isClosed 66 = .ok (.iconst 1, 1) := by decide +kernel
theorem dX6_isClosed_67 : decode cX6_isClosed 67 = .ok (.isub, 1) := by decide +kernel
theorem dX6_isClosed_68 : decode cX6_isClosed 68 = .ok (.iload 4, 2) := by decide +kernel
theorem dX6_isClosed_70 : decode cX6_isClosed 70 = .ok (.invokevirtual 69, 3) := by decide +kernel
theorem dX6_isClosed_73 : decode cX6_isClosed 73 = .ok (.aload_n 0, 1) := by decide +kernel
theorem dX6_isClosed_74 : decode cX6_isClosed 74 = .ok (.getfield 22, 3) := by decide +kernel
theorem dX6_isClosed_77 : decode cX6_isClosed 77 = .ok (.iload 4, 2) := by decide +kernel
theorem dX6_isClosed_79 : decode cX6_isClosed 79 = .ok (.iaload, 1) := by decide +kernel
theorem dX6_isClosed_80 : decode cX6_isClosed 80 = .ok (.if_icmp .le 5, 3) := by decide +kernel
theorem dX6_isClosed_83 : decode cX6_isClosed 83 = .ok (.iconst 0, 1) := by decide +kernel
theorem dX6_isClosed_84 : decode cX6_isClosed 84 = .ok (.ireturn, 1) := by decide +kernel
theorem dX6_isClosed_85 : decode cX6_isClosed 85 = .ok (.iinc 4 1, 3) := by decide +kernel
theorem dX6_isClosed_88 : decode cX6_isClosed 88 = .ok (.goto (-48), 3) := by decide +kernel
theorem dX6_isClosed_91 : decode cX6_isClosed 91 = .ok (.iinc 3 1, 3) := by decide +kernel
theorem dX6_isClosed_94 : decode cX6_isClosed 94 = .ok (.goto (-62), 3) := by decide +kernel
theorem dX6_isClosed_97 : decode cX6_isClosed 97 = .ok (.iconst 1, 1) := by decide +kernel
theorem dX6_isClosed_98 : decode cX6_isClosed 98 = .ok (.ireturn, 1) := by decide +kernel
theorem dX6_sortBySize_0 : decode cX6_sortBySize 0 = .ok (.aload_n 0, 1) := by decide +kernel
theorem dX6_sortBySize_1 : decode cX6_sortBySize 1 = .ok (.getfield 19, 3) := by decide +kernel
theorem dX6_sortBySize_4 : decode cX6_sortBySize 4 = .ok (.iconst 0, 1) := by decide +kernel
theorem dX6_sortBySize_5 : decode cX6_sortBySize 5 = .ok (.invokestatic 73, 3) := by decide +kernel
theorem dX6_sortBySize_8 : decode cX6_sortBySize 8 = .ok (.iconst 0, 1) := by decide +kernel
theorem dX6_sortBySize_9 : decode cX6_sortBySize 9 = .ok (.istore_n 1, 1) := by decide +kernel
theorem dX6_sortBySize_10 : decode cX6_sortBySize 10 = .ok (.iload_n 1, 1) := by decide +kernel
theorem dX6_sortBySize_11 : decode cX6_sortBySize 11 = .ok (.aload_n 0, 1) := by decide +kernel
theorem dX6_sortBySize_12 : decode cX6_sortBySize 12 = .ok (.getfield 53, 3) := by decide +kernel
theorem dX6_sortBySize_15 : decode cX6_sortBySize 15 = .ok (.if_icmp .gt 31, 3) := by decide +kernel
theorem dX6_sortBySize_18 : decode cX6_sortBySize 18 = .ok (.aload_n 0, 1) := by decide +kernel
theorem dX6_sortBySize_19 : decode cX6_sortBySize 19 = .ok (.getfield 15, 3) := by decide +kernel
theorem dX6_sortBySize_22 : decode cX6_sortBySize 22 = .ok (.iload_n 1, 1) := by decide +kernel
theorem dX6_sortBySize_23 : decode cX6_sortBySize 23 = .ok (.baload, 1) := by decide +kernel
theorem dX6_sortBySize_24 : decode cX6_sortBySize 24 = .ok (.ifCond .eq 16, 3) := by decide +kernel
theorem dX6_sortBySize_27 : decode cX6_sortBySize 27 = .ok (.aload_n 0, 1) := by decide +kernel
theorem dX6_sortBySize_28 : decode cX6_sortBySize 28 = .ok (.getfield 19, 3) := by decide +kernel
theorem dX6_sortBySize_31 : decode cX6_sortBySize 31 = .ok (.iload_n 1, 1) := by decide +kernel
theorem dX6_sortBySize_32 : decode cX6_sortBySize 32 = .ok (.invokestatic 79, 3) := by decide +kernel
theorem dX6_sortBySize_35 : decode cX6_sortBySize 35 = .ok (.dup2, 1) := by decide +kernel
theorem dX6_sortBySize_36 : decode cX6_sortBySize 36 = .ok (.iaload, 1) := by decide +kernel
theorem dX6_sortBySize_37 : decode cX6_sortBySize 37 = .ok (.iconst 1, 1) := by decide +kernel
theorem dX6_sortBySize_38 : decode cX6_sortBySize 38 = .ok (.iadd, 1) := by decide +kernel
theorem dX6_sortBySize_39 : decode cX6_sortBySize 39 = .ok (.iastore, 1) := by decide +kernel
theorem dX6_sortBySize_40 : decode cX6_sortBySize 40 = .ok (.iinc 1 1, 3) := by decide +kernel
theorem dX6_sortBySize_43 : decode cX6_sortBySize 43 = .ok (.goto (-33), 3) := by decide +kernel
theorem dX6_sortBySize_46 : decode cX6_sortBySize 46 = .ok (.aload_n 0, 1) := by decide +kernel
theorem dX6_sortBySize_47 : decode cX6_sortBySize 47 = .ok (.iconst 0, 1) := by decide +kernel
theorem dX6_sortBySize_48 : decode cX6_sortBySize 48 = .ok (.putfield 83, 3) := by decide +kernel
theorem dX6_sortBySize_51 : decode cX6_sortBySize 51 = .ok (.iconst 0, 1) := by decide +kernel
theorem dX6_sortBySize_52 : decode cX6_sortBySize 52 = .ok (.istore_n 1, 1) := by decide +kernel
theorem dX6_sortBySize_53 : decode cX6_sortBySize 53 = .ok (.iload_n 1, 1) := by decide +kernel
theorem dX6_sortBySize_54 : decode cX6_sortBySize 54 = .ok (.bipush 24, 2) := by decide +kernel
theorem dX6_sortBySize_56 : decode cX6_sortBySize 56 = .ok (.if_icmp .gt 36, 3) := by decide +kernel
theorem dX6_sortBySize_59 : decode cX6_sortBySize 59 = .ok (.aload_n 0, 1) := by decide +kernel
theorem dX6_sortBySize_60 : decode cX6_sortBySize 60 = .ok (.getfield 19, 3) := by decide +kernel
theorem dX6_sortBySize_63 : decode cX6_sortBySize 63 = .ok (.iload_n 1, 1) := by decide +kernel
theorem dX6_sortBySize_64 : decode cX6_sortBySize 64 = .ok (.iaload, 1) := by decide +kernel
theorem dX6_sortBySize_65 : decode cX6_sortBySize 65 = .ok (.istore_n 2, 1) := by decide +kernel
theorem dX6_sortBySize_66 : decode cX6_sortBySize 66 = .ok (.aload_n 0, 1) := by decide +kernel
theorem dX6_sortBySize_67 : decode cX6_sortBySize 67 = .ok (.getfield 19, 3) := by decide +kernel
theorem dX6_sortBySize_70 : decode cX6_sortBySize 70 = .ok (.iload_n 1, 1) := by decide +kernel
theorem dX6_sortBySize_71 : decode cX6_sortBySize 71 = .ok (.aload_n 0, 1) := by decide +kernel
theorem dX6_sortBySize_72 : decode cX6_sortBySize 72 = .ok (.getfield 83, 3) := by decide +kernel
theorem dX6_sortBySize_75 : decode cX6_sortBySize 75 = .ok (.iastore, 1) := by decide +kernel
theorem dX6_sortBySize_76 : decode cX6_sortBySize 76 = .ok (.aload_n 0, 1) := by decide +kernel
theorem dX6_sortBySize_77 : decode cX6_sortBySize 77 = .ok (.dup, 1) := by decide +kernel
theorem dX6_sortBySize_78 : decode cX6_sortBySize 78 = .ok (.getfield 83, 3) := by decide +kernel
theorem dX6_sortBySize_81 : decode cX6_sortBySize 81 = .ok (.iload_n 2, 1) := by decide +kernel
theorem dX6_sortBySize_82 : decode cX6_sortBySize 82 = .ok (.iadd, 1) := by decide +kernel
theorem dX6_sortBySize_83 : decode cX6_sortBySize 83 = .ok (.putfield 83, 3) := by decide +kernel
theorem dX6_sortBySize_86 : decode cX6_sortBySize 86 = .ok (.iinc 1 1, 3) := by decide +kernel
theorem dX6_sortBySize_89 : decode cX6_sortBySize 89 = .ok (.goto (-36), 3) := by decide +kernel
theorem dX6_sortBySize_92 : decode cX6_sortBySize 92 = .ok (.iconst 0, 1) := by decide +kernel
theorem dX6_sortBySize_93 : decode cX6_sortBySize 93 = .ok (.istore_n 1, 1) := by decide +kernel
theorem dX6_sortBySize_94 : decode cX6_sortBySize 94 = .ok (.iload_n 1, 1) := by decide +kernel
theorem dX6_sortBySize_95 : decode cX6_sortBySize 95 = .ok (.aload_n 0, 1) := by decide +kernel
theorem dX6_sortBySize_96 : decode cX6_sortBySize 96 = .ok (.getfield 53, 3) := by decide +kernel
theorem dX6_sortBySize_99 : decode cX6_sortBySize 99 = .ok (.if_icmp .gt 45, 3) := by decide +kernel
theorem dX6_sortBySize_102 : decode cX6_sortBySize 102 = .ok (.aload_n 0, 1) := by decide +kernel
theorem dX6_sortBySize_103 : decode cX6_sortBySize 103 = .ok (.getfield 15, 3) := by decide +kernel
theorem dX6_sortBySize_106 : decode cX6_sortBySize 106 = .ok (.iload_n 1, 1) := by decide +kernel
theorem dX6_sortBySize_107 : decode cX6_sortBySize 107 = .ok (.baload, 1) := by decide +kernel
theorem dX6_sortBySize_108 : decode cX6_sortBySize 108 = .ok (.ifCond .eq 30, 3) := by decide +kernel
theorem dX6_sortBySize_111 : decode cX6_sortBySize 111 = .ok (.iload_n 1, 1) := by decide +kernel
theorem dX6_sortBySize_112 : decode cX6_sortBySize 112 = .ok (.invokestatic 79, 3) := by decide +kernel
theorem dX6_sortBySize_115 : decode cX6_sortBySize 115 = .ok (.istore_n 2, 1) := by decide +kernel
theorem dX6_sortBySize_116 : decode cX6_sortBySize 116 = .ok (.aload_n 0, 1) := by decide +kernel
theorem dX6_sortBySize_117 : decode cX6_sortBySize 117 = .ok (.getfield 9, 3) := by decide +kernel
theorem dX6_sortBySize_120 : decode cX6_sortBySize 120 = .ok (.aload_n 0, 1) := by decide +kernel
theorem dX6_sortBySize_121 : decode cX6_sortBySize 121 = .ok (.getfield 19, 3) := by decide +kernel
theorem dX6_sortBySize_124 : decode cX6_sortBySize 124 = .ok (.iload_n 2, 1) := by decide +kernel
theorem dX6_sortBySize_125 : decode cX6_sortBySize 125 = .ok (.iaload, 1) := by decide +kernel
theorem dX6_sortBySize_126 : decode cX6_sortBySize 126 = .ok (.iload_n 1, 1) := by decide +kernel
theorem dX6_sortBySize_127 : decode cX6_sortBySize 127 = .ok (.iastore, 1) := by decide +kernel
theorem dX6_sortBySize_128 : decode cX6_sortBySize 128 = .ok (.aload_n 0, 1) := by decide +kernel
theorem dX6_sortBySize_129 : decode cX6_sortBySize 129 = .ok (.getfield 19, 3) := by decide +kernel
theorem dX6_sortBySize_132 : decode cX6_sortBySize 132 = .ok (.iload_n 2, 1) := by decide +kernel
theorem dX6_sortBySize_133 : decode cX6_sortBySize 133 = .ok (.dup2, 1) := by decide +kernel
theorem dX6_sortBySize_134 : decode cX6_sortBySize 134 = .ok (.iaload, 1) := by decide +kernel
theorem dX6_sortBySize_135 : decode cX6_sortBySize 135 = .ok (.iconst 1, 1) := by decide +kernel
theorem dX6_sortBySize_136 : decode cX6_sortBySize 136 = .ok (.iadd, 1) := by decide +kernel
theorem dX6_sortBySize_137 : decode cX6_sortBySize 137 = .ok (.iastore, 1) := by decide +kernel
theorem dX6_sortBySize_138 : decode cX6_sortBySize 138 = .ok (.iinc 1 1, 3) := by decide +kernel
theorem dX6_sortBySize_141 : decode cX6_sortBySize 141 = .ok (.goto (-47), 3) := by decide +kernel
theorem dX6_sortBySize_144 : decode cX6_sortBySize 144 = .ok (.return_, 1) := by decide +kernel
theorem dX6_howManyOf_0 : decode cX6_howManyOf 0 = .ok (.iload_n 1, 1) := by decide +kernel
theorem dX6_howManyOf_1 : decode cX6_howManyOf 1 = .ok (.ifCond .lt 9, 3) := by decide +kernel
theorem dX6_howManyOf_4 : decode cX6_howManyOf 4 = .ok (.iload_n 1, 1) := by decide +kernel
theorem dX6_howManyOf_5 : decode cX6_howManyOf 5 = .ok (.bipush 24, 2) := by decide +kernel
theorem dX6_howManyOf_7 : decode cX6_howManyOf 7 = .ok (.if_icmp .le 5, 3) := by decide +kernel
theorem dX6_howManyOf_10 : decode cX6_howManyOf 10 = .ok (.iconst 0, 1) := by decide +kernel
theorem dX6_howManyOf_11 : decode cX6_howManyOf 11 = .ok (.ireturn, 1) := by decide +kernel
theorem dX6_howManyOf_12 : decode cX6_howManyOf 12 = .ok (.iload_n 1, 1) := by decide +kernel
theorem dX6_howManyOf_13 : decode cX6_howManyOf 13 = .ok (.ifCond .ne 12, 3) := by decide +kernel
theorem dX6_howManyOf_16 : decode cX6_howManyOf 16 = .ok (.aload_n 0, 1) := by decide +kernel
theorem dX6_howManyOf_17 : decode cX6_howManyOf 17 = .ok (.getfield 19, 3) := by decide +kernel
theorem dX6_howManyOf_20 : decode cX6_howManyOf 20 = .ok (.iconst 0, 1) := by decide +kernel
theorem dX6_howManyOf_21 : decode cX6_howManyOf 21 = .ok (.iaload, 1) := by decide +kernel
theorem dX6_howManyOf_22 : decode cX6_howManyOf 22 = .ok (.goto 18, 3) := by decide +kernel
theorem dX6_howManyOf_25 : decode cX6_howManyOf 25 = .ok (.aload_n 0, 1) := by decide +kernel
theorem dX6_howManyOf_26 : decode cX6_howManyOf 26 = .ok (.getfield 19, 3) := by decide +kernel
theorem dX6_howManyOf_29 : decode cX6_howManyOf 29 = .ok (.iload_n 1, 1) := by decide +kernel
theorem dX6_howManyOf_30 : decode cX6_howManyOf 30 = .ok (.iaload, 1) := by decide +kernel
theorem dX6_howManyOf_31 : decode cX6_howManyOf 31 = .ok (.aload_n 0, 1) := by decide +kernel
theorem dX6_howManyOf_32 : decode cX6_howManyOf 32 = .ok (.getfield 19, 3) := by decide +kernel
theorem dX6_howManyOf_35 : decode cX6_howManyOf 35 = .ok (.iload_n 1, 1) := by decide +kernel
theorem dX6_howManyOf_36 : decode cX6_howManyOf 36 = .ok (.iconst 1, 1) := by decide +kernel
theorem dX6_howManyOf_37 : decode cX6_howManyOf 37 = .ok (.isub, 1) := by decide +kernel
theorem dX6_howManyOf_38 : decode cX6_howManyOf 38 = .ok (.iaload, 1) := by decide +kernel
theorem dX6_howManyOf_39 : decode cX6_howManyOf 39 = .ok (.isub, 1) := by decide +kernel
theorem dX6_howManyOf_40 : decode cX6_howManyOf 40 = .ok (.ireturn, 1) := by decide +kernel
theorem dX6_firstBehind_0 : decode cX6_firstBehind 0 = .ok (.iload_n 1, 1) := by decide +kernel
theorem dX6_firstBehind_1 : decode cX6_firstBehind 1 = .ok (.invokestatic 79, 3) := by decide +kernel
theorem dX6_firstBehind_4 : decode cX6_firstBehind 4 = .ok (.istore_n 2, 1) := by decide +kernel
theorem dX6_firstBehind_5 : decode cX6_firstBehind 5 = .ok (.iload_n 2, 1) := by decide +kernel
theorem dX6_firstBehind_6 : decode cX6_firstBehind 6 = .ok (.ifCond .ne 7, 3) := by decide +kernel
theorem dX6_firstBehind_9 : decode cX6_firstBehind 9 = .ok (.iconst 0, 1) := by decide +kernel
theorem dX6_firstBehind_10 : decode cX6_firstBehind 10 = .ok (.goto 11, 3) := by decide +kernel
theorem dX6_firstBehind_13 : decode cX6_firstBehind 13 = .ok (.aload_n 0, 1) := by decide +kernel
theorem dX6_firstBehind_14 : decode cX6_firstBehind 14 = .ok (.getfield 19, 3) := by decide +kernel
theorem dX6_firstBehind_17 : decode cX6_firstBehind 17 = .ok (.iload_n 2, 1) := by decide +kernel
theorem dX6_firstBehind_18 : decode cX6_firstBehind 18 = .ok (.iconst 1, 1) := by decide +kernel
theorem dX6_firstBehind_19 : decode cX6_firstBehind 19 = .ok (.isub, 1) := by decide +kernel
theorem dX6_firstBehind_20 : decode cX6_firstBehind 20 = .ok (.iaload, 1) := by decide +kernel
theorem dX6_firstBehind_21 : decode cX6_firstBehind 21 = .ok (.istore_n 3, 1) := by decide +kernel
theorem dX6_firstBehind_22 : decode cX6_firstBehind 22 = .ok (.iload_n 3, 1) := by decide +kernel
theorem dX6_firstBehind_23 : decode cX6_firstBehind 23 = .ok (.aload_n 0, 1) := by decide +kernel
theorem dX6_firstBehind_24 : decode cX6_firstBehind 24 = .ok (.getfield 83, 3) := by decide +kernel
theorem dX6_firstBehind_27 : decode cX6_firstBehind 27 = .ok (.if_icmp .ge 36, 3) := by decide +kernel
theorem dX6_firstBehind_30 : decode cX6_firstBehind 30 = .ok (.aload_n 0, 1) := by decide +kernel
theorem dX6_firstBehind_31 : decode cX6_firstBehind 31 = .ok (.getfield 9, 3) := by decide +kernel
theorem dX6_firstBehind_34 : decode cX6_firstBehind 34 = .ok (.iload_n 3, 1) := by decide +kernel
theorem dX6_firstBehind_35 : decode cX6_firstBehind 35 = .ok (.iaload, 1) := by decide +kernel
theorem dX6_firstBehind_36 : decode cX6_firstBehind 36 = .ok (.iload_n 1, 1) := by decide +kernel
theorem dX6_firstBehind_37 : decode cX6_firstBehind 37 = .ok (.if_icmp .gt 13, 3) := by decide +kernel
theorem dX6_firstBehind_40 : decode cX6_firstBehind 40 = .ok (.iload_n 3, 1) := by decide +kernel
theorem dX6_firstBehind_41 : decode cX6_firstBehind 41 = .ok (.aload_n 0, 1) := by decide +kernel
theorem dX6_firstBehind_42 : decode cX6_firstBehind 42 = .ok (.getfield 19, 3) := by decide +kernel
theorem dX6_firstBehind_45 : decode cX6_firstBehind 45 = .ok (.iload_n 2, 1) := by decide +kernel
theorem dX6_firstBehind_46 : decode cX6_firstBehind 46 = .ok (.iaload, 1) := by decide +kernel
theorem dX6_firstBehind_47 : decode cX6_firstBehind 47 = .ok (.if_icmp .lt 10, 3) := by decide +kernel
theorem dX6_firstBehind_50 : decode cX6_firstBehind 50 = .ok (.aload_n 0, 1) := by decide +kernel
theorem dX6_firstBehind_51 : decode cX6_firstBehind 51 = .ok (.getfield 9, 3) := by decide +kernel
theorem dX6_firstBehind_54 : decode cX6_firstBehind 54 = .ok (.iload_n 3, 1) := by decide +kernel
theorem dX6_firstBehind_55 : decode cX6_firstBehind 55 = .ok (.iaload, 1) := by decide +kernel
theorem dX6_firstBehind_56 : decode cX6_firstBehind 56 = .ok (.ireturn, 1) := by decide +kernel
theorem dX6_firstBehind_57 : decode cX6_firstBehind 57 = .ok (.iinc 3 1, 3) := by decide +kernel
theorem dX6_firstBehind_60 : decode cX6_firstBehind 60 = .ok (.goto (-38), 3) := by decide +kernel
theorem dX6_firstBehind_63 : decode cX6_firstBehind 63 = .ok (.iconst (-1), 1) := by decide +kernel
theorem dX6_firstBehind_64 : decode cX6_firstBehind 64 = .ok (.ireturn, 1) := by decide +kernel
theorem dX6_up_0 : decode cX6_up 0 = .ok (.iload_n 1, 1) := by decide +kernel
theorem dX6_up_1 : decode cX6_up 1 = .ok (.iload_n 2, 1) := by decide +kernel
theorem dX6_up_2 : decode cX6_up 2 = .ok (.invokestatic 33, 3) := by decide +kernel
theorem dX6_up_5 : decode cX6_up 5 = .ok (.aload_n 0, 1) := by decide +kernel
theorem dX6_up_6 : decode cX6_up 6 = .ok (.getfield 29, 3) := by decide +kernel
theorem dX6_up_9 : decode cX6_up 9 = .ok (.getfield 56, 3) := by decide +kernel
theorem dX6_up_12 : decode cX6_up 12 = .ok (.iload_n 2, 1) := by decide +kernel
theorem dX6_up_13 : decode cX6_up 13 = .ok (.iaload, 1) := by decide +kernel
theorem dX6_up_14 : decode cX6_up 14 = .ok (.if_icmp .lt 5, 3) := by decide +kernel
theorem dX6_up_17 : decode cX6_up 17 = .ok (.iconst (-1), 1) := by decide +kernel
theorem dX6_up_18 : decode cX6_up 18 = .ok (.ireturn, 1) := by decide +kernel
theorem dX6_up_19 : decode cX6_up 19 = .ok (.iload_n 1, 1) := by decide +kernel
theorem dX6_up_20 : decode cX6_up 20 = .ok (.getstatic 45, 3) := by decide +kernel
theorem dX6_up_23 : decode cX6_up 23 = .ok (.iload_n 2, 1) := by decide +kernel
theorem dX6_up_24 : decode cX6_up 24 = .ok (.iaload, 1) := by decide +kernel
theorem dX6_up_25 : decode cX6_up 25 = .ok (.iadd, 1) := by decide +kernel
theorem dX6_up_26 : decode cX6_up 26 = .ok (.istore_n 3, 1) := by decide +kernel
theorem dX6_up_27 : decode cX6_up 27 = .ok (.aload_n 0, 1) := by decide +kernel
theorem dX6_up_28 : decode cX6_up 28 = .ok (.getfield 15, 3) := by decide +kernel
theorem dX6_up_31 : decode cX6_up 31 = .ok (.iload_n 3, 1) := by decide +kernel
theorem dX6_up_32 : decode cX6_up 32 = .ok (.baload, 1) := by decide +kernel
theorem dX6_up_33 : decode cX6_up 33 = .ok (.ifCond .eq 7, 3) := by decide +kernel
theorem dX6_up_36 : decode cX6_up 36 = .ok (.iload_n 3, 1) := by decide +kernel
theorem dX6_up_37 : decode cX6_up 37 = .ok (.goto 4, 3) := by decide +kernel
theorem dX6_up_40 : decode cX6_up 40 = .ok (.iconst (-1), 1) := by decide +kernel
theorem dX6_up_41 : decode cX6_up 41 = .ok (.ireturn, 1) := by decide +kernel
theorem dX6_down_0 : decode cX6_down 0 = .ok (.iload_n 1, 1) := by decide +kernel
theorem dX6_down_1 : decode cX6_down 1 = .ok (.iload_n 2, 1) := by decide +kernel
theorem dX6_down_2 : decode cX6_down 2 = .ok (.invokestatic 33, 3) := by decide +kernel
theorem dX6_down_5 : decode cX6_down 5 = .ok (.ifCond .ne 5, 3) := by decide +kernel
theorem dX6_down_8 : decode cX6_down 8 = .ok (.iconst (-1), 1) := by decide +kernel
theorem dX6_down_9 : decode cX6_down 9 = .ok (.ireturn, 1) := by decide +kernel
theorem dX6_down_10 : decode cX6_down 10 = .ok (.iload_n 1, 1) := by decide +kernel
theorem dX6_down_11 : decode cX6_down 11 = .ok (.getstatic 45, 3) := by decide +kernel
theorem dX6_down_14 : decode cX6_down 14 = .ok (.iload_n 2, 1) := by decide +kernel
theorem dX6_down_15 : decode cX6_down 15 = .ok (.iaload, 1) := by decide +kernel
theorem dX6_down_16 : decode cX6_down 16 = .ok (.isub, 1) := by decide +kernel
theorem dX6_down_17 : decode cX6_down 17 = .ok (.istore_n 3, 1) := by decide +kernel
theorem dX6_down_18 : decode cX6_down 18 = .ok (.aload_n 0, 1) := by decide +kernel
theorem dX6_down_19 : decode cX6_down 19 = .ok (.getfield 15, 3) := by decide +kernel
theorem dX6_down_22 : decode cX6_down 22 = .ok (.iload_n 3, 1) := by decide +kernel
theorem dX6_down_23 : decode cX6_down 23 = .ok (.baload, 1) := by decide +kernel
theorem dX6_down_24 : decode cX6_down 24 = .ok (.ifCond .eq 7, 3) := by decide +kernel
theorem dX6_down_27 : decode cX6_down 27 = .ok (.iload_n 3, 1) := by decide +kernel
theorem dX6_down_28 : decode cX6_down 28 = .ok (.goto 4, 3) := by decide +kernel
theorem dX6_down_31 : decode cX6_down 31 = .ok (.iconst (-1), 1) := by decide +kernel
theorem dX6_down_32 : decode cX6_down 32 = .ok (.ireturn, 1) := by decide +kernel
theorem dX6_firstOf_0 : decode cX6_firstOf 0 = .ok (.iconst 0, 1) := by decide +kernel
theorem dX6_firstOf_1 : decode cX6_firstOf 1 = .ok (.istore_n 2, 1) := by decide +kernel
theorem dX6_firstOf_2 : decode cX6_firstOf 2 = .ok (.iload_n 2, 1) := by decide +kernel
theorem dX6_firstOf_3 : decode cX6_firstOf 3 = .ok (.aload_n 0, 1) := by decide +kernel
theorem dX6_firstOf_4 : decode cX6_firstOf 4 = .ok (.getfield 83, 3) := by decide +kernel
theorem dX6_firstOf_7 : decode cX6_firstOf 7 = .ok (.if_icmp .ge 27, 3) := by decide +kernel
theorem dX6_firstOf_10 : decode cX6_firstOf 10 = .ok (.aload_n 1, 1) := by decide +kernel
theorem dX6_firstOf_11 : decode cX6_firstOf 11 = .ok (.aload_n 0, 1) := by decide +kernel
theorem dX6_firstOf_12 : decode cX6_firstOf 12 = .ok (.getfield 9, 3) := by decide +kernel
theorem dX6_firstOf_15 : decode cX6_firstOf 15 = .ok (.iload_n 2, 1) := by decide +kernel
theorem dX6_firstOf_16 : decode cX6_firstOf 16 = .ok (.iaload, 1) := by decide +kernel
theorem dX6_firstOf_17 : decode cX6_firstOf 17 = .ok (.baload, 1) := by decide +kernel
theorem dX6_firstOf_18 : decode cX6_firstOf 18 = .ok (.ifCond .eq 10, 3) := by decide +kernel
theorem dX6_firstOf_21 : decode cX6_firstOf 21 = .ok (.aload_n 0, 1) := by decide +kernel
theorem dX6_firstOf_22 : decode cX6_firstOf 22 = .ok (.getfield 9, 3) := by decide +kernel
theorem dX6_firstOf_25 : decode cX6_firstOf 25 = .ok (.iload_n 2, 1) := by decide +kernel
theorem dX6_firstOf_26 : decode cX6_firstOf 26 = .ok (.iaload, 1) := by decide +kernel
theorem dX6_firstOf_27 : decode cX6_firstOf 27 = .ok (.ireturn, 1) := by decide +kernel
theorem dX6_firstOf_28 : decode cX6_firstOf 28 = .ok (.iinc 2 1, 3) := by decide +kernel
theorem dX6_firstOf_31 : decode cX6_firstOf 31 = .ok (.goto (-29), 3) := by decide +kernel
theorem dX6_firstOf_34 : decode cX6_firstOf 34 = .ok (.iconst (-1), 1) := by decide +kernel
theorem dX6_firstOf_35 : decode cX6_firstOf 35 = .ok (.ireturn, 1) := by decide +kernel
theorem dX6_lastOf_0 : decode cX6_lastOf 0 = .ok (.aload_n 0, 1) := by decide +kernel
theorem dX6_lastOf_1 : decode cX6_lastOf 1 = .ok (.getfield 83, 3) := by decide +kernel
theorem dX6_lastOf_4 : decode cX6_lastOf 4 = .ok (.iconst 1, 1) := by decide +kernel
theorem dX6_lastOf_5 : decode cX6_lastOf 5 = .ok (.isub, 1) := by decide +kernel
theorem dX6_lastOf_6 : decode cX6_lastOf 6 = .ok (.istore_n 2, 1) := by decide +kernel
theorem dX6_lastOf_7 : decode cX6_lastOf 7 = .ok (.iload_n 2, 1) := by decide +kernel
theorem dX6_lastOf_8 : decode cX6_lastOf 8 = .ok (.ifCond .lt 27, 3) := by decide +kernel
theorem dX6_lastOf_11 : decode cX6_lastOf 11 = .ok (.aload_n 1, 1) := by decide +kernel
theorem dX6_lastOf_12 : decode cX6_lastOf 12 = .ok (.aload_n 0, 1) := by decide +kernel
theorem dX6_lastOf_13 : decode cX6_lastOf 13 = .ok (.getfield 9, 3) := by decide +kernel
theorem dX6_lastOf_16 : decode cX6_lastOf 16 = .ok (.iload_n 2, 1) := by decide +kernel
theorem dX6_lastOf_17 : decode cX6_lastOf 17 = .ok (.iaload, 1) := by decide +kernel
theorem dX6_lastOf_18 : decode cX6_lastOf 18 = .ok (.baload, 1) := by decide +kernel
theorem dX6_lastOf_19 : decode cX6_lastOf 19 = .ok (.ifCond .eq 10, 3) := by decide +kernel
theorem dX6_lastOf_22 : decode cX6_lastOf 22 = .ok (.aload_n 0, 1) := by decide +kernel
theorem dX6_lastOf_23 : decode cX6_lastOf 23 = .ok (.getfield 9, 3) := by decide +kernel
theorem dX6_lastOf_26 : decode cX6_lastOf 26 = .ok (.iload_n 2, 1) := by decide +kernel
theorem dX6_lastOf_27 : decode cX6_lastOf 27 = .ok (.iaload, 1) := by decide +kernel
theorem dX6_lastOf_28 : decode cX6_lastOf 28 = .ok (.ireturn, 1) := by decide +kernel
theorem dX6_lastOf_29 : decode cX6_lastOf 29 = .ok (.iinc 2 (-1), 3) := by decide +kernel
theorem dX6_lastOf_32 : decode cX6_lastOf 32 = .ok (.goto (-25), 3) := by decide +kernel
theorem dX6_lastOf_35 : decode cX6_lastOf 35 = .ok (.iconst (-1), 1) := by decide +kernel
theorem dX6_lastOf_36 : decode cX6_lastOf 36 = .ok (.ireturn, 1) := by decide +kernel
theorem dX6_howManyIn_0 : decode cX6_howManyIn 0 = .ok (.iconst 0, 1) := by decide +kernel
theorem dX6_howManyIn_1 : decode cX6_howManyIn 1 = .ok (.istore_n 2, 1) := by decide +kernel
theorem dX6_howManyIn_2 : decode cX6_howManyIn 2 = .ok (.iconst 0, 1) := by decide +kernel
theorem dX6_howManyIn_3 : decode cX6_howManyIn 3 = .ok (.istore_n 3, 1) := by decide +kernel
theorem dX6_howManyIn_4 : decode cX6_howManyIn 4 = .ok (.iload_n 3, 1) := by decide +kernel
theorem dX6_howManyIn_5 : decode cX6_howManyIn 5 = .ok (.aload_n 0, 1) := by decide +kernel
theorem dX6_howManyIn_6 : decode cX6_howManyIn 6 = .ok (.getfield 83, 3) := by decide +kernel
theorem dX6_howManyIn_9 : decode cX6_howManyIn 9 = .ok (.if_icmp .ge 23, 3) := by decide +kernel
theorem dX6_howManyIn_12 : decode cX6_howManyIn 12 = .ok (.aload_n 1, 1) := by decide +kernel
theorem dX6_howManyIn_13 : decode cX6_howManyIn 13 = .ok (.aload_n 0, 1) := by decide +kernel
theorem dX6_howManyIn_14 : decode cX6_howManyIn 14 = .ok (.getfield 9, 3) := by decide +kernel
theorem dX6_howManyIn_17 : decode cX6_howManyIn 17 = .ok (.iload_n 3, 1) := by decide +kernel
theorem dX6_howManyIn_18 : decode cX6_howManyIn 18 = .ok (.iaload, 1) := by decide +kernel
theorem dX6_howManyIn_19 : decode cX6_howManyIn 19 = .ok (.baload, 1) := by decide +kernel
theorem dX6_howManyIn_20 : decode cX6_howManyIn 20 = .ok (.ifCond .eq 6, 3) := by decide +kernel
theorem dX6_howManyIn_23 : decode cX6_howManyIn 23 = .ok (.iinc 2 1, 3) := by decide +kernel
theorem dX6_howManyIn_26 : decode cX6_howManyIn 26 = .ok (.iinc 3 1, 3) := by decide +kernel
theorem dX6_howManyIn_29 : decode cX6_howManyIn 29 = .ok (.goto (-25), 3) := by decide +kernel
theorem dX6_howManyIn_32 : decode cX6_howManyIn 32 = .ok (.iload_n 2, 1) := by decide +kernel
theorem dX6_howManyIn_33 : decode cX6_howManyIn 33 = .ok (.ireturn, 1) := by decide +kernel
theorem dX7_init_0 : decode cX7_init 0 = .ok (.aload_n 0, 1) := by decide +kernel
theorem dX7_init_1 : decode cX7_init 1 = .ok (.invokespecial 3, 3) := by decide +kernel
theorem dX7_init_4 : decode cX7_init 4 = .ok (.aload_n 0, 1) := by decide +kernel
theorem dX7_init_5 : decode cX7_init 5 = .ok (.bipush 6, 2) := by decide +kernel
theorem dX7_init_7 : decode cX7_init 7 = .ok (.anewarray 9, 3) := by decide +kernel
theorem dX7_init_10 : decode cX7_init 10 = .ok (.putfield 11, 3) := by decide +kernel
theorem dX7_init_13 : decode cX7_init 13 = .ok (.iconst 0, 1) := by decide +kernel
theorem dX7_init_14 : decode cX7_init 14 = .ok (.istore_n 1, 1) := by decide +kernel
theorem dX7_init_15 : decode cX7_init 15 = .ok (.iload_n 1, 1) := by decide +kernel
theorem dX7_init_16 : decode cX7_init 16 = .ok (.bipush 6, 2) := by decide +kernel
theorem dX7_init_18 : decode cX7_init 18 = .ok (.if_icmp .ge 22, 3) := by decide +kernel
theorem dX7_init_21 : decode cX7_init 21 = .ok (.aload_n 0, 1) := by decide +kernel
theorem dX7_init_22 : decode cX7_init 22 = .ok (.getfield 11, 3) := by decide +kernel
theorem dX7_init_25 : decode cX7_init 25 = .ok (.iload_n 1, 1) := by decide +kernel
theorem dX7_init_26 : decode cX7_init 26 = .ok (.new 9, 3) := by decide +kernel
theorem dX7_init_29 : decode cX7_init 29 = .ok (.dup, 1) := by decide +kernel
theorem dX7_init_30 : decode cX7_init 30 = .ok (.invokespecial 17, 3) := by decide +kernel
theorem dX7_init_33 : decode cX7_init 33 = .ok (.aastore, 1) := by decide +kernel
theorem dX7_init_34 : decode cX7_init 34 = .ok (.iinc 1 1, 3) := by decide +kernel
theorem dX7_init_37 : decode cX7_init 37 = .ok (.goto (-22), 3) := by decide +kernel
theorem dX7_init_40 : decode cX7_init 40 = .ok (.return_, 1) := by decide +kernel
theorem dX7_push_0 : decode cX7_push 0 = .ok (.aload_n 0, 1) := by decide +kernel
theorem dX7_push_1 : decode cX7_push 1 = .ok (.getfield 11, 3) := by decide +kernel
theorem dX7_push_4 : decode cX7_push 4 = .ok (.aload_n 0, 1) := by decide +kernel
theorem dX7_push_5 : decode cX7_push 5 = .ok (.getfield 18, 3) := by decide +kernel
theorem dX7_push_8 : decode cX7_push 8 = .ok (.aaload, 1) := by decide +kernel
theorem dX7_push_9 : decode cX7_push 9 = .ok (.iconst 0, 1) := by decide +kernel
theorem dX7_push_10 : decode cX7_push 10 = .ok (.putfield 22, 3) := by decide +kernel
theorem dX7_push_13 : decode cX7_push 13 = .ok (.aload_n 0, 1) := by decide +kernel
theorem dX7_push_14 : decode cX7_push 14 = .ok (.getfield 11, 3) := by decide +kernel
theorem dX7_push_17 : decode cX7_push 17 = .ok (.aload_n 0, 1) := by decide +kernel
theorem dX7_push_18 : decode cX7_push 18 = .ok (.getfield 18, 3) := by decide +kernel
theorem dX7_push_21 : decode cX7_push 21 = .ok (.aaload, 1) := by decide +kernel
theorem dX7_push_22 : decode cX7_push 22 = .ok (.iload_n 1, 1) := by decide +kernel
theorem dX7_push_23 : decode cX7_push 23 = .ok (.iload_n 2, 1) := by decide +kernel
theorem dX7_push_24 : decode cX7_push 24 = .ok (.iload_n 3, 1) := by decide +kernel
theorem dX7_push_25 : decode cX7_push 25 = .ok (.invokevirtual 25, 3) := by decide +kernel
theorem dX7_push_28 : decode cX7_push 28 = .ok (.aload_n 0, 1) := by decide +kernel
theorem dX7_push_29 : decode cX7_push 29 = .ok (.dup, 1) := by decide +kernel
theorem dX7_push_30 : decode cX7_push 30 = .ok (.getfield 18, 3) := by decide +kernel
theorem dX7_push_33 : decode cX7_push 33 = .ok (.iconst 1, 1) := by decide +kernel
theorem dX7_push_34 : decode cX7_push 34 = .ok (.iadd, 1) := by decide +kernel
theorem dX7_push_35 : decode cX7_push 35 = .ok (.putfield 18, 3) := by decide +kernel
theorem dX7_push_38 : decode cX7_push 38 = .ok (.aload_n 0, 1) := by decide +kernel
theorem dX7_push_39 : decode cX7_push 39 = .ok (.getfield 18, 3) := by decide +kernel
theorem dX7_push_42 : decode cX7_push 42 = .ok (.ireturn, 1) := by decide +kernel
theorem dX7_partsBehind_0 : decode cX7_partsBehind 0 = .ok (.iconst 1, 1) := by decide +kernel
theorem dX7_partsBehind_1 : decode cX7_partsBehind 1 = .ok (.istore_n 2, 1) := by decide +kernel
theorem dX7_partsBehind_2 : decode cX7_partsBehind 2 = .ok (.iconst 1, 1) := by decide +kernel
theorem dX7_partsBehind_3 : decode cX7_partsBehind 3 = .ok (.istore_n 3, 1) := by decide +kernel
theorem dX7_partsBehind_4 : decode cX7_partsBehind 4 = .ok (.iload_n 3, 1) := by decide +kernel
theorem dX7_partsBehind_5 : decode cX7_partsBehind 5 = .ok (.iload_n 1, 1) := by decide +kernel
theorem dX7_partsBehind_6 : decode cX7_partsBehind 6 = .ok (.invokestatic 29, 3) := by decide +kernel
theorem dX7_partsBehind_9 : decode cX7_partsBehind 9 = .ok (.if_icmp .gt 26, 3) := by decide +kernel
theorem dX7_partsBehind_12 : decode cX7_partsBehind 12 = .ok (.iload_n 2, 1) := by decide +kernel
theorem dX7_partsBehind_13 : decode cX7_partsBehind 13 = .ok (.aload_n 0, 1) := by decide +kernel
theorem dX7_partsBehind_14 : decode cX7_partsBehind 14 = .ok (.getfield 11, 3) := by decide +kernel
theorem dX7_partsBehind_17 : decode cX7_partsBehind 17 = .ok (.aload_n 0, 1) := by decide +kernel
theorem dX7_partsBehind_18 : decode cX7_partsBehind 18 = .ok (.getfield 18, 3) := by decide +kernel
theorem dX7_partsBehind_21 : decode cX7_partsBehind 21 = .ok (.iload_n 3, 1) := by decide +kernel
theorem dX7_partsBehind_22 : decode cX7_partsBehind 22 = .ok (.isub, 1) := by decide +kernel
theorem dX7_partsBehind_23 : decode cX7_partsBehind 23 = .ok (.aaload, 1) := by decide +kernel
theorem dX7_partsBehind_24 : decode cX7_partsBehind 24 = .ok (.getfield 22, 3) := by decide +kernel
theorem dX7_partsBehind_27 : decode cX7_partsBehind 27 = .ok (.iadd, 1) := by decide +kernel
theorem dX7_partsBehind_28 : decode cX7_partsBehind 28 = .ok (.istore_n 2, 1) := by decide +kernel
theorem dX7_partsBehind_29 : decode cX7_partsBehind 29 = .ok (.iinc 3 1, 3) := by decide +kernel
theorem dX7_partsBehind_32 : decode cX7_partsBehind 32 = .ok (.goto (-28), 3) := by decide +kernel
theorem dX7_partsBehind_35 : decode cX7_partsBehind 35 = .ok (.iload_n 2, 1) := by decide +kernel
theorem dX7_partsBehind_36 : decode cX7_partsBehind 36 = .ok (.ireturn, 1) := by decide +kernel
theorem dX7_unite_0 : decode cX7_unite 0 = .ok (.iload_n 1, 1) := by decide +kernel
theorem dX7_unite_1 : decode cX7_unite 1 = .ok (.invokestatic 29, 3) := by decide +kernel
theorem dX7_unite_4 : decode cX7_unite 4 = .ok (.iconst 2, 1) := by decide +kernel
theorem dX7_unite_5 : decode cX7_unite 5 = .ok (.if_icmp .ne 36, 3) := by decide +kernel
theorem dX7_unite_8 : decode cX7_unite 8 = .ok (.aload_n 0, 1) := by decide +kernel
theorem dX7_unite_9 : decode cX7_unite 9 = .ok (.dup, 1) := by decide +kernel
theorem dX7_unite_10 : decode cX7_unite 10 = .ok (.getfield 18, 3) := by decide +kernel
theorem dX7_unite_13 : decode cX7_unite 13 = .ok (.iconst 1, 1) := by decide +kernel
theorem dX7_unite_14 : decode cX7_unite 14 = .ok (.isub, 1) := by decide +kernel
theorem dX7_unite_15 : decode cX7_unite 15 = .ok (.putfield 18, 3) := by decide +kernel
theorem dX7_unite_18 : decode cX7_unite 18 = .ok (.aload_n 0, 1) := by decide +kernel
theorem dX7_unite_19 : decode cX7_unite 19 = .ok (.getfield 11, 3) := by decide +kernel
theorem dX7_unite_22 : decode cX7_unite 22 = .ok (.aload_n 0, 1) := by decide +kernel
theorem dX7_unite_23 : decode cX7_unite 23 = .ok (.getfield 18, 3) := by decide +kernel
theorem dX7_unite_26 : decode cX7_unite 26 = .ok (.iconst 1, 1) := by decide +kernel
theorem dX7_unite_27 : decode cX7_unite 27 = .ok (.isub, 1) := by decide +kernel
theorem dX7_unite_28 : decode cX7_unite 28 = .ok (.aaload, 1) := by decide +kernel
theorem dX7_unite_29 : decode cX7_unite 29 = .ok (.aload_n 0, 1) := by decide +kernel
theorem dX7_unite_30 : decode cX7_unite 30 = .ok (.getfield 11, 3) := by decide +kernel
theorem dX7_unite_33 : decode cX7_unite 33 = .ok (.aload_n 0, 1) := by decide +kernel
theorem dX7_unite_34 : decode cX7_unite 34 = .ok (.getfield 18, 3) := by decide +kernel
theorem dX7_unite_37 : decode cX7_unite 37 = .ok (.aaload, 1) := by decide +kernel
theorem dX7_unite_38 : decode cX7_unite 38 = .ok (.invokevirtual 33, 3) := by decide +kernel
theorem dX7_unite_41 : decode cX7_unite 41 = .ok (.aload_n 0, 1) := by decide +kernel
theorem dX7_unite_42 : decode cX7_unite 42 = .ok (.getfield 11, 3) := by decide +kernel
theorem dX7_unite_45 : decode cX7_unite 45 = .ok (.aload_n 0, 1) := by decide +kernel
theorem dX7_unite_46 : decode cX7_unite 46 = .ok (.getfield 18, 3) := by decide +kernel
theorem dX7_unite_49 : decode cX7_unite 49 = .ok (.iconst 1, 1) := by decide +kernel
theorem dX7_unite_50 : decode cX7_unite 50 = .ok (.isub, 1) := by decide +kernel
theorem dX7_unite_51 : decode cX7_unite 51 = .ok (.aaload, 1) := by decide +kernel
theorem dX7_unite_52 : decode cX7_unite 52 = .ok (.iload_n 1, 1) := by decide +kernel
theorem dX7_unite_53 : decode cX7_unite 53 = .ok (.iconst 0, 1) := by decide +kernel
theorem dX7_unite_54 : decode cX7_unite 54 = .ok (.iconst 0, 1) := by decide +kernel
theorem dX7_unite_55 : decode cX7_unite 55 = .ok (.invokevirtual 25, 3) := by decide +kernel
theorem dX7_unite_58 : decode cX7_unite 58 = .ok (.aload_n 0, 1) := by decide +kernel
theorem dX7_unite_59 : decode cX7_unite 59 = .ok (.getfield 18, 3) := by decide +kernel
theorem dX7_unite_62 : decode cX7_unite 62 = .ok (.ireturn, 1) := by decide +kernel
theorem dX8_init_0 : decode cX8_init 0 = .ok (.aload_n 0, 1) := by decide +kernel
theorem dX8_init_1 : decode cX8_init 1 = .ok (.invokespecial 3, 3) := by decide +kernel
theorem dX8_init_4 : decode cX8_init 4 = .ok (.aload_n 0, 1) := by decide +kernel
theorem dX8_init_5 : decode cX8_init 5 = .ok (.bipush 24, 2) := by decide +kernel
theorem dX8_init_7 : decode cX8_init 7 = .ok (.newarray .int, 2) := by decide +kernel
theorem dX8_init_9 : decode cX8_init 9 = .ok (.putfield 9, 3) := by decide +kernel
theorem dX8_init_12 : decode cX8_init 12 = .ok (.return_, 1) := by decide +kernel
theorem dX8_append_0 : decode cX8_append 0 = .ok (.aload_n 0, 1) := by decide +kernel
theorem dX8_append_1 : decode cX8_append 1 = .ok (.getfield 9, 3) := by decide +kernel
theorem dX8_append_4 : decode cX8_append 4 = .ok (.aload_n 0, 1) := by decide +kernel
theorem dX8_append_5 : decode cX8_append 5 = .ok (.getfield 15, 3) := by decide +kernel
theorem dX8_append_8 : decode cX8_append 8 = .ok (.iload_n 1, 1) := by decide +kernel
theorem dX8_append_9 : decode cX8_append 9 = .ok (.iastore, 1) := by decide +kernel
theorem dX8_append_10 : decode cX8_append 10 = .ok (.aload_n 0, 1) := by decide +kernel
theorem dX8_append_11 : decode cX8_append 11 = .ok (.dup, 1) := by decide +kernel
theorem dX8_append_12 : decode cX8_append 12 = .ok (.getfield 15, 3) := by decide +kernel
theorem dX8_append_15 : decode cX8_append 15 = .ok (.iconst 1, 1) := by decide +kernel
theorem dX8_append_16 : decode cX8_append 16 = .ok (.iadd, 1) := by decide +kernel
theorem dX8_append_17 : decode cX8_append 17 = .ok (.putfield 15, 3) := by decide +kernel
theorem dX8_append_20 : decode cX8_append 20 = .ok (.aload_n 0, 1) := by decide +kernel
theorem dX8_append_21 : decode cX8_append 21 = .ok (.getfield 15, 3) := by decide +kernel
theorem dX8_append_24 : decode cX8_append 24 = .ok (.ireturn, 1) := by decide +kernel
theorem dX8_rightPlaces_0 : decode cX8_rightPlaces 0 = .ok (.iconst 0, 1) := by decide +kernel
theorem dX8_rightPlaces_1 : decode cX8_rightPlaces 1 = .ok (.istore_n 2, 1) := by decide +kernel
theorem dX8_rightPlaces_2 : decode cX8_rightPlaces 2 = .ok (.iconst 0, 1) := by decide +kernel
theorem dX8_rightPlaces_3 : decode cX8_rightPlaces 3 = .ok (.istore_n 3, 1) := by decide +kernel
theorem dX8_rightPlaces_4 : decode cX8_rightPlaces 4 = .ok (.iload_n 3, 1) := by decide +kernel
theorem dX8_rightPlaces_5 : decode cX8_rightPlaces 5 = .ok (.aload_n 0, 1) := by decide +kernel
theorem dX8_rightPlaces_6 : decode cX8_rightPlaces 6 = .ok (.getfield 15, 3) := by decide +kernel
theorem dX8_rightPlaces_9 : decode cX8_rightPlaces 9 = .ok (.if_icmp .ge 28, 3) := by decide +kernel
theorem dX8_rightPlaces_12 : decode cX8_rightPlaces 12 = .ok (.aload_n 1, 1) := by decide +kernel
theorem dX8_rightPlaces_13 : decode cX8_rightPlaces 13 = .ok (.iload_n 2, 1) := by decide +kernel
theorem dX8_rightPlaces_14 : decode cX8_rightPlaces 14 = .ok (.aload_n 0, 1) := by decide +kernel
theorem dX8_rightPlaces_15 : decode cX8_rightPlaces 15 = .ok (.getfield 9, 3) := by decide +kernel
theorem dX8_rightPlaces_18 : decode cX8_rightPlaces 18 = .ok (.iload_n 3, 1) := by decide +kernel
theorem dX8_rightPlaces_19 : decode cX8_rightPlaces 19 = .ok (.iaload, 1) := by decide +kernel
theorem dX8_rightPlaces_20 : decode cX8_rightPlaces 20 = .ok (.invokevirtual 19, 3) := by decide +kernel
theorem dX8_rightPlaces_23 : decode cX8_rightPlaces 23 = .ok (.istore_n 2, 1) := by decide +kernel
theorem dX8_rightPlaces_24 : decode cX8_rightPlaces 24 = .ok (.iload_n 2, 1) := by decide +kernel
theorem dX8_rightPlaces_25 : decode cX8_rightPlaces 25 = .ok (.iconst (-1), 1) := by decide +kernel
theorem dX8_rightPlaces_26 : decode cX8_rightPlaces 26 = .ok (.if_icmp .ne 5, 3) := by decide +kernel
theorem dX8_rightPlaces_29 : decode cX8_rightPlaces 29 = .ok (.iload_n 3, 1) := by decide +kernel
theorem dX8_rightPlaces_30 : decode cX8_rightPlaces 30 = .ok (.ireturn, 1) := by decide +kernel
theorem dX8_rightPlaces_31 : decode cX8_rightPlaces 31 = .ok (.iinc 3 1, 3) := by decide +kernel
theorem dX8_rightPlaces_34 : decode cX8_rightPlaces 34 = .ok (.goto (-30), 3) := by decide +kernel
theorem dX8_rightPlaces_37 : decode cX8_rightPlaces 37 = .ok (.aload_n 0, 1) := by decide +kernel
theorem dX8_rightPlaces_38 : decode cX8_rightPlaces 38 = .ok (.getfield 15, 3) := by decide +kernel
theorem dX8_rightPlaces_41 : decode cX8_rightPlaces 41 = .ok (.ireturn, 1) := by decide +kernel
theorem dX8_firstAt_0 : decode cX8_firstAt 0 = .ok (.iconst 0, 1) := by decide +kernel
theorem dX8_firstAt_1 : decode cX8_firstAt 1 = .ok (.istore_n 3, 1) := by decide +kernel
theorem dX8_firstAt_2 : decode cX8_firstAt 2 = .ok (.iconst 0, 1) := by decide +kernel
theorem dX8_firstAt_3 : decode cX8_firstAt 3 = .ok (.istore 4, 2) := by decide +kernel
theorem dX8_firstAt_5 : decode cX8_firstAt 5 = .ok (.iload 4, 2) := by decide +kernel
theorem dX8_firstAt_7 : decode cX8_firstAt 7 = .ok (.aload_n 0, 1) := by decide +kernel
theorem dX8_firstAt_8 : decode cX8_firstAt 8 = .ok (.getfield 15, 3) := by decide +kernel
theorem dX8_firstAt_11 : decode cX8_firstAt 11 = .ok (.if_icmp .ge 35, 3) := by decide +kernel
theorem dX8_firstAt_14 : decode cX8_firstAt 14 = .ok (.aload_n 1, 1) := by decide +kernel
theorem dX8_firstAt_15 : decode cX8_firstAt 15 = .ok (.aload_n 2, 1) := by decide +kernel
theorem dX8_firstAt_16 : decode cX8_firstAt 16 = .ok (.iload_n 3, 1) := by decide +kernel
theorem dX8_firstAt_17 : decode cX8_firstAt 17 = .ok (.invokevirtual 25, 3) := by decide +kernel
theorem dX8_firstAt_20 : decode cX8_firstAt 20 = .ok (.ifCond .eq 6, 3) := by decide +kernel
theorem dX8_firstAt_23 : decode cX8_firstAt 23 = .ok (.iload 4, 2) := by decide +kernel
theorem dX8_firstAt_25 : decode cX8_firstAt 25 = .ok (.ireturn, 1) := by decide +kernel
theorem dX8_firstAt_26 : decode cX8_firstAt 26 = .ok (.iload_n 3, 1) := by decide +kernel
theorem dX8_firstAt_27 : decode cX8_firstAt 27 = .ok (.getstatic 31, 3) := by decide +kernel
theorem dX8_firstAt_30 : decode cX8_firstAt 30 = .ok (.aload_n 0, 1) := by decide +kernel
theorem dX8_firstAt_31 : decode cX8_firstAt 31 = .ok (.getfield 9, 3) := by decide +kernel
theorem dX8_firstAt_34 : decode cX8_firstAt 34 = .ok (.iload 4, 2) := by decide +kernel
theorem dX8_firstAt_36 : decode cX8_firstAt 36 = .ok (.iaload, 1) := by decide +kernel
theorem dX8_firstAt_37 : decode cX8_firstAt 37 = .ok (.iaload, 1) := by decide +kernel
theorem dX8_firstAt_38 : decode cX8_firstAt 38 = .ok (.iadd, 1) := by decide +kernel
theorem dX8_firstAt_39 : decode cX8_firstAt 39 = .ok (.istore_n 3, 1) := by decide +kernel
theorem dX8_firstAt_40 : decode cX8_firstAt 40 = .ok (.iinc 4 1, 3) := by decide +kernel
theorem dX8_firstAt_43 : decode cX8_firstAt 43 = .ok (.goto (-38), 3) := by decide +kernel
theorem dX8_firstAt_46 : decode cX8_firstAt 46 = .ok (.aload_n 1, 1) := by decide +kernel
theorem dX8_firstAt_47 : decode cX8_firstAt 47 = .ok (.aload_n 2, 1) := by decide +kernel
theorem dX8_firstAt_48 : decode cX8_firstAt 48 = .ok (.iload_n 3, 1) := by decide +kernel
theorem dX8_firstAt_49 : decode cX8_firstAt 49 = .ok (.invokevirtual 25, 3) := by decide +kernel
theorem dX8_firstAt_52 : decode cX8_firstAt 52 = .ok (.ifCond .eq 10, 3) := by decide +kernel
theorem dX8_firstAt_55 : decode cX8_firstAt 55 = .ok (.aload_n 0, 1) := by decide +kernel
theorem dX8_firstAt_56 : decode cX8_firstAt 56 = .ok (.getfield 15, 3) := by decide +kernel
theorem dX8_firstAt_59 : decode cX8_firstAt 59 = .ok (.goto 4, 3) := by decide +kernel
theorem dX8_firstAt_62 : decode cX8_firstAt 62 = .ok (.iconst (-1), 1) := by decide +kernel
theorem dX8_firstAt_63 : decode cX8_firstAt 63 = .ok (.ireturn, 1) := by decide +kernel
theorem dX9_init_0 : decode cX9_init 0 = .ok (.aload_n 0, 1) := by decide +kernel
theorem dX9_init_1 : decode cX9_init 1 = .ok (.invokespecial 3, 3) := by decide +kernel
theorem dX9_init_4 : decode cX9_init 4 = .ok (.aload_n 0, 1) := by decide +kernel
theorem dX9_init_5 : decode cX9_init 5 = .ok (.sipush 2401, 3) := by decide +kernel
theorem dX9_init_8 : decode cX9_init 8 = .ok (.newarray .long, 2) := by decide +kernel
theorem dX9_init_10 : decode cX9_init 10 = .ok (.putfield 9, 3) := by decide +kernel
theorem dX9_init_13 : decode cX9_init 13 = .ok (.return_, 1) := by decide +kernel
theorem dX9_fill_0 : decode cX9_fill 0 = .ok (.aload_n 1, 1) := by decide +kernel
theorem dX9_fill_1 : decode cX9_fill 1 = .ok (.getfield 15, 3) := by decide +kernel
theorem dX9_fill_4 : decode cX9_fill 4 = .ok (.iconst 1, 1) := by decide +kernel
theorem dX9_fill_5 : decode cX9_fill 5 = .ok (.isub, 1) := by decide +kernel
theorem dX9_fill_6 : decode cX9_fill 6 = .ok (.istore_n 3, 1) := by decide +kernel
theorem dX9_fill_7 : decode cX9_fill 7 = .ok (.iload_n 3, 1) := by decide +kernel
theorem dX9_fill_8 : decode cX9_fill 8 = .ok (.ifCond .lt 55, 3) := by decide +kernel
theorem dX9_fill_11 : decode cX9_fill 11 = .ok (.aload_n 1, 1) := by decide +kernel
theorem dX9_fill_12 : decode cX9_fill 12 = .ok (.getfield 21, 3) := by decide +kernel
theorem dX9_fill_15 : decode cX9_fill 15 = .ok (.iload_n 3, 1) := by decide +kernel
theorem dX9_fill_16 : decode cX9_fill 16 = .ok (.iaload, 1) := by decide +kernel
theorem dX9_fill_17 : decode cX9_fill 17 = .ok (.istore 4, 2) := by decide +kernel
theorem dX9_fill_19 : decode cX9_fill 19 = .ok (.aload_n 0, 1) := by decide +kernel
theorem dX9_fill_20 : decode cX9_fill 20 = .ok (.getfield 9, 3) := by decide +kernel
theorem dX9_fill_23 : decode cX9_fill 23 = .ok (.iload 4, 2) := by decide +kernel
theorem dX9_fill_25 : decode cX9_fill 25 = .ok (.aload_n 2, 1) := by decide +kernel
theorem dX9_fill_26 : decode cX9_fill 26 = .ok (.iload 4, 2) := by decide +kernel
theorem dX9_fill_28 : decode cX9_fill 28 = .ok (.baload, 1) := by decide +kernel
theorem dX9_fill_29 : decode cX9_fill 29 = .ok (.ifCond .eq 7, 3) := by decide +kernel
theorem dX9_fill_32 : decode cX9_fill 32 = .ok (.lconst 0, 1) := by decide +kernel
theorem dX9_fill_33 : decode cX9_fill 33 = .ok (.goto 23, 3) := by decide +kernel
theorem dX9_fill_36 : decode cX9_fill 36 = .ok (.iload 4, 2) := by decide +kernel
theorem dX9_fill_38 : decode cX9_fill 38 = .ok (.aload_n 1, 1) := by decide +kernel
theorem dX9_fill_39 : decode cX9_fill 39 = .ok (.getfield 25, 3) := by decide +kernel
theorem dX9_fill_42 : decode cX9_fill 42 = .ok (.if_icmp .ne 7, 3) := by decide +kernel
theorem dX9_fill_45 : decode cX9_fill 45 = .ok (.lconst 1, 1) := by decide +kernel
theorem dX9_fill_46 : decode cX9_fill 46 = .ok (.goto 10, 3) := by decide +kernel
theorem dX9_fill_49 : decode cX9_fill 49 = .ok (.aload_n 0, 1) := by decide +kernel
theorem dX9_fill_50 : decode cX9_fill 50 = .ok (.aload_n 1, 1) := by decide +kernel
theorem dX9_fill_51 : decode cX9_fill 51 = .ok (.iload 4, 2) := by decide +kernel
theorem dX9_fill_53 : decode cX9_fill 53 = .ok (.invokevirtual 28, 3) := by decide +kernel
theorem dX9_fill_56 : decode cX9_fill 56 = .ok (.lastore, 1) := by decide +kernel
theorem dX9_fill_57 : decode cX9_fill 57 = .ok (.iinc 3 (-1), 3) := by decide +kernel
theorem dX9_fill_60 : decode cX9_fill 60 = .ok (.goto (-53), 3) := by decide +kernel
theorem dX9_fill_63 : decode cX9_fill 63 = .ok (.aload_n 0, 1) := by decide +kernel
theorem dX9_fill_64 : decode cX9_fill 64 = .ok (.getfield 9, 3) := by decide +kernel
theorem dX9_fill_67 : decode cX9_fill 67 = .ok (.iconst 0, 1) := by decide +kernel
theorem dX9_fill_68 : decode cX9_fill 68 = .ok (.laload, 1) := by decide +kernel
theorem dX9_fill_69 : decode cX9_fill 69 = .ok (.lreturn, 1) := by decide +kernel
theorem dX9_fillUntil_0 : decode cX9_fillUntil 0 = .ok (.aload_n 1, 1) := by decide +kernel
theorem dX9_fillUntil_1 : decode cX9_fillUntil 1 = .ok (.getfield 15, 3) := by decide +kernel
theorem dX9_fillUntil_4 : decode cX9_fillUntil 4 = .ok (.iconst 1, 1) := by decide +kernel
theorem dX9_fillUntil_5 : decode cX9_fillUntil 5 = .ok (.isub, 1) := by decide +kernel
theorem dX9_fillUntil_6 : decode cX9_fillUntil 6 = .ok (.istore 5, 2) := by decide +kernel
theorem dX9_fillUntil_8 : decode cX9_fillUntil 8 = .ok (.iload 5, 2) := by decide +kernel
theorem dX9_fillUntil_10 : decode cX9_fillUntil 10 = .ok (.ifCond .lt 77, 3) := by decide +kernel
theorem dX9_fillUntil_13 : decode cX9_fillUntil 13 = .ok (.aload_n 1, 1) := by decide +kernel
theorem dX9_fillUntil_14 : decode cX9_fillUntil 14 = .ok (.getfield 21, 3) := by decide +kernel
theorem dX9_fillUntil_17 : decode cX9_fillUntil 17 = .ok (.iload 5, 2) := by decide +kernel
theorem dX9_fillUntil_19 : decode cX9_fillUntil 19 = .ok (.iaload, 1) := by decide +kernel
theorem dX9_fillUntil_20 : decode cX9_fillUntil 20 = .ok (.istore 6, 2) := by decide +kernel
theorem dX9_fillUntil_22 : decode cX9_fillUntil 22 = .ok (.aload_n 2, 1) := by decide +kernel
theorem dX9_fillUntil_23 : decode cX9_fillUntil 23 = .ok (.iload 6, 2) := by decide +kernel
theorem dX9_fillUntil_25 : decode cX9_fillUntil 25 = .ok (.baload, 1) := by decide +kernel
theorem dX9_fillUntil_26 : decode cX9_fillUntil 26 = .ok (.ifCond .ne 18, 3) := by decide +kernel
theorem dX9_fillUntil_29 : decode cX9_fillUntil 29 = .ok (.aload_n 3, 1) := by decide +kernel
theorem dX9_fillUntil_30 : decode cX9_fillUntil 30 = .ok (.aload 4, 2) := by decide +kernel
theorem dX9_fillUntil_32 : decode cX9_fillUntil 32 = .ok (.iload 6, 2) := by decide +kernel
theorem dX9_fillUntil_34 : decode cX9_fillUntil 34 = .ok (.invokevirtual 32, 3) := by decide +kernel
theorem dX9_fillUntil_37 : decode cX9_fillUntil 37 = .ok (.ifCond .eq 7, 3) := by decide +kernel
theorem dX9_fillUntil_40 : decode cX9_fillUntil 40 = .ok (.iconst 1, 1) := by decide +kernel
theorem dX9_fillUntil_41 : decode cX9_fillUntil 41 = .ok (.goto 4, 3) := by decide +kernel
theorem dX9_fillUntil_44 : decode cX9_fillUntil 44 = .ok (.iconst 0, 1) := by decide +kernel
theorem dX9_fillUntil_45 : decode cX9_fillUntil 45 = .ok (.istore 7, 2) := by decide +kernel
theorem dX9_fillUntil_47 : decode cX9_fillUntil 47 = .ok (.aload_n 0, 1) := by decide +kernel
theorem dX9_fillUntil_48 : decode cX9_fillUntil 48 = .ok (.getfield 9, 3) := by decide +kernel
theorem dX9_fillUntil_51 : decode cX9_fillUntil 51 = .ok (.iload 6, 2) := by decide +kernel
theorem dX9_fillUntil_53 : decode cX9_fillUntil 53 = .ok (.aload_n 2, 1) := by decide +kernel
theorem dX9_fillUntil_54 : decode cX9_fillUntil 54 = .ok (.iload 6, 2) := by decide +kernel
theorem dX9_fillUntil_56 : decode cX9_fillUntil 56 = .ok (.baload, 1) := by decide +kernel
theorem dX9_fillUntil_57 : decode cX9_fillUntil 57 = .ok (.ifCond .eq 7, 3) := by decide +kernel
theorem dX9_fillUntil_60 : decode cX9_fillUntil 60 = .ok (.lconst 0, 1) := by decide +kernel
theorem dX9_fillUntil_61 : decode cX9_fillUntil 61 = .ok (.goto 19, 3) := by decide +kernel
theorem dX9_fillUntil_64 : decode cX9_fillUntil 64 = .ok (.iload 7, 2) := by decide +kernel
theorem dX9_fillUntil_66 : decode cX9_fillUntil 66 = .ok (.ifCond .eq 7, 3) := by decide +kernel
theorem dX9_fillUntil_69 : decode cX9_fillUntil 69 = .ok (.lconst 1, 1) := by decide +kernel
theorem dX9_fillUntil_70 : decode cX9_fillUntil 70 = .ok (.goto 10, 3) := by decide +kernel
theorem dX9_fillUntil_73 : decode cX9_fillUntil 73 = .ok (.aload_n 0, 1) := by decide +kernel
theorem dX9_fillUntil_74 : decode cX9_fillUntil 74 = .ok (.aload_n 1, 1) := by decide +kernel
theorem dX9_fillUntil_75 : decode cX9_fillUntil 75 = .ok (.iload 6, 2) := by decide +kernel
theorem dX9_fillUntil_77 : decode cX9_fillUntil 77 = .ok (.invokevirtual 28, 3) := by decide +kernel
theorem dX9_fillUntil_80 : decode cX9_fillUntil 80 = .ok (.lastore, 1) := by decide +kernel
theorem dX9_fillUntil_81 : decode cX9_fillUntil 81 = .ok (.iinc 5 (-1), 3) := by decide +kernel
theorem dX9_fillUntil_84 : decode cX9_fillUntil 84 = .ok (.goto (-76), 3) := by decide +kernel
theorem dX9_fillUntil_87 : decode cX9_fillUntil 87 = .ok (.aload_n 0, 1) := by decide +kernel
theorem dX9_fillUntil_88 : decode cX9_fillUntil 88 = .ok (.getfield 9, 3) := by decide +kernel
theorem dX9_fillUntil_91 : decode cX9_fillUntil 91 = .ok (.iconst 0, 1) := by decide +kernel
theorem dX9_fillUntil_92 : decode cX9_fillUntil 92 = .ok (.laload, 1) := by decide +kernel
theorem dX9_fillUntil_93 : decode cX9_fillUntil 93 = .ok (.lreturn, 1) := by decide +kernel
theorem dX9_sumOver_0 : decode cX9_sumOver 0 = .ok (.lconst 0, 1) := by decide +kernel
theorem dX9_sumOver_1 : decode cX9_sumOver 1 = .ok (.lstore_n 3, 1) := by decide +kernel
theorem dX9_sumOver_2 : decode cX9_sumOver 2 = .ok (.iconst 0, 1) := by decide +kernel
theorem dX9_sumOver_3 : decode cX9_sumOver 3 = .ok (.istore 5, 2) := by decide +kernel
theorem dX9_sumOver_5 : decode cX9_sumOver 5 = .ok (.iload 5, 2) := by decide +kernel
theorem dX9_sumOver_7 : decode cX9_sumOver 7 = .ok (.iconst 4, 1) := by decide +kernel
theorem dX9_sumOver_8 : decode cX9_sumOver 8 = .ok (.if_icmp .ge 20, 3) := by decide +kernel
theorem dX9_sumOver_11 : decode cX9_sumOver 11 = .ok (.lload_n 3, 1) := by decide +kernel
theorem dX9_sumOver_12 : decode cX9_sumOver 12 = .ok (.aload_n 0, 1) := by decide +kernel
theorem dX9_sumOver_13 : decode cX9_sumOver 13 = .ok (.aload_n 1, 1) := by decide +kernel
theorem dX9_sumOver_14 : decode cX9_sumOver 14 = .ok (.iload_n 2, 1) := by decide +kernel
theorem dX9_sumOver_15 : decode cX9_sumOver 15 = .ok (.iload 5, 2) := by decide +kernel
theorem dX9_sumOver_17 : decode cX9_sumOver 17 = .ok (.invokevirtual 38, 3) := by decide +kernel
theorem dX9_sumOver_20 : decode cX9_sumOver 20 = .ok (.ladd, 1) := by decide +kernel
theorem dX9_sumOver_21 : decode cX9_sumOver 21 = .ok (.lstore_n 3, 1) := by decide +kernel
theorem dX9_sumOver_22 : decode cX9_sumOver 22 = .ok (.iinc 5 1, 3) := by decide +kernel
theorem dX9_sumOver_25 : decode cX9_sumOver 25 = .ok (.goto (-20), 3) := by decide +kernel
theorem dX9_sumOver_28 : decode cX9_sumOver 28 = .ok (.lload_n 3, 1) := by decide +kernel
theorem dX9_sumOver_29 : decode cX9_sumOver 29 = .ok (.lreturn, 1) := by decide +kernel
theorem dX9_over_0 : decode cX9_over 0 = .ok (.aload_n 1, 1) := by decide +kernel
theorem dX9_over_1 : decode cX9_over 1 = .ok (.iload_n 2, 1) := by decide +kernel
theorem dX9_over_2 : decode cX9_over 2 = .ok (.iload_n 3, 1) := by decide +kernel
theorem dX9_over_3 : decode cX9_over 3 = .ok (.invokevirtual 42, 3) := by decide +kernel
theorem dX9_over_6 : decode cX9_over 6 = .ok (.istore 4, 2) := by decide +kernel
theorem dX9_over_8 : decode cX9_over 8 = .ok (.iload 4, 2) := by decide +kernel
theorem dX9_over_10 : decode cX9_over 10 = .ok (.iconst (-1), 1) := by decide +kernel
theorem dX9_over_11 : decode cX9_over 11 = .ok (.if_icmp .ne 7, 3) := by decide +kernel
theorem dX9_over_14 : decode cX9_over 14 = .ok (.lconst 0, 1) := by decide +kernel
theorem dX9_over_15 : decode cX9_over 15 = .ok (.goto 10, 3) := by decide +kernel
theorem dX9_over_18 : decode cX9_over 18 = .ok (.aload_n 0, 1) := by decide +kernel
theorem dX9_over_19 : decode cX9_over 19 = .ok (.getfield 9, 3) := by decide +kernel
theorem dX9_over_22 : decode cX9_over 22 = .ok (.iload 4, 2) := by decide +kernel
theorem dX9_over_24 : decode cX9_over 24 = .ok (.laload, 1) := by decide +kernel
theorem dX9_over_25 : decode cX9_over 25 = .ok (.lreturn, 1) := by decide +kernel
theorem dX9_processAt_0 : decode cX9_processAt 0 = .ok (.lload_n 2, 1) := by decide +kernel
theorem dX9_processAt_1 : decode cX9_processAt 1 = .ok (.lstore 5, 2) := by decide +kernel
theorem dX9_processAt_3 : decode cX9_processAt 3 = .ok (.iconst 0, 1) := by decide +kernel
theorem dX9_processAt_4 : decode cX9_processAt 4 = .ok (.istore 7, 2) := by decide +kernel
theorem dX9_processAt_6 : decode cX9_processAt 6 = .ok (.iconst (-1), 1) := by decide +kernel
theorem dX9_processAt_7 : decode cX9_processAt 7 = .ok (.istore 8, 2) := by decide +kernel
theorem dX9_processAt_9 : decode cX9_processAt 9 = .ok (.iconst 0, 1) := by decide +kernel
theorem dX9_processAt_10 : decode cX9_processAt 10 = .ok (.istore 9, 2) := by decide +kernel
theorem dX9_processAt_12 : decode cX9_processAt 12 = .ok (.iload 9, 2) := by decide +kernel
theorem dX9_processAt_14 : decode cX9_processAt 14 = .ok (.iload 4, 2) := by decide +kernel
theorem dX9_processAt_16 : decode cX9_processAt 16 = .ok (.if_icmp .gt 79, 3) := by decide +kernel
theorem dX9_processAt_19 : decode cX9_processAt 19 = .ok (.iload 9, 2) := by decide +kernel
theorem dX9_processAt_21 : decode cX9_processAt 21 = .ok (.bipush 24, 2) := by decide +kernel
theorem dX9_processAt_23 : decode cX9_processAt 23 = .ok (.if_icmp .ge 72, 3) := by decide +kernel
theorem dX9_processAt_26 : decode cX9_processAt 26 = .ok (.iconst 0, 1) := by decide +kernel
theorem dX9_processAt_27 : decode cX9_processAt 27 = .ok (.istore 8, 2) := by decide +kernel
theorem dX9_processAt_29 : decode cX9_processAt 29 = .ok (.iload 8, 2) := by decide +kernel
theorem dX9_processAt_31 : decode cX9_processAt 31 = .ok (.iconst 4, 1) := by decide +kernel
theorem dX9_processAt_32 : decode cX9_processAt 32 = .ok (.if_icmp .ge 38, 3) := by decide +kernel
theorem dX9_processAt_35 : decode cX9_processAt 35 = .ok (.lload 5, 2) := by decide +kernel
theorem dX9_processAt_37 : decode cX9_processAt 37 = .ok (.aload_n 0, 1) := by decide +kernel
theorem dX9_processAt_38 : decode cX9_processAt 38 = .ok (.aload_n 1, 1) := by decide +kernel
theorem dX9_processAt_39 : decode cX9_processAt 39 = .ok (.iload 7, 2) := by decide +kernel
theorem dX9_processAt_41 : decode cX9_processAt 41 = .ok (.iload 8, 2) := by decide +kernel
theorem dX9_processAt_43 : decode cX9_processAt 43 = .ok (.invokevirtual 38, 3) := by decide +kernel
theorem dX9_processAt_46 : decode cX9_processAt 46 = .ok (.lcmp, 1) := by decide +kernel
theorem dX9_processAt_47 : decode cX9_processAt 47 = .ok (.ifCond .lt 23, 3) := by decide +kernel
theorem dX9_processAt_50 : decode cX9_processAt 50 = .ok (.lload 5, 2) := by decide +kernel
theorem dX9_processAt_52 : decode cX9_processAt 52 = .ok (.aload_n 0, 1) := by decide +kernel
theorem dX9_processAt_53 : decode cX9_processAt 53 = .ok (.aload_n 1, 1) := by decide +kernel
theorem dX9_processAt_54 : decode cX9_processAt 54 = .ok (.iload 7, 2) := by decide +kernel
theorem dX9_processAt_56 : decode cX9_processAt 56 = .ok (.iload 8, 2) := by decide +kernel
theorem dX9_processAt_58 : decode cX9_processAt 58 = .ok (.invokevirtual 38, 3) := by decide +kernel
theorem dX9_processAt_61 : decode cX9_processAt 61 = .ok (.lsub, 1) := by decide +kernel
theorem dX9_processAt_62 : decode cX9_processAt 62 = .ok (.lstore 5, 2) := by decide +kernel
theorem dX9_processAt_64 : decode cX9_processAt 64 = .ok (.iinc 8 1, 3) := by decide +kernel
theorem dX9_processAt_67 : decode cX9_processAt 67 = .ok (.goto (-38), 3) := by decide +kernel
theorem dX9_processAt_70 : decode cX9_processAt 70 = .ok (.iload 8, 2) := by decide +kernel
theorem dX9_processAt_72 : decode cX9_processAt 72 = .ok (.iconst 4, 1) := by decide +kernel
theorem dX9_processAt_73 : decode cX9_processAt 73 = .ok (.if_icmp .ne 5, 3) := by decide +kernel
theorem dX9_processAt_76 : decode cX9_processAt 76 = .ok (.iconst (-1), 1) := by decide +kernel
theorem dX9_processAt_77 : decode cX9_processAt 77 = .ok (.ireturn, 1) := by decide +kernel
theorem dX9_processAt_78 : decode cX9_processAt 78 = .ok (.iload 7, 2) := by decide +kernel
theorem dX9_processAt_80 : decode cX9_processAt 80 = .ok (.getstatic 46, 3) := by decide +kernel
theorem dX9_processAt_83 : decode cX9_processAt 83 = .ok (.iload 8, 2) := by decide +kernel
theorem dX9_processAt_85 : decode cX9_processAt 85 = .ok (.iaload, 1) := by decide +kernel
theorem dX9_processAt_86 : decode cX9_processAt 86 = .ok (.iadd, 1) := by decide +kernel
theorem dX9_processAt_87 : decode cX9_processAt 87 = .ok (.istore 7, 2) := by decide +kernel
theorem dX9_processAt_89 : decode cX9_processAt 89 = .ok (.iinc 9 1, 3) := by decide +kernel
theorem dX9_processAt_92 : decode cX9_processAt 92 = .ok (.goto (-80), 3) := by decide +kernel
theorem dX9_processAt_95 : decode cX9_processAt 95 = .ok (.iload 8, 2) := by decide +kernel
theorem dX9_processAt_97 : decode cX9_processAt 97 = .ok (.ireturn, 1) := by decide +kernel
theorem dX10_init_0 : decode cX10_init 0 = .ok (.aload_n 0, 1) := by decide +kernel
theorem dX10_init_1 : decode cX10_init 1 = .ok (.invokespecial 1, 3) := by decide +kernel
theorem dX10_init_4 : decode cX10_init 4 = .ok (.aload_n 0, 1) := by decide +kernel
theorem dX10_init_5 : decode cX10_init 5 = .ok (.new 7, 3) := by decide +kernel
theorem dX10_init_8 : decode cX10_init 8 = .ok (.dup, 1) := by decide +kernel
theorem dX10_init_9 : decode cX10_init 9 = .ok (.invokespecial 9, 3) := by decide +kernel
theorem dX10_init_12 : decode cX10_init 12 = .ok (.putfield 10, 3) := by decide +kernel
theorem dX10_init_15 : decode cX10_init 15 = .ok (.aload_n 0, 1) := by decide +kernel
theorem dX10_init_16 : decode cX10_init 16 = .ok (.new 16, 3) := by decide +kernel
theorem dX10_init_19 : decode cX10_init 19 = .ok (.dup, 1) := by decide +kernel
theorem dX10_init_20 : decode cX10_init 20 = .ok (.aload_n 0, 1) := by decide +kernel
theorem dX10_init_21 : decode cX10_init 21 = .ok (.getfield 10, 3) := by decide +kernel
theorem dX10_init_24 : decode cX10_init 24 = .ok (.invokespecial 18, 3) := by decide +kernel
theorem dX10_init_27 : decode cX10_init 27 = .ok (.putfield 21, 3) := by decide +kernel
theorem dX10_init_30 : decode cX10_init 30 = .ok (.aload_n 0, 1) := by decide +kernel
theorem dX10_init_31 : decode cX10_init 31 = .ok (.new 25, 3) := by decide +kernel
theorem dX10_init_34 : decode cX10_init 34 = .ok (.dup, 1) := by decide +kernel
theorem dX10_init_35 : decode cX10_init 35 = .ok (.invokespecial 27, 3) := by decide +kernel
theorem dX10_init_38 : decode cX10_init 38 = .ok (.putfield 28, 3) := by decide +kernel
theorem dX10_init_41 : decode cX10_init 41 = .ok (.aload_n 0, 1) := by decide +kernel
theorem dX10_init_42 : decode cX10_init 42 = .ok (.new 32, 3) := by decide +kernel
theorem dX10_init_45 : decode cX10_init 45 = .ok (.dup, 1) := by decide +kernel
theorem dX10_init_46 : decode cX10_init 46 = .ok (.invokespecial 34, 3) := by decide +kernel
theorem dX10_init_49 : decode cX10_init 49 = .ok (.putfield 35, 3) := by decide +kernel
theorem dX10_init_52 : decode cX10_init 52 = .ok (.aload_n 0, 1) := by decide +kernel
theorem dX10_init_53 : decode cX10_init 53 = .ok (.new 39, 3) := by decide +kernel
theorem dX10_init_56 : decode cX10_init 56 = .ok (.dup, 1) := by decide +kernel
theorem dX10_init_57 : decode cX10_init 57 = .ok (.aload_n 0, 1) := by decide +kernel
theorem dX10_init_58 : decode cX10_init 58 = .ok (.getfield 10, 3) := by decide +kernel
theorem dX10_init_61 : decode cX10_init 61 = .ok (.invokespecial 41, 3) := by decide +kernel
theorem dX10_init_64 : decode cX10_init 64 = .ok (.putfield 42, 3) := by decide +kernel
theorem dX10_init_67 : decode cX10_init 67 = .ok (.aload_n 0, 1) := by decide +kernel
theorem dX10_init_68 : decode cX10_init 68 = .ok (.new 46, 3) := by decide +kernel
theorem dX10_init_71 : decode cX10_init 71 = .ok (.dup, 1) := by decide +kernel
theorem dX10_init_72 : decode cX10_init 72 = .ok (.aload_n 0, 1) := by decide +kernel
theorem dX10_init_73 : decode cX10_init 73 = .ok (.getfield 42, 3) := by decide +kernel
theorem dX10_init_76 : decode cX10_init 76 = .ok (.invokespecial 48, 3) := by decide +kernel
theorem dX10_init_79 : decode cX10_init 79 = .ok (.putfield 51, 3) := by decide +kernel
theorem dX10_init_82 : decode cX10_init 82 = .ok (.aload_n 0, 1) := by decide +kernel
theorem dX10_init_83 : decode cX10_init 83 = .ok (.new 55, 3) := by decide +kernel
theorem dX10_init_86 : decode cX10_init 86 = .ok (.dup, 1) := by decide +kernel
theorem dX10_init_87 : decode cX10_init 87 = .ok (.invokespecial 57, 3) := by decide +kernel
theorem dX10_init_90 : decode cX10_init 90 = .ok (.putfield 58, 3) := by decide +kernel
theorem dX10_init_93 : decode cX10_init 93 = .ok (.aload_n 0, 1) := by decide +kernel
theorem dX10_init_94 : decode cX10_init 94 = .ok (.new 62, 3) := by decide +kernel
theorem dX10_init_97 : decode cX10_init 97 = .ok (.dup, 1) := by decide +kernel
theorem dX10_init_98 : decode cX10_init 98 = .ok (.invokespecial 64, 3) := by decide +kernel
theorem dX10_init_101 : decode cX10_init 101 = .ok (.putfield 65, 3) := by decide +kernel
theorem dX10_init_104 : decode cX10_init 104 = .ok (.aload_n 0, 1) := by decide +kernel
theorem dX10_init_105 : decode cX10_init 105 = .ok (.iconst 0, 1) := by decide +kernel
theorem dX10_init_106 : decode cX10_init 106 = .ok (.putfield 69, 3) := by decide +kernel
theorem dX10_init_109 : decode cX10_init 109 = .ok (.return_, 1) := by decide +kernel
theorem dX10_process_0 : decode cX10_process 0 = .ok (.aload_n 0, 1) := by decide +kernel
theorem dX10_process_1 : decode cX10_process 1 = .ok (.getfield 10, 3) := by decide +kernel
theorem dX10_process_4 : decode cX10_process 4 = .ok (.getfield 73, 3) := by decide +kernel
theorem dX10_process_7 : decode cX10_process 7 = .ok (.iconst 4, 1) := by decide +kernel
theorem dX10_process_8 : decode cX10_process 8 = .ok (.if_icmp .lt 6, 3) := by decide +kernel
theorem dX10_process_11 : decode cX10_process 11 = .ok (.bipush (-4), 2) := by decide +kernel
theorem dX10_process_13 : decode cX10_process 13 = .ok (.ireturn, 1) := by decide +kernel
theorem dX10_process_14 : decode cX10_process 14 = .ok (.aload_n 0, 1) := by decide +kernel
theorem dX10_process_15 : decode cX10_process 15 = .ok (.getfield 10, 3) := by decide +kernel
theorem dX10_process_18 : decode cX10_process 18 = .ok (.dup, 1) := by decide +kernel
theorem dX10_process_19 : decode cX10_process 19 = .ok (.getfield 73, 3) := by decide +kernel
theorem dX10_process_22 : decode cX10_process 22 = .ok (.iconst 1, 1) := by decide +kernel
theorem dX10_process_23 : decode cX10_process 23 = .ok (.iadd, 1) := by decide +kernel
theorem dX10_process_24 : decode cX10_process 24 = .ok (.putfield 73, 3) := by decide +kernel
theorem dX10_process_27 : decode cX10_process 27 = .ok (.aload_n 0, 1) := by decide +kernel
theorem dX10_process_28 : decode cX10_process 28 = .ok (.getfield 10, 3) := by decide +kernel
theorem dX10_process_31 : decode cX10_process 31 = .ok (.getfield 73, 3) := by decide +kernel
theorem dX10_process_34 : decode cX10_process 34 = .ok (.iconst 1, 1) := by decide +kernel
theorem dX10_process_35 : decode cX10_process 35 = .ok (.isub, 1) := by decide +kernel
theorem dX10_process_36 : decode cX10_process 36 = .ok (.ireturn, 1) := by decide +kernel
theorem dX10_own_0 : decode cX10_own 0 = .ok (.aload_n 0, 1) := by decide +kernel
theorem dX10_own_1 : decode cX10_own 1 = .ok (.getfield 10, 3) := by decide +kernel
theorem dX10_own_4 : decode cX10_own 4 = .ok (.iload_n 1, 1) := by decide +kernel
theorem dX10_own_5 : decode cX10_own 5 = .ok (.invokevirtual 76, 3) := by decide +kernel
theorem dX10_own_8 : decode cX10_own 8 = .ok (.ifCond .eq 12, 3) := by decide +kernel
theorem dX10_own_11 : decode cX10_own 11 = .ok (.iload_n 2, 1) := by decide +kernel
theorem dX10_own_12 : decode cX10_own 12 = .ok (.ifCond .lt 8, 3) := by decide +kernel
theorem dX10_own_15 : decode cX10_own 15 = .ok (.iload_n 2, 1) := by decide +kernel
theorem dX10_own_16 : decode cX10_own 16 = .ok (.iconst 3, 1) := by decide +kernel
theorem dX10_own_17 : decode cX10_own 17 = .ok (.if_icmp .lt 5, 3) := by decide +kernel
theorem dX10_own_20 : decode cX10_own 20 = .ok (.iconst (-1), 1) := by decide +kernel
theorem dX10_own_21 : decode cX10_own 21 = .ok (.ireturn, 1) := by decide +kernel
theorem dX10_own_22 : decode cX10_own 22 = .ok (.iload 4, 2) := by decide +kernel
theorem dX10_own_24 : decode cX10_own 24 = .ok (.ifCond .eq 12, 3) := by decide +kernel
theorem dX10_own_27 : decode cX10_own 27 = .ok (.iload 4, 2) := by decide +kernel
theorem dX10_own_29 : decode cX10_own 29 = .ok (.iconst 1, 1) := by decide +kernel
theorem dX10_own_30 : decode cX10_own 30 = .ok (.if_icmp .eq 6, 3) := by decide +kernel
theorem dX10_own_33 : decode cX10_own 33 = .ok (.bipush (-2), 2) := by decide +kernel
theorem dX10_own_35 : decode cX10_own 35 = .ok (.ireturn, 1) := by decide +kernel
theorem dX10_own_36 : decode cX10_own 36 = .ok (.aload_n 0, 1) := by decide +kernel
theorem dX10_own_37 : decode cX10_own 37 = .ok (.getfield 10, 3) := by decide +kernel
theorem dX10_own_40 : decode cX10_own 40 = .ok (.iload_n 1, 1) := by decide +kernel
theorem dX10_own_41 : decode cX10_own 41 = .ok (.invokevirtual 80, 3) := by decide +kernel
theorem dX10_own_44 : decode cX10_own 44 = .ok (.ifCond .eq 6, 3) := by decide +kernel
theorem dX10_own_47 : decode cX10_own 47 = .ok (.bipush (-4), 2) := by decide +kernel
theorem dX10_own_49 : decode cX10_own 49 = .ok (.ireturn, 1) := by decide +kernel
theorem dX10_own_50 : decode cX10_own 50 = .ok (.aload_n 0, 1) := by decide +kernel
theorem dX10_own_51 : decode cX10_own 51 = .ok (.getfield 10, 3) := by decide +kernel
theorem dX10_own_54 : decode cX10_own 54 = .ok (.iload_n 1, 1) := by decide +kernel
theorem dX10_own_55 : decode cX10_own 55 = .ok (.iload_n 2, 1) := by decide +kernel
theorem dX10_own_56 : decode cX10_own 56 = .ok (.iload_n 3, 1) := by decide +kernel
theorem dX10_own_57 : decode cX10_own 57 = .ok (.iload 4, 2) := by decide +kernel
theorem dX10_own_59 : decode cX10_own 59 = .ok (.iconst 1, 1) := by decide +kernel
theorem dX10_own_60 : decode cX10_own 60 = .ok (.if_icmp .ne 7, 3) := by decide +kernel
theorem dX10_own_63 : decode cX10_own 63 = .ok (.iconst 1, 1) := by decide +kernel
theorem dX10_own_64 : decode cX10_own 64 = .ok (.goto 4, 3) := by decide +kernel
theorem dX10_own_67 : decode cX10_own 67 = .ok (.iconst 0, 1) := by decide +kernel
theorem dX10_own_68 : decode cX10_own 68 = .ok (.invokevirtual 83, 3) := by decide +kernel
theorem dX10_own_71 : decode cX10_own 71 = .ok (.ireturn, 1) := by decide +kernel
theorem dX10_send_0 : decode cX10_send 0 = .ok (.aload_n 0, 1) := by decide +kernel
theorem dX10_send_1 : decode cX10_send 1 = .ok (.iload_n 1, 1) := by decide +kernel
theorem dX10_send_2 : decode cX10_send 2 = .ok (.iload_n 2, 1) := by decide +kernel
theorem dX10_send_3 : decode cX10_send 3 = .ok (.invokevirtual 87, 3) := by decide +kernel
theorem dX10_send_6 : decode cX10_send 6 = .ok (.istore_n 3, 1) := by decide +kernel
theorem dX10_send_7 : decode cX10_send 7 = .ok (.iload_n 3, 1) := by decide +kernel
theorem dX10_send_8 : decode cX10_send 8 = .ok (.ifCond .eq 7, 3) := by decide +kernel
theorem dX10_send_11 : decode cX10_send 11 = .ok (.iload_n 3, 1) := by decide +kernel
theorem dX10_send_12 : decode cX10_send 12 = .ok (.goto 12, 3) := by decide +kernel
theorem dX10_send_15 : decode cX10_send 15 = .ok (.aload_n 0, 1) := by decide +kernel
theorem dX10_send_16 : decode cX10_send 16 = .ok (.getfield 10, 3) := by decide +kernel
theorem dX10_send_19 : decode cX10_send 19 = .ok (.iload_n 1, 1) := by decide +kernel
theorem dX10_send_20 : decode cX10_send 20 = .ok (.iload_n 2, 1) := by decide +kernel
theorem dX10_send_21 : decode cX10_send 21 = .ok (.invokevirtual 91, 3) := by decide +kernel
theorem dX10_send_24 : decode cX10_send 24 = .ok (.ireturn, 1) := by decide +kernel
theorem dX10_take_0 : decode cX10_take 0 = .ok (.aload_n 0, 1) := by decide +kernel
theorem dX10_take_1 : decode cX10_take 1 = .ok (.getfield 10, 3) := by decide +kernel
theorem dX10_take_4 : decode cX10_take 4 = .ok (.getfield 94, 3) := by decide +kernel
theorem dX10_take_7 : decode cX10_take 7 = .ok (.astore_n 2, 1) := by decide +kernel
theorem dX10_take_8 : decode cX10_take 8 = .ok (.aload_n 2, 1) := by decide +kernel
theorem dX10_take_9 : decode cX10_take 9 = .ok (.iload_n 1, 1) := by decide +kernel
theorem dX10_take_10 : decode cX10_take 10 = .ok (.invokevirtual 98, 3) := by decide +kernel
theorem dX10_take_13 : decode cX10_take 13 = .ok (.ifCond .ne 5, 3) := by decide +kernel
theorem dX10_take_16 : decode cX10_take 16 = .ok (.iconst (-1), 1) := by decide +kernel
theorem dX10_take_17 : decode cX10_take 17 = .ok (.ireturn, 1) := by decide +kernel
theorem dX10_take_18 : decode cX10_take 18 = .ok (.aload_n 2, 1) := by decide +kernel
theorem dX10_take_19 : decode cX10_take 19 = .ok (.getfield 103, 3) := by decide +kernel
theorem dX10_take_22 : decode cX10_take 22 = .ok (.iload_n 1, 1) := by decide +kernel
theorem dX10_take_23 : decode cX10_take 23 = .ok (.iaload, 1) := by decide +kernel
theorem dX10_take_24 : decode cX10_take 24 = .ok (.iconst (-1), 1) := by decide +kernel
theorem dX10_take_25 : decode cX10_take 25 = .ok (.if_icmp .eq 6, 3) := by decide +kernel
theorem dX10_take_28 : decode cX10_take 28 = .ok (.bipush (-3), 2) := by decide +kernel
theorem dX10_take_30 : decode cX10_take 30 = .ok (.ireturn, 1) := by decide +kernel
theorem dX10_take_31 : decode cX10_take 31 = .ok (.aload_n 0, 1) := by decide +kernel
theorem dX10_take_32 : decode cX10_take 32 = .ok (.getfield 10, 3) := by decide +kernel
theorem dX10_take_35 : decode cX10_take 35 = .ok (.aload_n 2, 1) := by decide +kernel
theorem dX10_take_36 : decode cX10_take 36 = .ok (.getfield 107, 3) := by decide +kernel
theorem dX10_take_39 : decode cX10_take 39 = .ok (.iload_n 1, 1) := by decide +kernel
theorem dX10_take_40 : decode cX10_take 40 = .ok (.iaload, 1) := by decide +kernel
theorem dX10_take_41 : decode cX10_take 41 = .ok (.invokevirtual 80, 3) := by decide +kernel
theorem dX10_take_44 : decode cX10_take 44 = .ok (.ifCond .eq 6, 3) := by decide +kernel
theorem dX10_take_47 : decode cX10_take 47 = .ok (.bipush (-4), 2) := by decide +kernel
theorem dX10_take_49 : decode cX10_take 49 = .ok (.ireturn, 1) := by decide +kernel
theorem dX10_take_50 : decode cX10_take 50 = .ok (.aload_n 0, 1) := by decide +kernel
theorem dX10_take_51 : decode cX10_take 51 = .ok (.getfield 10, 3) := by decide +kernel
theorem dX10_take_54 : decode cX10_take 54 = .ok (.iload_n 1, 1) := by decide +kernel
theorem dX10_take_55 : decode cX10_take 55 = .ok (.invokevirtual 110, 3) := by decide +kernel
theorem dX10_take_58 : decode cX10_take 58 = .ok (.ireturn, 1) := by decide +kernel
theorem dX10_wait_0 : decode cX10_wait 0 = .ok (.aload_n 0, 1) := by decide +kernel
theorem dX10_wait_1 : decode cX10_wait 1 = .ok (.iload_n 1, 1) := by decide +kernel
theorem dX10_wait_2 : decode cX10_wait 2 = .ok (.iload_n 2, 1) := by decide +kernel
theorem dX10_wait_3 : decode cX10_wait 3 = .ok (.invokevirtual 87, 3) := by decide +kernel
theorem dX10_wait_6 : decode cX10_wait 6 = .ok (.istore_n 3, 1) := by decide +kernel
theorem dX10_wait_7 : decode cX10_wait 7 = .ok (.iload_n 3, 1) := by decide +kernel
theorem dX10_wait_8 : decode cX10_wait 8 = .ok (.ifCond .eq 7, 3) := by decide +kernel
theorem dX10_wait_11 : decode cX10_wait 11 = .ok (.iload_n 3, 1) := by decide +kernel
theorem dX10_wait_12 : decode cX10_wait 12 = .ok (.goto 12, 3) := by decide +kernel
theorem dX10_wait_15 : decode cX10_wait 15 = .ok (.aload_n 0, 1) := by decide +kernel
theorem dX10_wait_16 : decode cX10_wait 16 = .ok (.getfield 10, 3) := by decide +kernel
theorem dX10_wait_19 : decode cX10_wait 19 = .ok (.iload_n 1, 1) := by decide +kernel
theorem dX10_wait_20 : decode cX10_wait 20 = .ok (.iload_n 2, 1) := by decide +kernel
theorem dX10_wait_21 : decode cX10_wait 21 = .ok (.invokevirtual 114, 3) := by decide +kernel
theorem dX10_wait_24 : decode cX10_wait 24 = .ok (.ireturn, 1) := by decide +kernel
theorem dX10_refusalOfPair_0 : decode cX10_refusalOfPair 0 = .ok (.aload_n 0, 1) := by decide +kernel
theorem dX10_refusalOfPair_1 : decode cX10_refusalOfPair 1 = .ok (.getfield 10, 3) := by decide +kernel
theorem dX10_refusalOfPair_4 : decode cX10_refusalOfPair 4 = .ok (.iload_n 1, 1) := by decide +kernel
theorem dX10_refusalOfPair_5 : decode cX10_refusalOfPair 5 = .ok (.invokevirtual 76, 3) := by decide +kernel
theorem dX10_refusalOfPair_8 : decode cX10_refusalOfPair 8 = .ok (.ifCond .eq 14, 3) := by decide +kernel
theorem dX10_refusalOfPair_11 : decode cX10_refusalOfPair 11 = .ok (.aload_n 0, 1) := by decide +kernel
theorem dX10_refusalOfPair_12 : decode cX10_refusalOfPair 12 = .ok (.getfield 10, 3) := by decide +kernel
theorem dX10_refusalOfPair_15 : decode cX10_refusalOfPair 15 = .ok (.iload_n 2, 1) := by decide +kernel
theorem dX10_refusalOfPair_16 : decode cX10_refusalOfPair 16 = .ok (.invokevirtual 76, 3) := by decide +kernel
theorem dX10_refusalOfPair_19 : decode cX10_refusalOfPair 19 = .ok (.ifCond .ne 5, 3) := by decide +kernel
theorem dX10_refusalOfPair_22 : decode cX10_refusalOfPair 22 = .ok (.iconst (-1), 1) := by decide +kernel
theorem dX10_refusalOfPair_23 : decode cX10_refusalOfPair 23 = .ok (.ireturn, 1) := by decide +kernel
theorem dX10_refusalOfPair_24 : decode cX10_refusalOfPair 24 = .ok (.iload_n 1, 1) := by decide +kernel
theorem dX10_refusalOfPair_25 : decode cX10_refusalOfPair 25 = .ok (.iload_n 2, 1) := by decide +kernel
theorem dX10_refusalOfPair_26 : decode cX10_refusalOfPair 26 = .ok (.if_icmp .ne 6, 3) := by decide +kernel
theorem dX10_refusalOfPair_29 : decode cX10_refusalOfPair 29 = .ok (.bipush (-2), 2) := by decide +kernel
theorem dX10_refusalOfPair_31 : decode cX10_refusalOfPair 31 = .ok (.ireturn, 1) := by decide +kernel
theorem dX10_refusalOfPair_32 : decode cX10_refusalOfPair 32 = .ok (.aload_n 0, 1) := by decide +kernel
theorem dX10_refusalOfPair_33 : decode cX10_refusalOfPair 33 = .ok (.getfield 10, 3) := by decide +kernel
theorem dX10_refusalOfPair_36 : decode cX10_refusalOfPair 36 = .ok (.iload_n 1, 1) := by decide +kernel
theorem dX10_refusalOfPair_37 : decode cX10_refusalOfPair 37 = .ok (.invokevirtual 80, 3) := by decide +kernel
theorem dX10_refusalOfPair_40 : decode cX10_refusalOfPair 40 = .ok (.ifCond .eq 8, 3) := by decide +kernel
theorem dX10_refusalOfPair_43 : decode cX10_refusalOfPair 43 = .ok (.bipush (-4), 2) := by decide +kernel
theorem dX10_refusalOfPair_45 : decode cX10_refusalOfPair 45 = .ok (.goto 4, 3) := by decide +kernel
theorem dX10_refusalOfPair_48 : decode cX10_refusalOfPair 48 = .ok (.iconst 0, 1) := by decide +kernel
theorem dX10_refusalOfPair_49 : decode cX10_refusalOfPair 49 = .ok (.ireturn, 1) := by decide +kernel
end
section
theorem dX10_undo_0 : decode cX10_undo 0 = .ok (.aload_n 0, 1) := by decide +kernel
theorem dX10_undo_1 : decode cX10_undo 1 = .ok (.getfield 10, 3) := by decide +kernel
theorem dX10_undo_4 : decode cX10_undo 4 = .ok (.getfield 117, 3) := by decide +kernel
theorem dX10_undo_7 : decode cX10_undo 7 = .ok (.ifCond .ne 8, 3) := by decide +kernel
theorem dX10_undo_10 : decode cX10_undo 10 = .ok (.bipush (-3), 2) := by decide +kernel
theorem dX10_undo_12 : decode cX10_undo 12 = .ok (.goto 10, 3) := by decide +kernel
theorem dX10_undo_15 : decode cX10_undo 15 = .ok (.aload_n 0, 1) := by decide +kernel
theorem dX10_undo_16 : decode cX10_undo 16 = .ok (.getfield 10, 3) := by decide +kernel
theorem dX10_undo_19 : decode cX10_undo 19 = .ok (.invokevirtual 120, 3) := by decide +kernel
theorem dX10_undo_22 : decode cX10_undo 22 = .ok (.ireturn, 1) := by decide +kernel
theorem dX10_event_0 : decode cX10_event 0 = .ok (.aload_n 0, 1) := by decide +kernel
theorem dX10_event_1 : decode cX10_event 1 = .ok (.getfield 10, 3) := by decide +kernel
theorem dX10_event_4 : decode cX10_event 4 = .ok (.iload_n 1, 1) := by decide +kernel
theorem dX10_event_5 : decode cX10_event 5 = .ok (.iload_n 2, 1) := by decide +kernel
theorem dX10_event_6 : decode cX10_event 6 = .ok (.invokevirtual 124, 3) := by decide +kernel
theorem dX10_event_9 : decode cX10_event 9 = .ok (.ifCond .ne 5, 3) := by decide +kernel
theorem dX10_event_12 : decode cX10_event 12 = .ok (.iconst (-1), 1) := by decide +kernel
theorem dX10_event_13 : decode cX10_event 13 = .ok (.ireturn, 1) := by decide +kernel
theorem dX10_event_14 : decode cX10_event 14 = .ok (.iload_n 1, 1) := by decide +kernel
theorem dX10_event_15 : decode cX10_event 15 = .ok (.iload_n 2, 1) := by decide +kernel
theorem dX10_event_16 : decode cX10_event 16 = .ok (.invokestatic 128, 3) := by decide +kernel
theorem dX10_event_19 : decode cX10_event 19 = .ok (.istore 4, 2) := by decide +kernel
theorem dX10_event_21 : decode cX10_event 21 = .ok (.iload_n 3, 1) := by decide +kernel
theorem dX10_event_22 : decode cX10_event 22 = .ok (.tableswitch 59 0 2 #[26, 37, 48], 26) := by decide +kernel
theorem dX10_event_48 : decode cX10_event 48 = .ok (.aload_n 0, 1) := by decide +kernel
theorem dX10_event_49 : decode cX10_event 49 = .ok (.getfield 10, 3) := by decide +kernel
theorem dX10_event_52 : decode cX10_event 52 = .ok (.getfield 131, 3) := by decide +kernel
theorem dX10_event_55 : decode cX10_event 55 = .ok (.iload 4, 2) := by decide +kernel
theorem dX10_event_57 : decode cX10_event 57 = .ok (.iaload, 1) := by decide +kernel
theorem dX10_event_58 : decode cX10_event 58 = .ok (.ireturn, 1) := by decide +kernel
theorem dX10_event_59 : decode cX10_event 59 = .ok (.aload_n 0, 1) := by decide +kernel
theorem dX10_event_60 : decode cX10_event 60 = .ok (.getfield 10, 3) := by decide +kernel
theorem dX10_event_63 : decode cX10_event 63 = .ok (.getfield 134, 3) := by decide +kernel
theorem dX10_event_66 : decode cX10_event 66 = .ok (.iload 4, 2) := by decide +kernel
theorem dX10_event_68 : decode cX10_event 68 = .ok (.iaload, 1) := by decide +kernel
theorem dX10_event_69 : decode cX10_event 69 = .ok (.ireturn, 1) := by decide +kernel
theorem dX10_event_70 : decode cX10_event 70 = .ok (.aload_n 0, 1) := by decide +kernel
theorem dX10_event_71 : decode cX10_event 71 = .ok (.getfield 10, 3) := by decide +kernel
theorem dX10_event_74 : decode cX10_event 74 = .ok (.getfield 137, 3) := by decide +kernel
theorem dX10_event_77 : decode cX10_event 77 = .ok (.iload 4, 2) := by decide +kernel
theorem dX10_event_79 : decode cX10_event 79 = .ok (.iaload, 1) := by decide +kernel
theorem dX10_event_80 : decode cX10_event 80 = .ok (.ireturn, 1) := by decide +kernel
theorem dX10_event_81 : decode cX10_event 81 = .ok (.iconst (-1), 1) := by decide +kernel
theorem dX10_event_82 : decode cX10_event 82 = .ok (.ireturn, 1) := by decide +kernel
theorem dX10_letter_0 : decode cX10_letter 0 = .ok (.aload_n 0, 1) := by decide +kernel
theorem dX10_letter_1 : decode cX10_letter 1 = .ok (.getfield 10, 3) := by decide +kernel
theorem dX10_letter_4 : decode cX10_letter 4 = .ok (.getfield 94, 3) := by decide +kernel
theorem dX10_letter_7 : decode cX10_letter 7 = .ok (.astore_n 3, 1) := by decide +kernel
theorem dX10_letter_8 : decode cX10_letter 8 = .ok (.aload_n 3, 1) := by decide +kernel
theorem dX10_letter_9 : decode cX10_letter 9 = .ok (.iload_n 1, 1) := by decide +kernel
theorem dX10_letter_10 : decode cX10_letter 10 = .ok (.invokevirtual 98, 3) := by decide +kernel
theorem dX10_letter_13 : decode cX10_letter 13 = .ok (.ifCond .ne 5, 3) := by decide +kernel
theorem dX10_letter_16 : decode cX10_letter 16 = .ok (.iconst (-1), 1) := by decide +kernel
theorem dX10_letter_17 : decode cX10_letter 17 = .ok (.ireturn, 1) := by decide +kernel
theorem dX10_letter_18 : decode cX10_letter 18 = .ok (.iload_n 2, 1) := by decide +kernel
theorem dX10_letter_19 : decode cX10_letter 19 = .ok (.tableswitch 57 0 3 #[29, 36, 43, 50], 29) := by decide +kernel
theorem dX10_letter_48 : decode cX10_letter 48 = .ok (.aload_n 3, 1) := by decide +kernel
theorem dX10_letter_49 : decode cX10_letter 49 = .ok (.getfield 140, 3) := by decide +kernel
theorem dX10_letter_52 : decode cX10_letter 52 = .ok (.iload_n 1, 1) := by decide +kernel
theorem dX10_letter_53 : decode cX10_letter 53 = .ok (.iaload, 1) := by decide +kernel
theorem dX10_letter_54 : decode cX10_letter 54 = .ok (.ireturn, 1) := by decide +kernel
theorem dX10_letter_55 : decode cX10_letter 55 = .ok (.aload_n 3, 1) := by decide +kernel
theorem dX10_letter_56 : decode cX10_letter 56 = .ok (.getfield 107, 3) := by decide +kernel
theorem dX10_letter_59 : decode cX10_letter 59 = .ok (.iload_n 1, 1) := by decide +kernel
theorem dX10_letter_60 : decode cX10_letter 60 = .ok (.iaload, 1) := by decide +kernel
theorem dX10_letter_61 : decode cX10_letter 61 = .ok (.ireturn, 1) := by decide +kernel
theorem dX10_letter_62 : decode cX10_letter 62 = .ok (.aload_n 3, 1) := by decide +kernel
theorem dX10_letter_63 : decode cX10_letter 63 = .ok (.getfield 143, 3) := by decide +kernel
theorem dX10_letter_66 : decode cX10_letter 66 = .ok (.iload_n 1, 1) := by decide +kernel
theorem dX10_letter_67 : decode cX10_letter 67 = .ok (.iaload, 1) := by decide +kernel
theorem dX10_letter_68 : decode cX10_letter 68 = .ok (.ireturn, 1) := by decide +kernel
theorem dX10_letter_69 : decode cX10_letter 69 = .ok (.aload_n 3, 1) := by decide +kernel
theorem dX10_letter_70 : decode cX10_letter 70 = .ok (.getfield 103, 3) := by decide +kernel
theorem dX10_letter_73 : decode cX10_letter 73 = .ok (.iload_n 1, 1) := by decide +kernel
theorem dX10_letter_74 : decode cX10_letter 74 = .ok (.iaload, 1) := by decide +kernel
theorem dX10_letter_75 : decode cX10_letter 75 = .ok (.ireturn, 1) := by decide +kernel
theorem dX10_letter_76 : decode cX10_letter 76 = .ok (.iconst (-1), 1) := by decide +kernel
theorem dX10_letter_77 : decode cX10_letter 77 = .ok (.ireturn, 1) := by decide +kernel
theorem dX10_ahead_0 : decode cX10_ahead 0 = .ok (.aload_n 0, 1) := by decide +kernel
theorem dX10_ahead_1 : decode cX10_ahead 1 = .ok (.getfield 10, 3) := by decide +kernel
theorem dX10_ahead_4 : decode cX10_ahead 4 = .ok (.iload_n 1, 1) := by decide +kernel
theorem dX10_ahead_5 : decode cX10_ahead 5 = .ok (.iload_n 2, 1) := by decide +kernel
theorem dX10_ahead_6 : decode cX10_ahead 6 = .ok (.invokevirtual 124, 3) := by decide +kernel
theorem dX10_ahead_9 : decode cX10_ahead 9 = .ok (.ifCond .eq 16, 3) := by decide +kernel
theorem dX10_ahead_12 : decode cX10_ahead 12 = .ok (.aload_n 0, 1) := by decide +kernel
theorem dX10_ahead_13 : decode cX10_ahead 13 = .ok (.getfield 10, 3) := by decide +kernel
theorem dX10_ahead_16 : decode cX10_ahead 16 = .ok (.iload_n 3, 1) := by decide +kernel
theorem dX10_ahead_17 : decode cX10_ahead 17 = .ok (.iload 4, 2) := by decide +kernel
theorem dX10_ahead_19 : decode cX10_ahead 19 = .ok (.invokevirtual 124, 3) := by decide +kernel
theorem dX10_ahead_22 : decode cX10_ahead 22 = .ok (.ifCond .ne 5, 3) := by decide +kernel
theorem dX10_ahead_25 : decode cX10_ahead 25 = .ok (.iconst (-1), 1) := by decide +kernel
theorem dX10_ahead_26 : decode cX10_ahead 26 = .ok (.ireturn, 1) := by decide +kernel
theorem dX10_ahead_27 : decode cX10_ahead 27 = .ok (.iload_n 1, 1) := by decide +kernel
theorem dX10_ahead_28 : decode cX10_ahead 28 = .ok (.iload_n 3, 1) := by decide +kernel
theorem dX10_ahead_29 : decode cX10_ahead 29 = .ok (.if_icmp .ne 11, 3) := by decide +kernel
theorem dX10_ahead_32 : decode cX10_ahead 32 = .ok (.iload_n 2, 1) := by decide +kernel
theorem dX10_ahead_33 : decode cX10_ahead 33 = .ok (.iload 4, 2) := by decide +kernel
theorem dX10_ahead_35 : decode cX10_ahead 35 = .ok (.if_icmp .ne 5, 3) := by decide +kernel
theorem dX10_ahead_38 : decode cX10_ahead 38 = .ok (.iconst 0, 1) := by decide +kernel
theorem dX10_ahead_39 : decode cX10_ahead 39 = .ok (.ireturn, 1) := by decide +kernel
theorem dX10_ahead_40 : decode cX10_ahead 40 = .ok (.aload_n 0, 1) := by decide +kernel
theorem dX10_ahead_41 : decode cX10_ahead 41 = .ok (.getfield 10, 3) := by decide +kernel
theorem dX10_ahead_44 : decode cX10_ahead 44 = .ok (.iload_n 3, 1) := by decide +kernel
theorem dX10_ahead_45 : decode cX10_ahead 45 = .ok (.iload 4, 2) := by decide +kernel
theorem dX10_ahead_47 : decode cX10_ahead 47 = .ok (.iload_n 1, 1) := by decide +kernel
theorem dX10_ahead_48 : decode cX10_ahead 48 = .ok (.invokevirtual 146, 3) := by decide +kernel
theorem dX10_ahead_51 : decode cX10_ahead 51 = .ok (.iload_n 2, 1) := by decide +kernel
theorem dX10_ahead_52 : decode cX10_ahead 52 = .ok (.if_icmp .le 5, 3) := by decide +kernel
theorem dX10_ahead_55 : decode cX10_ahead 55 = .ok (.iconst 1, 1) := by decide +kernel
theorem dX10_ahead_56 : decode cX10_ahead 56 = .ok (.ireturn, 1) := by decide +kernel
theorem dX10_ahead_57 : decode cX10_ahead 57 = .ok (.aload_n 0, 1) := by decide +kernel
theorem dX10_ahead_58 : decode cX10_ahead 58 = .ok (.getfield 10, 3) := by decide +kernel
theorem dX10_ahead_61 : decode cX10_ahead 61 = .ok (.iload_n 1, 1) := by decide +kernel
theorem dX10_ahead_62 : decode cX10_ahead 62 = .ok (.iload_n 2, 1) := by decide +kernel
theorem dX10_ahead_63 : decode cX10_ahead 63 = .ok (.iload_n 3, 1) := by decide +kernel
theorem dX10_ahead_64 : decode cX10_ahead 64 = .ok (.invokevirtual 146, 3) := by decide +kernel
theorem dX10_ahead_67 : decode cX10_ahead 67 = .ok (.iload 4, 2) := by decide +kernel
theorem dX10_ahead_69 : decode cX10_ahead 69 = .ok (.if_icmp .le 7, 3) := by decide +kernel
theorem dX10_ahead_72 : decode cX10_ahead 72 = .ok (.iconst 2, 1) := by decide +kernel
theorem dX10_ahead_73 : decode cX10_ahead 73 = .ok (.goto 4, 3) := by decide +kernel
theorem dX10_ahead_76 : decode cX10_ahead 76 = .ok (.iconst 3, 1) := by decide +kernel
theorem dX10_ahead_77 : decode cX10_ahead 77 = .ok (.ireturn, 1) := by decide +kernel
theorem dX10_clock_0 : decode cX10_clock 0 = .ok (.aload_n 0, 1) := by decide +kernel
theorem dX10_clock_1 : decode cX10_clock 1 = .ok (.getfield 10, 3) := by decide +kernel
theorem dX10_clock_4 : decode cX10_clock 4 = .ok (.iload_n 1, 1) := by decide +kernel
theorem dX10_clock_5 : decode cX10_clock 5 = .ok (.iload_n 2, 1) := by decide +kernel
theorem dX10_clock_6 : decode cX10_clock 6 = .ok (.invokevirtual 124, 3) := by decide +kernel
theorem dX10_clock_9 : decode cX10_clock 9 = .ok (.ifCond .eq 14, 3) := by decide +kernel
theorem dX10_clock_12 : decode cX10_clock 12 = .ok (.aload_n 0, 1) := by decide +kernel
theorem dX10_clock_13 : decode cX10_clock 13 = .ok (.getfield 10, 3) := by decide +kernel
theorem dX10_clock_16 : decode cX10_clock 16 = .ok (.iload_n 3, 1) := by decide +kernel
theorem dX10_clock_17 : decode cX10_clock 17 = .ok (.invokevirtual 76, 3) := by decide +kernel
theorem dX10_clock_20 : decode cX10_clock 20 = .ok (.ifCond .ne 5, 3) := by decide +kernel
theorem dX10_clock_23 : decode cX10_clock 23 = .ok (.iconst (-1), 1) := by decide +kernel
theorem dX10_clock_24 : decode cX10_clock 24 = .ok (.ireturn, 1) := by decide +kernel
theorem dX10_clock_25 : decode cX10_clock 25 = .ok (.aload_n 0, 1) := by decide +kernel
theorem dX10_clock_26 : decode cX10_clock 26 = .ok (.getfield 10, 3) := by decide +kernel
theorem dX10_clock_29 : decode cX10_clock 29 = .ok (.iload_n 1, 1) := by decide +kernel
theorem dX10_clock_30 : decode cX10_clock 30 = .ok (.iload_n 2, 1) := by decide +kernel
theorem dX10_clock_31 : decode cX10_clock 31 = .ok (.iload_n 3, 1) := by decide +kernel
theorem dX10_clock_32 : decode cX10_clock 32 = .ok (.invokevirtual 146, 3) := by decide +kernel
theorem dX10_clock_35 : decode cX10_clock 35 = .ok (.ireturn, 1) := by decide +kernel
theorem dX10_possible_0 : decode cX10_possible 0 = .ok (.aload_n 0, 1) := by decide +kernel
theorem dX10_possible_1 : decode cX10_possible 1 = .ok (.getfield 10, 3) := by decide +kernel
theorem dX10_possible_4 : decode cX10_possible 4 = .ok (.iload_n 1, 1) := by decide +kernel
theorem dX10_possible_5 : decode cX10_possible 5 = .ok (.invokevirtual 150, 3) := by decide +kernel
theorem dX10_possible_8 : decode cX10_possible 8 = .ok (.ifCond .ne 5, 3) := by decide +kernel
theorem dX10_possible_11 : decode cX10_possible 11 = .ok (.iconst (-1), 1) := by decide +kernel
theorem dX10_possible_12 : decode cX10_possible 12 = .ok (.ireturn, 1) := by decide +kernel
theorem dX10_possible_13 : decode cX10_possible 13 = .ok (.aload_n 0, 1) := by decide +kernel
theorem dX10_possible_14 : decode cX10_possible 14 = .ok (.invokevirtual 153, 3) := by decide +kernel
theorem dX10_possible_17 : decode cX10_possible 17 = .ok (.getfield 157, 3) := by decide +kernel
theorem dX10_possible_20 : decode cX10_possible 20 = .ok (.iload_n 1, 1) := by decide +kernel
theorem dX10_possible_21 : decode cX10_possible 21 = .ok (.baload, 1) := by decide +kernel
theorem dX10_possible_22 : decode cX10_possible 22 = .ok (.ifCond .eq 7, 3) := by decide +kernel
theorem dX10_possible_25 : decode cX10_possible 25 = .ok (.iconst 1, 1) := by decide +kernel
theorem dX10_possible_26 : decode cX10_possible 26 = .ok (.goto 4, 3) := by decide +kernel
theorem dX10_possible_29 : decode cX10_possible 29 = .ok (.iconst 0, 1) := by decide +kernel
theorem dX10_possible_30 : decode cX10_possible 30 = .ok (.ireturn, 1) := by decide +kernel
theorem dX10_cuts_0 : decode cX10_cuts 0 = .ok (.iload_n 1, 1) := by decide +kernel
theorem dX10_cuts_1 : decode cX10_cuts 1 = .ok (.iconst (-1), 1) := by decide +kernel
theorem dX10_cuts_2 : decode cX10_cuts 2 = .ok (.if_icmp .ge 6, 3) := by decide +kernel
theorem dX10_cuts_5 : decode cX10_cuts 5 = .ok (.bipush (-2), 2) := by decide +kernel
theorem dX10_cuts_7 : decode cX10_cuts 7 = .ok (.ireturn, 1) := by decide +kernel
theorem dX10_cuts_8 : decode cX10_cuts 8 = .ok (.aload_n 0, 1) := by decide +kernel
theorem dX10_cuts_9 : decode cX10_cuts 9 = .ok (.invokevirtual 153, 3) := by decide +kernel
theorem dX10_cuts_12 : decode cX10_cuts 12 = .ok (.astore_n 2, 1) := by decide +kernel
theorem dX10_cuts_13 : decode cX10_cuts 13 = .ok (.iload_n 1, 1) := by decide +kernel
theorem dX10_cuts_14 : decode cX10_cuts 14 = .ok (.iconst (-1), 1) := by decide +kernel
theorem dX10_cuts_15 : decode cX10_cuts 15 = .ok (.if_icmp .ne 10, 3) := by decide +kernel
theorem dX10_cuts_18 : decode cX10_cuts 18 = .ok (.aload_n 2, 1) := by decide +kernel
theorem dX10_cuts_19 : decode cX10_cuts 19 = .ok (.getfield 161, 3) := by decide +kernel
theorem dX10_cuts_22 : decode cX10_cuts 22 = .ok (.goto 8, 3) := by decide +kernel
theorem dX10_cuts_25 : decode cX10_cuts 25 = .ok (.aload_n 2, 1) := by decide +kernel
theorem dX10_cuts_26 : decode cX10_cuts 26 = .ok (.iload_n 1, 1) := by decide +kernel
theorem dX10_cuts_27 : decode cX10_cuts 27 = .ok (.invokevirtual 162, 3) := by decide +kernel
theorem dX10_cuts_30 : decode cX10_cuts 30 = .ok (.ireturn, 1) := by decide +kernel
theorem dX10_next_0 : decode cX10_next 0 = .ok (.iload_n 1, 1) := by decide +kernel
theorem dX10_next_1 : decode cX10_next 1 = .ok (.iconst (-1), 1) := by decide +kernel
theorem dX10_next_2 : decode cX10_next 2 = .ok (.if_icmp .eq 16, 3) := by decide +kernel
theorem dX10_next_5 : decode cX10_next 5 = .ok (.aload_n 0, 1) := by decide +kernel
theorem dX10_next_6 : decode cX10_next 6 = .ok (.getfield 10, 3) := by decide +kernel
theorem dX10_next_9 : decode cX10_next 9 = .ok (.iload_n 1, 1) := by decide +kernel
theorem dX10_next_10 : decode cX10_next 10 = .ok (.invokevirtual 150, 3) := by decide +kernel
theorem dX10_next_13 : decode cX10_next 13 = .ok (.ifCond .ne 5, 3) := by decide +kernel
theorem dX10_next_16 : decode cX10_next 16 = .ok (.iconst (-1), 1) := by decide +kernel
theorem dX10_next_17 : decode cX10_next 17 = .ok (.ireturn, 1) := by decide +kernel
theorem dX10_next_18 : decode cX10_next 18 = .ok (.iload_n 1, 1) := by decide +kernel
theorem dX10_next_19 : decode cX10_next 19 = .ok (.iconst (-1), 1) := by decide +kernel
theorem dX10_next_20 : decode cX10_next 20 = .ok (.if_icmp .ne 15, 3) := by decide +kernel
theorem dX10_next_23 : decode cX10_next 23 = .ok (.aload_n 0, 1) := by decide +kernel
theorem dX10_next_24 : decode cX10_next 24 = .ok (.invokevirtual 153, 3) := by decide +kernel
theorem dX10_next_27 : decode cX10_next 27 = .ok (.getfield 165, 3) := by decide +kernel
theorem dX10_next_30 : decode cX10_next 30 = .ok (.iconst 0, 1) := by decide +kernel
theorem dX10_next_31 : decode cX10_next 31 = .ok (.iaload, 1) := by decide +kernel
theorem dX10_next_32 : decode cX10_next 32 = .ok (.goto 11, 3) := by decide +kernel
theorem dX10_next_35 : decode cX10_next 35 = .ok (.aload_n 0, 1) := by decide +kernel
theorem dX10_next_36 : decode cX10_next 36 = .ok (.invokevirtual 153, 3) := by decide +kernel
theorem dX10_next_39 : decode cX10_next 39 = .ok (.iload_n 1, 1) := by decide +kernel
theorem dX10_next_40 : decode cX10_next 40 = .ok (.invokevirtual 168, 3) := by decide +kernel
theorem dX10_next_43 : decode cX10_next 43 = .ok (.ireturn, 1) := by decide +kernel
theorem dX10_join_0 : decode cX10_join 0 = .ok (.aload_n 0, 1) := by decide +kernel
theorem dX10_join_1 : decode cX10_join 1 = .ok (.getfield 10, 3) := by decide +kernel
theorem dX10_join_4 : decode cX10_join 4 = .ok (.iload_n 1, 1) := by decide +kernel
theorem dX10_join_5 : decode cX10_join 5 = .ok (.invokevirtual 150, 3) := by decide +kernel
theorem dX10_join_8 : decode cX10_join 8 = .ok (.ifCond .eq 14, 3) := by decide +kernel
theorem dX10_join_11 : decode cX10_join 11 = .ok (.aload_n 0, 1) := by decide +kernel
theorem dX10_join_12 : decode cX10_join 12 = .ok (.getfield 10, 3) := by decide +kernel
theorem dX10_join_15 : decode cX10_join 15 = .ok (.iload_n 2, 1) := by decide +kernel
theorem dX10_join_16 : decode cX10_join 16 = .ok (.invokevirtual 150, 3) := by decide +kernel
theorem dX10_join_19 : decode cX10_join 19 = .ok (.ifCond .ne 5, 3) := by decide +kernel
theorem dX10_join_22 : decode cX10_join 22 = .ok (.iconst (-1), 1) := by decide +kernel
theorem dX10_join_23 : decode cX10_join 23 = .ok (.ireturn, 1) := by decide +kernel
theorem dX10_join_24 : decode cX10_join 24 = .ok (.iload_n 3, 1) := by decide +kernel
theorem dX10_join_25 : decode cX10_join 25 = .ok (.ifCond .eq 11, 3) := by decide +kernel
theorem dX10_join_28 : decode cX10_join 28 = .ok (.iload_n 3, 1) := by decide +kernel
theorem dX10_join_29 : decode cX10_join 29 = .ok (.iconst 1, 1) := by decide +kernel
theorem dX10_join_30 : decode cX10_join 30 = .ok (.if_icmp .eq 6, 3) := by decide +kernel
theorem dX10_join_33 : decode cX10_join 33 = .ok (.bipush (-2), 2) := by decide +kernel
theorem dX10_join_35 : decode cX10_join 35 = .ok (.ireturn, 1) := by decide +kernel
theorem dX10_join_36 : decode cX10_join 36 = .ok (.iload_n 1, 1) := by decide +kernel
theorem dX10_join_37 : decode cX10_join 37 = .ok (.iload_n 2, 1) := by decide +kernel
theorem dX10_join_38 : decode cX10_join 38 = .ok (.iload_n 3, 1) := by decide +kernel
theorem dX10_join_39 : decode cX10_join 39 = .ok (.iconst 1, 1) := by decide +kernel
theorem dX10_join_40 : decode cX10_join 40 = .ok (.if_icmp .ne 7, 3) := by decide +kernel
theorem dX10_join_43 : decode cX10_join 43 = .ok (.iconst 1, 1) := by decide +kernel
theorem dX10_join_44 : decode cX10_join 44 = .ok (.goto 4, 3) := by decide +kernel
theorem dX10_join_47 : decode cX10_join 47 = .ok (.iconst 0, 1) := by decide +kernel
theorem dX10_join_48 : decode cX10_join 48 = .ok (.invokestatic 171, 3) := by decide +kernel
theorem dX10_join_51 : decode cX10_join 51 = .ok (.ireturn, 1) := by decide +kernel
theorem dX10_least_0 : decode cX10_least 0 = .ok (.aload_n 0, 1) := by decide +kernel
theorem dX10_least_1 : decode cX10_least 1 = .ok (.getfield 10, 3) := by decide +kernel
theorem dX10_least_4 : decode cX10_least 4 = .ok (.iload_n 1, 1) := by decide +kernel
theorem dX10_least_5 : decode cX10_least 5 = .ok (.invokevirtual 76, 3) := by decide +kernel
theorem dX10_least_8 : decode cX10_least 8 = .ok (.ifCond .eq 20, 3) := by decide +kernel
theorem dX10_least_11 : decode cX10_least 11 = .ok (.iload_n 2, 1) := by decide +kernel
theorem dX10_least_12 : decode cX10_least 12 = .ok (.ifCond .lt 16, 3) := by decide +kernel
theorem dX10_least_15 : decode cX10_least 15 = .ok (.iload_n 2, 1) := by decide +kernel
theorem dX10_least_16 : decode cX10_least 16 = .ok (.aload_n 0, 1) := by decide +kernel
theorem dX10_least_17 : decode cX10_least 17 = .ok (.getfield 10, 3) := by decide +kernel
theorem dX10_least_20 : decode cX10_least 20 = .ok (.getfield 175, 3) := by decide +kernel
theorem dX10_least_23 : decode cX10_least 23 = .ok (.iload_n 1, 1) := by decide +kernel
theorem dX10_least_24 : decode cX10_least 24 = .ok (.iaload, 1) := by decide +kernel
theorem dX10_least_25 : decode cX10_least 25 = .ok (.if_icmp .le 5, 3) := by decide +kernel
theorem dX10_least_28 : decode cX10_least 28 = .ok (.iconst (-1), 1) := by decide +kernel
theorem dX10_least_29 : decode cX10_least 29 = .ok (.ireturn, 1) := by decide +kernel
theorem dX10_least_30 : decode cX10_least 30 = .ok (.iload_n 2, 1) := by decide +kernel
theorem dX10_least_31 : decode cX10_least 31 = .ok (.ifCond .ne 7, 3) := by decide +kernel
theorem dX10_least_34 : decode cX10_least 34 = .ok (.iconst 0, 1) := by decide +kernel
theorem dX10_least_35 : decode cX10_least 35 = .ok (.goto 14, 3) := by decide +kernel
theorem dX10_least_38 : decode cX10_least 38 = .ok (.aload_n 0, 1) := by decide +kernel
theorem dX10_least_39 : decode cX10_least 39 = .ok (.getfield 10, 3) := by decide +kernel
theorem dX10_least_42 : decode cX10_least 42 = .ok (.iload_n 1, 1) := by decide +kernel
theorem dX10_least_43 : decode cX10_least 43 = .ok (.iload_n 2, 1) := by decide +kernel
theorem dX10_least_44 : decode cX10_least 44 = .ok (.iconst 1, 1) := by decide +kernel
theorem dX10_least_45 : decode cX10_least 45 = .ok (.isub, 1) := by decide +kernel
theorem dX10_least_46 : decode cX10_least 46 = .ok (.invokevirtual 178, 3) := by decide +kernel
theorem dX10_least_49 : decode cX10_least 49 = .ok (.ireturn, 1) := by decide +kernel
theorem dX10_orders_0 : decode cX10_orders 0 = .ok (.aload_n 0, 1) := by decide +kernel
theorem dX10_orders_1 : decode cX10_orders 1 = .ok (.invokevirtual 153, 3) := by decide +kernel
theorem dX10_orders_4 : decode cX10_orders 4 = .ok (.astore_n 1, 1) := by decide +kernel
theorem dX10_orders_5 : decode cX10_orders 5 = .ok (.aload_n 0, 1) := by decide +kernel
theorem dX10_orders_6 : decode cX10_orders 6 = .ok (.getfield 51, 3) := by decide +kernel
theorem dX10_orders_9 : decode cX10_orders 9 = .ok (.aload_n 1, 1) := by decide +kernel
theorem dX10_orders_10 : decode cX10_orders 10 = .ok (.invokevirtual 181, 3) := by decide +kernel
theorem dX10_orders_13 : decode cX10_orders 13 = .ok (.aload_n 0, 1) := by decide +kernel
theorem dX10_orders_14 : decode cX10_orders 14 = .ok (.getfield 58, 3) := by decide +kernel
theorem dX10_orders_17 : decode cX10_orders 17 = .ok (.aload_n 1, 1) := by decide +kernel
theorem dX10_orders_18 : decode cX10_orders 18 = .ok (.aload_n 0, 1) := by decide +kernel
theorem dX10_orders_19 : decode cX10_orders 19 = .ok (.getfield 51, 3) := by decide +kernel
theorem dX10_orders_22 : decode cX10_orders 22 = .ok (.getfield 185, 3) := by decide +kernel
theorem dX10_orders_25 : decode cX10_orders 25 = .ok (.invokevirtual 188, 3) := by decide +kernel
theorem dX10_orders_28 : decode cX10_orders 28 = .ok (.lreturn, 1) := by decide +kernel
theorem dX10_order_0 : decode cX10_order 0 = .ok (.lload_n 1, 1) := by decide +kernel
theorem dX10_order_1 : decode cX10_order 1 = .ok (.lconst 0, 1) := by decide +kernel
theorem dX10_order_2 : decode cX10_order 2 = .ok (.lcmp, 1) := by decide +kernel
theorem dX10_order_3 : decode cX10_order 3 = .ok (.ifCond .lt 27, 3) := by decide +kernel
theorem dX10_order_6 : decode cX10_order 6 = .ok (.iload_n 3, 1) := by decide +kernel
theorem dX10_order_7 : decode cX10_order 7 = .ok (.ifCond .lt 23, 3) := by decide +kernel
theorem dX10_order_10 : decode cX10_order 10 = .ok (.iload_n 3, 1) := by decide +kernel
theorem dX10_order_11 : decode cX10_order 11 = .ok (.aload_n 0, 1) := by decide +kernel
theorem dX10_order_12 : decode cX10_order 12 = .ok (.getfield 10, 3) := by decide +kernel
theorem dX10_order_15 : decode cX10_order 15 = .ok (.getfield 117, 3) := by decide +kernel
theorem dX10_order_18 : decode cX10_order 18 = .ok (.if_icmp .ge 12, 3) := by decide +kernel
theorem dX10_order_21 : decode cX10_order 21 = .ok (.lload_n 1, 1) := by decide +kernel
theorem dX10_order_22 : decode cX10_order 22 = .ok (.aload_n 0, 1) := by decide +kernel
theorem dX10_order_23 : decode cX10_order 23 = .ok (.invokevirtual 192, 3) := by decide +kernel
theorem dX10_order_26 : decode cX10_order 26 = .ok (.lcmp, 1) := by decide +kernel
theorem dX10_order_27 : decode cX10_order 27 = .ok (.ifCond .lt 5, 3) := by decide +kernel
theorem dX10_order_30 : decode cX10_order 30 = .ok (.iconst (-1), 1) := by decide +kernel
theorem dX10_order_31 : decode cX10_order 31 = .ok (.ireturn, 1) := by decide +kernel
theorem dX10_order_32 : decode cX10_order 32 = .ok (.aload_n 0, 1) := by decide +kernel
theorem dX10_order_33 : decode cX10_order 33 = .ok (.getfield 58, 3) := by decide +kernel
theorem dX10_order_36 : decode cX10_order 36 = .ok (.aload_n 0, 1) := by decide +kernel
theorem dX10_order_37 : decode cX10_order 37 = .ok (.invokevirtual 153, 3) := by decide +kernel
theorem dX10_order_40 : decode cX10_order 40 = .ok (.lload_n 1, 1) := by decide +kernel
theorem dX10_order_41 : decode cX10_order 41 = .ok (.iload_n 3, 1) := by decide +kernel
theorem dX10_order_42 : decode cX10_order 42 = .ok (.invokevirtual 196, 3) := by decide +kernel
theorem dX10_order_45 : decode cX10_order 45 = .ok (.ireturn, 1) := by decide +kernel
theorem dX10_number_0 : decode cX10_number 0 = .ok (.aload_n 0, 1) := by decide +kernel
theorem dX10_number_1 : decode cX10_number 1 = .ok (.getfield 28, 3) := by decide +kernel
theorem dX10_number_4 : decode cX10_number 4 = .ok (.getfield 200, 3) := by decide +kernel
theorem dX10_number_7 : decode cX10_number 7 = .ok (.bipush 6, 2) := by decide +kernel
theorem dX10_number_9 : decode cX10_number 9 = .ok (.if_icmp .lt 8, 3) := by decide +kernel
theorem dX10_number_12 : decode cX10_number 12 = .ok (.bipush (-4), 2) := by decide +kernel
theorem dX10_number_14 : decode cX10_number 14 = .ok (.goto 14, 3) := by decide +kernel
theorem dX10_number_17 : decode cX10_number 17 = .ok (.aload_n 0, 1) := by decide +kernel
theorem dX10_number_18 : decode cX10_number 18 = .ok (.getfield 28, 3) := by decide +kernel
theorem dX10_number_21 : decode cX10_number 21 = .ok (.bipush 11, 2) := by decide +kernel
theorem dX10_number_23 : decode cX10_number 23 = .ok (.iload_n 1, 1) := by decide +kernel
theorem dX10_number_24 : decode cX10_number 24 = .ok (.iconst 0, 1) := by decide +kernel
theorem dX10_number_25 : decode cX10_number 25 = .ok (.invokevirtual 203, 3) := by decide +kernel
theorem dX10_number_28 : decode cX10_number 28 = .ok (.ireturn, 1) := by decide +kernel
theorem dX10_part_0 : decode cX10_part 0 = .ok (.iload_n 1, 1) := by decide +kernel
theorem dX10_part_1 : decode cX10_part 1 = .ok (.ifCond .lt 31, 3) := by decide +kernel
theorem dX10_part_4 : decode cX10_part 4 = .ok (.iload_n 1, 1) := by decide +kernel
theorem dX10_part_5 : decode cX10_part 5 = .ok (.iconst 2, 1) := by decide +kernel
theorem dX10_part_6 : decode cX10_part 6 = .ok (.if_icmp .gt 26, 3) := by decide +kernel
theorem dX10_part_9 : decode cX10_part 9 = .ok (.iload_n 2, 1) := by decide +kernel
theorem dX10_part_10 : decode cX10_part 10 = .ok (.invokestatic 206, 3) := by decide +kernel
theorem dX10_part_13 : decode cX10_part 13 = .ok (.ifCond .eq 19, 3) := by decide +kernel
theorem dX10_part_16 : decode cX10_part 16 = .ok (.iload_n 3, 1) := by decide +kernel
theorem dX10_part_17 : decode cX10_part 17 = .ok (.invokestatic 206, 3) := by decide +kernel
theorem dX10_part_20 : decode cX10_part 20 = .ok (.ifCond .eq 12, 3) := by decide +kernel
theorem dX10_part_23 : decode cX10_part 23 = .ok (.iload_n 1, 1) := by decide +kernel
theorem dX10_part_24 : decode cX10_part 24 = .ok (.ifCond .ne 10, 3) := by decide +kernel
theorem dX10_part_27 : decode cX10_part 27 = .ok (.iload_n 3, 1) := by decide +kernel
theorem dX10_part_28 : decode cX10_part 28 = .ok (.iconst 3, 1) := by decide +kernel
theorem dX10_part_29 : decode cX10_part 29 = .ok (.if_icmp .lt 5, 3) := by decide +kernel
theorem dX10_part_32 : decode cX10_part 32 = .ok (.iconst (-1), 1) := by decide +kernel
theorem dX10_part_33 : decode cX10_part 33 = .ok (.ireturn, 1) := by decide +kernel
theorem dX10_part_34 : decode cX10_part 34 = .ok (.iload_n 1, 1) := by decide +kernel
theorem dX10_part_35 : decode cX10_part 35 = .ok (.iconst 1, 1) := by decide +kernel
theorem dX10_part_36 : decode cX10_part 36 = .ok (.if_icmp .ne 8, 3) := by decide +kernel
theorem dX10_part_39 : decode cX10_part 39 = .ok (.iload_n 2, 1) := by decide +kernel
theorem dX10_part_40 : decode cX10_part 40 = .ok (.iload_n 3, 1) := by decide +kernel
theorem dX10_part_41 : decode cX10_part 41 = .ok (.if_icmp .eq 12, 3) := by decide +kernel
theorem dX10_part_44 : decode cX10_part 44 = .ok (.iload_n 1, 1) := by decide +kernel
theorem dX10_part_45 : decode cX10_part 45 = .ok (.iconst 2, 1) := by decide +kernel
theorem dX10_part_46 : decode cX10_part 46 = .ok (.if_icmp .ne 10, 3) := by decide +kernel
theorem dX10_part_49 : decode cX10_part 49 = .ok (.iload_n 3, 1) := by decide +kernel
theorem dX10_part_50 : decode cX10_part 50 = .ok (.ifCond .eq 6, 3) := by decide +kernel
theorem dX10_part_53 : decode cX10_part 53 = .ok (.bipush (-2), 2) := by decide +kernel
theorem dX10_part_55 : decode cX10_part 55 = .ok (.ireturn, 1) := by decide +kernel
theorem dX10_part_56 : decode cX10_part 56 = .ok (.aload_n 0, 1) := by decide +kernel
theorem dX10_part_57 : decode cX10_part 57 = .ok (.getfield 28, 3) := by decide +kernel
theorem dX10_part_60 : decode cX10_part 60 = .ok (.getfield 200, 3) := by decide +kernel
theorem dX10_part_63 : decode cX10_part 63 = .ok (.bipush 6, 2) := by decide +kernel
theorem dX10_part_65 : decode cX10_part 65 = .ok (.if_icmp .lt 8, 3) := by decide +kernel
theorem dX10_part_68 : decode cX10_part 68 = .ok (.bipush (-4), 2) := by decide +kernel
theorem dX10_part_70 : decode cX10_part 70 = .ok (.goto 16, 3) := by decide +kernel
theorem dX10_part_73 : decode cX10_part 73 = .ok (.aload_n 0, 1) := by decide +kernel
theorem dX10_part_74 : decode cX10_part 74 = .ok (.getfield 28, 3) := by decide +kernel
theorem dX10_part_77 : decode cX10_part 77 = .ok (.bipush 8, 2) := by decide +kernel
theorem dX10_part_79 : decode cX10_part 79 = .ok (.iload_n 1, 1) := by decide +kernel
theorem dX10_part_80 : decode cX10_part 80 = .ok (.iadd, 1) := by decide +kernel
theorem dX10_part_81 : decode cX10_part 81 = .ok (.iload_n 2, 1) := by decide +kernel
theorem dX10_part_82 : decode cX10_part 82 = .ok (.iload_n 3, 1) := by decide +kernel
theorem dX10_part_83 : decode cX10_part 83 = .ok (.invokevirtual 203, 3) := by decide +kernel
theorem dX10_part_86 : decode cX10_part 86 = .ok (.ireturn, 1) := by decide +kernel
theorem dX10_mayBeProcess_0 : decode cX10_mayBeProcess 0 = .ok (.iload_n 0, 1) := by decide +kernel
theorem dX10_mayBeProcess_1 : decode cX10_mayBeProcess 1 = .ok (.ifCond .lt 12, 3) := by decide +kernel
theorem dX10_mayBeProcess_4 : decode cX10_mayBeProcess 4 = .ok (.iload_n 0, 1) := by decide +kernel
theorem dX10_mayBeProcess_5 : decode cX10_mayBeProcess 5 = .ok (.iconst 4, 1) := by decide +kernel
theorem dX10_mayBeProcess_6 : decode cX10_mayBeProcess 6 = .ok (.if_icmp .ge 7, 3) := by decide +kernel
theorem dX10_mayBeProcess_9 : decode cX10_mayBeProcess 9 = .ok (.iconst 1, 1) := by decide +kernel
theorem dX10_mayBeProcess_10 : decode cX10_mayBeProcess 10 = .ok (.goto 4, 3) := by decide +kernel
theorem dX10_mayBeProcess_13 : decode cX10_mayBeProcess 13 = .ok (.iconst 0, 1) := by decide +kernel
theorem dX10_mayBeProcess_14 : decode cX10_mayBeProcess 14 = .ok (.ireturn, 1) := by decide +kernel
theorem dX10_op_0 : decode cX10_op 0 = .ok (.iload_n 1, 1) := by decide +kernel
theorem dX10_op_1 : decode cX10_op 1 = .ok (.ifCond .lt 9, 3) := by decide +kernel
theorem dX10_op_4 : decode cX10_op 4 = .ok (.iload_n 1, 1) := by decide +kernel
theorem dX10_op_5 : decode cX10_op 5 = .ok (.bipush 7, 2) := by decide +kernel
theorem dX10_op_7 : decode cX10_op 7 = .ok (.if_icmp .le 5, 3) := by decide +kernel
theorem dX10_op_10 : decode cX10_op 10 = .ok (.iconst (-1), 1) := by decide +kernel
theorem dX10_op_11 : decode cX10_op 11 = .ok (.ireturn, 1) := by decide +kernel
theorem dX10_op_12 : decode cX10_op 12 = .ok (.aload_n 0, 1) := by decide +kernel
theorem dX10_op_13 : decode cX10_op 13 = .ok (.getfield 28, 3) := by decide +kernel
theorem dX10_op_16 : decode cX10_op 16 = .ok (.getfield 200, 3) := by decide +kernel
theorem dX10_op_19 : decode cX10_op 19 = .ok (.iload_n 1, 1) := by decide +kernel
theorem dX10_op_20 : decode cX10_op 20 = .ok (.invokestatic 209, 3) := by decide +kernel
theorem dX10_op_23 : decode cX10_op 23 = .ok (.if_icmp .ge 6, 3) := by decide +kernel
theorem dX10_op_26 : decode cX10_op 26 = .ok (.bipush (-3), 2) := by decide +kernel
theorem dX10_op_28 : decode cX10_op 28 = .ok (.ireturn, 1) := by decide +kernel
theorem dX10_op_29 : decode cX10_op 29 = .ok (.aload_n 0, 1) := by decide +kernel
theorem dX10_op_30 : decode cX10_op 30 = .ok (.getfield 28, 3) := by decide +kernel
theorem dX10_op_33 : decode cX10_op 33 = .ok (.iload_n 1, 1) := by decide +kernel
theorem dX10_op_34 : decode cX10_op 34 = .ok (.invokevirtual 214, 3) := by decide +kernel
theorem dX10_op_37 : decode cX10_op 37 = .ok (.bipush 15, 2) := by decide +kernel
theorem dX10_op_39 : decode cX10_op 39 = .ok (.if_icmp .le 8, 3) := by decide +kernel
theorem dX10_op_42 : decode cX10_op 42 = .ok (.bipush (-4), 2) := by decide +kernel
theorem dX10_op_44 : decode cX10_op 44 = .ok (.goto 11, 3) := by decide +kernel
theorem dX10_op_47 : decode cX10_op 47 = .ok (.aload_n 0, 1) := by decide +kernel
theorem dX10_op_48 : decode cX10_op 48 = .ok (.getfield 28, 3) := by decide +kernel
theorem dX10_op_51 : decode cX10_op 51 = .ok (.iload_n 1, 1) := by decide +kernel
theorem dX10_op_52 : decode cX10_op 52 = .ok (.invokevirtual 217, 3) := by decide +kernel
theorem dX10_op_55 : decode cX10_op 55 = .ok (.ireturn, 1) := by decide +kernel
theorem dX10_condition_0 : decode cX10_condition 0 = .ok (.aload_n 0, 1) := by decide +kernel
theorem dX10_condition_1 : decode cX10_condition 1 = .ok (.getfield 28, 3) := by decide +kernel
theorem dX10_condition_4 : decode cX10_condition 4 = .ok (.getfield 200, 3) := by decide +kernel
theorem dX10_condition_7 : decode cX10_condition 7 = .ok (.iconst 1, 1) := by decide +kernel
theorem dX10_condition_8 : decode cX10_condition 8 = .ok (.if_icmp .eq 6, 3) := by decide +kernel
theorem dX10_condition_11 : decode cX10_condition 11 = .ok (.bipush (-3), 2) := by decide +kernel
theorem dX10_condition_13 : decode cX10_condition 13 = .ok (.ireturn, 1) := by decide +kernel
theorem dX10_condition_14 : decode cX10_condition 14 = .ok (.aload_n 0, 1) := by decide +kernel
theorem dX10_condition_15 : decode cX10_condition 15 = .ok (.getfield 35, 3) := by decide +kernel
theorem dX10_condition_18 : decode cX10_condition 18 = .ok (.getfield 220, 3) := by decide +kernel
theorem dX10_condition_21 : decode cX10_condition 21 = .ok (.bipush 8, 2) := by decide +kernel
theorem dX10_condition_23 : decode cX10_condition 23 = .ok (.if_icmp .lt 6, 3) := by decide +kernel
theorem dX10_condition_26 : decode cX10_condition 26 = .ok (.bipush (-4), 2) := by decide +kernel
theorem dX10_condition_28 : decode cX10_condition 28 = .ok (.ireturn, 1) := by decide +kernel
theorem dX10_condition_29 : decode cX10_condition 29 = .ok (.aload_n 0, 1) := by decide +kernel
theorem dX10_condition_30 : decode cX10_condition 30 = .ok (.getfield 28, 3) := by decide +kernel
theorem dX10_condition_33 : decode cX10_condition 33 = .ok (.iconst 0, 1) := by decide +kernel
theorem dX10_condition_34 : decode cX10_condition 34 = .ok (.putfield 200, 3) := by decide +kernel
theorem dX10_condition_37 : decode cX10_condition 37 = .ok (.aload_n 0, 1) := by decide +kernel
theorem dX10_condition_38 : decode cX10_condition 38 = .ok (.getfield 35, 3) := by decide +kernel
theorem dX10_condition_41 : decode cX10_condition 41 = .ok (.aload_n 0, 1) := by decide +kernel
theorem dX10_condition_42 : decode cX10_condition 42 = .ok (.getfield 28, 3) := by decide +kernel
theorem dX10_condition_45 : decode cX10_condition 45 = .ok (.getfield 221, 3) := by decide +kernel
theorem dX10_condition_48 : decode cX10_condition 48 = .ok (.iconst 0, 1) := by decide +kernel
theorem dX10_condition_49 : decode cX10_condition 49 = .ok (.aaload, 1) := by decide +kernel
theorem dX10_condition_50 : decode cX10_condition 50 = .ok (.invokevirtual 225, 3) := by decide +kernel
theorem dX10_condition_53 : decode cX10_condition 53 = .ok (.ireturn, 1) := by decide +kernel
theorem dX10_clear_0 : decode cX10_clear 0 = .ok (.iload_n 1, 1) := by decide +kernel
theorem dX10_clear_1 : decode cX10_clear 1 = .ok (.ifCond .eq 11, 3) := by decide +kernel
theorem dX10_clear_4 : decode cX10_clear 4 = .ok (.iload_n 1, 1) := by decide +kernel
theorem dX10_clear_5 : decode cX10_clear 5 = .ok (.iconst 1, 1) := by decide +kernel
theorem dX10_clear_6 : decode cX10_clear 6 = .ok (.if_icmp .eq 6, 3) := by decide +kernel
theorem dX10_clear_9 : decode cX10_clear 9 = .ok (.bipush (-2), 2) := by decide +kernel
theorem dX10_clear_11 : decode cX10_clear 11 = .ok (.ireturn, 1) := by decide +kernel
theorem dX10_clear_12 : decode cX10_clear 12 = .ok (.aload_n 0, 1) := by decide +kernel
theorem dX10_clear_13 : decode cX10_clear 13 = .ok (.getfield 28, 3) := by decide +kernel
theorem dX10_clear_16 : decode cX10_clear 16 = .ok (.getfield 200, 3) := by decide +kernel
theorem dX10_clear_19 : decode cX10_clear 19 = .ok (.iload_n 1, 1) := by decide +kernel
theorem dX10_clear_20 : decode cX10_clear 20 = .ok (.iconst 1, 1) := by decide +kernel
theorem dX10_clear_21 : decode cX10_clear 21 = .ok (.if_icmp .ne 13, 3) := by decide +kernel
theorem dX10_clear_24 : decode cX10_clear 24 = .ok (.aload_n 0, 1) := by decide +kernel
theorem dX10_clear_25 : decode cX10_clear 25 = .ok (.getfield 35, 3) := by decide +kernel
theorem dX10_clear_28 : decode cX10_clear 28 = .ok (.getfield 220, 3) := by decide +kernel
theorem dX10_clear_31 : decode cX10_clear 31 = .ok (.goto 4, 3) := by decide +kernel
theorem dX10_clear_34 : decode cX10_clear 34 = .ok (.iconst 0, 1) := by decide +kernel
theorem dX10_clear_35 : decode cX10_clear 35 = .ok (.iadd, 1) := by decide +kernel
theorem dX10_clear_36 : decode cX10_clear 36 = .ok (.istore_n 2, 1) := by decide +kernel
theorem dX10_clear_37 : decode cX10_clear 37 = .ok (.aload_n 0, 1) := by decide +kernel
theorem dX10_clear_38 : decode cX10_clear 38 = .ok (.getfield 28, 3) := by decide +kernel
theorem dX10_clear_41 : decode cX10_clear 41 = .ok (.iconst 0, 1) := by decide +kernel
theorem dX10_clear_42 : decode cX10_clear 42 = .ok (.putfield 200, 3) := by decide +kernel
theorem dX10_clear_45 : decode cX10_clear 45 = .ok (.iload_n 1, 1) := by decide +kernel
theorem dX10_clear_46 : decode cX10_clear 46 = .ok (.iconst 1, 1) := by decide +kernel
theorem dX10_clear_47 : decode cX10_clear 47 = .ok (.if_icmp .ne 11, 3) := by decide +kernel
theorem dX10_clear_50 : decode cX10_clear 50 = .ok (.aload_n 0, 1) := by decide +kernel
theorem dX10_clear_51 : decode cX10_clear 51 = .ok (.getfield 35, 3) := by decide +kernel
theorem dX10_clear_54 : decode cX10_clear 54 = .ok (.iconst 0, 1) := by decide +kernel
theorem dX10_clear_55 : decode cX10_clear 55 = .ok (.putfield 220, 3) := by decide +kernel
theorem dX10_clear_58 : decode cX10_clear 58 = .ok (.iload_n 2, 1) := by decide +kernel
theorem dX10_clear_59 : decode cX10_clear 59 = .ok (.ireturn, 1) := by decide +kernel
theorem dX10_value_0 : decode cX10_value 0 = .ok (.aload_n 0, 1) := by decide +kernel
theorem dX10_value_1 : decode cX10_value 1 = .ok (.getfield 35, 3) := by decide +kernel
theorem dX10_value_4 : decode cX10_value 4 = .ok (.iload_n 1, 1) := by decide +kernel
theorem dX10_value_5 : decode cX10_value 5 = .ok (.invokevirtual 229, 3) := by decide +kernel
theorem dX10_value_8 : decode cX10_value 8 = .ok (.ifCond .eq 14, 3) := by decide +kernel
theorem dX10_value_11 : decode cX10_value 11 = .ok (.aload_n 0, 1) := by decide +kernel
theorem dX10_value_12 : decode cX10_value 12 = .ok (.getfield 10, 3) := by decide +kernel
theorem dX10_value_15 : decode cX10_value 15 = .ok (.iload_n 2, 1) := by decide +kernel
theorem dX10_value_16 : decode cX10_value 16 = .ok (.invokevirtual 150, 3) := by decide +kernel
theorem dX10_value_19 : decode cX10_value 19 = .ok (.ifCond .ne 10, 3) := by decide +kernel
theorem dX10_value_22 : decode cX10_value 22 = .ok (.aload_n 0, 1) := by decide +kernel
theorem dX10_value_23 : decode cX10_value 23 = .ok (.iconst (-1), 1) := by decide +kernel
theorem dX10_value_24 : decode cX10_value 24 = .ok (.putfield 69, 3) := by decide +kernel
theorem dX10_value_27 : decode cX10_value 27 = .ok (.iconst 0, 1) := by decide +kernel
theorem dX10_value_28 : decode cX10_value 28 = .ok (.ireturn, 1) := by decide +kernel
theorem dX10_value_29 : decode cX10_value 29 = .ok (.aload_n 0, 1) := by decide +kernel
theorem dX10_value_30 : decode cX10_value 30 = .ok (.iconst 0, 1) := by decide +kernel
theorem dX10_value_31 : decode cX10_value 31 = .ok (.putfield 69, 3) := by decide +kernel
theorem dX10_value_34 : decode cX10_value 34 = .ok (.aload_n 0, 1) := by decide +kernel
theorem dX10_value_35 : decode cX10_value 35 = .ok (.getfield 42, 3) := by decide +kernel
theorem dX10_value_38 : decode cX10_value 38 = .ok (.aload_n 0, 1) := by decide +kernel
theorem dX10_value_39 : decode cX10_value 39 = .ok (.getfield 35, 3) := by decide +kernel
theorem dX10_value_42 : decode cX10_value 42 = .ok (.getfield 230, 3) := by decide +kernel
theorem dX10_value_45 : decode cX10_value 45 = .ok (.iload_n 1, 1) := by decide +kernel
theorem dX10_value_46 : decode cX10_value 46 = .ok (.aaload, 1) := by decide +kernel
theorem dX10_value_47 : decode cX10_value 47 = .ok (.iload_n 2, 1) := by decide +kernel
theorem dX10_value_48 : decode cX10_value 48 = .ok (.invokevirtual 231, 3) := by decide +kernel
theorem dX10_value_51 : decode cX10_value 51 = .ok (.ireturn, 1) := by decide +kernel
theorem dX10_status_0 : decode cX10_status 0 = .ok (.aload_n 0, 1) := by decide +kernel
theorem dX10_status_1 : decode cX10_status 1 = .ok (.getfield 69, 3) := by decide +kernel
theorem dX10_status_4 : decode cX10_status 4 = .ok (.ireturn, 1) := by decide +kernel
theorem dX10_may_0 : decode cX10_may 0 = .ok (.aload_n 0, 1) := by decide +kernel
theorem dX10_may_1 : decode cX10_may 1 = .ok (.getfield 35, 3) := by decide +kernel
theorem dX10_may_4 : decode cX10_may 4 = .ok (.iload_n 1, 1) := by decide +kernel
theorem dX10_may_5 : decode cX10_may 5 = .ok (.invokevirtual 229, 3) := by decide +kernel
theorem dX10_may_8 : decode cX10_may 8 = .ok (.ifCond .eq 21, 3) := by decide +kernel
theorem dX10_may_11 : decode cX10_may 11 = .ok (.aload_n 0, 1) := by decide +kernel
theorem dX10_may_12 : decode cX10_may 12 = .ok (.iload_n 1, 1) := by decide +kernel
theorem dX10_may_13 : decode cX10_may 13 = .ok (.invokevirtual 235, 3) := by decide +kernel
theorem dX10_may_16 : decode cX10_may 16 = .ok (.aload_n 0, 1) := by decide +kernel
theorem dX10_may_17 : decode cX10_may 17 = .ok (.getfield 51, 3) := by decide +kernel
theorem dX10_may_20 : decode cX10_may 20 = .ok (.getfield 185, 3) := by decide +kernel
theorem dX10_may_23 : decode cX10_may 23 = .ok (.invokevirtual 239, 3) := by decide +kernel
theorem dX10_may_26 : decode cX10_may 26 = .ok (.goto 4, 3) := by decide +kernel
theorem dX10_may_29 : decode cX10_may 29 = .ok (.iconst (-1), 1) := by decide +kernel
theorem dX10_may_30 : decode cX10_may 30 = .ok (.ireturn, 1) := by decide +kernel
theorem dX10_last_0 : decode cX10_last 0 = .ok (.aload_n 0, 1) := by decide +kernel
theorem dX10_last_1 : decode cX10_last 1 = .ok (.getfield 35, 3) := by decide +kernel
theorem dX10_last_4 : decode cX10_last 4 = .ok (.iload_n 1, 1) := by decide +kernel
theorem dX10_last_5 : decode cX10_last 5 = .ok (.invokevirtual 229, 3) := by decide +kernel
theorem dX10_last_8 : decode cX10_last 8 = .ok (.ifCond .eq 21, 3) := by decide +kernel
theorem dX10_last_11 : decode cX10_last 11 = .ok (.aload_n 0, 1) := by decide +kernel
theorem dX10_last_12 : decode cX10_last 12 = .ok (.iload_n 1, 1) := by decide +kernel
theorem dX10_last_13 : decode cX10_last 13 = .ok (.invokevirtual 235, 3) := by decide +kernel
theorem dX10_last_16 : decode cX10_last 16 = .ok (.aload_n 0, 1) := by decide +kernel
theorem dX10_last_17 : decode cX10_last 17 = .ok (.getfield 51, 3) := by decide +kernel
theorem dX10_last_20 : decode cX10_last 20 = .ok (.getfield 185, 3) := by decide +kernel
theorem dX10_last_23 : decode cX10_last 23 = .ok (.invokevirtual 243, 3) := by decide +kernel
theorem dX10_last_26 : decode cX10_last 26 = .ok (.goto 4, 3) := by decide +kernel
theorem dX10_last_29 : decode cX10_last 29 = .ok (.iconst (-1), 1) := by decide +kernel
theorem dX10_last_30 : decode cX10_last 30 = .ok (.ireturn, 1) := by decide +kernel
theorem dX10_many_0 : decode cX10_many 0 = .ok (.aload_n 0, 1) := by decide +kernel
theorem dX10_many_1 : decode cX10_many 1 = .ok (.getfield 35, 3) := by decide +kernel
theorem dX10_many_4 : decode cX10_many 4 = .ok (.iload_n 1, 1) := by decide +kernel
theorem dX10_many_5 : decode cX10_many 5 = .ok (.invokevirtual 229, 3) := by decide +kernel
theorem dX10_many_8 : decode cX10_many 8 = .ok (.ifCond .eq 21, 3) := by decide +kernel
theorem dX10_many_11 : decode cX10_many 11 = .ok (.aload_n 0, 1) := by decide +kernel
theorem dX10_many_12 : decode cX10_many 12 = .ok (.iload_n 1, 1) := by decide +kernel
theorem dX10_many_13 : decode cX10_many 13 = .ok (.invokevirtual 235, 3) := by decide +kernel
theorem dX10_many_16 : decode cX10_many 16 = .ok (.aload_n 0, 1) := by decide +kernel
theorem dX10_many_17 : decode cX10_many 17 = .ok (.getfield 51, 3) := by decide +kernel
theorem dX10_many_20 : decode cX10_many 20 = .ok (.getfield 185, 3) := by decide +kernel
theorem dX10_many_23 : decode cX10_many 23 = .ok (.invokevirtual 246, 3) := by decide +kernel
theorem dX10_many_26 : decode cX10_many 26 = .ok (.goto 4, 3) := by decide +kernel
theorem dX10_many_29 : decode cX10_many 29 = .ok (.iconst (-1), 1) := by decide +kernel
theorem dX10_many_30 : decode cX10_many 30 = .ok (.ireturn, 1) := by decide +kernel
theorem dX10_sure_0 : decode cX10_sure 0 = .ok (.aload_n 0, 1) := by decide +kernel
theorem dX10_sure_1 : decode cX10_sure 1 = .ok (.getfield 35, 3) := by decide +kernel
theorem dX10_sure_4 : decode cX10_sure 4 = .ok (.iload_n 1, 1) := by decide +kernel
theorem dX10_sure_5 : decode cX10_sure 5 = .ok (.invokevirtual 229, 3) := by decide +kernel
theorem dX10_sure_8 : decode cX10_sure 8 = .ok (.ifCond .ne 5, 3) := by decide +kernel
theorem dX10_sure_11 : decode cX10_sure 11 = .ok (.iconst (-1), 1) := by decide +kernel
theorem dX10_sure_12 : decode cX10_sure 12 = .ok (.ireturn, 1) := by decide +kernel
theorem dX10_sure_13 : decode cX10_sure 13 = .ok (.aload_n 0, 1) := by decide +kernel
theorem dX10_sure_14 : decode cX10_sure 14 = .ok (.iload_n 1, 1) := by decide +kernel
theorem dX10_sure_15 : decode cX10_sure 15 = .ok (.invokevirtual 249, 3) := by decide +kernel
theorem dX10_sure_18 : decode cX10_sure 18 = .ok (.lconst 0, 1) := by decide +kernel
theorem dX10_sure_19 : decode cX10_sure 19 = .ok (.lcmp, 1) := by decide +kernel
theorem dX10_sure_20 : decode cX10_sure 20 = .ok (.ifCond .ne 7, 3) := by decide +kernel
theorem dX10_sure_23 : decode cX10_sure 23 = .ok (.iconst 1, 1) := by decide +kernel
theorem dX10_sure_24 : decode cX10_sure 24 = .ok (.goto 4, 3) := by decide +kernel
theorem dX10_sure_27 : decode cX10_sure 27 = .ok (.iconst 0, 1) := by decide +kernel
theorem dX10_sure_28 : decode cX10_sure 28 = .ok (.ireturn, 1) := by decide +kernel
theorem dX10_avoid_0 : decode cX10_avoid 0 = .ok (.aload_n 0, 1) := by decide +kernel
theorem dX10_avoid_1 : decode cX10_avoid 1 = .ok (.getfield 35, 3) := by decide +kernel
theorem dX10_avoid_4 : decode cX10_avoid 4 = .ok (.iload_n 1, 1) := by decide +kernel
theorem dX10_avoid_5 : decode cX10_avoid 5 = .ok (.invokevirtual 229, 3) := by decide +kernel
theorem dX10_avoid_8 : decode cX10_avoid 8 = .ok (.ifCond .eq 28, 3) := by decide +kernel
theorem dX10_avoid_11 : decode cX10_avoid 11 = .ok (.iload_n 2, 1) := by decide +kernel
theorem dX10_avoid_12 : decode cX10_avoid 12 = .ok (.ifCond .lt 24, 3) := by decide +kernel
theorem dX10_avoid_15 : decode cX10_avoid 15 = .ok (.iload_n 2, 1) := by decide +kernel
theorem dX10_avoid_16 : decode cX10_avoid 16 = .ok (.aload_n 0, 1) := by decide +kernel
theorem dX10_avoid_17 : decode cX10_avoid 17 = .ok (.getfield 10, 3) := by decide +kernel
theorem dX10_avoid_20 : decode cX10_avoid 20 = .ok (.getfield 117, 3) := by decide +kernel
theorem dX10_avoid_23 : decode cX10_avoid 23 = .ok (.if_icmp .ge 13, 3) := by decide +kernel
theorem dX10_avoid_26 : decode cX10_avoid 26 = .ok (.aload_n 0, 1) := by decide +kernel
theorem dX10_avoid_27 : decode cX10_avoid 27 = .ok (.iload_n 1, 1) := by decide +kernel
theorem dX10_avoid_28 : decode cX10_avoid 28 = .ok (.invokevirtual 249, 3) := by decide +kernel
theorem dX10_avoid_31 : decode cX10_avoid 31 = .ok (.lconst 0, 1) := by decide +kernel
theorem dX10_avoid_32 : decode cX10_avoid 32 = .ok (.lcmp, 1) := by decide +kernel
theorem dX10_avoid_33 : decode cX10_avoid 33 = .ok (.ifCond .ne 5, 3) := by decide +kernel
theorem dX10_avoid_36 : decode cX10_avoid 36 = .ok (.iconst (-1), 1) := by decide +kernel
theorem dX10_avoid_37 : decode cX10_avoid 37 = .ok (.ireturn, 1) := by decide +kernel
theorem dX10_avoid_38 : decode cX10_avoid 38 = .ok (.aload_n 0, 1) := by decide +kernel
theorem dX10_avoid_39 : decode cX10_avoid 39 = .ok (.getfield 58, 3) := by decide +kernel
theorem dX10_avoid_42 : decode cX10_avoid 42 = .ok (.aload_n 0, 1) := by decide +kernel
theorem dX10_avoid_43 : decode cX10_avoid 43 = .ok (.invokevirtual 153, 3) := by decide +kernel
theorem dX10_avoid_46 : decode cX10_avoid 46 = .ok (.lconst 0, 1) := by decide +kernel
theorem dX10_avoid_47 : decode cX10_avoid 47 = .ok (.iload_n 2, 1) := by decide +kernel
theorem dX10_avoid_48 : decode cX10_avoid 48 = .ok (.invokevirtual 196, 3) := by decide +kernel
theorem dX10_avoid_51 : decode cX10_avoid 51 = .ok (.ireturn, 1) := by decide +kernel
theorem dX10_avoids_0 : decode cX10_avoids 0 = .ok (.aload_n 0, 1) := by decide +kernel
theorem dX10_avoids_1 : decode cX10_avoids 1 = .ok (.getfield 35, 3) := by decide +kernel
theorem dX10_avoids_4 : decode cX10_avoids 4 = .ok (.iload_n 1, 1) := by decide +kernel
theorem dX10_avoids_5 : decode cX10_avoids 5 = .ok (.invokevirtual 229, 3) := by decide +kernel
theorem dX10_avoids_8 : decode cX10_avoids 8 = .ok (.ifCond .eq 25, 3) := by decide +kernel
theorem dX10_avoids_11 : decode cX10_avoids 11 = .ok (.aload_n 0, 1) := by decide +kernel
theorem dX10_avoids_12 : decode cX10_avoids 12 = .ok (.getfield 58, 3) := by decide +kernel
theorem dX10_avoids_15 : decode cX10_avoids 15 = .ok (.aload_n 0, 1) := by decide +kernel
theorem dX10_avoids_16 : decode cX10_avoids 16 = .ok (.iload_n 1, 1) := by decide +kernel
theorem dX10_avoids_17 : decode cX10_avoids 17 = .ok (.invokevirtual 235, 3) := by decide +kernel
theorem dX10_avoids_20 : decode cX10_avoids 20 = .ok (.aload_n 0, 1) := by decide +kernel
theorem dX10_avoids_21 : decode cX10_avoids 21 = .ok (.getfield 51, 3) := by decide +kernel
theorem dX10_avoids_24 : decode cX10_avoids 24 = .ok (.getfield 185, 3) := by decide +kernel
theorem dX10_avoids_27 : decode cX10_avoids 27 = .ok (.invokevirtual 188, 3) := by decide +kernel
theorem dX10_avoids_30 : decode cX10_avoids 30 = .ok (.goto 6, 3) := by decide +kernel
theorem dX10_avoids_33 : decode cX10_avoids 33 = .ok (.ldc2_w 253, 3) := by decide +kernel
theorem dX10_avoids_36 : decode cX10_avoids 36 = .ok (.lreturn, 1) := by decide +kernel
theorem dX10_is_0 : decode cX10_is 0 = .ok (.aload_n 0, 1) := by decide +kernel
theorem dX10_is_1 : decode cX10_is 1 = .ok (.getfield 35, 3) := by decide +kernel
theorem dX10_is_4 : decode cX10_is 4 = .ok (.iload_n 1, 1) := by decide +kernel
theorem dX10_is_5 : decode cX10_is 5 = .ok (.invokevirtual 229, 3) := by decide +kernel
theorem dX10_is_8 : decode cX10_is 8 = .ok (.ifCond .eq 12, 3) := by decide +kernel
theorem dX10_is_11 : decode cX10_is 11 = .ok (.iload_n 2, 1) := by decide +kernel
theorem dX10_is_12 : decode cX10_is 12 = .ok (.ifCond .lt 8, 3) := by decide +kernel
theorem dX10_is_15 : decode cX10_is 15 = .ok (.iload_n 2, 1) := by decide +kernel
theorem dX10_is_16 : decode cX10_is 16 = .ok (.iconst 2, 1) := by decide +kernel
theorem dX10_is_17 : decode cX10_is 17 = .ok (.if_icmp .le 5, 3) := by decide +kernel
theorem dX10_is_20 : decode cX10_is 20 = .ok (.iconst (-1), 1) := by decide +kernel
theorem dX10_is_21 : decode cX10_is 21 = .ok (.ireturn, 1) := by decide +kernel
theorem dX10_is_22 : decode cX10_is 22 = .ok (.aload_n 0, 1) := by decide +kernel
theorem dX10_is_23 : decode cX10_is 23 = .ok (.iload_n 1, 1) := by decide +kernel
theorem dX10_is_24 : decode cX10_is 24 = .ok (.invokevirtual 235, 3) := by decide +kernel
theorem dX10_is_27 : decode cX10_is 27 = .ok (.astore_n 3, 1) := by decide +kernel
theorem dX10_is_28 : decode cX10_is 28 = .ok (.iload_n 2, 1) := by decide +kernel
theorem dX10_is_29 : decode cX10_is 29 = .ok (.ifCond .ne 14, 3) := by decide +kernel
theorem dX10_is_32 : decode cX10_is 32 = .ok (.aload_n 0, 1) := by decide +kernel
theorem dX10_is_33 : decode cX10_is 33 = .ok (.getfield 51, 3) := by decide +kernel
theorem dX10_is_36 : decode cX10_is 36 = .ok (.aload_n 3, 1) := by decide +kernel
theorem dX10_is_37 : decode cX10_is 37 = .ok (.invokevirtual 255, 3) := by decide +kernel
theorem dX10_is_40 : decode cX10_is 40 = .ok (.goto 27, 3) := by decide +kernel
theorem dX10_is_43 : decode cX10_is 43 = .ok (.iload_n 2, 1) := by decide +kernel
theorem dX10_is_44 : decode cX10_is 44 = .ok (.iconst 1, 1) := by decide +kernel
theorem dX10_is_45 : decode cX10_is 45 = .ok (.if_icmp .ne 14, 3) := by decide +kernel
theorem dX10_is_48 : decode cX10_is 48 = .ok (.aload_n 0, 1) := by decide +kernel
theorem dX10_is_49 : decode cX10_is 49 = .ok (.getfield 51, 3) := by decide +kernel
theorem dX10_is_52 : decode cX10_is 52 = .ok (.aload_n 3, 1) := by decide +kernel
theorem dX10_is_53 : decode cX10_is 53 = .ok (.invokevirtual 259, 3) := by decide +kernel
theorem dX10_is_56 : decode cX10_is 56 = .ok (.goto 11, 3) := by decide +kernel
theorem dX10_is_59 : decode cX10_is 59 = .ok (.aload_n 0, 1) := by decide +kernel
theorem dX10_is_60 : decode cX10_is 60 = .ok (.getfield 51, 3) := by decide +kernel
theorem dX10_is_63 : decode cX10_is 63 = .ok (.aload_n 3, 1) := by decide +kernel
theorem dX10_is_64 : decode cX10_is 64 = .ok (.invokevirtual 262, 3) := by decide +kernel
theorem dX10_is_67 : decode cX10_is 67 = .ok (.istore 4, 2) := by decide +kernel
theorem dX10_is_69 : decode cX10_is 69 = .ok (.iload 4, 2) := by decide +kernel
theorem dX10_is_71 : decode cX10_is 71 = .ok (.ifCond .eq 7, 3) := by decide +kernel
theorem dX10_is_74 : decode cX10_is 74 = .ok (.iconst 1, 1) := by decide +kernel
theorem dX10_is_75 : decode cX10_is 75 = .ok (.goto 4, 3) := by decide +kernel
theorem dX10_is_78 : decode cX10_is 78 = .ok (.iconst 0, 1) := by decide +kernel
theorem dX10_is_79 : decode cX10_is 79 = .ok (.ireturn, 1) := by decide +kernel
theorem dX10_before_0 : decode cX10_before 0 = .ok (.aload_n 0, 1) := by decide +kernel
theorem dX10_before_1 : decode cX10_before 1 = .ok (.getfield 35, 3) := by decide +kernel
theorem dX10_before_4 : decode cX10_before 4 = .ok (.iload_n 1, 1) := by decide +kernel
theorem dX10_before_5 : decode cX10_before 5 = .ok (.invokevirtual 229, 3) := by decide +kernel
theorem dX10_before_8 : decode cX10_before 8 = .ok (.ifCond .eq 14, 3) := by decide +kernel
theorem dX10_before_11 : decode cX10_before 11 = .ok (.aload_n 0, 1) := by decide +kernel
theorem dX10_before_12 : decode cX10_before 12 = .ok (.getfield 35, 3) := by decide +kernel
theorem dX10_before_15 : decode cX10_before 15 = .ok (.iload_n 2, 1) := by decide +kernel
theorem dX10_before_16 : decode cX10_before 16 = .ok (.invokevirtual 229, 3) := by decide +kernel
theorem dX10_before_19 : decode cX10_before 19 = .ok (.ifCond .ne 5, 3) := by decide +kernel
theorem dX10_before_22 : decode cX10_before 22 = .ok (.iconst (-1), 1) := by decide +kernel
theorem dX10_before_23 : decode cX10_before 23 = .ok (.ireturn, 1) := by decide +kernel
theorem dX10_before_24 : decode cX10_before 24 = .ok (.aload_n 0, 1) := by decide +kernel
theorem dX10_before_25 : decode cX10_before 25 = .ok (.getfield 58, 3) := by decide +kernel
theorem dX10_before_28 : decode cX10_before 28 = .ok (.aload_n 0, 1) := by decide +kernel
theorem dX10_before_29 : decode cX10_before 29 = .ok (.iload_n 1, 1) := by decide +kernel
theorem dX10_before_30 : decode cX10_before 30 = .ok (.invokevirtual 235, 3) := by decide +kernel
theorem dX10_before_33 : decode cX10_before 33 = .ok (.aload_n 0, 1) := by decide +kernel
theorem dX10_before_34 : decode cX10_before 34 = .ok (.getfield 51, 3) := by decide +kernel
theorem dX10_before_37 : decode cX10_before 37 = .ok (.getfield 185, 3) := by decide +kernel
theorem dX10_before_40 : decode cX10_before 40 = .ok (.aload_n 0, 1) := by decide +kernel
theorem dX10_before_41 : decode cX10_before 41 = .ok (.getfield 42, 3) := by decide +kernel
theorem dX10_before_44 : decode cX10_before 44 = .ok (.aload_n 0, 1) := by decide +kernel
theorem dX10_before_45 : decode cX10_before 45 = .ok (.getfield 35, 3) := by decide +kernel
theorem dX10_before_48 : decode cX10_before 48 = .ok (.getfield 230, 3) := by decide +kernel
theorem dX10_before_51 : decode cX10_before 51 = .ok (.iload_n 2, 1) := by decide +kernel
theorem dX10_before_52 : decode cX10_before 52 = .ok (.aaload, 1) := by decide +kernel
theorem dX10_before_53 : decode cX10_before 53 = .ok (.invokevirtual 265, 3) := by decide +kernel
theorem dX10_before_56 : decode cX10_before 56 = .ok (.lstore_n 3, 1) := by decide +kernel
theorem dX10_before_57 : decode cX10_before 57 = .ok (.lload_n 3, 1) := by decide +kernel
theorem dX10_before_58 : decode cX10_before 58 = .ok (.lconst 0, 1) := by decide +kernel
theorem dX10_before_59 : decode cX10_before 59 = .ok (.lcmp, 1) := by decide +kernel
theorem dX10_before_60 : decode cX10_before 60 = .ok (.ifCond .ne 7, 3) := by decide +kernel
theorem dX10_before_63 : decode cX10_before 63 = .ok (.iconst 1, 1) := by decide +kernel
theorem dX10_before_64 : decode cX10_before 64 = .ok (.goto 4, 3) := by decide +kernel
theorem dX10_before_67 : decode cX10_before 67 = .ok (.iconst 0, 1) := by decide +kernel
theorem dX10_before_68 : decode cX10_before 68 = .ok (.ireturn, 1) := by decide +kernel
theorem dX10_say_0 : decode cX10_say 0 = .ok (.iload_n 1, 1) := by decide +kernel
theorem dX10_say_1 : decode cX10_say 1 = .ok (.invokestatic 206, 3) := by decide +kernel
theorem dX10_say_4 : decode cX10_say 4 = .ok (.ifCond .ne 6, 3) := by decide +kernel
theorem dX10_say_7 : decode cX10_say 7 = .ok (.bipush (-2), 2) := by decide +kernel
theorem dX10_say_9 : decode cX10_say 9 = .ok (.ireturn, 1) := by decide +kernel
theorem dX10_say_10 : decode cX10_say 10 = .ok (.aload_n 0, 1) := by decide +kernel
theorem dX10_say_11 : decode cX10_say 11 = .ok (.getfield 65, 3) := by decide +kernel
theorem dX10_say_14 : decode cX10_say 14 = .ok (.getfield 269, 3) := by decide +kernel
theorem dX10_say_17 : decode cX10_say 17 = .ok (.bipush 24, 2) := by decide +kernel
theorem dX10_say_19 : decode cX10_say 19 = .ok (.if_icmp .lt 8, 3) := by decide +kernel
theorem dX10_say_22 : decode cX10_say 22 = .ok (.bipush (-4), 2) := by decide +kernel
theorem dX10_say_24 : decode cX10_say 24 = .ok (.goto 11, 3) := by decide +kernel
theorem dX10_say_27 : decode cX10_say 27 = .ok (.aload_n 0, 1) := by decide +kernel
theorem dX10_say_28 : decode cX10_say 28 = .ok (.getfield 65, 3) := by decide +kernel
theorem dX10_say_31 : decode cX10_say 31 = .ok (.iload_n 1, 1) := by decide +kernel
theorem dX10_say_32 : decode cX10_say 32 = .ok (.invokevirtual 272, 3) := by decide +kernel
theorem dX10_say_35 : decode cX10_say 35 = .ok (.ireturn, 1) := by decide +kernel
theorem dX10_check_0 : decode cX10_check 0 = .ok (.aload_n 0, 1) := by decide +kernel
theorem dX10_check_1 : decode cX10_check 1 = .ok (.getfield 65, 3) := by decide +kernel
theorem dX10_check_4 : decode cX10_check 4 = .ok (.getfield 269, 3) := by decide +kernel
theorem dX10_check_7 : decode cX10_check 7 = .ok (.istore_n 1, 1) := by decide +kernel
theorem dX10_check_8 : decode cX10_check 8 = .ok (.aload_n 0, 1) := by decide +kernel
theorem dX10_check_9 : decode cX10_check 9 = .ok (.getfield 65, 3) := by decide +kernel
theorem dX10_check_12 : decode cX10_check 12 = .ok (.aload_n 0, 1) := by decide +kernel
theorem dX10_check_13 : decode cX10_check 13 = .ok (.invokevirtual 153, 3) := by decide +kernel
theorem dX10_check_16 : decode cX10_check 16 = .ok (.invokevirtual 275, 3) := by decide +kernel
theorem dX10_check_19 : decode cX10_check 19 = .ok (.istore_n 2, 1) := by decide +kernel
theorem dX10_check_20 : decode cX10_check 20 = .ok (.aload_n 0, 1) := by decide +kernel
theorem dX10_check_21 : decode cX10_check 21 = .ok (.getfield 65, 3) := by decide +kernel
theorem dX10_check_24 : decode cX10_check 24 = .ok (.iconst 0, 1) := by decide +kernel
theorem dX10_check_25 : decode cX10_check 25 = .ok (.putfield 269, 3) := by decide +kernel
theorem dX10_check_28 : decode cX10_check 28 = .ok (.iload_n 2, 1) := by decide +kernel
theorem dX10_check_29 : decode cX10_check 29 = .ok (.iload_n 1, 1) := by decide +kernel
theorem dX10_check_30 : decode cX10_check 30 = .ok (.if_icmp .ne 19, 3) := by decide +kernel
theorem dX10_check_33 : decode cX10_check 33 = .ok (.iload_n 1, 1) := by decide +kernel
theorem dX10_check_34 : decode cX10_check 34 = .ok (.aload_n 0, 1) := by decide +kernel
theorem dX10_check_35 : decode cX10_check 35 = .ok (.getfield 10, 3) := by decide +kernel
theorem dX10_check_38 : decode cX10_check 38 = .ok (.getfield 117, 3) := by decide +kernel
theorem dX10_check_41 : decode cX10_check 41 = .ok (.if_icmp .ne 8, 3) := by decide +kernel
theorem dX10_check_44 : decode cX10_check 44 = .ok (.bipush 100, 2) := by decide +kernel
theorem dX10_check_46 : decode cX10_check 46 = .ok (.goto 4, 3) := by decide +kernel
theorem dX10_check_49 : decode cX10_check 49 = .ok (.iload_n 2, 1) := by decide +kernel
theorem dX10_check_50 : decode cX10_check 50 = .ok (.ireturn, 1) := by decide +kernel
theorem dX10_passes_0 : decode cX10_passes 0 = .ok (.aload_n 0, 1) := by decide +kernel
theorem dX10_passes_1 : decode cX10_passes 1 = .ok (.getfield 35, 3) := by decide +kernel
theorem dX10_passes_4 : decode cX10_passes 4 = .ok (.iload_n 1, 1) := by decide +kernel
theorem dX10_passes_5 : decode cX10_passes 5 = .ok (.invokevirtual 229, 3) := by decide +kernel
theorem dX10_passes_8 : decode cX10_passes 8 = .ok (.ifCond .ne 5, 3) := by decide +kernel
theorem dX10_passes_11 : decode cX10_passes 11 = .ok (.iconst (-1), 1) := by decide +kernel
theorem dX10_passes_12 : decode cX10_passes 12 = .ok (.ireturn, 1) := by decide +kernel
theorem dX10_passes_13 : decode cX10_passes 13 = .ok (.aload_n 0, 1) := by decide +kernel
theorem dX10_passes_14 : decode cX10_passes 14 = .ok (.getfield 65, 3) := by decide +kernel
theorem dX10_passes_17 : decode cX10_passes 17 = .ok (.aload_n 0, 1) := by decide +kernel
theorem dX10_passes_18 : decode cX10_passes 18 = .ok (.invokevirtual 153, 3) := by decide +kernel
theorem dX10_passes_21 : decode cX10_passes 21 = .ok (.invokevirtual 275, 3) := by decide +kernel
theorem dX10_passes_24 : decode cX10_passes 24 = .ok (.aload_n 0, 1) := by decide +kernel
theorem dX10_passes_25 : decode cX10_passes 25 = .ok (.getfield 65, 3) := by decide +kernel
theorem dX10_passes_28 : decode cX10_passes 28 = .ok (.getfield 269, 3) := by decide +kernel
theorem dX10_passes_31 : decode cX10_passes 31 = .ok (.if_icmp .ge 6, 3) := by decide +kernel
theorem dX10_passes_34 : decode cX10_passes 34 = .ok (.bipush (-3), 2) := by decide +kernel
theorem dX10_passes_36 : decode cX10_passes 36 = .ok (.ireturn, 1) := by decide +kernel
theorem dX10_passes_37 : decode cX10_passes 37 = .ok (.aload_n 0, 1) := by decide +kernel
theorem dX10_passes_38 : decode cX10_passes 38 = .ok (.getfield 65, 3) := by decide +kernel
theorem dX10_passes_41 : decode cX10_passes 41 = .ok (.aload_n 0, 1) := by decide +kernel
theorem dX10_passes_42 : decode cX10_passes 42 = .ok (.getfield 42, 3) := by decide +kernel
theorem dX10_passes_45 : decode cX10_passes 45 = .ok (.aload_n 0, 1) := by decide +kernel
theorem dX10_passes_46 : decode cX10_passes 46 = .ok (.getfield 35, 3) := by decide +kernel
theorem dX10_passes_49 : decode cX10_passes 49 = .ok (.getfield 230, 3) := by decide +kernel
theorem dX10_passes_52 : decode cX10_passes 52 = .ok (.iload_n 1, 1) := by decide +kernel
theorem dX10_passes_53 : decode cX10_passes 53 = .ok (.aaload, 1) := by decide +kernel
theorem dX10_passes_54 : decode cX10_passes 54 = .ok (.invokevirtual 279, 3) := by decide +kernel
theorem dX10_passes_57 : decode cX10_passes 57 = .ok (.ireturn, 1) := by decide +kernel
theorem dX10_count_0 : decode cX10_count 0 = .ok (.iload_n 1, 1) := by decide +kernel
theorem dX10_count_1 : decode cX10_count 1 = .ok (.tableswitch 105 0 6 #[43, 51, 59, 70, 81, 89, 97], 43) := by decide +kernel
theorem dX10_count_44 : decode cX10_count 44 = .ok (.aload_n 0, 1) := by decide +kernel
theorem dX10_count_45 : decode cX10_count 45 = .ok (.getfield 10, 3) := by decide +kernel
theorem dX10_count_48 : decode cX10_count 48 = .ok (.getfield 73, 3) := by decide +kernel
theorem dX10_count_51 : decode cX10_count 51 = .ok (.ireturn, 1) := by decide +kernel
theorem dX10_count_52 : decode cX10_count 52 = .ok (.aload_n 0, 1) := by decide +kernel
theorem dX10_count_53 : decode cX10_count 53 = .ok (.getfield 10, 3) := by decide +kernel
theorem dX10_count_56 : decode cX10_count 56 = .ok (.getfield 117, 3) := by decide +kernel
theorem dX10_count_59 : decode cX10_count 59 = .ok (.ireturn, 1) := by decide +kernel
theorem dX10_count_60 : decode cX10_count 60 = .ok (.aload_n 0, 1) := by decide +kernel
theorem dX10_count_61 : decode cX10_count 61 = .ok (.getfield 10, 3) := by decide +kernel
theorem dX10_count_64 : decode cX10_count 64 = .ok (.getfield 94, 3) := by decide +kernel
theorem dX10_count_67 : decode cX10_count 67 = .ok (.getfield 283, 3) := by decide +kernel
theorem dX10_count_70 : decode cX10_count 70 = .ok (.ireturn, 1) := by decide +kernel
theorem dX10_count_71 : decode cX10_count 71 = .ok (.aload_n 0, 1) := by decide +kernel
theorem dX10_count_72 : decode cX10_count 72 = .ok (.getfield 10, 3) := by decide +kernel
theorem dX10_count_75 : decode cX10_count 75 = .ok (.getfield 94, 3) := by decide +kernel
theorem dX10_count_78 : decode cX10_count 78 = .ok (.invokevirtual 284, 3) := by decide +kernel
theorem dX10_count_81 : decode cX10_count 81 = .ok (.ireturn, 1) := by decide +kernel
theorem dX10_count_82 : decode cX10_count 82 = .ok (.aload_n 0, 1) := by decide +kernel
theorem dX10_count_83 : decode cX10_count 83 = .ok (.getfield 35, 3) := by decide +kernel
theorem dX10_count_86 : decode cX10_count 86 = .ok (.getfield 220, 3) := by decide +kernel
theorem dX10_count_89 : decode cX10_count 89 = .ok (.ireturn, 1) := by decide +kernel
theorem dX10_count_90 : decode cX10_count 90 = .ok (.aload_n 0, 1) := by decide +kernel
theorem dX10_count_91 : decode cX10_count 91 = .ok (.getfield 28, 3) := by decide +kernel
theorem dX10_count_94 : decode cX10_count 94 = .ok (.getfield 200, 3) := by decide +kernel
theorem dX10_count_97 : decode cX10_count 97 = .ok (.ireturn, 1) := by decide +kernel
theorem dX10_count_98 : decode cX10_count 98 = .ok (.aload_n 0, 1) := by decide +kernel
theorem dX10_count_99 : decode cX10_count 99 = .ok (.getfield 65, 3) := by decide +kernel
theorem dX10_count_102 : decode cX10_count 102 = .ok (.getfield 269, 3) := by decide +kernel
theorem dX10_count_105 : decode cX10_count 105 = .ok (.ireturn, 1) := by decide +kernel
theorem dX10_count_106 : decode cX10_count 106 = .ok (.iconst (-1), 1) := by decide +kernel
theorem dX10_count_107 : decode cX10_count 107 = .ok (.ireturn, 1) := by decide +kernel
theorem dX10_freshNet_0 : decode cX10_freshNet 0 = .ok (.aload_n 0, 1) := by decide +kernel
theorem dX10_freshNet_1 : decode cX10_freshNet 1 = .ok (.getfield 21, 3) := by decide +kernel
theorem dX10_freshNet_4 : decode cX10_freshNet 4 = .ok (.invokevirtual 287, 3) := by decide +kernel
theorem dX10_freshNet_7 : decode cX10_freshNet 7 = .ok (.aload_n 0, 1) := by decide +kernel
theorem dX10_freshNet_8 : decode cX10_freshNet 8 = .ok (.getfield 21, 3) := by decide +kernel
theorem dX10_freshNet_11 : decode cX10_freshNet 11 = .ok (.areturn, 1) := by decide +kernel
theorem dX10_markedNet_0 : decode cX10_markedNet 0 = .ok (.aload_n 0, 1) := by decide +kernel
theorem dX10_markedNet_1 : decode cX10_markedNet 1 = .ok (.invokevirtual 153, 3) := by decide +kernel
theorem dX10_markedNet_4 : decode cX10_markedNet 4 = .ok (.astore_n 2, 1) := by decide +kernel
theorem dX10_markedNet_5 : decode cX10_markedNet 5 = .ok (.aload_n 0, 1) := by decide +kernel
theorem dX10_markedNet_6 : decode cX10_markedNet 6 = .ok (.getfield 51, 3) := by decide +kernel
theorem dX10_markedNet_9 : decode cX10_markedNet 9 = .ok (.aload_n 2, 1) := by decide +kernel
theorem dX10_markedNet_10 : decode cX10_markedNet 10 = .ok (.aload_n 0, 1) := by decide +kernel
theorem dX10_markedNet_11 : decode cX10_markedNet 11 = .ok (.getfield 35, 3) := by decide +kernel
theorem dX10_markedNet_14 : decode cX10_markedNet 14 = .ok (.getfield 230, 3) := by decide +kernel
theorem dX10_markedNet_17 : decode cX10_markedNet 17 = .ok (.iload_n 1, 1) := by decide +kernel
theorem dX10_markedNet_18 : decode cX10_markedNet 18 = .ok (.aaload, 1) := by decide +kernel
theorem dX10_markedNet_19 : decode cX10_markedNet 19 = .ok (.invokevirtual 290, 3) := by decide +kernel
theorem dX10_markedNet_22 : decode cX10_markedNet 22 = .ok (.aload_n 2, 1) := by decide +kernel
theorem dX10_markedNet_23 : decode cX10_markedNet 23 = .ok (.areturn, 1) := by decide +kernel
theorem dX11_init_0 : decode cX11_init 0 = .ok (.aload_n 0, 1) := by decide +kernel
theorem dX11_init_1 : decode cX11_init 1 = .ok (.invokespecial 1, 3) := by decide +kernel
theorem dX11_init_4 : decode cX11_init 4 = .ok (.aload_n 0, 1) := by decide +kernel
theorem dX11_init_5 : decode cX11_init 5 = .ok (.iconst 4, 1) := by decide +kernel
theorem dX11_init_6 : decode cX11_init 6 = .ok (.newarray .int, 2) := by decide +kernel
theorem dX11_init_8 : decode cX11_init 8 = .ok (.putfield 7, 3) := by decide +kernel
theorem dX11_init_11 : decode cX11_init 11 = .ok (.aload_n 0, 1) := by decide +kernel
theorem dX11_init_12 : decode cX11_init 12 = .ok (.bipush 24, 2) := by decide +kernel
theorem dX11_init_14 : decode cX11_init 14 = .ok (.newarray .int, 2) := by decide +kernel
theorem dX11_init_16 : decode cX11_init 16 = .ok (.putfield 13, 3) := by decide +kernel
theorem dX11_init_19 : decode cX11_init 19 = .ok (.aload_n 0, 1) := by decide +kernel
theorem dX11_init_20 : decode cX11_init 20 = .ok (.bipush 24, 2) := by decide +kernel
theorem dX11_init_22 : decode cX11_init 22 = .ok (.newarray .int, 2) := by decide +kernel
theorem dX11_init_24 : decode cX11_init 24 = .ok (.putfield 16, 3) := by decide +kernel
theorem dX11_init_27 : decode cX11_init 27 = .ok (.aload_n 0, 1) := by decide +kernel
theorem dX11_init_28 : decode cX11_init 28 = .ok (.bipush 24, 2) := by decide +kernel
theorem dX11_init_30 : decode cX11_init 30 = .ok (.newarray .int, 2) := by decide +kernel
theorem dX11_init_32 : decode cX11_init 32 = .ok (.putfield 19, 3) := by decide +kernel
theorem dX11_init_35 : decode cX11_init 35 = .ok (.aload_n 0, 1) := by decide +kernel
theorem dX11_init_36 : decode cX11_init 36 = .ok (.bipush 24, 2) := by decide +kernel
theorem dX11_init_38 : decode cX11_init 38 = .ok (.newarray .int, 2) := by decide +kernel
theorem dX11_init_40 : decode cX11_init 40 = .ok (.putfield 22, 3) := by decide +kernel
theorem dX11_init_43 : decode cX11_init 43 = .ok (.aload_n 0, 1) := by decide +kernel
theorem dX11_init_44 : decode cX11_init 44 = .ok (.bipush 96, 2) := by decide +kernel
theorem dX11_init_46 : decode cX11_init 46 = .ok (.newarray .int, 2) := by decide +kernel
theorem dX11_init_48 : decode cX11_init 48 = .ok (.putfield 25, 3) := by decide +kernel
theorem dX11_init_51 : decode cX11_init 51 = .ok (.aload_n 0, 1) := by decide +kernel
theorem dX11_init_52 : decode cX11_init 52 = .ok (.bipush 24, 2) := by decide +kernel
theorem dX11_init_54 : decode cX11_init 54 = .ok (.newarray .int, 2) := by decide +kernel
theorem dX11_init_56 : decode cX11_init 56 = .ok (.putfield 28, 3) := by decide +kernel
theorem dX11_init_59 : decode cX11_init 59 = .ok (.aload_n 0, 1) := by decide +kernel
theorem dX11_init_60 : decode cX11_init 60 = .ok (.bipush 24, 2) := by decide +kernel
theorem dX11_init_62 : decode cX11_init 62 = .ok (.newarray .int, 2) := by decide +kernel
theorem dX11_init_64 : decode cX11_init 64 = .ok (.putfield 31, 3) := by decide +kernel
theorem dX11_init_67 : decode cX11_init 67 = .ok (.aload_n 0, 1) := by decide +kernel
theorem dX11_init_68 : decode cX11_init 68 = .ok (.bipush 24, 2) := by decide +kernel
theorem dX11_init_70 : decode cX11_init 70 = .ok (.newarray .int, 2) := by decide +kernel
theorem dX11_init_72 : decode cX11_init 72 = .ok (.putfield 34, 3) := by decide +kernel
theorem dX11_init_75 : decode cX11_init 75 = .ok (.aload_n 0, 1) := by decide +kernel
theorem dX11_init_76 : decode cX11_init 76 = .ok (.bipush 24, 2) := by decide +kernel
theorem dX11_init_78 : decode cX11_init 78 = .ok (.newarray .int, 2) := by decide +kernel
theorem dX11_init_80 : decode cX11_init 80 = .ok (.putfield 37, 3) := by decide +kernel
theorem dX11_init_83 : decode cX11_init 83 = .ok (.aload_n 0, 1) := by decide +kernel
theorem dX11_init_84 : decode cX11_init 84 = .ok (.sipush 2401, 3) := by decide +kernel
theorem dX11_init_87 : decode cX11_init 87 = .ok (.newarray .boolean, 2) := by decide +kernel
theorem dX11_init_89 : decode cX11_init 89 = .ok (.putfield 40, 3) := by decide +kernel
theorem dX11_init_92 : decode cX11_init 92 = .ok (.aload_n 0, 1) := by decide +kernel
theorem dX11_init_93 : decode cX11_init 93 = .ok (.sipush 2401, 3) := by decide +kernel
theorem dX11_init_96 : decode cX11_init 96 = .ok (.newarray .long, 2) := by decide +kernel
theorem dX11_init_98 : decode cX11_init 98 = .ok (.putfield 44, 3) := by decide +kernel
theorem dX11_init_101 : decode cX11_init 101 = .ok (.aload_n 0, 1) := by decide +kernel
theorem dX11_init_102 : decode cX11_init 102 = .ok (.sipush 240, 3) := by decide +kernel
theorem dX11_init_105 : decode cX11_init 105 = .ok (.newarray .int, 2) := by decide +kernel
theorem dX11_init_107 : decode cX11_init 107 = .ok (.putfield 48, 3) := by decide +kernel
theorem dX11_init_110 : decode cX11_init 110 = .ok (.aload_n 0, 1) := by decide +kernel
theorem dX11_init_111 : decode cX11_init 111 = .ok (.sipush 240, 3) := by decide +kernel
theorem dX11_init_114 : decode cX11_init 114 = .ok (.newarray .int, 2) := by decide +kernel
theorem dX11_init_116 : decode cX11_init 116 = .ok (.putfield 51, 3) := by decide +kernel
theorem dX11_init_119 : decode cX11_init 119 = .ok (.aload_n 0, 1) := by decide +kernel
theorem dX11_init_120 : decode cX11_init 120 = .ok (.sipush 240, 3) := by decide +kernel
theorem dX11_init_123 : decode cX11_init 123 = .ok (.newarray .int, 2) := by decide +kernel
theorem dX11_init_125 : decode cX11_init 125 = .ok (.putfield 54, 3) := by decide +kernel
theorem dX11_init_128 : decode cX11_init 128 = .ok (.aload_n 0, 1) := by decide +kernel
theorem dX11_init_129 : decode cX11_init 129 = .ok (.bipush 16, 2) := by decide +kernel
theorem dX11_init_131 : decode cX11_init 131 = .ok (.newarray .int, 2) := by decide +kernel
theorem dX11_init_133 : decode cX11_init 133 = .ok (.putfield 57, 3) := by decide +kernel
theorem dX11_init_136 : decode cX11_init 136 = .ok (.aload_n 0, 1) := by decide +kernel
theorem dX11_init_137 : decode cX11_init 137 = .ok (.bipush 16, 2) := by decide +kernel
theorem dX11_init_139 : decode cX11_init 139 = .ok (.newarray .int, 2) := by decide +kernel
theorem dX11_init_141 : decode cX11_init 141 = .ok (.putfield 60, 3) := by decide +kernel
theorem dX11_init_144 : decode cX11_init 144 = .ok (.aload_n 0, 1) := by decide +kernel
theorem dX11_init_145 : decode cX11_init 145 = .ok (.sipush 2401, 3) := by decide +kernel
theorem dX11_init_148 : decode cX11_init 148 = .ok (.newarray .boolean, 2) := by decide +kernel
theorem dX11_init_150 : decode cX11_init 150 = .ok (.putfield 63, 3) := by decide +kernel
theorem dX11_init_153 : decode cX11_init 153 = .ok (.aload_n 0, 1) := by decide +kernel
theorem dX11_init_154 : decode cX11_init 154 = .ok (.sipush 2401, 3) := by decide +kernel
theorem dX11_init_157 : decode cX11_init 157 = .ok (.newarray .boolean, 2) := by decide +kernel
theorem dX11_init_159 : decode cX11_init 159 = .ok (.putfield 66, 3) := by decide +kernel
theorem dX11_init_162 : decode cX11_init 162 = .ok (.aload_n 0, 1) := by decide +kernel
theorem dX11_init_163 : decode cX11_init 163 = .ok (.bipush 24, 2) := by decide +kernel
theorem dX11_init_165 : decode cX11_init 165 = .ok (.newarray .int, 2) := by decide +kernel
theorem dX11_init_167 : decode cX11_init 167 = .ok (.putfield 69, 3) := by decide +kernel
theorem dX11_init_170 : decode cX11_init 170 = .ok (.return_, 1) := by decide +kernel
theorem dX11_in_0 : decode cX11_in 0 = .ok (.iload_n 0, 1) := by decide +kernel
theorem dX11_in_1 : decode cX11_in 1 = .ok (.iload_n 1, 1) := by decide +kernel
theorem dX11_in_2 : decode cX11_in 2 = .ok (.if_icmp .lt 12, 3) := by decide +kernel
theorem dX11_in_5 : decode cX11_in 5 = .ok (.iload_n 0, 1) := by decide +kernel
theorem dX11_in_6 : decode cX11_in 6 = .ok (.iload_n 2, 1) := by decide +kernel
theorem dX11_in_7 : decode cX11_in 7 = .ok (.if_icmp .gt 7, 3) := by decide +kernel
theorem dX11_in_10 : decode cX11_in 10 = .ok (.iconst 1, 1) := by decide +kernel
theorem dX11_in_11 : decode cX11_in 11 = .ok (.goto 4, 3) := by decide +kernel
theorem dX11_in_14 : decode cX11_in 14 = .ok (.iconst 0, 1) := by decide +kernel
theorem dX11_in_15 : decode cX11_in 15 = .ok (.ireturn, 1) := by decide +kernel
theorem dX11_isProcess_0 : decode cX11_isProcess 0 = .ok (.iload_n 1, 1) := by decide +kernel
theorem dX11_isProcess_1 : decode cX11_isProcess 1 = .ok (.iconst 0, 1) := by decide +kernel
theorem dX11_isProcess_2 : decode cX11_isProcess 2 = .ok (.aload_n 0, 1) := by decide +kernel
theorem dX11_isProcess_3 : decode cX11_isProcess 3 = .ok (.getfield 76, 3) := by decide +kernel
theorem dX11_isProcess_6 : decode cX11_isProcess 6 = .ok (.iconst 1, 1) := by decide +kernel
theorem dX11_isProcess_7 : decode cX11_isProcess 7 = .ok (.isub, 1) := by decide +kernel
theorem dX11_isProcess_8 : decode cX11_isProcess 8 = .ok (.invokestatic 79, 3) := by decide +kernel
theorem dX11_isProcess_11 : decode cX11_isProcess 11 = .ok (.ireturn, 1) := by decide +kernel
theorem dX11_isEvent_0 : decode cX11_isEvent 0 = .ok (.aload_n 0, 1) := by decide +kernel
theorem dX11_isEvent_1 : decode cX11_isEvent 1 = .ok (.iload_n 1, 1) := by decide +kernel
theorem dX11_isEvent_2 : decode cX11_isEvent 2 = .ok (.invokevirtual 83, 3) := by decide +kernel
theorem dX11_isEvent_5 : decode cX11_isEvent 5 = .ok (.ifCond .eq 23, 3) := by decide +kernel
theorem dX11_isEvent_8 : decode cX11_isEvent 8 = .ok (.iload_n 2, 1) := by decide +kernel
theorem dX11_isEvent_9 : decode cX11_isEvent 9 = .ok (.iconst 0, 1) := by decide +kernel
theorem dX11_isEvent_10 : decode cX11_isEvent 10 = .ok (.aload_n 0, 1) := by decide +kernel
theorem dX11_isEvent_11 : decode cX11_isEvent 11 = .ok (.getfield 7, 3) := by decide +kernel
theorem dX11_isEvent_14 : decode cX11_isEvent 14 = .ok (.iload_n 1, 1) := by decide +kernel
theorem dX11_isEvent_15 : decode cX11_isEvent 15 = .ok (.iaload, 1) := by decide +kernel
theorem dX11_isEvent_16 : decode cX11_isEvent 16 = .ok (.iconst 1, 1) := by decide +kernel
theorem dX11_isEvent_17 : decode cX11_isEvent 17 = .ok (.isub, 1) := by decide +kernel
theorem dX11_isEvent_18 : decode cX11_isEvent 18 = .ok (.invokestatic 79, 3) := by decide +kernel
theorem dX11_isEvent_21 : decode cX11_isEvent 21 = .ok (.ifCond .eq 7, 3) := by decide +kernel
theorem dX11_isEvent_24 : decode cX11_isEvent 24 = .ok (.iconst 1, 1) := by decide +kernel
theorem dX11_isEvent_25 : decode cX11_isEvent 25 = .ok (.goto 4, 3) := by decide +kernel
theorem dX11_isEvent_28 : decode cX11_isEvent 28 = .ok (.iconst 0, 1) := by decide +kernel
theorem dX11_isEvent_29 : decode cX11_isEvent 29 = .ok (.ireturn, 1) := by decide +kernel
theorem dX11_process_0 : decode cX11_process 0 = .ok (.aload_n 0, 1) := by decide +kernel
theorem dX11_process_1 : decode cX11_process 1 = .ok (.getfield 76, 3) := by decide +kernel
theorem dX11_process_4 : decode cX11_process 4 = .ok (.iconst 4, 1) := by decide +kernel
theorem dX11_process_5 : decode cX11_process 5 = .ok (.if_icmp .ne 6, 3) := by decide +kernel
theorem dX11_process_8 : decode cX11_process 8 = .ok (.bipush (-4), 2) := by decide +kernel
theorem dX11_process_10 : decode cX11_process 10 = .ok (.ireturn, 1) := by decide +kernel
theorem dX11_process_11 : decode cX11_process 11 = .ok (.aload_n 0, 1) := by decide +kernel
theorem dX11_process_12 : decode cX11_process 12 = .ok (.getfield 7, 3) := by decide +kernel
theorem dX11_process_15 : decode cX11_process 15 = .ok (.aload_n 0, 1) := by decide +kernel
theorem dX11_process_16 : decode cX11_process 16 = .ok (.getfield 76, 3) := by decide +kernel
theorem dX11_process_19 : decode cX11_process 19 = .ok (.iconst 0, 1) := by decide +kernel
theorem dX11_process_20 : decode cX11_process 20 = .ok (.iastore, 1) := by decide +kernel
theorem dX11_process_21 : decode cX11_process 21 = .ok (.aload_n 0, 1) := by decide +kernel
theorem dX11_process_22 : decode cX11_process 22 = .ok (.dup, 1) := by decide +kernel
theorem dX11_process_23 : decode cX11_process 23 = .ok (.getfield 76, 3) := by decide +kernel
theorem dX11_process_26 : decode cX11_process 26 = .ok (.iconst 1, 1) := by decide +kernel
theorem dX11_process_27 : decode cX11_process 27 = .ok (.iadd, 1) := by decide +kernel
theorem dX11_process_28 : decode cX11_process 28 = .ok (.putfield 76, 3) := by decide +kernel
theorem dX11_process_31 : decode cX11_process 31 = .ok (.aload_n 0, 1) := by decide +kernel
theorem dX11_process_32 : decode cX11_process 32 = .ok (.getfield 76, 3) := by decide +kernel
theorem dX11_process_35 : decode cX11_process 35 = .ok (.iconst 1, 1) := by decide +kernel
theorem dX11_process_36 : decode cX11_process 36 = .ok (.isub, 1) := by decide +kernel
theorem dX11_process_37 : decode cX11_process 37 = .ok (.ireturn, 1) := by decide +kernel
theorem dX11_comes_0 : decode cX11_comes 0 = .ok (.bipush 6, 2) := by decide +kernel
theorem dX11_comes_2 : decode cX11_comes 2 = .ok (.iload_n 1, 1) := by decide +kernel
theorem dX11_comes_3 : decode cX11_comes 3 = .ok (.imul, 1) := by decide +kernel
theorem dX11_comes_4 : decode cX11_comes 4 = .ok (.aload_n 0, 1) := by decide +kernel
theorem dX11_comes_5 : decode cX11_comes 5 = .ok (.getfield 7, 3) := by decide +kernel
theorem dX11_comes_8 : decode cX11_comes 8 = .ok (.iload_n 1, 1) := by decide +kernel
theorem dX11_comes_9 : decode cX11_comes 9 = .ok (.iaload, 1) := by decide +kernel
theorem dX11_comes_10 : decode cX11_comes 10 = .ok (.iadd, 1) := by decide +kernel
theorem dX11_comes_11 : decode cX11_comes 11 = .ok (.istore 5, 2) := by decide +kernel
theorem dX11_comes_13 : decode cX11_comes 13 = .ok (.aload_n 0, 1) := by decide +kernel
theorem dX11_comes_14 : decode cX11_comes 14 = .ok (.getfield 13, 3) := by decide +kernel
theorem dX11_comes_17 : decode cX11_comes 17 = .ok (.iload 5, 2) := by decide +kernel
theorem dX11_comes_19 : decode cX11_comes 19 = .ok (.iload_n 2, 1) := by decide +kernel
theorem dX11_comes_20 : decode cX11_comes 20 = .ok (.iastore, 1) := by decide +kernel
theorem dX11_comes_21 : decode cX11_comes 21 = .ok (.aload_n 0, 1) := by decide +kernel
theorem dX11_comes_22 : decode cX11_comes 22 = .ok (.getfield 16, 3) := by decide +kernel
theorem dX11_comes_25 : decode cX11_comes 25 = .ok (.iload 5, 2) := by decide +kernel
theorem dX11_comes_27 : decode cX11_comes 27 = .ok (.iload_n 3, 1) := by decide +kernel
theorem dX11_comes_28 : decode cX11_comes 28 = .ok (.iastore, 1) := by decide +kernel
theorem dX11_comes_29 : decode cX11_comes 29 = .ok (.aload_n 0, 1) := by decide +kernel
theorem dX11_comes_30 : decode cX11_comes 30 = .ok (.getfield 19, 3) := by decide +kernel
theorem dX11_comes_33 : decode cX11_comes 33 = .ok (.iload 5, 2) := by decide +kernel
theorem dX11_comes_35 : decode cX11_comes 35 = .ok (.iload 4, 2) := by decide +kernel
theorem dX11_comes_37 : decode cX11_comes 37 = .ok (.iastore, 1) := by decide +kernel
theorem dX11_comes_38 : decode cX11_comes 38 = .ok (.aload_n 0, 1) := by decide +kernel
theorem dX11_comes_39 : decode cX11_comes 39 = .ok (.getfield 22, 3) := by decide +kernel
theorem dX11_comes_42 : decode cX11_comes 42 = .ok (.iload 5, 2) := by decide +kernel
theorem dX11_comes_44 : decode cX11_comes 44 = .ok (.aload_n 0, 1) := by decide +kernel
theorem dX11_comes_45 : decode cX11_comes 45 = .ok (.getfield 87, 3) := by decide +kernel
theorem dX11_comes_48 : decode cX11_comes 48 = .ok (.iastore, 1) := by decide +kernel
theorem dX11_comes_49 : decode cX11_comes 49 = .ok (.iconst 0, 1) := by decide +kernel
theorem dX11_comes_50 : decode cX11_comes 50 = .ok (.istore 6, 2) := by decide +kernel
theorem dX11_comes_52 : decode cX11_comes 52 = .ok (.iload 6, 2) := by decide +kernel
theorem dX11_comes_54 : decode cX11_comes 54 = .ok (.iconst 4, 1) := by decide +kernel
theorem dX11_comes_55 : decode cX11_comes 55 = .ok (.if_icmp .ge 48, 3) := by decide +kernel
theorem dX11_comes_58 : decode cX11_comes 58 = .ok (.aload_n 0, 1) := by decide +kernel
theorem dX11_comes_59 : decode cX11_comes 59 = .ok (.getfield 25, 3) := by decide +kernel
theorem dX11_comes_62 : decode cX11_comes 62 = .ok (.iconst 4, 1) := by decide +kernel
theorem dX11_comes_63 : decode cX11_comes 63 = .ok (.iload 5, 2) := by decide +kernel
theorem dX11_comes_65 : decode cX11_comes 65 = .ok (.imul, 1) := by decide +kernel
theorem dX11_comes_66 : decode cX11_comes 66 = .ok (.iload 6, 2) := by decide +kernel
theorem dX11_comes_68 : decode cX11_comes 68 = .ok (.iadd, 1) := by decide +kernel
theorem dX11_comes_69 : decode cX11_comes 69 = .ok (.aload_n 0, 1) := by decide +kernel
theorem dX11_comes_70 : decode cX11_comes 70 = .ok (.getfield 7, 3) := by decide +kernel
theorem dX11_comes_73 : decode cX11_comes 73 = .ok (.iload_n 1, 1) := by decide +kernel
theorem dX11_comes_74 : decode cX11_comes 74 = .ok (.iaload, 1) := by decide +kernel
theorem dX11_comes_75 : decode cX11_comes 75 = .ok (.ifCond .ne 7, 3) := by decide +kernel
theorem dX11_comes_78 : decode cX11_comes 78 = .ok (.iconst 0, 1) := by decide +kernel
theorem dX11_comes_79 : decode cX11_comes 79 = .ok (.goto 17, 3) := by decide +kernel
theorem dX11_comes_82 : decode cX11_comes 82 = .ok (.aload_n 0, 1) := by decide +kernel
theorem dX11_comes_83 : decode cX11_comes 83 = .ok (.getfield 25, 3) := by decide +kernel
theorem dX11_comes_86 : decode cX11_comes 86 = .ok (.iconst 4, 1) := by decide +kernel
theorem dX11_comes_87 : decode cX11_comes 87 = .ok (.iload 5, 2) := by decide +kernel
theorem dX11_comes_89 : decode cX11_comes 89 = .ok (.imul, 1) := by decide +kernel
theorem dX11_comes_90 : decode cX11_comes 90 = .ok (.iconst 4, 1) := by decide +kernel
theorem dX11_comes_91 : decode cX11_comes 91 = .ok (.isub, 1) := by decide +kernel
theorem dX11_comes_92 : decode cX11_comes 92 = .ok (.iload 6, 2) := by decide +kernel
theorem dX11_comes_94 : decode cX11_comes 94 = .ok (.iadd, 1) := by decide +kernel
theorem dX11_comes_95 : decode cX11_comes 95 = .ok (.iaload, 1) := by decide +kernel
theorem dX11_comes_96 : decode cX11_comes 96 = .ok (.iastore, 1) := by decide +kernel
theorem dX11_comes_97 : decode cX11_comes 97 = .ok (.iinc 6 1, 3) := by decide +kernel
theorem dX11_comes_100 : decode cX11_comes 100 = .ok (.goto (-48), 3) := by decide +kernel
theorem dX11_comes_103 : decode cX11_comes 103 = .ok (.aload_n 0, 1) := by decide +kernel
theorem dX11_comes_104 : decode cX11_comes 104 = .ok (.getfield 7, 3) := by decide +kernel
theorem dX11_comes_107 : decode cX11_comes 107 = .ok (.iload_n 1, 1) := by decide +kernel
theorem dX11_comes_108 : decode cX11_comes 108 = .ok (.dup2, 1) := by decide +kernel
theorem dX11_comes_109 : decode cX11_comes 109 = .ok (.iaload, 1) := by decide +kernel
theorem dX11_comes_110 : decode cX11_comes 110 = .ok (.iconst 1, 1) := by decide +kernel
theorem dX11_comes_111 : decode cX11_comes 111 = .ok (.iadd, 1) := by decide +kernel
theorem dX11_comes_112 : decode cX11_comes 112 = .ok (.iastore, 1) := by decide +kernel
theorem dX11_comes_113 : decode cX11_comes 113 = .ok (.aload_n 0, 1) := by decide +kernel
theorem dX11_comes_114 : decode cX11_comes 114 = .ok (.getfield 25, 3) := by decide +kernel
theorem dX11_comes_117 : decode cX11_comes 117 = .ok (.iconst 4, 1) := by decide +kernel
theorem dX11_comes_118 : decode cX11_comes 118 = .ok (.iload 5, 2) := by decide +kernel
theorem dX11_comes_120 : decode cX11_comes 120 = .ok (.imul, 1) := by decide +kernel
theorem dX11_comes_121 : decode cX11_comes 121 = .ok (.iload_n 1, 1) := by decide +kernel
theorem dX11_comes_122 : decode cX11_comes 122 = .ok (.iadd, 1) := by decide +kernel
theorem dX11_comes_123 : decode cX11_comes 123 = .ok (.aload_n 0, 1) := by decide +kernel
theorem dX11_comes_124 : decode cX11_comes 124 = .ok (.getfield 7, 3) := by decide +kernel
theorem dX11_comes_127 : decode cX11_comes 127 = .ok (.iload_n 1, 1) := by decide +kernel
theorem dX11_comes_128 : decode cX11_comes 128 = .ok (.iaload, 1) := by decide +kernel
theorem dX11_comes_129 : decode cX11_comes 129 = .ok (.iastore, 1) := by decide +kernel
theorem dX11_comes_130 : decode cX11_comes 130 = .ok (.aload_n 0, 1) := by decide +kernel
theorem dX11_comes_131 : decode cX11_comes 131 = .ok (.dup, 1) := by decide +kernel
theorem dX11_comes_132 : decode cX11_comes 132 = .ok (.getfield 87, 3) := by decide +kernel
theorem dX11_comes_135 : decode cX11_comes 135 = .ok (.iconst 1, 1) := by decide +kernel
theorem dX11_comes_136 : decode cX11_comes 136 = .ok (.iadd, 1) := by decide +kernel
theorem dX11_comes_137 : decode cX11_comes 137 = .ok (.putfield 87, 3) := by decide +kernel
theorem dX11_comes_140 : decode cX11_comes 140 = .ok (.iload 5, 2) := by decide +kernel
theorem dX11_comes_142 : decode cX11_comes 142 = .ok (.ireturn, 1) := by decide +kernel
theorem dX11_joins_0 : decode cX11_joins 0 = .ok (.iconst 0, 1) := by decide +kernel
theorem dX11_joins_1 : decode cX11_joins 1 = .ok (.istore_n 3, 1) := by decide +kernel
theorem dX11_joins_2 : decode cX11_joins 2 = .ok (.iload_n 3, 1) := by decide +kernel
theorem dX11_joins_3 : decode cX11_joins 3 = .ok (.iconst 4, 1) := by decide +kernel
theorem dX11_joins_4 : decode cX11_joins 4 = .ok (.if_icmp .ge 52, 3) := by decide +kernel
theorem dX11_joins_7 : decode cX11_joins 7 = .ok (.aload_n 0, 1) := by decide +kernel
theorem dX11_joins_8 : decode cX11_joins 8 = .ok (.getfield 25, 3) := by decide +kernel
theorem dX11_joins_11 : decode cX11_joins 11 = .ok (.iconst 4, 1) := by decide +kernel
theorem dX11_joins_12 : decode cX11_joins 12 = .ok (.iload_n 2, 1) := by decide +kernel
theorem dX11_joins_13 : decode cX11_joins 13 = .ok (.imul, 1) := by decide +kernel
theorem dX11_joins_14 : decode cX11_joins 14 = .ok (.iload_n 3, 1) := by decide +kernel
theorem dX11_joins_15 : decode cX11_joins 15 = .ok (.iadd, 1) := by decide +kernel
theorem dX11_joins_16 : decode cX11_joins 16 = .ok (.iaload, 1) := by decide +kernel
theorem dX11_joins_17 : decode cX11_joins 17 = .ok (.aload_n 0, 1) := by decide +kernel
theorem dX11_joins_18 : decode cX11_joins 18 = .ok (.getfield 25, 3) := by decide +kernel
theorem dX11_joins_21 : decode cX11_joins 21 = .ok (.iconst 4, 1) := by decide +kernel
theorem dX11_joins_22 : decode cX11_joins 22 = .ok (.iload_n 1, 1) := by decide +kernel
theorem dX11_joins_23 : decode cX11_joins 23 = .ok (.imul, 1) := by decide +kernel
theorem dX11_joins_24 : decode cX11_joins 24 = .ok (.iload_n 3, 1) := by decide +kernel
theorem dX11_joins_25 : decode cX11_joins 25 = .ok (.iadd, 1) := by decide +kernel
theorem dX11_joins_26 : decode cX11_joins 26 = .ok (.iaload, 1) := by decide +kernel
theorem dX11_joins_27 : decode cX11_joins 27 = .ok (.if_icmp .le 23, 3) := by decide +kernel
theorem dX11_joins_30 : decode cX11_joins 30 = .ok (.aload_n 0, 1) := by decide +kernel
theorem dX11_joins_31 : decode cX11_joins 31 = .ok (.getfield 25, 3) := by decide +kernel
theorem dX11_joins_34 : decode cX11_joins 34 = .ok (.iconst 4, 1) := by decide +kernel
theorem dX11_joins_35 : decode cX11_joins 35 = .ok (.iload_n 1, 1) := by decide +kernel
theorem dX11_joins_36 : decode cX11_joins 36 = .ok (.imul, 1) := by decide +kernel
theorem dX11_joins_37 : decode cX11_joins 37 = .ok (.iload_n 3, 1) := by decide +kernel
theorem dX11_joins_38 : decode cX11_joins 38 = .ok (.iadd, 1) := by decide +kernel
theorem dX11_joins_39 : decode cX11_joins 39 = .ok (.aload_n 0, 1) := by decide +kernel
theorem dX11_joins_40 : decode cX11_joins 40 = .ok (.getfield 25, 3) := by decide +kernel
theorem dX11_joins_43 : decode cX11_joins 43 = .ok (.iconst 4, 1) := by decide +kernel
theorem dX11_joins_44 : decode cX11_joins 44 = .ok (.iload_n 2, 1) := by decide +kernel
theorem dX11_joins_45 : decode cX11_joins 45 = .ok (.imul, 1) := by decide +kernel
theorem dX11_joins_46 : decode cX11_joins 46 = .ok (.iload_n 3, 1) := by decide +kernel
theorem dX11_joins_47 : decode cX11_joins 47 = .ok (.iadd, 1) := by decide +kernel
theorem dX11_joins_48 : decode cX11_joins 48 = .ok (.iaload, 1) := by decide +kernel
theorem dX11_joins_49 : decode cX11_joins 49 = .ok (.iastore, 1) := by decide +kernel
theorem dX11_joins_50 : decode cX11_joins 50 = .ok (.iinc 3 1, 3) := by decide +kernel
theorem dX11_joins_53 : decode cX11_joins 53 = .ok (.goto (-51), 3) := by decide +kernel
theorem dX11_joins_56 : decode cX11_joins 56 = .ok (.return_, 1) := by decide +kernel
theorem dX11_own_0 : decode cX11_own 0 = .ok (.aload_n 0, 1) := by decide +kernel
theorem dX11_own_1 : decode cX11_own 1 = .ok (.iload_n 1, 1) := by decide +kernel
theorem dX11_own_2 : decode cX11_own 2 = .ok (.invokevirtual 83, 3) := by decide +kernel
theorem dX11_own_5 : decode cX11_own 5 = .ok (.ifCond .eq 12, 3) := by decide +kernel
theorem dX11_own_8 : decode cX11_own 8 = .ok (.iload_n 2, 1) := by decide +kernel
theorem dX11_own_9 : decode cX11_own 9 = .ok (.iconst 0, 1) := by decide +kernel
theorem dX11_own_10 : decode cX11_own 10 = .ok (.iconst 2, 1) := by decide +kernel
theorem dX11_own_11 : decode cX11_own 11 = .ok (.invokestatic 79, 3) := by decide +kernel
theorem dX11_own_14 : decode cX11_own 14 = .ok (.ifCond .ne 5, 3) := by decide +kernel
theorem dX11_own_17 : decode cX11_own 17 = .ok (.iconst (-1), 1) := by decide +kernel
theorem dX11_own_18 : decode cX11_own 18 = .ok (.ireturn, 1) := by decide +kernel
theorem dX11_own_19 : decode cX11_own 19 = .ok (.iload 4, 2) := by decide +kernel
theorem dX11_own_21 : decode cX11_own 21 = .ok (.iconst 0, 1) := by decide +kernel
theorem dX11_own_22 : decode cX11_own 22 = .ok (.iconst 1, 1) := by decide +kernel
theorem dX11_own_23 : decode cX11_own 23 = .ok (.invokestatic 79, 3) := by decide +kernel
theorem dX11_own_26 : decode cX11_own 26 = .ok (.ifCond .ne 6, 3) := by decide +kernel
theorem dX11_own_29 : decode cX11_own 29 = .ok (.bipush (-2), 2) := by decide +kernel
theorem dX11_own_31 : decode cX11_own 31 = .ok (.ireturn, 1) := by decide +kernel
theorem dX11_own_32 : decode cX11_own 32 = .ok (.aload_n 0, 1) := by decide +kernel
theorem dX11_own_33 : decode cX11_own 33 = .ok (.getfield 7, 3) := by decide +kernel
theorem dX11_own_36 : decode cX11_own 36 = .ok (.iload_n 1, 1) := by decide +kernel
theorem dX11_own_37 : decode cX11_own 37 = .ok (.iaload, 1) := by decide +kernel
theorem dX11_own_38 : decode cX11_own 38 = .ok (.bipush 6, 2) := by decide +kernel
theorem dX11_own_40 : decode cX11_own 40 = .ok (.if_icmp .ne 6, 3) := by decide +kernel
theorem dX11_own_43 : decode cX11_own 43 = .ok (.bipush (-4), 2) := by decide +kernel
theorem dX11_own_45 : decode cX11_own 45 = .ok (.ireturn, 1) := by decide +kernel
theorem dX11_own_46 : decode cX11_own 46 = .ok (.aload_n 0, 1) := by decide +kernel
theorem dX11_own_47 : decode cX11_own 47 = .ok (.iload_n 1, 1) := by decide +kernel
theorem dX11_own_48 : decode cX11_own 48 = .ok (.iload 4, 2) := by decide +kernel
theorem dX11_own_50 : decode cX11_own 50 = .ok (.iconst 1, 1) := by decide +kernel
theorem dX11_own_51 : decode cX11_own 51 = .ok (.if_icmp .ne 7, 3) := by decide +kernel
theorem dX11_own_54 : decode cX11_own 54 = .ok (.iconst 1, 1) := by decide +kernel
theorem dX11_own_55 : decode cX11_own 55 = .ok (.goto 4, 3) := by decide +kernel
theorem dX11_own_58 : decode cX11_own 58 = .ok (.iconst 0, 1) := by decide +kernel
theorem dX11_own_59 : decode cX11_own 59 = .ok (.iload_n 2, 1) := by decide +kernel
theorem dX11_own_60 : decode cX11_own 60 = .ok (.iload_n 3, 1) := by decide +kernel
theorem dX11_own_61 : decode cX11_own 61 = .ok (.invokevirtual 90, 3) := by decide +kernel
theorem dX11_own_64 : decode cX11_own 64 = .ok (.istore 5, 2) := by decide +kernel
theorem dX11_own_66 : decode cX11_own 66 = .ok (.aload_n 0, 1) := by decide +kernel
theorem dX11_own_67 : decode cX11_own 67 = .ok (.getfield 7, 3) := by decide +kernel
theorem dX11_own_70 : decode cX11_own 70 = .ok (.iload_n 1, 1) := by decide +kernel
theorem dX11_own_71 : decode cX11_own 71 = .ok (.iaload, 1) := by decide +kernel
theorem dX11_own_72 : decode cX11_own 72 = .ok (.ireturn, 1) := by decide +kernel
end
section
theorem dX11_send_0 : decode cX11_send 0 = .ok (.aload_n 0, 1) := by decide +kernel
theorem dX11_send_1 : decode cX11_send 1 = .ok (.iload_n 1, 1) := by decide +kernel
theorem dX11_send_2 : decode cX11_send 2 = .ok (.invokevirtual 83, 3) := by decide +kernel
theorem dX11_send_5 : decode cX11_send 5 = .ok (.ifCond .eq 11, 3) := by decide +kernel
theorem dX11_send_8 : decode cX11_send 8 = .ok (.aload_n 0, 1) := by decide +kernel
theorem dX11_send_9 : decode cX11_send 9 = .ok (.iload_n 2, 1) := by decide +kernel
theorem dX11_send_10 : decode cX11_send 10 = .ok (.invokevirtual 83, 3) := by decide +kernel
theorem dX11_send_13 : decode cX11_send 13 = .ok (.ifCond .ne 5, 3) := by decide +kernel
theorem dX11_send_16 : decode cX11_send 16 = .ok (.iconst (-1), 1) := by decide +kernel
theorem dX11_send_17 : decode cX11_send 17 = .ok (.ireturn, 1) := by decide +kernel
theorem dX11_send_18 : decode cX11_send 18 = .ok (.iload_n 1, 1) := by decide +kernel
theorem dX11_send_19 : decode cX11_send 19 = .ok (.iload_n 2, 1) := by decide +kernel
theorem dX11_send_20 : decode cX11_send 20 = .ok (.if_icmp .ne 6, 3) := by decide +kernel
theorem dX11_send_23 : decode cX11_send 23 = .ok (.bipush (-2), 2) := by decide +kernel
theorem dX11_send_25 : decode cX11_send 25 = .ok (.ireturn, 1) := by decide +kernel
theorem dX11_send_26 : decode cX11_send 26 = .ok (.aload_n 0, 1) := by decide +kernel
theorem dX11_send_27 : decode cX11_send 27 = .ok (.getfield 7, 3) := by decide +kernel
theorem dX11_send_30 : decode cX11_send 30 = .ok (.iload_n 1, 1) := by decide +kernel
theorem dX11_send_31 : decode cX11_send 31 = .ok (.iaload, 1) := by decide +kernel
theorem dX11_send_32 : decode cX11_send 32 = .ok (.bipush 6, 2) := by decide +kernel
theorem dX11_send_34 : decode cX11_send 34 = .ok (.if_icmp .ne 6, 3) := by decide +kernel
theorem dX11_send_37 : decode cX11_send 37 = .ok (.bipush (-4), 2) := by decide +kernel
theorem dX11_send_39 : decode cX11_send 39 = .ok (.ireturn, 1) := by decide +kernel
theorem dX11_send_40 : decode cX11_send 40 = .ok (.aload_n 0, 1) := by decide +kernel
theorem dX11_send_41 : decode cX11_send 41 = .ok (.getfield 28, 3) := by decide +kernel
theorem dX11_send_44 : decode cX11_send 44 = .ok (.aload_n 0, 1) := by decide +kernel
theorem dX11_send_45 : decode cX11_send 45 = .ok (.getfield 94, 3) := by decide +kernel
theorem dX11_send_48 : decode cX11_send 48 = .ok (.iload_n 1, 1) := by decide +kernel
theorem dX11_send_49 : decode cX11_send 49 = .ok (.iastore, 1) := by decide +kernel
theorem dX11_send_50 : decode cX11_send 50 = .ok (.aload_n 0, 1) := by decide +kernel
theorem dX11_send_51 : decode cX11_send 51 = .ok (.getfield 31, 3) := by decide +kernel
theorem dX11_send_54 : decode cX11_send 54 = .ok (.aload_n 0, 1) := by decide +kernel
theorem dX11_send_55 : decode cX11_send 55 = .ok (.getfield 94, 3) := by decide +kernel
theorem dX11_send_58 : decode cX11_send 58 = .ok (.iload_n 2, 1) := by decide +kernel
theorem dX11_send_59 : decode cX11_send 59 = .ok (.iastore, 1) := by decide +kernel
theorem dX11_send_60 : decode cX11_send 60 = .ok (.aload_n 0, 1) := by decide +kernel
theorem dX11_send_61 : decode cX11_send 61 = .ok (.getfield 34, 3) := by decide +kernel
theorem dX11_send_64 : decode cX11_send 64 = .ok (.aload_n 0, 1) := by decide +kernel
theorem dX11_send_65 : decode cX11_send 65 = .ok (.getfield 94, 3) := by decide +kernel
theorem dX11_send_68 : decode cX11_send 68 = .ok (.aload_n 0, 1) := by decide +kernel
theorem dX11_send_69 : decode cX11_send 69 = .ok (.getfield 7, 3) := by decide +kernel
theorem dX11_send_72 : decode cX11_send 72 = .ok (.iload_n 1, 1) := by decide +kernel
theorem dX11_send_73 : decode cX11_send 73 = .ok (.iaload, 1) := by decide +kernel
theorem dX11_send_74 : decode cX11_send 74 = .ok (.iastore, 1) := by decide +kernel
theorem dX11_send_75 : decode cX11_send 75 = .ok (.aload_n 0, 1) := by decide +kernel
theorem dX11_send_76 : decode cX11_send 76 = .ok (.getfield 37, 3) := by decide +kernel
theorem dX11_send_79 : decode cX11_send 79 = .ok (.aload_n 0, 1) := by decide +kernel
theorem dX11_send_80 : decode cX11_send 80 = .ok (.getfield 94, 3) := by decide +kernel
theorem dX11_send_83 : decode cX11_send 83 = .ok (.iconst (-1), 1) := by decide +kernel
theorem dX11_send_84 : decode cX11_send 84 = .ok (.iastore, 1) := by decide +kernel
theorem dX11_send_85 : decode cX11_send 85 = .ok (.aload_n 0, 1) := by decide +kernel
theorem dX11_send_86 : decode cX11_send 86 = .ok (.iload_n 1, 1) := by decide +kernel
theorem dX11_send_87 : decode cX11_send 87 = .ok (.iconst 2, 1) := by decide +kernel
theorem dX11_send_88 : decode cX11_send 88 = .ok (.aload_n 0, 1) := by decide +kernel
theorem dX11_send_89 : decode cX11_send 89 = .ok (.getfield 94, 3) := by decide +kernel
theorem dX11_send_92 : decode cX11_send 92 = .ok (.iconst 0, 1) := by decide +kernel
theorem dX11_send_93 : decode cX11_send 93 = .ok (.invokevirtual 90, 3) := by decide +kernel
theorem dX11_send_96 : decode cX11_send 96 = .ok (.istore_n 3, 1) := by decide +kernel
theorem dX11_send_97 : decode cX11_send 97 = .ok (.aload_n 0, 1) := by decide +kernel
theorem dX11_send_98 : decode cX11_send 98 = .ok (.dup, 1) := by decide +kernel
theorem dX11_send_99 : decode cX11_send 99 = .ok (.getfield 94, 3) := by decide +kernel
theorem dX11_send_102 : decode cX11_send 102 = .ok (.iconst 1, 1) := by decide +kernel
theorem dX11_send_103 : decode cX11_send 103 = .ok (.iadd, 1) := by decide +kernel
theorem dX11_send_104 : decode cX11_send 104 = .ok (.putfield 94, 3) := by decide +kernel
theorem dX11_send_107 : decode cX11_send 107 = .ok (.aload_n 0, 1) := by decide +kernel
theorem dX11_send_108 : decode cX11_send 108 = .ok (.getfield 94, 3) := by decide +kernel
theorem dX11_send_111 : decode cX11_send 111 = .ok (.iconst 1, 1) := by decide +kernel
theorem dX11_send_112 : decode cX11_send 112 = .ok (.isub, 1) := by decide +kernel
theorem dX11_send_113 : decode cX11_send 113 = .ok (.ireturn, 1) := by decide +kernel
theorem dX11_take_0 : decode cX11_take 0 = .ok (.iload_n 1, 1) := by decide +kernel
theorem dX11_take_1 : decode cX11_take 1 = .ok (.iconst 0, 1) := by decide +kernel
theorem dX11_take_2 : decode cX11_take 2 = .ok (.aload_n 0, 1) := by decide +kernel
theorem dX11_take_3 : decode cX11_take 3 = .ok (.getfield 94, 3) := by decide +kernel
theorem dX11_take_6 : decode cX11_take 6 = .ok (.iconst 1, 1) := by decide +kernel
theorem dX11_take_7 : decode cX11_take 7 = .ok (.isub, 1) := by decide +kernel
theorem dX11_take_8 : decode cX11_take 8 = .ok (.invokestatic 79, 3) := by decide +kernel
theorem dX11_take_11 : decode cX11_take 11 = .ok (.ifCond .ne 5, 3) := by decide +kernel
theorem dX11_take_14 : decode cX11_take 14 = .ok (.iconst (-1), 1) := by decide +kernel
theorem dX11_take_15 : decode cX11_take 15 = .ok (.ireturn, 1) := by decide +kernel
theorem dX11_take_16 : decode cX11_take 16 = .ok (.aload_n 0, 1) := by decide +kernel
theorem dX11_take_17 : decode cX11_take 17 = .ok (.getfield 37, 3) := by decide +kernel
theorem dX11_take_20 : decode cX11_take 20 = .ok (.iload_n 1, 1) := by decide +kernel
theorem dX11_take_21 : decode cX11_take 21 = .ok (.iaload, 1) := by decide +kernel
theorem dX11_take_22 : decode cX11_take 22 = .ok (.iconst (-1), 1) := by decide +kernel
theorem dX11_take_23 : decode cX11_take 23 = .ok (.if_icmp .eq 6, 3) := by decide +kernel
theorem dX11_take_26 : decode cX11_take 26 = .ok (.bipush (-3), 2) := by decide +kernel
theorem dX11_take_28 : decode cX11_take 28 = .ok (.ireturn, 1) := by decide +kernel
theorem dX11_take_29 : decode cX11_take 29 = .ok (.aload_n 0, 1) := by decide +kernel
theorem dX11_take_30 : decode cX11_take 30 = .ok (.getfield 31, 3) := by decide +kernel
theorem dX11_take_33 : decode cX11_take 33 = .ok (.iload_n 1, 1) := by decide +kernel
theorem dX11_take_34 : decode cX11_take 34 = .ok (.iaload, 1) := by decide +kernel
theorem dX11_take_35 : decode cX11_take 35 = .ok (.istore_n 2, 1) := by decide +kernel
theorem dX11_take_36 : decode cX11_take 36 = .ok (.aload_n 0, 1) := by decide +kernel
theorem dX11_take_37 : decode cX11_take 37 = .ok (.getfield 7, 3) := by decide +kernel
theorem dX11_take_40 : decode cX11_take 40 = .ok (.iload_n 2, 1) := by decide +kernel
theorem dX11_take_41 : decode cX11_take 41 = .ok (.iaload, 1) := by decide +kernel
theorem dX11_take_42 : decode cX11_take 42 = .ok (.bipush 6, 2) := by decide +kernel
theorem dX11_take_44 : decode cX11_take 44 = .ok (.if_icmp .ne 6, 3) := by decide +kernel
theorem dX11_take_47 : decode cX11_take 47 = .ok (.bipush (-4), 2) := by decide +kernel
theorem dX11_take_49 : decode cX11_take 49 = .ok (.ireturn, 1) := by decide +kernel
theorem dX11_take_50 : decode cX11_take 50 = .ok (.aload_n 0, 1) := by decide +kernel
theorem dX11_take_51 : decode cX11_take 51 = .ok (.getfield 37, 3) := by decide +kernel
theorem dX11_take_54 : decode cX11_take 54 = .ok (.iload_n 1, 1) := by decide +kernel
theorem dX11_take_55 : decode cX11_take 55 = .ok (.aload_n 0, 1) := by decide +kernel
theorem dX11_take_56 : decode cX11_take 56 = .ok (.getfield 7, 3) := by decide +kernel
theorem dX11_take_59 : decode cX11_take 59 = .ok (.iload_n 2, 1) := by decide +kernel
theorem dX11_take_60 : decode cX11_take 60 = .ok (.iaload, 1) := by decide +kernel
theorem dX11_take_61 : decode cX11_take 61 = .ok (.iastore, 1) := by decide +kernel
theorem dX11_take_62 : decode cX11_take 62 = .ok (.aload_n 0, 1) := by decide +kernel
theorem dX11_take_63 : decode cX11_take 63 = .ok (.iload_n 2, 1) := by decide +kernel
theorem dX11_take_64 : decode cX11_take 64 = .ok (.iconst 3, 1) := by decide +kernel
theorem dX11_take_65 : decode cX11_take 65 = .ok (.iload_n 1, 1) := by decide +kernel
theorem dX11_take_66 : decode cX11_take 66 = .ok (.iconst 0, 1) := by decide +kernel
theorem dX11_take_67 : decode cX11_take 67 = .ok (.invokevirtual 90, 3) := by decide +kernel
theorem dX11_take_70 : decode cX11_take 70 = .ok (.istore_n 3, 1) := by decide +kernel
theorem dX11_take_71 : decode cX11_take 71 = .ok (.aload_n 0, 1) := by decide +kernel
theorem dX11_take_72 : decode cX11_take 72 = .ok (.iload_n 3, 1) := by decide +kernel
theorem dX11_take_73 : decode cX11_take 73 = .ok (.bipush 6, 2) := by decide +kernel
theorem dX11_take_75 : decode cX11_take 75 = .ok (.aload_n 0, 1) := by decide +kernel
theorem dX11_take_76 : decode cX11_take 76 = .ok (.getfield 28, 3) := by decide +kernel
theorem dX11_take_79 : decode cX11_take 79 = .ok (.iload_n 1, 1) := by decide +kernel
theorem dX11_take_80 : decode cX11_take 80 = .ok (.iaload, 1) := by decide +kernel
theorem dX11_take_81 : decode cX11_take 81 = .ok (.imul, 1) := by decide +kernel
theorem dX11_take_82 : decode cX11_take 82 = .ok (.aload_n 0, 1) := by decide +kernel
theorem dX11_take_83 : decode cX11_take 83 = .ok (.getfield 34, 3) := by decide +kernel
theorem dX11_take_86 : decode cX11_take 86 = .ok (.iload_n 1, 1) := by decide +kernel
theorem dX11_take_87 : decode cX11_take 87 = .ok (.iaload, 1) := by decide +kernel
theorem dX11_take_88 : decode cX11_take 88 = .ok (.iadd, 1) := by decide +kernel
theorem dX11_take_89 : decode cX11_take 89 = .ok (.invokevirtual 97, 3) := by decide +kernel
theorem dX11_take_92 : decode cX11_take 92 = .ok (.aload_n 0, 1) := by decide +kernel
theorem dX11_take_93 : decode cX11_take 93 = .ok (.getfield 7, 3) := by decide +kernel
theorem dX11_take_96 : decode cX11_take 96 = .ok (.iload_n 2, 1) := by decide +kernel
theorem dX11_take_97 : decode cX11_take 97 = .ok (.iaload, 1) := by decide +kernel
theorem dX11_take_98 : decode cX11_take 98 = .ok (.ireturn, 1) := by decide +kernel
theorem dX11_wait_0 : decode cX11_wait 0 = .ok (.aload_n 0, 1) := by decide +kernel
theorem dX11_wait_1 : decode cX11_wait 1 = .ok (.iload_n 1, 1) := by decide +kernel
theorem dX11_wait_2 : decode cX11_wait 2 = .ok (.invokevirtual 83, 3) := by decide +kernel
theorem dX11_wait_5 : decode cX11_wait 5 = .ok (.ifCond .eq 11, 3) := by decide +kernel
theorem dX11_wait_8 : decode cX11_wait 8 = .ok (.aload_n 0, 1) := by decide +kernel
theorem dX11_wait_9 : decode cX11_wait 9 = .ok (.iload_n 2, 1) := by decide +kernel
theorem dX11_wait_10 : decode cX11_wait 10 = .ok (.invokevirtual 83, 3) := by decide +kernel
theorem dX11_wait_13 : decode cX11_wait 13 = .ok (.ifCond .ne 5, 3) := by decide +kernel
theorem dX11_wait_16 : decode cX11_wait 16 = .ok (.iconst (-1), 1) := by decide +kernel
theorem dX11_wait_17 : decode cX11_wait 17 = .ok (.ireturn, 1) := by decide +kernel
theorem dX11_wait_18 : decode cX11_wait 18 = .ok (.iload_n 1, 1) := by decide +kernel
theorem dX11_wait_19 : decode cX11_wait 19 = .ok (.iload_n 2, 1) := by decide +kernel
theorem dX11_wait_20 : decode cX11_wait 20 = .ok (.if_icmp .ne 6, 3) := by decide +kernel
theorem dX11_wait_23 : decode cX11_wait 23 = .ok (.bipush (-2), 2) := by decide +kernel
theorem dX11_wait_25 : decode cX11_wait 25 = .ok (.ireturn, 1) := by decide +kernel
theorem dX11_wait_26 : decode cX11_wait 26 = .ok (.aload_n 0, 1) := by decide +kernel
theorem dX11_wait_27 : decode cX11_wait 27 = .ok (.getfield 7, 3) := by decide +kernel
theorem dX11_wait_30 : decode cX11_wait 30 = .ok (.iload_n 1, 1) := by decide +kernel
theorem dX11_wait_31 : decode cX11_wait 31 = .ok (.iaload, 1) := by decide +kernel
theorem dX11_wait_32 : decode cX11_wait 32 = .ok (.bipush 6, 2) := by decide +kernel
theorem dX11_wait_34 : decode cX11_wait 34 = .ok (.if_icmp .ne 6, 3) := by decide +kernel
theorem dX11_wait_37 : decode cX11_wait 37 = .ok (.bipush (-4), 2) := by decide +kernel
theorem dX11_wait_39 : decode cX11_wait 39 = .ok (.ireturn, 1) := by decide +kernel
theorem dX11_wait_40 : decode cX11_wait 40 = .ok (.aload_n 0, 1) := by decide +kernel
theorem dX11_wait_41 : decode cX11_wait 41 = .ok (.iload_n 1, 1) := by decide +kernel
theorem dX11_wait_42 : decode cX11_wait 42 = .ok (.iconst 4, 1) := by decide +kernel
theorem dX11_wait_43 : decode cX11_wait 43 = .ok (.iload_n 2, 1) := by decide +kernel
theorem dX11_wait_44 : decode cX11_wait 44 = .ok (.iconst 0, 1) := by decide +kernel
theorem dX11_wait_45 : decode cX11_wait 45 = .ok (.invokevirtual 90, 3) := by decide +kernel
theorem dX11_wait_48 : decode cX11_wait 48 = .ok (.istore_n 3, 1) := by decide +kernel
theorem dX11_wait_49 : decode cX11_wait 49 = .ok (.aload_n 0, 1) := by decide +kernel
theorem dX11_wait_50 : decode cX11_wait 50 = .ok (.getfield 7, 3) := by decide +kernel
theorem dX11_wait_53 : decode cX11_wait 53 = .ok (.iload_n 2, 1) := by decide +kernel
theorem dX11_wait_54 : decode cX11_wait 54 = .ok (.iaload, 1) := by decide +kernel
theorem dX11_wait_55 : decode cX11_wait 55 = .ok (.ifCond .le 21, 3) := by decide +kernel
theorem dX11_wait_58 : decode cX11_wait 58 = .ok (.aload_n 0, 1) := by decide +kernel
theorem dX11_wait_59 : decode cX11_wait 59 = .ok (.iload_n 3, 1) := by decide +kernel
theorem dX11_wait_60 : decode cX11_wait 60 = .ok (.bipush 6, 2) := by decide +kernel
theorem dX11_wait_62 : decode cX11_wait 62 = .ok (.iload_n 2, 1) := by decide +kernel
theorem dX11_wait_63 : decode cX11_wait 63 = .ok (.imul, 1) := by decide +kernel
theorem dX11_wait_64 : decode cX11_wait 64 = .ok (.aload_n 0, 1) := by decide +kernel
theorem dX11_wait_65 : decode cX11_wait 65 = .ok (.getfield 7, 3) := by decide +kernel
theorem dX11_wait_68 : decode cX11_wait 68 = .ok (.iload_n 2, 1) := by decide +kernel
theorem dX11_wait_69 : decode cX11_wait 69 = .ok (.iaload, 1) := by decide +kernel
theorem dX11_wait_70 : decode cX11_wait 70 = .ok (.iadd, 1) := by decide +kernel
theorem dX11_wait_71 : decode cX11_wait 71 = .ok (.iconst 1, 1) := by decide +kernel
theorem dX11_wait_72 : decode cX11_wait 72 = .ok (.isub, 1) := by decide +kernel
theorem dX11_wait_73 : decode cX11_wait 73 = .ok (.invokevirtual 97, 3) := by decide +kernel
theorem dX11_wait_76 : decode cX11_wait 76 = .ok (.aload_n 0, 1) := by decide +kernel
theorem dX11_wait_77 : decode cX11_wait 77 = .ok (.getfield 7, 3) := by decide +kernel
theorem dX11_wait_80 : decode cX11_wait 80 = .ok (.iload_n 1, 1) := by decide +kernel
theorem dX11_wait_81 : decode cX11_wait 81 = .ok (.iaload, 1) := by decide +kernel
theorem dX11_wait_82 : decode cX11_wait 82 = .ok (.ireturn, 1) := by decide +kernel
theorem dX11_undo_0 : decode cX11_undo 0 = .ok (.aload_n 0, 1) := by decide +kernel
theorem dX11_undo_1 : decode cX11_undo 1 = .ok (.getfield 87, 3) := by decide +kernel
theorem dX11_undo_4 : decode cX11_undo 4 = .ok (.ifCond .ne 6, 3) := by decide +kernel
theorem dX11_undo_7 : decode cX11_undo 7 = .ok (.bipush (-3), 2) := by decide +kernel
theorem dX11_undo_9 : decode cX11_undo 9 = .ok (.ireturn, 1) := by decide +kernel
theorem dX11_undo_10 : decode cX11_undo 10 = .ok (.iconst 0, 1) := by decide +kernel
theorem dX11_undo_11 : decode cX11_undo 11 = .ok (.istore_n 1, 1) := by decide +kernel
theorem dX11_undo_12 : decode cX11_undo 12 = .ok (.aload_n 0, 1) := by decide +kernel
theorem dX11_undo_13 : decode cX11_undo 13 = .ok (.getfield 7, 3) := by decide +kernel
theorem dX11_undo_16 : decode cX11_undo 16 = .ok (.iload_n 1, 1) := by decide +kernel
theorem dX11_undo_17 : decode cX11_undo 17 = .ok (.iaload, 1) := by decide +kernel
theorem dX11_undo_18 : decode cX11_undo 18 = .ok (.ifCond .eq 30, 3) := by decide +kernel
theorem dX11_undo_21 : decode cX11_undo 21 = .ok (.aload_n 0, 1) := by decide +kernel
theorem dX11_undo_22 : decode cX11_undo 22 = .ok (.getfield 22, 3) := by decide +kernel
theorem dX11_undo_25 : decode cX11_undo 25 = .ok (.bipush 6, 2) := by decide +kernel
theorem dX11_undo_27 : decode cX11_undo 27 = .ok (.iload_n 1, 1) := by decide +kernel
theorem dX11_undo_28 : decode cX11_undo 28 = .ok (.imul, 1) := by decide +kernel
theorem dX11_undo_29 : decode cX11_undo 29 = .ok (.aload_n 0, 1) := by decide +kernel
theorem dX11_undo_30 : decode cX11_undo 30 = .ok (.getfield 7, 3) := by decide +kernel
theorem dX11_undo_33 : decode cX11_undo 33 = .ok (.iload_n 1, 1) := by decide +kernel
theorem dX11_undo_34 : decode cX11_undo 34 = .ok (.iaload, 1) := by decide +kernel
theorem dX11_undo_35 : decode cX11_undo 35 = .ok (.iadd, 1) := by decide +kernel
theorem dX11_undo_36 : decode cX11_undo 36 = .ok (.iconst 1, 1) := by decide +kernel
theorem dX11_undo_37 : decode cX11_undo 37 = .ok (.isub, 1) := by decide +kernel
theorem dX11_undo_38 : decode cX11_undo 38 = .ok (.iaload, 1) := by decide +kernel
theorem dX11_undo_39 : decode cX11_undo 39 = .ok (.aload_n 0, 1) := by decide +kernel
theorem dX11_undo_40 : decode cX11_undo 40 = .ok (.getfield 87, 3) := by decide +kernel
theorem dX11_undo_43 : decode cX11_undo 43 = .ok (.iconst 1, 1) := by decide +kernel
theorem dX11_undo_44 : decode cX11_undo 44 = .ok (.isub, 1) := by decide +kernel
theorem dX11_undo_45 : decode cX11_undo 45 = .ok (.if_icmp .eq 9, 3) := by decide +kernel
theorem dX11_undo_48 : decode cX11_undo 48 = .ok (.iinc 1 1, 3) := by decide +kernel
theorem dX11_undo_51 : decode cX11_undo 51 = .ok (.goto (-39), 3) := by decide +kernel
theorem dX11_undo_54 : decode cX11_undo 54 = .ok (.bipush 6, 2) := by decide +kernel
theorem dX11_undo_56 : decode cX11_undo 56 = .ok (.iload_n 1, 1) := by decide +kernel
theorem dX11_undo_57 : decode cX11_undo 57 = .ok (.imul, 1) := by decide +kernel
theorem dX11_undo_58 : decode cX11_undo 58 = .ok (.aload_n 0, 1) := by decide +kernel
theorem dX11_undo_59 : decode cX11_undo 59 = .ok (.getfield 7, 3) := by decide +kernel
theorem dX11_undo_62 : decode cX11_undo 62 = .ok (.iload_n 1, 1) := by decide +kernel
theorem dX11_undo_63 : decode cX11_undo 63 = .ok (.iaload, 1) := by decide +kernel
theorem dX11_undo_64 : decode cX11_undo 64 = .ok (.iadd, 1) := by decide +kernel
theorem dX11_undo_65 : decode cX11_undo 65 = .ok (.iconst 1, 1) := by decide +kernel
theorem dX11_undo_66 : decode cX11_undo 66 = .ok (.isub, 1) := by decide +kernel
theorem dX11_undo_67 : decode cX11_undo 67 = .ok (.istore_n 2, 1) := by decide +kernel
theorem dX11_undo_68 : decode cX11_undo 68 = .ok (.aload_n 0, 1) := by decide +kernel
theorem dX11_undo_69 : decode cX11_undo 69 = .ok (.getfield 13, 3) := by decide +kernel
theorem dX11_undo_72 : decode cX11_undo 72 = .ok (.iload_n 2, 1) := by decide +kernel
theorem dX11_undo_73 : decode cX11_undo 73 = .ok (.iaload, 1) := by decide +kernel
theorem dX11_undo_74 : decode cX11_undo 74 = .ok (.iconst 2, 1) := by decide +kernel
theorem dX11_undo_75 : decode cX11_undo 75 = .ok (.if_icmp .ne 13, 3) := by decide +kernel
theorem dX11_undo_78 : decode cX11_undo 78 = .ok (.aload_n 0, 1) := by decide +kernel
theorem dX11_undo_79 : decode cX11_undo 79 = .ok (.dup, 1) := by decide +kernel
theorem dX11_undo_80 : decode cX11_undo 80 = .ok (.getfield 94, 3) := by decide +kernel
theorem dX11_undo_83 : decode cX11_undo 83 = .ok (.iconst 1, 1) := by decide +kernel
theorem dX11_undo_84 : decode cX11_undo 84 = .ok (.isub, 1) := by decide +kernel
theorem dX11_undo_85 : decode cX11_undo 85 = .ok (.putfield 94, 3) := by decide +kernel
theorem dX11_undo_88 : decode cX11_undo 88 = .ok (.aload_n 0, 1) := by decide +kernel
theorem dX11_undo_89 : decode cX11_undo 89 = .ok (.getfield 13, 3) := by decide +kernel
theorem dX11_undo_92 : decode cX11_undo 92 = .ok (.iload_n 2, 1) := by decide +kernel
theorem dX11_undo_93 : decode cX11_undo 93 = .ok (.iaload, 1) := by decide +kernel
theorem dX11_undo_94 : decode cX11_undo 94 = .ok (.iconst 3, 1) := by decide +kernel
theorem dX11_undo_95 : decode cX11_undo 95 = .ok (.if_icmp .ne 15, 3) := by decide +kernel
theorem dX11_undo_98 : decode cX11_undo 98 = .ok (.aload_n 0, 1) := by decide +kernel
theorem dX11_undo_99 : decode cX11_undo 99 = .ok (.getfield 37, 3) := by decide +kernel
theorem dX11_undo_102 : decode cX11_undo 102 = .ok (.aload_n 0, 1) := by decide +kernel
theorem dX11_undo_103 : decode cX11_undo 103 = .ok (.getfield 16, 3) := by decide +kernel
theorem dX11_undo_106 : decode cX11_undo 106 = .ok (.iload_n 2, 1) := by decide +kernel
theorem dX11_undo_107 : decode cX11_undo 107 = .ok (.iaload, 1) := by decide +kernel
theorem dX11_undo_108 : decode cX11_undo 108 = .ok (.iconst (-1), 1) := by decide +kernel
theorem dX11_undo_109 : decode cX11_undo 109 = .ok (.iastore, 1) := by decide +kernel
theorem dX11_undo_110 : decode cX11_undo 110 = .ok (.aload_n 0, 1) := by decide +kernel
theorem dX11_undo_111 : decode cX11_undo 111 = .ok (.getfield 7, 3) := by decide +kernel
theorem dX11_undo_114 : decode cX11_undo 114 = .ok (.iload_n 1, 1) := by decide +kernel
theorem dX11_undo_115 : decode cX11_undo 115 = .ok (.dup2, 1) := by decide +kernel
theorem dX11_undo_116 : decode cX11_undo 116 = .ok (.iaload, 1) := by decide +kernel
theorem dX11_undo_117 : decode cX11_undo 117 = .ok (.iconst 1, 1) := by decide +kernel
theorem dX11_undo_118 : decode cX11_undo 118 = .ok (.isub, 1) := by decide +kernel
theorem dX11_undo_119 : decode cX11_undo 119 = .ok (.iastore, 1) := by decide +kernel
theorem dX11_undo_120 : decode cX11_undo 120 = .ok (.aload_n 0, 1) := by decide +kernel
theorem dX11_undo_121 : decode cX11_undo 121 = .ok (.dup, 1) := by decide +kernel
theorem dX11_undo_122 : decode cX11_undo 122 = .ok (.getfield 87, 3) := by decide +kernel
theorem dX11_undo_125 : decode cX11_undo 125 = .ok (.iconst 1, 1) := by decide +kernel
theorem dX11_undo_126 : decode cX11_undo 126 = .ok (.isub, 1) := by decide +kernel
theorem dX11_undo_127 : decode cX11_undo 127 = .ok (.putfield 87, 3) := by decide +kernel
theorem dX11_undo_130 : decode cX11_undo 130 = .ok (.iload_n 1, 1) := by decide +kernel
theorem dX11_undo_131 : decode cX11_undo 131 = .ok (.ireturn, 1) := by decide +kernel
theorem dX11_event_0 : decode cX11_event 0 = .ok (.aload_n 0, 1) := by decide +kernel
theorem dX11_event_1 : decode cX11_event 1 = .ok (.iload_n 1, 1) := by decide +kernel
theorem dX11_event_2 : decode cX11_event 2 = .ok (.iload_n 2, 1) := by decide +kernel
theorem dX11_event_3 : decode cX11_event 3 = .ok (.invokevirtual 101, 3) := by decide +kernel
theorem dX11_event_6 : decode cX11_event 6 = .ok (.ifCond .ne 5, 3) := by decide +kernel
theorem dX11_event_9 : decode cX11_event 9 = .ok (.iconst (-1), 1) := by decide +kernel
theorem dX11_event_10 : decode cX11_event 10 = .ok (.ireturn, 1) := by decide +kernel
theorem dX11_event_11 : decode cX11_event 11 = .ok (.bipush 6, 2) := by decide +kernel
theorem dX11_event_13 : decode cX11_event 13 = .ok (.iload_n 1, 1) := by decide +kernel
theorem dX11_event_14 : decode cX11_event 14 = .ok (.imul, 1) := by decide +kernel
theorem dX11_event_15 : decode cX11_event 15 = .ok (.iload_n 2, 1) := by decide +kernel
theorem dX11_event_16 : decode cX11_event 16 = .ok (.iadd, 1) := by decide +kernel
theorem dX11_event_17 : decode cX11_event 17 = .ok (.istore 4, 2) := by decide +kernel
theorem dX11_event_19 : decode cX11_event 19 = .ok (.iload_n 3, 1) := by decide +kernel
theorem dX11_event_20 : decode cX11_event 20 = .ok (.ifCond .ne 13, 3) := by decide +kernel
theorem dX11_event_23 : decode cX11_event 23 = .ok (.aload_n 0, 1) := by decide +kernel
theorem dX11_event_24 : decode cX11_event 24 = .ok (.getfield 13, 3) := by decide +kernel
theorem dX11_event_27 : decode cX11_event 27 = .ok (.iload 4, 2) := by decide +kernel
theorem dX11_event_29 : decode cX11_event 29 = .ok (.iaload, 1) := by decide +kernel
theorem dX11_event_30 : decode cX11_event 30 = .ok (.goto 34, 3) := by decide +kernel
theorem dX11_event_33 : decode cX11_event 33 = .ok (.iload_n 3, 1) := by decide +kernel
theorem dX11_event_34 : decode cX11_event 34 = .ok (.iconst 1, 1) := by decide +kernel
theorem dX11_event_35 : decode cX11_event 35 = .ok (.if_icmp .ne 13, 3) := by decide +kernel
theorem dX11_event_38 : decode cX11_event 38 = .ok (.aload_n 0, 1) := by decide +kernel
theorem dX11_event_39 : decode cX11_event 39 = .ok (.getfield 16, 3) := by decide +kernel
theorem dX11_event_42 : decode cX11_event 42 = .ok (.iload 4, 2) := by decide +kernel
theorem dX11_event_44 : decode cX11_event 44 = .ok (.iaload, 1) := by decide +kernel
theorem dX11_event_45 : decode cX11_event 45 = .ok (.goto 19, 3) := by decide +kernel
theorem dX11_event_48 : decode cX11_event 48 = .ok (.iload_n 3, 1) := by decide +kernel
theorem dX11_event_49 : decode cX11_event 49 = .ok (.iconst 2, 1) := by decide +kernel
theorem dX11_event_50 : decode cX11_event 50 = .ok (.if_icmp .ne 13, 3) := by decide +kernel
theorem dX11_event_53 : decode cX11_event 53 = .ok (.aload_n 0, 1) := by decide +kernel
theorem dX11_event_54 : decode cX11_event 54 = .ok (.getfield 22, 3) := by decide +kernel
theorem dX11_event_57 : decode cX11_event 57 = .ok (.iload 4, 2) := by decide +kernel
theorem dX11_event_59 : decode cX11_event 59 = .ok (.iaload, 1) := by decide +kernel
theorem dX11_event_60 : decode cX11_event 60 = .ok (.goto 4, 3) := by decide +kernel
theorem dX11_event_63 : decode cX11_event 63 = .ok (.iconst (-1), 1) := by decide +kernel
theorem dX11_event_64 : decode cX11_event 64 = .ok (.ireturn, 1) := by decide +kernel
theorem dX11_letter_0 : decode cX11_letter 0 = .ok (.iload_n 1, 1) := by decide +kernel
theorem dX11_letter_1 : decode cX11_letter 1 = .ok (.iconst 0, 1) := by decide +kernel
theorem dX11_letter_2 : decode cX11_letter 2 = .ok (.aload_n 0, 1) := by decide +kernel
theorem dX11_letter_3 : decode cX11_letter 3 = .ok (.getfield 94, 3) := by decide +kernel
theorem dX11_letter_6 : decode cX11_letter 6 = .ok (.iconst 1, 1) := by decide +kernel
theorem dX11_letter_7 : decode cX11_letter 7 = .ok (.isub, 1) := by decide +kernel
theorem dX11_letter_8 : decode cX11_letter 8 = .ok (.invokestatic 79, 3) := by decide +kernel
theorem dX11_letter_11 : decode cX11_letter 11 = .ok (.ifCond .ne 5, 3) := by decide +kernel
theorem dX11_letter_14 : decode cX11_letter 14 = .ok (.iconst (-1), 1) := by decide +kernel
theorem dX11_letter_15 : decode cX11_letter 15 = .ok (.ireturn, 1) := by decide +kernel
theorem dX11_letter_16 : decode cX11_letter 16 = .ok (.iload_n 2, 1) := by decide +kernel
theorem dX11_letter_17 : decode cX11_letter 17 = .ok (.tableswitch 59 0 3 #[31, 38, 45, 52], 31) := by decide +kernel
theorem dX11_letter_48 : decode cX11_letter 48 = .ok (.aload_n 0, 1) := by decide +kernel
theorem dX11_letter_49 : decode cX11_letter 49 = .ok (.getfield 28, 3) := by decide +kernel
theorem dX11_letter_52 : decode cX11_letter 52 = .ok (.iload_n 1, 1) := by decide +kernel
theorem dX11_letter_53 : decode cX11_letter 53 = .ok (.iaload, 1) := by decide +kernel
theorem dX11_letter_54 : decode cX11_letter 54 = .ok (.ireturn, 1) := by decide +kernel
theorem dX11_letter_55 : decode cX11_letter 55 = .ok (.aload_n 0, 1) := by decide +kernel
theorem dX11_letter_56 : decode cX11_letter 56 = .ok (.getfield 31, 3) := by decide +kernel
theorem dX11_letter_59 : decode cX11_letter 59 = .ok (.iload_n 1, 1) := by decide +kernel
theorem dX11_letter_60 : decode cX11_letter 60 = .ok (.iaload, 1) := by decide +kernel
theorem dX11_letter_61 : decode cX11_letter 61 = .ok (.ireturn, 1) := by decide +kernel
theorem dX11_letter_62 : decode cX11_letter 62 = .ok (.aload_n 0, 1) := by decide +kernel
theorem dX11_letter_63 : decode cX11_letter 63 = .ok (.getfield 34, 3) := by decide +kernel
theorem dX11_letter_66 : decode cX11_letter 66 = .ok (.iload_n 1, 1) := by decide +kernel
theorem dX11_letter_67 : decode cX11_letter 67 = .ok (.iaload, 1) := by decide +kernel
theorem dX11_letter_68 : decode cX11_letter 68 = .ok (.ireturn, 1) := by decide +kernel
theorem dX11_letter_69 : decode cX11_letter 69 = .ok (.aload_n 0, 1) := by decide +kernel
theorem dX11_letter_70 : decode cX11_letter 70 = .ok (.getfield 37, 3) := by decide +kernel
theorem dX11_letter_73 : decode cX11_letter 73 = .ok (.iload_n 1, 1) := by decide +kernel
theorem dX11_letter_74 : decode cX11_letter 74 = .ok (.iaload, 1) := by decide +kernel
theorem dX11_letter_75 : decode cX11_letter 75 = .ok (.ireturn, 1) := by decide +kernel
theorem dX11_letter_76 : decode cX11_letter 76 = .ok (.iconst (-1), 1) := by decide +kernel
theorem dX11_letter_77 : decode cX11_letter 77 = .ok (.ireturn, 1) := by decide +kernel
theorem dX11_ahead_0 : decode cX11_ahead 0 = .ok (.aload_n 0, 1) := by decide +kernel
theorem dX11_ahead_1 : decode cX11_ahead 1 = .ok (.iload_n 1, 1) := by decide +kernel
theorem dX11_ahead_2 : decode cX11_ahead 2 = .ok (.iload_n 2, 1) := by decide +kernel
theorem dX11_ahead_3 : decode cX11_ahead 3 = .ok (.invokevirtual 101, 3) := by decide +kernel
theorem dX11_ahead_6 : decode cX11_ahead 6 = .ok (.ifCond .eq 13, 3) := by decide +kernel
theorem dX11_ahead_9 : decode cX11_ahead 9 = .ok (.aload_n 0, 1) := by decide +kernel
theorem dX11_ahead_10 : decode cX11_ahead 10 = .ok (.iload_n 3, 1) := by decide +kernel
theorem dX11_ahead_11 : decode cX11_ahead 11 = .ok (.iload 4, 2) := by decide +kernel
theorem dX11_ahead_13 : decode cX11_ahead 13 = .ok (.invokevirtual 101, 3) := by decide +kernel
theorem dX11_ahead_16 : decode cX11_ahead 16 = .ok (.ifCond .ne 5, 3) := by decide +kernel
theorem dX11_ahead_19 : decode cX11_ahead 19 = .ok (.iconst (-1), 1) := by decide +kernel
theorem dX11_ahead_20 : decode cX11_ahead 20 = .ok (.ireturn, 1) := by decide +kernel
theorem dX11_ahead_21 : decode cX11_ahead 21 = .ok (.iload_n 1, 1) := by decide +kernel
theorem dX11_ahead_22 : decode cX11_ahead 22 = .ok (.iload_n 3, 1) := by decide +kernel
theorem dX11_ahead_23 : decode cX11_ahead 23 = .ok (.if_icmp .ne 11, 3) := by decide +kernel
theorem dX11_ahead_26 : decode cX11_ahead 26 = .ok (.iload_n 2, 1) := by decide +kernel
theorem dX11_ahead_27 : decode cX11_ahead 27 = .ok (.iload 4, 2) := by decide +kernel
theorem dX11_ahead_29 : decode cX11_ahead 29 = .ok (.if_icmp .ne 5, 3) := by decide +kernel
theorem dX11_ahead_32 : decode cX11_ahead 32 = .ok (.iconst 0, 1) := by decide +kernel
theorem dX11_ahead_33 : decode cX11_ahead 33 = .ok (.ireturn, 1) := by decide +kernel
theorem dX11_ahead_34 : decode cX11_ahead 34 = .ok (.aload_n 0, 1) := by decide +kernel
theorem dX11_ahead_35 : decode cX11_ahead 35 = .ok (.getfield 25, 3) := by decide +kernel
theorem dX11_ahead_38 : decode cX11_ahead 38 = .ok (.iconst 4, 1) := by decide +kernel
theorem dX11_ahead_39 : decode cX11_ahead 39 = .ok (.bipush 6, 2) := by decide +kernel
theorem dX11_ahead_41 : decode cX11_ahead 41 = .ok (.iload_n 3, 1) := by decide +kernel
theorem dX11_ahead_42 : decode cX11_ahead 42 = .ok (.imul, 1) := by decide +kernel
theorem dX11_ahead_43 : decode cX11_ahead 43 = .ok (.iload 4, 2) := by decide +kernel
theorem dX11_ahead_45 : decode cX11_ahead 45 = .ok (.iadd, 1) := by decide +kernel
theorem dX11_ahead_46 : decode cX11_ahead 46 = .ok (.imul, 1) := by decide +kernel
theorem dX11_ahead_47 : decode cX11_ahead 47 = .ok (.iload_n 1, 1) := by decide +kernel
theorem dX11_ahead_48 : decode cX11_ahead 48 = .ok (.iadd, 1) := by decide +kernel
theorem dX11_ahead_49 : decode cX11_ahead 49 = .ok (.iaload, 1) := by decide +kernel
theorem dX11_ahead_50 : decode cX11_ahead 50 = .ok (.iload_n 2, 1) := by decide +kernel
theorem dX11_ahead_51 : decode cX11_ahead 51 = .ok (.if_icmp .le 5, 3) := by decide +kernel
theorem dX11_ahead_54 : decode cX11_ahead 54 = .ok (.iconst 1, 1) := by decide +kernel
theorem dX11_ahead_55 : decode cX11_ahead 55 = .ok (.ireturn, 1) := by decide +kernel
theorem dX11_ahead_56 : decode cX11_ahead 56 = .ok (.aload_n 0, 1) := by decide +kernel
theorem dX11_ahead_57 : decode cX11_ahead 57 = .ok (.getfield 25, 3) := by decide +kernel
theorem dX11_ahead_60 : decode cX11_ahead 60 = .ok (.iconst 4, 1) := by decide +kernel
theorem dX11_ahead_61 : decode cX11_ahead 61 = .ok (.bipush 6, 2) := by decide +kernel
theorem dX11_ahead_63 : decode cX11_ahead 63 = .ok (.iload_n 1, 1) := by decide +kernel
theorem dX11_ahead_64 : decode cX11_ahead 64 = .ok (.imul, 1) := by decide +kernel
theorem dX11_ahead_65 : decode cX11_ahead 65 = .ok (.iload_n 2, 1) := by decide +kernel
theorem dX11_ahead_66 : decode cX11_ahead 66 = .ok (.iadd, 1) := by decide +kernel
theorem dX11_ahead_67 : decode cX11_ahead 67 = .ok (.imul, 1) := by decide +kernel
theorem dX11_ahead_68 : decode cX11_ahead 68 = .ok (.iload_n 3, 1) := by decide +kernel
theorem dX11_ahead_69 : decode cX11_ahead 69 = .ok (.iadd, 1) := by decide +kernel
theorem dX11_ahead_70 : decode cX11_ahead 70 = .ok (.iaload, 1) := by decide +kernel
theorem dX11_ahead_71 : decode cX11_ahead 71 = .ok (.iload 4, 2) := by decide +kernel
theorem dX11_ahead_73 : decode cX11_ahead 73 = .ok (.if_icmp .le 7, 3) := by decide +kernel
theorem dX11_ahead_76 : decode cX11_ahead 76 = .ok (.iconst 2, 1) := by decide +kernel
theorem dX11_ahead_77 : decode cX11_ahead 77 = .ok (.goto 4, 3) := by decide +kernel
theorem dX11_ahead_80 : decode cX11_ahead 80 = .ok (.iconst 3, 1) := by decide +kernel
theorem dX11_ahead_81 : decode cX11_ahead 81 = .ok (.ireturn, 1) := by decide +kernel
theorem dX11_clock_0 : decode cX11_clock 0 = .ok (.aload_n 0, 1) := by decide +kernel
theorem dX11_clock_1 : decode cX11_clock 1 = .ok (.iload_n 1, 1) := by decide +kernel
theorem dX11_clock_2 : decode cX11_clock 2 = .ok (.iload_n 2, 1) := by decide +kernel
theorem dX11_clock_3 : decode cX11_clock 3 = .ok (.invokevirtual 101, 3) := by decide +kernel
theorem dX11_clock_6 : decode cX11_clock 6 = .ok (.ifCond .eq 11, 3) := by decide +kernel
theorem dX11_clock_9 : decode cX11_clock 9 = .ok (.aload_n 0, 1) := by decide +kernel
theorem dX11_clock_10 : decode cX11_clock 10 = .ok (.iload_n 3, 1) := by decide +kernel
theorem dX11_clock_11 : decode cX11_clock 11 = .ok (.invokevirtual 83, 3) := by decide +kernel
theorem dX11_clock_14 : decode cX11_clock 14 = .ok (.ifCond .ne 5, 3) := by decide +kernel
theorem dX11_clock_17 : decode cX11_clock 17 = .ok (.iconst (-1), 1) := by decide +kernel
theorem dX11_clock_18 : decode cX11_clock 18 = .ok (.ireturn, 1) := by decide +kernel
theorem dX11_clock_19 : decode cX11_clock 19 = .ok (.aload_n 0, 1) := by decide +kernel
theorem dX11_clock_20 : decode cX11_clock 20 = .ok (.getfield 25, 3) := by decide +kernel
theorem dX11_clock_23 : decode cX11_clock 23 = .ok (.iconst 4, 1) := by decide +kernel
theorem dX11_clock_24 : decode cX11_clock 24 = .ok (.bipush 6, 2) := by decide +kernel
theorem dX11_clock_26 : decode cX11_clock 26 = .ok (.iload_n 1, 1) := by decide +kernel
theorem dX11_clock_27 : decode cX11_clock 27 = .ok (.imul, 1) := by decide +kernel
theorem dX11_clock_28 : decode cX11_clock 28 = .ok (.iload_n 2, 1) := by decide +kernel
theorem dX11_clock_29 : decode cX11_clock 29 = .ok (.iadd, 1) := by decide +kernel
theorem dX11_clock_30 : decode cX11_clock 30 = .ok (.imul, 1) := by decide +kernel
theorem dX11_clock_31 : decode cX11_clock 31 = .ok (.iload_n 3, 1) := by decide +kernel
theorem dX11_clock_32 : decode cX11_clock 32 = .ok (.iadd, 1) := by decide +kernel
theorem dX11_clock_33 : decode cX11_clock 33 = .ok (.iaload, 1) := by decide +kernel
theorem dX11_clock_34 : decode cX11_clock 34 = .ok (.ireturn, 1) := by decide +kernel
theorem dX11_unit_0 : decode cX11_unit 0 = .ok (.iload_n 0, 1) := by decide +kernel
theorem dX11_unit_1 : decode cX11_unit 1 = .ok (.ifCond .ne 7, 3) := by decide +kernel
theorem dX11_unit_4 : decode cX11_unit 4 = .ok (.iconst 1, 1) := by decide +kernel
theorem dX11_unit_5 : decode cX11_unit 5 = .ok (.goto 26, 3) := by decide +kernel
theorem dX11_unit_8 : decode cX11_unit 8 = .ok (.iload_n 0, 1) := by decide +kernel
theorem dX11_unit_9 : decode cX11_unit 9 = .ok (.iconst 1, 1) := by decide +kernel
theorem dX11_unit_10 : decode cX11_unit 10 = .ok (.if_icmp .ne 8, 3) := by decide +kernel
theorem dX11_unit_13 : decode cX11_unit 13 = .ok (.bipush 7, 2) := by decide +kernel
theorem dX11_unit_15 : decode cX11_unit 15 = .ok (.goto 16, 3) := by decide +kernel
theorem dX11_unit_18 : decode cX11_unit 18 = .ok (.iload_n 0, 1) := by decide +kernel
theorem dX11_unit_19 : decode cX11_unit 19 = .ok (.iconst 2, 1) := by decide +kernel
theorem dX11_unit_20 : decode cX11_unit 20 = .ok (.if_icmp .ne 8, 3) := by decide +kernel
theorem dX11_unit_23 : decode cX11_unit 23 = .ok (.bipush 49, 2) := by decide +kernel
theorem dX11_unit_25 : decode cX11_unit 25 = .ok (.goto 6, 3) := by decide +kernel
theorem dX11_unit_28 : decode cX11_unit 28 = .ok (.sipush 343, 3) := by decide +kernel
theorem dX11_unit_31 : decode cX11_unit 31 = .ok (.ireturn, 1) := by decide +kernel
theorem dX11_part_0 : decode cX11_part 0 = .ok (.iload_n 0, 1) := by decide +kernel
theorem dX11_part_1 : decode cX11_part 1 = .ok (.iload_n 1, 1) := by decide +kernel
theorem dX11_part_2 : decode cX11_part 2 = .ok (.invokestatic 105, 3) := by decide +kernel
theorem dX11_part_5 : decode cX11_part 5 = .ok (.idiv, 1) := by decide +kernel
theorem dX11_part_6 : decode cX11_part 6 = .ok (.bipush 7, 2) := by decide +kernel
theorem dX11_part_8 : decode cX11_part 8 = .ok (.irem, 1) := by decide +kernel
theorem dX11_part_9 : decode cX11_part 9 = .ok (.ireturn, 1) := by decide +kernel
theorem dX11_isCut_0 : decode cX11_isCut 0 = .ok (.iload_n 1, 1) := by decide +kernel
theorem dX11_isCut_1 : decode cX11_isCut 1 = .ok (.iconst 0, 1) := by decide +kernel
theorem dX11_isCut_2 : decode cX11_isCut 2 = .ok (.sipush 2400, 3) := by decide +kernel
theorem dX11_isCut_5 : decode cX11_isCut 5 = .ok (.invokestatic 79, 3) := by decide +kernel
theorem dX11_isCut_8 : decode cX11_isCut 8 = .ok (.ifCond .ne 5, 3) := by decide +kernel
theorem dX11_isCut_11 : decode cX11_isCut 11 = .ok (.iconst 0, 1) := by decide +kernel
theorem dX11_isCut_12 : decode cX11_isCut 12 = .ok (.ireturn, 1) := by decide +kernel
theorem dX11_isCut_13 : decode cX11_isCut 13 = .ok (.iconst 0, 1) := by decide +kernel
theorem dX11_isCut_14 : decode cX11_isCut 14 = .ok (.istore_n 2, 1) := by decide +kernel
theorem dX11_isCut_15 : decode cX11_isCut 15 = .ok (.iload_n 2, 1) := by decide +kernel
theorem dX11_isCut_16 : decode cX11_isCut 16 = .ok (.iconst 4, 1) := by decide +kernel
theorem dX11_isCut_17 : decode cX11_isCut 17 = .ok (.if_icmp .ge 37, 3) := by decide +kernel
theorem dX11_isCut_20 : decode cX11_isCut 20 = .ok (.iload_n 1, 1) := by decide +kernel
theorem dX11_isCut_21 : decode cX11_isCut 21 = .ok (.iload_n 2, 1) := by decide +kernel
theorem dX11_isCut_22 : decode cX11_isCut 22 = .ok (.invokestatic 109, 3) := by decide +kernel
theorem dX11_isCut_25 : decode cX11_isCut 25 = .ok (.iload_n 2, 1) := by decide +kernel
theorem dX11_isCut_26 : decode cX11_isCut 26 = .ok (.aload_n 0, 1) := by decide +kernel
theorem dX11_isCut_27 : decode cX11_isCut 27 = .ok (.getfield 76, 3) := by decide +kernel
theorem dX11_isCut_30 : decode cX11_isCut 30 = .ok (.if_icmp .ge 12, 3) := by decide +kernel
theorem dX11_isCut_33 : decode cX11_isCut 33 = .ok (.aload_n 0, 1) := by decide +kernel
theorem dX11_isCut_34 : decode cX11_isCut 34 = .ok (.getfield 7, 3) := by decide +kernel
theorem dX11_isCut_37 : decode cX11_isCut 37 = .ok (.iload_n 2, 1) := by decide +kernel
theorem dX11_isCut_38 : decode cX11_isCut 38 = .ok (.iaload, 1) := by decide +kernel
theorem dX11_isCut_39 : decode cX11_isCut 39 = .ok (.goto 4, 3) := by decide +kernel
theorem dX11_isCut_42 : decode cX11_isCut 42 = .ok (.iconst 0, 1) := by decide +kernel
theorem dX11_isCut_43 : decode cX11_isCut 43 = .ok (.if_icmp .le 5, 3) := by decide +kernel
theorem dX11_isCut_46 : decode cX11_isCut 46 = .ok (.iconst 0, 1) := by decide +kernel
theorem dX11_isCut_47 : decode cX11_isCut 47 = .ok (.ireturn, 1) := by decide +kernel
theorem dX11_isCut_48 : decode cX11_isCut 48 = .ok (.iinc 2 1, 3) := by decide +kernel
theorem dX11_isCut_51 : decode cX11_isCut 51 = .ok (.goto (-36), 3) := by decide +kernel
theorem dX11_isCut_54 : decode cX11_isCut 54 = .ok (.iconst 1, 1) := by decide +kernel
theorem dX11_isCut_55 : decode cX11_isCut 55 = .ok (.ireturn, 1) := by decide +kernel
theorem dX11_sizeOf_0 : decode cX11_sizeOf 0 = .ok (.iconst 0, 1) := by decide +kernel
theorem dX11_sizeOf_1 : decode cX11_sizeOf 1 = .ok (.istore_n 1, 1) := by decide +kernel
theorem dX11_sizeOf_2 : decode cX11_sizeOf 2 = .ok (.iconst 0, 1) := by decide +kernel
theorem dX11_sizeOf_3 : decode cX11_sizeOf 3 = .ok (.istore_n 2, 1) := by decide +kernel
theorem dX11_sizeOf_4 : decode cX11_sizeOf 4 = .ok (.iload_n 2, 1) := by decide +kernel
theorem dX11_sizeOf_5 : decode cX11_sizeOf 5 = .ok (.iconst 4, 1) := by decide +kernel
theorem dX11_sizeOf_6 : decode cX11_sizeOf 6 = .ok (.if_icmp .ge 17, 3) := by decide +kernel
theorem dX11_sizeOf_9 : decode cX11_sizeOf 9 = .ok (.iload_n 1, 1) := by decide +kernel
theorem dX11_sizeOf_10 : decode cX11_sizeOf 10 = .ok (.iload_n 0, 1) := by decide +kernel
theorem dX11_sizeOf_11 : decode cX11_sizeOf 11 = .ok (.iload_n 2, 1) := by decide +kernel
theorem dX11_sizeOf_12 : decode cX11_sizeOf 12 = .ok (.invokestatic 109, 3) := by decide +kernel
theorem dX11_sizeOf_15 : decode cX11_sizeOf 15 = .ok (.iadd, 1) := by decide +kernel
theorem dX11_sizeOf_16 : decode cX11_sizeOf 16 = .ok (.istore_n 1, 1) := by decide +kernel
theorem dX11_sizeOf_17 : decode cX11_sizeOf 17 = .ok (.iinc 2 1, 3) := by decide +kernel
theorem dX11_sizeOf_20 : decode cX11_sizeOf 20 = .ok (.goto (-16), 3) := by decide +kernel
theorem dX11_sizeOf_23 : decode cX11_sizeOf 23 = .ok (.iload_n 1, 1) := by decide +kernel
theorem dX11_sizeOf_24 : decode cX11_sizeOf 24 = .ok (.ireturn, 1) := by decide +kernel
theorem dX11_isPossible_0 : decode cX11_isPossible 0 = .ok (.aload_n 0, 1) := by decide +kernel
theorem dX11_isPossible_1 : decode cX11_isPossible 1 = .ok (.iload_n 1, 1) := by decide +kernel
theorem dX11_isPossible_2 : decode cX11_isPossible 2 = .ok (.invokevirtual 113, 3) := by decide +kernel
theorem dX11_isPossible_5 : decode cX11_isPossible 5 = .ok (.ifCond .ne 5, 3) := by decide +kernel
theorem dX11_isPossible_8 : decode cX11_isPossible 8 = .ok (.iconst 0, 1) := by decide +kernel
theorem dX11_isPossible_9 : decode cX11_isPossible 9 = .ok (.ireturn, 1) := by decide +kernel
theorem dX11_isPossible_10 : decode cX11_isPossible 10 = .ok (.iconst 0, 1) := by decide +kernel
theorem dX11_isPossible_11 : decode cX11_isPossible 11 = .ok (.istore_n 2, 1) := by decide +kernel
theorem dX11_isPossible_12 : decode cX11_isPossible 12 = .ok (.iload_n 2, 1) := by decide +kernel
theorem dX11_isPossible_13 : decode cX11_isPossible 13 = .ok (.aload_n 0, 1) := by decide +kernel
theorem dX11_isPossible_14 : decode cX11_isPossible 14 = .ok (.getfield 76, 3) := by decide +kernel
theorem dX11_isPossible_17 : decode cX11_isPossible 17 = .ok (.if_icmp .ge 66, 3) := by decide +kernel
theorem dX11_isPossible_20 : decode cX11_isPossible 20 = .ok (.iload_n 1, 1) := by decide +kernel
theorem dX11_isPossible_21 : decode cX11_isPossible 21 = .ok (.iload_n 2, 1) := by decide +kernel
theorem dX11_isPossible_22 : decode cX11_isPossible 22 = .ok (.invokestatic 109, 3) := by decide +kernel
theorem dX11_isPossible_25 : decode cX11_isPossible 25 = .ok (.istore_n 3, 1) := by decide +kernel
theorem dX11_isPossible_26 : decode cX11_isPossible 26 = .ok (.iconst 0, 1) := by decide +kernel
theorem dX11_isPossible_27 : decode cX11_isPossible 27 = .ok (.istore 4, 2) := by decide +kernel
theorem dX11_isPossible_29 : decode cX11_isPossible 29 = .ok (.iload 4, 2) := by decide +kernel
theorem dX11_isPossible_31 : decode cX11_isPossible 31 = .ok (.aload_n 0, 1) := by decide +kernel
theorem dX11_isPossible_32 : decode cX11_isPossible 32 = .ok (.getfield 76, 3) := by decide +kernel
theorem dX11_isPossible_35 : decode cX11_isPossible 35 = .ok (.if_icmp .ge 42, 3) := by decide +kernel
theorem dX11_isPossible_38 : decode cX11_isPossible 38 = .ok (.iload_n 3, 1) := by decide +kernel
theorem dX11_isPossible_39 : decode cX11_isPossible 39 = .ok (.ifCond .le 38, 3) := by decide +kernel
theorem dX11_isPossible_42 : decode cX11_isPossible 42 = .ok (.aload_n 0, 1) := by decide +kernel
theorem dX11_isPossible_43 : decode cX11_isPossible 43 = .ok (.getfield 25, 3) := by decide +kernel
theorem dX11_isPossible_46 : decode cX11_isPossible 46 = .ok (.iconst 4, 1) := by decide +kernel
theorem dX11_isPossible_47 : decode cX11_isPossible 47 = .ok (.bipush 6, 2) := by decide +kernel
theorem dX11_isPossible_49 : decode cX11_isPossible 49 = .ok (.iload_n 2, 1) := by decide +kernel
theorem dX11_isPossible_50 : decode cX11_isPossible 50 = .ok (.imul, 1) := by decide +kernel
theorem dX11_isPossible_51 : decode cX11_isPossible 51 = .ok (.iload_n 3, 1) := by decide +kernel
theorem dX11_isPossible_52 : decode cX11_isPossible 52 = .ok (.iadd, 1) := by decide +kernel
theorem dX11_isPossible_53 : decode cX11_isPossible 53 = .ok (.iconst 1, 1) := by decide +kernel
theorem dX11_isPossible_54 : decode cX11_isPossible 54 = .ok (.isub, 1) := by decide +kernel
theorem dX11_isPossible_55 : decode cX11_isPossible 55 = .ok (.imul, 1) := by decide +kernel
theorem dX11_isPossible_56 : decode cX11_isPossible 56 = .ok (.iload 4, 2) := by decide +kernel
theorem dX11_isPossible_58 : decode cX11_isPossible 58 = .ok (.iadd, 1) := by decide +kernel
theorem dX11_isPossible_59 : decode cX11_isPossible 59 = .ok (.iaload, 1) := by decide +kernel
theorem dX11_isPossible_60 : decode cX11_isPossible 60 = .ok (.iload_n 1, 1) := by decide +kernel
theorem dX11_isPossible_61 : decode cX11_isPossible 61 = .ok (.iload 4, 2) := by decide +kernel
theorem dX11_isPossible_63 : decode cX11_isPossible 63 = .ok (.invokestatic 109, 3) := by decide +kernel
theorem dX11_isPossible_66 : decode cX11_isPossible 66 = .ok (.if_icmp .le 5, 3) := by decide +kernel
theorem dX11_isPossible_69 : decode cX11_isPossible 69 = .ok (.iconst 0, 1) := by decide +kernel
theorem dX11_isPossible_70 : decode cX11_isPossible 70 = .ok (.ireturn, 1) := by decide +kernel
theorem dX11_isPossible_71 : decode cX11_isPossible 71 = .ok (.iinc 4 1, 3) := by decide +kernel
theorem dX11_isPossible_74 : decode cX11_isPossible 74 = .ok (.goto (-45), 3) := by decide +kernel
theorem dX11_isPossible_77 : decode cX11_isPossible 77 = .ok (.iinc 2 1, 3) := by decide +kernel
theorem dX11_isPossible_80 : decode cX11_isPossible 80 = .ok (.goto (-68), 3) := by decide +kernel
theorem dX11_isPossible_83 : decode cX11_isPossible 83 = .ok (.iconst 1, 1) := by decide +kernel
theorem dX11_isPossible_84 : decode cX11_isPossible 84 = .ok (.ireturn, 1) := by decide +kernel
theorem dX11_whole_0 : decode cX11_whole 0 = .ok (.iconst 0, 1) := by decide +kernel
theorem dX11_whole_1 : decode cX11_whole 1 = .ok (.istore_n 1, 1) := by decide +kernel
theorem dX11_whole_2 : decode cX11_whole 2 = .ok (.iconst 0, 1) := by decide +kernel
theorem dX11_whole_3 : decode cX11_whole 3 = .ok (.istore_n 2, 1) := by decide +kernel
theorem dX11_whole_4 : decode cX11_whole 4 = .ok (.iload_n 2, 1) := by decide +kernel
theorem dX11_whole_5 : decode cX11_whole 5 = .ok (.aload_n 0, 1) := by decide +kernel
theorem dX11_whole_6 : decode cX11_whole 6 = .ok (.getfield 76, 3) := by decide +kernel
theorem dX11_whole_9 : decode cX11_whole 9 = .ok (.if_icmp .ge 23, 3) := by decide +kernel
theorem dX11_whole_12 : decode cX11_whole 12 = .ok (.iload_n 1, 1) := by decide +kernel
theorem dX11_whole_13 : decode cX11_whole 13 = .ok (.iload_n 2, 1) := by decide +kernel
theorem dX11_whole_14 : decode cX11_whole 14 = .ok (.invokestatic 105, 3) := by decide +kernel
theorem dX11_whole_17 : decode cX11_whole 17 = .ok (.aload_n 0, 1) := by decide +kernel
theorem dX11_whole_18 : decode cX11_whole 18 = .ok (.getfield 7, 3) := by decide +kernel
theorem dX11_whole_21 : decode cX11_whole 21 = .ok (.iload_n 2, 1) := by decide +kernel
theorem dX11_whole_22 : decode cX11_whole 22 = .ok (.iaload, 1) := by decide +kernel
theorem dX11_whole_23 : decode cX11_whole 23 = .ok (.imul, 1) := by decide +kernel
theorem dX11_whole_24 : decode cX11_whole 24 = .ok (.iadd, 1) := by decide +kernel
theorem dX11_whole_25 : decode cX11_whole 25 = .ok (.istore_n 1, 1) := by decide +kernel
theorem dX11_whole_26 : decode cX11_whole 26 = .ok (.iinc 2 1, 3) := by decide +kernel
theorem dX11_whole_29 : decode cX11_whole 29 = .ok (.goto (-25), 3) := by decide +kernel
theorem dX11_whole_32 : decode cX11_whole 32 = .ok (.iload_n 1, 1) := by decide +kernel
theorem dX11_whole_33 : decode cX11_whole 33 = .ok (.ireturn, 1) := by decide +kernel
theorem dX11_possible_0 : decode cX11_possible 0 = .ok (.aload_n 0, 1) := by decide +kernel
theorem dX11_possible_1 : decode cX11_possible 1 = .ok (.iload_n 1, 1) := by decide +kernel
theorem dX11_possible_2 : decode cX11_possible 2 = .ok (.invokevirtual 113, 3) := by decide +kernel
theorem dX11_possible_5 : decode cX11_possible 5 = .ok (.ifCond .ne 7, 3) := by decide +kernel
theorem dX11_possible_8 : decode cX11_possible 8 = .ok (.iconst (-1), 1) := by decide +kernel
theorem dX11_possible_9 : decode cX11_possible 9 = .ok (.goto 16, 3) := by decide +kernel
theorem dX11_possible_12 : decode cX11_possible 12 = .ok (.aload_n 0, 1) := by decide +kernel
theorem dX11_possible_13 : decode cX11_possible 13 = .ok (.iload_n 1, 1) := by decide +kernel
theorem dX11_possible_14 : decode cX11_possible 14 = .ok (.invokevirtual 116, 3) := by decide +kernel
theorem dX11_possible_17 : decode cX11_possible 17 = .ok (.ifCond .eq 7, 3) := by decide +kernel
theorem dX11_possible_20 : decode cX11_possible 20 = .ok (.iconst 1, 1) := by decide +kernel
theorem dX11_possible_21 : decode cX11_possible 21 = .ok (.goto 4, 3) := by decide +kernel
theorem dX11_possible_24 : decode cX11_possible 24 = .ok (.iconst 0, 1) := by decide +kernel
theorem dX11_possible_25 : decode cX11_possible 25 = .ok (.ireturn, 1) := by decide +kernel
theorem dX11_cuts_0 : decode cX11_cuts 0 = .ok (.iload_n 1, 1) := by decide +kernel
theorem dX11_cuts_1 : decode cX11_cuts 1 = .ok (.iconst (-1), 1) := by decide +kernel
theorem dX11_cuts_2 : decode cX11_cuts 2 = .ok (.if_icmp .ge 6, 3) := by decide +kernel
theorem dX11_cuts_5 : decode cX11_cuts 5 = .ok (.bipush (-2), 2) := by decide +kernel
theorem dX11_cuts_7 : decode cX11_cuts 7 = .ok (.ireturn, 1) := by decide +kernel
theorem dX11_cuts_8 : decode cX11_cuts 8 = .ok (.iconst 0, 1) := by decide +kernel
theorem dX11_cuts_9 : decode cX11_cuts 9 = .ok (.istore_n 2, 1) := by decide +kernel
theorem dX11_cuts_10 : decode cX11_cuts 10 = .ok (.iconst 0, 1) := by decide +kernel
theorem dX11_cuts_11 : decode cX11_cuts 11 = .ok (.istore_n 3, 1) := by decide +kernel
theorem dX11_cuts_12 : decode cX11_cuts 12 = .ok (.iload_n 3, 1) := by decide +kernel
theorem dX11_cuts_13 : decode cX11_cuts 13 = .ok (.sipush 2401, 3) := by decide +kernel
theorem dX11_cuts_16 : decode cX11_cuts 16 = .ok (.if_icmp .ge 38, 3) := by decide +kernel
theorem dX11_cuts_19 : decode cX11_cuts 19 = .ok (.iload_n 2, 1) := by decide +kernel
theorem dX11_cuts_20 : decode cX11_cuts 20 = .ok (.aload_n 0, 1) := by decide +kernel
theorem dX11_cuts_21 : decode cX11_cuts 21 = .ok (.iload_n 3, 1) := by decide +kernel
theorem dX11_cuts_22 : decode cX11_cuts 22 = .ok (.invokevirtual 116, 3) := by decide +kernel
theorem dX11_cuts_25 : decode cX11_cuts 25 = .ok (.ifCond .eq 20, 3) := by decide +kernel
theorem dX11_cuts_28 : decode cX11_cuts 28 = .ok (.iload_n 1, 1) := by decide +kernel
theorem dX11_cuts_29 : decode cX11_cuts 29 = .ok (.iconst (-1), 1) := by decide +kernel
theorem dX11_cuts_30 : decode cX11_cuts 30 = .ok (.if_icmp .eq 11, 3) := by decide +kernel
theorem dX11_cuts_33 : decode cX11_cuts 33 = .ok (.iload_n 3, 1) := by decide +kernel
theorem dX11_cuts_34 : decode cX11_cuts 34 = .ok (.invokestatic 119, 3) := by decide +kernel
theorem dX11_cuts_37 : decode cX11_cuts 37 = .ok (.iload_n 1, 1) := by decide +kernel
theorem dX11_cuts_38 : decode cX11_cuts 38 = .ok (.if_icmp .ne 7, 3) := by decide +kernel
theorem dX11_cuts_41 : decode cX11_cuts 41 = .ok (.iconst 1, 1) := by decide +kernel
theorem dX11_cuts_42 : decode cX11_cuts 42 = .ok (.goto 4, 3) := by decide +kernel
theorem dX11_cuts_45 : decode cX11_cuts 45 = .ok (.iconst 0, 1) := by decide +kernel
theorem dX11_cuts_46 : decode cX11_cuts 46 = .ok (.iadd, 1) := by decide +kernel
theorem dX11_cuts_47 : decode cX11_cuts 47 = .ok (.istore_n 2, 1) := by decide +kernel
theorem dX11_cuts_48 : decode cX11_cuts 48 = .ok (.iinc 3 1, 3) := by decide +kernel
theorem dX11_cuts_51 : decode cX11_cuts 51 = .ok (.goto (-39), 3) := by decide +kernel
theorem dX11_cuts_54 : decode cX11_cuts 54 = .ok (.iload_n 2, 1) := by decide +kernel
theorem dX11_cuts_55 : decode cX11_cuts 55 = .ok (.ireturn, 1) := by decide +kernel
theorem dX11_next_0 : decode cX11_next 0 = .ok (.iload_n 1, 1) := by decide +kernel
theorem dX11_next_1 : decode cX11_next 1 = .ok (.iconst (-1), 1) := by decide +kernel
theorem dX11_next_2 : decode cX11_next 2 = .ok (.if_icmp .eq 13, 3) := by decide +kernel
theorem dX11_next_5 : decode cX11_next 5 = .ok (.aload_n 0, 1) := by decide +kernel
theorem dX11_next_6 : decode cX11_next 6 = .ok (.iload_n 1, 1) := by decide +kernel
theorem dX11_next_7 : decode cX11_next 7 = .ok (.invokevirtual 113, 3) := by decide +kernel
theorem dX11_next_10 : decode cX11_next 10 = .ok (.ifCond .ne 5, 3) := by decide +kernel
theorem dX11_next_13 : decode cX11_next 13 = .ok (.iconst (-1), 1) := by decide +kernel
theorem dX11_next_14 : decode cX11_next 14 = .ok (.ireturn, 1) := by decide +kernel
theorem dX11_next_15 : decode cX11_next 15 = .ok (.iload_n 1, 1) := by decide +kernel
theorem dX11_next_16 : decode cX11_next 16 = .ok (.iconst (-1), 1) := by decide +kernel
theorem dX11_next_17 : decode cX11_next 17 = .ok (.if_icmp .ne 7, 3) := by decide +kernel
theorem dX11_next_20 : decode cX11_next 20 = .ok (.iconst (-1), 1) := by decide +kernel
theorem dX11_next_21 : decode cX11_next 21 = .ok (.goto 13, 3) := by decide +kernel
theorem dX11_next_24 : decode cX11_next 24 = .ok (.sipush 2401, 3) := by decide +kernel
theorem dX11_next_27 : decode cX11_next 27 = .ok (.iload_n 1, 1) := by decide +kernel
theorem dX11_next_28 : decode cX11_next 28 = .ok (.invokestatic 119, 3) := by decide +kernel
theorem dX11_next_31 : decode cX11_next 31 = .ok (.imul, 1) := by decide +kernel
theorem dX11_next_32 : decode cX11_next 32 = .ok (.iload_n 1, 1) := by decide +kernel
theorem dX11_next_33 : decode cX11_next 33 = .ok (.iadd, 1) := by decide +kernel
theorem dX11_next_34 : decode cX11_next 34 = .ok (.istore_n 2, 1) := by decide +kernel
theorem dX11_next_35 : decode cX11_next 35 = .ok (.iconst (-1), 1) := by decide +kernel
theorem dX11_next_36 : decode cX11_next 36 = .ok (.istore_n 3, 1) := by decide +kernel
theorem dX11_next_37 : decode cX11_next 37 = .ok (.iconst 0, 1) := by decide +kernel
theorem dX11_next_38 : decode cX11_next 38 = .ok (.istore 4, 2) := by decide +kernel
theorem dX11_next_40 : decode cX11_next 40 = .ok (.iload 4, 2) := by decide +kernel
theorem dX11_next_42 : decode cX11_next 42 = .ok (.sipush 2401, 3) := by decide +kernel
theorem dX11_next_45 : decode cX11_next 45 = .ok (.if_icmp .ge 61, 3) := by decide +kernel
theorem dX11_next_48 : decode cX11_next 48 = .ok (.sipush 2401, 3) := by decide +kernel
theorem dX11_next_51 : decode cX11_next 51 = .ok (.iload 4, 2) := by decide +kernel
theorem dX11_next_53 : decode cX11_next 53 = .ok (.invokestatic 119, 3) := by decide +kernel
theorem dX11_next_56 : decode cX11_next 56 = .ok (.imul, 1) := by decide +kernel
theorem dX11_next_57 : decode cX11_next 57 = .ok (.iload 4, 2) := by decide +kernel
theorem dX11_next_59 : decode cX11_next 59 = .ok (.iadd, 1) := by decide +kernel
theorem dX11_next_60 : decode cX11_next 60 = .ok (.istore 5, 2) := by decide +kernel
theorem dX11_next_62 : decode cX11_next 62 = .ok (.aload_n 0, 1) := by decide +kernel
theorem dX11_next_63 : decode cX11_next 63 = .ok (.iload 4, 2) := by decide +kernel
theorem dX11_next_65 : decode cX11_next 65 = .ok (.invokevirtual 116, 3) := by decide +kernel
theorem dX11_next_68 : decode cX11_next 68 = .ok (.ifCond .eq 32, 3) := by decide +kernel
theorem dX11_next_71 : decode cX11_next 71 = .ok (.iload 5, 2) := by decide +kernel
theorem dX11_next_73 : decode cX11_next 73 = .ok (.iload_n 2, 1) := by decide +kernel
theorem dX11_next_74 : decode cX11_next 74 = .ok (.if_icmp .le 26, 3) := by decide +kernel
theorem dX11_next_77 : decode cX11_next 77 = .ok (.iload_n 3, 1) := by decide +kernel
theorem dX11_next_78 : decode cX11_next 78 = .ok (.iconst (-1), 1) := by decide +kernel
theorem dX11_next_79 : decode cX11_next 79 = .ok (.if_icmp .eq 18, 3) := by decide +kernel
theorem dX11_next_82 : decode cX11_next 82 = .ok (.iload 5, 2) := by decide +kernel
theorem dX11_next_84 : decode cX11_next 84 = .ok (.sipush 2401, 3) := by decide +kernel
theorem dX11_next_87 : decode cX11_next 87 = .ok (.iload_n 3, 1) := by decide +kernel
theorem dX11_next_88 : decode cX11_next 88 = .ok (.invokestatic 119, 3) := by decide +kernel
theorem dX11_next_91 : decode cX11_next 91 = .ok (.imul, 1) := by decide +kernel
theorem dX11_next_92 : decode cX11_next 92 = .ok (.iload_n 3, 1) := by decide +kernel
theorem dX11_next_93 : decode cX11_next 93 = .ok (.iadd, 1) := by decide +kernel
theorem dX11_next_94 : decode cX11_next 94 = .ok (.if_icmp .ge 6, 3) := by decide +kernel
theorem dX11_next_97 : decode cX11_next 97 = .ok (.iload 4, 2) := by decide +kernel
theorem dX11_next_99 : decode cX11_next 99 = .ok (.istore_n 3, 1) := by decide +kernel
theorem dX11_next_100 : decode cX11_next 100 = .ok (.iinc 4 1, 3) := by decide +kernel
theorem dX11_next_103 : decode cX11_next 103 = .ok (.goto (-63), 3) := by decide +kernel
theorem dX11_next_106 : decode cX11_next 106 = .ok (.iload_n 3, 1) := by decide +kernel
theorem dX11_next_107 : decode cX11_next 107 = .ok (.ireturn, 1) := by decide +kernel
theorem dX11_joined_0 : decode cX11_joined 0 = .ok (.iconst 0, 1) := by decide +kernel
theorem dX11_joined_1 : decode cX11_joined 1 = .ok (.istore_n 3, 1) := by decide +kernel
theorem dX11_joined_2 : decode cX11_joined 2 = .ok (.iconst 0, 1) := by decide +kernel
theorem dX11_joined_3 : decode cX11_joined 3 = .ok (.istore 4, 2) := by decide +kernel
theorem dX11_joined_5 : decode cX11_joined 5 = .ok (.iload 4, 2) := by decide +kernel
theorem dX11_joined_7 : decode cX11_joined 7 = .ok (.iconst 4, 1) := by decide +kernel
theorem dX11_joined_8 : decode cX11_joined 8 = .ok (.if_icmp .ge 57, 3) := by decide +kernel
theorem dX11_joined_11 : decode cX11_joined 11 = .ok (.iload_n 0, 1) := by decide +kernel
theorem dX11_joined_12 : decode cX11_joined 12 = .ok (.iload 4, 2) := by decide +kernel
theorem dX11_joined_14 : decode cX11_joined 14 = .ok (.invokestatic 109, 3) := by decide +kernel
theorem dX11_joined_17 : decode cX11_joined 17 = .ok (.istore 5, 2) := by decide +kernel
theorem dX11_joined_19 : decode cX11_joined 19 = .ok (.iload_n 1, 1) := by decide +kernel
theorem dX11_joined_20 : decode cX11_joined 20 = .ok (.iload 4, 2) := by decide +kernel
theorem dX11_joined_22 : decode cX11_joined 22 = .ok (.invokestatic 109, 3) := by decide +kernel
theorem dX11_joined_25 : decode cX11_joined 25 = .ok (.istore 6, 2) := by decide +kernel
theorem dX11_joined_27 : decode cX11_joined 27 = .ok (.iload_n 3, 1) := by decide +kernel
theorem dX11_joined_28 : decode cX11_joined 28 = .ok (.iload 4, 2) := by decide +kernel
theorem dX11_joined_30 : decode cX11_joined 30 = .ok (.invokestatic 105, 3) := by decide +kernel
theorem dX11_joined_33 : decode cX11_joined 33 = .ok (.iload 5, 2) := by decide +kernel
theorem dX11_joined_35 : decode cX11_joined 35 = .ok (.iload 6, 2) := by decide +kernel
theorem dX11_joined_37 : decode cX11_joined 37 = .ok (.if_icmp .ge 7, 3) := by decide +kernel
theorem dX11_joined_40 : decode cX11_joined 40 = .ok (.iconst 1, 1) := by decide +kernel
theorem dX11_joined_41 : decode cX11_joined 41 = .ok (.goto 4, 3) := by decide +kernel
theorem dX11_joined_44 : decode cX11_joined 44 = .ok (.iconst 0, 1) := by decide +kernel
theorem dX11_joined_45 : decode cX11_joined 45 = .ok (.iload_n 2, 1) := by decide +kernel
theorem dX11_joined_46 : decode cX11_joined 46 = .ok (.if_icmp .ne 8, 3) := by decide +kernel
theorem dX11_joined_49 : decode cX11_joined 49 = .ok (.iload 5, 2) := by decide +kernel
theorem dX11_joined_51 : decode cX11_joined 51 = .ok (.goto 5, 3) := by decide +kernel
theorem dX11_joined_54 : decode cX11_joined 54 = .ok (.iload 6, 2) := by decide +kernel
theorem dX11_joined_56 : decode cX11_joined 56 = .ok (.imul, 1) := by decide +kernel
theorem dX11_joined_57 : decode cX11_joined 57 = .ok (.iadd, 1) := by decide +kernel
theorem dX11_joined_58 : decode cX11_joined 58 = .ok (.istore_n 3, 1) := by decide +kernel
theorem dX11_joined_59 : decode cX11_joined 59 = .ok (.iinc 4 1, 3) := by decide +kernel
theorem dX11_joined_62 : decode cX11_joined 62 = .ok (.goto (-57), 3) := by decide +kernel
theorem dX11_joined_65 : decode cX11_joined 65 = .ok (.iload_n 3, 1) := by decide +kernel
theorem dX11_joined_66 : decode cX11_joined 66 = .ok (.ireturn, 1) := by decide +kernel
theorem dX11_join_0 : decode cX11_join 0 = .ok (.aload_n 0, 1) := by decide +kernel
theorem dX11_join_1 : decode cX11_join 1 = .ok (.iload_n 1, 1) := by decide +kernel
theorem dX11_join_2 : decode cX11_join 2 = .ok (.invokevirtual 113, 3) := by decide +kernel
theorem dX11_join_5 : decode cX11_join 5 = .ok (.ifCond .eq 11, 3) := by decide +kernel
theorem dX11_join_8 : decode cX11_join 8 = .ok (.aload_n 0, 1) := by decide +kernel
theorem dX11_join_9 : decode cX11_join 9 = .ok (.iload_n 2, 1) := by decide +kernel
theorem dX11_join_10 : decode cX11_join 10 = .ok (.invokevirtual 113, 3) := by decide +kernel
theorem dX11_join_13 : decode cX11_join 13 = .ok (.ifCond .ne 5, 3) := by decide +kernel
theorem dX11_join_16 : decode cX11_join 16 = .ok (.iconst (-1), 1) := by decide +kernel
theorem dX11_join_17 : decode cX11_join 17 = .ok (.ireturn, 1) := by decide +kernel
theorem dX11_join_18 : decode cX11_join 18 = .ok (.iload_n 3, 1) := by decide +kernel
theorem dX11_join_19 : decode cX11_join 19 = .ok (.iconst 0, 1) := by decide +kernel
theorem dX11_join_20 : decode cX11_join 20 = .ok (.iconst 1, 1) := by decide +kernel
theorem dX11_join_21 : decode cX11_join 21 = .ok (.invokestatic 79, 3) := by decide +kernel
theorem dX11_join_24 : decode cX11_join 24 = .ok (.ifCond .eq 21, 3) := by decide +kernel
theorem dX11_join_27 : decode cX11_join 27 = .ok (.iload_n 1, 1) := by decide +kernel
theorem dX11_join_28 : decode cX11_join 28 = .ok (.iload_n 2, 1) := by decide +kernel
theorem dX11_join_29 : decode cX11_join 29 = .ok (.iload_n 3, 1) := by decide +kernel
theorem dX11_join_30 : decode cX11_join 30 = .ok (.iconst 1, 1) := by decide +kernel
theorem dX11_join_31 : decode cX11_join 31 = .ok (.if_icmp .ne 7, 3) := by decide +kernel
theorem dX11_join_34 : decode cX11_join 34 = .ok (.iconst 1, 1) := by decide +kernel
theorem dX11_join_35 : decode cX11_join 35 = .ok (.goto 4, 3) := by decide +kernel
theorem dX11_join_38 : decode cX11_join 38 = .ok (.iconst 0, 1) := by decide +kernel
theorem dX11_join_39 : decode cX11_join 39 = .ok (.invokestatic 122, 3) := by decide +kernel
theorem dX11_join_42 : decode cX11_join 42 = .ok (.goto 5, 3) := by decide +kernel
theorem dX11_join_45 : decode cX11_join 45 = .ok (.bipush (-2), 2) := by decide +kernel
theorem dX11_join_47 : decode cX11_join 47 = .ok (.ireturn, 1) := by decide +kernel
theorem dX11_least_0 : decode cX11_least 0 = .ok (.aload_n 0, 1) := by decide +kernel
theorem dX11_least_1 : decode cX11_least 1 = .ok (.iload_n 1, 1) := by decide +kernel
theorem dX11_least_2 : decode cX11_least 2 = .ok (.invokevirtual 83, 3) := by decide +kernel
theorem dX11_least_5 : decode cX11_least 5 = .ok (.ifCond .eq 17, 3) := by decide +kernel
theorem dX11_least_8 : decode cX11_least 8 = .ok (.iload_n 2, 1) := by decide +kernel
theorem dX11_least_9 : decode cX11_least 9 = .ok (.iconst 0, 1) := by decide +kernel
theorem dX11_least_10 : decode cX11_least 10 = .ok (.aload_n 0, 1) := by decide +kernel
theorem dX11_least_11 : decode cX11_least 11 = .ok (.getfield 7, 3) := by decide +kernel
theorem dX11_least_14 : decode cX11_least 14 = .ok (.iload_n 1, 1) := by decide +kernel
theorem dX11_least_15 : decode cX11_least 15 = .ok (.iaload, 1) := by decide +kernel
theorem dX11_least_16 : decode cX11_least 16 = .ok (.invokestatic 79, 3) := by decide +kernel
theorem dX11_least_19 : decode cX11_least 19 = .ok (.ifCond .ne 5, 3) := by decide +kernel
theorem dX11_least_22 : decode cX11_least 22 = .ok (.iconst (-1), 1) := by decide +kernel
theorem dX11_least_23 : decode cX11_least 23 = .ok (.ireturn, 1) := by decide +kernel
theorem dX11_least_24 : decode cX11_least 24 = .ok (.iconst 0, 1) := by decide +kernel
theorem dX11_least_25 : decode cX11_least 25 = .ok (.istore_n 3, 1) := by decide +kernel
theorem dX11_least_26 : decode cX11_least 26 = .ok (.iconst 0, 1) := by decide +kernel
theorem dX11_least_27 : decode cX11_least 27 = .ok (.istore 4, 2) := by decide +kernel
theorem dX11_least_29 : decode cX11_least 29 = .ok (.iload 4, 2) := by decide +kernel
theorem dX11_least_31 : decode cX11_least 31 = .ok (.iconst 4, 1) := by decide +kernel
theorem dX11_least_32 : decode cX11_least 32 = .ok (.if_icmp .ge 40, 3) := by decide +kernel
theorem dX11_least_35 : decode cX11_least 35 = .ok (.iload_n 2, 1) := by decide +kernel
theorem dX11_least_36 : decode cX11_least 36 = .ok (.ifCond .le 36, 3) := by decide +kernel
theorem dX11_least_39 : decode cX11_least 39 = .ok (.iload_n 3, 1) := by decide +kernel
theorem dX11_least_40 : decode cX11_least 40 = .ok (.iload 4, 2) := by decide +kernel
theorem dX11_least_42 : decode cX11_least 42 = .ok (.invokestatic 105, 3) := by decide +kernel
theorem dX11_least_45 : decode cX11_least 45 = .ok (.aload_n 0, 1) := by decide +kernel
theorem dX11_least_46 : decode cX11_least 46 = .ok (.getfield 25, 3) := by decide +kernel
theorem dX11_least_49 : decode cX11_least 49 = .ok (.iconst 4, 1) := by decide +kernel
theorem dX11_least_50 : decode cX11_least 50 = .ok (.bipush 6, 2) := by decide +kernel
theorem dX11_least_52 : decode cX11_least 52 = .ok (.iload_n 1, 1) := by decide +kernel
theorem dX11_least_53 : decode cX11_least 53 = .ok (.imul, 1) := by decide +kernel
theorem dX11_least_54 : decode cX11_least 54 = .ok (.iload_n 2, 1) := by decide +kernel
theorem dX11_least_55 : decode cX11_least 55 = .ok (.iadd, 1) := by decide +kernel
theorem dX11_least_56 : decode cX11_least 56 = .ok (.iconst 1, 1) := by decide +kernel
theorem dX11_least_57 : decode cX11_least 57 = .ok (.isub, 1) := by decide +kernel
theorem dX11_least_58 : decode cX11_least 58 = .ok (.imul, 1) := by decide +kernel
theorem dX11_least_59 : decode cX11_least 59 = .ok (.iload 4, 2) := by decide +kernel
theorem dX11_least_61 : decode cX11_least 61 = .ok (.iadd, 1) := by decide +kernel
theorem dX11_least_62 : decode cX11_least 62 = .ok (.iaload, 1) := by decide +kernel
theorem dX11_least_63 : decode cX11_least 63 = .ok (.imul, 1) := by decide +kernel
theorem dX11_least_64 : decode cX11_least 64 = .ok (.iadd, 1) := by decide +kernel
theorem dX11_least_65 : decode cX11_least 65 = .ok (.istore_n 3, 1) := by decide +kernel
theorem dX11_least_66 : decode cX11_least 66 = .ok (.iinc 4 1, 3) := by decide +kernel
theorem dX11_least_69 : decode cX11_least 69 = .ok (.goto (-40), 3) := by decide +kernel
theorem dX11_least_72 : decode cX11_least 72 = .ok (.iload_n 3, 1) := by decide +kernel
theorem dX11_least_73 : decode cX11_least 73 = .ok (.ireturn, 1) := by decide +kernel
theorem dX11_open_0 : decode cX11_open 0 = .ok (.iconst 0, 1) := by decide +kernel
theorem dX11_open_1 : decode cX11_open 1 = .ok (.istore_n 1, 1) := by decide +kernel
theorem dX11_open_2 : decode cX11_open 2 = .ok (.iload_n 1, 1) := by decide +kernel
theorem dX11_open_3 : decode cX11_open 3 = .ok (.sipush 2401, 3) := by decide +kernel
theorem dX11_open_6 : decode cX11_open 6 = .ok (.if_icmp .ge 16, 3) := by decide +kernel
theorem dX11_open_9 : decode cX11_open 9 = .ok (.aload_n 0, 1) := by decide +kernel
theorem dX11_open_10 : decode cX11_open 10 = .ok (.getfield 40, 3) := by decide +kernel
theorem dX11_open_13 : decode cX11_open 13 = .ok (.iload_n 1, 1) := by decide +kernel
theorem dX11_open_14 : decode cX11_open 14 = .ok (.iconst 0, 1) := by decide +kernel
theorem dX11_open_15 : decode cX11_open 15 = .ok (.bastore, 1) := by decide +kernel
theorem dX11_open_16 : decode cX11_open 16 = .ok (.iinc 1 1, 3) := by decide +kernel
theorem dX11_open_19 : decode cX11_open 19 = .ok (.goto (-17), 3) := by decide +kernel
theorem dX11_open_22 : decode cX11_open 22 = .ok (.return_, 1) := by decide +kernel
theorem dX11_count_0 : decode cX11_count 0 = .ok (.aload_n 0, 1) := by decide +kernel
theorem dX11_count_1 : decode cX11_count 1 = .ok (.invokevirtual 126, 3) := by decide +kernel
theorem dX11_count_4 : decode cX11_count 4 = .ok (.istore_n 1, 1) := by decide +kernel
theorem dX11_count_5 : decode cX11_count 5 = .ok (.sipush 2400, 3) := by decide +kernel
theorem dX11_count_8 : decode cX11_count 8 = .ok (.istore_n 2, 1) := by decide +kernel
theorem dX11_count_9 : decode cX11_count 9 = .ok (.iload_n 2, 1) := by decide +kernel
theorem dX11_count_10 : decode cX11_count 10 = .ok (.ifCond .lt 129, 3) := by decide +kernel
theorem dX11_count_13 : decode cX11_count 13 = .ok (.aload_n 0, 1) := by decide +kernel
theorem dX11_count_14 : decode cX11_count 14 = .ok (.getfield 44, 3) := by decide +kernel
theorem dX11_count_17 : decode cX11_count 17 = .ok (.iload_n 2, 1) := by decide +kernel
theorem dX11_count_18 : decode cX11_count 18 = .ok (.lconst 0, 1) := by decide +kernel
theorem dX11_count_19 : decode cX11_count 19 = .ok (.lastore, 1) := by decide +kernel
theorem dX11_count_20 : decode cX11_count 20 = .ok (.aload_n 0, 1) := by decide +kernel
theorem dX11_count_21 : decode cX11_count 21 = .ok (.iload_n 2, 1) := by decide +kernel
theorem dX11_count_22 : decode cX11_count 22 = .ok (.invokevirtual 116, 3) := by decide +kernel
theorem dX11_count_25 : decode cX11_count 25 = .ok (.ifCond .eq 108, 3) := by decide +kernel
theorem dX11_count_28 : decode cX11_count 28 = .ok (.aload_n 0, 1) := by decide +kernel
theorem dX11_count_29 : decode cX11_count 29 = .ok (.getfield 40, 3) := by decide +kernel
theorem dX11_count_32 : decode cX11_count 32 = .ok (.iload_n 2, 1) := by decide +kernel
theorem dX11_count_33 : decode cX11_count 33 = .ok (.baload, 1) := by decide +kernel
theorem dX11_count_34 : decode cX11_count 34 = .ok (.ifCond .eq 6, 3) := by decide +kernel
theorem dX11_count_37 : decode cX11_count 37 = .ok (.goto 96, 3) := by decide +kernel
theorem dX11_count_40 : decode cX11_count 40 = .ok (.iload_n 2, 1) := by decide +kernel
theorem dX11_count_41 : decode cX11_count 41 = .ok (.iload_n 1, 1) := by decide +kernel
theorem dX11_count_42 : decode cX11_count 42 = .ok (.if_icmp .ne 10, 3) := by decide +kernel
theorem dX11_count_45 : decode cX11_count 45 = .ok (.aload_n 0, 1) := by decide +kernel
theorem dX11_count_46 : decode cX11_count 46 = .ok (.getfield 44, 3) := by decide +kernel
theorem dX11_count_49 : decode cX11_count 49 = .ok (.iload_n 2, 1) := by decide +kernel
theorem dX11_count_50 : decode cX11_count 50 = .ok (.lconst 1, 1) := by decide +kernel
theorem dX11_count_51 : decode cX11_count 51 = .ok (.lastore, 1) := by decide +kernel
theorem dX11_count_52 : decode cX11_count 52 = .ok (.iconst 0, 1) := by decide +kernel
theorem dX11_count_53 : decode cX11_count 53 = .ok (.istore_n 3, 1) := by decide +kernel
theorem dX11_count_54 : decode cX11_count 54 = .ok (.iload_n 3, 1) := by decide +kernel
theorem dX11_count_55 : decode cX11_count 55 = .ok (.aload_n 0, 1) := by decide +kernel
theorem dX11_count_56 : decode cX11_count 56 = .ok (.getfield 76, 3) := by decide +kernel
theorem dX11_count_59 : decode cX11_count 59 = .ok (.if_icmp .ge 43, 3) := by decide +kernel
theorem dX11_count_62 : decode cX11_count 62 = .ok (.iload_n 2, 1) := by decide +kernel
theorem dX11_count_63 : decode cX11_count 63 = .ok (.iload_n 3, 1) := by decide +kernel
theorem dX11_count_64 : decode cX11_count 64 = .ok (.invokestatic 109, 3) := by decide +kernel
theorem dX11_count_67 : decode cX11_count 67 = .ok (.aload_n 0, 1) := by decide +kernel
theorem dX11_count_68 : decode cX11_count 68 = .ok (.getfield 7, 3) := by decide +kernel
theorem dX11_count_71 : decode cX11_count 71 = .ok (.iload_n 3, 1) := by decide +kernel
theorem dX11_count_72 : decode cX11_count 72 = .ok (.iaload, 1) := by decide +kernel
theorem dX11_count_73 : decode cX11_count 73 = .ok (.if_icmp .ge 23, 3) := by decide +kernel
theorem dX11_count_76 : decode cX11_count 76 = .ok (.aload_n 0, 1) := by decide +kernel
theorem dX11_count_77 : decode cX11_count 77 = .ok (.getfield 44, 3) := by decide +kernel
theorem dX11_count_80 : decode cX11_count 80 = .ok (.iload_n 2, 1) := by decide +kernel
theorem dX11_count_81 : decode cX11_count 81 = .ok (.dup2, 1) := by decide +kernel
theorem dX11_count_82 : decode cX11_count 82 = .ok (.laload, 1) := by decide +kernel
theorem dX11_count_83 : decode cX11_count 83 = .ok (.aload_n 0, 1) := by decide +kernel
theorem dX11_count_84 : decode cX11_count 84 = .ok (.getfield 44, 3) := by decide +kernel
theorem dX11_count_87 : decode cX11_count 87 = .ok (.iload_n 2, 1) := by decide +kernel
theorem dX11_count_88 : decode cX11_count 88 = .ok (.iload_n 3, 1) := by decide +kernel
theorem dX11_count_89 : decode cX11_count 89 = .ok (.invokestatic 105, 3) := by decide +kernel
theorem dX11_count_92 : decode cX11_count 92 = .ok (.iadd, 1) := by decide +kernel
theorem dX11_count_93 : decode cX11_count 93 = .ok (.laload, 1) := by decide +kernel
theorem dX11_count_94 : decode cX11_count 94 = .ok (.ladd, 1) := by decide +kernel
theorem dX11_count_95 : decode cX11_count 95 = .ok (.lastore, 1) := by decide +kernel
theorem dX11_count_96 : decode cX11_count 96 = .ok (.iinc 3 1, 3) := by decide +kernel
theorem dX11_count_99 : decode cX11_count 99 = .ok (.goto (-45), 3) := by decide +kernel
theorem dX11_count_102 : decode cX11_count 102 = .ok (.aload_n 0, 1) := by decide +kernel
theorem dX11_count_103 : decode cX11_count 103 = .ok (.getfield 44, 3) := by decide +kernel
theorem dX11_count_106 : decode cX11_count 106 = .ok (.iload_n 2, 1) := by decide +kernel
theorem dX11_count_107 : decode cX11_count 107 = .ok (.aload_n 0, 1) := by decide +kernel
theorem dX11_count_108 : decode cX11_count 108 = .ok (.getfield 44, 3) := by decide +kernel
theorem dX11_count_111 : decode cX11_count 111 = .ok (.iload_n 2, 1) := by decide +kernel
theorem dX11_count_112 : decode cX11_count 112 = .ok (.laload, 1) := by decide +kernel
theorem dX11_count_113 : decode cX11_count 113 = .ok (.ldc2_w 130, 3) := by decide +kernel
theorem dX11_count_116 : decode cX11_count 116 = .ok (.lcmp, 1) := by decide +kernel
theorem dX11_count_117 : decode cX11_count 117 = .ok (.ifCond .le 9, 3) := by decide +kernel
theorem dX11_count_120 : decode cX11_count 120 = .ok (.ldc2_w 130, 3) := by decide +kernel
theorem dX11_count_123 : decode cX11_count 123 = .ok (.goto 9, 3) := by decide +kernel
theorem dX11_count_126 : decode cX11_count 126 = .ok (.aload_n 0, 1) := by decide +kernel
theorem dX11_count_127 : decode cX11_count 127 = .ok (.getfield 44, 3) := by decide +kernel
theorem dX11_count_130 : decode cX11_count 130 = .ok (.iload_n 2, 1) := by decide +kernel
theorem dX11_count_131 : decode cX11_count 131 = .ok (.laload, 1) := by decide +kernel
theorem dX11_count_132 : decode cX11_count 132 = .ok (.lastore, 1) := by decide +kernel
theorem dX11_count_133 : decode cX11_count 133 = .ok (.iinc 2 (-1), 3) := by decide +kernel
theorem dX11_count_136 : decode cX11_count 136 = .ok (.goto (-127), 3) := by decide +kernel
theorem dX11_count_139 : decode cX11_count 139 = .ok (.return_, 1) := by decide +kernel
theorem dX11_orders_0 : decode cX11_orders 0 = .ok (.aload_n 0, 1) := by decide +kernel
theorem dX11_orders_1 : decode cX11_orders 1 = .ok (.invokevirtual 132, 3) := by decide +kernel
theorem dX11_orders_4 : decode cX11_orders 4 = .ok (.aload_n 0, 1) := by decide +kernel
theorem dX11_orders_5 : decode cX11_orders 5 = .ok (.invokevirtual 135, 3) := by decide +kernel
theorem dX11_orders_8 : decode cX11_orders 8 = .ok (.aload_n 0, 1) := by decide +kernel
theorem dX11_orders_9 : decode cX11_orders 9 = .ok (.getfield 44, 3) := by decide +kernel
theorem dX11_orders_12 : decode cX11_orders 12 = .ok (.iconst 0, 1) := by decide +kernel
theorem dX11_orders_13 : decode cX11_orders 13 = .ok (.laload, 1) := by decide +kernel
theorem dX11_orders_14 : decode cX11_orders 14 = .ok (.lreturn, 1) := by decide +kernel
theorem dX11_walk_0 : decode cX11_walk 0 = .ok (.iconst 0, 1) := by decide +kernel
theorem dX11_walk_1 : decode cX11_walk 1 = .ok (.istore 4, 2) := by decide +kernel
theorem dX11_walk_3 : decode cX11_walk 3 = .ok (.lload_n 1, 1) := by decide +kernel
theorem dX11_walk_4 : decode cX11_walk 4 = .ok (.lstore 5, 2) := by decide +kernel
theorem dX11_walk_6 : decode cX11_walk 6 = .ok (.iconst 0, 1) := by decide +kernel
theorem dX11_walk_7 : decode cX11_walk 7 = .ok (.istore 7, 2) := by decide +kernel
theorem dX11_walk_9 : decode cX11_walk 9 = .ok (.iload 7, 2) := by decide +kernel
theorem dX11_walk_11 : decode cX11_walk 11 = .ok (.iload_n 3, 1) := by decide +kernel
theorem dX11_walk_12 : decode cX11_walk 12 = .ok (.if_icmp .gt 112, 3) := by decide +kernel
theorem dX11_walk_15 : decode cX11_walk 15 = .ok (.iconst 0, 1) := by decide +kernel
theorem dX11_walk_16 : decode cX11_walk 16 = .ok (.istore 8, 2) := by decide +kernel
theorem dX11_walk_18 : decode cX11_walk 18 = .ok (.iload 4, 2) := by decide +kernel
theorem dX11_walk_20 : decode cX11_walk 20 = .ok (.iload 8, 2) := by decide +kernel
theorem dX11_walk_22 : decode cX11_walk 22 = .ok (.invokestatic 109, 3) := by decide +kernel
theorem dX11_walk_25 : decode cX11_walk 25 = .ok (.aload_n 0, 1) := by decide +kernel
theorem dX11_walk_26 : decode cX11_walk 26 = .ok (.getfield 7, 3) := by decide +kernel
theorem dX11_walk_29 : decode cX11_walk 29 = .ok (.iload 8, 2) := by decide +kernel
theorem dX11_walk_31 : decode cX11_walk 31 = .ok (.iaload, 1) := by decide +kernel
theorem dX11_walk_32 : decode cX11_walk 32 = .ok (.if_icmp .eq 22, 3) := by decide +kernel
theorem dX11_walk_35 : decode cX11_walk 35 = .ok (.lload 5, 2) := by decide +kernel
theorem dX11_walk_37 : decode cX11_walk 37 = .ok (.aload_n 0, 1) := by decide +kernel
theorem dX11_walk_38 : decode cX11_walk 38 = .ok (.getfield 44, 3) := by decide +kernel
theorem dX11_walk_41 : decode cX11_walk 41 = .ok (.iload 4, 2) := by decide +kernel
theorem dX11_walk_43 : decode cX11_walk 43 = .ok (.iload 8, 2) := by decide +kernel
theorem dX11_walk_45 : decode cX11_walk 45 = .ok (.invokestatic 105, 3) := by decide +kernel
theorem dX11_walk_48 : decode cX11_walk 48 = .ok (.iadd, 1) := by decide +kernel
theorem dX11_walk_49 : decode cX11_walk 49 = .ok (.laload, 1) := by decide +kernel
theorem dX11_walk_50 : decode cX11_walk 50 = .ok (.lcmp, 1) := by decide +kernel
theorem dX11_walk_51 : decode cX11_walk 51 = .ok (.ifCond .lt 48, 3) := by decide +kernel
theorem dX11_walk_54 : decode cX11_walk 54 = .ok (.lload 5, 2) := by decide +kernel
theorem dX11_walk_56 : decode cX11_walk 56 = .ok (.iload 4, 2) := by decide +kernel
theorem dX11_walk_58 : decode cX11_walk 58 = .ok (.iload 8, 2) := by decide +kernel
theorem dX11_walk_60 : decode cX11_walk 60 = .ok (.invokestatic 109, 3) := by decide +kernel
theorem dX11_walk_63 : decode cX11_walk 63 = .ok (.aload_n 0, 1) := by decide +kernel
theorem dX11_walk_64 : decode cX11_walk 64 = .ok (.getfield 7, 3) := by decide +kernel
theorem dX11_walk_67 : decode cX11_walk 67 = .ok (.iload 8, 2) := by decide +kernel
theorem dX11_walk_69 : decode cX11_walk 69 = .ok (.iaload, 1) := by decide +kernel
theorem dX11_walk_70 : decode cX11_walk 70 = .ok (.if_icmp .ne 7, 3) := by decide +kernel
theorem dX11_walk_73 : decode cX11_walk 73 = .ok (.lconst 0, 1) := by decide +kernel
theorem dX11_walk_74 : decode cX11_walk 74 = .ok (.goto 16, 3) := by decide +kernel
theorem dX11_walk_77 : decode cX11_walk 77 = .ok (.aload_n 0, 1) := by decide +kernel
theorem dX11_walk_78 : decode cX11_walk 78 = .ok (.getfield 44, 3) := by decide +kernel
theorem dX11_walk_81 : decode cX11_walk 81 = .ok (.iload 4, 2) := by decide +kernel
theorem dX11_walk_83 : decode cX11_walk 83 = .ok (.iload 8, 2) := by decide +kernel
theorem dX11_walk_85 : decode cX11_walk 85 = .ok (.invokestatic 105, 3) := by decide +kernel
theorem dX11_walk_88 : decode cX11_walk 88 = .ok (.iadd, 1) := by decide +kernel
theorem dX11_walk_89 : decode cX11_walk 89 = .ok (.laload, 1) := by decide +kernel
theorem dX11_walk_90 : decode cX11_walk 90 = .ok (.lsub, 1) := by decide +kernel
theorem dX11_walk_91 : decode cX11_walk 91 = .ok (.lstore 5, 2) := by decide +kernel
theorem dX11_walk_93 : decode cX11_walk 93 = .ok (.iinc 8 1, 3) := by decide +kernel
theorem dX11_walk_96 : decode cX11_walk 96 = .ok (.goto (-78), 3) := by decide +kernel
theorem dX11_walk_99 : decode cX11_walk 99 = .ok (.iload 4, 2) := by decide +kernel
theorem dX11_walk_101 : decode cX11_walk 101 = .ok (.iload 8, 2) := by decide +kernel
theorem dX11_walk_103 : decode cX11_walk 103 = .ok (.invokestatic 105, 3) := by decide +kernel
theorem dX11_walk_106 : decode cX11_walk 106 = .ok (.iadd, 1) := by decide +kernel
theorem dX11_walk_107 : decode cX11_walk 107 = .ok (.istore 4, 2) := by decide +kernel
theorem dX11_walk_109 : decode cX11_walk 109 = .ok (.iload 7, 2) := by decide +kernel
theorem dX11_walk_111 : decode cX11_walk 111 = .ok (.iload_n 3, 1) := by decide +kernel
theorem dX11_walk_112 : decode cX11_walk 112 = .ok (.if_icmp .ne 6, 3) := by decide +kernel
theorem dX11_walk_115 : decode cX11_walk 115 = .ok (.iload 8, 2) := by decide +kernel
theorem dX11_walk_117 : decode cX11_walk 117 = .ok (.ireturn, 1) := by decide +kernel
theorem dX11_walk_118 : decode cX11_walk 118 = .ok (.iinc 7 1, 3) := by decide +kernel
theorem dX11_walk_121 : decode cX11_walk 121 = .ok (.goto (-112), 3) := by decide +kernel
theorem dX11_walk_124 : decode cX11_walk 124 = .ok (.iconst (-1), 1) := by decide +kernel
theorem dX11_walk_125 : decode cX11_walk 125 = .ok (.ireturn, 1) := by decide +kernel
theorem dX11_order_0 : decode cX11_order 0 = .ok (.aload_n 0, 1) := by decide +kernel
theorem dX11_order_1 : decode cX11_order 1 = .ok (.invokevirtual 132, 3) := by decide +kernel
theorem dX11_order_4 : decode cX11_order 4 = .ok (.aload_n 0, 1) := by decide +kernel
theorem dX11_order_5 : decode cX11_order 5 = .ok (.invokevirtual 135, 3) := by decide +kernel
theorem dX11_order_8 : decode cX11_order 8 = .ok (.lload_n 1, 1) := by decide +kernel
theorem dX11_order_9 : decode cX11_order 9 = .ok (.lconst 0, 1) := by decide +kernel
theorem dX11_order_10 : decode cX11_order 10 = .ok (.lcmp, 1) := by decide +kernel
theorem dX11_order_11 : decode cX11_order 11 = .ok (.ifCond .lt 28, 3) := by decide +kernel
theorem dX11_order_14 : decode cX11_order 14 = .ok (.lload_n 1, 1) := by decide +kernel
theorem dX11_order_15 : decode cX11_order 15 = .ok (.aload_n 0, 1) := by decide +kernel
theorem dX11_order_16 : decode cX11_order 16 = .ok (.getfield 44, 3) := by decide +kernel
theorem dX11_order_19 : decode cX11_order 19 = .ok (.iconst 0, 1) := by decide +kernel
theorem dX11_order_20 : decode cX11_order 20 = .ok (.laload, 1) := by decide +kernel
theorem dX11_order_21 : decode cX11_order 21 = .ok (.lcmp, 1) := by decide +kernel
theorem dX11_order_22 : decode cX11_order 22 = .ok (.ifCond .ge 17, 3) := by decide +kernel
theorem dX11_order_25 : decode cX11_order 25 = .ok (.iload_n 3, 1) := by decide +kernel
theorem dX11_order_26 : decode cX11_order 26 = .ok (.iconst 0, 1) := by decide +kernel
theorem dX11_order_27 : decode cX11_order 27 = .ok (.aload_n 0, 1) := by decide +kernel
theorem dX11_order_28 : decode cX11_order 28 = .ok (.getfield 87, 3) := by decide +kernel
theorem dX11_order_31 : decode cX11_order 31 = .ok (.iconst 1, 1) := by decide +kernel
theorem dX11_order_32 : decode cX11_order 32 = .ok (.isub, 1) := by decide +kernel
theorem dX11_order_33 : decode cX11_order 33 = .ok (.invokestatic 79, 3) := by decide +kernel
theorem dX11_order_36 : decode cX11_order 36 = .ok (.ifCond .ne 5, 3) := by decide +kernel
theorem dX11_order_39 : decode cX11_order 39 = .ok (.iconst (-1), 1) := by decide +kernel
theorem dX11_order_40 : decode cX11_order 40 = .ok (.ireturn, 1) := by decide +kernel
theorem dX11_order_41 : decode cX11_order 41 = .ok (.aload_n 0, 1) := by decide +kernel
theorem dX11_order_42 : decode cX11_order 42 = .ok (.lload_n 1, 1) := by decide +kernel
theorem dX11_order_43 : decode cX11_order 43 = .ok (.iload_n 3, 1) := by decide +kernel
theorem dX11_order_44 : decode cX11_order 44 = .ok (.invokevirtual 138, 3) := by decide +kernel
theorem dX11_order_47 : decode cX11_order 47 = .ok (.ireturn, 1) := by decide +kernel
theorem dX11_push_0 : decode cX11_push 0 = .ok (.aload_n 0, 1) := by decide +kernel
theorem dX11_push_1 : decode cX11_push 1 = .ok (.getfield 142, 3) := by decide +kernel
theorem dX11_push_4 : decode cX11_push 4 = .ok (.bipush 6, 2) := by decide +kernel
theorem dX11_push_6 : decode cX11_push 6 = .ok (.if_icmp .ne 6, 3) := by decide +kernel
theorem dX11_push_9 : decode cX11_push 9 = .ok (.bipush (-4), 2) := by decide +kernel
theorem dX11_push_11 : decode cX11_push 11 = .ok (.ireturn, 1) := by decide +kernel
theorem dX11_push_12 : decode cX11_push 12 = .ok (.bipush 15, 2) := by decide +kernel
theorem dX11_push_14 : decode cX11_push 14 = .ok (.bipush 8, 2) := by decide +kernel
theorem dX11_push_16 : decode cX11_push 16 = .ok (.aload_n 0, 1) := by decide +kernel
theorem dX11_push_17 : decode cX11_push 17 = .ok (.getfield 142, 3) := by decide +kernel
theorem dX11_push_20 : decode cX11_push 20 = .ok (.iadd, 1) := by decide +kernel
theorem dX11_push_21 : decode cX11_push 21 = .ok (.imul, 1) := by decide +kernel
theorem dX11_push_22 : decode cX11_push 22 = .ok (.istore 4, 2) := by decide +kernel
theorem dX11_push_24 : decode cX11_push 24 = .ok (.aload_n 0, 1) := by decide +kernel
theorem dX11_push_25 : decode cX11_push 25 = .ok (.getfield 48, 3) := by decide +kernel
theorem dX11_push_28 : decode cX11_push 28 = .ok (.iload 4, 2) := by decide +kernel
theorem dX11_push_30 : decode cX11_push 30 = .ok (.iload_n 1, 1) := by decide +kernel
theorem dX11_push_31 : decode cX11_push 31 = .ok (.iastore, 1) := by decide +kernel
theorem dX11_push_32 : decode cX11_push 32 = .ok (.aload_n 0, 1) := by decide +kernel
theorem dX11_push_33 : decode cX11_push 33 = .ok (.getfield 51, 3) := by decide +kernel
theorem dX11_push_36 : decode cX11_push 36 = .ok (.iload 4, 2) := by decide +kernel
theorem dX11_push_38 : decode cX11_push 38 = .ok (.iload_n 2, 1) := by decide +kernel
theorem dX11_push_39 : decode cX11_push 39 = .ok (.iastore, 1) := by decide +kernel
theorem dX11_push_40 : decode cX11_push 40 = .ok (.aload_n 0, 1) := by decide +kernel
theorem dX11_push_41 : decode cX11_push 41 = .ok (.getfield 54, 3) := by decide +kernel
theorem dX11_push_44 : decode cX11_push 44 = .ok (.iload 4, 2) := by decide +kernel
theorem dX11_push_46 : decode cX11_push 46 = .ok (.iload_n 3, 1) := by decide +kernel
theorem dX11_push_47 : decode cX11_push 47 = .ok (.iastore, 1) := by decide +kernel
theorem dX11_push_48 : decode cX11_push 48 = .ok (.aload_n 0, 1) := by decide +kernel
theorem dX11_push_49 : decode cX11_push 49 = .ok (.getfield 57, 3) := by decide +kernel
theorem dX11_push_52 : decode cX11_push 52 = .ok (.bipush 8, 2) := by decide +kernel
theorem dX11_push_54 : decode cX11_push 54 = .ok (.aload_n 0, 1) := by decide +kernel
theorem dX11_push_55 : decode cX11_push 55 = .ok (.getfield 142, 3) := by decide +kernel
theorem dX11_push_58 : decode cX11_push 58 = .ok (.iadd, 1) := by decide +kernel
theorem dX11_push_59 : decode cX11_push 59 = .ok (.iconst 1, 1) := by decide +kernel
theorem dX11_push_60 : decode cX11_push 60 = .ok (.iastore, 1) := by decide +kernel
theorem dX11_push_61 : decode cX11_push 61 = .ok (.aload_n 0, 1) := by decide +kernel
theorem dX11_push_62 : decode cX11_push 62 = .ok (.dup, 1) := by decide +kernel
theorem dX11_push_63 : decode cX11_push 63 = .ok (.getfield 142, 3) := by decide +kernel
theorem dX11_push_66 : decode cX11_push 66 = .ok (.iconst 1, 1) := by decide +kernel
theorem dX11_push_67 : decode cX11_push 67 = .ok (.iadd, 1) := by decide +kernel
theorem dX11_push_68 : decode cX11_push 68 = .ok (.putfield 142, 3) := by decide +kernel
theorem dX11_push_71 : decode cX11_push 71 = .ok (.aload_n 0, 1) := by decide +kernel
theorem dX11_push_72 : decode cX11_push 72 = .ok (.getfield 142, 3) := by decide +kernel
theorem dX11_push_75 : decode cX11_push 75 = .ok (.ireturn, 1) := by decide +kernel
theorem dX11_number_0 : decode cX11_number 0 = .ok (.aload_n 0, 1) := by decide +kernel
theorem dX11_number_1 : decode cX11_number 1 = .ok (.bipush 10, 2) := by decide +kernel
theorem dX11_number_3 : decode cX11_number 3 = .ok (.iload_n 1, 1) := by decide +kernel
theorem dX11_number_4 : decode cX11_number 4 = .ok (.iconst 0, 1) := by decide +kernel
theorem dX11_number_5 : decode cX11_number 5 = .ok (.invokevirtual 145, 3) := by decide +kernel
theorem dX11_number_8 : decode cX11_number 8 = .ok (.ireturn, 1) := by decide +kernel
theorem dX11_part__0 : decode cX11_part_ 0 = .ok (.iload_n 1, 1) := by decide +kernel
theorem dX11_part__1 : decode cX11_part_ 1 = .ok (.iconst 0, 1) := by decide +kernel
theorem dX11_part__2 : decode cX11_part_ 2 = .ok (.iconst 2, 1) := by decide +kernel
theorem dX11_part__3 : decode cX11_part_ 3 = .ok (.invokestatic 79, 3) := by decide +kernel
theorem dX11_part__6 : decode cX11_part_ 6 = .ok (.ifCond .eq 29, 3) := by decide +kernel
theorem dX11_part__9 : decode cX11_part_ 9 = .ok (.iload_n 2, 1) := by decide +kernel
theorem dX11_part__10 : decode cX11_part_ 10 = .ok (.iconst 0, 1) := by decide +kernel
theorem dX11_part__11 : decode cX11_part_ 11 = .ok (.iconst 3, 1) := by decide +kernel
theorem dX11_part__12 : decode cX11_part_ 12 = .ok (.invokestatic 79, 3) := by decide +kernel
theorem dX11_part__15 : decode cX11_part_ 15 = .ok (.ifCond .eq 20, 3) := by decide +kernel
theorem dX11_part__18 : decode cX11_part_ 18 = .ok (.iload_n 3, 1) := by decide +kernel
theorem dX11_part__19 : decode cX11_part_ 19 = .ok (.iconst 0, 1) := by decide +kernel
theorem dX11_part__20 : decode cX11_part_ 20 = .ok (.iload_n 1, 1) := by decide +kernel
theorem dX11_part__21 : decode cX11_part_ 21 = .ok (.ifCond .ne 7, 3) := by decide +kernel
theorem dX11_part__24 : decode cX11_part_ 24 = .ok (.iconst 2, 1) := by decide +kernel
theorem dX11_part__25 : decode cX11_part_ 25 = .ok (.goto 4, 3) := by decide +kernel
theorem dX11_part__28 : decode cX11_part_ 28 = .ok (.iconst 3, 1) := by decide +kernel
theorem dX11_part__29 : decode cX11_part_ 29 = .ok (.invokestatic 79, 3) := by decide +kernel
theorem dX11_part__32 : decode cX11_part_ 32 = .ok (.ifCond .ne 5, 3) := by decide +kernel
theorem dX11_part__35 : decode cX11_part_ 35 = .ok (.iconst (-1), 1) := by decide +kernel
theorem dX11_part__36 : decode cX11_part_ 36 = .ok (.ireturn, 1) := by decide +kernel
theorem dX11_part__37 : decode cX11_part_ 37 = .ok (.iload_n 1, 1) := by decide +kernel
theorem dX11_part__38 : decode cX11_part_ 38 = .ok (.iconst 1, 1) := by decide +kernel
theorem dX11_part__39 : decode cX11_part_ 39 = .ok (.if_icmp .ne 8, 3) := by decide +kernel
theorem dX11_part__42 : decode cX11_part_ 42 = .ok (.iload_n 2, 1) := by decide +kernel
theorem dX11_part__43 : decode cX11_part_ 43 = .ok (.iload_n 3, 1) := by decide +kernel
theorem dX11_part__44 : decode cX11_part_ 44 = .ok (.if_icmp .eq 12, 3) := by decide +kernel
theorem dX11_part__47 : decode cX11_part_ 47 = .ok (.iload_n 1, 1) := by decide +kernel
theorem dX11_part__48 : decode cX11_part_ 48 = .ok (.iconst 2, 1) := by decide +kernel
theorem dX11_part__49 : decode cX11_part_ 49 = .ok (.if_icmp .ne 10, 3) := by decide +kernel
theorem dX11_part__52 : decode cX11_part_ 52 = .ok (.iload_n 3, 1) := by decide +kernel
theorem dX11_part__53 : decode cX11_part_ 53 = .ok (.ifCond .eq 6, 3) := by decide +kernel
theorem dX11_part__56 : decode cX11_part_ 56 = .ok (.bipush (-2), 2) := by decide +kernel
theorem dX11_part__58 : decode cX11_part_ 58 = .ok (.ireturn, 1) := by decide +kernel
theorem dX11_part__59 : decode cX11_part_ 59 = .ok (.aload_n 0, 1) := by decide +kernel
theorem dX11_part__60 : decode cX11_part_ 60 = .ok (.bipush 11, 2) := by decide +kernel
theorem dX11_part__62 : decode cX11_part_ 62 = .ok (.iload_n 1, 1) := by decide +kernel
theorem dX11_part__63 : decode cX11_part_ 63 = .ok (.iadd, 1) := by decide +kernel
theorem dX11_part__64 : decode cX11_part_ 64 = .ok (.iload_n 2, 1) := by decide +kernel
theorem dX11_part__65 : decode cX11_part_ 65 = .ok (.iload_n 3, 1) := by decide +kernel
theorem dX11_part__66 : decode cX11_part_ 66 = .ok (.invokevirtual 145, 3) := by decide +kernel
theorem dX11_part__69 : decode cX11_part_ 69 = .ok (.ireturn, 1) := by decide +kernel
theorem dX11_copy_0 : decode cX11_copy 0 = .ok (.iconst 0, 1) := by decide +kernel
theorem dX11_copy_1 : decode cX11_copy 1 = .ok (.istore_n 3, 1) := by decide +kernel
theorem dX11_copy_2 : decode cX11_copy 2 = .ok (.iload_n 3, 1) := by decide +kernel
theorem dX11_copy_3 : decode cX11_copy 3 = .ok (.aload_n 0, 1) := by decide +kernel
theorem dX11_copy_4 : decode cX11_copy 4 = .ok (.getfield 57, 3) := by decide +kernel
theorem dX11_copy_7 : decode cX11_copy 7 = .ok (.iload_n 1, 1) := by decide +kernel
theorem dX11_copy_8 : decode cX11_copy 8 = .ok (.iaload, 1) := by decide +kernel
theorem dX11_copy_9 : decode cX11_copy 9 = .ok (.if_icmp .ge 86, 3) := by decide +kernel
theorem dX11_copy_12 : decode cX11_copy 12 = .ok (.bipush 15, 2) := by decide +kernel
theorem dX11_copy_14 : decode cX11_copy 14 = .ok (.iload_n 2, 1) := by decide +kernel
theorem dX11_copy_15 : decode cX11_copy 15 = .ok (.imul, 1) := by decide +kernel
theorem dX11_copy_16 : decode cX11_copy 16 = .ok (.aload_n 0, 1) := by decide +kernel
theorem dX11_copy_17 : decode cX11_copy 17 = .ok (.getfield 57, 3) := by decide +kernel
theorem dX11_copy_20 : decode cX11_copy 20 = .ok (.iload_n 2, 1) := by decide +kernel
theorem dX11_copy_21 : decode cX11_copy 21 = .ok (.iaload, 1) := by decide +kernel
theorem dX11_copy_22 : decode cX11_copy 22 = .ok (.iadd, 1) := by decide +kernel
theorem dX11_copy_23 : decode cX11_copy 23 = .ok (.istore 4, 2) := by decide +kernel
theorem dX11_copy_25 : decode cX11_copy 25 = .ok (.aload_n 0, 1) := by decide +kernel
theorem dX11_copy_26 : decode cX11_copy 26 = .ok (.getfield 48, 3) := by decide +kernel
theorem dX11_copy_29 : decode cX11_copy 29 = .ok (.iload 4, 2) := by decide +kernel
theorem dX11_copy_31 : decode cX11_copy 31 = .ok (.aload_n 0, 1) := by decide +kernel
theorem dX11_copy_32 : decode cX11_copy 32 = .ok (.getfield 48, 3) := by decide +kernel
theorem dX11_copy_35 : decode cX11_copy 35 = .ok (.bipush 15, 2) := by decide +kernel
theorem dX11_copy_37 : decode cX11_copy 37 = .ok (.iload_n 1, 1) := by decide +kernel
theorem dX11_copy_38 : decode cX11_copy 38 = .ok (.imul, 1) := by decide +kernel
theorem dX11_copy_39 : decode cX11_copy 39 = .ok (.iload_n 3, 1) := by decide +kernel
theorem dX11_copy_40 : decode cX11_copy 40 = .ok (.iadd, 1) := by decide +kernel
theorem dX11_copy_41 : decode cX11_copy 41 = .ok (.iaload, 1) := by decide +kernel
theorem dX11_copy_42 : decode cX11_copy 42 = .ok (.iastore, 1) := by decide +kernel
theorem dX11_copy_43 : decode cX11_copy 43 = .ok (.aload_n 0, 1) := by decide +kernel
theorem dX11_copy_44 : decode cX11_copy 44 = .ok (.getfield 51, 3) := by decide +kernel
theorem dX11_copy_47 : decode cX11_copy 47 = .ok (.iload 4, 2) := by decide +kernel
theorem dX11_copy_49 : decode cX11_copy 49 = .ok (.aload_n 0, 1) := by decide +kernel
theorem dX11_copy_50 : decode cX11_copy 50 = .ok (.getfield 51, 3) := by decide +kernel
theorem dX11_copy_53 : decode cX11_copy 53 = .ok (.bipush 15, 2) := by decide +kernel
theorem dX11_copy_55 : decode cX11_copy 55 = .ok (.iload_n 1, 1) := by decide +kernel
theorem dX11_copy_56 : decode cX11_copy 56 = .ok (.imul, 1) := by decide +kernel
theorem dX11_copy_57 : decode cX11_copy 57 = .ok (.iload_n 3, 1) := by decide +kernel
theorem dX11_copy_58 : decode cX11_copy 58 = .ok (.iadd, 1) := by decide +kernel
theorem dX11_copy_59 : decode cX11_copy 59 = .ok (.iaload, 1) := by decide +kernel
theorem dX11_copy_60 : decode cX11_copy 60 = .ok (.iastore, 1) := by decide +kernel
theorem dX11_copy_61 : decode cX11_copy 61 = .ok (.aload_n 0, 1) := by decide +kernel
theorem dX11_copy_62 : decode cX11_copy 62 = .ok (.getfield 54, 3) := by decide +kernel
theorem dX11_copy_65 : decode cX11_copy 65 = .ok (.iload 4, 2) := by decide +kernel
theorem dX11_copy_67 : decode cX11_copy 67 = .ok (.aload_n 0, 1) := by decide +kernel
theorem dX11_copy_68 : decode cX11_copy 68 = .ok (.getfield 54, 3) := by decide +kernel
theorem dX11_copy_71 : decode cX11_copy 71 = .ok (.bipush 15, 2) := by decide +kernel
theorem dX11_copy_73 : decode cX11_copy 73 = .ok (.iload_n 1, 1) := by decide +kernel
theorem dX11_copy_74 : decode cX11_copy 74 = .ok (.imul, 1) := by decide +kernel
theorem dX11_copy_75 : decode cX11_copy 75 = .ok (.iload_n 3, 1) := by decide +kernel
theorem dX11_copy_76 : decode cX11_copy 76 = .ok (.iadd, 1) := by decide +kernel
theorem dX11_copy_77 : decode cX11_copy 77 = .ok (.iaload, 1) := by decide +kernel
theorem dX11_copy_78 : decode cX11_copy 78 = .ok (.iastore, 1) := by decide +kernel
theorem dX11_copy_79 : decode cX11_copy 79 = .ok (.aload_n 0, 1) := by decide +kernel
theorem dX11_copy_80 : decode cX11_copy 80 = .ok (.getfield 57, 3) := by decide +kernel
theorem dX11_copy_83 : decode cX11_copy 83 = .ok (.iload_n 2, 1) := by decide +kernel
theorem dX11_copy_84 : decode cX11_copy 84 = .ok (.dup2, 1) := by decide +kernel
theorem dX11_copy_85 : decode cX11_copy 85 = .ok (.iaload, 1) := by decide +kernel
theorem dX11_copy_86 : decode cX11_copy 86 = .ok (.iconst 1, 1) := by decide +kernel
theorem dX11_copy_87 : decode cX11_copy 87 = .ok (.iadd, 1) := by decide +kernel
theorem dX11_copy_88 : decode cX11_copy 88 = .ok (.iastore, 1) := by decide +kernel
theorem dX11_copy_89 : decode cX11_copy 89 = .ok (.iinc 3 1, 3) := by decide +kernel
theorem dX11_copy_92 : decode cX11_copy 92 = .ok (.goto (-90), 3) := by decide +kernel
theorem dX11_copy_95 : decode cX11_copy 95 = .ok (.return_, 1) := by decide +kernel
end
section
theorem dX11_op_0 : decode cX11_op 0 = .ok (.iload_n 1, 1) := by decide +kernel
theorem dX11_op_1 : decode cX11_op 1 = .ok (.iconst 0, 1) := by decide +kernel
theorem dX11_op_2 : decode cX11_op 2 = .ok (.bipush 7, 2) := by decide +kernel
theorem dX11_op_4 : decode cX11_op 4 = .ok (.invokestatic 79, 3) := by decide +kernel
theorem dX11_op_7 : decode cX11_op 7 = .ok (.ifCond .ne 5, 3) := by decide +kernel
theorem dX11_op_10 : decode cX11_op 10 = .ok (.iconst (-1), 1) := by decide +kernel
theorem dX11_op_11 : decode cX11_op 11 = .ok (.ireturn, 1) := by decide +kernel
theorem dX11_op_12 : decode cX11_op 12 = .ok (.iload_n 1, 1) := by decide +kernel
theorem dX11_op_13 : decode cX11_op 13 = .ok (.bipush 7, 2) := by decide +kernel
theorem dX11_op_15 : decode cX11_op 15 = .ok (.if_icmp .ne 7, 3) := by decide +kernel
theorem dX11_op_18 : decode cX11_op 18 = .ok (.iconst 1, 1) := by decide +kernel
theorem dX11_op_19 : decode cX11_op 19 = .ok (.goto 4, 3) := by decide +kernel
theorem dX11_op_22 : decode cX11_op 22 = .ok (.iconst 2, 1) := by decide +kernel
theorem dX11_op_23 : decode cX11_op 23 = .ok (.istore_n 2, 1) := by decide +kernel
theorem dX11_op_24 : decode cX11_op 24 = .ok (.aload_n 0, 1) := by decide +kernel
theorem dX11_op_25 : decode cX11_op 25 = .ok (.getfield 142, 3) := by decide +kernel
theorem dX11_op_28 : decode cX11_op 28 = .ok (.iload_n 2, 1) := by decide +kernel
theorem dX11_op_29 : decode cX11_op 29 = .ok (.if_icmp .ge 6, 3) := by decide +kernel
theorem dX11_op_32 : decode cX11_op 32 = .ok (.bipush (-3), 2) := by decide +kernel
theorem dX11_op_34 : decode cX11_op 34 = .ok (.ireturn, 1) := by decide +kernel
theorem dX11_op_35 : decode cX11_op 35 = .ok (.bipush 8, 2) := by decide +kernel
theorem dX11_op_37 : decode cX11_op 37 = .ok (.aload_n 0, 1) := by decide +kernel
theorem dX11_op_38 : decode cX11_op 38 = .ok (.getfield 142, 3) := by decide +kernel
theorem dX11_op_41 : decode cX11_op 41 = .ok (.iadd, 1) := by decide +kernel
theorem dX11_op_42 : decode cX11_op 42 = .ok (.iconst 1, 1) := by decide +kernel
theorem dX11_op_43 : decode cX11_op 43 = .ok (.isub, 1) := by decide +kernel
theorem dX11_op_44 : decode cX11_op 44 = .ok (.istore_n 3, 1) := by decide +kernel
theorem dX11_op_45 : decode cX11_op 45 = .ok (.iload_n 3, 1) := by decide +kernel
theorem dX11_op_46 : decode cX11_op 46 = .ok (.iload_n 2, 1) := by decide +kernel
theorem dX11_op_47 : decode cX11_op 47 = .ok (.isub, 1) := by decide +kernel
theorem dX11_op_48 : decode cX11_op 48 = .ok (.iconst 1, 1) := by decide +kernel
theorem dX11_op_49 : decode cX11_op 49 = .ok (.iadd, 1) := by decide +kernel
theorem dX11_op_50 : decode cX11_op 50 = .ok (.istore 4, 2) := by decide +kernel
theorem dX11_op_52 : decode cX11_op 52 = .ok (.iconst 1, 1) := by decide +kernel
theorem dX11_op_53 : decode cX11_op 53 = .ok (.istore 5, 2) := by decide +kernel
theorem dX11_op_55 : decode cX11_op 55 = .ok (.iload 4, 2) := by decide +kernel
theorem dX11_op_57 : decode cX11_op 57 = .ok (.istore 6, 2) := by decide +kernel
theorem dX11_op_59 : decode cX11_op 59 = .ok (.iload 6, 2) := by decide +kernel
theorem dX11_op_61 : decode cX11_op 61 = .ok (.iload_n 3, 1) := by decide +kernel
theorem dX11_op_62 : decode cX11_op 62 = .ok (.if_icmp .gt 21, 3) := by decide +kernel
theorem dX11_op_65 : decode cX11_op 65 = .ok (.iload 5, 2) := by decide +kernel
theorem dX11_op_67 : decode cX11_op 67 = .ok (.aload_n 0, 1) := by decide +kernel
theorem dX11_op_68 : decode cX11_op 68 = .ok (.getfield 57, 3) := by decide +kernel
theorem dX11_op_71 : decode cX11_op 71 = .ok (.iload 6, 2) := by decide +kernel
theorem dX11_op_73 : decode cX11_op 73 = .ok (.iaload, 1) := by decide +kernel
theorem dX11_op_74 : decode cX11_op 74 = .ok (.iadd, 1) := by decide +kernel
theorem dX11_op_75 : decode cX11_op 75 = .ok (.istore 5, 2) := by decide +kernel
theorem dX11_op_77 : decode cX11_op 77 = .ok (.iinc 6 1, 3) := by decide +kernel
theorem dX11_op_80 : decode cX11_op 80 = .ok (.goto (-21), 3) := by decide +kernel
theorem dX11_op_83 : decode cX11_op 83 = .ok (.iload 5, 2) := by decide +kernel
theorem dX11_op_85 : decode cX11_op 85 = .ok (.bipush 15, 2) := by decide +kernel
theorem dX11_op_87 : decode cX11_op 87 = .ok (.if_icmp .le 6, 3) := by decide +kernel
theorem dX11_op_90 : decode cX11_op 90 = .ok (.bipush (-4), 2) := by decide +kernel
theorem dX11_op_92 : decode cX11_op 92 = .ok (.ireturn, 1) := by decide +kernel
theorem dX11_op_93 : decode cX11_op 93 = .ok (.iload_n 2, 1) := by decide +kernel
theorem dX11_op_94 : decode cX11_op 94 = .ok (.iconst 2, 1) := by decide +kernel
theorem dX11_op_95 : decode cX11_op 95 = .ok (.if_icmp .ne 10, 3) := by decide +kernel
theorem dX11_op_98 : decode cX11_op 98 = .ok (.aload_n 0, 1) := by decide +kernel
theorem dX11_op_99 : decode cX11_op 99 = .ok (.iload_n 3, 1) := by decide +kernel
theorem dX11_op_100 : decode cX11_op 100 = .ok (.iload 4, 2) := by decide +kernel
theorem dX11_op_102 : decode cX11_op 102 = .ok (.invokevirtual 149, 3) := by decide +kernel
theorem dX11_op_105 : decode cX11_op 105 = .ok (.bipush 15, 2) := by decide +kernel
theorem dX11_op_107 : decode cX11_op 107 = .ok (.iload 4, 2) := by decide +kernel
theorem dX11_op_109 : decode cX11_op 109 = .ok (.imul, 1) := by decide +kernel
theorem dX11_op_110 : decode cX11_op 110 = .ok (.aload_n 0, 1) := by decide +kernel
theorem dX11_op_111 : decode cX11_op 111 = .ok (.getfield 57, 3) := by decide +kernel
theorem dX11_op_114 : decode cX11_op 114 = .ok (.iload 4, 2) := by decide +kernel
theorem dX11_op_116 : decode cX11_op 116 = .ok (.iaload, 1) := by decide +kernel
theorem dX11_op_117 : decode cX11_op 117 = .ok (.iadd, 1) := by decide +kernel
theorem dX11_op_118 : decode cX11_op 118 = .ok (.istore 6, 2) := by decide +kernel
theorem dX11_op_120 : decode cX11_op 120 = .ok (.aload_n 0, 1) := by decide +kernel
theorem dX11_op_121 : decode cX11_op 121 = .ok (.getfield 48, 3) := by decide +kernel
theorem dX11_op_124 : decode cX11_op 124 = .ok (.iload 6, 2) := by decide +kernel
theorem dX11_op_126 : decode cX11_op 126 = .ok (.iload_n 1, 1) := by decide +kernel
theorem dX11_op_127 : decode cX11_op 127 = .ok (.iastore, 1) := by decide +kernel
theorem dX11_op_128 : decode cX11_op 128 = .ok (.aload_n 0, 1) := by decide +kernel
theorem dX11_op_129 : decode cX11_op 129 = .ok (.getfield 57, 3) := by decide +kernel
theorem dX11_op_132 : decode cX11_op 132 = .ok (.iload 4, 2) := by decide +kernel
theorem dX11_op_134 : decode cX11_op 134 = .ok (.dup2, 1) := by decide +kernel
theorem dX11_op_135 : decode cX11_op 135 = .ok (.iaload, 1) := by decide +kernel
theorem dX11_op_136 : decode cX11_op 136 = .ok (.iconst 1, 1) := by decide +kernel
theorem dX11_op_137 : decode cX11_op 137 = .ok (.iadd, 1) := by decide +kernel
theorem dX11_op_138 : decode cX11_op 138 = .ok (.iastore, 1) := by decide +kernel
theorem dX11_op_139 : decode cX11_op 139 = .ok (.aload_n 0, 1) := by decide +kernel
theorem dX11_op_140 : decode cX11_op 140 = .ok (.dup, 1) := by decide +kernel
theorem dX11_op_141 : decode cX11_op 141 = .ok (.getfield 142, 3) := by decide +kernel
theorem dX11_op_144 : decode cX11_op 144 = .ok (.iload_n 2, 1) := by decide +kernel
theorem dX11_op_145 : decode cX11_op 145 = .ok (.iconst 1, 1) := by decide +kernel
theorem dX11_op_146 : decode cX11_op 146 = .ok (.isub, 1) := by decide +kernel
theorem dX11_op_147 : decode cX11_op 147 = .ok (.isub, 1) := by decide +kernel
theorem dX11_op_148 : decode cX11_op 148 = .ok (.putfield 142, 3) := by decide +kernel
theorem dX11_op_151 : decode cX11_op 151 = .ok (.aload_n 0, 1) := by decide +kernel
theorem dX11_op_152 : decode cX11_op 152 = .ok (.getfield 142, 3) := by decide +kernel
theorem dX11_op_155 : decode cX11_op 155 = .ok (.ireturn, 1) := by decide +kernel
theorem dX11_condition_0 : decode cX11_condition 0 = .ok (.aload_n 0, 1) := by decide +kernel
theorem dX11_condition_1 : decode cX11_condition 1 = .ok (.getfield 142, 3) := by decide +kernel
theorem dX11_condition_4 : decode cX11_condition 4 = .ok (.iconst 1, 1) := by decide +kernel
theorem dX11_condition_5 : decode cX11_condition 5 = .ok (.if_icmp .eq 6, 3) := by decide +kernel
theorem dX11_condition_8 : decode cX11_condition 8 = .ok (.bipush (-3), 2) := by decide +kernel
theorem dX11_condition_10 : decode cX11_condition 10 = .ok (.ireturn, 1) := by decide +kernel
theorem dX11_condition_11 : decode cX11_condition 11 = .ok (.aload_n 0, 1) := by decide +kernel
theorem dX11_condition_12 : decode cX11_condition 12 = .ok (.getfield 152, 3) := by decide +kernel
theorem dX11_condition_15 : decode cX11_condition 15 = .ok (.bipush 8, 2) := by decide +kernel
theorem dX11_condition_17 : decode cX11_condition 17 = .ok (.if_icmp .ne 6, 3) := by decide +kernel
theorem dX11_condition_20 : decode cX11_condition 20 = .ok (.bipush (-4), 2) := by decide +kernel
theorem dX11_condition_22 : decode cX11_condition 22 = .ok (.ireturn, 1) := by decide +kernel
theorem dX11_condition_23 : decode cX11_condition 23 = .ok (.aload_n 0, 1) := by decide +kernel
theorem dX11_condition_24 : decode cX11_condition 24 = .ok (.getfield 57, 3) := by decide +kernel
theorem dX11_condition_27 : decode cX11_condition 27 = .ok (.aload_n 0, 1) := by decide +kernel
theorem dX11_condition_28 : decode cX11_condition 28 = .ok (.getfield 152, 3) := by decide +kernel
theorem dX11_condition_31 : decode cX11_condition 31 = .ok (.iconst 0, 1) := by decide +kernel
theorem dX11_condition_32 : decode cX11_condition 32 = .ok (.iastore, 1) := by decide +kernel
theorem dX11_condition_33 : decode cX11_condition 33 = .ok (.aload_n 0, 1) := by decide +kernel
theorem dX11_condition_34 : decode cX11_condition 34 = .ok (.bipush 8, 2) := by decide +kernel
theorem dX11_condition_36 : decode cX11_condition 36 = .ok (.aload_n 0, 1) := by decide +kernel
theorem dX11_condition_37 : decode cX11_condition 37 = .ok (.getfield 152, 3) := by decide +kernel
theorem dX11_condition_40 : decode cX11_condition 40 = .ok (.invokevirtual 149, 3) := by decide +kernel
theorem dX11_condition_43 : decode cX11_condition 43 = .ok (.aload_n 0, 1) := by decide +kernel
theorem dX11_condition_44 : decode cX11_condition 44 = .ok (.iconst 0, 1) := by decide +kernel
theorem dX11_condition_45 : decode cX11_condition 45 = .ok (.putfield 142, 3) := by decide +kernel
theorem dX11_condition_48 : decode cX11_condition 48 = .ok (.aload_n 0, 1) := by decide +kernel
theorem dX11_condition_49 : decode cX11_condition 49 = .ok (.dup, 1) := by decide +kernel
theorem dX11_condition_50 : decode cX11_condition 50 = .ok (.getfield 152, 3) := by decide +kernel
theorem dX11_condition_53 : decode cX11_condition 53 = .ok (.iconst 1, 1) := by decide +kernel
theorem dX11_condition_54 : decode cX11_condition 54 = .ok (.iadd, 1) := by decide +kernel
theorem dX11_condition_55 : decode cX11_condition 55 = .ok (.putfield 152, 3) := by decide +kernel
theorem dX11_condition_58 : decode cX11_condition 58 = .ok (.aload_n 0, 1) := by decide +kernel
theorem dX11_condition_59 : decode cX11_condition 59 = .ok (.getfield 152, 3) := by decide +kernel
theorem dX11_condition_62 : decode cX11_condition 62 = .ok (.iconst 1, 1) := by decide +kernel
theorem dX11_condition_63 : decode cX11_condition 63 = .ok (.isub, 1) := by decide +kernel
theorem dX11_condition_64 : decode cX11_condition 64 = .ok (.ireturn, 1) := by decide +kernel
theorem dX11_clear_0 : decode cX11_clear 0 = .ok (.iload_n 1, 1) := by decide +kernel
theorem dX11_clear_1 : decode cX11_clear 1 = .ok (.iconst 0, 1) := by decide +kernel
theorem dX11_clear_2 : decode cX11_clear 2 = .ok (.iconst 1, 1) := by decide +kernel
theorem dX11_clear_3 : decode cX11_clear 3 = .ok (.invokestatic 79, 3) := by decide +kernel
theorem dX11_clear_6 : decode cX11_clear 6 = .ok (.ifCond .ne 6, 3) := by decide +kernel
theorem dX11_clear_9 : decode cX11_clear 9 = .ok (.bipush (-2), 2) := by decide +kernel
theorem dX11_clear_11 : decode cX11_clear 11 = .ok (.ireturn, 1) := by decide +kernel
theorem dX11_clear_12 : decode cX11_clear 12 = .ok (.aload_n 0, 1) := by decide +kernel
theorem dX11_clear_13 : decode cX11_clear 13 = .ok (.getfield 142, 3) := by decide +kernel
theorem dX11_clear_16 : decode cX11_clear 16 = .ok (.istore_n 2, 1) := by decide +kernel
theorem dX11_clear_17 : decode cX11_clear 17 = .ok (.aload_n 0, 1) := by decide +kernel
theorem dX11_clear_18 : decode cX11_clear 18 = .ok (.iconst 0, 1) := by decide +kernel
theorem dX11_clear_19 : decode cX11_clear 19 = .ok (.putfield 142, 3) := by decide +kernel
theorem dX11_clear_22 : decode cX11_clear 22 = .ok (.iload_n 1, 1) := by decide +kernel
theorem dX11_clear_23 : decode cX11_clear 23 = .ok (.iconst 1, 1) := by decide +kernel
theorem dX11_clear_24 : decode cX11_clear 24 = .ok (.if_icmp .ne 15, 3) := by decide +kernel
theorem dX11_clear_27 : decode cX11_clear 27 = .ok (.iload_n 2, 1) := by decide +kernel
theorem dX11_clear_28 : decode cX11_clear 28 = .ok (.aload_n 0, 1) := by decide +kernel
theorem dX11_clear_29 : decode cX11_clear 29 = .ok (.getfield 152, 3) := by decide +kernel
theorem dX11_clear_32 : decode cX11_clear 32 = .ok (.iadd, 1) := by decide +kernel
theorem dX11_clear_33 : decode cX11_clear 33 = .ok (.istore_n 2, 1) := by decide +kernel
theorem dX11_clear_34 : decode cX11_clear 34 = .ok (.aload_n 0, 1) := by decide +kernel
theorem dX11_clear_35 : decode cX11_clear 35 = .ok (.iconst 0, 1) := by decide +kernel
theorem dX11_clear_36 : decode cX11_clear 36 = .ok (.putfield 152, 3) := by decide +kernel
theorem dX11_clear_39 : decode cX11_clear 39 = .ok (.iload_n 2, 1) := by decide +kernel
theorem dX11_clear_40 : decode cX11_clear 40 = .ok (.ireturn, 1) := by decide +kernel
theorem dX11_nameAt_0 : decode cX11_nameAt 0 = .ok (.iconst 0, 1) := by decide +kernel
theorem dX11_nameAt_1 : decode cX11_nameAt 1 = .ok (.istore 4, 2) := by decide +kernel
theorem dX11_nameAt_3 : decode cX11_nameAt 3 = .ok (.iconst 0, 1) := by decide +kernel
theorem dX11_nameAt_4 : decode cX11_nameAt 4 = .ok (.istore 5, 2) := by decide +kernel
theorem dX11_nameAt_6 : decode cX11_nameAt 6 = .ok (.iload 5, 2) := by decide +kernel
theorem dX11_nameAt_8 : decode cX11_nameAt 8 = .ok (.iload_n 3, 1) := by decide +kernel
theorem dX11_nameAt_9 : decode cX11_nameAt 9 = .ok (.iload_n 1, 1) := by decide +kernel
theorem dX11_nameAt_10 : decode cX11_nameAt 10 = .ok (.invokestatic 109, 3) := by decide +kernel
theorem dX11_nameAt_13 : decode cX11_nameAt 13 = .ok (.if_icmp .ge 84, 3) := by decide +kernel
theorem dX11_nameAt_16 : decode cX11_nameAt 16 = .ok (.iload_n 1, 1) := by decide +kernel
theorem dX11_nameAt_17 : decode cX11_nameAt 17 = .ok (.aload_n 0, 1) := by decide +kernel
theorem dX11_nameAt_18 : decode cX11_nameAt 18 = .ok (.getfield 76, 3) := by decide +kernel
theorem dX11_nameAt_21 : decode cX11_nameAt 21 = .ok (.if_icmp .ge 76, 3) := by decide +kernel
theorem dX11_nameAt_24 : decode cX11_nameAt 24 = .ok (.bipush 6, 2) := by decide +kernel
theorem dX11_nameAt_26 : decode cX11_nameAt 26 = .ok (.iload_n 1, 1) := by decide +kernel
theorem dX11_nameAt_27 : decode cX11_nameAt 27 = .ok (.imul, 1) := by decide +kernel
theorem dX11_nameAt_28 : decode cX11_nameAt 28 = .ok (.iload 5, 2) := by decide +kernel
theorem dX11_nameAt_30 : decode cX11_nameAt 30 = .ok (.iadd, 1) := by decide +kernel
theorem dX11_nameAt_31 : decode cX11_nameAt 31 = .ok (.istore 6, 2) := by decide +kernel
theorem dX11_nameAt_33 : decode cX11_nameAt 33 = .ok (.aload_n 0, 1) := by decide +kernel
theorem dX11_nameAt_34 : decode cX11_nameAt 34 = .ok (.getfield 13, 3) := by decide +kernel
theorem dX11_nameAt_37 : decode cX11_nameAt 37 = .ok (.iload 6, 2) := by decide +kernel
theorem dX11_nameAt_39 : decode cX11_nameAt 39 = .ok (.iaload, 1) := by decide +kernel
theorem dX11_nameAt_40 : decode cX11_nameAt 40 = .ok (.iconst 1, 1) := by decide +kernel
theorem dX11_nameAt_41 : decode cX11_nameAt 41 = .ok (.if_icmp .gt 50, 3) := by decide +kernel
theorem dX11_nameAt_44 : decode cX11_nameAt 44 = .ok (.aload_n 0, 1) := by decide +kernel
theorem dX11_nameAt_45 : decode cX11_nameAt 45 = .ok (.getfield 16, 3) := by decide +kernel
theorem dX11_nameAt_48 : decode cX11_nameAt 48 = .ok (.iload 6, 2) := by decide +kernel
theorem dX11_nameAt_50 : decode cX11_nameAt 50 = .ok (.iaload, 1) := by decide +kernel
theorem dX11_nameAt_51 : decode cX11_nameAt 51 = .ok (.iload_n 2, 1) := by decide +kernel
theorem dX11_nameAt_52 : decode cX11_nameAt 52 = .ok (.if_icmp .eq 6, 3) := by decide +kernel
theorem dX11_nameAt_55 : decode cX11_nameAt 55 = .ok (.goto 36, 3) := by decide +kernel
theorem dX11_nameAt_58 : decode cX11_nameAt 58 = .ok (.aload_n 0, 1) := by decide +kernel
theorem dX11_nameAt_59 : decode cX11_nameAt 59 = .ok (.getfield 13, 3) := by decide +kernel
theorem dX11_nameAt_62 : decode cX11_nameAt 62 = .ok (.iload 6, 2) := by decide +kernel
theorem dX11_nameAt_64 : decode cX11_nameAt 64 = .ok (.iaload, 1) := by decide +kernel
theorem dX11_nameAt_65 : decode cX11_nameAt 65 = .ok (.iconst 1, 1) := by decide +kernel
theorem dX11_nameAt_66 : decode cX11_nameAt 66 = .ok (.if_icmp .ne 16, 3) := by decide +kernel
theorem dX11_nameAt_69 : decode cX11_nameAt 69 = .ok (.iload 4, 2) := by decide +kernel
theorem dX11_nameAt_71 : decode cX11_nameAt 71 = .ok (.aload_n 0, 1) := by decide +kernel
theorem dX11_nameAt_72 : decode cX11_nameAt 72 = .ok (.getfield 19, 3) := by decide +kernel
theorem dX11_nameAt_75 : decode cX11_nameAt 75 = .ok (.iload 6, 2) := by decide +kernel
theorem dX11_nameAt_77 : decode cX11_nameAt 77 = .ok (.iaload, 1) := by decide +kernel
theorem dX11_nameAt_78 : decode cX11_nameAt 78 = .ok (.iadd, 1) := by decide +kernel
theorem dX11_nameAt_79 : decode cX11_nameAt 79 = .ok (.goto 10, 3) := by decide +kernel
theorem dX11_nameAt_82 : decode cX11_nameAt 82 = .ok (.aload_n 0, 1) := by decide +kernel
theorem dX11_nameAt_83 : decode cX11_nameAt 83 = .ok (.getfield 19, 3) := by decide +kernel
theorem dX11_nameAt_86 : decode cX11_nameAt 86 = .ok (.iload 6, 2) := by decide +kernel
theorem dX11_nameAt_88 : decode cX11_nameAt 88 = .ok (.iaload, 1) := by decide +kernel
theorem dX11_nameAt_89 : decode cX11_nameAt 89 = .ok (.istore 4, 2) := by decide +kernel
theorem dX11_nameAt_91 : decode cX11_nameAt 91 = .ok (.iinc 5 1, 3) := by decide +kernel
theorem dX11_nameAt_94 : decode cX11_nameAt 94 = .ok (.goto (-88), 3) := by decide +kernel
theorem dX11_nameAt_97 : decode cX11_nameAt 97 = .ok (.iload 4, 2) := by decide +kernel
theorem dX11_nameAt_99 : decode cX11_nameAt 99 = .ok (.ireturn, 1) := by decide +kernel
theorem dX11_underWay_0 : decode cX11_underWay 0 = .ok (.iconst 0, 1) := by decide +kernel
theorem dX11_underWay_1 : decode cX11_underWay 1 = .ok (.istore 4, 2) := by decide +kernel
theorem dX11_underWay_3 : decode cX11_underWay 3 = .ok (.iconst 0, 1) := by decide +kernel
theorem dX11_underWay_4 : decode cX11_underWay 4 = .ok (.istore 5, 2) := by decide +kernel
theorem dX11_underWay_6 : decode cX11_underWay 6 = .ok (.iload 5, 2) := by decide +kernel
theorem dX11_underWay_8 : decode cX11_underWay 8 = .ok (.aload_n 0, 1) := by decide +kernel
theorem dX11_underWay_9 : decode cX11_underWay 9 = .ok (.getfield 94, 3) := by decide +kernel
theorem dX11_underWay_12 : decode cX11_underWay 12 = .ok (.if_icmp .ge 85, 3) := by decide +kernel
theorem dX11_underWay_15 : decode cX11_underWay 15 = .ok (.aload_n 0, 1) := by decide +kernel
theorem dX11_underWay_16 : decode cX11_underWay 16 = .ok (.getfield 28, 3) := by decide +kernel
theorem dX11_underWay_19 : decode cX11_underWay 19 = .ok (.iload 5, 2) := by decide +kernel
theorem dX11_underWay_21 : decode cX11_underWay 21 = .ok (.iaload, 1) := by decide +kernel
theorem dX11_underWay_22 : decode cX11_underWay 22 = .ok (.iload_n 1, 1) := by decide +kernel
theorem dX11_underWay_23 : decode cX11_underWay 23 = .ok (.if_icmp .ne 68, 3) := by decide +kernel
theorem dX11_underWay_26 : decode cX11_underWay 26 = .ok (.aload_n 0, 1) := by decide +kernel
theorem dX11_underWay_27 : decode cX11_underWay 27 = .ok (.getfield 31, 3) := by decide +kernel
theorem dX11_underWay_30 : decode cX11_underWay 30 = .ok (.iload 5, 2) := by decide +kernel
theorem dX11_underWay_32 : decode cX11_underWay 32 = .ok (.iaload, 1) := by decide +kernel
theorem dX11_underWay_33 : decode cX11_underWay 33 = .ok (.iload_n 2, 1) := by decide +kernel
theorem dX11_underWay_34 : decode cX11_underWay 34 = .ok (.if_icmp .ne 57, 3) := by decide +kernel
theorem dX11_underWay_37 : decode cX11_underWay 37 = .ok (.aload_n 0, 1) := by decide +kernel
theorem dX11_underWay_38 : decode cX11_underWay 38 = .ok (.getfield 34, 3) := by decide +kernel
theorem dX11_underWay_41 : decode cX11_underWay 41 = .ok (.iload 5, 2) := by decide +kernel
theorem dX11_underWay_43 : decode cX11_underWay 43 = .ok (.iaload, 1) := by decide +kernel
theorem dX11_underWay_44 : decode cX11_underWay 44 = .ok (.iload_n 3, 1) := by decide +kernel
theorem dX11_underWay_45 : decode cX11_underWay 45 = .ok (.iload_n 1, 1) := by decide +kernel
theorem dX11_underWay_46 : decode cX11_underWay 46 = .ok (.invokestatic 109, 3) := by decide +kernel
theorem dX11_underWay_49 : decode cX11_underWay 49 = .ok (.if_icmp .lt 6, 3) := by decide +kernel
theorem dX11_underWay_52 : decode cX11_underWay 52 = .ok (.goto 39, 3) := by decide +kernel
theorem dX11_underWay_55 : decode cX11_underWay 55 = .ok (.iload 4, 2) := by decide +kernel
theorem dX11_underWay_57 : decode cX11_underWay 57 = .ok (.aload_n 0, 1) := by decide +kernel
theorem dX11_underWay_58 : decode cX11_underWay 58 = .ok (.getfield 37, 3) := by decide +kernel
theorem dX11_underWay_61 : decode cX11_underWay 61 = .ok (.iload 5, 2) := by decide +kernel
theorem dX11_underWay_63 : decode cX11_underWay 63 = .ok (.iaload, 1) := by decide +kernel
theorem dX11_underWay_64 : decode cX11_underWay 64 = .ok (.iconst (-1), 1) := by decide +kernel
theorem dX11_underWay_65 : decode cX11_underWay 65 = .ok (.if_icmp .eq 22, 3) := by decide +kernel
theorem dX11_underWay_68 : decode cX11_underWay 68 = .ok (.aload_n 0, 1) := by decide +kernel
theorem dX11_underWay_69 : decode cX11_underWay 69 = .ok (.getfield 37, 3) := by decide +kernel
theorem dX11_underWay_72 : decode cX11_underWay 72 = .ok (.iload 5, 2) := by decide +kernel
theorem dX11_underWay_74 : decode cX11_underWay 74 = .ok (.iaload, 1) := by decide +kernel
theorem dX11_underWay_75 : decode cX11_underWay 75 = .ok (.iload_n 3, 1) := by decide +kernel
theorem dX11_underWay_76 : decode cX11_underWay 76 = .ok (.iload_n 2, 1) := by decide +kernel
theorem dX11_underWay_77 : decode cX11_underWay 77 = .ok (.invokestatic 109, 3) := by decide +kernel
theorem dX11_underWay_80 : decode cX11_underWay 80 = .ok (.if_icmp .ge 7, 3) := by decide +kernel
theorem dX11_underWay_83 : decode cX11_underWay 83 = .ok (.iconst 0, 1) := by decide +kernel
theorem dX11_underWay_84 : decode cX11_underWay 84 = .ok (.goto 4, 3) := by decide +kernel
theorem dX11_underWay_87 : decode cX11_underWay 87 = .ok (.iconst 1, 1) := by decide +kernel
theorem dX11_underWay_88 : decode cX11_underWay 88 = .ok (.iadd, 1) := by decide +kernel
theorem dX11_underWay_89 : decode cX11_underWay 89 = .ok (.istore 4, 2) := by decide +kernel
theorem dX11_underWay_91 : decode cX11_underWay 91 = .ok (.iinc 5 1, 3) := by decide +kernel
theorem dX11_underWay_94 : decode cX11_underWay 94 = .ok (.goto (-88), 3) := by decide +kernel
theorem dX11_underWay_97 : decode cX11_underWay 97 = .ok (.iload 4, 2) := by decide +kernel
theorem dX11_underWay_99 : decode cX11_underWay 99 = .ok (.ireturn, 1) := by decide +kernel
theorem dX11_give_0 : decode cX11_give 0 = .ok (.iload_n 0, 1) := by decide +kernel
theorem dX11_give_1 : decode cX11_give 1 = .ok (.tableswitch 87 0 5 #[39, 43, 47, 51, 62, 73], 39) := by decide +kernel
theorem dX11_give_40 : decode cX11_give 40 = .ok (.iload_n 1, 1) := by decide +kernel
theorem dX11_give_41 : decode cX11_give 41 = .ok (.iload_n 2, 1) := by decide +kernel
theorem dX11_give_42 : decode cX11_give 42 = .ok (.iadd, 1) := by decide +kernel
theorem dX11_give_43 : decode cX11_give 43 = .ok (.ireturn, 1) := by decide +kernel
theorem dX11_give_44 : decode cX11_give 44 = .ok (.iload_n 1, 1) := by decide +kernel
theorem dX11_give_45 : decode cX11_give 45 = .ok (.iload_n 2, 1) := by decide +kernel
theorem dX11_give_46 : decode cX11_give 46 = .ok (.isub, 1) := by decide +kernel
theorem dX11_give_47 : decode cX11_give 47 = .ok (.ireturn, 1) := by decide +kernel
theorem dX11_give_48 : decode cX11_give 48 = .ok (.iload_n 1, 1) := by decide +kernel
theorem dX11_give_49 : decode cX11_give 49 = .ok (.iload_n 2, 1) := by decide +kernel
theorem dX11_give_50 : decode cX11_give 50 = .ok (.imul, 1) := by decide +kernel
theorem dX11_give_51 : decode cX11_give 51 = .ok (.ireturn, 1) := by decide +kernel
theorem dX11_give_52 : decode cX11_give 52 = .ok (.iload_n 1, 1) := by decide +kernel
theorem dX11_give_53 : decode cX11_give 53 = .ok (.iload_n 2, 1) := by decide +kernel
theorem dX11_give_54 : decode cX11_give 54 = .ok (.if_icmp .ge 7, 3) := by decide +kernel
theorem dX11_give_57 : decode cX11_give 57 = .ok (.iconst 1, 1) := by decide +kernel
theorem dX11_give_58 : decode cX11_give 58 = .ok (.goto 4, 3) := by decide +kernel
theorem dX11_give_61 : decode cX11_give 61 = .ok (.iconst 0, 1) := by decide +kernel
theorem dX11_give_62 : decode cX11_give 62 = .ok (.ireturn, 1) := by decide +kernel
theorem dX11_give_63 : decode cX11_give 63 = .ok (.iload_n 1, 1) := by decide +kernel
theorem dX11_give_64 : decode cX11_give 64 = .ok (.iload_n 2, 1) := by decide +kernel
theorem dX11_give_65 : decode cX11_give 65 = .ok (.if_icmp .ne 7, 3) := by decide +kernel
theorem dX11_give_68 : decode cX11_give 68 = .ok (.iconst 1, 1) := by decide +kernel
theorem dX11_give_69 : decode cX11_give 69 = .ok (.goto 4, 3) := by decide +kernel
theorem dX11_give_72 : decode cX11_give 72 = .ok (.iconst 0, 1) := by decide +kernel
theorem dX11_give_73 : decode cX11_give 73 = .ok (.ireturn, 1) := by decide +kernel
theorem dX11_give_74 : decode cX11_give 74 = .ok (.iload_n 1, 1) := by decide +kernel
theorem dX11_give_75 : decode cX11_give 75 = .ok (.ifCond .eq 11, 3) := by decide +kernel
theorem dX11_give_78 : decode cX11_give 78 = .ok (.iload_n 2, 1) := by decide +kernel
theorem dX11_give_79 : decode cX11_give 79 = .ok (.ifCond .eq 7, 3) := by decide +kernel
theorem dX11_give_82 : decode cX11_give 82 = .ok (.iconst 1, 1) := by decide +kernel
theorem dX11_give_83 : decode cX11_give 83 = .ok (.goto 4, 3) := by decide +kernel
theorem dX11_give_86 : decode cX11_give 86 = .ok (.iconst 0, 1) := by decide +kernel
theorem dX11_give_87 : decode cX11_give 87 = .ok (.ireturn, 1) := by decide +kernel
theorem dX11_give_88 : decode cX11_give 88 = .ok (.iload_n 1, 1) := by decide +kernel
theorem dX11_give_89 : decode cX11_give 89 = .ok (.ifCond .ne 7, 3) := by decide +kernel
theorem dX11_give_92 : decode cX11_give 92 = .ok (.iload_n 2, 1) := by decide +kernel
theorem dX11_give_93 : decode cX11_give 93 = .ok (.ifCond .eq 7, 3) := by decide +kernel
theorem dX11_give_96 : decode cX11_give 96 = .ok (.iconst 1, 1) := by decide +kernel
theorem dX11_give_97 : decode cX11_give 97 = .ok (.goto 4, 3) := by decide +kernel
theorem dX11_give_100 : decode cX11_give 100 = .ok (.iconst 0, 1) := by decide +kernel
theorem dX11_give_101 : decode cX11_give 101 = .ok (.ireturn, 1) := by decide +kernel
theorem dX11_worthOf_0 : decode cX11_worthOf 0 = .ok (.iconst 0, 1) := by decide +kernel
theorem dX11_worthOf_1 : decode cX11_worthOf 1 = .ok (.istore_n 3, 1) := by decide +kernel
theorem dX11_worthOf_2 : decode cX11_worthOf 2 = .ok (.bipush 15, 2) := by decide +kernel
theorem dX11_worthOf_4 : decode cX11_worthOf 4 = .ok (.iload_n 1, 1) := by decide +kernel
theorem dX11_worthOf_5 : decode cX11_worthOf 5 = .ok (.imul, 1) := by decide +kernel
theorem dX11_worthOf_6 : decode cX11_worthOf 6 = .ok (.istore 4, 2) := by decide +kernel
theorem dX11_worthOf_8 : decode cX11_worthOf 8 = .ok (.iload 4, 2) := by decide +kernel
theorem dX11_worthOf_10 : decode cX11_worthOf 10 = .ok (.bipush 15, 2) := by decide +kernel
theorem dX11_worthOf_12 : decode cX11_worthOf 12 = .ok (.iload_n 1, 1) := by decide +kernel
theorem dX11_worthOf_13 : decode cX11_worthOf 13 = .ok (.imul, 1) := by decide +kernel
theorem dX11_worthOf_14 : decode cX11_worthOf 14 = .ok (.aload_n 0, 1) := by decide +kernel
theorem dX11_worthOf_15 : decode cX11_worthOf 15 = .ok (.getfield 57, 3) := by decide +kernel
theorem dX11_worthOf_18 : decode cX11_worthOf 18 = .ok (.iload_n 1, 1) := by decide +kernel
theorem dX11_worthOf_19 : decode cX11_worthOf 19 = .ok (.iaload, 1) := by decide +kernel
theorem dX11_worthOf_20 : decode cX11_worthOf 20 = .ok (.iadd, 1) := by decide +kernel
theorem dX11_worthOf_21 : decode cX11_worthOf 21 = .ok (.if_icmp .ge 187, 3) := by decide +kernel
theorem dX11_worthOf_24 : decode cX11_worthOf 24 = .ok (.aload_n 0, 1) := by decide +kernel
theorem dX11_worthOf_25 : decode cX11_worthOf 25 = .ok (.getfield 48, 3) := by decide +kernel
theorem dX11_worthOf_28 : decode cX11_worthOf 28 = .ok (.iload 4, 2) := by decide +kernel
theorem dX11_worthOf_30 : decode cX11_worthOf 30 = .ok (.iaload, 1) := by decide +kernel
theorem dX11_worthOf_31 : decode cX11_worthOf 31 = .ok (.istore 5, 2) := by decide +kernel
theorem dX11_worthOf_33 : decode cX11_worthOf 33 = .ok (.iload 5, 2) := by decide +kernel
theorem dX11_worthOf_35 : decode cX11_worthOf 35 = .ok (.bipush 7, 2) := by decide +kernel
theorem dX11_worthOf_37 : decode cX11_worthOf 37 = .ok (.if_icmp .ne 30, 3) := by decide +kernel
theorem dX11_worthOf_40 : decode cX11_worthOf 40 = .ok (.aload_n 0, 1) := by decide +kernel
theorem dX11_worthOf_41 : decode cX11_worthOf 41 = .ok (.getfield 60, 3) := by decide +kernel
theorem dX11_worthOf_44 : decode cX11_worthOf 44 = .ok (.iload_n 3, 1) := by decide +kernel
theorem dX11_worthOf_45 : decode cX11_worthOf 45 = .ok (.iconst 1, 1) := by decide +kernel
theorem dX11_worthOf_46 : decode cX11_worthOf 46 = .ok (.isub, 1) := by decide +kernel
theorem dX11_worthOf_47 : decode cX11_worthOf 47 = .ok (.aload_n 0, 1) := by decide +kernel
theorem dX11_worthOf_48 : decode cX11_worthOf 48 = .ok (.getfield 60, 3) := by decide +kernel
theorem dX11_worthOf_51 : decode cX11_worthOf 51 = .ok (.iload_n 3, 1) := by decide +kernel
theorem dX11_worthOf_52 : decode cX11_worthOf 52 = .ok (.iconst 1, 1) := by decide +kernel
theorem dX11_worthOf_53 : decode cX11_worthOf 53 = .ok (.isub, 1) := by decide +kernel
theorem dX11_worthOf_54 : decode cX11_worthOf 54 = .ok (.iaload, 1) := by decide +kernel
theorem dX11_worthOf_55 : decode cX11_worthOf 55 = .ok (.ifCond .ne 7, 3) := by decide +kernel
theorem dX11_worthOf_58 : decode cX11_worthOf 58 = .ok (.iconst 1, 1) := by decide +kernel
theorem dX11_worthOf_59 : decode cX11_worthOf 59 = .ok (.goto 4, 3) := by decide +kernel
theorem dX11_worthOf_62 : decode cX11_worthOf 62 = .ok (.iconst 0, 1) := by decide +kernel
theorem dX11_worthOf_63 : decode cX11_worthOf 63 = .ok (.iastore, 1) := by decide +kernel
theorem dX11_worthOf_64 : decode cX11_worthOf 64 = .ok (.goto 138, 3) := by decide +kernel
theorem dX11_worthOf_67 : decode cX11_worthOf 67 = .ok (.iload 5, 2) := by decide +kernel
theorem dX11_worthOf_69 : decode cX11_worthOf 69 = .ok (.bipush 7, 2) := by decide +kernel
theorem dX11_worthOf_71 : decode cX11_worthOf 71 = .ok (.if_icmp .ge 36, 3) := by decide +kernel
theorem dX11_worthOf_74 : decode cX11_worthOf 74 = .ok (.iinc 3 (-1), 3) := by decide +kernel
theorem dX11_worthOf_77 : decode cX11_worthOf 77 = .ok (.aload_n 0, 1) := by decide +kernel
theorem dX11_worthOf_78 : decode cX11_worthOf 78 = .ok (.getfield 60, 3) := by decide +kernel
theorem dX11_worthOf_81 : decode cX11_worthOf 81 = .ok (.iload_n 3, 1) := by decide +kernel
theorem dX11_worthOf_82 : decode cX11_worthOf 82 = .ok (.iconst 1, 1) := by decide +kernel
theorem dX11_worthOf_83 : decode cX11_worthOf 83 = .ok (.isub, 1) := by decide +kernel
theorem dX11_worthOf_84 : decode cX11_worthOf 84 = .ok (.iload 5, 2) := by decide +kernel
theorem dX11_worthOf_86 : decode cX11_worthOf 86 = .ok (.aload_n 0, 1) := by decide +kernel
theorem dX11_worthOf_87 : decode cX11_worthOf 87 = .ok (.getfield 60, 3) := by decide +kernel
theorem dX11_worthOf_90 : decode cX11_worthOf 90 = .ok (.iload_n 3, 1) := by decide +kernel
theorem dX11_worthOf_91 : decode cX11_worthOf 91 = .ok (.iconst 1, 1) := by decide +kernel
theorem dX11_worthOf_92 : decode cX11_worthOf 92 = .ok (.isub, 1) := by decide +kernel
theorem dX11_worthOf_93 : decode cX11_worthOf 93 = .ok (.iaload, 1) := by decide +kernel
theorem dX11_worthOf_94 : decode cX11_worthOf 94 = .ok (.aload_n 0, 1) := by decide +kernel
theorem dX11_worthOf_95 : decode cX11_worthOf 95 = .ok (.getfield 60, 3) := by decide +kernel
theorem dX11_worthOf_98 : decode cX11_worthOf 98 = .ok (.iload_n 3, 1) := by decide +kernel
theorem dX11_worthOf_99 : decode cX11_worthOf 99 = .ok (.iaload, 1) := by decide +kernel
theorem dX11_worthOf_100 : decode cX11_worthOf 100 = .ok (.invokestatic 155, 3) := by decide +kernel
theorem dX11_worthOf_103 : decode cX11_worthOf 103 = .ok (.iastore, 1) := by decide +kernel
theorem dX11_worthOf_104 : decode cX11_worthOf 104 = .ok (.goto 98, 3) := by decide +kernel
theorem dX11_worthOf_107 : decode cX11_worthOf 107 = .ok (.aload_n 0, 1) := by decide +kernel
theorem dX11_worthOf_108 : decode cX11_worthOf 108 = .ok (.getfield 60, 3) := by decide +kernel
theorem dX11_worthOf_111 : decode cX11_worthOf 111 = .ok (.iload_n 3, 1) := by decide +kernel
theorem dX11_worthOf_112 : decode cX11_worthOf 112 = .ok (.iload 5, 2) := by decide +kernel
theorem dX11_worthOf_114 : decode cX11_worthOf 114 = .ok (.bipush 10, 2) := by decide +kernel
theorem dX11_worthOf_116 : decode cX11_worthOf 116 = .ok (.if_icmp .ne 13, 3) := by decide +kernel
theorem dX11_worthOf_119 : decode cX11_worthOf 119 = .ok (.aload_n 0, 1) := by decide +kernel
theorem dX11_worthOf_120 : decode cX11_worthOf 120 = .ok (.getfield 51, 3) := by decide +kernel
theorem dX11_worthOf_123 : decode cX11_worthOf 123 = .ok (.iload 4, 2) := by decide +kernel
theorem dX11_worthOf_125 : decode cX11_worthOf 125 = .ok (.iaload, 1) := by decide +kernel
theorem dX11_worthOf_126 : decode cX11_worthOf 126 = .ok (.goto 72, 3) := by decide +kernel
theorem dX11_worthOf_129 : decode cX11_worthOf 129 = .ok (.iload 5, 2) := by decide +kernel
theorem dX11_worthOf_131 : decode cX11_worthOf 131 = .ok (.bipush 11, 2) := by decide +kernel
theorem dX11_worthOf_133 : decode cX11_worthOf 133 = .ok (.if_icmp .ne 25, 3) := by decide +kernel
theorem dX11_worthOf_136 : decode cX11_worthOf 136 = .ok (.aload_n 0, 1) := by decide +kernel
theorem dX11_worthOf_137 : decode cX11_worthOf 137 = .ok (.aload_n 0, 1) := by decide +kernel
theorem dX11_worthOf_138 : decode cX11_worthOf 138 = .ok (.getfield 51, 3) := by decide +kernel
theorem dX11_worthOf_141 : decode cX11_worthOf 141 = .ok (.iload 4, 2) := by decide +kernel
theorem dX11_worthOf_143 : decode cX11_worthOf 143 = .ok (.iaload, 1) := by decide +kernel
theorem dX11_worthOf_144 : decode cX11_worthOf 144 = .ok (.aload_n 0, 1) := by decide +kernel
theorem dX11_worthOf_145 : decode cX11_worthOf 145 = .ok (.getfield 54, 3) := by decide +kernel
theorem dX11_worthOf_148 : decode cX11_worthOf 148 = .ok (.iload 4, 2) := by decide +kernel
theorem dX11_worthOf_150 : decode cX11_worthOf 150 = .ok (.iaload, 1) := by decide +kernel
theorem dX11_worthOf_151 : decode cX11_worthOf 151 = .ok (.iload_n 2, 1) := by decide +kernel
theorem dX11_worthOf_152 : decode cX11_worthOf 152 = .ok (.invokevirtual 158, 3) := by decide +kernel
theorem dX11_worthOf_155 : decode cX11_worthOf 155 = .ok (.goto 43, 3) := by decide +kernel
theorem dX11_worthOf_158 : decode cX11_worthOf 158 = .ok (.iload 5, 2) := by decide +kernel
theorem dX11_worthOf_160 : decode cX11_worthOf 160 = .ok (.bipush 12, 2) := by decide +kernel
theorem dX11_worthOf_162 : decode cX11_worthOf 162 = .ok (.if_icmp .ne 25, 3) := by decide +kernel
theorem dX11_worthOf_165 : decode cX11_worthOf 165 = .ok (.aload_n 0, 1) := by decide +kernel
theorem dX11_worthOf_166 : decode cX11_worthOf 166 = .ok (.aload_n 0, 1) := by decide +kernel
theorem dX11_worthOf_167 : decode cX11_worthOf 167 = .ok (.getfield 51, 3) := by decide +kernel
theorem dX11_worthOf_170 : decode cX11_worthOf 170 = .ok (.iload 4, 2) := by decide +kernel
theorem dX11_worthOf_172 : decode cX11_worthOf 172 = .ok (.iaload, 1) := by decide +kernel
theorem dX11_worthOf_173 : decode cX11_worthOf 173 = .ok (.aload_n 0, 1) := by decide +kernel
theorem dX11_worthOf_174 : decode cX11_worthOf 174 = .ok (.getfield 54, 3) := by decide +kernel
theorem dX11_worthOf_177 : decode cX11_worthOf 177 = .ok (.iload 4, 2) := by decide +kernel
theorem dX11_worthOf_179 : decode cX11_worthOf 179 = .ok (.iaload, 1) := by decide +kernel
theorem dX11_worthOf_180 : decode cX11_worthOf 180 = .ok (.iload_n 2, 1) := by decide +kernel
theorem dX11_worthOf_181 : decode cX11_worthOf 181 = .ok (.invokevirtual 161, 3) := by decide +kernel
theorem dX11_worthOf_184 : decode cX11_worthOf 184 = .ok (.goto 14, 3) := by decide +kernel
theorem dX11_worthOf_187 : decode cX11_worthOf 187 = .ok (.iload_n 2, 1) := by decide +kernel
theorem dX11_worthOf_188 : decode cX11_worthOf 188 = .ok (.aload_n 0, 1) := by decide +kernel
theorem dX11_worthOf_189 : decode cX11_worthOf 189 = .ok (.getfield 51, 3) := by decide +kernel
theorem dX11_worthOf_192 : decode cX11_worthOf 192 = .ok (.iload 4, 2) := by decide +kernel
theorem dX11_worthOf_194 : decode cX11_worthOf 194 = .ok (.iaload, 1) := by decide +kernel
theorem dX11_worthOf_195 : decode cX11_worthOf 195 = .ok (.invokestatic 109, 3) := by decide +kernel
theorem dX11_worthOf_198 : decode cX11_worthOf 198 = .ok (.iastore, 1) := by decide +kernel
theorem dX11_worthOf_199 : decode cX11_worthOf 199 = .ok (.iinc 3 1, 3) := by decide +kernel
theorem dX11_worthOf_202 : decode cX11_worthOf 202 = .ok (.iinc 4 1, 3) := by decide +kernel
theorem dX11_worthOf_205 : decode cX11_worthOf 205 = .ok (.goto (-197), 3) := by decide +kernel
theorem dX11_worthOf_208 : decode cX11_worthOf 208 = .ok (.aload_n 0, 1) := by decide +kernel
theorem dX11_worthOf_209 : decode cX11_worthOf 209 = .ok (.getfield 60, 3) := by decide +kernel
theorem dX11_worthOf_212 : decode cX11_worthOf 212 = .ok (.iconst 0, 1) := by decide +kernel
theorem dX11_worthOf_213 : decode cX11_worthOf 213 = .ok (.iaload, 1) := by decide +kernel
theorem dX11_worthOf_214 : decode cX11_worthOf 214 = .ok (.ireturn, 1) := by decide +kernel
theorem dX11_value_0 : decode cX11_value 0 = .ok (.aload_n 0, 1) := by decide +kernel
theorem dX11_value_1 : decode cX11_value 1 = .ok (.iload_n 1, 1) := by decide +kernel
theorem dX11_value_2 : decode cX11_value 2 = .ok (.iconst 0, 1) := by decide +kernel
theorem dX11_value_3 : decode cX11_value 3 = .ok (.aload_n 0, 1) := by decide +kernel
theorem dX11_value_4 : decode cX11_value 4 = .ok (.getfield 152, 3) := by decide +kernel
theorem dX11_value_7 : decode cX11_value 7 = .ok (.iconst 1, 1) := by decide +kernel
theorem dX11_value_8 : decode cX11_value 8 = .ok (.isub, 1) := by decide +kernel
theorem dX11_value_9 : decode cX11_value 9 = .ok (.invokestatic 79, 3) := by decide +kernel
theorem dX11_value_12 : decode cX11_value 12 = .ok (.ifCond .eq 15, 3) := by decide +kernel
theorem dX11_value_15 : decode cX11_value 15 = .ok (.aload_n 0, 1) := by decide +kernel
theorem dX11_value_16 : decode cX11_value 16 = .ok (.iload_n 2, 1) := by decide +kernel
theorem dX11_value_17 : decode cX11_value 17 = .ok (.invokevirtual 113, 3) := by decide +kernel
theorem dX11_value_20 : decode cX11_value 20 = .ok (.ifCond .eq 7, 3) := by decide +kernel
theorem dX11_value_23 : decode cX11_value 23 = .ok (.iconst 0, 1) := by decide +kernel
theorem dX11_value_24 : decode cX11_value 24 = .ok (.goto 4, 3) := by decide +kernel
theorem dX11_value_27 : decode cX11_value 27 = .ok (.iconst (-1), 1) := by decide +kernel
theorem dX11_value_28 : decode cX11_value 28 = .ok (.putfield 164, 3) := by decide +kernel
theorem dX11_value_31 : decode cX11_value 31 = .ok (.aload_n 0, 1) := by decide +kernel
theorem dX11_value_32 : decode cX11_value 32 = .ok (.getfield 164, 3) := by decide +kernel
theorem dX11_value_35 : decode cX11_value 35 = .ok (.ifCond .ne 12, 3) := by decide +kernel
theorem dX11_value_38 : decode cX11_value 38 = .ok (.aload_n 0, 1) := by decide +kernel
theorem dX11_value_39 : decode cX11_value 39 = .ok (.iload_n 1, 1) := by decide +kernel
theorem dX11_value_40 : decode cX11_value 40 = .ok (.iload_n 2, 1) := by decide +kernel
theorem dX11_value_41 : decode cX11_value 41 = .ok (.invokevirtual 167, 3) := by decide +kernel
theorem dX11_value_44 : decode cX11_value 44 = .ok (.goto 4, 3) := by decide +kernel
theorem dX11_value_47 : decode cX11_value 47 = .ok (.iconst 0, 1) := by decide +kernel
theorem dX11_value_48 : decode cX11_value 48 = .ok (.ireturn, 1) := by decide +kernel
theorem dX11_status_0 : decode cX11_status 0 = .ok (.aload_n 0, 1) := by decide +kernel
theorem dX11_status_1 : decode cX11_status 1 = .ok (.getfield 164, 3) := by decide +kernel
theorem dX11_status_4 : decode cX11_status 4 = .ok (.ireturn, 1) := by decide +kernel
theorem dX11_study_0 : decode cX11_study 0 = .ok (.iload_n 1, 1) := by decide +kernel
theorem dX11_study_1 : decode cX11_study 1 = .ok (.iconst 0, 1) := by decide +kernel
theorem dX11_study_2 : decode cX11_study 2 = .ok (.aload_n 0, 1) := by decide +kernel
theorem dX11_study_3 : decode cX11_study 3 = .ok (.getfield 152, 3) := by decide +kernel
theorem dX11_study_6 : decode cX11_study 6 = .ok (.iconst 1, 1) := by decide +kernel
theorem dX11_study_7 : decode cX11_study 7 = .ok (.isub, 1) := by decide +kernel
theorem dX11_study_8 : decode cX11_study 8 = .ok (.invokestatic 79, 3) := by decide +kernel
theorem dX11_study_11 : decode cX11_study 11 = .ok (.ifCond .ne 5, 3) := by decide +kernel
theorem dX11_study_14 : decode cX11_study 14 = .ok (.iconst 0, 1) := by decide +kernel
theorem dX11_study_15 : decode cX11_study 15 = .ok (.ireturn, 1) := by decide +kernel
theorem dX11_study_16 : decode cX11_study 16 = .ok (.iconst 0, 1) := by decide +kernel
theorem dX11_study_17 : decode cX11_study 17 = .ok (.istore_n 2, 1) := by decide +kernel
theorem dX11_study_18 : decode cX11_study 18 = .ok (.iload_n 2, 1) := by decide +kernel
theorem dX11_study_19 : decode cX11_study 19 = .ok (.sipush 2401, 3) := by decide +kernel
theorem dX11_study_22 : decode cX11_study 22 = .ok (.if_icmp .ge 37, 3) := by decide +kernel
theorem dX11_study_25 : decode cX11_study 25 = .ok (.aload_n 0, 1) := by decide +kernel
theorem dX11_study_26 : decode cX11_study 26 = .ok (.getfield 63, 3) := by decide +kernel
theorem dX11_study_29 : decode cX11_study 29 = .ok (.iload_n 2, 1) := by decide +kernel
theorem dX11_study_30 : decode cX11_study 30 = .ok (.aload_n 0, 1) := by decide +kernel
theorem dX11_study_31 : decode cX11_study 31 = .ok (.iload_n 2, 1) := by decide +kernel
theorem dX11_study_32 : decode cX11_study 32 = .ok (.invokevirtual 116, 3) := by decide +kernel
theorem dX11_study_35 : decode cX11_study 35 = .ok (.ifCond .eq 16, 3) := by decide +kernel
theorem dX11_study_38 : decode cX11_study 38 = .ok (.aload_n 0, 1) := by decide +kernel
theorem dX11_study_39 : decode cX11_study 39 = .ok (.iload_n 1, 1) := by decide +kernel
theorem dX11_study_40 : decode cX11_study 40 = .ok (.iload_n 2, 1) := by decide +kernel
theorem dX11_study_41 : decode cX11_study 41 = .ok (.invokevirtual 167, 3) := by decide +kernel
theorem dX11_study_44 : decode cX11_study 44 = .ok (.ifCond .eq 7, 3) := by decide +kernel
theorem dX11_study_47 : decode cX11_study 47 = .ok (.iconst 1, 1) := by decide +kernel
theorem dX11_study_48 : decode cX11_study 48 = .ok (.goto 4, 3) := by decide +kernel
theorem dX11_study_51 : decode cX11_study 51 = .ok (.iconst 0, 1) := by decide +kernel
theorem dX11_study_52 : decode cX11_study 52 = .ok (.bastore, 1) := by decide +kernel
theorem dX11_study_53 : decode cX11_study 53 = .ok (.iinc 2 1, 3) := by decide +kernel
theorem dX11_study_56 : decode cX11_study 56 = .ok (.goto (-38), 3) := by decide +kernel
theorem dX11_study_59 : decode cX11_study 59 = .ok (.iconst 1, 1) := by decide +kernel
theorem dX11_study_60 : decode cX11_study 60 = .ok (.ireturn, 1) := by decide +kernel
theorem dX11_extreme_0 : decode cX11_extreme 0 = .ok (.aload_n 0, 1) := by decide +kernel
theorem dX11_extreme_1 : decode cX11_extreme 1 = .ok (.iload_n 1, 1) := by decide +kernel
theorem dX11_extreme_2 : decode cX11_extreme 2 = .ok (.invokevirtual 170, 3) := by decide +kernel
theorem dX11_extreme_5 : decode cX11_extreme 5 = .ok (.ifCond .ne 5, 3) := by decide +kernel
theorem dX11_extreme_8 : decode cX11_extreme 8 = .ok (.iconst (-1), 1) := by decide +kernel
theorem dX11_extreme_9 : decode cX11_extreme 9 = .ok (.ireturn, 1) := by decide +kernel
theorem dX11_extreme_10 : decode cX11_extreme 10 = .ok (.iconst (-1), 1) := by decide +kernel
theorem dX11_extreme_11 : decode cX11_extreme 11 = .ok (.istore_n 3, 1) := by decide +kernel
theorem dX11_extreme_12 : decode cX11_extreme 12 = .ok (.iconst 0, 1) := by decide +kernel
theorem dX11_extreme_13 : decode cX11_extreme 13 = .ok (.istore 4, 2) := by decide +kernel
theorem dX11_extreme_15 : decode cX11_extreme 15 = .ok (.iload 4, 2) := by decide +kernel
theorem dX11_extreme_17 : decode cX11_extreme 17 = .ok (.sipush 2401, 3) := by decide +kernel
theorem dX11_extreme_20 : decode cX11_extreme 20 = .ok (.if_icmp .ge 68, 3) := by decide +kernel
theorem dX11_extreme_23 : decode cX11_extreme 23 = .ok (.aload_n 0, 1) := by decide +kernel
theorem dX11_extreme_24 : decode cX11_extreme 24 = .ok (.getfield 63, 3) := by decide +kernel
theorem dX11_extreme_27 : decode cX11_extreme 27 = .ok (.iload 4, 2) := by decide +kernel
theorem dX11_extreme_29 : decode cX11_extreme 29 = .ok (.baload, 1) := by decide +kernel
theorem dX11_extreme_30 : decode cX11_extreme 30 = .ok (.ifCond .ne 6, 3) := by decide +kernel
theorem dX11_extreme_33 : decode cX11_extreme 33 = .ok (.goto 49, 3) := by decide +kernel
theorem dX11_extreme_36 : decode cX11_extreme 36 = .ok (.sipush 2401, 3) := by decide +kernel
theorem dX11_extreme_39 : decode cX11_extreme 39 = .ok (.iload 4, 2) := by decide +kernel
theorem dX11_extreme_41 : decode cX11_extreme 41 = .ok (.invokestatic 119, 3) := by decide +kernel
theorem dX11_extreme_44 : decode cX11_extreme 44 = .ok (.imul, 1) := by decide +kernel
theorem dX11_extreme_45 : decode cX11_extreme 45 = .ok (.iload 4, 2) := by decide +kernel
theorem dX11_extreme_47 : decode cX11_extreme 47 = .ok (.iadd, 1) := by decide +kernel
theorem dX11_extreme_48 : decode cX11_extreme 48 = .ok (.istore 5, 2) := by decide +kernel
theorem dX11_extreme_50 : decode cX11_extreme 50 = .ok (.iload_n 3, 1) := by decide +kernel
theorem dX11_extreme_51 : decode cX11_extreme 51 = .ok (.iconst (-1), 1) := by decide +kernel
theorem dX11_extreme_52 : decode cX11_extreme 52 = .ok (.if_icmp .eq 27, 3) := by decide +kernel
theorem dX11_extreme_55 : decode cX11_extreme 55 = .ok (.iload 5, 2) := by decide +kernel
theorem dX11_extreme_57 : decode cX11_extreme 57 = .ok (.sipush 2401, 3) := by decide +kernel
theorem dX11_extreme_60 : decode cX11_extreme 60 = .ok (.iload_n 3, 1) := by decide +kernel
theorem dX11_extreme_61 : decode cX11_extreme 61 = .ok (.invokestatic 119, 3) := by decide +kernel
theorem dX11_extreme_64 : decode cX11_extreme 64 = .ok (.imul, 1) := by decide +kernel
theorem dX11_extreme_65 : decode cX11_extreme 65 = .ok (.iload_n 3, 1) := by decide +kernel
theorem dX11_extreme_66 : decode cX11_extreme 66 = .ok (.iadd, 1) := by decide +kernel
theorem dX11_extreme_67 : decode cX11_extreme 67 = .ok (.if_icmp .le 7, 3) := by decide +kernel
theorem dX11_extreme_70 : decode cX11_extreme 70 = .ok (.iconst 1, 1) := by decide +kernel
theorem dX11_extreme_71 : decode cX11_extreme 71 = .ok (.goto 4, 3) := by decide +kernel
theorem dX11_extreme_74 : decode cX11_extreme 74 = .ok (.iconst 0, 1) := by decide +kernel
theorem dX11_extreme_75 : decode cX11_extreme 75 = .ok (.iload_n 2, 1) := by decide +kernel
theorem dX11_extreme_76 : decode cX11_extreme 76 = .ok (.if_icmp .ne 6, 3) := by decide +kernel
theorem dX11_extreme_79 : decode cX11_extreme 79 = .ok (.iload 4, 2) := by decide +kernel
theorem dX11_extreme_81 : decode cX11_extreme 81 = .ok (.istore_n 3, 1) := by decide +kernel
theorem dX11_extreme_82 : decode cX11_extreme 82 = .ok (.iinc 4 1, 3) := by decide +kernel
theorem dX11_extreme_85 : decode cX11_extreme 85 = .ok (.goto (-70), 3) := by decide +kernel
theorem dX11_extreme_88 : decode cX11_extreme 88 = .ok (.iload_n 3, 1) := by decide +kernel
theorem dX11_extreme_89 : decode cX11_extreme 89 = .ok (.ireturn, 1) := by decide +kernel
theorem dX11_may_0 : decode cX11_may 0 = .ok (.aload_n 0, 1) := by decide +kernel
theorem dX11_may_1 : decode cX11_may 1 = .ok (.iload_n 1, 1) := by decide +kernel
theorem dX11_may_2 : decode cX11_may 2 = .ok (.iconst 0, 1) := by decide +kernel
theorem dX11_may_3 : decode cX11_may 3 = .ok (.invokevirtual 173, 3) := by decide +kernel
theorem dX11_may_6 : decode cX11_may 6 = .ok (.ireturn, 1) := by decide +kernel
theorem dX11_last_0 : decode cX11_last 0 = .ok (.aload_n 0, 1) := by decide +kernel
theorem dX11_last_1 : decode cX11_last 1 = .ok (.iload_n 1, 1) := by decide +kernel
theorem dX11_last_2 : decode cX11_last 2 = .ok (.iconst 1, 1) := by decide +kernel
theorem dX11_last_3 : decode cX11_last 3 = .ok (.invokevirtual 173, 3) := by decide +kernel
theorem dX11_last_6 : decode cX11_last 6 = .ok (.ireturn, 1) := by decide +kernel
theorem dX11_many_0 : decode cX11_many 0 = .ok (.aload_n 0, 1) := by decide +kernel
theorem dX11_many_1 : decode cX11_many 1 = .ok (.iload_n 1, 1) := by decide +kernel
theorem dX11_many_2 : decode cX11_many 2 = .ok (.invokevirtual 170, 3) := by decide +kernel
theorem dX11_many_5 : decode cX11_many 5 = .ok (.ifCond .ne 5, 3) := by decide +kernel
theorem dX11_many_8 : decode cX11_many 8 = .ok (.iconst (-1), 1) := by decide +kernel
theorem dX11_many_9 : decode cX11_many 9 = .ok (.ireturn, 1) := by decide +kernel
theorem dX11_many_10 : decode cX11_many 10 = .ok (.iconst 0, 1) := by decide +kernel
theorem dX11_many_11 : decode cX11_many 11 = .ok (.istore_n 2, 1) := by decide +kernel
theorem dX11_many_12 : decode cX11_many 12 = .ok (.iconst 0, 1) := by decide +kernel
theorem dX11_many_13 : decode cX11_many 13 = .ok (.istore_n 3, 1) := by decide +kernel
theorem dX11_many_14 : decode cX11_many 14 = .ok (.iload_n 3, 1) := by decide +kernel
theorem dX11_many_15 : decode cX11_many 15 = .ok (.sipush 2401, 3) := by decide +kernel
theorem dX11_many_18 : decode cX11_many 18 = .ok (.if_icmp .ge 26, 3) := by decide +kernel
theorem dX11_many_21 : decode cX11_many 21 = .ok (.iload_n 2, 1) := by decide +kernel
theorem dX11_many_22 : decode cX11_many 22 = .ok (.aload_n 0, 1) := by decide +kernel
theorem dX11_many_23 : decode cX11_many 23 = .ok (.getfield 63, 3) := by decide +kernel
theorem dX11_many_26 : decode cX11_many 26 = .ok (.iload_n 3, 1) := by decide +kernel
theorem dX11_many_27 : decode cX11_many 27 = .ok (.baload, 1) := by decide +kernel
theorem dX11_many_28 : decode cX11_many 28 = .ok (.ifCond .eq 7, 3) := by decide +kernel
theorem dX11_many_31 : decode cX11_many 31 = .ok (.iconst 1, 1) := by decide +kernel
theorem dX11_many_32 : decode cX11_many 32 = .ok (.goto 4, 3) := by decide +kernel
theorem dX11_many_35 : decode cX11_many 35 = .ok (.iconst 0, 1) := by decide +kernel
theorem dX11_many_36 : decode cX11_many 36 = .ok (.iadd, 1) := by decide +kernel
theorem dX11_many_37 : decode cX11_many 37 = .ok (.istore_n 2, 1) := by decide +kernel
theorem dX11_many_38 : decode cX11_many 38 = .ok (.iinc 3 1, 3) := by decide +kernel
theorem dX11_many_41 : decode cX11_many 41 = .ok (.goto (-27), 3) := by decide +kernel
theorem dX11_many_44 : decode cX11_many 44 = .ok (.iload_n 2, 1) := by decide +kernel
theorem dX11_many_45 : decode cX11_many 45 = .ok (.ireturn, 1) := by decide +kernel
theorem dX11_bars_0 : decode cX11_bars 0 = .ok (.aload_n 0, 1) := by decide +kernel
theorem dX11_bars_1 : decode cX11_bars 1 = .ok (.iload_n 1, 1) := by decide +kernel
theorem dX11_bars_2 : decode cX11_bars 2 = .ok (.invokevirtual 170, 3) := by decide +kernel
theorem dX11_bars_5 : decode cX11_bars 5 = .ok (.ifCond .ne 5, 3) := by decide +kernel
theorem dX11_bars_8 : decode cX11_bars 8 = .ok (.iconst 0, 1) := by decide +kernel
theorem dX11_bars_9 : decode cX11_bars 9 = .ok (.ireturn, 1) := by decide +kernel
theorem dX11_bars_10 : decode cX11_bars 10 = .ok (.iconst 0, 1) := by decide +kernel
theorem dX11_bars_11 : decode cX11_bars 11 = .ok (.istore_n 2, 1) := by decide +kernel
theorem dX11_bars_12 : decode cX11_bars 12 = .ok (.iload_n 2, 1) := by decide +kernel
theorem dX11_bars_13 : decode cX11_bars 13 = .ok (.sipush 2401, 3) := by decide +kernel
theorem dX11_bars_16 : decode cX11_bars 16 = .ok (.if_icmp .ge 21, 3) := by decide +kernel
theorem dX11_bars_19 : decode cX11_bars 19 = .ok (.aload_n 0, 1) := by decide +kernel
theorem dX11_bars_20 : decode cX11_bars 20 = .ok (.getfield 40, 3) := by decide +kernel
theorem dX11_bars_23 : decode cX11_bars 23 = .ok (.iload_n 2, 1) := by decide +kernel
theorem dX11_bars_24 : decode cX11_bars 24 = .ok (.aload_n 0, 1) := by decide +kernel
theorem dX11_bars_25 : decode cX11_bars 25 = .ok (.getfield 63, 3) := by decide +kernel
theorem dX11_bars_28 : decode cX11_bars 28 = .ok (.iload_n 2, 1) := by decide +kernel
theorem dX11_bars_29 : decode cX11_bars 29 = .ok (.baload, 1) := by decide +kernel
theorem dX11_bars_30 : decode cX11_bars 30 = .ok (.bastore, 1) := by decide +kernel
theorem dX11_bars_31 : decode cX11_bars 31 = .ok (.iinc 2 1, 3) := by decide +kernel
theorem dX11_bars_34 : decode cX11_bars 34 = .ok (.goto (-22), 3) := by decide +kernel
theorem dX11_bars_37 : decode cX11_bars 37 = .ok (.aload_n 0, 1) := by decide +kernel
theorem dX11_bars_38 : decode cX11_bars 38 = .ok (.invokevirtual 135, 3) := by decide +kernel
theorem dX11_bars_41 : decode cX11_bars 41 = .ok (.iconst 1, 1) := by decide +kernel
theorem dX11_bars_42 : decode cX11_bars 42 = .ok (.ireturn, 1) := by decide +kernel
theorem dX11_sure_0 : decode cX11_sure 0 = .ok (.aload_n 0, 1) := by decide +kernel
theorem dX11_sure_1 : decode cX11_sure 1 = .ok (.iload_n 1, 1) := by decide +kernel
theorem dX11_sure_2 : decode cX11_sure 2 = .ok (.invokevirtual 177, 3) := by decide +kernel
theorem dX11_sure_5 : decode cX11_sure 5 = .ok (.ifCond .ne 7, 3) := by decide +kernel
theorem dX11_sure_8 : decode cX11_sure 8 = .ok (.iconst (-1), 1) := by decide +kernel
theorem dX11_sure_9 : decode cX11_sure 9 = .ok (.goto 19, 3) := by decide +kernel
theorem dX11_sure_12 : decode cX11_sure 12 = .ok (.aload_n 0, 1) := by decide +kernel
theorem dX11_sure_13 : decode cX11_sure 13 = .ok (.getfield 44, 3) := by decide +kernel
theorem dX11_sure_16 : decode cX11_sure 16 = .ok (.iconst 0, 1) := by decide +kernel
theorem dX11_sure_17 : decode cX11_sure 17 = .ok (.laload, 1) := by decide +kernel
theorem dX11_sure_18 : decode cX11_sure 18 = .ok (.lconst 0, 1) := by decide +kernel
theorem dX11_sure_19 : decode cX11_sure 19 = .ok (.lcmp, 1) := by decide +kernel
theorem dX11_sure_20 : decode cX11_sure 20 = .ok (.ifCond .ne 7, 3) := by decide +kernel
theorem dX11_sure_23 : decode cX11_sure 23 = .ok (.iconst 1, 1) := by decide +kernel
theorem dX11_sure_24 : decode cX11_sure 24 = .ok (.goto 4, 3) := by decide +kernel
theorem dX11_sure_27 : decode cX11_sure 27 = .ok (.iconst 0, 1) := by decide +kernel
theorem dX11_sure_28 : decode cX11_sure 28 = .ok (.ireturn, 1) := by decide +kernel
theorem dX11_avoid_0 : decode cX11_avoid 0 = .ok (.aload_n 0, 1) := by decide +kernel
theorem dX11_avoid_1 : decode cX11_avoid 1 = .ok (.iload_n 1, 1) := by decide +kernel
theorem dX11_avoid_2 : decode cX11_avoid 2 = .ok (.invokevirtual 177, 3) := by decide +kernel
theorem dX11_avoid_5 : decode cX11_avoid 5 = .ok (.ifCond .eq 28, 3) := by decide +kernel
theorem dX11_avoid_8 : decode cX11_avoid 8 = .ok (.aload_n 0, 1) := by decide +kernel
theorem dX11_avoid_9 : decode cX11_avoid 9 = .ok (.getfield 44, 3) := by decide +kernel
theorem dX11_avoid_12 : decode cX11_avoid 12 = .ok (.iconst 0, 1) := by decide +kernel
theorem dX11_avoid_13 : decode cX11_avoid 13 = .ok (.laload, 1) := by decide +kernel
theorem dX11_avoid_14 : decode cX11_avoid 14 = .ok (.lconst 0, 1) := by decide +kernel
theorem dX11_avoid_15 : decode cX11_avoid 15 = .ok (.lcmp, 1) := by decide +kernel
theorem dX11_avoid_16 : decode cX11_avoid 16 = .ok (.ifCond .eq 17, 3) := by decide +kernel
theorem dX11_avoid_19 : decode cX11_avoid 19 = .ok (.iload_n 2, 1) := by decide +kernel
theorem dX11_avoid_20 : decode cX11_avoid 20 = .ok (.iconst 0, 1) := by decide +kernel
theorem dX11_avoid_21 : decode cX11_avoid 21 = .ok (.aload_n 0, 1) := by decide +kernel
theorem dX11_avoid_22 : decode cX11_avoid 22 = .ok (.getfield 87, 3) := by decide +kernel
theorem dX11_avoid_25 : decode cX11_avoid 25 = .ok (.iconst 1, 1) := by decide +kernel
theorem dX11_avoid_26 : decode cX11_avoid 26 = .ok (.isub, 1) := by decide +kernel
theorem dX11_avoid_27 : decode cX11_avoid 27 = .ok (.invokestatic 79, 3) := by decide +kernel
theorem dX11_avoid_30 : decode cX11_avoid 30 = .ok (.ifCond .ne 5, 3) := by decide +kernel
theorem dX11_avoid_33 : decode cX11_avoid 33 = .ok (.iconst (-1), 1) := by decide +kernel
theorem dX11_avoid_34 : decode cX11_avoid 34 = .ok (.ireturn, 1) := by decide +kernel
theorem dX11_avoid_35 : decode cX11_avoid 35 = .ok (.aload_n 0, 1) := by decide +kernel
theorem dX11_avoid_36 : decode cX11_avoid 36 = .ok (.lconst 0, 1) := by decide +kernel
theorem dX11_avoid_37 : decode cX11_avoid 37 = .ok (.iload_n 2, 1) := by decide +kernel
theorem dX11_avoid_38 : decode cX11_avoid 38 = .ok (.invokevirtual 138, 3) := by decide +kernel
theorem dX11_avoid_41 : decode cX11_avoid 41 = .ok (.ireturn, 1) := by decide +kernel
theorem dX11_avoids_0 : decode cX11_avoids 0 = .ok (.aload_n 0, 1) := by decide +kernel
theorem dX11_avoids_1 : decode cX11_avoids 1 = .ok (.iload_n 1, 1) := by decide +kernel
theorem dX11_avoids_2 : decode cX11_avoids 2 = .ok (.invokevirtual 177, 3) := by decide +kernel
theorem dX11_avoids_5 : decode cX11_avoids 5 = .ok (.ifCond .eq 12, 3) := by decide +kernel
theorem dX11_avoids_8 : decode cX11_avoids 8 = .ok (.aload_n 0, 1) := by decide +kernel
theorem dX11_avoids_9 : decode cX11_avoids 9 = .ok (.getfield 44, 3) := by decide +kernel
theorem dX11_avoids_12 : decode cX11_avoids 12 = .ok (.iconst 0, 1) := by decide +kernel
theorem dX11_avoids_13 : decode cX11_avoids 13 = .ok (.laload, 1) := by decide +kernel
theorem dX11_avoids_14 : decode cX11_avoids 14 = .ok (.goto 6, 3) := by decide +kernel
theorem dX11_avoids_17 : decode cX11_avoids 17 = .ok (.ldc2_w 180, 3) := by decide +kernel
theorem dX11_avoids_20 : decode cX11_avoids 20 = .ok (.lreturn, 1) := by decide +kernel
theorem dX11_isKept_0 : decode cX11_isKept 0 = .ok (.iconst 0, 1) := by decide +kernel
theorem dX11_isKept_1 : decode cX11_isKept 1 = .ok (.istore_n 1, 1) := by decide +kernel
theorem dX11_isKept_2 : decode cX11_isKept 2 = .ok (.iload_n 1, 1) := by decide +kernel
theorem dX11_isKept_3 : decode cX11_isKept 3 = .ok (.sipush 2401, 3) := by decide +kernel
theorem dX11_isKept_6 : decode cX11_isKept 6 = .ok (.if_icmp .ge 77, 3) := by decide +kernel
theorem dX11_isKept_9 : decode cX11_isKept 9 = .ok (.iconst 0, 1) := by decide +kernel
theorem dX11_isKept_10 : decode cX11_isKept 10 = .ok (.istore_n 2, 1) := by decide +kernel
theorem dX11_isKept_11 : decode cX11_isKept 11 = .ok (.iload_n 2, 1) := by decide +kernel
theorem dX11_isKept_12 : decode cX11_isKept 12 = .ok (.aload_n 0, 1) := by decide +kernel
theorem dX11_isKept_13 : decode cX11_isKept 13 = .ok (.getfield 76, 3) := by decide +kernel
theorem dX11_isKept_16 : decode cX11_isKept 16 = .ok (.if_icmp .ge 61, 3) := by decide +kernel
theorem dX11_isKept_19 : decode cX11_isKept 19 = .ok (.aload_n 0, 1) := by decide +kernel
theorem dX11_isKept_20 : decode cX11_isKept 20 = .ok (.getfield 63, 3) := by decide +kernel
theorem dX11_isKept_23 : decode cX11_isKept 23 = .ok (.iload_n 1, 1) := by decide +kernel
theorem dX11_isKept_24 : decode cX11_isKept 24 = .ok (.baload, 1) := by decide +kernel
theorem dX11_isKept_25 : decode cX11_isKept 25 = .ok (.ifCond .eq 52, 3) := by decide +kernel
theorem dX11_isKept_28 : decode cX11_isKept 28 = .ok (.iload_n 1, 1) := by decide +kernel
theorem dX11_isKept_29 : decode cX11_isKept 29 = .ok (.iload_n 2, 1) := by decide +kernel
theorem dX11_isKept_30 : decode cX11_isKept 30 = .ok (.invokestatic 109, 3) := by decide +kernel
theorem dX11_isKept_33 : decode cX11_isKept 33 = .ok (.aload_n 0, 1) := by decide +kernel
theorem dX11_isKept_34 : decode cX11_isKept 34 = .ok (.getfield 7, 3) := by decide +kernel
theorem dX11_isKept_37 : decode cX11_isKept 37 = .ok (.iload_n 2, 1) := by decide +kernel
theorem dX11_isKept_38 : decode cX11_isKept 38 = .ok (.iaload, 1) := by decide +kernel
theorem dX11_isKept_39 : decode cX11_isKept 39 = .ok (.if_icmp .ge 32, 3) := by decide +kernel
theorem dX11_isKept_42 : decode cX11_isKept 42 = .ok (.aload_n 0, 1) := by decide +kernel
theorem dX11_isKept_43 : decode cX11_isKept 43 = .ok (.iload_n 1, 1) := by decide +kernel
theorem dX11_isKept_44 : decode cX11_isKept 44 = .ok (.iload_n 2, 1) := by decide +kernel
theorem dX11_isKept_45 : decode cX11_isKept 45 = .ok (.invokestatic 105, 3) := by decide +kernel
theorem dX11_isKept_48 : decode cX11_isKept 48 = .ok (.iadd, 1) := by decide +kernel
theorem dX11_isKept_49 : decode cX11_isKept 49 = .ok (.invokevirtual 116, 3) := by decide +kernel
theorem dX11_isKept_52 : decode cX11_isKept 52 = .ok (.ifCond .eq 19, 3) := by decide +kernel
theorem dX11_isKept_55 : decode cX11_isKept 55 = .ok (.aload_n 0, 1) := by decide +kernel
theorem dX11_isKept_56 : decode cX11_isKept 56 = .ok (.getfield 63, 3) := by decide +kernel
theorem dX11_isKept_59 : decode cX11_isKept 59 = .ok (.iload_n 1, 1) := by decide +kernel
theorem dX11_isKept_60 : decode cX11_isKept 60 = .ok (.iload_n 2, 1) := by decide +kernel
theorem dX11_isKept_61 : decode cX11_isKept 61 = .ok (.invokestatic 105, 3) := by decide +kernel
theorem dX11_isKept_64 : decode cX11_isKept 64 = .ok (.iadd, 1) := by decide +kernel
theorem dX11_isKept_65 : decode cX11_isKept 65 = .ok (.baload, 1) := by decide +kernel
theorem dX11_isKept_66 : decode cX11_isKept 66 = .ok (.ifCond .ne 5, 3) := by decide +kernel
theorem dX11_isKept_69 : decode cX11_isKept 69 = .ok (.iconst 0, 1) := by decide +kernel
theorem dX11_isKept_70 : decode cX11_isKept 70 = .ok (.ireturn, 1) := by decide +kernel
theorem dX11_isKept_71 : decode cX11_isKept 71 = .ok (.iinc 2 1, 3) := by decide +kernel
theorem dX11_isKept_74 : decode cX11_isKept 74 = .ok (.goto (-63), 3) := by decide +kernel
theorem dX11_isKept_77 : decode cX11_isKept 77 = .ok (.iinc 1 1, 3) := by decide +kernel
theorem dX11_isKept_80 : decode cX11_isKept 80 = .ok (.goto (-78), 3) := by decide +kernel
theorem dX11_isKept_83 : decode cX11_isKept 83 = .ok (.iconst 1, 1) := by decide +kernel
theorem dX11_isKept_84 : decode cX11_isKept 84 = .ok (.ireturn, 1) := by decide +kernel
theorem dX11_isClosed_0 : decode cX11_isClosed 0 = .ok (.iconst 0, 1) := by decide +kernel
theorem dX11_isClosed_1 : decode cX11_isClosed 1 = .ok (.istore_n 2, 1) := by decide +kernel
theorem dX11_isClosed_2 : decode cX11_isClosed 2 = .ok (.iload_n 2, 1) := by decide +kernel
theorem dX11_isClosed_3 : decode cX11_isClosed 3 = .ok (.sipush 2401, 3) := by decide +kernel
theorem dX11_isClosed_6 : decode cX11_isClosed 6 = .ok (.if_icmp .ge 56, 3) := by decide +kernel
theorem dX11_isClosed_9 : decode cX11_isClosed 9 = .ok (.iconst 0, 1) := by decide +kernel
theorem dX11_isClosed_10 : decode cX11_isClosed 10 = .ok (.istore_n 3, 1) := by decide +kernel
theorem dX11_isClosed_11 : decode cX11_isClosed 11 = .ok (.iload_n 3, 1) := by decide +kernel
theorem dX11_isClosed_12 : decode cX11_isClosed 12 = .ok (.iload_n 2, 1) := by decide +kernel
theorem dX11_isClosed_13 : decode cX11_isClosed 13 = .ok (.if_icmp .ge 43, 3) := by decide +kernel
theorem dX11_isClosed_16 : decode cX11_isClosed 16 = .ok (.aload_n 0, 1) := by decide +kernel
theorem dX11_isClosed_17 : decode cX11_isClosed 17 = .ok (.getfield 63, 3) := by decide +kernel
theorem dX11_isClosed_20 : decode cX11_isClosed 20 = .ok (.iload_n 2, 1) := by decide +kernel
theorem dX11_isClosed_21 : decode cX11_isClosed 21 = .ok (.baload, 1) := by decide +kernel
theorem dX11_isClosed_22 : decode cX11_isClosed 22 = .ok (.ifCond .eq 34, 3) := by decide +kernel
theorem dX11_isClosed_25 : decode cX11_isClosed 25 = .ok (.aload_n 0, 1) := by decide +kernel
theorem dX11_isClosed_26 : decode cX11_isClosed 26 = .ok (.getfield 63, 3) := by decide +kernel
theorem dX11_isClosed_29 : decode cX11_isClosed 29 = .ok (.iload_n 3, 1) := by decide +kernel
theorem dX11_isClosed_30 : decode cX11_isClosed 30 = .ok (.baload, 1) := by decide +kernel
theorem dX11_isClosed_31 : decode cX11_isClosed 31 = .ok (.ifCond .eq 19, 3) := by decide +kernel
theorem dX11_isClosed_34 : decode cX11_isClosed 34 = .ok (.aload_n 0, 1) := by decide +kernel
theorem dX11_isClosed_35 : decode cX11_isClosed 35 = .ok (.getfield 63, 3) := by decide +kernel
theorem dX11_isClosed_38 : decode cX11_isClosed 38 = .ok (.iload_n 2, 1) := by decide +kernel
theorem dX11_isClosed_39 : decode cX11_isClosed 39 = .ok (.iload_n 3, 1) := by decide +kernel
theorem dX11_isClosed_40 : decode cX11_isClosed 40 = .ok (.iload_n 1, 1) := by decide +kernel
theorem dX11_isClosed_41 : decode cX11_isClosed 41 = .ok (.invokestatic 122, 3) := by decide +kernel
theorem dX11_isClosed_44 : decode cX11_isClosed 44 = .ok (.baload, 1) := by decide +kernel
theorem dX11_isClosed_45 : decode cX11_isClosed 45 = .ok (.ifCond .ne 5, 3) := by decide +kernel
theorem dX11_isClosed_48 : decode cX11_isClosed 48 = .ok (.iconst 0, 1) := by decide +kernel
theorem dX11_isClosed_49 : decode cX11_isClosed 49 = .ok (.ireturn, 1) := by decide +kernel
theorem dX11_isClosed_50 : decode cX11_isClosed 50 = .ok (.iinc 3 1, 3) := by decide +kernel
theorem dX11_isClosed_53 : decode cX11_isClosed 53 = .ok (.goto (-42), 3) := by decide +kernel
theorem dX11_isClosed_56 : decode cX11_isClosed 56 = .ok (.iinc 2 1, 3) := by decide +kernel
theorem dX11_isClosed_59 : decode cX11_isClosed 59 = .ok (.goto (-57), 3) := by decide +kernel
theorem dX11_isClosed_62 : decode cX11_isClosed 62 = .ok (.iconst 1, 1) := by decide +kernel
theorem dX11_isClosed_63 : decode cX11_isClosed 63 = .ok (.ireturn, 1) := by decide +kernel
theorem dX11_is_0 : decode cX11_is 0 = .ok (.iload_n 2, 1) := by decide +kernel
theorem dX11_is_1 : decode cX11_is 1 = .ok (.iconst 0, 1) := by decide +kernel
theorem dX11_is_2 : decode cX11_is 2 = .ok (.iconst 2, 1) := by decide +kernel
theorem dX11_is_3 : decode cX11_is 3 = .ok (.invokestatic 79, 3) := by decide +kernel
theorem dX11_is_6 : decode cX11_is 6 = .ok (.ifCond .eq 11, 3) := by decide +kernel
theorem dX11_is_9 : decode cX11_is 9 = .ok (.aload_n 0, 1) := by decide +kernel
theorem dX11_is_10 : decode cX11_is 10 = .ok (.iload_n 1, 1) := by decide +kernel
theorem dX11_is_11 : decode cX11_is 11 = .ok (.invokevirtual 170, 3) := by decide +kernel
theorem dX11_is_14 : decode cX11_is 14 = .ok (.ifCond .ne 5, 3) := by decide +kernel
theorem dX11_is_17 : decode cX11_is 17 = .ok (.iconst (-1), 1) := by decide +kernel
theorem dX11_is_18 : decode cX11_is 18 = .ok (.ireturn, 1) := by decide +kernel
theorem dX11_is_19 : decode cX11_is 19 = .ok (.iload_n 2, 1) := by decide +kernel
theorem dX11_is_20 : decode cX11_is 20 = .ok (.ifCond .ne 13, 3) := by decide +kernel
theorem dX11_is_23 : decode cX11_is 23 = .ok (.aload_n 0, 1) := by decide +kernel
theorem dX11_is_24 : decode cX11_is 24 = .ok (.invokevirtual 182, 3) := by decide +kernel
theorem dX11_is_27 : decode cX11_is 27 = .ok (.ifCond .eq 27, 3) := by decide +kernel
theorem dX11_is_30 : decode cX11_is 30 = .ok (.goto 20, 3) := by decide +kernel
theorem dX11_is_33 : decode cX11_is 33 = .ok (.aload_n 0, 1) := by decide +kernel
theorem dX11_is_34 : decode cX11_is 34 = .ok (.iload_n 2, 1) := by decide +kernel
theorem dX11_is_35 : decode cX11_is 35 = .ok (.iconst 1, 1) := by decide +kernel
theorem dX11_is_36 : decode cX11_is 36 = .ok (.if_icmp .ne 7, 3) := by decide +kernel
theorem dX11_is_39 : decode cX11_is 39 = .ok (.iconst 1, 1) := by decide +kernel
theorem dX11_is_40 : decode cX11_is 40 = .ok (.goto 4, 3) := by decide +kernel
theorem dX11_is_43 : decode cX11_is 43 = .ok (.iconst 0, 1) := by decide +kernel
theorem dX11_is_44 : decode cX11_is 44 = .ok (.invokevirtual 186, 3) := by decide +kernel
theorem dX11_is_47 : decode cX11_is 47 = .ok (.ifCond .eq 7, 3) := by decide +kernel
theorem dX11_is_50 : decode cX11_is 50 = .ok (.iconst 1, 1) := by decide +kernel
theorem dX11_is_51 : decode cX11_is 51 = .ok (.goto 4, 3) := by decide +kernel
theorem dX11_is_54 : decode cX11_is 54 = .ok (.iconst 0, 1) := by decide +kernel
theorem dX11_is_55 : decode cX11_is 55 = .ok (.ireturn, 1) := by decide +kernel
theorem dX11_before_0 : decode cX11_before 0 = .ok (.iload_n 2, 1) := by decide +kernel
theorem dX11_before_1 : decode cX11_before 1 = .ok (.iconst 0, 1) := by decide +kernel
theorem dX11_before_2 : decode cX11_before 2 = .ok (.aload_n 0, 1) := by decide +kernel
theorem dX11_before_3 : decode cX11_before 3 = .ok (.getfield 152, 3) := by decide +kernel
theorem dX11_before_6 : decode cX11_before 6 = .ok (.iconst 1, 1) := by decide +kernel
theorem dX11_before_7 : decode cX11_before 7 = .ok (.isub, 1) := by decide +kernel
theorem dX11_before_8 : decode cX11_before 8 = .ok (.invokestatic 79, 3) := by decide +kernel
theorem dX11_before_11 : decode cX11_before 11 = .ok (.ifCond .eq 11, 3) := by decide +kernel
theorem dX11_before_14 : decode cX11_before 14 = .ok (.aload_n 0, 1) := by decide +kernel
theorem dX11_before_15 : decode cX11_before 15 = .ok (.iload_n 1, 1) := by decide +kernel
theorem dX11_before_16 : decode cX11_before 16 = .ok (.invokevirtual 170, 3) := by decide +kernel
theorem dX11_before_19 : decode cX11_before 19 = .ok (.ifCond .ne 5, 3) := by decide +kernel
theorem dX11_before_22 : decode cX11_before 22 = .ok (.iconst (-1), 1) := by decide +kernel
theorem dX11_before_23 : decode cX11_before 23 = .ok (.ireturn, 1) := by decide +kernel
theorem dX11_before_24 : decode cX11_before 24 = .ok (.iconst 0, 1) := by decide +kernel
theorem dX11_before_25 : decode cX11_before 25 = .ok (.istore_n 3, 1) := by decide +kernel
theorem dX11_before_26 : decode cX11_before 26 = .ok (.iload_n 3, 1) := by decide +kernel
theorem dX11_before_27 : decode cX11_before 27 = .ok (.sipush 2401, 3) := by decide +kernel
theorem dX11_before_30 : decode cX11_before 30 = .ok (.if_icmp .ge 120, 3) := by decide +kernel
theorem dX11_before_33 : decode cX11_before 33 = .ok (.aload_n 0, 1) := by decide +kernel
theorem dX11_before_34 : decode cX11_before 34 = .ok (.getfield 66, 3) := by decide +kernel
theorem dX11_before_37 : decode cX11_before 37 = .ok (.iload_n 3, 1) := by decide +kernel
theorem dX11_before_38 : decode cX11_before 38 = .ok (.iconst 0, 1) := by decide +kernel
theorem dX11_before_39 : decode cX11_before 39 = .ok (.bastore, 1) := by decide +kernel
theorem dX11_before_40 : decode cX11_before 40 = .ok (.aload_n 0, 1) := by decide +kernel
theorem dX11_before_41 : decode cX11_before 41 = .ok (.iload_n 3, 1) := by decide +kernel
theorem dX11_before_42 : decode cX11_before 42 = .ok (.invokevirtual 116, 3) := by decide +kernel
theorem dX11_before_45 : decode cX11_before 45 = .ok (.ifCond .eq 99, 3) := by decide +kernel
theorem dX11_before_48 : decode cX11_before 48 = .ok (.aload_n 0, 1) := by decide +kernel
theorem dX11_before_49 : decode cX11_before 49 = .ok (.getfield 63, 3) := by decide +kernel
theorem dX11_before_52 : decode cX11_before 52 = .ok (.iload_n 3, 1) := by decide +kernel
theorem dX11_before_53 : decode cX11_before 53 = .ok (.baload, 1) := by decide +kernel
theorem dX11_before_54 : decode cX11_before 54 = .ok (.ifCond .eq 6, 3) := by decide +kernel
theorem dX11_before_57 : decode cX11_before 57 = .ok (.goto 87, 3) := by decide +kernel
theorem dX11_before_60 : decode cX11_before 60 = .ok (.aload_n 0, 1) := by decide +kernel
theorem dX11_before_61 : decode cX11_before 61 = .ok (.getfield 66, 3) := by decide +kernel
theorem dX11_before_64 : decode cX11_before 64 = .ok (.iload_n 3, 1) := by decide +kernel
theorem dX11_before_65 : decode cX11_before 65 = .ok (.iload_n 3, 1) := by decide +kernel
theorem dX11_before_66 : decode cX11_before 66 = .ok (.ifCond .ne 7, 3) := by decide +kernel
theorem dX11_before_69 : decode cX11_before 69 = .ok (.iconst 1, 1) := by decide +kernel
theorem dX11_before_70 : decode cX11_before 70 = .ok (.goto 4, 3) := by decide +kernel
theorem dX11_before_73 : decode cX11_before 73 = .ok (.iconst 0, 1) := by decide +kernel
theorem dX11_before_74 : decode cX11_before 74 = .ok (.bastore, 1) := by decide +kernel
theorem dX11_before_75 : decode cX11_before 75 = .ok (.iconst 0, 1) := by decide +kernel
theorem dX11_before_76 : decode cX11_before 76 = .ok (.istore 4, 2) := by decide +kernel
theorem dX11_before_78 : decode cX11_before 78 = .ok (.iload 4, 2) := by decide +kernel
theorem dX11_before_80 : decode cX11_before 80 = .ok (.aload_n 0, 1) := by decide +kernel
theorem dX11_before_81 : decode cX11_before 81 = .ok (.getfield 76, 3) := by decide +kernel
theorem dX11_before_84 : decode cX11_before 84 = .ok (.if_icmp .ge 40, 3) := by decide +kernel
theorem dX11_before_87 : decode cX11_before 87 = .ok (.iload_n 3, 1) := by decide +kernel
theorem dX11_before_88 : decode cX11_before 88 = .ok (.iload 4, 2) := by decide +kernel
theorem dX11_before_90 : decode cX11_before 90 = .ok (.invokestatic 109, 3) := by decide +kernel
theorem dX11_before_93 : decode cX11_before 93 = .ok (.ifCond .le 25, 3) := by decide +kernel
theorem dX11_before_96 : decode cX11_before 96 = .ok (.aload_n 0, 1) := by decide +kernel
theorem dX11_before_97 : decode cX11_before 97 = .ok (.getfield 66, 3) := by decide +kernel
theorem dX11_before_100 : decode cX11_before 100 = .ok (.iload_n 3, 1) := by decide +kernel
theorem dX11_before_101 : decode cX11_before 101 = .ok (.iload 4, 2) := by decide +kernel
theorem dX11_before_103 : decode cX11_before 103 = .ok (.invokestatic 105, 3) := by decide +kernel
theorem dX11_before_106 : decode cX11_before 106 = .ok (.isub, 1) := by decide +kernel
theorem dX11_before_107 : decode cX11_before 107 = .ok (.baload, 1) := by decide +kernel
theorem dX11_before_108 : decode cX11_before 108 = .ok (.ifCond .eq 10, 3) := by decide +kernel
theorem dX11_before_111 : decode cX11_before 111 = .ok (.aload_n 0, 1) := by decide +kernel
theorem dX11_before_112 : decode cX11_before 112 = .ok (.getfield 66, 3) := by decide +kernel
theorem dX11_before_115 : decode cX11_before 115 = .ok (.iload_n 3, 1) := by decide +kernel
theorem dX11_before_116 : decode cX11_before 116 = .ok (.iconst 1, 1) := by decide +kernel
theorem dX11_before_117 : decode cX11_before 117 = .ok (.bastore, 1) := by decide +kernel
theorem dX11_before_118 : decode cX11_before 118 = .ok (.iinc 4 1, 3) := by decide +kernel
theorem dX11_before_121 : decode cX11_before 121 = .ok (.goto (-43), 3) := by decide +kernel
theorem dX11_before_124 : decode cX11_before 124 = .ok (.aload_n 0, 1) := by decide +kernel
theorem dX11_before_125 : decode cX11_before 125 = .ok (.getfield 66, 3) := by decide +kernel
theorem dX11_before_128 : decode cX11_before 128 = .ok (.iload_n 3, 1) := by decide +kernel
theorem dX11_before_129 : decode cX11_before 129 = .ok (.baload, 1) := by decide +kernel
theorem dX11_before_130 : decode cX11_before 130 = .ok (.ifCond .eq 14, 3) := by decide +kernel
theorem dX11_before_133 : decode cX11_before 133 = .ok (.aload_n 0, 1) := by decide +kernel
theorem dX11_before_134 : decode cX11_before 134 = .ok (.iload_n 2, 1) := by decide +kernel
theorem dX11_before_135 : decode cX11_before 135 = .ok (.iload_n 3, 1) := by decide +kernel
theorem dX11_before_136 : decode cX11_before 136 = .ok (.invokevirtual 167, 3) := by decide +kernel
theorem dX11_before_139 : decode cX11_before 139 = .ok (.ifCond .eq 5, 3) := by decide +kernel
theorem dX11_before_142 : decode cX11_before 142 = .ok (.iconst 0, 1) := by decide +kernel
theorem dX11_before_143 : decode cX11_before 143 = .ok (.ireturn, 1) := by decide +kernel
theorem dX11_before_144 : decode cX11_before 144 = .ok (.iinc 3 1, 3) := by decide +kernel
theorem dX11_before_147 : decode cX11_before 147 = .ok (.goto (-121), 3) := by decide +kernel
theorem dX11_before_150 : decode cX11_before 150 = .ok (.iconst 1, 1) := by decide +kernel
theorem dX11_before_151 : decode cX11_before 151 = .ok (.ireturn, 1) := by decide +kernel
theorem dX11_say_0 : decode cX11_say 0 = .ok (.iload_n 1, 1) := by decide +kernel
theorem dX11_say_1 : decode cX11_say 1 = .ok (.iconst 0, 1) := by decide +kernel
theorem dX11_say_2 : decode cX11_say 2 = .ok (.iconst 3, 1) := by decide +kernel
theorem dX11_say_3 : decode cX11_say 3 = .ok (.invokestatic 79, 3) := by decide +kernel
theorem dX11_say_6 : decode cX11_say 6 = .ok (.ifCond .ne 6, 3) := by decide +kernel
theorem dX11_say_9 : decode cX11_say 9 = .ok (.bipush (-2), 2) := by decide +kernel
theorem dX11_say_11 : decode cX11_say 11 = .ok (.ireturn, 1) := by decide +kernel
theorem dX11_say_12 : decode cX11_say 12 = .ok (.aload_n 0, 1) := by decide +kernel
theorem dX11_say_13 : decode cX11_say 13 = .ok (.getfield 190, 3) := by decide +kernel
theorem dX11_say_16 : decode cX11_say 16 = .ok (.bipush 24, 2) := by decide +kernel
theorem dX11_say_18 : decode cX11_say 18 = .ok (.if_icmp .ne 6, 3) := by decide +kernel
theorem dX11_say_21 : decode cX11_say 21 = .ok (.bipush (-4), 2) := by decide +kernel
theorem dX11_say_23 : decode cX11_say 23 = .ok (.ireturn, 1) := by decide +kernel
theorem dX11_say_24 : decode cX11_say 24 = .ok (.aload_n 0, 1) := by decide +kernel
theorem dX11_say_25 : decode cX11_say 25 = .ok (.getfield 69, 3) := by decide +kernel
theorem dX11_say_28 : decode cX11_say 28 = .ok (.aload_n 0, 1) := by decide +kernel
theorem dX11_say_29 : decode cX11_say 29 = .ok (.getfield 190, 3) := by decide +kernel
theorem dX11_say_32 : decode cX11_say 32 = .ok (.iload_n 1, 1) := by decide +kernel
theorem dX11_say_33 : decode cX11_say 33 = .ok (.iastore, 1) := by decide +kernel
theorem dX11_say_34 : decode cX11_say 34 = .ok (.aload_n 0, 1) := by decide +kernel
theorem dX11_say_35 : decode cX11_say 35 = .ok (.dup, 1) := by decide +kernel
theorem dX11_say_36 : decode cX11_say 36 = .ok (.getfield 190, 3) := by decide +kernel
theorem dX11_say_39 : decode cX11_say 39 = .ok (.iconst 1, 1) := by decide +kernel
theorem dX11_say_40 : decode cX11_say 40 = .ok (.iadd, 1) := by decide +kernel
theorem dX11_say_41 : decode cX11_say 41 = .ok (.putfield 190, 3) := by decide +kernel
theorem dX11_say_44 : decode cX11_say 44 = .ok (.aload_n 0, 1) := by decide +kernel
theorem dX11_say_45 : decode cX11_say 45 = .ok (.getfield 190, 3) := by decide +kernel
theorem dX11_say_48 : decode cX11_say 48 = .ok (.ireturn, 1) := by decide +kernel
theorem dX11_firstWrong_0 : decode cX11_firstWrong 0 = .ok (.iconst 0, 1) := by decide +kernel
theorem dX11_firstWrong_1 : decode cX11_firstWrong 1 = .ok (.istore_n 1, 1) := by decide +kernel
theorem dX11_firstWrong_2 : decode cX11_firstWrong 2 = .ok (.iconst 0, 1) := by decide +kernel
theorem dX11_firstWrong_3 : decode cX11_firstWrong 3 = .ok (.istore_n 2, 1) := by decide +kernel
theorem dX11_firstWrong_4 : decode cX11_firstWrong 4 = .ok (.iload_n 2, 1) := by decide +kernel
theorem dX11_firstWrong_5 : decode cX11_firstWrong 5 = .ok (.aload_n 0, 1) := by decide +kernel
theorem dX11_firstWrong_6 : decode cX11_firstWrong 6 = .ok (.getfield 190, 3) := by decide +kernel
theorem dX11_firstWrong_9 : decode cX11_firstWrong 9 = .ok (.if_icmp .ge 60, 3) := by decide +kernel
theorem dX11_firstWrong_12 : decode cX11_firstWrong 12 = .ok (.aload_n 0, 1) := by decide +kernel
theorem dX11_firstWrong_13 : decode cX11_firstWrong 13 = .ok (.getfield 69, 3) := by decide +kernel
theorem dX11_firstWrong_16 : decode cX11_firstWrong 16 = .ok (.iload_n 2, 1) := by decide +kernel
theorem dX11_firstWrong_17 : decode cX11_firstWrong 17 = .ok (.iaload, 1) := by decide +kernel
theorem dX11_firstWrong_18 : decode cX11_firstWrong 18 = .ok (.istore_n 3, 1) := by decide +kernel
theorem dX11_firstWrong_19 : decode cX11_firstWrong 19 = .ok (.iload_n 3, 1) := by decide +kernel
theorem dX11_firstWrong_20 : decode cX11_firstWrong 20 = .ok (.aload_n 0, 1) := by decide +kernel
theorem dX11_firstWrong_21 : decode cX11_firstWrong 21 = .ok (.getfield 76, 3) := by decide +kernel
theorem dX11_firstWrong_24 : decode cX11_firstWrong 24 = .ok (.if_icmp .ge 30, 3) := by decide +kernel
theorem dX11_firstWrong_27 : decode cX11_firstWrong 27 = .ok (.iload_n 1, 1) := by decide +kernel
theorem dX11_firstWrong_28 : decode cX11_firstWrong 28 = .ok (.iload_n 3, 1) := by decide +kernel
theorem dX11_firstWrong_29 : decode cX11_firstWrong 29 = .ok (.invokestatic 109, 3) := by decide +kernel
theorem dX11_firstWrong_32 : decode cX11_firstWrong 32 = .ok (.aload_n 0, 1) := by decide +kernel
theorem dX11_firstWrong_33 : decode cX11_firstWrong 33 = .ok (.getfield 7, 3) := by decide +kernel
theorem dX11_firstWrong_36 : decode cX11_firstWrong 36 = .ok (.iload_n 3, 1) := by decide +kernel
theorem dX11_firstWrong_37 : decode cX11_firstWrong 37 = .ok (.iaload, 1) := by decide +kernel
theorem dX11_firstWrong_38 : decode cX11_firstWrong 38 = .ok (.if_icmp .eq 16, 3) := by decide +kernel
theorem dX11_firstWrong_41 : decode cX11_firstWrong 41 = .ok (.aload_n 0, 1) := by decide +kernel
theorem dX11_firstWrong_42 : decode cX11_firstWrong 42 = .ok (.iload_n 1, 1) := by decide +kernel
theorem dX11_firstWrong_43 : decode cX11_firstWrong 43 = .ok (.iload_n 3, 1) := by decide +kernel
theorem dX11_firstWrong_44 : decode cX11_firstWrong 44 = .ok (.invokestatic 105, 3) := by decide +kernel
theorem dX11_firstWrong_47 : decode cX11_firstWrong 47 = .ok (.iadd, 1) := by decide +kernel
theorem dX11_firstWrong_48 : decode cX11_firstWrong 48 = .ok (.invokevirtual 116, 3) := by decide +kernel
theorem dX11_firstWrong_51 : decode cX11_firstWrong 51 = .ok (.ifCond .ne 5, 3) := by decide +kernel
theorem dX11_firstWrong_54 : decode cX11_firstWrong 54 = .ok (.iload_n 2, 1) := by decide +kernel
theorem dX11_firstWrong_55 : decode cX11_firstWrong 55 = .ok (.ireturn, 1) := by decide +kernel
theorem dX11_firstWrong_56 : decode cX11_firstWrong 56 = .ok (.iload_n 1, 1) := by decide +kernel
theorem dX11_firstWrong_57 : decode cX11_firstWrong 57 = .ok (.iload_n 3, 1) := by decide +kernel
theorem dX11_firstWrong_58 : decode cX11_firstWrong 58 = .ok (.invokestatic 105, 3) := by decide +kernel
theorem dX11_firstWrong_61 : decode cX11_firstWrong 61 = .ok (.iadd, 1) := by decide +kernel
theorem dX11_firstWrong_62 : decode cX11_firstWrong 62 = .ok (.istore_n 1, 1) := by decide +kernel
theorem dX11_firstWrong_63 : decode cX11_firstWrong 63 = .ok (.iinc 2 1, 3) := by decide +kernel
theorem dX11_firstWrong_66 : decode cX11_firstWrong 66 = .ok (.goto (-62), 3) := by decide +kernel
theorem dX11_firstWrong_69 : decode cX11_firstWrong 69 = .ok (.aload_n 0, 1) := by decide +kernel
theorem dX11_firstWrong_70 : decode cX11_firstWrong 70 = .ok (.getfield 190, 3) := by decide +kernel
theorem dX11_firstWrong_73 : decode cX11_firstWrong 73 = .ok (.ireturn, 1) := by decide +kernel
theorem dX11_check_0 : decode cX11_check 0 = .ok (.aload_n 0, 1) := by decide +kernel
theorem dX11_check_1 : decode cX11_check 1 = .ok (.invokevirtual 193, 3) := by decide +kernel
theorem dX11_check_4 : decode cX11_check 4 = .ok (.istore_n 1, 1) := by decide +kernel
theorem dX11_check_5 : decode cX11_check 5 = .ok (.iload_n 1, 1) := by decide +kernel
theorem dX11_check_6 : decode cX11_check 6 = .ok (.aload_n 0, 1) := by decide +kernel
theorem dX11_check_7 : decode cX11_check 7 = .ok (.getfield 190, 3) := by decide +kernel
theorem dX11_check_10 : decode cX11_check 10 = .ok (.if_icmp .ne 18, 3) := by decide +kernel
theorem dX11_check_13 : decode cX11_check 13 = .ok (.aload_n 0, 1) := by decide +kernel
theorem dX11_check_14 : decode cX11_check 14 = .ok (.getfield 190, 3) := by decide +kernel
theorem dX11_check_17 : decode cX11_check 17 = .ok (.aload_n 0, 1) := by decide +kernel
theorem dX11_check_18 : decode cX11_check 18 = .ok (.getfield 87, 3) := by decide +kernel
theorem dX11_check_21 : decode cX11_check 21 = .ok (.if_icmp .ne 7, 3) := by decide +kernel
theorem dX11_check_24 : decode cX11_check 24 = .ok (.iconst 1, 1) := by decide +kernel
theorem dX11_check_25 : decode cX11_check 25 = .ok (.goto 4, 3) := by decide +kernel
theorem dX11_check_28 : decode cX11_check 28 = .ok (.iconst 0, 1) := by decide +kernel
theorem dX11_check_29 : decode cX11_check 29 = .ok (.istore_n 2, 1) := by decide +kernel
theorem dX11_check_30 : decode cX11_check 30 = .ok (.aload_n 0, 1) := by decide +kernel
theorem dX11_check_31 : decode cX11_check 31 = .ok (.iconst 0, 1) := by decide +kernel
theorem dX11_check_32 : decode cX11_check 32 = .ok (.putfield 190, 3) := by decide +kernel
theorem dX11_check_35 : decode cX11_check 35 = .ok (.iload_n 2, 1) := by decide +kernel
theorem dX11_check_36 : decode cX11_check 36 = .ok (.ifCond .eq 8, 3) := by decide +kernel
theorem dX11_check_39 : decode cX11_check 39 = .ok (.bipush 100, 2) := by decide +kernel
theorem dX11_check_41 : decode cX11_check 41 = .ok (.goto 4, 3) := by decide +kernel
theorem dX11_check_44 : decode cX11_check 44 = .ok (.iload_n 1, 1) := by decide +kernel
theorem dX11_check_45 : decode cX11_check 45 = .ok (.ireturn, 1) := by decide +kernel
theorem dX11_passes_0 : decode cX11_passes 0 = .ok (.iload_n 1, 1) := by decide +kernel
theorem dX11_passes_1 : decode cX11_passes 1 = .ok (.iconst 0, 1) := by decide +kernel
theorem dX11_passes_2 : decode cX11_passes 2 = .ok (.aload_n 0, 1) := by decide +kernel
theorem dX11_passes_3 : decode cX11_passes 3 = .ok (.getfield 152, 3) := by decide +kernel
theorem dX11_passes_6 : decode cX11_passes 6 = .ok (.iconst 1, 1) := by decide +kernel
theorem dX11_passes_7 : decode cX11_passes 7 = .ok (.isub, 1) := by decide +kernel
theorem dX11_passes_8 : decode cX11_passes 8 = .ok (.invokestatic 79, 3) := by decide +kernel
theorem dX11_passes_11 : decode cX11_passes 11 = .ok (.ifCond .ne 5, 3) := by decide +kernel
theorem dX11_passes_14 : decode cX11_passes 14 = .ok (.iconst (-1), 1) := by decide +kernel
theorem dX11_passes_15 : decode cX11_passes 15 = .ok (.ireturn, 1) := by decide +kernel
theorem dX11_passes_16 : decode cX11_passes 16 = .ok (.aload_n 0, 1) := by decide +kernel
theorem dX11_passes_17 : decode cX11_passes 17 = .ok (.invokevirtual 193, 3) := by decide +kernel
theorem dX11_passes_20 : decode cX11_passes 20 = .ok (.aload_n 0, 1) := by decide +kernel
theorem dX11_passes_21 : decode cX11_passes 21 = .ok (.getfield 190, 3) := by decide +kernel
theorem dX11_passes_24 : decode cX11_passes 24 = .ok (.if_icmp .ge 6, 3) := by decide +kernel
theorem dX11_passes_27 : decode cX11_passes 27 = .ok (.bipush (-3), 2) := by decide +kernel
theorem dX11_passes_29 : decode cX11_passes 29 = .ok (.ireturn, 1) := by decide +kernel
theorem dX11_passes_30 : decode cX11_passes 30 = .ok (.iconst 0, 1) := by decide +kernel
theorem dX11_passes_31 : decode cX11_passes 31 = .ok (.istore_n 2, 1) := by decide +kernel
theorem dX11_passes_32 : decode cX11_passes 32 = .ok (.iconst 0, 1) := by decide +kernel
theorem dX11_passes_33 : decode cX11_passes 33 = .ok (.istore_n 3, 1) := by decide +kernel
theorem dX11_passes_34 : decode cX11_passes 34 = .ok (.iload_n 3, 1) := by decide +kernel
theorem dX11_passes_35 : decode cX11_passes 35 = .ok (.aload_n 0, 1) := by decide +kernel
theorem dX11_passes_36 : decode cX11_passes 36 = .ok (.getfield 190, 3) := by decide +kernel
theorem dX11_passes_39 : decode cX11_passes 39 = .ok (.if_icmp .gt 40, 3) := by decide +kernel
theorem dX11_passes_42 : decode cX11_passes 42 = .ok (.aload_n 0, 1) := by decide +kernel
theorem dX11_passes_43 : decode cX11_passes 43 = .ok (.iload_n 1, 1) := by decide +kernel
theorem dX11_passes_44 : decode cX11_passes 44 = .ok (.iload_n 2, 1) := by decide +kernel
theorem dX11_passes_45 : decode cX11_passes 45 = .ok (.invokevirtual 167, 3) := by decide +kernel
theorem dX11_passes_48 : decode cX11_passes 48 = .ok (.ifCond .eq 5, 3) := by decide +kernel
theorem dX11_passes_51 : decode cX11_passes 51 = .ok (.iload_n 3, 1) := by decide +kernel
theorem dX11_passes_52 : decode cX11_passes 52 = .ok (.ireturn, 1) := by decide +kernel
theorem dX11_passes_53 : decode cX11_passes 53 = .ok (.iload_n 3, 1) := by decide +kernel
theorem dX11_passes_54 : decode cX11_passes 54 = .ok (.aload_n 0, 1) := by decide +kernel
theorem dX11_passes_55 : decode cX11_passes 55 = .ok (.getfield 190, 3) := by decide +kernel
theorem dX11_passes_58 : decode cX11_passes 58 = .ok (.if_icmp .ge 15, 3) := by decide +kernel
theorem dX11_passes_61 : decode cX11_passes 61 = .ok (.iload_n 2, 1) := by decide +kernel
theorem dX11_passes_62 : decode cX11_passes 62 = .ok (.aload_n 0, 1) := by decide +kernel
theorem dX11_passes_63 : decode cX11_passes 63 = .ok (.getfield 69, 3) := by decide +kernel
theorem dX11_passes_66 : decode cX11_passes 66 = .ok (.iload_n 3, 1) := by decide +kernel
theorem dX11_passes_67 : decode cX11_passes 67 = .ok (.iaload, 1) := by decide +kernel
theorem dX11_passes_68 : decode cX11_passes 68 = .ok (.invokestatic 105, 3) := by decide +kernel
theorem dX11_passes_71 : decode cX11_passes 71 = .ok (.iadd, 1) := by decide +kernel
theorem dX11_passes_72 : decode cX11_passes 72 = .ok (.istore_n 2, 1) := by decide +kernel
theorem dX11_passes_73 : decode cX11_passes 73 = .ok (.iinc 3 1, 3) := by decide +kernel
theorem dX11_passes_76 : decode cX11_passes 76 = .ok (.goto (-42), 3) := by decide +kernel
theorem dX11_passes_79 : decode cX11_passes 79 = .ok (.iconst (-1), 1) := by decide +kernel
theorem dX11_passes_80 : decode cX11_passes 80 = .ok (.ireturn, 1) := by decide +kernel
theorem dX11_count__0 : decode cX11_count_ 0 = .ok (.iconst 0, 1) := by decide +kernel
theorem dX11_count__1 : decode cX11_count_ 1 = .ok (.istore_n 2, 1) := by decide +kernel
theorem dX11_count__2 : decode cX11_count_ 2 = .ok (.iload_n 1, 1) := by decide +kernel
theorem dX11_count__3 : decode cX11_count_ 3 = .ok (.tableswitch 107 0 6 #[41, 46, 51, 56, 92, 97, 102], 41) := by decide +kernel
theorem dX11_count__44 : decode cX11_count_ 44 = .ok (.aload_n 0, 1) := by decide +kernel
theorem dX11_count__45 : decode cX11_count_ 45 = .ok (.getfield 76, 3) := by decide +kernel
theorem dX11_count__48 : decode cX11_count_ 48 = .ok (.ireturn, 1) := by decide +kernel
theorem dX11_count__49 : decode cX11_count_ 49 = .ok (.aload_n 0, 1) := by decide +kernel
theorem dX11_count__50 : decode cX11_count_ 50 = .ok (.getfield 87, 3) := by decide +kernel
theorem dX11_count__53 : decode cX11_count_ 53 = .ok (.ireturn, 1) := by decide +kernel
theorem dX11_count__54 : decode cX11_count_ 54 = .ok (.aload_n 0, 1) := by decide +kernel
theorem dX11_count__55 : decode cX11_count_ 55 = .ok (.getfield 94, 3) := by decide +kernel
theorem dX11_count__58 : decode cX11_count_ 58 = .ok (.ireturn, 1) := by decide +kernel
theorem dX11_count__59 : decode cX11_count_ 59 = .ok (.iconst 0, 1) := by decide +kernel
theorem dX11_count__60 : decode cX11_count_ 60 = .ok (.istore_n 3, 1) := by decide +kernel
theorem dX11_count__61 : decode cX11_count_ 61 = .ok (.iload_n 3, 1) := by decide +kernel
theorem dX11_count__62 : decode cX11_count_ 62 = .ok (.aload_n 0, 1) := by decide +kernel
theorem dX11_count__63 : decode cX11_count_ 63 = .ok (.getfield 94, 3) := by decide +kernel
theorem dX11_count__66 : decode cX11_count_ 66 = .ok (.if_icmp .ge 27, 3) := by decide +kernel
theorem dX11_count__69 : decode cX11_count_ 69 = .ok (.iload_n 2, 1) := by decide +kernel
theorem dX11_count__70 : decode cX11_count_ 70 = .ok (.aload_n 0, 1) := by decide +kernel
theorem dX11_count__71 : decode cX11_count_ 71 = .ok (.getfield 37, 3) := by decide +kernel
theorem dX11_count__74 : decode cX11_count_ 74 = .ok (.iload_n 3, 1) := by decide +kernel
theorem dX11_count__75 : decode cX11_count_ 75 = .ok (.iaload, 1) := by decide +kernel
theorem dX11_count__76 : decode cX11_count_ 76 = .ok (.iconst (-1), 1) := by decide +kernel
theorem dX11_count__77 : decode cX11_count_ 77 = .ok (.if_icmp .ne 7, 3) := by decide +kernel
theorem dX11_count__80 : decode cX11_count_ 80 = .ok (.iconst 1, 1) := by decide +kernel
theorem dX11_count__81 : decode cX11_count_ 81 = .ok (.goto 4, 3) := by decide +kernel
theorem dX11_count__84 : decode cX11_count_ 84 = .ok (.iconst 0, 1) := by decide +kernel
theorem dX11_count__85 : decode cX11_count_ 85 = .ok (.iadd, 1) := by decide +kernel
theorem dX11_count__86 : decode cX11_count_ 86 = .ok (.istore_n 2, 1) := by decide +kernel
theorem dX11_count__87 : decode cX11_count_ 87 = .ok (.iinc 3 1, 3) := by decide +kernel
theorem dX11_count__90 : decode cX11_count_ 90 = .ok (.goto (-29), 3) := by decide +kernel
theorem dX11_count__93 : decode cX11_count_ 93 = .ok (.iload_n 2, 1) := by decide +kernel
theorem dX11_count__94 : decode cX11_count_ 94 = .ok (.ireturn, 1) := by decide +kernel
theorem dX11_count__95 : decode cX11_count_ 95 = .ok (.aload_n 0, 1) := by decide +kernel
theorem dX11_count__96 : decode cX11_count_ 96 = .ok (.getfield 152, 3) := by decide +kernel
theorem dX11_count__99 : decode cX11_count_ 99 = .ok (.ireturn, 1) := by decide +kernel
theorem dX11_count__100 : decode cX11_count_ 100 = .ok (.aload_n 0, 1) := by decide +kernel
theorem dX11_count__101 : decode cX11_count_ 101 = .ok (.getfield 142, 3) := by decide +kernel
theorem dX11_count__104 : decode cX11_count_ 104 = .ok (.ireturn, 1) := by decide +kernel
theorem dX11_count__105 : decode cX11_count_ 105 = .ok (.aload_n 0, 1) := by decide +kernel
theorem dX11_count__106 : decode cX11_count_ 106 = .ok (.getfield 190, 3) := by decide +kernel
theorem dX11_count__109 : decode cX11_count_ 109 = .ok (.ireturn, 1) := by decide +kernel
theorem dX11_count__110 : decode cX11_count_ 110 = .ok (.iconst (-1), 1) := by decide +kernel
theorem dX11_count__111 : decode cX11_count_ 111 = .ok (.ireturn, 1) := by decide +kernel
theorem dJ9_max_7cf53_0 : decode cJ9_max_7cf53 0 = .ok (.iload_n 0, 1) := by decide +kernel
theorem dJ9_max_7cf53_1 : decode cJ9_max_7cf53 1 = .ok (.iload_n 1, 1) := by decide +kernel
theorem dJ9_max_7cf53_2 : decode cJ9_max_7cf53 2 = .ok (.if_icmp .lt 7, 3) := by decide +kernel
theorem dJ9_max_7cf53_5 : decode cJ9_max_7cf53 5 = .ok (.iload_n 0, 1) := by decide +kernel
theorem dJ9_max_7cf53_6 : decode cJ9_max_7cf53 6 = .ok (.goto 4, 3) := by decide +kernel
theorem dJ9_max_7cf53_9 : decode cJ9_max_7cf53 9 = .ok (.iload_n 1, 1) := by decide +kernel
theorem dJ9_max_7cf53_10 : decode cJ9_max_7cf53 10 = .ok (.ireturn, 1) := by decide +kernel
theorem dJ9_min_7cf53_0 : decode cJ9_min_7cf53 0 = .ok (.iload_n 0, 1) := by decide +kernel
theorem dJ9_min_7cf53_1 : decode cJ9_min_7cf53 1 = .ok (.iload_n 1, 1) := by decide +kernel
theorem dJ9_min_7cf53_2 : decode cJ9_min_7cf53 2 = .ok (.if_icmp .gt 7, 3) := by decide +kernel
theorem dJ9_min_7cf53_5 : decode cJ9_min_7cf53 5 = .ok (.iload_n 0, 1) := by decide +kernel
theorem dJ9_min_7cf53_6 : decode cJ9_min_7cf53 6 = .ok (.goto 4, 3) := by decide +kernel
theorem dJ9_min_7cf53_9 : decode cJ9_min_7cf53 9 = .ok (.iload_n 1, 1) := by decide +kernel
theorem dJ9_min_7cf53_10 : decode cJ9_min_7cf53 10 = .ok (.ireturn, 1) := by decide +kernel
theorem dJ7_fill_53178_0 : decode cJ7_fill_53178 0 = .ok (.iconst 0, 1) := by decide +kernel
theorem dJ7_fill_53178_1 : decode cJ7_fill_53178 1 = .ok (.istore_n 2, 1) := by decide +kernel
theorem dJ7_fill_53178_2 : decode cJ7_fill_53178 2 = .ok (.aload_n 0, 1) := by decide +kernel
theorem dJ7_fill_53178_3 : decode cJ7_fill_53178 3 = .ok (.arraylength, 1) := by decide +kernel
theorem dJ7_fill_53178_4 : decode cJ7_fill_53178 4 = .ok (.istore_n 3, 1) := by decide +kernel
theorem dJ7_fill_53178_5 : decode cJ7_fill_53178 5 = .ok (.iload_n 2, 1) := by decide +kernel
theorem dJ7_fill_53178_6 : decode cJ7_fill_53178 6 = .ok (.iload_n 3, 1) := by decide +kernel
theorem dJ7_fill_53178_7 : decode cJ7_fill_53178 7 = .ok (.if_icmp .ge 13, 3) := by decide +kernel
theorem dJ7_fill_53178_10 : decode cJ7_fill_53178 10 = .ok (.aload_n 0, 1) := by decide +kernel
theorem dJ7_fill_53178_11 : decode cJ7_fill_53178 11 = .ok (.iload_n 2, 1) := by decide +kernel
theorem dJ7_fill_53178_12 : decode cJ7_fill_53178 12 = .ok (.iload_n 1, 1) := by decide +kernel
theorem dJ7_fill_53178_13 : decode cJ7_fill_53178 13 = .ok (.iastore, 1) := by decide +kernel
theorem dJ7_fill_53178_14 : decode cJ7_fill_53178 14 = .ok (.iinc 2 1, 3) := by decide +kernel
theorem dJ7_fill_53178_17 : decode cJ7_fill_53178 17 = .ok (.goto (-12), 3) := by decide +kernel
theorem dJ7_fill_53178_20 : decode cJ7_fill_53178 20 = .ok (.return_, 1) := by decide +kernel
end
section
theorem dL_law_0 : decode cL_law 0 = .ok (.new 7, 3) := by decide +kernel
theorem dL_law_3 : decode cL_law 3 = .ok (.dup, 1) := by decide +kernel
theorem dL_law_4 : decode cL_law 4 = .ok (.invokespecial 9, 3) := by decide +kernel
theorem dL_law_7 : decode cL_law 7 = .ok (.astore_n 1, 1) := by decide +kernel
theorem dL_law_8 : decode cL_law 8 = .ok (.new 10, 3) := by decide +kernel
theorem dL_law_11 : decode cL_law 11 = .ok (.dup, 1) := by decide +kernel
theorem dL_law_12 : decode cL_law 12 = .ok (.invokespecial 12, 3) := by decide +kernel
theorem dL_law_15 : decode cL_law 15 = .ok (.astore_n 2, 1) := by decide +kernel
theorem dL_law_16 : decode cL_law 16 = .ok (.iconst 0, 1) := by decide +kernel
theorem dL_law_17 : decode cL_law 17 = .ok (.istore_n 3, 1) := by decide +kernel
theorem dL_law_18 : decode cL_law 18 = .ok (.iload_n 3, 1) := by decide +kernel
theorem dL_law_19 : decode cL_law 19 = .ok (.aload_n 0, 1) := by decide +kernel
theorem dL_law_20 : decode cL_law 20 = .ok (.arraylength, 1) := by decide +kernel
theorem dL_law_21 : decode cL_law 21 = .ok (.iconst 5, 1) := by decide +kernel
theorem dL_law_22 : decode cL_law 22 = .ok (.isub, 1) := by decide +kernel
theorem dL_law_23 : decode cL_law 23 = .ok (.if_icmp .gt 1205, 3) := by decide +kernel
theorem dL_law_26 : decode cL_law 26 = .ok (.aload_n 0, 1) := by decide +kernel
theorem dL_law_27 : decode cL_law 27 = .ok (.iload_n 3, 1) := by decide +kernel
theorem dL_law_28 : decode cL_law 28 = .ok (.iaload, 1) := by decide +kernel
theorem dL_law_29 : decode cL_law 29 = .ok (.bipush 63, 2) := by decide +kernel
theorem dL_law_31 : decode cL_law 31 = .ok (.iand, 1) := by decide +kernel
theorem dL_law_32 : decode cL_law 32 = .ok (.tableswitch 1190 0 35 #[160, 173, 226, 259, 282, 315, 328, 371, 404, 457, 500, 523, 546, 569, 612, 645, 659, 722, 745, 788, 811, 824, 847, 880, 893, 916, 939, 962, 985, 1018, 1042, 1075, 1108, 1131, 1144, 1167], 160) := by decide +kernel
theorem dL_law_192 : decode cL_law 192 = .ok (.aload_n 1, 1) := by decide +kernel
theorem dL_law_193 : decode cL_law 193 = .ok (.invokevirtual 13, 3) := by decide +kernel
theorem dL_law_196 : decode cL_law 196 = .ok (.aload_n 2, 1) := by decide +kernel
theorem dL_law_197 : decode cL_law 197 = .ok (.invokevirtual 17, 3) := by decide +kernel
theorem dL_law_200 : decode cL_law 200 = .ok (.if_icmp .eq 1022, 3) := by decide +kernel
theorem dL_law_203 : decode cL_law 203 = .ok (.iconst 0, 1) := by decide +kernel
theorem dL_law_204 : decode cL_law 204 = .ok (.ireturn, 1) := by decide +kernel
theorem dL_law_205 : decode cL_law 205 = .ok (.aload_n 1, 1) := by decide +kernel
theorem dL_law_206 : decode cL_law 206 = .ok (.aload_n 0, 1) := by decide +kernel
theorem dL_law_207 : decode cL_law 207 = .ok (.iload_n 3, 1) := by decide +kernel
theorem dL_law_208 : decode cL_law 208 = .ok (.iconst 1, 1) := by decide +kernel
theorem dL_law_209 : decode cL_law 209 = .ok (.iadd, 1) := by decide +kernel
theorem dL_law_210 : decode cL_law 210 = .ok (.iaload, 1) := by decide +kernel
theorem dL_law_211 : decode cL_law 211 = .ok (.aload_n 0, 1) := by decide +kernel
theorem dL_law_212 : decode cL_law 212 = .ok (.iload_n 3, 1) := by decide +kernel
theorem dL_law_213 : decode cL_law 213 = .ok (.iconst 2, 1) := by decide +kernel
theorem dL_law_214 : decode cL_law 214 = .ok (.iadd, 1) := by decide +kernel
theorem dL_law_215 : decode cL_law 215 = .ok (.iaload, 1) := by decide +kernel
theorem dL_law_216 : decode cL_law 216 = .ok (.aload_n 0, 1) := by decide +kernel
theorem dL_law_217 : decode cL_law 217 = .ok (.iload_n 3, 1) := by decide +kernel
theorem dL_law_218 : decode cL_law 218 = .ok (.iconst 3, 1) := by decide +kernel
theorem dL_law_219 : decode cL_law 219 = .ok (.iadd, 1) := by decide +kernel
theorem dL_law_220 : decode cL_law 220 = .ok (.iaload, 1) := by decide +kernel
theorem dL_law_221 : decode cL_law 221 = .ok (.aload_n 0, 1) := by decide +kernel
theorem dL_law_222 : decode cL_law 222 = .ok (.iload_n 3, 1) := by decide +kernel
theorem dL_law_223 : decode cL_law 223 = .ok (.iconst 4, 1) := by decide +kernel
theorem dL_law_224 : decode cL_law 224 = .ok (.iadd, 1) := by decide +kernel
theorem dL_law_225 : decode cL_law 225 = .ok (.iaload, 1) := by decide +kernel
theorem dL_law_226 : decode cL_law 226 = .ok (.invokevirtual 18, 3) := by decide +kernel
theorem dL_law_229 : decode cL_law 229 = .ok (.aload_n 2, 1) := by decide +kernel
theorem dL_law_230 : decode cL_law 230 = .ok (.aload_n 0, 1) := by decide +kernel
theorem dL_law_231 : decode cL_law 231 = .ok (.iload_n 3, 1) := by decide +kernel
theorem dL_law_232 : decode cL_law 232 = .ok (.iconst 1, 1) := by decide +kernel
theorem dL_law_233 : decode cL_law 233 = .ok (.iadd, 1) := by decide +kernel
theorem dL_law_234 : decode cL_law 234 = .ok (.iaload, 1) := by decide +kernel
theorem dL_law_235 : decode cL_law 235 = .ok (.aload_n 0, 1) := by decide +kernel
theorem dL_law_236 : decode cL_law 236 = .ok (.iload_n 3, 1) := by decide +kernel
theorem dL_law_237 : decode cL_law 237 = .ok (.iconst 2, 1) := by decide +kernel
theorem dL_law_238 : decode cL_law 238 = .ok (.iadd, 1) := by decide +kernel
theorem dL_law_239 : decode cL_law 239 = .ok (.iaload, 1) := by decide +kernel
theorem dL_law_240 : decode cL_law 240 = .ok (.aload_n 0, 1) := by decide +kernel
theorem dL_law_241 : decode cL_law 241 = .ok (.iload_n 3, 1) := by decide +kernel
theorem dL_law_242 : decode cL_law 242 = .ok (.iconst 3, 1) := by decide +kernel
theorem dL_law_243 : decode cL_law 243 = .ok (.iadd, 1) := by decide +kernel
theorem dL_law_244 : decode cL_law 244 = .ok (.iaload, 1) := by decide +kernel
theorem dL_law_245 : decode cL_law 245 = .ok (.aload_n 0, 1) := by decide +kernel
theorem dL_law_246 : decode cL_law 246 = .ok (.iload_n 3, 1) := by decide +kernel
theorem dL_law_247 : decode cL_law 247 = .ok (.iconst 4, 1) := by decide +kernel
theorem dL_law_248 : decode cL_law 248 = .ok (.iadd, 1) := by decide +kernel
theorem dL_law_249 : decode cL_law 249 = .ok (.iaload, 1) := by decide +kernel
theorem dL_law_250 : decode cL_law 250 = .ok (.invokevirtual 22, 3) := by decide +kernel
theorem dL_law_253 : decode cL_law 253 = .ok (.if_icmp .eq 969, 3) := by decide +kernel
theorem dL_law_256 : decode cL_law 256 = .ok (.iconst 0, 1) := by decide +kernel
theorem dL_law_257 : decode cL_law 257 = .ok (.ireturn, 1) := by decide +kernel
theorem dL_law_258 : decode cL_law 258 = .ok (.aload_n 1, 1) := by decide +kernel
theorem dL_law_259 : decode cL_law 259 = .ok (.aload_n 0, 1) := by decide +kernel
theorem dL_law_260 : decode cL_law 260 = .ok (.iload_n 3, 1) := by decide +kernel
theorem dL_law_261 : decode cL_law 261 = .ok (.iconst 1, 1) := by decide +kernel
theorem dL_law_262 : decode cL_law 262 = .ok (.iadd, 1) := by decide +kernel
theorem dL_law_263 : decode cL_law 263 = .ok (.iaload, 1) := by decide +kernel
theorem dL_law_264 : decode cL_law 264 = .ok (.aload_n 0, 1) := by decide +kernel
theorem dL_law_265 : decode cL_law 265 = .ok (.iload_n 3, 1) := by decide +kernel
theorem dL_law_266 : decode cL_law 266 = .ok (.iconst 2, 1) := by decide +kernel
theorem dL_law_267 : decode cL_law 267 = .ok (.iadd, 1) := by decide +kernel
theorem dL_law_268 : decode cL_law 268 = .ok (.iaload, 1) := by decide +kernel
theorem dL_law_269 : decode cL_law 269 = .ok (.invokevirtual 23, 3) := by decide +kernel
theorem dL_law_272 : decode cL_law 272 = .ok (.aload_n 2, 1) := by decide +kernel
theorem dL_law_273 : decode cL_law 273 = .ok (.aload_n 0, 1) := by decide +kernel
theorem dL_law_274 : decode cL_law 274 = .ok (.iload_n 3, 1) := by decide +kernel
theorem dL_law_275 : decode cL_law 275 = .ok (.iconst 1, 1) := by decide +kernel
theorem dL_law_276 : decode cL_law 276 = .ok (.iadd, 1) := by decide +kernel
theorem dL_law_277 : decode cL_law 277 = .ok (.iaload, 1) := by decide +kernel
theorem dL_law_278 : decode cL_law 278 = .ok (.aload_n 0, 1) := by decide +kernel
theorem dL_law_279 : decode cL_law 279 = .ok (.iload_n 3, 1) := by decide +kernel
theorem dL_law_280 : decode cL_law 280 = .ok (.iconst 2, 1) := by decide +kernel
theorem dL_law_281 : decode cL_law 281 = .ok (.iadd, 1) := by decide +kernel
theorem dL_law_282 : decode cL_law 282 = .ok (.iaload, 1) := by decide +kernel
theorem dL_law_283 : decode cL_law 283 = .ok (.invokevirtual 27, 3) := by decide +kernel
theorem dL_law_286 : decode cL_law 286 = .ok (.if_icmp .eq 936, 3) := by decide +kernel
theorem dL_law_289 : decode cL_law 289 = .ok (.iconst 0, 1) := by decide +kernel
theorem dL_law_290 : decode cL_law 290 = .ok (.ireturn, 1) := by decide +kernel
theorem dL_law_291 : decode cL_law 291 = .ok (.aload_n 1, 1) := by decide +kernel
theorem dL_law_292 : decode cL_law 292 = .ok (.aload_n 0, 1) := by decide +kernel
theorem dL_law_293 : decode cL_law 293 = .ok (.iload_n 3, 1) := by decide +kernel
theorem dL_law_294 : decode cL_law 294 = .ok (.iconst 1, 1) := by decide +kernel
theorem dL_law_295 : decode cL_law 295 = .ok (.iadd, 1) := by decide +kernel
theorem dL_law_296 : decode cL_law 296 = .ok (.iaload, 1) := by decide +kernel
theorem dL_law_297 : decode cL_law 297 = .ok (.invokevirtual 28, 3) := by decide +kernel
theorem dL_law_300 : decode cL_law 300 = .ok (.aload_n 2, 1) := by decide +kernel
theorem dL_law_301 : decode cL_law 301 = .ok (.aload_n 0, 1) := by decide +kernel
theorem dL_law_302 : decode cL_law 302 = .ok (.iload_n 3, 1) := by decide +kernel
theorem dL_law_303 : decode cL_law 303 = .ok (.iconst 1, 1) := by decide +kernel
theorem dL_law_304 : decode cL_law 304 = .ok (.iadd, 1) := by decide +kernel
theorem dL_law_305 : decode cL_law 305 = .ok (.iaload, 1) := by decide +kernel
theorem dL_law_306 : decode cL_law 306 = .ok (.invokevirtual 32, 3) := by decide +kernel
theorem dL_law_309 : decode cL_law 309 = .ok (.if_icmp .eq 913, 3) := by decide +kernel
theorem dL_law_312 : decode cL_law 312 = .ok (.iconst 0, 1) := by decide +kernel
theorem dL_law_313 : decode cL_law 313 = .ok (.ireturn, 1) := by decide +kernel
theorem dL_law_314 : decode cL_law 314 = .ok (.aload_n 1, 1) := by decide +kernel
theorem dL_law_315 : decode cL_law 315 = .ok (.aload_n 0, 1) := by decide +kernel
theorem dL_law_316 : decode cL_law 316 = .ok (.iload_n 3, 1) := by decide +kernel
theorem dL_law_317 : decode cL_law 317 = .ok (.iconst 1, 1) := by decide +kernel
theorem dL_law_318 : decode cL_law 318 = .ok (.iadd, 1) := by decide +kernel
theorem dL_law_319 : decode cL_law 319 = .ok (.iaload, 1) := by decide +kernel
theorem dL_law_320 : decode cL_law 320 = .ok (.aload_n 0, 1) := by decide +kernel
theorem dL_law_321 : decode cL_law 321 = .ok (.iload_n 3, 1) := by decide +kernel
theorem dL_law_322 : decode cL_law 322 = .ok (.iconst 2, 1) := by decide +kernel
theorem dL_law_323 : decode cL_law 323 = .ok (.iadd, 1) := by decide +kernel
theorem dL_law_324 : decode cL_law 324 = .ok (.iaload, 1) := by decide +kernel
theorem dL_law_325 : decode cL_law 325 = .ok (.invokevirtual 33, 3) := by decide +kernel
theorem dL_law_328 : decode cL_law 328 = .ok (.aload_n 2, 1) := by decide +kernel
theorem dL_law_329 : decode cL_law 329 = .ok (.aload_n 0, 1) := by decide +kernel
theorem dL_law_330 : decode cL_law 330 = .ok (.iload_n 3, 1) := by decide +kernel
theorem dL_law_331 : decode cL_law 331 = .ok (.iconst 1, 1) := by decide +kernel
theorem dL_law_332 : decode cL_law 332 = .ok (.iadd, 1) := by decide +kernel
theorem dL_law_333 : decode cL_law 333 = .ok (.iaload, 1) := by decide +kernel
theorem dL_law_334 : decode cL_law 334 = .ok (.aload_n 0, 1) := by decide +kernel
theorem dL_law_335 : decode cL_law 335 = .ok (.iload_n 3, 1) := by decide +kernel
theorem dL_law_336 : decode cL_law 336 = .ok (.iconst 2, 1) := by decide +kernel
theorem dL_law_337 : decode cL_law 337 = .ok (.iadd, 1) := by decide +kernel
theorem dL_law_338 : decode cL_law 338 = .ok (.iaload, 1) := by decide +kernel
theorem dL_law_339 : decode cL_law 339 = .ok (.invokevirtual 36, 3) := by decide +kernel
theorem dL_law_342 : decode cL_law 342 = .ok (.if_icmp .eq 880, 3) := by decide +kernel
theorem dL_law_345 : decode cL_law 345 = .ok (.iconst 0, 1) := by decide +kernel
theorem dL_law_346 : decode cL_law 346 = .ok (.ireturn, 1) := by decide +kernel
theorem dL_law_347 : decode cL_law 347 = .ok (.aload_n 1, 1) := by decide +kernel
theorem dL_law_348 : decode cL_law 348 = .ok (.invokevirtual 37, 3) := by decide +kernel
theorem dL_law_351 : decode cL_law 351 = .ok (.aload_n 2, 1) := by decide +kernel
theorem dL_law_352 : decode cL_law 352 = .ok (.invokevirtual 40, 3) := by decide +kernel
theorem dL_law_355 : decode cL_law 355 = .ok (.if_icmp .eq 867, 3) := by decide +kernel
theorem dL_law_358 : decode cL_law 358 = .ok (.iconst 0, 1) := by decide +kernel
theorem dL_law_359 : decode cL_law 359 = .ok (.ireturn, 1) := by decide +kernel
theorem dL_law_360 : decode cL_law 360 = .ok (.aload_n 1, 1) := by decide +kernel
theorem dL_law_361 : decode cL_law 361 = .ok (.aload_n 0, 1) := by decide +kernel
theorem dL_law_362 : decode cL_law 362 = .ok (.iload_n 3, 1) := by decide +kernel
theorem dL_law_363 : decode cL_law 363 = .ok (.iconst 1, 1) := by decide +kernel
theorem dL_law_364 : decode cL_law 364 = .ok (.iadd, 1) := by decide +kernel
theorem dL_law_365 : decode cL_law 365 = .ok (.iaload, 1) := by decide +kernel
theorem dL_law_366 : decode cL_law 366 = .ok (.aload_n 0, 1) := by decide +kernel
theorem dL_law_367 : decode cL_law 367 = .ok (.iload_n 3, 1) := by decide +kernel
theorem dL_law_368 : decode cL_law 368 = .ok (.iconst 2, 1) := by decide +kernel
theorem dL_law_369 : decode cL_law 369 = .ok (.iadd, 1) := by decide +kernel
theorem dL_law_370 : decode cL_law 370 = .ok (.iaload, 1) := by decide +kernel
theorem dL_law_371 : decode cL_law 371 = .ok (.aload_n 0, 1) := by decide +kernel
theorem dL_law_372 : decode cL_law 372 = .ok (.iload_n 3, 1) := by decide +kernel
theorem dL_law_373 : decode cL_law 373 = .ok (.iconst 3, 1) := by decide +kernel
theorem dL_law_374 : decode cL_law 374 = .ok (.iadd, 1) := by decide +kernel
theorem dL_law_375 : decode cL_law 375 = .ok (.iaload, 1) := by decide +kernel
theorem dL_law_376 : decode cL_law 376 = .ok (.invokevirtual 41, 3) := by decide +kernel
theorem dL_law_379 : decode cL_law 379 = .ok (.aload_n 2, 1) := by decide +kernel
theorem dL_law_380 : decode cL_law 380 = .ok (.aload_n 0, 1) := by decide +kernel
theorem dL_law_381 : decode cL_law 381 = .ok (.iload_n 3, 1) := by decide +kernel
theorem dL_law_382 : decode cL_law 382 = .ok (.iconst 1, 1) := by decide +kernel
theorem dL_law_383 : decode cL_law 383 = .ok (.iadd, 1) := by decide +kernel
theorem dL_law_384 : decode cL_law 384 = .ok (.iaload, 1) := by decide +kernel
theorem dL_law_385 : decode cL_law 385 = .ok (.aload_n 0, 1) := by decide +kernel
theorem dL_law_386 : decode cL_law 386 = .ok (.iload_n 3, 1) := by decide +kernel
theorem dL_law_387 : decode cL_law 387 = .ok (.iconst 2, 1) := by decide +kernel
theorem dL_law_388 : decode cL_law 388 = .ok (.iadd, 1) := by decide +kernel
theorem dL_law_389 : decode cL_law 389 = .ok (.iaload, 1) := by decide +kernel
theorem dL_law_390 : decode cL_law 390 = .ok (.aload_n 0, 1) := by decide +kernel
theorem dL_law_391 : decode cL_law 391 = .ok (.iload_n 3, 1) := by decide +kernel
theorem dL_law_392 : decode cL_law 392 = .ok (.iconst 3, 1) := by decide +kernel
theorem dL_law_393 : decode cL_law 393 = .ok (.iadd, 1) := by decide +kernel
theorem dL_law_394 : decode cL_law 394 = .ok (.iaload, 1) := by decide +kernel
theorem dL_law_395 : decode cL_law 395 = .ok (.invokevirtual 45, 3) := by decide +kernel
theorem dL_law_398 : decode cL_law 398 = .ok (.if_icmp .eq 824, 3) := by decide +kernel
theorem dL_law_401 : decode cL_law 401 = .ok (.iconst 0, 1) := by decide +kernel
theorem dL_law_402 : decode cL_law 402 = .ok (.ireturn, 1) := by decide +kernel
theorem dL_law_403 : decode cL_law 403 = .ok (.aload_n 1, 1) := by decide +kernel
theorem dL_law_404 : decode cL_law 404 = .ok (.aload_n 0, 1) := by decide +kernel
theorem dL_law_405 : decode cL_law 405 = .ok (.iload_n 3, 1) := by decide +kernel
theorem dL_law_406 : decode cL_law 406 = .ok (.iconst 1, 1) := by decide +kernel
theorem dL_law_407 : decode cL_law 407 = .ok (.iadd, 1) := by decide +kernel
theorem dL_law_408 : decode cL_law 408 = .ok (.iaload, 1) := by decide +kernel
theorem dL_law_409 : decode cL_law 409 = .ok (.aload_n 0, 1) := by decide +kernel
theorem dL_law_410 : decode cL_law 410 = .ok (.iload_n 3, 1) := by decide +kernel
theorem dL_law_411 : decode cL_law 411 = .ok (.iconst 2, 1) := by decide +kernel
theorem dL_law_412 : decode cL_law 412 = .ok (.iadd, 1) := by decide +kernel
theorem dL_law_413 : decode cL_law 413 = .ok (.iaload, 1) := by decide +kernel
theorem dL_law_414 : decode cL_law 414 = .ok (.invokevirtual 46, 3) := by decide +kernel
theorem dL_law_417 : decode cL_law 417 = .ok (.aload_n 2, 1) := by decide +kernel
theorem dL_law_418 : decode cL_law 418 = .ok (.aload_n 0, 1) := by decide +kernel
theorem dL_law_419 : decode cL_law 419 = .ok (.iload_n 3, 1) := by decide +kernel
theorem dL_law_420 : decode cL_law 420 = .ok (.iconst 1, 1) := by decide +kernel
theorem dL_law_421 : decode cL_law 421 = .ok (.iadd, 1) := by decide +kernel
theorem dL_law_422 : decode cL_law 422 = .ok (.iaload, 1) := by decide +kernel
theorem dL_law_423 : decode cL_law 423 = .ok (.aload_n 0, 1) := by decide +kernel
theorem dL_law_424 : decode cL_law 424 = .ok (.iload_n 3, 1) := by decide +kernel
theorem dL_law_425 : decode cL_law 425 = .ok (.iconst 2, 1) := by decide +kernel
theorem dL_law_426 : decode cL_law 426 = .ok (.iadd, 1) := by decide +kernel
theorem dL_law_427 : decode cL_law 427 = .ok (.iaload, 1) := by decide +kernel
theorem dL_law_428 : decode cL_law 428 = .ok (.invokevirtual 49, 3) := by decide +kernel
theorem dL_law_431 : decode cL_law 431 = .ok (.if_icmp .eq 791, 3) := by decide +kernel
theorem dL_law_434 : decode cL_law 434 = .ok (.iconst 0, 1) := by decide +kernel
theorem dL_law_435 : decode cL_law 435 = .ok (.ireturn, 1) := by decide +kernel
theorem dL_law_436 : decode cL_law 436 = .ok (.aload_n 1, 1) := by decide +kernel
theorem dL_law_437 : decode cL_law 437 = .ok (.aload_n 0, 1) := by decide +kernel
theorem dL_law_438 : decode cL_law 438 = .ok (.iload_n 3, 1) := by decide +kernel
theorem dL_law_439 : decode cL_law 439 = .ok (.iconst 1, 1) := by decide +kernel
theorem dL_law_440 : decode cL_law 440 = .ok (.iadd, 1) := by decide +kernel
theorem dL_law_441 : decode cL_law 441 = .ok (.iaload, 1) := by decide +kernel
theorem dL_law_442 : decode cL_law 442 = .ok (.aload_n 0, 1) := by decide +kernel
theorem dL_law_443 : decode cL_law 443 = .ok (.iload_n 3, 1) := by decide +kernel
theorem dL_law_444 : decode cL_law 444 = .ok (.iconst 2, 1) := by decide +kernel
theorem dL_law_445 : decode cL_law 445 = .ok (.iadd, 1) := by decide +kernel
theorem dL_law_446 : decode cL_law 446 = .ok (.iaload, 1) := by decide +kernel
theorem dL_law_447 : decode cL_law 447 = .ok (.aload_n 0, 1) := by decide +kernel
theorem dL_law_448 : decode cL_law 448 = .ok (.iload_n 3, 1) := by decide +kernel
theorem dL_law_449 : decode cL_law 449 = .ok (.iconst 3, 1) := by decide +kernel
theorem dL_law_450 : decode cL_law 450 = .ok (.iadd, 1) := by decide +kernel
theorem dL_law_451 : decode cL_law 451 = .ok (.iaload, 1) := by decide +kernel
theorem dL_law_452 : decode cL_law 452 = .ok (.aload_n 0, 1) := by decide +kernel
theorem dL_law_453 : decode cL_law 453 = .ok (.iload_n 3, 1) := by decide +kernel
theorem dL_law_454 : decode cL_law 454 = .ok (.iconst 4, 1) := by decide +kernel
theorem dL_law_455 : decode cL_law 455 = .ok (.iadd, 1) := by decide +kernel
theorem dL_law_456 : decode cL_law 456 = .ok (.iaload, 1) := by decide +kernel
theorem dL_law_457 : decode cL_law 457 = .ok (.invokevirtual 50, 3) := by decide +kernel
theorem dL_law_460 : decode cL_law 460 = .ok (.aload_n 2, 1) := by decide +kernel
theorem dL_law_461 : decode cL_law 461 = .ok (.aload_n 0, 1) := by decide +kernel
theorem dL_law_462 : decode cL_law 462 = .ok (.iload_n 3, 1) := by decide +kernel
theorem dL_law_463 : decode cL_law 463 = .ok (.iconst 1, 1) := by decide +kernel
theorem dL_law_464 : decode cL_law 464 = .ok (.iadd, 1) := by decide +kernel
theorem dL_law_465 : decode cL_law 465 = .ok (.iaload, 1) := by decide +kernel
theorem dL_law_466 : decode cL_law 466 = .ok (.aload_n 0, 1) := by decide +kernel
theorem dL_law_467 : decode cL_law 467 = .ok (.iload_n 3, 1) := by decide +kernel
theorem dL_law_468 : decode cL_law 468 = .ok (.iconst 2, 1) := by decide +kernel
theorem dL_law_469 : decode cL_law 469 = .ok (.iadd, 1) := by decide +kernel
theorem dL_law_470 : decode cL_law 470 = .ok (.iaload, 1) := by decide +kernel
theorem dL_law_471 : decode cL_law 471 = .ok (.aload_n 0, 1) := by decide +kernel
theorem dL_law_472 : decode cL_law 472 = .ok (.iload_n 3, 1) := by decide +kernel
theorem dL_law_473 : decode cL_law 473 = .ok (.iconst 3, 1) := by decide +kernel
theorem dL_law_474 : decode cL_law 474 = .ok (.iadd, 1) := by decide +kernel
theorem dL_law_475 : decode cL_law 475 = .ok (.iaload, 1) := by decide +kernel
theorem dL_law_476 : decode cL_law 476 = .ok (.aload_n 0, 1) := by decide +kernel
theorem dL_law_477 : decode cL_law 477 = .ok (.iload_n 3, 1) := by decide +kernel
theorem dL_law_478 : decode cL_law 478 = .ok (.iconst 4, 1) := by decide +kernel
theorem dL_law_479 : decode cL_law 479 = .ok (.iadd, 1) := by decide +kernel
theorem dL_law_480 : decode cL_law 480 = .ok (.iaload, 1) := by decide +kernel
theorem dL_law_481 : decode cL_law 481 = .ok (.invokevirtual 53, 3) := by decide +kernel
theorem dL_law_484 : decode cL_law 484 = .ok (.if_icmp .eq 738, 3) := by decide +kernel
theorem dL_law_487 : decode cL_law 487 = .ok (.iconst 0, 1) := by decide +kernel
theorem dL_law_488 : decode cL_law 488 = .ok (.ireturn, 1) := by decide +kernel
theorem dL_law_489 : decode cL_law 489 = .ok (.aload_n 1, 1) := by decide +kernel
theorem dL_law_490 : decode cL_law 490 = .ok (.aload_n 0, 1) := by decide +kernel
theorem dL_law_491 : decode cL_law 491 = .ok (.iload_n 3, 1) := by decide +kernel
theorem dL_law_492 : decode cL_law 492 = .ok (.iconst 1, 1) := by decide +kernel
theorem dL_law_493 : decode cL_law 493 = .ok (.iadd, 1) := by decide +kernel
theorem dL_law_494 : decode cL_law 494 = .ok (.iaload, 1) := by decide +kernel
theorem dL_law_495 : decode cL_law 495 = .ok (.aload_n 0, 1) := by decide +kernel
theorem dL_law_496 : decode cL_law 496 = .ok (.iload_n 3, 1) := by decide +kernel
theorem dL_law_497 : decode cL_law 497 = .ok (.iconst 2, 1) := by decide +kernel
theorem dL_law_498 : decode cL_law 498 = .ok (.iadd, 1) := by decide +kernel
theorem dL_law_499 : decode cL_law 499 = .ok (.iaload, 1) := by decide +kernel
theorem dL_law_500 : decode cL_law 500 = .ok (.aload_n 0, 1) := by decide +kernel
theorem dL_law_501 : decode cL_law 501 = .ok (.iload_n 3, 1) := by decide +kernel
theorem dL_law_502 : decode cL_law 502 = .ok (.iconst 3, 1) := by decide +kernel
theorem dL_law_503 : decode cL_law 503 = .ok (.iadd, 1) := by decide +kernel
theorem dL_law_504 : decode cL_law 504 = .ok (.iaload, 1) := by decide +kernel
theorem dL_law_505 : decode cL_law 505 = .ok (.invokevirtual 54, 3) := by decide +kernel
theorem dL_law_508 : decode cL_law 508 = .ok (.aload_n 2, 1) := by decide +kernel
theorem dL_law_509 : decode cL_law 509 = .ok (.aload_n 0, 1) := by decide +kernel
theorem dL_law_510 : decode cL_law 510 = .ok (.iload_n 3, 1) := by decide +kernel
theorem dL_law_511 : decode cL_law 511 = .ok (.iconst 1, 1) := by decide +kernel
theorem dL_law_512 : decode cL_law 512 = .ok (.iadd, 1) := by decide +kernel
theorem dL_law_513 : decode cL_law 513 = .ok (.iaload, 1) := by decide +kernel
theorem dL_law_514 : decode cL_law 514 = .ok (.aload_n 0, 1) := by decide +kernel
theorem dL_law_515 : decode cL_law 515 = .ok (.iload_n 3, 1) := by decide +kernel
theorem dL_law_516 : decode cL_law 516 = .ok (.iconst 2, 1) := by decide +kernel
theorem dL_law_517 : decode cL_law 517 = .ok (.iadd, 1) := by decide +kernel
theorem dL_law_518 : decode cL_law 518 = .ok (.iaload, 1) := by decide +kernel
theorem dL_law_519 : decode cL_law 519 = .ok (.aload_n 0, 1) := by decide +kernel
theorem dL_law_520 : decode cL_law 520 = .ok (.iload_n 3, 1) := by decide +kernel
theorem dL_law_521 : decode cL_law 521 = .ok (.iconst 3, 1) := by decide +kernel
theorem dL_law_522 : decode cL_law 522 = .ok (.iadd, 1) := by decide +kernel
theorem dL_law_523 : decode cL_law 523 = .ok (.iaload, 1) := by decide +kernel
theorem dL_law_524 : decode cL_law 524 = .ok (.invokevirtual 57, 3) := by decide +kernel
theorem dL_law_527 : decode cL_law 527 = .ok (.if_icmp .eq 695, 3) := by decide +kernel
end
section
theorem dL_law_530 : decode cL_law 530 = .ok (.iconst 0, 1) := by decide +kernel
theorem dL_law_531 : decode cL_law 531 = .ok (.ireturn, 1) := by decide +kernel
theorem dL_law_532 : decode cL_law 532 = .ok (.aload_n 1, 1) := by decide +kernel
theorem dL_law_533 : decode cL_law 533 = .ok (.aload_n 0, 1) := by decide +kernel
theorem dL_law_534 : decode cL_law 534 = .ok (.iload_n 3, 1) := by decide +kernel
theorem dL_law_535 : decode cL_law 535 = .ok (.iconst 1, 1) := by decide +kernel
theorem dL_law_536 : decode cL_law 536 = .ok (.iadd, 1) := by decide +kernel
theorem dL_law_537 : decode cL_law 537 = .ok (.iaload, 1) := by decide +kernel
theorem dL_law_538 : decode cL_law 538 = .ok (.invokevirtual 58, 3) := by decide +kernel
theorem dL_law_541 : decode cL_law 541 = .ok (.aload_n 2, 1) := by decide +kernel
theorem dL_law_542 : decode cL_law 542 = .ok (.aload_n 0, 1) := by decide +kernel
theorem dL_law_543 : decode cL_law 543 = .ok (.iload_n 3, 1) := by decide +kernel
theorem dL_law_544 : decode cL_law 544 = .ok (.iconst 1, 1) := by decide +kernel
theorem dL_law_545 : decode cL_law 545 = .ok (.iadd, 1) := by decide +kernel
theorem dL_law_546 : decode cL_law 546 = .ok (.iaload, 1) := by decide +kernel
theorem dL_law_547 : decode cL_law 547 = .ok (.invokevirtual 61, 3) := by decide +kernel
theorem dL_law_550 : decode cL_law 550 = .ok (.if_icmp .eq 672, 3) := by decide +kernel
theorem dL_law_553 : decode cL_law 553 = .ok (.iconst 0, 1) := by decide +kernel
theorem dL_law_554 : decode cL_law 554 = .ok (.ireturn, 1) := by decide +kernel
theorem dL_law_555 : decode cL_law 555 = .ok (.aload_n 1, 1) := by decide +kernel
theorem dL_law_556 : decode cL_law 556 = .ok (.aload_n 0, 1) := by decide +kernel
theorem dL_law_557 : decode cL_law 557 = .ok (.iload_n 3, 1) := by decide +kernel
theorem dL_law_558 : decode cL_law 558 = .ok (.iconst 1, 1) := by decide +kernel
theorem dL_law_559 : decode cL_law 559 = .ok (.iadd, 1) := by decide +kernel
theorem dL_law_560 : decode cL_law 560 = .ok (.iaload, 1) := by decide +kernel
theorem dL_law_561 : decode cL_law 561 = .ok (.invokevirtual 62, 3) := by decide +kernel
theorem dL_law_564 : decode cL_law 564 = .ok (.aload_n 2, 1) := by decide +kernel
theorem dL_law_565 : decode cL_law 565 = .ok (.aload_n 0, 1) := by decide +kernel
theorem dL_law_566 : decode cL_law 566 = .ok (.iload_n 3, 1) := by decide +kernel
theorem dL_law_567 : decode cL_law 567 = .ok (.iconst 1, 1) := by decide +kernel
theorem dL_law_568 : decode cL_law 568 = .ok (.iadd, 1) := by decide +kernel
theorem dL_law_569 : decode cL_law 569 = .ok (.iaload, 1) := by decide +kernel
theorem dL_law_570 : decode cL_law 570 = .ok (.invokevirtual 65, 3) := by decide +kernel
theorem dL_law_573 : decode cL_law 573 = .ok (.if_icmp .eq 649, 3) := by decide +kernel
theorem dL_law_576 : decode cL_law 576 = .ok (.iconst 0, 1) := by decide +kernel
theorem dL_law_577 : decode cL_law 577 = .ok (.ireturn, 1) := by decide +kernel
theorem dL_law_578 : decode cL_law 578 = .ok (.aload_n 1, 1) := by decide +kernel
theorem dL_law_579 : decode cL_law 579 = .ok (.aload_n 0, 1) := by decide +kernel
theorem dL_law_580 : decode cL_law 580 = .ok (.iload_n 3, 1) := by decide +kernel
theorem dL_law_581 : decode cL_law 581 = .ok (.iconst 1, 1) := by decide +kernel
theorem dL_law_582 : decode cL_law 582 = .ok (.iadd, 1) := by decide +kernel
theorem dL_law_583 : decode cL_law 583 = .ok (.iaload, 1) := by decide +kernel
theorem dL_law_584 : decode cL_law 584 = .ok (.invokevirtual 66, 3) := by decide +kernel
theorem dL_law_587 : decode cL_law 587 = .ok (.aload_n 2, 1) := by decide +kernel
theorem dL_law_588 : decode cL_law 588 = .ok (.aload_n 0, 1) := by decide +kernel
theorem dL_law_589 : decode cL_law 589 = .ok (.iload_n 3, 1) := by decide +kernel
theorem dL_law_590 : decode cL_law 590 = .ok (.iconst 1, 1) := by decide +kernel
theorem dL_law_591 : decode cL_law 591 = .ok (.iadd, 1) := by decide +kernel
theorem dL_law_592 : decode cL_law 592 = .ok (.iaload, 1) := by decide +kernel
theorem dL_law_593 : decode cL_law 593 = .ok (.invokevirtual 69, 3) := by decide +kernel
theorem dL_law_596 : decode cL_law 596 = .ok (.if_icmp .eq 626, 3) := by decide +kernel
theorem dL_law_599 : decode cL_law 599 = .ok (.iconst 0, 1) := by decide +kernel
theorem dL_law_600 : decode cL_law 600 = .ok (.ireturn, 1) := by decide +kernel
theorem dL_law_601 : decode cL_law 601 = .ok (.aload_n 1, 1) := by decide +kernel
theorem dL_law_602 : decode cL_law 602 = .ok (.aload_n 0, 1) := by decide +kernel
theorem dL_law_603 : decode cL_law 603 = .ok (.iload_n 3, 1) := by decide +kernel
theorem dL_law_604 : decode cL_law 604 = .ok (.iconst 1, 1) := by decide +kernel
theorem dL_law_605 : decode cL_law 605 = .ok (.iadd, 1) := by decide +kernel
theorem dL_law_606 : decode cL_law 606 = .ok (.iaload, 1) := by decide +kernel
theorem dL_law_607 : decode cL_law 607 = .ok (.aload_n 0, 1) := by decide +kernel
theorem dL_law_608 : decode cL_law 608 = .ok (.iload_n 3, 1) := by decide +kernel
theorem dL_law_609 : decode cL_law 609 = .ok (.iconst 2, 1) := by decide +kernel
theorem dL_law_610 : decode cL_law 610 = .ok (.iadd, 1) := by decide +kernel
theorem dL_law_611 : decode cL_law 611 = .ok (.iaload, 1) := by decide +kernel
theorem dL_law_612 : decode cL_law 612 = .ok (.aload_n 0, 1) := by decide +kernel
theorem dL_law_613 : decode cL_law 613 = .ok (.iload_n 3, 1) := by decide +kernel
theorem dL_law_614 : decode cL_law 614 = .ok (.iconst 3, 1) := by decide +kernel
theorem dL_law_615 : decode cL_law 615 = .ok (.iadd, 1) := by decide +kernel
theorem dL_law_616 : decode cL_law 616 = .ok (.iaload, 1) := by decide +kernel
theorem dL_law_617 : decode cL_law 617 = .ok (.invokevirtual 70, 3) := by decide +kernel
theorem dL_law_620 : decode cL_law 620 = .ok (.aload_n 2, 1) := by decide +kernel
theorem dL_law_621 : decode cL_law 621 = .ok (.aload_n 0, 1) := by decide +kernel
theorem dL_law_622 : decode cL_law 622 = .ok (.iload_n 3, 1) := by decide +kernel
theorem dL_law_623 : decode cL_law 623 = .ok (.iconst 1, 1) := by decide +kernel
theorem dL_law_624 : decode cL_law 624 = .ok (.iadd, 1) := by decide +kernel
theorem dL_law_625 : decode cL_law 625 = .ok (.iaload, 1) := by decide +kernel
theorem dL_law_626 : decode cL_law 626 = .ok (.aload_n 0, 1) := by decide +kernel
theorem dL_law_627 : decode cL_law 627 = .ok (.iload_n 3, 1) := by decide +kernel
theorem dL_law_628 : decode cL_law 628 = .ok (.iconst 2, 1) := by decide +kernel
theorem dL_law_629 : decode cL_law 629 = .ok (.iadd, 1) := by decide +kernel
theorem dL_law_630 : decode cL_law 630 = .ok (.iaload, 1) := by decide +kernel
theorem dL_law_631 : decode cL_law 631 = .ok (.aload_n 0, 1) := by decide +kernel
theorem dL_law_632 : decode cL_law 632 = .ok (.iload_n 3, 1) := by decide +kernel
theorem dL_law_633 : decode cL_law 633 = .ok (.iconst 3, 1) := by decide +kernel
theorem dL_law_634 : decode cL_law 634 = .ok (.iadd, 1) := by decide +kernel
theorem dL_law_635 : decode cL_law 635 = .ok (.iaload, 1) := by decide +kernel
theorem dL_law_636 : decode cL_law 636 = .ok (.invokevirtual 73, 3) := by decide +kernel
theorem dL_law_639 : decode cL_law 639 = .ok (.if_icmp .eq 583, 3) := by decide +kernel
theorem dL_law_642 : decode cL_law 642 = .ok (.iconst 0, 1) := by decide +kernel
theorem dL_law_643 : decode cL_law 643 = .ok (.ireturn, 1) := by decide +kernel
theorem dL_law_644 : decode cL_law 644 = .ok (.aload_n 1, 1) := by decide +kernel
theorem dL_law_645 : decode cL_law 645 = .ok (.aload_n 0, 1) := by decide +kernel
theorem dL_law_646 : decode cL_law 646 = .ok (.iload_n 3, 1) := by decide +kernel
theorem dL_law_647 : decode cL_law 647 = .ok (.iconst 1, 1) := by decide +kernel
theorem dL_law_648 : decode cL_law 648 = .ok (.iadd, 1) := by decide +kernel
theorem dL_law_649 : decode cL_law 649 = .ok (.iaload, 1) := by decide +kernel
theorem dL_law_650 : decode cL_law 650 = .ok (.aload_n 0, 1) := by decide +kernel
theorem dL_law_651 : decode cL_law 651 = .ok (.iload_n 3, 1) := by decide +kernel
theorem dL_law_652 : decode cL_law 652 = .ok (.iconst 2, 1) := by decide +kernel
theorem dL_law_653 : decode cL_law 653 = .ok (.iadd, 1) := by decide +kernel
theorem dL_law_654 : decode cL_law 654 = .ok (.iaload, 1) := by decide +kernel
theorem dL_law_655 : decode cL_law 655 = .ok (.invokevirtual 74, 3) := by decide +kernel
theorem dL_law_658 : decode cL_law 658 = .ok (.aload_n 2, 1) := by decide +kernel
theorem dL_law_659 : decode cL_law 659 = .ok (.aload_n 0, 1) := by decide +kernel
theorem dL_law_660 : decode cL_law 660 = .ok (.iload_n 3, 1) := by decide +kernel
theorem dL_law_661 : decode cL_law 661 = .ok (.iconst 1, 1) := by decide +kernel
theorem dL_law_662 : decode cL_law 662 = .ok (.iadd, 1) := by decide +kernel
theorem dL_law_663 : decode cL_law 663 = .ok (.iaload, 1) := by decide +kernel
theorem dL_law_664 : decode cL_law 664 = .ok (.aload_n 0, 1) := by decide +kernel
theorem dL_law_665 : decode cL_law 665 = .ok (.iload_n 3, 1) := by decide +kernel
theorem dL_law_666 : decode cL_law 666 = .ok (.iconst 2, 1) := by decide +kernel
theorem dL_law_667 : decode cL_law 667 = .ok (.iadd, 1) := by decide +kernel
theorem dL_law_668 : decode cL_law 668 = .ok (.iaload, 1) := by decide +kernel
theorem dL_law_669 : decode cL_law 669 = .ok (.invokevirtual 77, 3) := by decide +kernel
theorem dL_law_672 : decode cL_law 672 = .ok (.if_icmp .eq 550, 3) := by decide +kernel
theorem dL_law_675 : decode cL_law 675 = .ok (.iconst 0, 1) := by decide +kernel
theorem dL_law_676 : decode cL_law 676 = .ok (.ireturn, 1) := by decide +kernel
theorem dL_law_677 : decode cL_law 677 = .ok (.aload_n 1, 1) := by decide +kernel
theorem dL_law_678 : decode cL_law 678 = .ok (.invokevirtual 78, 3) := by decide +kernel
theorem dL_law_681 : decode cL_law 681 = .ok (.aload_n 2, 1) := by decide +kernel
theorem dL_law_682 : decode cL_law 682 = .ok (.invokevirtual 82, 3) := by decide +kernel
theorem dL_law_685 : decode cL_law 685 = .ok (.lcmp, 1) := by decide +kernel
theorem dL_law_686 : decode cL_law 686 = .ok (.ifCond .eq 536, 3) := by decide +kernel
theorem dL_law_689 : decode cL_law 689 = .ok (.iconst 0, 1) := by decide +kernel
theorem dL_law_690 : decode cL_law 690 = .ok (.ireturn, 1) := by decide +kernel
theorem dL_law_691 : decode cL_law 691 = .ok (.aload_n 1, 1) := by decide +kernel
theorem dL_law_692 : decode cL_law 692 = .ok (.aload_n 0, 1) := by decide +kernel
theorem dL_law_693 : decode cL_law 693 = .ok (.iload_n 3, 1) := by decide +kernel
theorem dL_law_694 : decode cL_law 694 = .ok (.iconst 1, 1) := by decide +kernel
theorem dL_law_695 : decode cL_law 695 = .ok (.iadd, 1) := by decide +kernel
theorem dL_law_696 : decode cL_law 696 = .ok (.iaload, 1) := by decide +kernel
theorem dL_law_697 : decode cL_law 697 = .ok (.i2l, 1) := by decide +kernel
theorem dL_law_698 : decode cL_law 698 = .ok (.bipush 32, 2) := by decide +kernel
theorem dL_law_700 : decode cL_law 700 = .ok (.lshl, 1) := by decide +kernel
theorem dL_law_701 : decode cL_law 701 = .ok (.aload_n 0, 1) := by decide +kernel
theorem dL_law_702 : decode cL_law 702 = .ok (.iload_n 3, 1) := by decide +kernel
theorem dL_law_703 : decode cL_law 703 = .ok (.iconst 2, 1) := by decide +kernel
theorem dL_law_704 : decode cL_law 704 = .ok (.iadd, 1) := by decide +kernel
theorem dL_law_705 : decode cL_law 705 = .ok (.iaload, 1) := by decide +kernel
theorem dL_law_706 : decode cL_law 706 = .ok (.i2l, 1) := by decide +kernel
theorem dL_law_707 : decode cL_law 707 = .ok (.ldc2_w 83, 3) := by decide +kernel
theorem dL_law_710 : decode cL_law 710 = .ok (.land, 1) := by decide +kernel
theorem dL_law_711 : decode cL_law 711 = .ok (.lor, 1) := by decide +kernel
theorem dL_law_712 : decode cL_law 712 = .ok (.aload_n 0, 1) := by decide +kernel
theorem dL_law_713 : decode cL_law 713 = .ok (.iload_n 3, 1) := by decide +kernel
theorem dL_law_714 : decode cL_law 714 = .ok (.iconst 3, 1) := by decide +kernel
theorem dL_law_715 : decode cL_law 715 = .ok (.iadd, 1) := by decide +kernel
theorem dL_law_716 : decode cL_law 716 = .ok (.iaload, 1) := by decide +kernel
theorem dL_law_717 : decode cL_law 717 = .ok (.invokevirtual 85, 3) := by decide +kernel
theorem dL_law_720 : decode cL_law 720 = .ok (.aload_n 2, 1) := by decide +kernel
theorem dL_law_721 : decode cL_law 721 = .ok (.aload_n 0, 1) := by decide +kernel
theorem dL_law_722 : decode cL_law 722 = .ok (.iload_n 3, 1) := by decide +kernel
theorem dL_law_723 : decode cL_law 723 = .ok (.iconst 1, 1) := by decide +kernel
theorem dL_law_724 : decode cL_law 724 = .ok (.iadd, 1) := by decide +kernel
theorem dL_law_725 : decode cL_law 725 = .ok (.iaload, 1) := by decide +kernel
theorem dL_law_726 : decode cL_law 726 = .ok (.i2l, 1) := by decide +kernel
theorem dL_law_727 : decode cL_law 727 = .ok (.bipush 32, 2) := by decide +kernel
theorem dL_law_729 : decode cL_law 729 = .ok (.lshl, 1) := by decide +kernel
theorem dL_law_730 : decode cL_law 730 = .ok (.aload_n 0, 1) := by decide +kernel
theorem dL_law_731 : decode cL_law 731 = .ok (.iload_n 3, 1) := by decide +kernel
theorem dL_law_732 : decode cL_law 732 = .ok (.iconst 2, 1) := by decide +kernel
theorem dL_law_733 : decode cL_law 733 = .ok (.iadd, 1) := by decide +kernel
theorem dL_law_734 : decode cL_law 734 = .ok (.iaload, 1) := by decide +kernel
theorem dL_law_735 : decode cL_law 735 = .ok (.i2l, 1) := by decide +kernel
theorem dL_law_736 : decode cL_law 736 = .ok (.ldc2_w 83, 3) := by decide +kernel
theorem dL_law_739 : decode cL_law 739 = .ok (.land, 1) := by decide +kernel
theorem dL_law_740 : decode cL_law 740 = .ok (.lor, 1) := by decide +kernel
theorem dL_law_741 : decode cL_law 741 = .ok (.aload_n 0, 1) := by decide +kernel
theorem dL_law_742 : decode cL_law 742 = .ok (.iload_n 3, 1) := by decide +kernel
theorem dL_law_743 : decode cL_law 743 = .ok (.iconst 3, 1) := by decide +kernel
theorem dL_law_744 : decode cL_law 744 = .ok (.iadd, 1) := by decide +kernel
theorem dL_law_745 : decode cL_law 745 = .ok (.iaload, 1) := by decide +kernel
theorem dL_law_746 : decode cL_law 746 = .ok (.invokevirtual 89, 3) := by decide +kernel
theorem dL_law_749 : decode cL_law 749 = .ok (.if_icmp .eq 473, 3) := by decide +kernel
theorem dL_law_752 : decode cL_law 752 = .ok (.iconst 0, 1) := by decide +kernel
theorem dL_law_753 : decode cL_law 753 = .ok (.ireturn, 1) := by decide +kernel
theorem dL_law_754 : decode cL_law 754 = .ok (.aload_n 1, 1) := by decide +kernel
theorem dL_law_755 : decode cL_law 755 = .ok (.aload_n 0, 1) := by decide +kernel
theorem dL_law_756 : decode cL_law 756 = .ok (.iload_n 3, 1) := by decide +kernel
theorem dL_law_757 : decode cL_law 757 = .ok (.iconst 1, 1) := by decide +kernel
theorem dL_law_758 : decode cL_law 758 = .ok (.iadd, 1) := by decide +kernel
theorem dL_law_759 : decode cL_law 759 = .ok (.iaload, 1) := by decide +kernel
theorem dL_law_760 : decode cL_law 760 = .ok (.invokevirtual 90, 3) := by decide +kernel
theorem dL_law_763 : decode cL_law 763 = .ok (.aload_n 2, 1) := by decide +kernel
theorem dL_law_764 : decode cL_law 764 = .ok (.aload_n 0, 1) := by decide +kernel
theorem dL_law_765 : decode cL_law 765 = .ok (.iload_n 3, 1) := by decide +kernel
theorem dL_law_766 : decode cL_law 766 = .ok (.iconst 1, 1) := by decide +kernel
theorem dL_law_767 : decode cL_law 767 = .ok (.iadd, 1) := by decide +kernel
theorem dL_law_768 : decode cL_law 768 = .ok (.iaload, 1) := by decide +kernel
theorem dL_law_769 : decode cL_law 769 = .ok (.invokevirtual 93, 3) := by decide +kernel
theorem dL_law_772 : decode cL_law 772 = .ok (.if_icmp .eq 450, 3) := by decide +kernel
theorem dL_law_775 : decode cL_law 775 = .ok (.iconst 0, 1) := by decide +kernel
theorem dL_law_776 : decode cL_law 776 = .ok (.ireturn, 1) := by decide +kernel
theorem dL_law_777 : decode cL_law 777 = .ok (.aload_n 1, 1) := by decide +kernel
theorem dL_law_778 : decode cL_law 778 = .ok (.aload_n 0, 1) := by decide +kernel
theorem dL_law_779 : decode cL_law 779 = .ok (.iload_n 3, 1) := by decide +kernel
theorem dL_law_780 : decode cL_law 780 = .ok (.iconst 1, 1) := by decide +kernel
theorem dL_law_781 : decode cL_law 781 = .ok (.iadd, 1) := by decide +kernel
theorem dL_law_782 : decode cL_law 782 = .ok (.iaload, 1) := by decide +kernel
theorem dL_law_783 : decode cL_law 783 = .ok (.aload_n 0, 1) := by decide +kernel
theorem dL_law_784 : decode cL_law 784 = .ok (.iload_n 3, 1) := by decide +kernel
theorem dL_law_785 : decode cL_law 785 = .ok (.iconst 2, 1) := by decide +kernel
theorem dL_law_786 : decode cL_law 786 = .ok (.iadd, 1) := by decide +kernel
theorem dL_law_787 : decode cL_law 787 = .ok (.iaload, 1) := by decide +kernel
theorem dL_law_788 : decode cL_law 788 = .ok (.aload_n 0, 1) := by decide +kernel
theorem dL_law_789 : decode cL_law 789 = .ok (.iload_n 3, 1) := by decide +kernel
theorem dL_law_790 : decode cL_law 790 = .ok (.iconst 3, 1) := by decide +kernel
theorem dL_law_791 : decode cL_law 791 = .ok (.iadd, 1) := by decide +kernel
theorem dL_law_792 : decode cL_law 792 = .ok (.iaload, 1) := by decide +kernel
theorem dL_law_793 : decode cL_law 793 = .ok (.invokevirtual 94, 3) := by decide +kernel
theorem dL_law_796 : decode cL_law 796 = .ok (.aload_n 2, 1) := by decide +kernel
theorem dL_law_797 : decode cL_law 797 = .ok (.aload_n 0, 1) := by decide +kernel
theorem dL_law_798 : decode cL_law 798 = .ok (.iload_n 3, 1) := by decide +kernel
theorem dL_law_799 : decode cL_law 799 = .ok (.iconst 1, 1) := by decide +kernel
theorem dL_law_800 : decode cL_law 800 = .ok (.iadd, 1) := by decide +kernel
theorem dL_law_801 : decode cL_law 801 = .ok (.iaload, 1) := by decide +kernel
theorem dL_law_802 : decode cL_law 802 = .ok (.aload_n 0, 1) := by decide +kernel
theorem dL_law_803 : decode cL_law 803 = .ok (.iload_n 3, 1) := by decide +kernel
theorem dL_law_804 : decode cL_law 804 = .ok (.iconst 2, 1) := by decide +kernel
theorem dL_law_805 : decode cL_law 805 = .ok (.iadd, 1) := by decide +kernel
theorem dL_law_806 : decode cL_law 806 = .ok (.iaload, 1) := by decide +kernel
theorem dL_law_807 : decode cL_law 807 = .ok (.aload_n 0, 1) := by decide +kernel
theorem dL_law_808 : decode cL_law 808 = .ok (.iload_n 3, 1) := by decide +kernel
theorem dL_law_809 : decode cL_law 809 = .ok (.iconst 3, 1) := by decide +kernel
theorem dL_law_810 : decode cL_law 810 = .ok (.iadd, 1) := by decide +kernel
theorem dL_law_811 : decode cL_law 811 = .ok (.iaload, 1) := by decide +kernel
theorem dL_law_812 : decode cL_law 812 = .ok (.invokevirtual 97, 3) := by decide +kernel
theorem dL_law_815 : decode cL_law 815 = .ok (.if_icmp .eq 407, 3) := by decide +kernel
theorem dL_law_818 : decode cL_law 818 = .ok (.iconst 0, 1) := by decide +kernel
theorem dL_law_819 : decode cL_law 819 = .ok (.ireturn, 1) := by decide +kernel
theorem dL_law_820 : decode cL_law 820 = .ok (.aload_n 1, 1) := by decide +kernel
theorem dL_law_821 : decode cL_law 821 = .ok (.aload_n 0, 1) := by decide +kernel
theorem dL_law_822 : decode cL_law 822 = .ok (.iload_n 3, 1) := by decide +kernel
theorem dL_law_823 : decode cL_law 823 = .ok (.iconst 1, 1) := by decide +kernel
theorem dL_law_824 : decode cL_law 824 = .ok (.iadd, 1) := by decide +kernel
theorem dL_law_825 : decode cL_law 825 = .ok (.iaload, 1) := by decide +kernel
theorem dL_law_826 : decode cL_law 826 = .ok (.invokevirtual 98, 3) := by decide +kernel
theorem dL_law_829 : decode cL_law 829 = .ok (.aload_n 2, 1) := by decide +kernel
theorem dL_law_830 : decode cL_law 830 = .ok (.aload_n 0, 1) := by decide +kernel
theorem dL_law_831 : decode cL_law 831 = .ok (.iload_n 3, 1) := by decide +kernel
theorem dL_law_832 : decode cL_law 832 = .ok (.iconst 1, 1) := by decide +kernel
theorem dL_law_833 : decode cL_law 833 = .ok (.iadd, 1) := by decide +kernel
theorem dL_law_834 : decode cL_law 834 = .ok (.iaload, 1) := by decide +kernel
theorem dL_law_835 : decode cL_law 835 = .ok (.invokevirtual 101, 3) := by decide +kernel
theorem dL_law_838 : decode cL_law 838 = .ok (.if_icmp .eq 384, 3) := by decide +kernel
theorem dL_law_841 : decode cL_law 841 = .ok (.iconst 0, 1) := by decide +kernel
theorem dL_law_842 : decode cL_law 842 = .ok (.ireturn, 1) := by decide +kernel
theorem dL_law_843 : decode cL_law 843 = .ok (.aload_n 1, 1) := by decide +kernel
theorem dL_law_844 : decode cL_law 844 = .ok (.invokevirtual 102, 3) := by decide +kernel
theorem dL_law_847 : decode cL_law 847 = .ok (.aload_n 2, 1) := by decide +kernel
theorem dL_law_848 : decode cL_law 848 = .ok (.invokevirtual 105, 3) := by decide +kernel
theorem dL_law_851 : decode cL_law 851 = .ok (.if_icmp .eq 371, 3) := by decide +kernel
theorem dL_law_854 : decode cL_law 854 = .ok (.iconst 0, 1) := by decide +kernel
theorem dL_law_855 : decode cL_law 855 = .ok (.ireturn, 1) := by decide +kernel
theorem dL_law_856 : decode cL_law 856 = .ok (.aload_n 1, 1) := by decide +kernel
theorem dL_law_857 : decode cL_law 857 = .ok (.aload_n 0, 1) := by decide +kernel
theorem dL_law_858 : decode cL_law 858 = .ok (.iload_n 3, 1) := by decide +kernel
theorem dL_law_859 : decode cL_law 859 = .ok (.iconst 1, 1) := by decide +kernel
theorem dL_law_860 : decode cL_law 860 = .ok (.iadd, 1) := by decide +kernel
theorem dL_law_861 : decode cL_law 861 = .ok (.iaload, 1) := by decide +kernel
theorem dL_law_862 : decode cL_law 862 = .ok (.invokevirtual 106, 3) := by decide +kernel
theorem dL_law_865 : decode cL_law 865 = .ok (.aload_n 2, 1) := by decide +kernel
theorem dL_law_866 : decode cL_law 866 = .ok (.aload_n 0, 1) := by decide +kernel
theorem dL_law_867 : decode cL_law 867 = .ok (.iload_n 3, 1) := by decide +kernel
theorem dL_law_868 : decode cL_law 868 = .ok (.iconst 1, 1) := by decide +kernel
theorem dL_law_869 : decode cL_law 869 = .ok (.iadd, 1) := by decide +kernel
theorem dL_law_870 : decode cL_law 870 = .ok (.iaload, 1) := by decide +kernel
theorem dL_law_871 : decode cL_law 871 = .ok (.invokevirtual 109, 3) := by decide +kernel
theorem dL_law_874 : decode cL_law 874 = .ok (.if_icmp .eq 348, 3) := by decide +kernel
theorem dL_law_877 : decode cL_law 877 = .ok (.iconst 0, 1) := by decide +kernel
theorem dL_law_878 : decode cL_law 878 = .ok (.ireturn, 1) := by decide +kernel
theorem dL_law_879 : decode cL_law 879 = .ok (.aload_n 1, 1) := by decide +kernel
theorem dL_law_880 : decode cL_law 880 = .ok (.aload_n 0, 1) := by decide +kernel
theorem dL_law_881 : decode cL_law 881 = .ok (.iload_n 3, 1) := by decide +kernel
theorem dL_law_882 : decode cL_law 882 = .ok (.iconst 1, 1) := by decide +kernel
theorem dL_law_883 : decode cL_law 883 = .ok (.iadd, 1) := by decide +kernel
theorem dL_law_884 : decode cL_law 884 = .ok (.iaload, 1) := by decide +kernel
theorem dL_law_885 : decode cL_law 885 = .ok (.aload_n 0, 1) := by decide +kernel
theorem dL_law_886 : decode cL_law 886 = .ok (.iload_n 3, 1) := by decide +kernel
theorem dL_law_887 : decode cL_law 887 = .ok (.iconst 2, 1) := by decide +kernel
theorem dL_law_888 : decode cL_law 888 = .ok (.iadd, 1) := by decide +kernel
theorem dL_law_889 : decode cL_law 889 = .ok (.iaload, 1) := by decide +kernel
theorem dL_law_890 : decode cL_law 890 = .ok (.invokevirtual 110, 3) := by decide +kernel
theorem dL_law_893 : decode cL_law 893 = .ok (.aload_n 2, 1) := by decide +kernel
theorem dL_law_894 : decode cL_law 894 = .ok (.aload_n 0, 1) := by decide +kernel
theorem dL_law_895 : decode cL_law 895 = .ok (.iload_n 3, 1) := by decide +kernel
theorem dL_law_896 : decode cL_law 896 = .ok (.iconst 1, 1) := by decide +kernel
theorem dL_law_897 : decode cL_law 897 = .ok (.iadd, 1) := by decide +kernel
theorem dL_law_898 : decode cL_law 898 = .ok (.iaload, 1) := by decide +kernel
theorem dL_law_899 : decode cL_law 899 = .ok (.aload_n 0, 1) := by decide +kernel
theorem dL_law_900 : decode cL_law 900 = .ok (.iload_n 3, 1) := by decide +kernel
theorem dL_law_901 : decode cL_law 901 = .ok (.iconst 2, 1) := by decide +kernel
theorem dL_law_902 : decode cL_law 902 = .ok (.iadd, 1) := by decide +kernel
theorem dL_law_903 : decode cL_law 903 = .ok (.iaload, 1) := by decide +kernel
theorem dL_law_904 : decode cL_law 904 = .ok (.invokevirtual 113, 3) := by decide +kernel
theorem dL_law_907 : decode cL_law 907 = .ok (.if_icmp .eq 315, 3) := by decide +kernel
theorem dL_law_910 : decode cL_law 910 = .ok (.iconst 0, 1) := by decide +kernel
theorem dL_law_911 : decode cL_law 911 = .ok (.ireturn, 1) := by decide +kernel
theorem dL_law_912 : decode cL_law 912 = .ok (.aload_n 1, 1) := by decide +kernel
theorem dL_law_913 : decode cL_law 913 = .ok (.invokevirtual 114, 3) := by decide +kernel
end
section
theorem dL_law_916 : decode cL_law 916 = .ok (.aload_n 2, 1) := by decide +kernel
theorem dL_law_917 : decode cL_law 917 = .ok (.invokevirtual 117, 3) := by decide +kernel
theorem dL_law_920 : decode cL_law 920 = .ok (.if_icmp .eq 302, 3) := by decide +kernel
theorem dL_law_923 : decode cL_law 923 = .ok (.iconst 0, 1) := by decide +kernel
theorem dL_law_924 : decode cL_law 924 = .ok (.ireturn, 1) := by decide +kernel
theorem dL_law_925 : decode cL_law 925 = .ok (.aload_n 1, 1) := by decide +kernel
theorem dL_law_926 : decode cL_law 926 = .ok (.aload_n 0, 1) := by decide +kernel
theorem dL_law_927 : decode cL_law 927 = .ok (.iload_n 3, 1) := by decide +kernel
theorem dL_law_928 : decode cL_law 928 = .ok (.iconst 1, 1) := by decide +kernel
theorem dL_law_929 : decode cL_law 929 = .ok (.iadd, 1) := by decide +kernel
theorem dL_law_930 : decode cL_law 930 = .ok (.iaload, 1) := by decide +kernel
theorem dL_law_931 : decode cL_law 931 = .ok (.invokevirtual 118, 3) := by decide +kernel
theorem dL_law_934 : decode cL_law 934 = .ok (.aload_n 2, 1) := by decide +kernel
theorem dL_law_935 : decode cL_law 935 = .ok (.aload_n 0, 1) := by decide +kernel
theorem dL_law_936 : decode cL_law 936 = .ok (.iload_n 3, 1) := by decide +kernel
theorem dL_law_937 : decode cL_law 937 = .ok (.iconst 1, 1) := by decide +kernel
theorem dL_law_938 : decode cL_law 938 = .ok (.iadd, 1) := by decide +kernel
theorem dL_law_939 : decode cL_law 939 = .ok (.iaload, 1) := by decide +kernel
theorem dL_law_940 : decode cL_law 940 = .ok (.invokevirtual 121, 3) := by decide +kernel
theorem dL_law_943 : decode cL_law 943 = .ok (.if_icmp .eq 279, 3) := by decide +kernel
theorem dL_law_946 : decode cL_law 946 = .ok (.iconst 0, 1) := by decide +kernel
theorem dL_law_947 : decode cL_law 947 = .ok (.ireturn, 1) := by decide +kernel
theorem dL_law_948 : decode cL_law 948 = .ok (.aload_n 1, 1) := by decide +kernel
theorem dL_law_949 : decode cL_law 949 = .ok (.aload_n 0, 1) := by decide +kernel
theorem dL_law_950 : decode cL_law 950 = .ok (.iload_n 3, 1) := by decide +kernel
theorem dL_law_951 : decode cL_law 951 = .ok (.iconst 1, 1) := by decide +kernel
theorem dL_law_952 : decode cL_law 952 = .ok (.iadd, 1) := by decide +kernel
theorem dL_law_953 : decode cL_law 953 = .ok (.iaload, 1) := by decide +kernel
theorem dL_law_954 : decode cL_law 954 = .ok (.invokevirtual 122, 3) := by decide +kernel
theorem dL_law_957 : decode cL_law 957 = .ok (.aload_n 2, 1) := by decide +kernel
theorem dL_law_958 : decode cL_law 958 = .ok (.aload_n 0, 1) := by decide +kernel
theorem dL_law_959 : decode cL_law 959 = .ok (.iload_n 3, 1) := by decide +kernel
theorem dL_law_960 : decode cL_law 960 = .ok (.iconst 1, 1) := by decide +kernel
theorem dL_law_961 : decode cL_law 961 = .ok (.iadd, 1) := by decide +kernel
theorem dL_law_962 : decode cL_law 962 = .ok (.iaload, 1) := by decide +kernel
theorem dL_law_963 : decode cL_law 963 = .ok (.invokevirtual 125, 3) := by decide +kernel
theorem dL_law_966 : decode cL_law 966 = .ok (.if_icmp .eq 256, 3) := by decide +kernel
theorem dL_law_969 : decode cL_law 969 = .ok (.iconst 0, 1) := by decide +kernel
theorem dL_law_970 : decode cL_law 970 = .ok (.ireturn, 1) := by decide +kernel
theorem dL_law_971 : decode cL_law 971 = .ok (.aload_n 1, 1) := by decide +kernel
theorem dL_law_972 : decode cL_law 972 = .ok (.aload_n 0, 1) := by decide +kernel
theorem dL_law_973 : decode cL_law 973 = .ok (.iload_n 3, 1) := by decide +kernel
theorem dL_law_974 : decode cL_law 974 = .ok (.iconst 1, 1) := by decide +kernel
theorem dL_law_975 : decode cL_law 975 = .ok (.iadd, 1) := by decide +kernel
theorem dL_law_976 : decode cL_law 976 = .ok (.iaload, 1) := by decide +kernel
theorem dL_law_977 : decode cL_law 977 = .ok (.invokevirtual 126, 3) := by decide +kernel
theorem dL_law_980 : decode cL_law 980 = .ok (.aload_n 2, 1) := by decide +kernel
theorem dL_law_981 : decode cL_law 981 = .ok (.aload_n 0, 1) := by decide +kernel
theorem dL_law_982 : decode cL_law 982 = .ok (.iload_n 3, 1) := by decide +kernel
theorem dL_law_983 : decode cL_law 983 = .ok (.iconst 1, 1) := by decide +kernel
theorem dL_law_984 : decode cL_law 984 = .ok (.iadd, 1) := by decide +kernel
theorem dL_law_985 : decode cL_law 985 = .ok (.iaload, 1) := by decide +kernel
theorem dL_law_986 : decode cL_law 986 = .ok (.invokevirtual 129, 3) := by decide +kernel
theorem dL_law_989 : decode cL_law 989 = .ok (.if_icmp .eq 233, 3) := by decide +kernel
theorem dL_law_992 : decode cL_law 992 = .ok (.iconst 0, 1) := by decide +kernel
theorem dL_law_993 : decode cL_law 993 = .ok (.ireturn, 1) := by decide +kernel
theorem dL_law_994 : decode cL_law 994 = .ok (.aload_n 1, 1) := by decide +kernel
theorem dL_law_995 : decode cL_law 995 = .ok (.aload_n 0, 1) := by decide +kernel
theorem dL_law_996 : decode cL_law 996 = .ok (.iload_n 3, 1) := by decide +kernel
theorem dL_law_997 : decode cL_law 997 = .ok (.iconst 1, 1) := by decide +kernel
theorem dL_law_998 : decode cL_law 998 = .ok (.iadd, 1) := by decide +kernel
theorem dL_law_999 : decode cL_law 999 = .ok (.iaload, 1) := by decide +kernel
theorem dL_law_1000 : decode cL_law 1000 = .ok (.invokevirtual 130, 3) := by decide +kernel
theorem dL_law_1003 : decode cL_law 1003 = .ok (.aload_n 2, 1) := by decide +kernel
theorem dL_law_1004 : decode cL_law 1004 = .ok (.aload_n 0, 1) := by decide +kernel
theorem dL_law_1005 : decode cL_law 1005 = .ok (.iload_n 3, 1) := by decide +kernel
theorem dL_law_1006 : decode cL_law 1006 = .ok (.iconst 1, 1) := by decide +kernel
theorem dL_law_1007 : decode cL_law 1007 = .ok (.iadd, 1) := by decide +kernel
theorem dL_law_1008 : decode cL_law 1008 = .ok (.iaload, 1) := by decide +kernel
theorem dL_law_1009 : decode cL_law 1009 = .ok (.invokevirtual 133, 3) := by decide +kernel
theorem dL_law_1012 : decode cL_law 1012 = .ok (.if_icmp .eq 210, 3) := by decide +kernel
theorem dL_law_1015 : decode cL_law 1015 = .ok (.iconst 0, 1) := by decide +kernel
theorem dL_law_1016 : decode cL_law 1016 = .ok (.ireturn, 1) := by decide +kernel
theorem dL_law_1017 : decode cL_law 1017 = .ok (.aload_n 1, 1) := by decide +kernel
theorem dL_law_1018 : decode cL_law 1018 = .ok (.aload_n 0, 1) := by decide +kernel
theorem dL_law_1019 : decode cL_law 1019 = .ok (.iload_n 3, 1) := by decide +kernel
theorem dL_law_1020 : decode cL_law 1020 = .ok (.iconst 1, 1) := by decide +kernel
theorem dL_law_1021 : decode cL_law 1021 = .ok (.iadd, 1) := by decide +kernel
theorem dL_law_1022 : decode cL_law 1022 = .ok (.iaload, 1) := by decide +kernel
theorem dL_law_1023 : decode cL_law 1023 = .ok (.aload_n 0, 1) := by decide +kernel
theorem dL_law_1024 : decode cL_law 1024 = .ok (.iload_n 3, 1) := by decide +kernel
theorem dL_law_1025 : decode cL_law 1025 = .ok (.iconst 2, 1) := by decide +kernel
theorem dL_law_1026 : decode cL_law 1026 = .ok (.iadd, 1) := by decide +kernel
theorem dL_law_1027 : decode cL_law 1027 = .ok (.iaload, 1) := by decide +kernel
theorem dL_law_1028 : decode cL_law 1028 = .ok (.invokevirtual 134, 3) := by decide +kernel
theorem dL_law_1031 : decode cL_law 1031 = .ok (.aload_n 2, 1) := by decide +kernel
theorem dL_law_1032 : decode cL_law 1032 = .ok (.aload_n 0, 1) := by decide +kernel
theorem dL_law_1033 : decode cL_law 1033 = .ok (.iload_n 3, 1) := by decide +kernel
theorem dL_law_1034 : decode cL_law 1034 = .ok (.iconst 1, 1) := by decide +kernel
theorem dL_law_1035 : decode cL_law 1035 = .ok (.iadd, 1) := by decide +kernel
theorem dL_law_1036 : decode cL_law 1036 = .ok (.iaload, 1) := by decide +kernel
theorem dL_law_1037 : decode cL_law 1037 = .ok (.aload_n 0, 1) := by decide +kernel
theorem dL_law_1038 : decode cL_law 1038 = .ok (.iload_n 3, 1) := by decide +kernel
theorem dL_law_1039 : decode cL_law 1039 = .ok (.iconst 2, 1) := by decide +kernel
theorem dL_law_1040 : decode cL_law 1040 = .ok (.iadd, 1) := by decide +kernel
theorem dL_law_1041 : decode cL_law 1041 = .ok (.iaload, 1) := by decide +kernel
theorem dL_law_1042 : decode cL_law 1042 = .ok (.invokevirtual 137, 3) := by decide +kernel
theorem dL_law_1045 : decode cL_law 1045 = .ok (.if_icmp .eq 177, 3) := by decide +kernel
theorem dL_law_1048 : decode cL_law 1048 = .ok (.iconst 0, 1) := by decide +kernel
theorem dL_law_1049 : decode cL_law 1049 = .ok (.ireturn, 1) := by decide +kernel
theorem dL_law_1050 : decode cL_law 1050 = .ok (.aload_n 1, 1) := by decide +kernel
theorem dL_law_1051 : decode cL_law 1051 = .ok (.aload_n 0, 1) := by decide +kernel
theorem dL_law_1052 : decode cL_law 1052 = .ok (.iload_n 3, 1) := by decide +kernel
theorem dL_law_1053 : decode cL_law 1053 = .ok (.iconst 1, 1) := by decide +kernel
theorem dL_law_1054 : decode cL_law 1054 = .ok (.iadd, 1) := by decide +kernel
theorem dL_law_1055 : decode cL_law 1055 = .ok (.iaload, 1) := by decide +kernel
theorem dL_law_1056 : decode cL_law 1056 = .ok (.invokevirtual 138, 3) := by decide +kernel
theorem dL_law_1059 : decode cL_law 1059 = .ok (.aload_n 2, 1) := by decide +kernel
theorem dL_law_1060 : decode cL_law 1060 = .ok (.aload_n 0, 1) := by decide +kernel
theorem dL_law_1061 : decode cL_law 1061 = .ok (.iload_n 3, 1) := by decide +kernel
theorem dL_law_1062 : decode cL_law 1062 = .ok (.iconst 1, 1) := by decide +kernel
theorem dL_law_1063 : decode cL_law 1063 = .ok (.iadd, 1) := by decide +kernel
theorem dL_law_1064 : decode cL_law 1064 = .ok (.iaload, 1) := by decide +kernel
theorem dL_law_1065 : decode cL_law 1065 = .ok (.invokevirtual 142, 3) := by decide +kernel
theorem dL_law_1068 : decode cL_law 1068 = .ok (.lcmp, 1) := by decide +kernel
theorem dL_law_1069 : decode cL_law 1069 = .ok (.ifCond .eq 153, 3) := by decide +kernel
theorem dL_law_1072 : decode cL_law 1072 = .ok (.iconst 0, 1) := by decide +kernel
theorem dL_law_1073 : decode cL_law 1073 = .ok (.ireturn, 1) := by decide +kernel
theorem dL_law_1074 : decode cL_law 1074 = .ok (.aload_n 1, 1) := by decide +kernel
theorem dL_law_1075 : decode cL_law 1075 = .ok (.aload_n 0, 1) := by decide +kernel
theorem dL_law_1076 : decode cL_law 1076 = .ok (.iload_n 3, 1) := by decide +kernel
theorem dL_law_1077 : decode cL_law 1077 = .ok (.iconst 1, 1) := by decide +kernel
theorem dL_law_1078 : decode cL_law 1078 = .ok (.iadd, 1) := by decide +kernel
theorem dL_law_1079 : decode cL_law 1079 = .ok (.iaload, 1) := by decide +kernel
theorem dL_law_1080 : decode cL_law 1080 = .ok (.aload_n 0, 1) := by decide +kernel
theorem dL_law_1081 : decode cL_law 1081 = .ok (.iload_n 3, 1) := by decide +kernel
theorem dL_law_1082 : decode cL_law 1082 = .ok (.iconst 2, 1) := by decide +kernel
theorem dL_law_1083 : decode cL_law 1083 = .ok (.iadd, 1) := by decide +kernel
theorem dL_law_1084 : decode cL_law 1084 = .ok (.iaload, 1) := by decide +kernel
theorem dL_law_1085 : decode cL_law 1085 = .ok (.invokevirtual 143, 3) := by decide +kernel
theorem dL_law_1088 : decode cL_law 1088 = .ok (.aload_n 2, 1) := by decide +kernel
theorem dL_law_1089 : decode cL_law 1089 = .ok (.aload_n 0, 1) := by decide +kernel
theorem dL_law_1090 : decode cL_law 1090 = .ok (.iload_n 3, 1) := by decide +kernel
theorem dL_law_1091 : decode cL_law 1091 = .ok (.iconst 1, 1) := by decide +kernel
theorem dL_law_1092 : decode cL_law 1092 = .ok (.iadd, 1) := by decide +kernel
theorem dL_law_1093 : decode cL_law 1093 = .ok (.iaload, 1) := by decide +kernel
theorem dL_law_1094 : decode cL_law 1094 = .ok (.aload_n 0, 1) := by decide +kernel
theorem dL_law_1095 : decode cL_law 1095 = .ok (.iload_n 3, 1) := by decide +kernel
theorem dL_law_1096 : decode cL_law 1096 = .ok (.iconst 2, 1) := by decide +kernel
theorem dL_law_1097 : decode cL_law 1097 = .ok (.iadd, 1) := by decide +kernel
theorem dL_law_1098 : decode cL_law 1098 = .ok (.iaload, 1) := by decide +kernel
theorem dL_law_1099 : decode cL_law 1099 = .ok (.invokevirtual 146, 3) := by decide +kernel
theorem dL_law_1102 : decode cL_law 1102 = .ok (.if_icmp .eq 120, 3) := by decide +kernel
theorem dL_law_1105 : decode cL_law 1105 = .ok (.iconst 0, 1) := by decide +kernel
theorem dL_law_1106 : decode cL_law 1106 = .ok (.ireturn, 1) := by decide +kernel
theorem dL_law_1107 : decode cL_law 1107 = .ok (.aload_n 1, 1) := by decide +kernel
theorem dL_law_1108 : decode cL_law 1108 = .ok (.aload_n 0, 1) := by decide +kernel
theorem dL_law_1109 : decode cL_law 1109 = .ok (.iload_n 3, 1) := by decide +kernel
theorem dL_law_1110 : decode cL_law 1110 = .ok (.iconst 1, 1) := by decide +kernel
theorem dL_law_1111 : decode cL_law 1111 = .ok (.iadd, 1) := by decide +kernel
theorem dL_law_1112 : decode cL_law 1112 = .ok (.iaload, 1) := by decide +kernel
theorem dL_law_1113 : decode cL_law 1113 = .ok (.aload_n 0, 1) := by decide +kernel
theorem dL_law_1114 : decode cL_law 1114 = .ok (.iload_n 3, 1) := by decide +kernel
theorem dL_law_1115 : decode cL_law 1115 = .ok (.iconst 2, 1) := by decide +kernel
theorem dL_law_1116 : decode cL_law 1116 = .ok (.iadd, 1) := by decide +kernel
theorem dL_law_1117 : decode cL_law 1117 = .ok (.iaload, 1) := by decide +kernel
theorem dL_law_1118 : decode cL_law 1118 = .ok (.invokevirtual 147, 3) := by decide +kernel
theorem dL_law_1121 : decode cL_law 1121 = .ok (.aload_n 2, 1) := by decide +kernel
theorem dL_law_1122 : decode cL_law 1122 = .ok (.aload_n 0, 1) := by decide +kernel
theorem dL_law_1123 : decode cL_law 1123 = .ok (.iload_n 3, 1) := by decide +kernel
theorem dL_law_1124 : decode cL_law 1124 = .ok (.iconst 1, 1) := by decide +kernel
theorem dL_law_1125 : decode cL_law 1125 = .ok (.iadd, 1) := by decide +kernel
theorem dL_law_1126 : decode cL_law 1126 = .ok (.iaload, 1) := by decide +kernel
theorem dL_law_1127 : decode cL_law 1127 = .ok (.aload_n 0, 1) := by decide +kernel
theorem dL_law_1128 : decode cL_law 1128 = .ok (.iload_n 3, 1) := by decide +kernel
theorem dL_law_1129 : decode cL_law 1129 = .ok (.iconst 2, 1) := by decide +kernel
theorem dL_law_1130 : decode cL_law 1130 = .ok (.iadd, 1) := by decide +kernel
theorem dL_law_1131 : decode cL_law 1131 = .ok (.iaload, 1) := by decide +kernel
theorem dL_law_1132 : decode cL_law 1132 = .ok (.invokevirtual 150, 3) := by decide +kernel
theorem dL_law_1135 : decode cL_law 1135 = .ok (.if_icmp .eq 87, 3) := by decide +kernel
theorem dL_law_1138 : decode cL_law 1138 = .ok (.iconst 0, 1) := by decide +kernel
theorem dL_law_1139 : decode cL_law 1139 = .ok (.ireturn, 1) := by decide +kernel
theorem dL_law_1140 : decode cL_law 1140 = .ok (.aload_n 1, 1) := by decide +kernel
theorem dL_law_1141 : decode cL_law 1141 = .ok (.aload_n 0, 1) := by decide +kernel
theorem dL_law_1142 : decode cL_law 1142 = .ok (.iload_n 3, 1) := by decide +kernel
theorem dL_law_1143 : decode cL_law 1143 = .ok (.iconst 1, 1) := by decide +kernel
theorem dL_law_1144 : decode cL_law 1144 = .ok (.iadd, 1) := by decide +kernel
theorem dL_law_1145 : decode cL_law 1145 = .ok (.iaload, 1) := by decide +kernel
theorem dL_law_1146 : decode cL_law 1146 = .ok (.invokevirtual 151, 3) := by decide +kernel
theorem dL_law_1149 : decode cL_law 1149 = .ok (.aload_n 2, 1) := by decide +kernel
theorem dL_law_1150 : decode cL_law 1150 = .ok (.aload_n 0, 1) := by decide +kernel
theorem dL_law_1151 : decode cL_law 1151 = .ok (.iload_n 3, 1) := by decide +kernel
theorem dL_law_1152 : decode cL_law 1152 = .ok (.iconst 1, 1) := by decide +kernel
theorem dL_law_1153 : decode cL_law 1153 = .ok (.iadd, 1) := by decide +kernel
theorem dL_law_1154 : decode cL_law 1154 = .ok (.iaload, 1) := by decide +kernel
theorem dL_law_1155 : decode cL_law 1155 = .ok (.invokevirtual 154, 3) := by decide +kernel
theorem dL_law_1158 : decode cL_law 1158 = .ok (.if_icmp .eq 64, 3) := by decide +kernel
theorem dL_law_1161 : decode cL_law 1161 = .ok (.iconst 0, 1) := by decide +kernel
theorem dL_law_1162 : decode cL_law 1162 = .ok (.ireturn, 1) := by decide +kernel
theorem dL_law_1163 : decode cL_law 1163 = .ok (.aload_n 1, 1) := by decide +kernel
theorem dL_law_1164 : decode cL_law 1164 = .ok (.invokevirtual 155, 3) := by decide +kernel
theorem dL_law_1167 : decode cL_law 1167 = .ok (.aload_n 2, 1) := by decide +kernel
theorem dL_law_1168 : decode cL_law 1168 = .ok (.invokevirtual 158, 3) := by decide +kernel
theorem dL_law_1171 : decode cL_law 1171 = .ok (.if_icmp .eq 51, 3) := by decide +kernel
theorem dL_law_1174 : decode cL_law 1174 = .ok (.iconst 0, 1) := by decide +kernel
theorem dL_law_1175 : decode cL_law 1175 = .ok (.ireturn, 1) := by decide +kernel
theorem dL_law_1176 : decode cL_law 1176 = .ok (.aload_n 1, 1) := by decide +kernel
theorem dL_law_1177 : decode cL_law 1177 = .ok (.aload_n 0, 1) := by decide +kernel
theorem dL_law_1178 : decode cL_law 1178 = .ok (.iload_n 3, 1) := by decide +kernel
theorem dL_law_1179 : decode cL_law 1179 = .ok (.iconst 1, 1) := by decide +kernel
theorem dL_law_1180 : decode cL_law 1180 = .ok (.iadd, 1) := by decide +kernel
theorem dL_law_1181 : decode cL_law 1181 = .ok (.iaload, 1) := by decide +kernel
theorem dL_law_1182 : decode cL_law 1182 = .ok (.invokevirtual 159, 3) := by decide +kernel
theorem dL_law_1185 : decode cL_law 1185 = .ok (.aload_n 2, 1) := by decide +kernel
theorem dL_law_1186 : decode cL_law 1186 = .ok (.aload_n 0, 1) := by decide +kernel
theorem dL_law_1187 : decode cL_law 1187 = .ok (.iload_n 3, 1) := by decide +kernel
theorem dL_law_1188 : decode cL_law 1188 = .ok (.iconst 1, 1) := by decide +kernel
theorem dL_law_1189 : decode cL_law 1189 = .ok (.iadd, 1) := by decide +kernel
theorem dL_law_1190 : decode cL_law 1190 = .ok (.iaload, 1) := by decide +kernel
theorem dL_law_1191 : decode cL_law 1191 = .ok (.invokevirtual 162, 3) := by decide +kernel
theorem dL_law_1194 : decode cL_law 1194 = .ok (.if_icmp .eq 28, 3) := by decide +kernel
theorem dL_law_1197 : decode cL_law 1197 = .ok (.iconst 0, 1) := by decide +kernel
theorem dL_law_1198 : decode cL_law 1198 = .ok (.ireturn, 1) := by decide +kernel
theorem dL_law_1199 : decode cL_law 1199 = .ok (.aload_n 1, 1) := by decide +kernel
theorem dL_law_1200 : decode cL_law 1200 = .ok (.aload_n 0, 1) := by decide +kernel
theorem dL_law_1201 : decode cL_law 1201 = .ok (.iload_n 3, 1) := by decide +kernel
theorem dL_law_1202 : decode cL_law 1202 = .ok (.iconst 1, 1) := by decide +kernel
theorem dL_law_1203 : decode cL_law 1203 = .ok (.iadd, 1) := by decide +kernel
theorem dL_law_1204 : decode cL_law 1204 = .ok (.iaload, 1) := by decide +kernel
theorem dL_law_1205 : decode cL_law 1205 = .ok (.invokevirtual 163, 3) := by decide +kernel
theorem dL_law_1208 : decode cL_law 1208 = .ok (.aload_n 2, 1) := by decide +kernel
theorem dL_law_1209 : decode cL_law 1209 = .ok (.aload_n 0, 1) := by decide +kernel
theorem dL_law_1210 : decode cL_law 1210 = .ok (.iload_n 3, 1) := by decide +kernel
theorem dL_law_1211 : decode cL_law 1211 = .ok (.iconst 1, 1) := by decide +kernel
theorem dL_law_1212 : decode cL_law 1212 = .ok (.iadd, 1) := by decide +kernel
theorem dL_law_1213 : decode cL_law 1213 = .ok (.iaload, 1) := by decide +kernel
theorem dL_law_1214 : decode cL_law 1214 = .ok (.invokevirtual 166, 3) := by decide +kernel
theorem dL_law_1217 : decode cL_law 1217 = .ok (.if_icmp .eq 5, 3) := by decide +kernel
theorem dL_law_1220 : decode cL_law 1220 = .ok (.iconst 0, 1) := by decide +kernel
theorem dL_law_1221 : decode cL_law 1221 = .ok (.ireturn, 1) := by decide +kernel
theorem dL_law_1222 : decode cL_law 1222 = .ok (.iinc 3 5, 3) := by decide +kernel
theorem dL_law_1225 : decode cL_law 1225 = .ok (.goto (-1207), 3) := by decide +kernel
theorem dL_law_1228 : decode cL_law 1228 = .ok (.iconst 1, 1) := by decide +kernel
theorem dL_law_1229 : decode cL_law 1229 = .ok (.ireturn, 1) := by decide +kernel
end
section
-- THE WORLD: the state's picture, its cells, and a row for each instruction over it (made by wip/gen/world.py)
abbrev pw_St : Type := (Nat → Nat → Int32) × (Nat → Nat → Int64)
abbrev pw_Gh : Type := (Nat → ClassId) × (Nat → Nat → Nat) × (Nat → Nat) × (ClassId × ClassId × ClassId × ClassId) × Nat × (Nat → Prop)
def pw_gD (G : pw_Gh) : va_G := (G.1, G.2.1)
def pw_ad (G : pw_Gh) : Nat → Nat := G.2.2.1
def pw_gI (G : pw_Gh) : ClassId := G.2.2.2.1.1
def pw_gJ (G : pw_Gh) : ClassId := G.2.2.2.1.2.1
def pw_gZ (G : pw_Gh) : ClassId := G.2.2.2.1.2.2.1
def pw_gF (G : pw_Gh) : ClassId := G.2.2.2.1.2.2.2
def pw_gw (G : pw_Gh) : Nat := G.2.2.2.2.1
def pw_gA (G : pw_Gh) : Nat → Prop := G.2.2.2.2.2
def pw_cell (G : pw_Gh) (k : Nat) (f : Nat → Int32) (g : Nat → Int64) : va_E := match k with
  | 0 => .inr (10, [.ref (pw_ad G 1), .ref (pw_ad G 3), .ref (pw_ad G 4), .ref (pw_ad G 5), .ref (pw_ad G 6), .ref (pw_ad G 7), .ref (pw_ad G 8), .ref (pw_ad G 9), .int (f 8)])
  | 1 => .inr (2, [.ref (pw_ad G 2), .ref (pw_ad G 11), .ref (pw_ad G 12), .ref (pw_ad G 13), .ref (pw_ad G 14), .ref (pw_ad G 15), .ref (pw_ad G 16), .ref (pw_ad G 17), .int (f 8), .int (f 9), .int (f 10)])
  | 2 => .inr (3, [.ref (pw_ad G 18), .ref (pw_ad G 19), .ref (pw_ad G 20), .ref (pw_ad G 21), .int (f 4)])
  | 3 => .inr (6, [.ref (pw_ad G 1), .ref (pw_ad G 22), .ref (pw_ad G 23), .ref (pw_ad G 24), .ref (pw_ad G 25), .int (f 5), .int (f 6), .int (f 7)])
  | 4 => .inr (7, [.ref (pw_ad G 26), .int (f 1)])
  | 5 => .inr (0, [.ref (pw_ad G 27), .int (f 1)])
  | 6 => .inr (5, [.ref (pw_ad G 1), .ref (pw_ad G 28), .ref (pw_ad G 29)])
  | 7 => .inr (4, [.ref (pw_ad G 6), .ref (pw_ad G 30), .ref (pw_ad G 31)])
  | 8 => .inr (9, [.ref (pw_ad G 32)])
  | 9 => .inr (8, [.ref (pw_ad G 33), .int (f 1)])
  | 10 => .inr (11, [.int (f 0), .int (f 1), .ref (pw_ad G 34), .ref (pw_ad G 35), .ref (pw_ad G 36), .ref (pw_ad G 37), .ref (pw_ad G 38), .ref (pw_ad G 39), .int (f 8), .int (f 9), .ref (pw_ad G 40), .ref (pw_ad G 41), .ref (pw_ad G 42), .ref (pw_ad G 43), .ref (pw_ad G 44), .ref (pw_ad G 45), .ref (pw_ad G 46), .ref (pw_ad G 47), .ref (pw_ad G 48), .ref (pw_ad G 49), .int (f 20), .int (f 21), .int (f 22), .ref (pw_ad G 50), .ref (pw_ad G 51), .ref (pw_ad G 52), .ref (pw_ad G 53), .int (f 27)])
  | 11 => .inl (pw_gI G, 4, .inl f)
  | 12 => .inl (pw_gI G, 24, .inl f)
  | 13 => .inl (pw_gI G, 24, .inl f)
  | 14 => .inl (pw_gI G, 24, .inl f)
  | 15 => .inl (pw_gI G, 24, .inl f)
  | 16 => .inl (pw_gI G, 96, .inl f)
  | 17 => .inl (pw_gI G, 84, .inl f)
  | 18 => .inl (pw_gI G, 24, .inl f)
  | 19 => .inl (pw_gI G, 24, .inl f)
  | 20 => .inl (pw_gI G, 24, .inl f)
  | 21 => .inl (pw_gI G, 24, .inl f)
  | 22 => .inl (pw_gI G, 2401, .inl f)
  | 23 => .inl (pw_gZ G, 2401, .inl f)
  | 24 => .inl (pw_gI G, 25, .inl f)
  | 25 => .inl (pw_gI G, 4, .inl f)
  | 26 => .inl (pw_gF G, 6, .inr (.inr (.inr (.inr (fun i => some (pw_ad G (4 * (i + 0) + 54)))))))
  | 27 => .inl (pw_gF G, 8, .inr (.inr (.inr (.inr (fun i => some (pw_ad G (4 * (i + 6) + 54)))))))
  | 28 => .inl (pw_gI G, 4, .inl f)
  | 29 => .inl (pw_gI G, 6, .inl f)
  | 30 => .inl (pw_gZ G, 2401, .inl f)
  | 31 => .inl (pw_gI G, 2401, .inl f)
  | 32 => .inl (pw_gJ G, 2401, .inr (.inl g))
  | 33 => .inl (pw_gI G, 24, .inl f)
  | 34 => .inl (pw_gI G, 4, .inl f)
  | 35 => .inl (pw_gI G, 24, .inl f)
  | 36 => .inl (pw_gI G, 24, .inl f)
  | 37 => .inl (pw_gI G, 24, .inl f)
  | 38 => .inl (pw_gI G, 24, .inl f)
  | 39 => .inl (pw_gI G, 96, .inl f)
  | 40 => .inl (pw_gI G, 24, .inl f)
  | 41 => .inl (pw_gI G, 24, .inl f)
  | 42 => .inl (pw_gI G, 24, .inl f)
  | 43 => .inl (pw_gI G, 24, .inl f)
  | 44 => .inl (pw_gZ G, 2401, .inl f)
  | 45 => .inl (pw_gJ G, 2401, .inr (.inl g))
  | 46 => .inl (pw_gI G, 240, .inl f)
  | 47 => .inl (pw_gI G, 240, .inl f)
  | 48 => .inl (pw_gI G, 240, .inl f)
  | 49 => .inl (pw_gI G, 16, .inl f)
  | 50 => .inl (pw_gI G, 16, .inl f)
  | 51 => .inl (pw_gZ G, 2401, .inl f)
  | 52 => .inl (pw_gZ G, 2401, .inl f)
  | 53 => .inl (pw_gI G, 24, .inl f)
  | n + 54 => if n % 4 = 0 then .inr (1, [.ref (pw_ad G (n + 55)), .ref (pw_ad G (n + 56)), .ref (pw_ad G (n + 57)), .int (f 3)]) else .inl (pw_gI G, 15, .inl f)
def pw_ws (G : pw_Gh) (σ : pw_St) : va_W := (List.range 110).map (fun k => (pw_ad G k, pw_cell G k (σ.1 k) (σ.2 k)))
def pw_sM (σ : pw_St) (k j : Nat) (v : Int32) : pw_St := (va_up σ.1 k (upd (σ.1 k) j v), σ.2)
def pw_sL (σ : pw_St) (k j : Nat) (v : Int64) : pw_St := (σ.1, va_up σ.2 k (vp_updL (σ.2 k) j v))
theorem pw_at {G : pw_Gh} {σ : pw_St} {k : Nat} (hk : k < 110) : (pw_ws G σ)[k]? = some (pw_ad G k, pw_cell G k (σ.1 k) (σ.2 k)) := by
  unfold pw_ws
  rw [List.getElem?_map, List.getElem?_range hk]; rfl
theorem pw_setM {G : pw_Gh} {σ : pw_St} {k j : Nat} {v : Int32} (hk : k < 110) : (pw_ws G σ).set k (pw_ad G k, pw_cell G k (upd (σ.1 k) j v) (σ.2 k)) = pw_ws G (pw_sM σ k j v) := by
  apply List.ext_getElem?
  intro i
  rw [List.getElem?_set]
  by_cases hi : k = i
  · subst hi
    rw [if_pos rfl, pw_at hk, if_pos (by unfold pw_ws; rw [List.length_map, List.length_range]; exact hk)]
    simp only [pw_sM, va_up, if_true]
  · rw [if_neg hi]
    by_cases h2 : i < 110
    · rw [pw_at h2, pw_at h2]
      simp only [pw_sM, va_up, if_neg (Ne.symm hi)]
    · rw [List.getElem?_eq_none, List.getElem?_eq_none] <;> (unfold pw_ws; rw [List.length_map, List.length_range]; omega)
theorem pw_setL {G : pw_Gh} {σ : pw_St} {k j : Nat} {v : Int64} (hk : k < 110) : (pw_ws G σ).set k (pw_ad G k, pw_cell G k (σ.1 k) (vp_updL (σ.2 k) j v)) = pw_ws G (pw_sL σ k j v) := by
  apply List.ext_getElem?
  intro i
  rw [List.getElem?_set]
  by_cases hi : k = i
  · subst hi
    rw [if_pos rfl, pw_at hk, if_pos (by unfold pw_ws; rw [List.length_map, List.length_range]; exact hk)]
    simp only [pw_sL, va_up, if_true]
  · rw [if_neg hi]
    by_cases h2 : i < 110
    · rw [pw_at h2, pw_at h2]
      simp only [pw_sL, va_up, if_neg (Ne.symm hi)]
    · rw [List.getElem?_eq_none, List.getElem?_eq_none] <;> (unfold pw_ws; rw [List.length_map, List.length_range]; omega)
theorem pw_cellF {G : pw_Gh} {n : Nat} {f : Nat → Int32} {g : Nat → Int64} : pw_cell G (4 * n + 54) f g = .inr (1, [.ref (pw_ad G (4 * n + 55)), .ref (pw_ad G (4 * n + 56)), .ref (pw_ad G (4 * n + 57)), .int (f 3)]) := by
  show (if (4 * n) % 4 = 0 then _ else _) = _
  rw [if_pos (by omega)]
theorem pw_cellF1 {G : pw_Gh} {n : Nat} {f : Nat → Int32} {g : Nat → Int64} : pw_cell G (4 * n + 55) f g = .inl (pw_gI G, 15, .inl f) := by
  show (if (4 * n + 1) % 4 = 0 then _ else _) = _
  rw [if_neg (by omega)]
theorem pw_cellF2 {G : pw_Gh} {n : Nat} {f : Nat → Int32} {g : Nat → Int64} : pw_cell G (4 * n + 56) f g = .inl (pw_gI G, 15, .inl f) := by
  show (if (4 * n + 2) % 4 = 0 then _ else _) = _
  rw [if_neg (by omega)]
theorem pw_cellF3 {G : pw_Gh} {n : Nat} {f : Nat → Int32} {g : Nat → Int64} : pw_cell G (4 * n + 57) f g = .inl (pw_gI G, 15, .inl f) := by
  show (if (4 * n + 3) % 4 = 0 then _ else _) = _
  rw [if_neg (by omega)]
-- the words: all good rows of the tables
def pw_BW : List Cond := lw_tbl.filter goodWord
theorem pw_bw {w : Cond} (h : w ∈ lw_tbl) (g : goodWord w = true) : w ∈ pw_BW := List.mem_filter.mpr ⟨h, g⟩
theorem pw_good {ws : List Cond} (h : ∀ w ∈ ws, w ∈ pw_BW) : GoodIn pw_BW ws := fun w hw => ⟨h w hw, good_of_word (List.mem_filter.mp (h w hw)).2⟩
theorem pw_goodC {w : Cond} (h : w ∈ pw_BW) : GoodIn pw_BW (w :: pw_BW) := pw_good (fun v hv => (List.mem_cons.mp hv).elim (fun e => by rw [e]; exact h) id)
def pw_wt (j : Nat) : Int32 := match j with
  | 0 => 1
  | 1 => 7
  | 2 => 49
  | _ => 343
def pw_tys (G : pw_Gh) : List (ClassId × FieldType) := [(pw_gI G, .int), (pw_gJ G, .long), (pw_gZ G, .boolean), (pw_gF G, .object RX1)]
def pw_Sc (G : pw_Gh) (U : State) : Prop := va_K (pw_gD G) vwCl (pw_tys G) U ∧ va_Z "PerhapsWas" "WEIGHTS" "[I" (.ref (pw_gw G)) (pw_gA G) U U.heap ∧ va_T .int (pw_gw G) 4 (fun j => .int (pw_wt j)) (pw_gA G) U U.heap ∧ va_Nw (.fieldLinkNest RX2 52 "PerhapsWas" "WEIGHTS" "[I" "PerhapsWas") U ∧ va_Nw (.fieldLinkNest RX6 45 "PerhapsWas" "WEIGHTS" "[I" "PerhapsWas") U ∧ va_Nw (.fieldLinkNest RX8 31 "PerhapsWas" "WEIGHTS" "[I" "PerhapsWas") U ∧ va_Nw (.fieldLinkNest RX9 46 "PerhapsWas" "WEIGHTS" "[I" "PerhapsWas") U
def pw_Wd (G : pw_Gh) (σ : pw_St) (H : Heap) : Prop := va_P (pw_gD G) vwCl (pw_ws G σ) H ∧ va_D (pw_gA G) (pw_ws G σ)
def pw_WH (G : pw_Gh) (σ : pw_St) (H0 H : Heap) (locs : List Loc) : Prop := pw_Wd G σ H ∧ va_S (pw_gA G) H0 H locs
def pw_Pc (G : pw_Gh) (av : List Value) (σ : pw_St) : Array Value → State → Prop := va_Pc av (fun U => pw_Wd G σ U.heap ∧ pw_Sc G U)
def pw_Qi (G : pw_Gh) (r : Int32) (σ : pw_St) : Array Value → State → Outcome → State → Prop := va_Qi (fun (r2 : Int32) (_ : Unit) => r2 = r) (fun _ t => pw_Wd G σ t.heap) (pw_gA G)
def pw_Ql (G : pw_Gh) (r : Int64) (σ : pw_St) : Array Value → State → Outcome → State → Prop := va_Ql (fun (r2 : Int64) (_ : Unit) => r2 = r) (fun _ t => pw_Wd G σ t.heap) (pw_gA G)
def pw_Qv (G : pw_Gh) (σ : pw_St) : Array Value → State → Outcome → State → Prop := va_Qv (fun (_ : Unit) => True) (fun _ t => pw_Wd G σ t.heap) (pw_gA G)
def pw_Qr (G : pw_Gh) (a : Nat) (σ : pw_St) : Array Value → State → Outcome → State → Prop := va_Qr (fun (_ : Unit) => True) (fun _ b t => b = a ∧ pw_Wd G σ t.heap) (pw_gA G)
def pw_CX (G : pw_Gh) (own : String) (cc : ByteArray) (nL : Nat) (ret : Option FieldType) (p : Program) (s : State) (m : MethodId) (args : Array Value) (meth : Method) (c : Code) : Prop :=
  p.tables.exec = Jvm.exec ∧ c.code = cc ∧ c.maxLocals = nL ∧ s.vm.findClass own = some m.cls ∧ (∀ w ∈ pw_BW, w.before args s = true) ∧ pw_Sc G s ∧ meth.sig.returnType = ret ∧ meth.locks = false
theorem pw_Wd_of {G : pw_Gh} {σ : pw_St} {t : State} {H : Heap} (ht : t.heap = H) (h : pw_Wd G σ H) : pw_Wd G σ t.heap := by rw [ht]; exact h
theorem pw_Sc.blind {G : pw_Gh} {U : State} {g : JFrame} {mk : MethodId} {a : Array Value} (h : pw_Sc G U) : pw_Sc G (U.calling g mk a) := by
  obtain ⟨h1, h2, h3, n0, n1, n2, n3⟩ := h
  exact ⟨va_K.moved (u := U) (U := U.calling g mk a) (Vm.Alike.refl U.vm) h1, va_Z.moved (u := U) (U := U.calling g mk a) (Vm.Alike.refl U.vm) h2, va_T.moved (u := U) (U := U.calling g mk a) (Vm.Alike.refl U.vm) h3, va_Nw.same rfl rfl n0, va_Nw.same rfl rfl n1, va_Nw.same rfl rfl n2, va_Nw.same rfl rfl n3⟩
theorem pw_blind {G : pw_Gh} {av : List Value} {σ : pw_St} : FrameBlind (pw_Pc G av σ) := fun a U g mk h => ⟨h.1, h.2.1, h.2.2.blind⟩
theorem pw_Sc.go {G : pw_Gh} {s U : State} {H : Heap} {locs : List Loc} (h : pw_Sc G s) (hS : va_S (pw_gA G) s.heap H locs) (hU : U.heap = H) (hW : s.WarmedH U.vm) : pw_Sc G U := by
  obtain ⟨h1, h2, h3, n0, n1, n2, n3⟩ := h
  exact ⟨va_K.moved hW.alike h1, by rw [hU]; exact va_Z.moved hW.alike (va_Z.kept h2 hS.2.1), by rw [hU]; exact va_T.moved hW.alike (va_T.kept h3 hS.2.1), va_Nw.warmF hW n0, va_Nw.warmF hW n1, va_Nw.warmF hW n2, va_Nw.warmF hW n3⟩
-- the programs' words: a guard, a call's answer
def pw_in (i : Int32) (n : Nat) : Bool := decide (0 ≤ i.toInt ∧ i.toInt < (n : Int))
theorem pw_gd {α : Type} {i : Int32} {n : Nat} {a : Option α} {r : α} (h : (if pw_in i n = true then a else none) = some r) : vp_in i n ∧ a = some r := by
  by_cases q : pw_in i n = true
  · rw [if_pos q] at h
    exact ⟨vp_in_iff.mpr (of_decide_eq_true q), h⟩
  · rw [if_neg q] at h; cases h
theorem pw_ifp {α : Type} {c : Prop} {ic : Decidable c} {a b : Option α} {r : α} (hc : c) (h : (if c then a else b) = some r) : a = some r := by rw [if_pos hc] at h; exact h
theorem pw_ifn {α : Type} {c : Prop} {ic : Decidable c} {a b : Option α} {r : α} (hc : ¬ c) (h : (if c then a else b) = some r) : b = some r := by rw [if_neg hc] at h; exact h
theorem pw_nz {α : Type} {x : Int32} {a : Option α} {r : α} (h : (if x = 0 then none else a) = some r) : ¬ x = 0 ∧ a = some r := by
  by_cases q : x = 0
  · rw [if_pos q] at h; cases h
  · rw [if_neg q] at h; exact ⟨q, h⟩
def pw_bi {α : Type} (q : Option (Int32 × pw_St)) (k : Int32 → pw_St → Option α) : Option α := match q with
  | none => none
  | some z => k z.1 z.2
def pw_bl {α : Type} (q : Option (Int64 × pw_St)) (k : Int64 → pw_St → Option α) : Option α := match q with
  | none => none
  | some z => k z.1 z.2
def pw_bv {α : Type} (q : Option pw_St) (k : pw_St → Option α) : Option α := match q with
  | none => none
  | some z => k z
theorem pw_bi_some {α : Type} {q : Option (Int32 × pw_St)} {k : Int32 → pw_St → Option α} {r : α} (h : pw_bi q k = some r) : ∃ (v : Int32) (σ : pw_St), q = some (v, σ) ∧ k v σ = some r := by
  cases q with
  | none => cases h
  | some z => exact ⟨z.1, z.2, rfl, h⟩
theorem pw_bl_some {α : Type} {q : Option (Int64 × pw_St)} {k : Int64 → pw_St → Option α} {r : α} (h : pw_bl q k = some r) : ∃ (v : Int64) (σ : pw_St), q = some (v, σ) ∧ k v σ = some r := by
  cases q with
  | none => cases h
  | some z => exact ⟨z.1, z.2, rfl, h⟩
theorem pw_bv_some {α : Type} {q : Option pw_St} {k : pw_St → Option α} {r : α} (h : pw_bv q k = some r) : ∃ σ : pw_St, q = some σ ∧ k σ = some r := by
  cases q with
  | none => cases h
  | some z => exact ⟨z, rfl, h⟩
def pw_lt {α : Type} (v : pw_St) (k : pw_St → Option α) : Option α := k v
theorem pw_lts {α : Type} {v : pw_St} {k : pw_St → Option α} {r : α} (h : pw_lt v k = some r) : ∃ σ : pw_St, σ = v ∧ k σ = some r := ⟨v, rfl, h⟩
theorem pw_WHe {G : pw_Gh} {σ1 σ2 : pw_St} {H0 H : Heap} {locs : List Loc} (e : σ2 = σ1) (h : pw_WH G σ1 H0 H locs) : pw_WH G σ2 H0 H locs := by rw [e]; exact h
theorem pw_fb {i : Int32} {n d : Nat} (h : vp_in i n) (hd : n + d ≤ 14) : i.toNatClampNeg + d < 14 := by
  have h2 : i.toNatClampNeg < n := Nat.not_le.mp fun q => h (Or.inr q)
  omega
theorem pw_ti {x k : Int32} {z : Int} (h : ¬ x = k) (hk : k.toInt = z) : x.toInt ≠ z := fun q => h (Int32.toInt_inj.mp (by rw [q, hk]))
def pw_FU : Nat := 3000
def pw_isb (x : Int32) : Bool := decide (narrow .boolean (.int x) = .int x)
theorem pw_bg {α : Type} {x : Int32} {a : Option α} {r : α} (h : (if pw_isb x = true then a else none) = some r) : narrow .boolean (.int x) = .int x ∧ a = some r := by
  by_cases q : pw_isb x = true
  · rw [if_pos q] at h
    exact ⟨of_decide_eq_true q, h⟩
  · rw [if_neg q] at h; cases h
section PW
variable {p : Program} {l : Launch} {e : Env} {R : Room} {s : State} {m : MethodId} {args : Array Value} {below : List Frame} {meth : Method} {c : Code} {H : Heap} {locs : List Loc} {cells slots : Nat} {Q : State → Prop}
variable {G : pw_Gh} {σ : pw_St} {own : String} {cc : ByteArray} {nL pc : Nat} {ret : Option FieldType} {ls : Array Slot} {rest : List Value}
/-- a method's contract out of its walk -/
theorem pw_met {y : MethodName} {rm : Room} {av : List Value} {Qc : Array Value → State → Outcome → State → Prop} (hy : plainName y.cls = true) (hn : (lg_sl av).length ≤ nL)
    (body : ∀ (p : Program) (e : Env) (s : State) (m : MethodId) (args : Array Value) (below : List Frame) (meth : Method) (c : Code) (ls : Array Slot), pw_CX G y.cls cc nL ret p s m args meth c → pw_WH G σ s.heap s.heap [] → lv_has ls nL (lv_args 0 av) → W p l e rm s m args below meth c s.heap [] 0 0 (MQ below Qc args s 0 0 (pw_gA G)) (F0 m 0 ls [])) :
    Met l y (.code y cc nL ret :: pw_BW) rm (pw_Pc G av σ) Qc 0 0 (pw_gA G) := by
  refine Met.ofW (cc := cc) (maxL := nL) (ret := ret) hy rfl ?_
  intro p e s m args below meth c s₁ B hml hv
  obtain ⟨rfl, hw, hsc⟩ := hv
  have hl := lv_entry av (n := nL) hn
  rw [lg_entry_eq]
  generalize (lg_sl av ++ List.replicate (nL - (lg_sl av).length) Slot.unset).toArray = ls at hl ⊢
  have hts := atoms_spec (ws := .code y cc nL ret :: pw_BW) B.pre
  exact body p e s m _ below meth c ls ⟨B.exec, B.bytes, hml, findClass_of_methodNamed B.named, fun w h => hts w (List.mem_cons_of_mem _ h), hsc, B.returns, B.notSynchronized⟩ ⟨hw, va_S.rf⟩ hl
theorem pw_iret {v r : Int32} {σ2 : pw_St} (hC : pw_CX G own cc nL (some .int) p s m args meth c) (hw : pw_WH G σ s.heap H locs) (hf : some (v, σ) = some (r, σ2)) (hdg : decode cc pc = .ok (.ireturn, 1)) : W p l e R s m args below meth c H locs 0 0 (MQ below (pw_Qi G r σ2) args s 0 0 (pw_gA G)) (F0 m pc ls [.int v]) := by
  cases hf
  exact W.iret hC.1 hC.2.1 hC.2.2.2.2.2.2.1 (fun t ht hW => ⟨⟨v, (), rfl, rfl, pw_Wd_of ht hw.1⟩, hw.2.F ht⟩) hw.2.2.2 hdg hC.2.2.2.2.2.2.2
theorem pw_zret {v r : Int32} {σ2 : pw_St} (hC : pw_CX G own cc nL (some .boolean) p s m args meth c) (hw : pw_WH G σ s.heap H locs) (hf : (if pw_isb v = true then some (v, σ) else none) = some (r, σ2)) (hdg : decode cc pc = .ok (.ireturn, 1)) : W p l e R s m args below meth c H locs 0 0 (MQ below (pw_Qi G r σ2) args s 0 0 (pw_gA G)) (F0 m pc ls [.int v]) := by
  obtain ⟨hn, hf⟩ := pw_bg hf
  cases hf
  exact W.zret hC.1 hC.2.1 hC.2.2.2.2.2.2.1 hn (fun t ht hW => ⟨⟨v, (), rfl, rfl, pw_Wd_of ht hw.1⟩, hw.2.F ht⟩) hw.2.2.2 hdg hC.2.2.2.2.2.2.2
theorem pw_lret {v r : Int64} {σ2 : pw_St} (hC : pw_CX G own cc nL (some .long) p s m args meth c) (hw : pw_WH G σ s.heap H locs) (hf : some (v, σ) = some (r, σ2)) (hdg : decode cc pc = .ok (.lreturn, 1)) : W p l e R s m args below meth c H locs 0 0 (MQ below (pw_Ql G r σ2) args s 0 0 (pw_gA G)) (F0 m pc ls [.long v]) := by
  cases hf
  exact W.lret hC.1 hC.2.1 hC.2.2.2.2.2.2.1 (fun t ht hW => ⟨⟨v, (), rfl, rfl, pw_Wd_of ht hw.1⟩, hw.2.F ht⟩) hw.2.2.2 hdg hC.2.2.2.2.2.2.2
theorem pw_vret {σ2 : pw_St} (hC : pw_CX G own cc nL none p s m args meth c) (hw : pw_WH G σ s.heap H locs) (hf : some σ = some σ2) (hdg : decode cc pc = .ok (.return_, 1)) : W p l e R s m args below meth c H locs 0 0 (MQ below (pw_Qv G σ2) args s 0 0 (pw_gA G)) (F0 m pc ls []) := by
  cases hf
  exact W.vret hC.1 hC.2.1 hC.2.2.2.2.2.2.1 (fun t ht hW => ⟨⟨(), rfl, trivial, pw_Wd_of ht hw.1⟩, hw.2.F ht⟩) hw.2.2.2 hdg hC.2.2.2.2.2.2.2
theorem pw_aret {σ2 : pw_St} {a : Nat} {C : String} (hC : pw_CX G own cc nL (some (.object C)) p s m args meth c) (hw : pw_WH G σ s.heap H locs) (hf : some σ = some σ2) (hdg : decode cc pc = .ok (.areturn, 1)) : W p l e R s m args below meth c H locs 0 0 (MQ below (pw_Qr G a σ2) args s 0 0 (pw_gA G)) (F0 m pc ls [.ref a]) := by
  cases hf
  exact W.aret hC.1 hC.2.1 hC.2.2.2.2.2.2.1 (Or.inl ⟨_, rfl⟩) (Or.inr ⟨_, rfl⟩) (fun t ht hW => ⟨⟨(), a, rfl, trivial, rfl, pw_Wd_of ht hw.1⟩, hw.2.F ht⟩) hw.2.2.2 hdg hC.2.2.2.2.2.2.2
-- arrays
theorem pw_ild {k n : Nat} (hC : pw_CX G own cc nL ret p s m args meth c) (hw : pw_WH G σ s.heap H locs) (ca : k < 110 ∧ ∀ (f : Nat → Int32) (g : Nat → Int64), pw_cell G k f g = .inl (pw_gI G, n, .inl f)) {i : Int32} (hin : vp_in i n) (hdg : decode cc pc = .ok (.iaload, 1))
    (kk : W p l e R s m args below meth c H locs cells slots Q (F0 m (pc + 1) ls (.int (σ.1 k i.toNatClampNeg) :: rest))) : W p l e R s m args below meth c H locs cells slots Q (F0 m pc ls (.int i :: .ref (pw_ad G k) :: rest)) :=
  va_iald (f := σ.1 k) (n := n) hC.1 hC.2.1 hC.2.2.2.2.2.1.1 hw.1.1 k 0 ((pw_at ca.1).trans (by rw [ca.2])) rfl hin hdg kk
theorem pw_zld {k n : Nat} (hC : pw_CX G own cc nL ret p s m args meth c) (hw : pw_WH G σ s.heap H locs) (ca : k < 110 ∧ ∀ (f : Nat → Int32) (g : Nat → Int64), pw_cell G k f g = .inl (pw_gZ G, n, .inl f)) {i : Int32} (hin : vp_in i n) (hdg : decode cc pc = .ok (.baload, 1))
    (kk : W p l e R s m args below meth c H locs cells slots Q (F0 m (pc + 1) ls (.int (σ.1 k i.toNatClampNeg) :: rest))) : W p l e R s m args below meth c H locs cells slots Q (F0 m pc ls (.int i :: .ref (pw_ad G k) :: rest)) :=
  va_zald (f := σ.1 k) (n := n) hC.1 hC.2.1 hC.2.2.2.2.2.1.1 hw.1.1 k 2 ((pw_at ca.1).trans (by rw [ca.2])) rfl hin hdg kk
theorem pw_lld {k n : Nat} (hC : pw_CX G own cc nL ret p s m args meth c) (hw : pw_WH G σ s.heap H locs) (ca : k < 110 ∧ ∀ (f : Nat → Int32) (g : Nat → Int64), pw_cell G k f g = .inl (pw_gJ G, n, .inr (.inl g))) {i : Int32} (hin : vp_in i n) (hdg : decode cc pc = .ok (.laload, 1))
    (kk : W p l e R s m args below meth c H locs cells slots Q (F0 m (pc + 1) ls (.long (σ.2 k i.toNatClampNeg) :: rest))) : W p l e R s m args below meth c H locs cells slots Q (F0 m pc ls (.int i :: .ref (pw_ad G k) :: rest)) :=
  va_lald (f := σ.2 k) (n := n) hC.1 hC.2.1 hC.2.2.2.2.2.1.1 hw.1.1 k 1 ((pw_at ca.1).trans (by rw [ca.2])) rfl hin hdg kk
theorem pw_ist {k n : Nat} (hC : pw_CX G own cc nL ret p s m args meth c) (hw : pw_WH G σ s.heap H locs) (ca : k < 110 ∧ ∀ (f : Nat → Int32) (g : Nat → Int64), pw_cell G k f g = .inl (pw_gI G, n, .inl f)) {i x : Int32} (hin : vp_in i n) (hdg : decode cc pc = .ok (.iastore, 1))
    (kk : ∀ (H1 : Heap) (locs1 : List Loc), pw_WH G (pw_sM σ k i.toNatClampNeg x) s.heap H1 locs1 → W p l e R s m args below meth c H1 locs1 cells slots Q (F0 m (pc + 1) ls rest)) : W p l e R s m args below meth c H locs cells slots Q (F0 m pc ls (.int x :: .int i :: .ref (pw_ad G k) :: rest)) := by
  refine va_iast (f := σ.1 k) (n := n) hC.1 hC.2.1 hC.2.2.2.2.2.1.1 hw.1.1 hw.1.2 hw.2 k 0 ((pw_at ca.1).trans (by rw [ca.2])) rfl hin hdg (fun H1 locs1 h1 h2 h3 => ?_)
  rw [← ca.2 _ (σ.2 k), pw_setM ca.1] at h1 h2
  exact kk H1 locs1 ⟨⟨h1, h2⟩, h3⟩
theorem pw_zst {k n : Nat} (hC : pw_CX G own cc nL ret p s m args meth c) (hw : pw_WH G σ s.heap H locs) (ca : k < 110 ∧ ∀ (f : Nat → Int32) (g : Nat → Int64), pw_cell G k f g = .inl (pw_gZ G, n, .inl f)) {i x : Int32} (hin : vp_in i n) (hdg : decode cc pc = .ok (.bastore, 1))
    (kk : ∀ (H1 : Heap) (locs1 : List Loc), pw_WH G (pw_sM σ k i.toNatClampNeg (vp_nar .boolean x)) s.heap H1 locs1 → W p l e R s m args below meth c H1 locs1 cells slots Q (F0 m (pc + 1) ls rest)) : W p l e R s m args below meth c H locs cells slots Q (F0 m pc ls (.int x :: .int i :: .ref (pw_ad G k) :: rest)) := by
  refine va_zast (f := σ.1 k) (n := n) hC.1 hC.2.1 hC.2.2.2.2.2.1.1 hw.1.1 hw.1.2 hw.2 k 2 ((pw_at ca.1).trans (by rw [ca.2])) rfl hin hdg (fun H1 locs1 h1 h2 h3 => ?_)
  rw [← ca.2 _ (σ.2 k), pw_setM ca.1] at h1 h2
  exact kk H1 locs1 ⟨⟨h1, h2⟩, h3⟩
theorem pw_lst {k n : Nat} (hC : pw_CX G own cc nL ret p s m args meth c) (hw : pw_WH G σ s.heap H locs) (ca : k < 110 ∧ ∀ (f : Nat → Int32) (g : Nat → Int64), pw_cell G k f g = .inl (pw_gJ G, n, .inr (.inl g))) {i : Int32} {x : Int64} (hin : vp_in i n) (hdg : decode cc pc = .ok (.lastore, 1))
    (kk : ∀ (H1 : Heap) (locs1 : List Loc), pw_WH G (pw_sL σ k i.toNatClampNeg x) s.heap H1 locs1 → W p l e R s m args below meth c H1 locs1 cells slots Q (F0 m (pc + 1) ls rest)) : W p l e R s m args below meth c H locs cells slots Q (F0 m pc ls (.long x :: .int i :: .ref (pw_ad G k) :: rest)) := by
  refine va_last (f := σ.2 k) (n := n) hC.1 hC.2.1 hC.2.2.2.2.2.1.1 hw.1.1 hw.1.2 hw.2 k 1 ((pw_at ca.1).trans (by rw [ca.2])) rfl hin hdg (fun H1 locs1 h1 h2 h3 => ?_)
  rw [← ca.2 (σ.1 k) _, pw_setL ca.1] at h1 h2
  exact kk H1 locs1 ⟨⟨h1, h2⟩, h3⟩
theorem pw_fld {k n d : Nat} (hC : pw_CX G own cc nL ret p s m args meth c) (hw : pw_WH G σ s.heap H locs) (ca : k < 110 ∧ ∀ (f : Nat → Int32) (g : Nat → Int64), pw_cell G k f g = .inl (pw_gF G, n, .inr (.inr (.inr (.inr (fun i => some (pw_ad G (4 * (i + d) + 54)))))))) {i : Int32} (hin : vp_in i n) (hdg : decode cc pc = .ok (.aaload, 1))
    (kk : W p l e R s m args below meth c H locs cells slots Q (F0 m (pc + 1) ls (.ref (pw_ad G (4 * (i.toNatClampNeg + d) + 54)) :: rest))) : W p l e R s m args below meth c H locs cells slots Q (F0 m pc ls (.int i :: .ref (pw_ad G k) :: rest)) :=
  va_aldq (C := RX1) (n := n) (f := fun i => some (pw_ad G (4 * (i + d) + 54))) hC.1 hC.2.1 hC.2.2.2.2.2.1.1 hw.1.1 k 3 ((pw_at ca.1).trans (by rw [ca.2])) rfl hin hdg kk
theorem pw_alenI {k n : Nat} (hC : pw_CX G own cc nL ret p s m args meth c) (hw : pw_WH G σ s.heap H locs) (ca : k < 110 ∧ ∀ (f : Nat → Int32) (g : Nat → Int64), pw_cell G k f g = .inl (pw_gI G, n, .inl f)) (hdg : decode cc pc = .ok (.arraylength, 1))
    (kk : W p l e R s m args below meth c H locs cells slots Q (F0 m (pc + 1) ls (.int (Int32.ofNat n) :: rest))) : W p l e R s m args below meth c H locs cells slots Q (F0 m pc ls (.ref (pw_ad G k) :: rest)) :=
  va_alen (x := (n, .inl (σ.1 k))) hC.1 hC.2.1 hC.2.2.2.2.2.1.1 hw.1.1 k 0 ((pw_at ca.1).trans (by rw [ca.2])) (ty := .int) rfl rfl hdg kk
theorem pw_wget {idx : Nat} (hC : pw_CX G own cc nL ret p s m args meth c) (hw : pw_WH G σ s.heap H locs) (hn : va_Nw (.fieldLinkNest own idx "PerhapsWas" "WEIGHTS" "[I" "PerhapsWas") s) (hdg : decode cc pc = .ok (.getstatic idx, 3))
    (kk : W p l e R s m args below meth c H locs cells slots Q (F0 m (pc + 3) ls (.ref (pw_gw G) :: rest))) : W p l e R s m args below meth c H locs cells slots Q (F0 m pc ls rest) :=
  va_getsN hC.1 hC.2.1 hC.2.2.2.2.2.1.2.1 hw.2 hC.2.2.2.1 (va_Nw.use rfl hn) (fun _ h => h) hdg kk
theorem pw_wld (hC : pw_CX G own cc nL ret p s m args meth c) (hw : pw_WH G σ s.heap H locs) {i : Int32} (hin : vp_in i 4) (hdg : decode cc pc = .ok (.iaload, 1))
    (kk : W p l e R s m args below meth c H locs cells slots Q (F0 m (pc + 1) ls (.int (pw_wt i.toNatClampNeg) :: rest))) : W p l e R s m args below meth c H locs cells slots Q (F0 m pc ls (.int i :: .ref (pw_gw G) :: rest)) :=
  va_ti hC.1 hC.2.1 hC.2.2.2.2.2.1.2.2.1 hw.2 hin rfl hdg kk
-- calls
theorem pw_runV {y : MethodName} {bytes : ByteArray} {maxL index k ci n : Nat} {rt : Option FieldType} {rm : Room} {Qc : Array Value → State → Outcome → State → Prop} {As st0 : List Value} {fs : List Value} {tt : u_T} {nn : Nat}
    (hC : pw_CX G own cc nL ret p s m args meth c) (hw : pw_WH G σ s.heap H locs) (hM : Met l y (.code y bytes maxL rt :: pw_BW) rm (pw_Pc G (.ref (pw_ad G k) :: As) σ) Qc 0 0 (pw_gA G))
    (hl : Cond.methodLink own index y ∈ pw_BW) (hy : Cond.instanceMethod y ∈ pw_BW ∧ Cond.selects y.cls y y ∈ pw_BW ∧ Cond.initialized y.cls ∈ pw_BW ∧ Cond.code y bytes maxL rt ∈ pw_BW ∧ (y.cls ≠ "java/lang/invoke/MethodHandle" ∧ y.cls ≠ "java/lang/invoke/VarHandle" ∧ (parseMethodDescriptor y.desc).map (fun d => d.parameters.length) = some n))
    (hcs : cells + 0 ≤ R.cells ∧ slots + 0 ≤ R.slots) (hR : rm.cells = 0 ∧ rm.slots = 0 ∧ rm.frames + 1 ≤ R.frames ∧ 8 + (maxL + 11) + rm.locals ≤ R.locals) (hk : k < 110) (hc : pw_cell G k (σ.1 k) (σ.2 k) = .inr (ci, fs)) (hcl : vwCl[ci]? = some (y.cls, tt, nn))
    (hn : As.length = n) (hls : ls.size = nL) (hst : st0 = As.reverse ++ .ref (pw_ad G k) :: rest) (hcat : (rest.map fun v => v.category).sum ≤ 8) (hdg : decode cc pc = .ok (.invokevirtual index, 3)) :
    va_Run p l e R s m args below meth c H locs cells slots 0 0 (F0 m pc ls st0) rest (Qc (Value.ref (pw_ad G k) :: As).toArray) (pw_gA G) := by
  obtain ⟨h1, h2, h3, h4, hb, hb5⟩ := id hC
  obtain ⟨y1, y2, y3, y4, y5⟩ := hy
  have hG : GoodIn pw_BW (.code y bytes maxL rt :: pw_BW) := pw_goodC y4
  have cb : CallB R s args own index y bytes maxL rt (.code y bytes maxL rt :: pw_BW) rm 0 0 n := callB_of n hb hG rfl hR.1 hR.2.1 (hb _ y3) (hb _ hl) y5 ⟨hR.2.2.1, hR.2.2.2⟩
  exact va_runV (As := As) (rest := rest) (b := pw_ad G k) (C := y.cls) ⟨h1, h2, h3, h4, hb⟩ hM ⟨cb, hb _ y1, hb _ y2⟩ ⟨pw_blind, va_recv hb5.1.1 hw.1.1 hcl ((pw_at hk).trans (by rw [hc])), fun U hU hW => ⟨rfl, by rw [hU]; exact hw.1, hb5.1.go hw.2 hU hW⟩⟩ rfl hn hls hst (by show 2 * 0 + _ ≤ 8; omega) hdg hcs
theorem pw_runS {y : MethodName} {bytes : ByteArray} {maxL index n : Nat} {rt : Option FieldType} {rm : Room} {Qc : Array Value → State → Outcome → State → Prop} {As st0 : List Value}
    (hC : pw_CX G own cc nL ret p s m args meth c) (hw : pw_WH G σ s.heap H locs) (hM : Met l y (.code y bytes maxL rt :: pw_BW) rm (pw_Pc G As σ) Qc 0 0 (pw_gA G))
    (hl : Cond.methodLink own index y ∈ pw_BW) (hy : Cond.static y ∈ pw_BW ∧ Cond.initialized y.cls ∈ pw_BW ∧ Cond.code y bytes maxL rt ∈ pw_BW ∧ (y.cls ≠ "java/lang/invoke/MethodHandle" ∧ y.cls ≠ "java/lang/invoke/VarHandle" ∧ (parseMethodDescriptor y.desc).map (fun d => d.parameters.length) = some n))
    (hcs : cells + 0 ≤ R.cells ∧ slots + 0 ≤ R.slots) (hR : rm.cells = 0 ∧ rm.slots = 0 ∧ rm.frames + 1 ≤ R.frames ∧ 8 + (maxL + 11) + rm.locals ≤ R.locals)
    (hn : As.length = n) (hls : ls.size = nL) (hst : st0 = As.reverse ++ rest) (hcat : (rest.map fun v => v.category).sum ≤ 8) (hdg : decode cc pc = .ok (.invokestatic index, 3)) :
    va_Run p l e R s m args below meth c H locs cells slots 0 0 (F0 m pc ls st0) rest (Qc As.toArray) (pw_gA G) := by
  obtain ⟨h1, h2, h3, h4, hb, hb5⟩ := id hC
  obtain ⟨y1, y3, y4, y5⟩ := hy
  have hG : GoodIn pw_BW (.code y bytes maxL rt :: pw_BW) := pw_goodC y4
  have cb : CallB R s args own index y bytes maxL rt (.code y bytes maxL rt :: pw_BW) rm 0 0 n := callB_of n hb hG rfl hR.1 hR.2.1 (hb _ y3) (hb _ hl) y5 ⟨hR.2.2.1, hR.2.2.2⟩
  exact va_runS (As := As) (rest := rest) ⟨h1, h2, h3, h4, hb⟩ hM ⟨cb, hb _ y1⟩ ⟨pw_blind, fun U hU hW => ⟨rfl, by rw [hU]; exact hw.1, hb5.1.go hw.2 hU hW⟩⟩ rfl hn hls hst (by show 2 * 0 + _ ≤ 8; omega) hdg hcs
theorem pw_ci {r : Int32} {σ2 : pw_St} {a : Array Value} {st0 : List Value} (hw : pw_WH G σ s.heap H locs) (hr : va_Run p l e R s m args below meth c H locs cells slots 0 0 (F0 m pc ls st0) rest (pw_Qi G r σ2 a) (pw_gA G))
    (kk : ∀ (H1 : Heap) (locs1 : List Loc), pw_WH G σ2 s.heap H1 locs1 → W p l e R s m args below meth c H1 locs1 cells slots Q (F0 m (pc + 3) ls (.int r :: rest))) : W p l e R s m args below meth c H locs cells slots Q (F0 m pc ls st0) :=
  va_calli hr hw.2 (fun _ _ h => h) (fun _ h => h) (fun r2 u t H1 locs1 ht _ hp hB _ _ hS => by subst hp; exact kk H1 locs1 ⟨by rw [← ht]; exact hB, hS⟩)
theorem pw_cl {r : Int64} {σ2 : pw_St} {a : Array Value} {st0 : List Value} (hw : pw_WH G σ s.heap H locs) (hr : va_Run p l e R s m args below meth c H locs cells slots 0 0 (F0 m pc ls st0) rest (pw_Ql G r σ2 a) (pw_gA G))
    (kk : ∀ (H1 : Heap) (locs1 : List Loc), pw_WH G σ2 s.heap H1 locs1 → W p l e R s m args below meth c H1 locs1 cells slots Q (F0 m (pc + 3) ls (.long r :: rest))) : W p l e R s m args below meth c H locs cells slots Q (F0 m pc ls st0) :=
  va_calll hr hw.2 (fun _ _ h => h) (fun _ h => h) (fun r2 u t H1 locs1 ht _ hp hB _ _ hS => by subst hp; exact kk H1 locs1 ⟨by rw [← ht]; exact hB, hS⟩)
theorem pw_cv {σ2 : pw_St} {a : Array Value} {st0 : List Value} (hw : pw_WH G σ s.heap H locs) (hr : va_Run p l e R s m args below meth c H locs cells slots 0 0 (F0 m pc ls st0) rest (pw_Qv G σ2 a) (pw_gA G))
    (kk : ∀ (H1 : Heap) (locs1 : List Loc), pw_WH G σ2 s.heap H1 locs1 → W p l e R s m args below meth c H1 locs1 cells slots Q (F0 m (pc + 3) ls rest)) : W p l e R s m args below meth c H locs cells slots Q (F0 m pc ls st0) :=
  va_callv hr hw.2 (fun _ _ h => h) (fun _ h => h) (fun u t H1 locs1 ht _ hp hB _ _ hS => kk H1 locs1 ⟨by rw [← ht]; exact hB, hS⟩)
theorem pw_cr {σ2 : pw_St} {b : Nat} {a : Array Value} {st0 : List Value} (hw : pw_WH G σ s.heap H locs) (hr : va_Run p l e R s m args below meth c H locs cells slots 0 0 (F0 m pc ls st0) rest (pw_Qr G b σ2 a) (pw_gA G))
    (kk : ∀ (H1 : Heap) (locs1 : List Loc), pw_WH G σ2 s.heap H1 locs1 → W p l e R s m args below meth c H1 locs1 cells slots Q (F0 m (pc + 3) ls (.ref b :: rest))) : W p l e R s m args below meth c H locs cells slots Q (F0 m pc ls st0) := by
  exact va_callr hr hw.2 (fun _ _ h => h) (fun _ h => h) (fun u ra t H1 locs1 ht _ hp hB _ _ hS => by obtain ⟨rfl, hB⟩ := hB; exact kk H1 locs1 ⟨by rw [← ht]; exact hB, hS⟩)
end PW
end
section
theorem pw_inX0 : ∀ w ∈ u_ws RX0 TX0 2, w ∈ pw_BW := fun w h => pw_bw ((by decide +kernel : ∀ w ∈ u_ws RX0 TX0 2, w ∈ lw_tbl) w h) (List.all_eq_true.mp (by decide +kernel : (u_ws RX0 TX0 2).all goodWord = true) w h)
theorem pw_inX1 : ∀ w ∈ u_ws RX1 TX1 4, w ∈ pw_BW := fun w h => pw_bw ((by decide +kernel : ∀ w ∈ u_ws RX1 TX1 4, w ∈ lw_tbl) w h) (List.all_eq_true.mp (by decide +kernel : (u_ws RX1 TX1 4).all goodWord = true) w h)
theorem pw_inX2 : ∀ w ∈ u_ws RX2 TX2 11, w ∈ pw_BW := fun w h => pw_bw ((by decide +kernel : ∀ w ∈ u_ws RX2 TX2 11, w ∈ lw_tbl) w h) (List.all_eq_true.mp (by decide +kernel : (u_ws RX2 TX2 11).all goodWord = true) w h)
theorem pw_inX3 : ∀ w ∈ u_ws RX3 TX3 5, w ∈ pw_BW := fun w h => pw_bw ((by decide +kernel : ∀ w ∈ u_ws RX3 TX3 5, w ∈ lw_tbl) w h) (List.all_eq_true.mp (by decide +kernel : (u_ws RX3 TX3 5).all goodWord = true) w h)
theorem pw_inX4 : ∀ w ∈ u_ws RX4 TX4 3, w ∈ pw_BW := fun w h => pw_bw ((by decide +kernel : ∀ w ∈ u_ws RX4 TX4 3, w ∈ lw_tbl) w h) (List.all_eq_true.mp (by decide +kernel : (u_ws RX4 TX4 3).all goodWord = true) w h)
theorem pw_inX5 : ∀ w ∈ u_ws RX5 TX5 3, w ∈ pw_BW := fun w h => pw_bw ((by decide +kernel : ∀ w ∈ u_ws RX5 TX5 3, w ∈ lw_tbl) w h) (List.all_eq_true.mp (by decide +kernel : (u_ws RX5 TX5 3).all goodWord = true) w h)
theorem pw_inX6 : ∀ w ∈ u_ws RX6 TX6 8, w ∈ pw_BW := fun w h => pw_bw ((by decide +kernel : ∀ w ∈ u_ws RX6 TX6 8, w ∈ lw_tbl) w h) (List.all_eq_true.mp (by decide +kernel : (u_ws RX6 TX6 8).all goodWord = true) w h)
theorem pw_inX7 : ∀ w ∈ u_ws RX7 TX7 2, w ∈ pw_BW := fun w h => pw_bw ((by decide +kernel : ∀ w ∈ u_ws RX7 TX7 2, w ∈ lw_tbl) w h) (List.all_eq_true.mp (by decide +kernel : (u_ws RX7 TX7 2).all goodWord = true) w h)
theorem pw_inX8 : ∀ w ∈ u_ws RX8 TX8 2, w ∈ pw_BW := fun w h => pw_bw ((by decide +kernel : ∀ w ∈ u_ws RX8 TX8 2, w ∈ lw_tbl) w h) (List.all_eq_true.mp (by decide +kernel : (u_ws RX8 TX8 2).all goodWord = true) w h)
theorem pw_inX9 : ∀ w ∈ u_ws RX9 TX9 1, w ∈ pw_BW := fun w h => pw_bw ((by decide +kernel : ∀ w ∈ u_ws RX9 TX9 1, w ∈ lw_tbl) w h) (List.all_eq_true.mp (by decide +kernel : (u_ws RX9 TX9 1).all goodWord = true) w h)
theorem pw_inX10 : ∀ w ∈ u_ws RX10 TX10 9, w ∈ pw_BW := fun w h => pw_bw ((by decide +kernel : ∀ w ∈ u_ws RX10 TX10 9, w ∈ lw_tbl) w h) (List.all_eq_true.mp (by decide +kernel : (u_ws RX10 TX10 9).all goodWord = true) w h)
theorem pw_inX11 : ∀ w ∈ u_ws RX11 TX11 28, w ∈ pw_BW := fun w h => pw_bw ((by decide +kernel : ∀ w ∈ u_ws RX11 TX11 28, w ∈ lw_tbl) w h) (List.all_eq_true.mp (by decide +kernel : (u_ws RX11 TX11 28).all goodWord = true) w h)
theorem mw_0 : Cond.selects RX2 yX2_append yX2_append ∈ pw_BW := pw_bw (List.mem_of_getElem? (i := 0) (by decide +kernel)) rfl
theorem mw_1 : Cond.selects RX10 yX10_refusalOfPair yX10_refusalOfPair ∈ pw_BW := pw_bw (List.mem_of_getElem? (i := 1) (by decide +kernel)) rfl
theorem mw_2 : Cond.selects RX2 yX2_follow yX2_follow ∈ pw_BW := pw_bw (List.mem_of_getElem? (i := 2) (by decide +kernel)) rfl
theorem mw_3 : Cond.selects RX10 yX10_freshNet yX10_freshNet ∈ pw_BW := pw_bw (List.mem_of_getElem? (i := 3) (by decide +kernel)) rfl
theorem mw_4 : Cond.selects RX6 yX6_isClosed yX6_isClosed ∈ pw_BW := pw_bw (List.mem_of_getElem? (i := 4) (by decide +kernel)) rfl
theorem mw_5 : Cond.selects RX6 yX6_sortBySize yX6_sortBySize ∈ pw_BW := pw_bw (List.mem_of_getElem? (i := 5) (by decide +kernel)) rfl
theorem mw_6 : Cond.selects RX9 yX9_sumOver yX9_sumOver ∈ pw_BW := pw_bw (List.mem_of_getElem? (i := 6) (by decide +kernel)) rfl
theorem mw_7 : Cond.selects RX9 yX9_over yX9_over ∈ pw_BW := pw_bw (List.mem_of_getElem? (i := 7) (by decide +kernel)) rfl
theorem mw_8 : Cond.selects RX5 yX5_seen yX5_seen ∈ pw_BW := pw_bw (List.mem_of_getElem? (i := 8) (by decide +kernel)) rfl
theorem mw_9 : Cond.selects RX5 yX5_howManyUnderWay yX5_howManyUnderWay ∈ pw_BW := pw_bw (List.mem_of_getElem? (i := 9) (by decide +kernel)) rfl
theorem mw_10 : Cond.selects RX10 yX10_markedNet yX10_markedNet ∈ pw_BW := pw_bw (List.mem_of_getElem? (i := 10) (by decide +kernel)) rfl
theorem mw_11 : Cond.selects RX4 yX4_nearestBeyond yX4_nearestBeyond ∈ pw_BW := pw_bw (List.mem_of_getElem? (i := 11) (by decide +kernel)) rfl
theorem mw_12 : Cond.selects RX11 yX11_isProcess yX11_isProcess ∈ pw_BW := pw_bw (List.mem_of_getElem? (i := 12) (by decide +kernel)) rfl
theorem mw_13 : Cond.selects RX11 yX11_comes yX11_comes ∈ pw_BW := pw_bw (List.mem_of_getElem? (i := 13) (by decide +kernel)) rfl
theorem mw_14 : Cond.selects RX11 yX11_joins yX11_joins ∈ pw_BW := pw_bw (List.mem_of_getElem? (i := 14) (by decide +kernel)) rfl
theorem mw_15 : Cond.selects RX11 yX11_isEvent yX11_isEvent ∈ pw_BW := pw_bw (List.mem_of_getElem? (i := 15) (by decide +kernel)) rfl
theorem mw_16 : Cond.selects RX11 yX11_isCut yX11_isCut ∈ pw_BW := pw_bw (List.mem_of_getElem? (i := 16) (by decide +kernel)) rfl
theorem mw_17 : Cond.selects RX11 yX11_isPossible yX11_isPossible ∈ pw_BW := pw_bw (List.mem_of_getElem? (i := 17) (by decide +kernel)) rfl
theorem mw_18 : Cond.selects RX11 yX11_open yX11_open ∈ pw_BW := pw_bw (List.mem_of_getElem? (i := 18) (by decide +kernel)) rfl
theorem mw_19 : Cond.selects RX11 yX11_count yX11_count ∈ pw_BW := pw_bw (List.mem_of_getElem? (i := 19) (by decide +kernel)) rfl
theorem mw_20 : Cond.selects RX11 yX11_whole yX11_whole ∈ pw_BW := pw_bw (List.mem_of_getElem? (i := 20) (by decide +kernel)) rfl
theorem mw_21 : Cond.selects RX11 yX11_walk yX11_walk ∈ pw_BW := pw_bw (List.mem_of_getElem? (i := 21) (by decide +kernel)) rfl
theorem mw_22 : Cond.selects RX11 yX11_push yX11_push ∈ pw_BW := pw_bw (List.mem_of_getElem? (i := 22) (by decide +kernel)) rfl
theorem mw_23 : Cond.selects RX11 yX11_copy yX11_copy ∈ pw_BW := pw_bw (List.mem_of_getElem? (i := 23) (by decide +kernel)) rfl
theorem mw_24 : Cond.selects RX11 yX11_worthOf yX11_worthOf ∈ pw_BW := pw_bw (List.mem_of_getElem? (i := 24) (by decide +kernel)) rfl
theorem mw_25 : Cond.selects RX11 yX11_nameAt yX11_nameAt ∈ pw_BW := pw_bw (List.mem_of_getElem? (i := 25) (by decide +kernel)) rfl
theorem mw_26 : Cond.selects RX11 yX11_underWay yX11_underWay ∈ pw_BW := pw_bw (List.mem_of_getElem? (i := 26) (by decide +kernel)) rfl
theorem mw_27 : Cond.selects RX11 yX11_extreme yX11_extreme ∈ pw_BW := pw_bw (List.mem_of_getElem? (i := 27) (by decide +kernel)) rfl
theorem mw_28 : Cond.selects RX11 yX11_study yX11_study ∈ pw_BW := pw_bw (List.mem_of_getElem? (i := 28) (by decide +kernel)) rfl
theorem mw_29 : Cond.selects RX11 yX11_bars yX11_bars ∈ pw_BW := pw_bw (List.mem_of_getElem? (i := 29) (by decide +kernel)) rfl
theorem mw_30 : Cond.selects RX11 yX11_isKept yX11_isKept ∈ pw_BW := pw_bw (List.mem_of_getElem? (i := 30) (by decide +kernel)) rfl
theorem mw_31 : Cond.selects RX11 yX11_isClosed yX11_isClosed ∈ pw_BW := pw_bw (List.mem_of_getElem? (i := 31) (by decide +kernel)) rfl
theorem mw_32 : Cond.selects RX11 yX11_firstWrong yX11_firstWrong ∈ pw_BW := pw_bw (List.mem_of_getElem? (i := 32) (by decide +kernel)) rfl
theorem mw_33 : Cond.initialized RL ∈ pw_BW := pw_bw (List.mem_of_getElem? (i := 33) (by decide +kernel)) rfl
theorem mw_34 : Cond.initialized RX10 ∈ pw_BW := pw_bw (List.mem_of_getElem? (i := 34) (by decide +kernel)) rfl
theorem mw_35 : Cond.initialized RX2 ∈ pw_BW := pw_bw (List.mem_of_getElem? (i := 35) (by decide +kernel)) rfl
theorem mw_36 : Cond.initialized RX3 ∈ pw_BW := pw_bw (List.mem_of_getElem? (i := 36) (by decide +kernel)) rfl
theorem mw_37 : Cond.initialized RX6 ∈ pw_BW := pw_bw (List.mem_of_getElem? (i := 37) (by decide +kernel)) rfl
theorem mw_38 : Cond.initialized RX7 ∈ pw_BW := pw_bw (List.mem_of_getElem? (i := 38) (by decide +kernel)) rfl
theorem mw_39 : Cond.initialized RX1 ∈ pw_BW := pw_bw (List.mem_of_getElem? (i := 39) (by decide +kernel)) rfl
theorem mw_40 : Cond.initialized RX0 ∈ pw_BW := pw_bw (List.mem_of_getElem? (i := 40) (by decide +kernel)) rfl
theorem mw_41 : Cond.initialized RX5 ∈ pw_BW := pw_bw (List.mem_of_getElem? (i := 41) (by decide +kernel)) rfl
theorem mw_42 : Cond.initialized RX4 ∈ pw_BW := pw_bw (List.mem_of_getElem? (i := 42) (by decide +kernel)) rfl
theorem mw_43 : Cond.initialized RX9 ∈ pw_BW := pw_bw (List.mem_of_getElem? (i := 43) (by decide +kernel)) rfl
theorem mw_44 : Cond.initialized RX8 ∈ pw_BW := pw_bw (List.mem_of_getElem? (i := 44) (by decide +kernel)) rfl
theorem mw_45 : Cond.initialized RX11 ∈ pw_BW := pw_bw (List.mem_of_getElem? (i := 45) (by decide +kernel)) rfl
theorem mw_46 : Cond.initialized RJ9 ∈ pw_BW := pw_bw (List.mem_of_getElem? (i := 46) (by decide +kernel)) rfl
theorem mw_47 : Cond.initialized RJ7 ∈ pw_BW := pw_bw (List.mem_of_getElem? (i := 47) (by decide +kernel)) rfl
theorem mw_50 : Cond.methodLink RL 9 yX10_init ∈ pw_BW := pw_bw (List.mem_of_getElem? (i := 50) (by decide +kernel)) rfl
theorem mw_51 : Cond.instanceMethod yX10_init ∈ pw_BW := pw_bw (List.mem_of_getElem? (i := 51) (by decide +kernel)) rfl
set_option maxRecDepth 40000 in
theorem mw_52 : Cond.code yX10_init cX10_init 1 none ∈ pw_BW := pw_bw (List.mem_of_getElem? (i := 52) (by rfl)) rfl
theorem mw_59 : Cond.instanceMethod yX2_init ∈ pw_BW := pw_bw (List.mem_of_getElem? (i := 59) (by decide +kernel)) rfl
set_option maxRecDepth 40000 in
theorem mw_60 : Cond.code yX2_init cX2_init 1 none ∈ pw_BW := pw_bw (List.mem_of_getElem? (i := 60) (by rfl)) rfl
theorem mw_65 : Cond.instanceMethod yX3_init ∈ pw_BW := pw_bw (List.mem_of_getElem? (i := 65) (by decide +kernel)) rfl
set_option maxRecDepth 40000 in
theorem mw_66 : Cond.code yX3_init cX3_init 1 none ∈ pw_BW := pw_bw (List.mem_of_getElem? (i := 66) (by rfl)) rfl
theorem mw_68 : Cond.fieldLink RX3 9 "PerhapsWas$Letters" "from" "[I" ∈ pw_BW := pw_bw (List.mem_of_getElem? (i := 68) (by decide +kernel)) rfl
theorem mw_69 : Cond.fieldLink RX5 74 "PerhapsWas$Letters" "from" "[I" ∈ pw_BW := pw_bw (List.mem_of_getElem? (i := 69) (by decide +kernel)) rfl
theorem mw_70 : Cond.fieldLink RX10 140 "PerhapsWas$Letters" "from" "[I" ∈ pw_BW := pw_bw (List.mem_of_getElem? (i := 70) (by decide +kernel)) rfl
theorem mw_71 : Cond.fieldLink RX2 70 "PerhapsWas$Letters" "from" "[I" ∈ pw_BW := pw_bw (List.mem_of_getElem? (i := 71) (by decide +kernel)) rfl
theorem mw_72 : Cond.fieldLink RX3 15 "PerhapsWas$Letters" "to" "[I" ∈ pw_BW := pw_bw (List.mem_of_getElem? (i := 72) (by decide +kernel)) rfl
theorem mw_73 : Cond.fieldLink RX5 77 "PerhapsWas$Letters" "to" "[I" ∈ pw_BW := pw_bw (List.mem_of_getElem? (i := 73) (by decide +kernel)) rfl
theorem mw_74 : Cond.fieldLink RX10 107 "PerhapsWas$Letters" "to" "[I" ∈ pw_BW := pw_bw (List.mem_of_getElem? (i := 74) (by decide +kernel)) rfl
theorem mw_75 : Cond.fieldLink RX2 64 "PerhapsWas$Letters" "to" "[I" ∈ pw_BW := pw_bw (List.mem_of_getElem? (i := 75) (by decide +kernel)) rfl
theorem mw_76 : Cond.fieldLink RX3 18 "PerhapsWas$Letters" "sent" "[I" ∈ pw_BW := pw_bw (List.mem_of_getElem? (i := 76) (by decide +kernel)) rfl
theorem mw_77 : Cond.fieldLink RX5 80 "PerhapsWas$Letters" "sent" "[I" ∈ pw_BW := pw_bw (List.mem_of_getElem? (i := 77) (by decide +kernel)) rfl
theorem mw_78 : Cond.fieldLink RX10 143 "PerhapsWas$Letters" "sent" "[I" ∈ pw_BW := pw_bw (List.mem_of_getElem? (i := 78) (by decide +kernel)) rfl
theorem mw_79 : Cond.fieldLink RX2 73 "PerhapsWas$Letters" "sent" "[I" ∈ pw_BW := pw_bw (List.mem_of_getElem? (i := 79) (by decide +kernel)) rfl
theorem mw_80 : Cond.fieldLink RX3 21 "PerhapsWas$Letters" "taken" "[I" ∈ pw_BW := pw_bw (List.mem_of_getElem? (i := 80) (by decide +kernel)) rfl
theorem mw_81 : Cond.fieldLink RX5 83 "PerhapsWas$Letters" "taken" "[I" ∈ pw_BW := pw_bw (List.mem_of_getElem? (i := 81) (by decide +kernel)) rfl
theorem mw_82 : Cond.fieldLink RX10 103 "PerhapsWas$Letters" "taken" "[I" ∈ pw_BW := pw_bw (List.mem_of_getElem? (i := 82) (by decide +kernel)) rfl
theorem mw_83 : Cond.fieldLink RX2 67 "PerhapsWas$Letters" "taken" "[I" ∈ pw_BW := pw_bw (List.mem_of_getElem? (i := 83) (by decide +kernel)) rfl
theorem mw_84 : Cond.fieldLink RX3 24 "PerhapsWas$Letters" "total" "I" ∈ pw_BW := pw_bw (List.mem_of_getElem? (i := 84) (by decide +kernel)) rfl
theorem mw_85 : Cond.fieldLink RX5 69 "PerhapsWas$Letters" "total" "I" ∈ pw_BW := pw_bw (List.mem_of_getElem? (i := 85) (by decide +kernel)) rfl
theorem mw_86 : Cond.fieldLink RX2 95 "PerhapsWas$Letters" "total" "I" ∈ pw_BW := pw_bw (List.mem_of_getElem? (i := 86) (by decide +kernel)) rfl
theorem mw_87 : Cond.fieldLink RX10 283 "PerhapsWas$Letters" "total" "I" ∈ pw_BW := pw_bw (List.mem_of_getElem? (i := 87) (by decide +kernel)) rfl
theorem mw_100 : Cond.fieldLink RX2 12 "PerhapsWas$History" "letters" "LPerhapsWas$Letters;" ∈ pw_BW := pw_bw (List.mem_of_getElem? (i := 100) (by decide +kernel)) rfl
theorem mw_101 : Cond.fieldLink RX5 65 "PerhapsWas$History" "letters" "LPerhapsWas$Letters;" ∈ pw_BW := pw_bw (List.mem_of_getElem? (i := 101) (by decide +kernel)) rfl
theorem mw_102 : Cond.fieldLink RX10 94 "PerhapsWas$History" "letters" "LPerhapsWas$Letters;" ∈ pw_BW := pw_bw (List.mem_of_getElem? (i := 102) (by decide +kernel)) rfl
theorem mw_103 : Cond.fieldLink RX2 18 "PerhapsWas$History" "had" "[I" ∈ pw_BW := pw_bw (List.mem_of_getElem? (i := 103) (by decide +kernel)) rfl
theorem mw_104 : Cond.fieldLink RX6 56 "PerhapsWas$History" "had" "[I" ∈ pw_BW := pw_bw (List.mem_of_getElem? (i := 104) (by decide +kernel)) rfl
theorem mw_105 : Cond.fieldLink RX10 175 "PerhapsWas$History" "had" "[I" ∈ pw_BW := pw_bw (List.mem_of_getElem? (i := 105) (by decide +kernel)) rfl
theorem mw_106 : Cond.fieldLink RX2 22 "PerhapsWas$History" "came" "[I" ∈ pw_BW := pw_bw (List.mem_of_getElem? (i := 106) (by decide +kernel)) rfl
theorem mw_107 : Cond.fieldLink RX2 25 "PerhapsWas$History" "kinds" "[I" ∈ pw_BW := pw_bw (List.mem_of_getElem? (i := 107) (by decide +kernel)) rfl
theorem mw_108 : Cond.fieldLink RX10 131 "PerhapsWas$History" "kinds" "[I" ∈ pw_BW := pw_bw (List.mem_of_getElem? (i := 108) (by decide +kernel)) rfl
theorem mw_109 : Cond.fieldLink RX2 28 "PerhapsWas$History" "subjects" "[I" ∈ pw_BW := pw_bw (List.mem_of_getElem? (i := 109) (by decide +kernel)) rfl
theorem mw_110 : Cond.fieldLink RX10 134 "PerhapsWas$History" "subjects" "[I" ∈ pw_BW := pw_bw (List.mem_of_getElem? (i := 110) (by decide +kernel)) rfl
theorem mw_111 : Cond.fieldLink RX2 31 "PerhapsWas$History" "turns" "[I" ∈ pw_BW := pw_bw (List.mem_of_getElem? (i := 111) (by decide +kernel)) rfl
theorem mw_112 : Cond.fieldLink RX10 137 "PerhapsWas$History" "turns" "[I" ∈ pw_BW := pw_bw (List.mem_of_getElem? (i := 112) (by decide +kernel)) rfl
theorem mw_113 : Cond.fieldLink RX2 34 "PerhapsWas$History" "clocks" "[I" ∈ pw_BW := pw_bw (List.mem_of_getElem? (i := 113) (by decide +kernel)) rfl
theorem mw_114 : Cond.fieldLink RX2 37 "PerhapsWas$History" "values" "[I" ∈ pw_BW := pw_bw (List.mem_of_getElem? (i := 114) (by decide +kernel)) rfl
theorem mw_115 : Cond.fieldLink RX5 54 "PerhapsWas$History" "values" "[I" ∈ pw_BW := pw_bw (List.mem_of_getElem? (i := 115) (by decide +kernel)) rfl
theorem mw_116 : Cond.fieldLink RX10 73 "PerhapsWas$History" "processes" "I" ∈ pw_BW := pw_bw (List.mem_of_getElem? (i := 116) (by decide +kernel)) rfl
theorem mw_117 : Cond.fieldLink RX2 40 "PerhapsWas$History" "processes" "I" ∈ pw_BW := pw_bw (List.mem_of_getElem? (i := 117) (by decide +kernel)) rfl
theorem mw_118 : Cond.fieldLink RX10 117 "PerhapsWas$History" "total" "I" ∈ pw_BW := pw_bw (List.mem_of_getElem? (i := 118) (by decide +kernel)) rfl
theorem mw_119 : Cond.fieldLink RX2 84 "PerhapsWas$History" "total" "I" ∈ pw_BW := pw_bw (List.mem_of_getElem? (i := 119) (by decide +kernel)) rfl
theorem mw_120 : Cond.fieldLink RX6 48 "PerhapsWas$History" "changes" "I" ∈ pw_BW := pw_bw (List.mem_of_getElem? (i := 120) (by decide +kernel)) rfl
theorem mw_121 : Cond.fieldLink RX2 87 "PerhapsWas$History" "changes" "I" ∈ pw_BW := pw_bw (List.mem_of_getElem? (i := 121) (by decide +kernel)) rfl
theorem mw_147 : Cond.methodLink RX10 18 yX6_init ∈ pw_BW := pw_bw (List.mem_of_getElem? (i := 147) (by decide +kernel)) rfl
theorem mw_148 : Cond.instanceMethod yX6_init ∈ pw_BW := pw_bw (List.mem_of_getElem? (i := 148) (by decide +kernel)) rfl
set_option maxRecDepth 40000 in
theorem mw_149 : Cond.code yX6_init cX6_init 2 none ∈ pw_BW := pw_bw (List.mem_of_getElem? (i := 149) (by rfl)) rfl
theorem mw_151 : Cond.fieldLink RX6 29 "PerhapsWas$Net" "history" "LPerhapsWas$History;" ∈ pw_BW := pw_bw (List.mem_of_getElem? (i := 151) (by decide +kernel)) rfl
theorem mw_152 : Cond.fieldLink RX6 9 "PerhapsWas$Net" "inOrder" "[I" ∈ pw_BW := pw_bw (List.mem_of_getElem? (i := 152) (by decide +kernel)) rfl
theorem mw_153 : Cond.fieldLink RX9 21 "PerhapsWas$Net" "inOrder" "[I" ∈ pw_BW := pw_bw (List.mem_of_getElem? (i := 153) (by decide +kernel)) rfl
theorem mw_154 : Cond.fieldLink RX4 29 "PerhapsWas$Net" "inOrder" "[I" ∈ pw_BW := pw_bw (List.mem_of_getElem? (i := 154) (by decide +kernel)) rfl
theorem mw_155 : Cond.fieldLink RX10 165 "PerhapsWas$Net" "inOrder" "[I" ∈ pw_BW := pw_bw (List.mem_of_getElem? (i := 155) (by decide +kernel)) rfl
theorem mw_156 : Cond.fieldLink RX6 15 "PerhapsWas$Net" "allowed" "[Z" ∈ pw_BW := pw_bw (List.mem_of_getElem? (i := 156) (by decide +kernel)) rfl
theorem mw_157 : Cond.fieldLink RX10 157 "PerhapsWas$Net" "allowed" "[Z" ∈ pw_BW := pw_bw (List.mem_of_getElem? (i := 157) (by decide +kernel)) rfl
theorem mw_158 : Cond.fieldLink RX6 19 "PerhapsWas$Net" "ends" "[I" ∈ pw_BW := pw_bw (List.mem_of_getElem? (i := 158) (by decide +kernel)) rfl
theorem mw_159 : Cond.fieldLink RX6 22 "PerhapsWas$Net" "counts" "[I" ∈ pw_BW := pw_bw (List.mem_of_getElem? (i := 159) (by decide +kernel)) rfl
theorem mw_160 : Cond.fieldLink RX9 15 "PerhapsWas$Net" "total" "I" ∈ pw_BW := pw_bw (List.mem_of_getElem? (i := 160) (by decide +kernel)) rfl
theorem mw_161 : Cond.fieldLink RX4 23 "PerhapsWas$Net" "total" "I" ∈ pw_BW := pw_bw (List.mem_of_getElem? (i := 161) (by decide +kernel)) rfl
theorem mw_162 : Cond.fieldLink RX6 83 "PerhapsWas$Net" "total" "I" ∈ pw_BW := pw_bw (List.mem_of_getElem? (i := 162) (by decide +kernel)) rfl
theorem mw_163 : Cond.fieldLink RX10 161 "PerhapsWas$Net" "total" "I" ∈ pw_BW := pw_bw (List.mem_of_getElem? (i := 163) (by decide +kernel)) rfl
theorem mw_164 : Cond.fieldLink RX9 25 "PerhapsWas$Net" "whole" "I" ∈ pw_BW := pw_bw (List.mem_of_getElem? (i := 164) (by decide +kernel)) rfl
theorem mw_165 : Cond.fieldLink RX6 53 "PerhapsWas$Net" "whole" "I" ∈ pw_BW := pw_bw (List.mem_of_getElem? (i := 165) (by decide +kernel)) rfl
theorem mw_166 : Cond.fieldLink RX6 25 "PerhapsWas$Net" "seenChanges" "I" ∈ pw_BW := pw_bw (List.mem_of_getElem? (i := 166) (by decide +kernel)) rfl
theorem mw_187 : Cond.methodLink RX10 27 yX7_init ∈ pw_BW := pw_bw (List.mem_of_getElem? (i := 187) (by decide +kernel)) rfl
theorem mw_188 : Cond.instanceMethod yX7_init ∈ pw_BW := pw_bw (List.mem_of_getElem? (i := 188) (by decide +kernel)) rfl
set_option maxRecDepth 40000 in
theorem mw_189 : Cond.code yX7_init cX7_init 2 none ∈ pw_BW := pw_bw (List.mem_of_getElem? (i := 189) (by rfl)) rfl
theorem mw_195 : Cond.instanceMethod yX1_init ∈ pw_BW := pw_bw (List.mem_of_getElem? (i := 195) (by decide +kernel)) rfl
set_option maxRecDepth 40000 in
theorem mw_196 : Cond.code yX1_init cX1_init 1 none ∈ pw_BW := pw_bw (List.mem_of_getElem? (i := 196) (by rfl)) rfl
theorem mw_198 : Cond.fieldLink RX1 9 "PerhapsWas$Formula" "kinds" "[I" ∈ pw_BW := pw_bw (List.mem_of_getElem? (i := 198) (by decide +kernel)) rfl
theorem mw_199 : Cond.fieldLink RX5 34 "PerhapsWas$Formula" "kinds" "[I" ∈ pw_BW := pw_bw (List.mem_of_getElem? (i := 199) (by decide +kernel)) rfl
theorem mw_200 : Cond.fieldLink RX1 15 "PerhapsWas$Formula" "firsts" "[I" ∈ pw_BW := pw_bw (List.mem_of_getElem? (i := 200) (by decide +kernel)) rfl
theorem mw_201 : Cond.fieldLink RX5 41 "PerhapsWas$Formula" "firsts" "[I" ∈ pw_BW := pw_bw (List.mem_of_getElem? (i := 201) (by decide +kernel)) rfl
theorem mw_202 : Cond.fieldLink RX1 18 "PerhapsWas$Formula" "seconds" "[I" ∈ pw_BW := pw_bw (List.mem_of_getElem? (i := 202) (by decide +kernel)) rfl
theorem mw_203 : Cond.fieldLink RX5 44 "PerhapsWas$Formula" "seconds" "[I" ∈ pw_BW := pw_bw (List.mem_of_getElem? (i := 203) (by decide +kernel)) rfl
theorem mw_204 : Cond.fieldLink RX7 22 "PerhapsWas$Formula" "parts" "I" ∈ pw_BW := pw_bw (List.mem_of_getElem? (i := 204) (by decide +kernel)) rfl
theorem mw_205 : Cond.fieldLink RX5 28 "PerhapsWas$Formula" "parts" "I" ∈ pw_BW := pw_bw (List.mem_of_getElem? (i := 205) (by decide +kernel)) rfl
theorem mw_206 : Cond.fieldLink RX1 21 "PerhapsWas$Formula" "parts" "I" ∈ pw_BW := pw_bw (List.mem_of_getElem? (i := 206) (by decide +kernel)) rfl
theorem mw_207 : Cond.fieldLink RX0 22 "PerhapsWas$Formula" "parts" "I" ∈ pw_BW := pw_bw (List.mem_of_getElem? (i := 207) (by decide +kernel)) rfl
theorem mw_217 : Cond.fieldLink RX7 11 "PerhapsWas$Pile" "formulas" "[LPerhapsWas$Formula;" ∈ pw_BW := pw_bw (List.mem_of_getElem? (i := 217) (by decide +kernel)) rfl
theorem mw_218 : Cond.fieldLink RX10 221 "PerhapsWas$Pile" "formulas" "[LPerhapsWas$Formula;" ∈ pw_BW := pw_bw (List.mem_of_getElem? (i := 218) (by decide +kernel)) rfl
theorem mw_219 : Cond.fieldLink RX7 18 "PerhapsWas$Pile" "tops" "I" ∈ pw_BW := pw_bw (List.mem_of_getElem? (i := 219) (by decide +kernel)) rfl
theorem mw_220 : Cond.fieldLink RX10 200 "PerhapsWas$Pile" "tops" "I" ∈ pw_BW := pw_bw (List.mem_of_getElem? (i := 220) (by decide +kernel)) rfl
theorem mw_228 : Cond.methodLink RX10 34 yX0_init ∈ pw_BW := pw_bw (List.mem_of_getElem? (i := 228) (by decide +kernel)) rfl
theorem mw_229 : Cond.instanceMethod yX0_init ∈ pw_BW := pw_bw (List.mem_of_getElem? (i := 229) (by decide +kernel)) rfl
set_option maxRecDepth 40000 in
theorem mw_230 : Cond.code yX0_init cX0_init 2 none ∈ pw_BW := pw_bw (List.mem_of_getElem? (i := 230) (by rfl)) rfl
theorem mw_234 : Cond.fieldLink RX0 11 "PerhapsWas$Conditions" "formulas" "[LPerhapsWas$Formula;" ∈ pw_BW := pw_bw (List.mem_of_getElem? (i := 234) (by decide +kernel)) rfl
theorem mw_235 : Cond.fieldLink RX10 230 "PerhapsWas$Conditions" "formulas" "[LPerhapsWas$Formula;" ∈ pw_BW := pw_bw (List.mem_of_getElem? (i := 235) (by decide +kernel)) rfl
theorem mw_236 : Cond.fieldLink RX0 18 "PerhapsWas$Conditions" "total" "I" ∈ pw_BW := pw_bw (List.mem_of_getElem? (i := 236) (by decide +kernel)) rfl
theorem mw_237 : Cond.fieldLink RX10 220 "PerhapsWas$Conditions" "total" "I" ∈ pw_BW := pw_bw (List.mem_of_getElem? (i := 237) (by decide +kernel)) rfl
theorem mw_245 : Cond.methodLink RX10 41 yX5_init ∈ pw_BW := pw_bw (List.mem_of_getElem? (i := 245) (by decide +kernel)) rfl
theorem mw_246 : Cond.instanceMethod yX5_init ∈ pw_BW := pw_bw (List.mem_of_getElem? (i := 246) (by decide +kernel)) rfl
set_option maxRecDepth 40000 in
theorem mw_247 : Cond.code yX5_init cX5_init 2 none ∈ pw_BW := pw_bw (List.mem_of_getElem? (i := 247) (by rfl)) rfl
theorem mw_249 : Cond.fieldLink RX5 18 "PerhapsWas$Moment" "history" "LPerhapsWas$History;" ∈ pw_BW := pw_bw (List.mem_of_getElem? (i := 249) (by decide +kernel)) rfl
theorem mw_250 : Cond.fieldLink RX5 9 "PerhapsWas$Moment" "counts" "[I" ∈ pw_BW := pw_bw (List.mem_of_getElem? (i := 250) (by decide +kernel)) rfl
theorem mw_251 : Cond.fieldLink RX5 15 "PerhapsWas$Moment" "pile" "[I" ∈ pw_BW := pw_bw (List.mem_of_getElem? (i := 251) (by decide +kernel)) rfl
theorem mw_261 : Cond.methodLink RX10 48 yX4_init ∈ pw_BW := pw_bw (List.mem_of_getElem? (i := 261) (by decide +kernel)) rfl
theorem mw_262 : Cond.instanceMethod yX4_init ∈ pw_BW := pw_bw (List.mem_of_getElem? (i := 262) (by decide +kernel)) rfl
set_option maxRecDepth 40000 in
theorem mw_263 : Cond.code yX4_init cX4_init 2 none ∈ pw_BW := pw_bw (List.mem_of_getElem? (i := 263) (by rfl)) rfl
theorem mw_265 : Cond.fieldLink RX4 19 "PerhapsWas$Marks" "moment" "LPerhapsWas$Moment;" ∈ pw_BW := pw_bw (List.mem_of_getElem? (i := 265) (by decide +kernel)) rfl
theorem mw_266 : Cond.fieldLink RX4 9 "PerhapsWas$Marks" "holds" "[Z" ∈ pw_BW := pw_bw (List.mem_of_getElem? (i := 266) (by decide +kernel)) rfl
theorem mw_267 : Cond.fieldLink RX10 185 "PerhapsWas$Marks" "holds" "[Z" ∈ pw_BW := pw_bw (List.mem_of_getElem? (i := 267) (by decide +kernel)) rfl
theorem mw_268 : Cond.fieldLink RX4 15 "PerhapsWas$Marks" "nearest" "[I" ∈ pw_BW := pw_bw (List.mem_of_getElem? (i := 268) (by decide +kernel)) rfl
theorem mw_279 : Cond.instanceMethod yX9_init ∈ pw_BW := pw_bw (List.mem_of_getElem? (i := 279) (by decide +kernel)) rfl
set_option maxRecDepth 40000 in
theorem mw_280 : Cond.code yX9_init cX9_init 1 none ∈ pw_BW := pw_bw (List.mem_of_getElem? (i := 280) (by rfl)) rfl
theorem mw_282 : Cond.fieldLink RX9 9 "PerhapsWas$Ways" "onward" "[J" ∈ pw_BW := pw_bw (List.mem_of_getElem? (i := 282) (by decide +kernel)) rfl
theorem mw_290 : Cond.instanceMethod yX8_init ∈ pw_BW := pw_bw (List.mem_of_getElem? (i := 290) (by decide +kernel)) rfl
set_option maxRecDepth 40000 in
theorem mw_291 : Cond.code yX8_init cX8_init 1 none ∈ pw_BW := pw_bw (List.mem_of_getElem? (i := 291) (by rfl)) rfl
theorem mw_293 : Cond.fieldLink RX8 9 "PerhapsWas$Row" "told" "[I" ∈ pw_BW := pw_bw (List.mem_of_getElem? (i := 293) (by decide +kernel)) rfl
theorem mw_294 : Cond.fieldLink RX8 15 "PerhapsWas$Row" "length" "I" ∈ pw_BW := pw_bw (List.mem_of_getElem? (i := 294) (by decide +kernel)) rfl
theorem mw_295 : Cond.fieldLink RX10 269 "PerhapsWas$Row" "length" "I" ∈ pw_BW := pw_bw (List.mem_of_getElem? (i := 295) (by decide +kernel)) rfl
theorem mw_301 : Cond.fieldLink RX10 10 "PerhapsWas" "history" "LPerhapsWas$History;" ∈ pw_BW := pw_bw (List.mem_of_getElem? (i := 301) (by decide +kernel)) rfl
theorem mw_302 : Cond.fieldLink RX10 21 "PerhapsWas" "net" "LPerhapsWas$Net;" ∈ pw_BW := pw_bw (List.mem_of_getElem? (i := 302) (by decide +kernel)) rfl
theorem mw_303 : Cond.fieldLink RX10 28 "PerhapsWas" "pile" "LPerhapsWas$Pile;" ∈ pw_BW := pw_bw (List.mem_of_getElem? (i := 303) (by decide +kernel)) rfl
theorem mw_304 : Cond.fieldLink RX10 35 "PerhapsWas" "conditions" "LPerhapsWas$Conditions;" ∈ pw_BW := pw_bw (List.mem_of_getElem? (i := 304) (by decide +kernel)) rfl
theorem mw_305 : Cond.fieldLink RX10 42 "PerhapsWas" "moment" "LPerhapsWas$Moment;" ∈ pw_BW := pw_bw (List.mem_of_getElem? (i := 305) (by decide +kernel)) rfl
theorem mw_306 : Cond.fieldLink RX10 51 "PerhapsWas" "marks" "LPerhapsWas$Marks;" ∈ pw_BW := pw_bw (List.mem_of_getElem? (i := 306) (by decide +kernel)) rfl
theorem mw_307 : Cond.fieldLink RX10 58 "PerhapsWas" "ways" "LPerhapsWas$Ways;" ∈ pw_BW := pw_bw (List.mem_of_getElem? (i := 307) (by decide +kernel)) rfl
theorem mw_308 : Cond.fieldLink RX10 65 "PerhapsWas" "row" "LPerhapsWas$Row;" ∈ pw_BW := pw_bw (List.mem_of_getElem? (i := 308) (by decide +kernel)) rfl
theorem mw_309 : Cond.fieldLink RX10 69 "PerhapsWas" "refusal" "I" ∈ pw_BW := pw_bw (List.mem_of_getElem? (i := 309) (by decide +kernel)) rfl
theorem mw_329 : Cond.methodLink RL 13 yX10_process ∈ pw_BW := pw_bw (List.mem_of_getElem? (i := 329) (by decide +kernel)) rfl
theorem mw_330 : Cond.instanceMethod yX10_process ∈ pw_BW := pw_bw (List.mem_of_getElem? (i := 330) (by decide +kernel)) rfl
theorem mw_331 : Cond.selects RX10 yX10_process yX10_process ∈ pw_BW := pw_bw (List.mem_of_getElem? (i := 331) (by decide +kernel)) rfl
set_option maxRecDepth 40000 in
theorem mw_332 : Cond.code yX10_process cX10_process 1 (some .int) ∈ pw_BW := pw_bw (List.mem_of_getElem? (i := 332) (by rfl)) rfl
theorem mw_333 : Cond.methodLink RL 18 yX10_own ∈ pw_BW := pw_bw (List.mem_of_getElem? (i := 333) (by decide +kernel)) rfl
theorem mw_334 : Cond.instanceMethod yX10_own ∈ pw_BW := pw_bw (List.mem_of_getElem? (i := 334) (by decide +kernel)) rfl
theorem mw_335 : Cond.selects RX10 yX10_own yX10_own ∈ pw_BW := pw_bw (List.mem_of_getElem? (i := 335) (by decide +kernel)) rfl
set_option maxRecDepth 40000 in
theorem mw_336 : Cond.code yX10_own cX10_own 5 (some .int) ∈ pw_BW := pw_bw (List.mem_of_getElem? (i := 336) (by rfl)) rfl
theorem mw_337 : Cond.methodLink RX10 76 yX2_hasProcess ∈ pw_BW := pw_bw (List.mem_of_getElem? (i := 337) (by decide +kernel)) rfl
theorem mw_338 : Cond.instanceMethod yX2_hasProcess ∈ pw_BW := pw_bw (List.mem_of_getElem? (i := 338) (by decide +kernel)) rfl
theorem mw_339 : Cond.selects RX2 yX2_hasProcess yX2_hasProcess ∈ pw_BW := pw_bw (List.mem_of_getElem? (i := 339) (by decide +kernel)) rfl
set_option maxRecDepth 40000 in
theorem mw_340 : Cond.code yX2_hasProcess cX2_hasProcess 2 (some .boolean) ∈ pw_BW := pw_bw (List.mem_of_getElem? (i := 340) (by rfl)) rfl
theorem mw_341 : Cond.methodLink RX10 80 yX2_isFull ∈ pw_BW := pw_bw (List.mem_of_getElem? (i := 341) (by decide +kernel)) rfl
theorem mw_342 : Cond.instanceMethod yX2_isFull ∈ pw_BW := pw_bw (List.mem_of_getElem? (i := 342) (by decide +kernel)) rfl
theorem mw_343 : Cond.selects RX2 yX2_isFull yX2_isFull ∈ pw_BW := pw_bw (List.mem_of_getElem? (i := 343) (by decide +kernel)) rfl
set_option maxRecDepth 40000 in
theorem mw_344 : Cond.code yX2_isFull cX2_isFull 2 (some .boolean) ∈ pw_BW := pw_bw (List.mem_of_getElem? (i := 344) (by rfl)) rfl
theorem mw_345 : Cond.methodLink RX10 83 yX2_change ∈ pw_BW := pw_bw (List.mem_of_getElem? (i := 345) (by decide +kernel)) rfl
theorem mw_346 : Cond.instanceMethod yX2_change ∈ pw_BW := pw_bw (List.mem_of_getElem? (i := 346) (by decide +kernel)) rfl
theorem mw_347 : Cond.selects RX2 yX2_change yX2_change ∈ pw_BW := pw_bw (List.mem_of_getElem? (i := 347) (by decide +kernel)) rfl
set_option maxRecDepth 40000 in
theorem mw_348 : Cond.code yX2_change cX2_change 7 (some .int) ∈ pw_BW := pw_bw (List.mem_of_getElem? (i := 348) (by rfl)) rfl
theorem mw_349 : Cond.methodLink RX2 55 yX2_append ∈ pw_BW := pw_bw (List.mem_of_getElem? (i := 349) (by decide +kernel)) rfl
theorem mw_351 : Cond.instanceMethod yX2_append ∈ pw_BW := pw_bw (List.mem_of_getElem? (i := 351) (by decide +kernel)) rfl
set_option maxRecDepth 40000 in
theorem mw_352 : Cond.code yX2_append cX2_append 7 (some .int) ∈ pw_BW := pw_bw (List.mem_of_getElem? (i := 352) (by rfl)) rfl
theorem mw_353 : Cond.methodLink RX2 80 yX2_place ∈ pw_BW := pw_bw (List.mem_of_getElem? (i := 353) (by decide +kernel)) rfl
theorem mw_354 : Cond.static yX2_place ∈ pw_BW := pw_bw (List.mem_of_getElem? (i := 354) (by decide +kernel)) rfl
set_option maxRecDepth 40000 in
theorem mw_355 : Cond.code yX2_place cX2_place 2 (some .int) ∈ pw_BW := pw_bw (List.mem_of_getElem? (i := 355) (by rfl)) rfl
theorem mw_356 : Cond.methodLink RX2 48 yX2_clockOf ∈ pw_BW := pw_bw (List.mem_of_getElem? (i := 356) (by decide +kernel)) rfl
theorem mw_357 : Cond.instanceMethod yX2_clockOf ∈ pw_BW := pw_bw (List.mem_of_getElem? (i := 357) (by decide +kernel)) rfl
theorem mw_358 : Cond.selects RX2 yX2_clockOf yX2_clockOf ∈ pw_BW := pw_bw (List.mem_of_getElem? (i := 358) (by decide +kernel)) rfl
set_option maxRecDepth 40000 in
theorem mw_359 : Cond.code yX2_clockOf cX2_clockOf 4 (some .int) ∈ pw_BW := pw_bw (List.mem_of_getElem? (i := 359) (by rfl)) rfl
theorem mw_360 : Cond.methodLink RX2 58 yX2_valuePlace ∈ pw_BW := pw_bw (List.mem_of_getElem? (i := 360) (by decide +kernel)) rfl
theorem mw_361 : Cond.static yX2_valuePlace ∈ pw_BW := pw_bw (List.mem_of_getElem? (i := 361) (by decide +kernel)) rfl
set_option maxRecDepth 40000 in
theorem mw_362 : Cond.code yX2_valuePlace cX2_valuePlace 3 (some .int) ∈ pw_BW := pw_bw (List.mem_of_getElem? (i := 362) (by rfl)) rfl
theorem mw_363 : Cond.methodLink RL 23 yX10_send ∈ pw_BW := pw_bw (List.mem_of_getElem? (i := 363) (by decide +kernel)) rfl
theorem mw_364 : Cond.instanceMethod yX10_send ∈ pw_BW := pw_bw (List.mem_of_getElem? (i := 364) (by decide +kernel)) rfl
theorem mw_365 : Cond.selects RX10 yX10_send yX10_send ∈ pw_BW := pw_bw (List.mem_of_getElem? (i := 365) (by decide +kernel)) rfl
set_option maxRecDepth 40000 in
theorem mw_366 : Cond.code yX10_send cX10_send 4 (some .int) ∈ pw_BW := pw_bw (List.mem_of_getElem? (i := 366) (by rfl)) rfl
theorem mw_367 : Cond.methodLink RX10 87 yX10_refusalOfPair ∈ pw_BW := pw_bw (List.mem_of_getElem? (i := 367) (by decide +kernel)) rfl
theorem mw_369 : Cond.instanceMethod yX10_refusalOfPair ∈ pw_BW := pw_bw (List.mem_of_getElem? (i := 369) (by decide +kernel)) rfl
set_option maxRecDepth 40000 in
theorem mw_370 : Cond.code yX10_refusalOfPair cX10_refusalOfPair 3 (some .int) ∈ pw_BW := pw_bw (List.mem_of_getElem? (i := 370) (by rfl)) rfl
theorem mw_371 : Cond.methodLink RX10 91 yX2_sendOut ∈ pw_BW := pw_bw (List.mem_of_getElem? (i := 371) (by decide +kernel)) rfl
theorem mw_372 : Cond.instanceMethod yX2_sendOut ∈ pw_BW := pw_bw (List.mem_of_getElem? (i := 372) (by decide +kernel)) rfl
theorem mw_373 : Cond.selects RX2 yX2_sendOut yX2_sendOut ∈ pw_BW := pw_bw (List.mem_of_getElem? (i := 373) (by decide +kernel)) rfl
set_option maxRecDepth 40000 in
theorem mw_374 : Cond.code yX2_sendOut cX2_sendOut 4 (some .int) ∈ pw_BW := pw_bw (List.mem_of_getElem? (i := 374) (by rfl)) rfl
theorem mw_375 : Cond.methodLink RX2 61 yX3_write ∈ pw_BW := pw_bw (List.mem_of_getElem? (i := 375) (by decide +kernel)) rfl
theorem mw_376 : Cond.instanceMethod yX3_write ∈ pw_BW := pw_bw (List.mem_of_getElem? (i := 376) (by decide +kernel)) rfl
theorem mw_377 : Cond.selects RX3 yX3_write yX3_write ∈ pw_BW := pw_bw (List.mem_of_getElem? (i := 377) (by decide +kernel)) rfl
set_option maxRecDepth 40000 in
theorem mw_378 : Cond.code yX3_write cX3_write 5 (some .int) ∈ pw_BW := pw_bw (List.mem_of_getElem? (i := 378) (by rfl)) rfl
theorem mw_379 : Cond.methodLink RL 28 yX10_take ∈ pw_BW := pw_bw (List.mem_of_getElem? (i := 379) (by decide +kernel)) rfl
theorem mw_380 : Cond.instanceMethod yX10_take ∈ pw_BW := pw_bw (List.mem_of_getElem? (i := 380) (by decide +kernel)) rfl
theorem mw_381 : Cond.selects RX10 yX10_take yX10_take ∈ pw_BW := pw_bw (List.mem_of_getElem? (i := 381) (by decide +kernel)) rfl
set_option maxRecDepth 40000 in
theorem mw_382 : Cond.code yX10_take cX10_take 3 (some .int) ∈ pw_BW := pw_bw (List.mem_of_getElem? (i := 382) (by rfl)) rfl
theorem mw_383 : Cond.methodLink RX10 98 yX3_has ∈ pw_BW := pw_bw (List.mem_of_getElem? (i := 383) (by decide +kernel)) rfl
theorem mw_384 : Cond.instanceMethod yX3_has ∈ pw_BW := pw_bw (List.mem_of_getElem? (i := 384) (by decide +kernel)) rfl
theorem mw_385 : Cond.selects RX3 yX3_has yX3_has ∈ pw_BW := pw_bw (List.mem_of_getElem? (i := 385) (by decide +kernel)) rfl
set_option maxRecDepth 40000 in
theorem mw_386 : Cond.code yX3_has cX3_has 2 (some .boolean) ∈ pw_BW := pw_bw (List.mem_of_getElem? (i := 386) (by rfl)) rfl
theorem mw_387 : Cond.methodLink RX10 110 yX2_takeIn ∈ pw_BW := pw_bw (List.mem_of_getElem? (i := 387) (by decide +kernel)) rfl
theorem mw_388 : Cond.instanceMethod yX2_takeIn ∈ pw_BW := pw_bw (List.mem_of_getElem? (i := 388) (by decide +kernel)) rfl
theorem mw_389 : Cond.selects RX2 yX2_takeIn yX2_takeIn ∈ pw_BW := pw_bw (List.mem_of_getElem? (i := 389) (by decide +kernel)) rfl
set_option maxRecDepth 40000 in
theorem mw_390 : Cond.code yX2_takeIn cX2_takeIn 4 (some .int) ∈ pw_BW := pw_bw (List.mem_of_getElem? (i := 390) (by rfl)) rfl
theorem mw_391 : Cond.methodLink RX2 76 yX2_follow ∈ pw_BW := pw_bw (List.mem_of_getElem? (i := 391) (by decide +kernel)) rfl
theorem mw_393 : Cond.instanceMethod yX2_follow ∈ pw_BW := pw_bw (List.mem_of_getElem? (i := 393) (by decide +kernel)) rfl
set_option maxRecDepth 40000 in
theorem mw_394 : Cond.code yX2_follow cX2_follow 6 none ∈ pw_BW := pw_bw (List.mem_of_getElem? (i := 394) (by rfl)) rfl
theorem mw_395 : Cond.methodLink RX2 90 yJ9_max_7cf53 ∈ pw_BW := pw_bw (List.mem_of_getElem? (i := 395) (by decide +kernel)) rfl
theorem mw_396 : Cond.static yJ9_max_7cf53 ∈ pw_BW := pw_bw (List.mem_of_getElem? (i := 396) (by decide +kernel)) rfl
set_option maxRecDepth 40000 in
theorem mw_397 : Cond.code yJ9_max_7cf53 cJ9_max_7cf53 2 (some .int) ∈ pw_BW := pw_bw (List.mem_of_getElem? (i := 397) (by rfl)) rfl
theorem mw_398 : Cond.methodLink RL 33 yX10_wait ∈ pw_BW := pw_bw (List.mem_of_getElem? (i := 398) (by decide +kernel)) rfl
theorem mw_399 : Cond.instanceMethod yX10_wait ∈ pw_BW := pw_bw (List.mem_of_getElem? (i := 399) (by decide +kernel)) rfl
theorem mw_400 : Cond.selects RX10 yX10_wait yX10_wait ∈ pw_BW := pw_bw (List.mem_of_getElem? (i := 400) (by decide +kernel)) rfl
set_option maxRecDepth 40000 in
theorem mw_401 : Cond.code yX10_wait cX10_wait 4 (some .int) ∈ pw_BW := pw_bw (List.mem_of_getElem? (i := 401) (by rfl)) rfl
theorem mw_402 : Cond.methodLink RX10 114 yX2_awaitAll ∈ pw_BW := pw_bw (List.mem_of_getElem? (i := 402) (by decide +kernel)) rfl
theorem mw_403 : Cond.instanceMethod yX2_awaitAll ∈ pw_BW := pw_bw (List.mem_of_getElem? (i := 403) (by decide +kernel)) rfl
theorem mw_404 : Cond.selects RX2 yX2_awaitAll yX2_awaitAll ∈ pw_BW := pw_bw (List.mem_of_getElem? (i := 404) (by decide +kernel)) rfl
set_option maxRecDepth 40000 in
theorem mw_405 : Cond.code yX2_awaitAll cX2_awaitAll 4 (some .int) ∈ pw_BW := pw_bw (List.mem_of_getElem? (i := 405) (by rfl)) rfl
theorem mw_406 : Cond.methodLink RL 37 yX10_undo ∈ pw_BW := pw_bw (List.mem_of_getElem? (i := 406) (by decide +kernel)) rfl
theorem mw_407 : Cond.instanceMethod yX10_undo ∈ pw_BW := pw_bw (List.mem_of_getElem? (i := 407) (by decide +kernel)) rfl
theorem mw_408 : Cond.selects RX10 yX10_undo yX10_undo ∈ pw_BW := pw_bw (List.mem_of_getElem? (i := 408) (by decide +kernel)) rfl
set_option maxRecDepth 40000 in
theorem mw_409 : Cond.code yX10_undo cX10_undo 1 (some .int) ∈ pw_BW := pw_bw (List.mem_of_getElem? (i := 409) (by rfl)) rfl
theorem mw_410 : Cond.methodLink RX10 120 yX2_takeBack ∈ pw_BW := pw_bw (List.mem_of_getElem? (i := 410) (by decide +kernel)) rfl
theorem mw_411 : Cond.instanceMethod yX2_takeBack ∈ pw_BW := pw_bw (List.mem_of_getElem? (i := 411) (by decide +kernel)) rfl
theorem mw_412 : Cond.selects RX2 yX2_takeBack yX2_takeBack ∈ pw_BW := pw_bw (List.mem_of_getElem? (i := 412) (by decide +kernel)) rfl
set_option maxRecDepth 40000 in
theorem mw_413 : Cond.code yX2_takeBack cX2_takeBack 3 (some .int) ∈ pw_BW := pw_bw (List.mem_of_getElem? (i := 413) (by rfl)) rfl
theorem mw_414 : Cond.methodLink RL 41 yX10_event ∈ pw_BW := pw_bw (List.mem_of_getElem? (i := 414) (by decide +kernel)) rfl
theorem mw_415 : Cond.instanceMethod yX10_event ∈ pw_BW := pw_bw (List.mem_of_getElem? (i := 415) (by decide +kernel)) rfl
theorem mw_416 : Cond.selects RX10 yX10_event yX10_event ∈ pw_BW := pw_bw (List.mem_of_getElem? (i := 416) (by decide +kernel)) rfl
set_option maxRecDepth 40000 in
theorem mw_417 : Cond.code yX10_event cX10_event 5 (some .int) ∈ pw_BW := pw_bw (List.mem_of_getElem? (i := 417) (by rfl)) rfl
theorem mw_418 : Cond.methodLink RX10 124 yX2_hasEvent ∈ pw_BW := pw_bw (List.mem_of_getElem? (i := 418) (by decide +kernel)) rfl
theorem mw_419 : Cond.instanceMethod yX2_hasEvent ∈ pw_BW := pw_bw (List.mem_of_getElem? (i := 419) (by decide +kernel)) rfl
theorem mw_420 : Cond.selects RX2 yX2_hasEvent yX2_hasEvent ∈ pw_BW := pw_bw (List.mem_of_getElem? (i := 420) (by decide +kernel)) rfl
set_option maxRecDepth 40000 in
theorem mw_421 : Cond.code yX2_hasEvent cX2_hasEvent 3 (some .boolean) ∈ pw_BW := pw_bw (List.mem_of_getElem? (i := 421) (by rfl)) rfl
theorem mw_422 : Cond.methodLink RX2 44 yX2_hasProcess ∈ pw_BW := pw_bw (List.mem_of_getElem? (i := 422) (by decide +kernel)) rfl
theorem mw_423 : Cond.methodLink RX10 128 yX2_place ∈ pw_BW := pw_bw (List.mem_of_getElem? (i := 423) (by decide +kernel)) rfl
theorem mw_424 : Cond.methodLink RL 46 yX10_letter ∈ pw_BW := pw_bw (List.mem_of_getElem? (i := 424) (by decide +kernel)) rfl
theorem mw_425 : Cond.instanceMethod yX10_letter ∈ pw_BW := pw_bw (List.mem_of_getElem? (i := 425) (by decide +kernel)) rfl
theorem mw_426 : Cond.selects RX10 yX10_letter yX10_letter ∈ pw_BW := pw_bw (List.mem_of_getElem? (i := 426) (by decide +kernel)) rfl
set_option maxRecDepth 40000 in
theorem mw_427 : Cond.code yX10_letter cX10_letter 4 (some .int) ∈ pw_BW := pw_bw (List.mem_of_getElem? (i := 427) (by rfl)) rfl
theorem mw_428 : Cond.methodLink RL 50 yX10_ahead ∈ pw_BW := pw_bw (List.mem_of_getElem? (i := 428) (by decide +kernel)) rfl
theorem mw_429 : Cond.instanceMethod yX10_ahead ∈ pw_BW := pw_bw (List.mem_of_getElem? (i := 429) (by decide +kernel)) rfl
theorem mw_430 : Cond.selects RX10 yX10_ahead yX10_ahead ∈ pw_BW := pw_bw (List.mem_of_getElem? (i := 430) (by decide +kernel)) rfl
set_option maxRecDepth 40000 in
theorem mw_431 : Cond.code yX10_ahead cX10_ahead 5 (some .int) ∈ pw_BW := pw_bw (List.mem_of_getElem? (i := 431) (by rfl)) rfl
theorem mw_432 : Cond.methodLink RX10 146 yX2_clockOf ∈ pw_BW := pw_bw (List.mem_of_getElem? (i := 432) (by decide +kernel)) rfl
theorem mw_433 : Cond.methodLink RL 54 yX10_clock ∈ pw_BW := pw_bw (List.mem_of_getElem? (i := 433) (by decide +kernel)) rfl
theorem mw_434 : Cond.instanceMethod yX10_clock ∈ pw_BW := pw_bw (List.mem_of_getElem? (i := 434) (by decide +kernel)) rfl
theorem mw_435 : Cond.selects RX10 yX10_clock yX10_clock ∈ pw_BW := pw_bw (List.mem_of_getElem? (i := 435) (by decide +kernel)) rfl
set_option maxRecDepth 40000 in
theorem mw_436 : Cond.code yX10_clock cX10_clock 4 (some .int) ∈ pw_BW := pw_bw (List.mem_of_getElem? (i := 436) (by rfl)) rfl
theorem mw_437 : Cond.methodLink RL 58 yX10_possible ∈ pw_BW := pw_bw (List.mem_of_getElem? (i := 437) (by decide +kernel)) rfl
theorem mw_438 : Cond.instanceMethod yX10_possible ∈ pw_BW := pw_bw (List.mem_of_getElem? (i := 438) (by decide +kernel)) rfl
theorem mw_439 : Cond.selects RX10 yX10_possible yX10_possible ∈ pw_BW := pw_bw (List.mem_of_getElem? (i := 439) (by decide +kernel)) rfl
set_option maxRecDepth 40000 in
theorem mw_440 : Cond.code yX10_possible cX10_possible 2 (some .int) ∈ pw_BW := pw_bw (List.mem_of_getElem? (i := 440) (by rfl)) rfl
theorem mw_441 : Cond.methodLink RX10 150 yX2_hasCut ∈ pw_BW := pw_bw (List.mem_of_getElem? (i := 441) (by decide +kernel)) rfl
theorem mw_442 : Cond.instanceMethod yX2_hasCut ∈ pw_BW := pw_bw (List.mem_of_getElem? (i := 442) (by decide +kernel)) rfl
theorem mw_443 : Cond.selects RX2 yX2_hasCut yX2_hasCut ∈ pw_BW := pw_bw (List.mem_of_getElem? (i := 443) (by decide +kernel)) rfl
set_option maxRecDepth 40000 in
theorem mw_444 : Cond.code yX2_hasCut cX2_hasCut 4 (some .boolean) ∈ pw_BW := pw_bw (List.mem_of_getElem? (i := 444) (by rfl)) rfl
theorem mw_445 : Cond.methodLink RX10 153 yX10_freshNet ∈ pw_BW := pw_bw (List.mem_of_getElem? (i := 445) (by decide +kernel)) rfl
theorem mw_447 : Cond.instanceMethod yX10_freshNet ∈ pw_BW := pw_bw (List.mem_of_getElem? (i := 447) (by decide +kernel)) rfl
set_option maxRecDepth 40000 in
theorem mw_448 : Cond.code yX10_freshNet cX10_freshNet 1 (some (.object RX6)) ∈ pw_BW := pw_bw (List.mem_of_getElem? (i := 448) (by rfl)) rfl
theorem mw_449 : Cond.methodLink RX10 287 yX6_refresh ∈ pw_BW := pw_bw (List.mem_of_getElem? (i := 449) (by decide +kernel)) rfl
theorem mw_450 : Cond.instanceMethod yX6_refresh ∈ pw_BW := pw_bw (List.mem_of_getElem? (i := 450) (by decide +kernel)) rfl
theorem mw_451 : Cond.selects RX6 yX6_refresh yX6_refresh ∈ pw_BW := pw_bw (List.mem_of_getElem? (i := 451) (by decide +kernel)) rfl
set_option maxRecDepth 40000 in
theorem mw_452 : Cond.code yX6_refresh cX6_refresh 2 none ∈ pw_BW := pw_bw (List.mem_of_getElem? (i := 452) (by rfl)) rfl
theorem mw_455 : Cond.methodLink RX6 59 yX2_hasCut ∈ pw_BW := pw_bw (List.mem_of_getElem? (i := 455) (by decide +kernel)) rfl
theorem mw_456 : Cond.methodLink RX6 63 yX6_isClosed ∈ pw_BW := pw_bw (List.mem_of_getElem? (i := 456) (by decide +kernel)) rfl
theorem mw_458 : Cond.instanceMethod yX6_isClosed ∈ pw_BW := pw_bw (List.mem_of_getElem? (i := 458) (by decide +kernel)) rfl
set_option maxRecDepth 40000 in
theorem mw_459 : Cond.code yX6_isClosed cX6_isClosed 5 (some .boolean) ∈ pw_BW := pw_bw (List.mem_of_getElem? (i := 459) (by rfl)) rfl
theorem mw_460 : Cond.methodLink RX6 69 yX2_clockOf ∈ pw_BW := pw_bw (List.mem_of_getElem? (i := 460) (by decide +kernel)) rfl
theorem mw_461 : Cond.methodLink RX6 66 yX6_sortBySize ∈ pw_BW := pw_bw (List.mem_of_getElem? (i := 461) (by decide +kernel)) rfl
theorem mw_463 : Cond.instanceMethod yX6_sortBySize ∈ pw_BW := pw_bw (List.mem_of_getElem? (i := 463) (by decide +kernel)) rfl
set_option maxRecDepth 40000 in
theorem mw_464 : Cond.code yX6_sortBySize cX6_sortBySize 3 none ∈ pw_BW := pw_bw (List.mem_of_getElem? (i := 464) (by rfl)) rfl
theorem mw_465 : Cond.methodLink RX6 73 yJ7_fill_53178 ∈ pw_BW := pw_bw (List.mem_of_getElem? (i := 465) (by decide +kernel)) rfl
theorem mw_466 : Cond.static yJ7_fill_53178 ∈ pw_BW := pw_bw (List.mem_of_getElem? (i := 466) (by decide +kernel)) rfl
set_option maxRecDepth 40000 in
theorem mw_467 : Cond.code yJ7_fill_53178 cJ7_fill_53178 4 none ∈ pw_BW := pw_bw (List.mem_of_getElem? (i := 467) (by rfl)) rfl
theorem mw_468 : Cond.methodLink RX6 79 yX6_sizeOf ∈ pw_BW := pw_bw (List.mem_of_getElem? (i := 468) (by decide +kernel)) rfl
theorem mw_469 : Cond.static yX6_sizeOf ∈ pw_BW := pw_bw (List.mem_of_getElem? (i := 469) (by decide +kernel)) rfl
set_option maxRecDepth 40000 in
theorem mw_470 : Cond.code yX6_sizeOf cX6_sizeOf 4 (some .int) ∈ pw_BW := pw_bw (List.mem_of_getElem? (i := 470) (by rfl)) rfl
theorem mw_471 : Cond.methodLink RL 62 yX10_cuts ∈ pw_BW := pw_bw (List.mem_of_getElem? (i := 471) (by decide +kernel)) rfl
theorem mw_472 : Cond.instanceMethod yX10_cuts ∈ pw_BW := pw_bw (List.mem_of_getElem? (i := 472) (by decide +kernel)) rfl
theorem mw_473 : Cond.selects RX10 yX10_cuts yX10_cuts ∈ pw_BW := pw_bw (List.mem_of_getElem? (i := 473) (by decide +kernel)) rfl
set_option maxRecDepth 40000 in
theorem mw_474 : Cond.code yX10_cuts cX10_cuts 3 (some .int) ∈ pw_BW := pw_bw (List.mem_of_getElem? (i := 474) (by rfl)) rfl
theorem mw_475 : Cond.methodLink RX10 162 yX6_howManyOf ∈ pw_BW := pw_bw (List.mem_of_getElem? (i := 475) (by decide +kernel)) rfl
theorem mw_476 : Cond.instanceMethod yX6_howManyOf ∈ pw_BW := pw_bw (List.mem_of_getElem? (i := 476) (by decide +kernel)) rfl
theorem mw_477 : Cond.selects RX6 yX6_howManyOf yX6_howManyOf ∈ pw_BW := pw_bw (List.mem_of_getElem? (i := 477) (by decide +kernel)) rfl
set_option maxRecDepth 40000 in
theorem mw_478 : Cond.code yX6_howManyOf cX6_howManyOf 2 (some .int) ∈ pw_BW := pw_bw (List.mem_of_getElem? (i := 478) (by rfl)) rfl
theorem mw_479 : Cond.methodLink RL 66 yX10_next ∈ pw_BW := pw_bw (List.mem_of_getElem? (i := 479) (by decide +kernel)) rfl
theorem mw_480 : Cond.instanceMethod yX10_next ∈ pw_BW := pw_bw (List.mem_of_getElem? (i := 480) (by decide +kernel)) rfl
theorem mw_481 : Cond.selects RX10 yX10_next yX10_next ∈ pw_BW := pw_bw (List.mem_of_getElem? (i := 481) (by decide +kernel)) rfl
set_option maxRecDepth 40000 in
theorem mw_482 : Cond.code yX10_next cX10_next 2 (some .int) ∈ pw_BW := pw_bw (List.mem_of_getElem? (i := 482) (by rfl)) rfl
theorem mw_483 : Cond.methodLink RX10 168 yX6_firstBehind ∈ pw_BW := pw_bw (List.mem_of_getElem? (i := 483) (by decide +kernel)) rfl
theorem mw_484 : Cond.instanceMethod yX6_firstBehind ∈ pw_BW := pw_bw (List.mem_of_getElem? (i := 484) (by decide +kernel)) rfl
theorem mw_485 : Cond.selects RX6 yX6_firstBehind yX6_firstBehind ∈ pw_BW := pw_bw (List.mem_of_getElem? (i := 485) (by decide +kernel)) rfl
set_option maxRecDepth 40000 in
theorem mw_486 : Cond.code yX6_firstBehind cX6_firstBehind 4 (some .int) ∈ pw_BW := pw_bw (List.mem_of_getElem? (i := 486) (by rfl)) rfl
theorem mw_487 : Cond.methodLink RL 70 yX10_join ∈ pw_BW := pw_bw (List.mem_of_getElem? (i := 487) (by decide +kernel)) rfl
theorem mw_488 : Cond.instanceMethod yX10_join ∈ pw_BW := pw_bw (List.mem_of_getElem? (i := 488) (by decide +kernel)) rfl
theorem mw_489 : Cond.selects RX10 yX10_join yX10_join ∈ pw_BW := pw_bw (List.mem_of_getElem? (i := 489) (by decide +kernel)) rfl
set_option maxRecDepth 40000 in
theorem mw_490 : Cond.code yX10_join cX10_join 4 (some .int) ∈ pw_BW := pw_bw (List.mem_of_getElem? (i := 490) (by rfl)) rfl
theorem mw_491 : Cond.methodLink RX10 171 yX6_combine ∈ pw_BW := pw_bw (List.mem_of_getElem? (i := 491) (by decide +kernel)) rfl
theorem mw_492 : Cond.static yX6_combine ∈ pw_BW := pw_bw (List.mem_of_getElem? (i := 492) (by decide +kernel)) rfl
set_option maxRecDepth 40000 in
theorem mw_493 : Cond.code yX6_combine cX6_combine 7 (some .int) ∈ pw_BW := pw_bw (List.mem_of_getElem? (i := 493) (by rfl)) rfl
theorem mw_494 : Cond.methodLink RX6 33 yX6_shareOf ∈ pw_BW := pw_bw (List.mem_of_getElem? (i := 494) (by decide +kernel)) rfl
theorem mw_495 : Cond.static yX6_shareOf ∈ pw_BW := pw_bw (List.mem_of_getElem? (i := 495) (by decide +kernel)) rfl
set_option maxRecDepth 40000 in
theorem mw_496 : Cond.code yX6_shareOf cX6_shareOf 4 (some .int) ∈ pw_BW := pw_bw (List.mem_of_getElem? (i := 496) (by rfl)) rfl
theorem mw_497 : Cond.methodLink RX6 37 yJ9_min_7cf53 ∈ pw_BW := pw_bw (List.mem_of_getElem? (i := 497) (by decide +kernel)) rfl
theorem mw_498 : Cond.static yJ9_min_7cf53 ∈ pw_BW := pw_bw (List.mem_of_getElem? (i := 498) (by decide +kernel)) rfl
set_option maxRecDepth 40000 in
theorem mw_499 : Cond.code yJ9_min_7cf53 cJ9_min_7cf53 2 (some .int) ∈ pw_BW := pw_bw (List.mem_of_getElem? (i := 499) (by rfl)) rfl
theorem mw_500 : Cond.methodLink RX6 42 yJ9_max_7cf53 ∈ pw_BW := pw_bw (List.mem_of_getElem? (i := 500) (by decide +kernel)) rfl
theorem mw_501 : Cond.methodLink RL 74 yX10_least ∈ pw_BW := pw_bw (List.mem_of_getElem? (i := 501) (by decide +kernel)) rfl
theorem mw_502 : Cond.instanceMethod yX10_least ∈ pw_BW := pw_bw (List.mem_of_getElem? (i := 502) (by decide +kernel)) rfl
theorem mw_503 : Cond.selects RX10 yX10_least yX10_least ∈ pw_BW := pw_bw (List.mem_of_getElem? (i := 503) (by decide +kernel)) rfl
set_option maxRecDepth 40000 in
theorem mw_504 : Cond.code yX10_least cX10_least 3 (some .int) ∈ pw_BW := pw_bw (List.mem_of_getElem? (i := 504) (by rfl)) rfl
theorem mw_505 : Cond.methodLink RX10 178 yX2_leastWith ∈ pw_BW := pw_bw (List.mem_of_getElem? (i := 505) (by decide +kernel)) rfl
theorem mw_506 : Cond.instanceMethod yX2_leastWith ∈ pw_BW := pw_bw (List.mem_of_getElem? (i := 506) (by decide +kernel)) rfl
theorem mw_507 : Cond.selects RX2 yX2_leastWith yX2_leastWith ∈ pw_BW := pw_bw (List.mem_of_getElem? (i := 507) (by decide +kernel)) rfl
set_option maxRecDepth 40000 in
theorem mw_508 : Cond.code yX2_leastWith cX2_leastWith 5 (some .int) ∈ pw_BW := pw_bw (List.mem_of_getElem? (i := 508) (by rfl)) rfl
theorem mw_510 : Cond.methodLink RL 78 yX10_orders ∈ pw_BW := pw_bw (List.mem_of_getElem? (i := 510) (by decide +kernel)) rfl
theorem mw_511 : Cond.instanceMethod yX10_orders ∈ pw_BW := pw_bw (List.mem_of_getElem? (i := 511) (by decide +kernel)) rfl
theorem mw_512 : Cond.selects RX10 yX10_orders yX10_orders ∈ pw_BW := pw_bw (List.mem_of_getElem? (i := 512) (by decide +kernel)) rfl
set_option maxRecDepth 40000 in
theorem mw_513 : Cond.code yX10_orders cX10_orders 2 (some .long) ∈ pw_BW := pw_bw (List.mem_of_getElem? (i := 513) (by rfl)) rfl
theorem mw_514 : Cond.methodLink RX10 181 yX4_wipe ∈ pw_BW := pw_bw (List.mem_of_getElem? (i := 514) (by decide +kernel)) rfl
theorem mw_515 : Cond.instanceMethod yX4_wipe ∈ pw_BW := pw_bw (List.mem_of_getElem? (i := 515) (by decide +kernel)) rfl
theorem mw_516 : Cond.selects RX4 yX4_wipe yX4_wipe ∈ pw_BW := pw_bw (List.mem_of_getElem? (i := 516) (by decide +kernel)) rfl
set_option maxRecDepth 40000 in
theorem mw_517 : Cond.code yX4_wipe cX4_wipe 3 none ∈ pw_BW := pw_bw (List.mem_of_getElem? (i := 517) (by rfl)) rfl
theorem mw_518 : Cond.methodLink RX10 188 yX9_fill ∈ pw_BW := pw_bw (List.mem_of_getElem? (i := 518) (by decide +kernel)) rfl
theorem mw_519 : Cond.instanceMethod yX9_fill ∈ pw_BW := pw_bw (List.mem_of_getElem? (i := 519) (by decide +kernel)) rfl
theorem mw_520 : Cond.selects RX9 yX9_fill yX9_fill ∈ pw_BW := pw_bw (List.mem_of_getElem? (i := 520) (by decide +kernel)) rfl
set_option maxRecDepth 40000 in
theorem mw_521 : Cond.code yX9_fill cX9_fill 5 (some .long) ∈ pw_BW := pw_bw (List.mem_of_getElem? (i := 521) (by rfl)) rfl
theorem mw_522 : Cond.methodLink RX9 28 yX9_sumOver ∈ pw_BW := pw_bw (List.mem_of_getElem? (i := 522) (by decide +kernel)) rfl
theorem mw_524 : Cond.instanceMethod yX9_sumOver ∈ pw_BW := pw_bw (List.mem_of_getElem? (i := 524) (by decide +kernel)) rfl
set_option maxRecDepth 40000 in
theorem mw_525 : Cond.code yX9_sumOver cX9_sumOver 6 (some .long) ∈ pw_BW := pw_bw (List.mem_of_getElem? (i := 525) (by rfl)) rfl
theorem mw_526 : Cond.methodLink RX9 38 yX9_over ∈ pw_BW := pw_bw (List.mem_of_getElem? (i := 526) (by decide +kernel)) rfl
theorem mw_528 : Cond.instanceMethod yX9_over ∈ pw_BW := pw_bw (List.mem_of_getElem? (i := 528) (by decide +kernel)) rfl
set_option maxRecDepth 40000 in
theorem mw_529 : Cond.code yX9_over cX9_over 5 (some .long) ∈ pw_BW := pw_bw (List.mem_of_getElem? (i := 529) (by rfl)) rfl
theorem mw_530 : Cond.methodLink RX9 42 yX6_up ∈ pw_BW := pw_bw (List.mem_of_getElem? (i := 530) (by decide +kernel)) rfl
theorem mw_531 : Cond.instanceMethod yX6_up ∈ pw_BW := pw_bw (List.mem_of_getElem? (i := 531) (by decide +kernel)) rfl
theorem mw_532 : Cond.selects RX6 yX6_up yX6_up ∈ pw_BW := pw_bw (List.mem_of_getElem? (i := 532) (by decide +kernel)) rfl
set_option maxRecDepth 40000 in
theorem mw_533 : Cond.code yX6_up cX6_up 4 (some .int) ∈ pw_BW := pw_bw (List.mem_of_getElem? (i := 533) (by rfl)) rfl
theorem mw_534 : Cond.methodLink RL 85 yX10_order ∈ pw_BW := pw_bw (List.mem_of_getElem? (i := 534) (by decide +kernel)) rfl
theorem mw_535 : Cond.instanceMethod yX10_order ∈ pw_BW := pw_bw (List.mem_of_getElem? (i := 535) (by decide +kernel)) rfl
theorem mw_536 : Cond.selects RX10 yX10_order yX10_order ∈ pw_BW := pw_bw (List.mem_of_getElem? (i := 536) (by decide +kernel)) rfl
set_option maxRecDepth 40000 in
theorem mw_537 : Cond.code yX10_order cX10_order 4 (some .int) ∈ pw_BW := pw_bw (List.mem_of_getElem? (i := 537) (by rfl)) rfl
theorem mw_538 : Cond.methodLink RX10 192 yX10_orders ∈ pw_BW := pw_bw (List.mem_of_getElem? (i := 538) (by decide +kernel)) rfl
theorem mw_539 : Cond.methodLink RX10 196 yX9_processAt ∈ pw_BW := pw_bw (List.mem_of_getElem? (i := 539) (by decide +kernel)) rfl
theorem mw_540 : Cond.instanceMethod yX9_processAt ∈ pw_BW := pw_bw (List.mem_of_getElem? (i := 540) (by decide +kernel)) rfl
theorem mw_541 : Cond.selects RX9 yX9_processAt yX9_processAt ∈ pw_BW := pw_bw (List.mem_of_getElem? (i := 541) (by decide +kernel)) rfl
set_option maxRecDepth 40000 in
theorem mw_542 : Cond.code yX9_processAt cX9_processAt 10 (some .int) ∈ pw_BW := pw_bw (List.mem_of_getElem? (i := 542) (by rfl)) rfl
theorem mw_544 : Cond.methodLink RL 90 yX10_number ∈ pw_BW := pw_bw (List.mem_of_getElem? (i := 544) (by decide +kernel)) rfl
theorem mw_545 : Cond.instanceMethod yX10_number ∈ pw_BW := pw_bw (List.mem_of_getElem? (i := 545) (by decide +kernel)) rfl
theorem mw_546 : Cond.selects RX10 yX10_number yX10_number ∈ pw_BW := pw_bw (List.mem_of_getElem? (i := 546) (by decide +kernel)) rfl
set_option maxRecDepth 40000 in
theorem mw_547 : Cond.code yX10_number cX10_number 2 (some .int) ∈ pw_BW := pw_bw (List.mem_of_getElem? (i := 547) (by rfl)) rfl
theorem mw_548 : Cond.methodLink RX10 203 yX7_push ∈ pw_BW := pw_bw (List.mem_of_getElem? (i := 548) (by decide +kernel)) rfl
theorem mw_549 : Cond.instanceMethod yX7_push ∈ pw_BW := pw_bw (List.mem_of_getElem? (i := 549) (by decide +kernel)) rfl
theorem mw_550 : Cond.selects RX7 yX7_push yX7_push ∈ pw_BW := pw_bw (List.mem_of_getElem? (i := 550) (by decide +kernel)) rfl
set_option maxRecDepth 40000 in
theorem mw_551 : Cond.code yX7_push cX7_push 4 (some .int) ∈ pw_BW := pw_bw (List.mem_of_getElem? (i := 551) (by rfl)) rfl
theorem mw_552 : Cond.methodLink RX7 25 yX1_append ∈ pw_BW := pw_bw (List.mem_of_getElem? (i := 552) (by decide +kernel)) rfl
theorem mw_553 : Cond.instanceMethod yX1_append ∈ pw_BW := pw_bw (List.mem_of_getElem? (i := 553) (by decide +kernel)) rfl
theorem mw_554 : Cond.selects RX1 yX1_append yX1_append ∈ pw_BW := pw_bw (List.mem_of_getElem? (i := 554) (by decide +kernel)) rfl
set_option maxRecDepth 40000 in
theorem mw_555 : Cond.code yX1_append cX1_append 4 none ∈ pw_BW := pw_bw (List.mem_of_getElem? (i := 555) (by rfl)) rfl
theorem mw_556 : Cond.methodLink RL 94 yX10_part ∈ pw_BW := pw_bw (List.mem_of_getElem? (i := 556) (by decide +kernel)) rfl
theorem mw_557 : Cond.instanceMethod yX10_part ∈ pw_BW := pw_bw (List.mem_of_getElem? (i := 557) (by decide +kernel)) rfl
theorem mw_558 : Cond.selects RX10 yX10_part yX10_part ∈ pw_BW := pw_bw (List.mem_of_getElem? (i := 558) (by decide +kernel)) rfl
set_option maxRecDepth 40000 in
theorem mw_559 : Cond.code yX10_part cX10_part 4 (some .int) ∈ pw_BW := pw_bw (List.mem_of_getElem? (i := 559) (by rfl)) rfl
theorem mw_560 : Cond.methodLink RX10 206 yX10_mayBeProcess ∈ pw_BW := pw_bw (List.mem_of_getElem? (i := 560) (by decide +kernel)) rfl
theorem mw_561 : Cond.static yX10_mayBeProcess ∈ pw_BW := pw_bw (List.mem_of_getElem? (i := 561) (by decide +kernel)) rfl
set_option maxRecDepth 40000 in
theorem mw_562 : Cond.code yX10_mayBeProcess cX10_mayBeProcess 1 (some .boolean) ∈ pw_BW := pw_bw (List.mem_of_getElem? (i := 562) (by rfl)) rfl
theorem mw_563 : Cond.methodLink RL 98 yX10_op ∈ pw_BW := pw_bw (List.mem_of_getElem? (i := 563) (by decide +kernel)) rfl
theorem mw_564 : Cond.instanceMethod yX10_op ∈ pw_BW := pw_bw (List.mem_of_getElem? (i := 564) (by decide +kernel)) rfl
theorem mw_565 : Cond.selects RX10 yX10_op yX10_op ∈ pw_BW := pw_bw (List.mem_of_getElem? (i := 565) (by decide +kernel)) rfl
set_option maxRecDepth 40000 in
theorem mw_566 : Cond.code yX10_op cX10_op 2 (some .int) ∈ pw_BW := pw_bw (List.mem_of_getElem? (i := 566) (by rfl)) rfl
theorem mw_567 : Cond.methodLink RX10 209 yX1_sidesOf ∈ pw_BW := pw_bw (List.mem_of_getElem? (i := 567) (by decide +kernel)) rfl
theorem mw_568 : Cond.static yX1_sidesOf ∈ pw_BW := pw_bw (List.mem_of_getElem? (i := 568) (by decide +kernel)) rfl
set_option maxRecDepth 40000 in
theorem mw_569 : Cond.code yX1_sidesOf cX1_sidesOf 1 (some .int) ∈ pw_BW := pw_bw (List.mem_of_getElem? (i := 569) (by rfl)) rfl
theorem mw_570 : Cond.methodLink RX10 214 yX7_partsBehind ∈ pw_BW := pw_bw (List.mem_of_getElem? (i := 570) (by decide +kernel)) rfl
theorem mw_571 : Cond.instanceMethod yX7_partsBehind ∈ pw_BW := pw_bw (List.mem_of_getElem? (i := 571) (by decide +kernel)) rfl
theorem mw_572 : Cond.selects RX7 yX7_partsBehind yX7_partsBehind ∈ pw_BW := pw_bw (List.mem_of_getElem? (i := 572) (by decide +kernel)) rfl
set_option maxRecDepth 40000 in
theorem mw_573 : Cond.code yX7_partsBehind cX7_partsBehind 4 (some .int) ∈ pw_BW := pw_bw (List.mem_of_getElem? (i := 573) (by rfl)) rfl
theorem mw_574 : Cond.methodLink RX7 29 yX1_sidesOf ∈ pw_BW := pw_bw (List.mem_of_getElem? (i := 574) (by decide +kernel)) rfl
theorem mw_575 : Cond.methodLink RX10 217 yX7_unite ∈ pw_BW := pw_bw (List.mem_of_getElem? (i := 575) (by decide +kernel)) rfl
theorem mw_576 : Cond.instanceMethod yX7_unite ∈ pw_BW := pw_bw (List.mem_of_getElem? (i := 576) (by decide +kernel)) rfl
theorem mw_577 : Cond.selects RX7 yX7_unite yX7_unite ∈ pw_BW := pw_bw (List.mem_of_getElem? (i := 577) (by decide +kernel)) rfl
set_option maxRecDepth 40000 in
theorem mw_578 : Cond.code yX7_unite cX7_unite 2 (some .int) ∈ pw_BW := pw_bw (List.mem_of_getElem? (i := 578) (by rfl)) rfl
theorem mw_579 : Cond.methodLink RX7 33 yX1_appendAll ∈ pw_BW := pw_bw (List.mem_of_getElem? (i := 579) (by decide +kernel)) rfl
theorem mw_580 : Cond.instanceMethod yX1_appendAll ∈ pw_BW := pw_bw (List.mem_of_getElem? (i := 580) (by decide +kernel)) rfl
theorem mw_581 : Cond.selects RX1 yX1_appendAll yX1_appendAll ∈ pw_BW := pw_bw (List.mem_of_getElem? (i := 581) (by decide +kernel)) rfl
set_option maxRecDepth 40000 in
theorem mw_582 : Cond.code yX1_appendAll cX1_appendAll 3 none ∈ pw_BW := pw_bw (List.mem_of_getElem? (i := 582) (by rfl)) rfl
theorem mw_583 : Cond.methodLink RX1 25 yX1_append ∈ pw_BW := pw_bw (List.mem_of_getElem? (i := 583) (by decide +kernel)) rfl
theorem mw_584 : Cond.methodLink RL 102 yX10_condition ∈ pw_BW := pw_bw (List.mem_of_getElem? (i := 584) (by decide +kernel)) rfl
theorem mw_585 : Cond.instanceMethod yX10_condition ∈ pw_BW := pw_bw (List.mem_of_getElem? (i := 585) (by decide +kernel)) rfl
theorem mw_586 : Cond.selects RX10 yX10_condition yX10_condition ∈ pw_BW := pw_bw (List.mem_of_getElem? (i := 586) (by decide +kernel)) rfl
set_option maxRecDepth 40000 in
theorem mw_587 : Cond.code yX10_condition cX10_condition 1 (some .int) ∈ pw_BW := pw_bw (List.mem_of_getElem? (i := 587) (by rfl)) rfl
theorem mw_588 : Cond.methodLink RX10 225 yX0_keep ∈ pw_BW := pw_bw (List.mem_of_getElem? (i := 588) (by decide +kernel)) rfl
theorem mw_589 : Cond.instanceMethod yX0_keep ∈ pw_BW := pw_bw (List.mem_of_getElem? (i := 589) (by decide +kernel)) rfl
theorem mw_590 : Cond.selects RX0 yX0_keep yX0_keep ∈ pw_BW := pw_bw (List.mem_of_getElem? (i := 590) (by decide +kernel)) rfl
set_option maxRecDepth 40000 in
theorem mw_591 : Cond.code yX0_keep cX0_keep 2 (some .int) ∈ pw_BW := pw_bw (List.mem_of_getElem? (i := 591) (by rfl)) rfl
theorem mw_592 : Cond.methodLink RX0 25 yX1_appendAll ∈ pw_BW := pw_bw (List.mem_of_getElem? (i := 592) (by decide +kernel)) rfl
theorem mw_593 : Cond.methodLink RL 106 yX10_clear ∈ pw_BW := pw_bw (List.mem_of_getElem? (i := 593) (by decide +kernel)) rfl
theorem mw_594 : Cond.instanceMethod yX10_clear ∈ pw_BW := pw_bw (List.mem_of_getElem? (i := 594) (by decide +kernel)) rfl
theorem mw_595 : Cond.selects RX10 yX10_clear yX10_clear ∈ pw_BW := pw_bw (List.mem_of_getElem? (i := 595) (by decide +kernel)) rfl
set_option maxRecDepth 40000 in
theorem mw_596 : Cond.code yX10_clear cX10_clear 3 (some .int) ∈ pw_BW := pw_bw (List.mem_of_getElem? (i := 596) (by rfl)) rfl
theorem mw_597 : Cond.methodLink RL 110 yX10_value ∈ pw_BW := pw_bw (List.mem_of_getElem? (i := 597) (by decide +kernel)) rfl
theorem mw_598 : Cond.instanceMethod yX10_value ∈ pw_BW := pw_bw (List.mem_of_getElem? (i := 598) (by decide +kernel)) rfl
theorem mw_599 : Cond.selects RX10 yX10_value yX10_value ∈ pw_BW := pw_bw (List.mem_of_getElem? (i := 599) (by decide +kernel)) rfl
set_option maxRecDepth 40000 in
theorem mw_600 : Cond.code yX10_value cX10_value 3 (some .int) ∈ pw_BW := pw_bw (List.mem_of_getElem? (i := 600) (by rfl)) rfl
theorem mw_601 : Cond.methodLink RX10 229 yX0_has ∈ pw_BW := pw_bw (List.mem_of_getElem? (i := 601) (by decide +kernel)) rfl
theorem mw_602 : Cond.instanceMethod yX0_has ∈ pw_BW := pw_bw (List.mem_of_getElem? (i := 602) (by decide +kernel)) rfl
theorem mw_603 : Cond.selects RX0 yX0_has yX0_has ∈ pw_BW := pw_bw (List.mem_of_getElem? (i := 603) (by decide +kernel)) rfl
set_option maxRecDepth 40000 in
theorem mw_604 : Cond.code yX0_has cX0_has 2 (some .boolean) ∈ pw_BW := pw_bw (List.mem_of_getElem? (i := 604) (by rfl)) rfl
theorem mw_605 : Cond.methodLink RX10 231 yX5_worth ∈ pw_BW := pw_bw (List.mem_of_getElem? (i := 605) (by decide +kernel)) rfl
theorem mw_606 : Cond.instanceMethod yX5_worth ∈ pw_BW := pw_bw (List.mem_of_getElem? (i := 606) (by decide +kernel)) rfl
theorem mw_607 : Cond.selects RX5 yX5_worth yX5_worth ∈ pw_BW := pw_bw (List.mem_of_getElem? (i := 607) (by decide +kernel)) rfl
set_option maxRecDepth 40000 in
theorem mw_608 : Cond.code yX5_worth cX5_worth 7 (some .int) ∈ pw_BW := pw_bw (List.mem_of_getElem? (i := 608) (by rfl)) rfl
theorem mw_609 : Cond.methodLink RX5 22 yX6_shareOf ∈ pw_BW := pw_bw (List.mem_of_getElem? (i := 609) (by decide +kernel)) rfl
theorem mw_610 : Cond.methodLink RX5 37 yX1_sidesOf ∈ pw_BW := pw_bw (List.mem_of_getElem? (i := 610) (by decide +kernel)) rfl
theorem mw_611 : Cond.methodLink RX5 47 yX5_seen ∈ pw_BW := pw_bw (List.mem_of_getElem? (i := 611) (by decide +kernel)) rfl
theorem mw_613 : Cond.instanceMethod yX5_seen ∈ pw_BW := pw_bw (List.mem_of_getElem? (i := 613) (by decide +kernel)) rfl
set_option maxRecDepth 40000 in
theorem mw_614 : Cond.code yX5_seen cX5_seen 4 (some .int) ∈ pw_BW := pw_bw (List.mem_of_getElem? (i := 614) (by rfl)) rfl
theorem mw_615 : Cond.methodLink RX5 59 yX2_valuePlace ∈ pw_BW := pw_bw (List.mem_of_getElem? (i := 615) (by decide +kernel)) rfl
theorem mw_616 : Cond.methodLink RX5 62 yX5_howManyUnderWay ∈ pw_BW := pw_bw (List.mem_of_getElem? (i := 616) (by decide +kernel)) rfl
theorem mw_618 : Cond.instanceMethod yX5_howManyUnderWay ∈ pw_BW := pw_bw (List.mem_of_getElem? (i := 618) (by decide +kernel)) rfl
set_option maxRecDepth 40000 in
theorem mw_619 : Cond.code yX5_howManyUnderWay cX5_howManyUnderWay 9 (some .int) ∈ pw_BW := pw_bw (List.mem_of_getElem? (i := 619) (by rfl)) rfl
theorem mw_620 : Cond.methodLink RX5 51 yX5_reckoned ∈ pw_BW := pw_bw (List.mem_of_getElem? (i := 620) (by decide +kernel)) rfl
theorem mw_621 : Cond.static yX5_reckoned ∈ pw_BW := pw_bw (List.mem_of_getElem? (i := 621) (by decide +kernel)) rfl
set_option maxRecDepth 40000 in
theorem mw_622 : Cond.code yX5_reckoned cX5_reckoned 3 (some .int) ∈ pw_BW := pw_bw (List.mem_of_getElem? (i := 622) (by rfl)) rfl
theorem mw_623 : Cond.methodLink RL 114 yX10_status ∈ pw_BW := pw_bw (List.mem_of_getElem? (i := 623) (by decide +kernel)) rfl
theorem mw_624 : Cond.instanceMethod yX10_status ∈ pw_BW := pw_bw (List.mem_of_getElem? (i := 624) (by decide +kernel)) rfl
theorem mw_625 : Cond.selects RX10 yX10_status yX10_status ∈ pw_BW := pw_bw (List.mem_of_getElem? (i := 625) (by decide +kernel)) rfl
set_option maxRecDepth 40000 in
theorem mw_626 : Cond.code yX10_status cX10_status 1 (some .int) ∈ pw_BW := pw_bw (List.mem_of_getElem? (i := 626) (by rfl)) rfl
theorem mw_627 : Cond.methodLink RL 118 yX10_may ∈ pw_BW := pw_bw (List.mem_of_getElem? (i := 627) (by decide +kernel)) rfl
theorem mw_628 : Cond.instanceMethod yX10_may ∈ pw_BW := pw_bw (List.mem_of_getElem? (i := 628) (by decide +kernel)) rfl
theorem mw_629 : Cond.selects RX10 yX10_may yX10_may ∈ pw_BW := pw_bw (List.mem_of_getElem? (i := 629) (by decide +kernel)) rfl
set_option maxRecDepth 40000 in
theorem mw_630 : Cond.code yX10_may cX10_may 2 (some .int) ∈ pw_BW := pw_bw (List.mem_of_getElem? (i := 630) (by rfl)) rfl
theorem mw_631 : Cond.methodLink RX10 235 yX10_markedNet ∈ pw_BW := pw_bw (List.mem_of_getElem? (i := 631) (by decide +kernel)) rfl
theorem mw_633 : Cond.instanceMethod yX10_markedNet ∈ pw_BW := pw_bw (List.mem_of_getElem? (i := 633) (by decide +kernel)) rfl
set_option maxRecDepth 40000 in
theorem mw_634 : Cond.code yX10_markedNet cX10_markedNet 3 (some (.object RX6)) ∈ pw_BW := pw_bw (List.mem_of_getElem? (i := 634) (by rfl)) rfl
theorem mw_635 : Cond.methodLink RX10 290 yX4_set ∈ pw_BW := pw_bw (List.mem_of_getElem? (i := 635) (by decide +kernel)) rfl
theorem mw_636 : Cond.instanceMethod yX4_set ∈ pw_BW := pw_bw (List.mem_of_getElem? (i := 636) (by decide +kernel)) rfl
theorem mw_637 : Cond.selects RX4 yX4_set yX4_set ∈ pw_BW := pw_bw (List.mem_of_getElem? (i := 637) (by decide +kernel)) rfl
set_option maxRecDepth 40000 in
theorem mw_638 : Cond.code yX4_set cX4_set 5 none ∈ pw_BW := pw_bw (List.mem_of_getElem? (i := 638) (by rfl)) rfl
theorem mw_639 : Cond.methodLink RX4 32 yX5_worth ∈ pw_BW := pw_bw (List.mem_of_getElem? (i := 639) (by decide +kernel)) rfl
theorem mw_640 : Cond.methodLink RX10 239 yX6_firstOf ∈ pw_BW := pw_bw (List.mem_of_getElem? (i := 640) (by decide +kernel)) rfl
theorem mw_641 : Cond.instanceMethod yX6_firstOf ∈ pw_BW := pw_bw (List.mem_of_getElem? (i := 641) (by decide +kernel)) rfl
theorem mw_642 : Cond.selects RX6 yX6_firstOf yX6_firstOf ∈ pw_BW := pw_bw (List.mem_of_getElem? (i := 642) (by decide +kernel)) rfl
set_option maxRecDepth 40000 in
theorem mw_643 : Cond.code yX6_firstOf cX6_firstOf 3 (some .int) ∈ pw_BW := pw_bw (List.mem_of_getElem? (i := 643) (by rfl)) rfl
theorem mw_644 : Cond.methodLink RL 122 yX10_last ∈ pw_BW := pw_bw (List.mem_of_getElem? (i := 644) (by decide +kernel)) rfl
theorem mw_645 : Cond.instanceMethod yX10_last ∈ pw_BW := pw_bw (List.mem_of_getElem? (i := 645) (by decide +kernel)) rfl
theorem mw_646 : Cond.selects RX10 yX10_last yX10_last ∈ pw_BW := pw_bw (List.mem_of_getElem? (i := 646) (by decide +kernel)) rfl
set_option maxRecDepth 40000 in
theorem mw_647 : Cond.code yX10_last cX10_last 2 (some .int) ∈ pw_BW := pw_bw (List.mem_of_getElem? (i := 647) (by rfl)) rfl
theorem mw_648 : Cond.methodLink RX10 243 yX6_lastOf ∈ pw_BW := pw_bw (List.mem_of_getElem? (i := 648) (by decide +kernel)) rfl
theorem mw_649 : Cond.instanceMethod yX6_lastOf ∈ pw_BW := pw_bw (List.mem_of_getElem? (i := 649) (by decide +kernel)) rfl
theorem mw_650 : Cond.selects RX6 yX6_lastOf yX6_lastOf ∈ pw_BW := pw_bw (List.mem_of_getElem? (i := 650) (by decide +kernel)) rfl
set_option maxRecDepth 40000 in
theorem mw_651 : Cond.code yX6_lastOf cX6_lastOf 3 (some .int) ∈ pw_BW := pw_bw (List.mem_of_getElem? (i := 651) (by rfl)) rfl
theorem mw_652 : Cond.methodLink RL 126 yX10_many ∈ pw_BW := pw_bw (List.mem_of_getElem? (i := 652) (by decide +kernel)) rfl
theorem mw_653 : Cond.instanceMethod yX10_many ∈ pw_BW := pw_bw (List.mem_of_getElem? (i := 653) (by decide +kernel)) rfl
theorem mw_654 : Cond.selects RX10 yX10_many yX10_many ∈ pw_BW := pw_bw (List.mem_of_getElem? (i := 654) (by decide +kernel)) rfl
set_option maxRecDepth 40000 in
theorem mw_655 : Cond.code yX10_many cX10_many 2 (some .int) ∈ pw_BW := pw_bw (List.mem_of_getElem? (i := 655) (by rfl)) rfl
theorem mw_656 : Cond.methodLink RX10 246 yX6_howManyIn ∈ pw_BW := pw_bw (List.mem_of_getElem? (i := 656) (by decide +kernel)) rfl
theorem mw_657 : Cond.instanceMethod yX6_howManyIn ∈ pw_BW := pw_bw (List.mem_of_getElem? (i := 657) (by decide +kernel)) rfl
theorem mw_658 : Cond.selects RX6 yX6_howManyIn yX6_howManyIn ∈ pw_BW := pw_bw (List.mem_of_getElem? (i := 658) (by decide +kernel)) rfl
set_option maxRecDepth 40000 in
theorem mw_659 : Cond.code yX6_howManyIn cX6_howManyIn 4 (some .int) ∈ pw_BW := pw_bw (List.mem_of_getElem? (i := 659) (by rfl)) rfl
theorem mw_660 : Cond.methodLink RL 130 yX10_sure ∈ pw_BW := pw_bw (List.mem_of_getElem? (i := 660) (by decide +kernel)) rfl
theorem mw_661 : Cond.instanceMethod yX10_sure ∈ pw_BW := pw_bw (List.mem_of_getElem? (i := 661) (by decide +kernel)) rfl
theorem mw_662 : Cond.selects RX10 yX10_sure yX10_sure ∈ pw_BW := pw_bw (List.mem_of_getElem? (i := 662) (by decide +kernel)) rfl
set_option maxRecDepth 40000 in
theorem mw_663 : Cond.code yX10_sure cX10_sure 2 (some .int) ∈ pw_BW := pw_bw (List.mem_of_getElem? (i := 663) (by rfl)) rfl
theorem mw_664 : Cond.methodLink RX10 249 yX10_avoids ∈ pw_BW := pw_bw (List.mem_of_getElem? (i := 664) (by decide +kernel)) rfl
theorem mw_665 : Cond.instanceMethod yX10_avoids ∈ pw_BW := pw_bw (List.mem_of_getElem? (i := 665) (by decide +kernel)) rfl
theorem mw_666 : Cond.selects RX10 yX10_avoids yX10_avoids ∈ pw_BW := pw_bw (List.mem_of_getElem? (i := 666) (by decide +kernel)) rfl
set_option maxRecDepth 40000 in
theorem mw_667 : Cond.code yX10_avoids cX10_avoids 2 (some .long) ∈ pw_BW := pw_bw (List.mem_of_getElem? (i := 667) (by rfl)) rfl
theorem mw_668 : Cond.constantLong RX10 253 (-1 : Int64) ∈ pw_BW := pw_bw (List.mem_of_getElem? (i := 668) (by decide +kernel)) rfl
theorem mw_669 : Cond.methodLink RL 134 yX10_avoid ∈ pw_BW := pw_bw (List.mem_of_getElem? (i := 669) (by decide +kernel)) rfl
theorem mw_670 : Cond.instanceMethod yX10_avoid ∈ pw_BW := pw_bw (List.mem_of_getElem? (i := 670) (by decide +kernel)) rfl
theorem mw_671 : Cond.selects RX10 yX10_avoid yX10_avoid ∈ pw_BW := pw_bw (List.mem_of_getElem? (i := 671) (by decide +kernel)) rfl
set_option maxRecDepth 40000 in
theorem mw_672 : Cond.code yX10_avoid cX10_avoid 3 (some .int) ∈ pw_BW := pw_bw (List.mem_of_getElem? (i := 672) (by rfl)) rfl
theorem mw_673 : Cond.methodLink RL 138 yX10_avoids ∈ pw_BW := pw_bw (List.mem_of_getElem? (i := 673) (by decide +kernel)) rfl
theorem mw_674 : Cond.methodLink RL 143 yX10_is ∈ pw_BW := pw_bw (List.mem_of_getElem? (i := 674) (by decide +kernel)) rfl
theorem mw_675 : Cond.instanceMethod yX10_is ∈ pw_BW := pw_bw (List.mem_of_getElem? (i := 675) (by decide +kernel)) rfl
theorem mw_676 : Cond.selects RX10 yX10_is yX10_is ∈ pw_BW := pw_bw (List.mem_of_getElem? (i := 676) (by decide +kernel)) rfl
set_option maxRecDepth 40000 in
theorem mw_677 : Cond.code yX10_is cX10_is 5 (some .int) ∈ pw_BW := pw_bw (List.mem_of_getElem? (i := 677) (by rfl)) rfl
theorem mw_678 : Cond.methodLink RX10 255 yX4_areKept ∈ pw_BW := pw_bw (List.mem_of_getElem? (i := 678) (by decide +kernel)) rfl
theorem mw_679 : Cond.instanceMethod yX4_areKept ∈ pw_BW := pw_bw (List.mem_of_getElem? (i := 679) (by decide +kernel)) rfl
theorem mw_680 : Cond.selects RX4 yX4_areKept yX4_areKept ∈ pw_BW := pw_bw (List.mem_of_getElem? (i := 680) (by decide +kernel)) rfl
set_option maxRecDepth 40000 in
theorem mw_681 : Cond.code yX4_areKept cX4_areKept 6 (some .boolean) ∈ pw_BW := pw_bw (List.mem_of_getElem? (i := 681) (by rfl)) rfl
theorem mw_682 : Cond.methodLink RX4 38 yX6_up ∈ pw_BW := pw_bw (List.mem_of_getElem? (i := 682) (by decide +kernel)) rfl
theorem mw_683 : Cond.methodLink RX10 259 yX4_areMet ∈ pw_BW := pw_bw (List.mem_of_getElem? (i := 683) (by decide +kernel)) rfl
theorem mw_684 : Cond.instanceMethod yX4_areMet ∈ pw_BW := pw_bw (List.mem_of_getElem? (i := 684) (by decide +kernel)) rfl
theorem mw_685 : Cond.selects RX4 yX4_areMet yX4_areMet ∈ pw_BW := pw_bw (List.mem_of_getElem? (i := 685) (by decide +kernel)) rfl
set_option maxRecDepth 40000 in
theorem mw_686 : Cond.code yX4_areMet cX4_areMet 4 (some .boolean) ∈ pw_BW := pw_bw (List.mem_of_getElem? (i := 686) (by rfl)) rfl
theorem mw_687 : Cond.methodLink RX4 42 yX4_nearestBeyond ∈ pw_BW := pw_bw (List.mem_of_getElem? (i := 687) (by decide +kernel)) rfl
theorem mw_689 : Cond.instanceMethod yX4_nearestBeyond ∈ pw_BW := pw_bw (List.mem_of_getElem? (i := 689) (by decide +kernel)) rfl
set_option maxRecDepth 40000 in
theorem mw_690 : Cond.code yX4_nearestBeyond cX4_nearestBeyond 8 (some .int) ∈ pw_BW := pw_bw (List.mem_of_getElem? (i := 690) (by rfl)) rfl
theorem mw_691 : Cond.methodLink RX4 46 yX6_down ∈ pw_BW := pw_bw (List.mem_of_getElem? (i := 691) (by decide +kernel)) rfl
theorem mw_692 : Cond.instanceMethod yX6_down ∈ pw_BW := pw_bw (List.mem_of_getElem? (i := 692) (by decide +kernel)) rfl
theorem mw_693 : Cond.selects RX6 yX6_down yX6_down ∈ pw_BW := pw_bw (List.mem_of_getElem? (i := 693) (by decide +kernel)) rfl
set_option maxRecDepth 40000 in
theorem mw_694 : Cond.code yX6_down cX6_down 4 (some .int) ∈ pw_BW := pw_bw (List.mem_of_getElem? (i := 694) (by rfl)) rfl
theorem mw_695 : Cond.methodLink RX4 49 yX6_combine ∈ pw_BW := pw_bw (List.mem_of_getElem? (i := 695) (by decide +kernel)) rfl
theorem mw_696 : Cond.methodLink RX10 262 yX4_areJoined ∈ pw_BW := pw_bw (List.mem_of_getElem? (i := 696) (by decide +kernel)) rfl
theorem mw_697 : Cond.instanceMethod yX4_areJoined ∈ pw_BW := pw_bw (List.mem_of_getElem? (i := 697) (by decide +kernel)) rfl
theorem mw_698 : Cond.selects RX4 yX4_areJoined yX4_areJoined ∈ pw_BW := pw_bw (List.mem_of_getElem? (i := 698) (by decide +kernel)) rfl
set_option maxRecDepth 40000 in
theorem mw_699 : Cond.code yX4_areJoined cX4_areJoined 4 (some .boolean) ∈ pw_BW := pw_bw (List.mem_of_getElem? (i := 699) (by rfl)) rfl
theorem mw_700 : Cond.methodLink RL 147 yX10_before ∈ pw_BW := pw_bw (List.mem_of_getElem? (i := 700) (by decide +kernel)) rfl
theorem mw_701 : Cond.instanceMethod yX10_before ∈ pw_BW := pw_bw (List.mem_of_getElem? (i := 701) (by decide +kernel)) rfl
theorem mw_702 : Cond.selects RX10 yX10_before yX10_before ∈ pw_BW := pw_bw (List.mem_of_getElem? (i := 702) (by decide +kernel)) rfl
set_option maxRecDepth 40000 in
theorem mw_703 : Cond.code yX10_before cX10_before 5 (some .int) ∈ pw_BW := pw_bw (List.mem_of_getElem? (i := 703) (by rfl)) rfl
theorem mw_704 : Cond.methodLink RX10 265 yX9_fillUntil ∈ pw_BW := pw_bw (List.mem_of_getElem? (i := 704) (by decide +kernel)) rfl
theorem mw_705 : Cond.instanceMethod yX9_fillUntil ∈ pw_BW := pw_bw (List.mem_of_getElem? (i := 705) (by decide +kernel)) rfl
theorem mw_706 : Cond.selects RX9 yX9_fillUntil yX9_fillUntil ∈ pw_BW := pw_bw (List.mem_of_getElem? (i := 706) (by decide +kernel)) rfl
set_option maxRecDepth 40000 in
theorem mw_707 : Cond.code yX9_fillUntil cX9_fillUntil 8 (some .long) ∈ pw_BW := pw_bw (List.mem_of_getElem? (i := 707) (by rfl)) rfl
theorem mw_708 : Cond.methodLink RX9 32 yX5_worth ∈ pw_BW := pw_bw (List.mem_of_getElem? (i := 708) (by decide +kernel)) rfl
theorem mw_709 : Cond.methodLink RL 151 yX10_say ∈ pw_BW := pw_bw (List.mem_of_getElem? (i := 709) (by decide +kernel)) rfl
theorem mw_710 : Cond.instanceMethod yX10_say ∈ pw_BW := pw_bw (List.mem_of_getElem? (i := 710) (by decide +kernel)) rfl
theorem mw_711 : Cond.selects RX10 yX10_say yX10_say ∈ pw_BW := pw_bw (List.mem_of_getElem? (i := 711) (by decide +kernel)) rfl
set_option maxRecDepth 40000 in
theorem mw_712 : Cond.code yX10_say cX10_say 2 (some .int) ∈ pw_BW := pw_bw (List.mem_of_getElem? (i := 712) (by rfl)) rfl
theorem mw_713 : Cond.methodLink RX10 272 yX8_append ∈ pw_BW := pw_bw (List.mem_of_getElem? (i := 713) (by decide +kernel)) rfl
theorem mw_714 : Cond.instanceMethod yX8_append ∈ pw_BW := pw_bw (List.mem_of_getElem? (i := 714) (by decide +kernel)) rfl
theorem mw_715 : Cond.selects RX8 yX8_append yX8_append ∈ pw_BW := pw_bw (List.mem_of_getElem? (i := 715) (by decide +kernel)) rfl
set_option maxRecDepth 40000 in
theorem mw_716 : Cond.code yX8_append cX8_append 2 (some .int) ∈ pw_BW := pw_bw (List.mem_of_getElem? (i := 716) (by rfl)) rfl
theorem mw_717 : Cond.methodLink RL 155 yX10_check ∈ pw_BW := pw_bw (List.mem_of_getElem? (i := 717) (by decide +kernel)) rfl
theorem mw_718 : Cond.instanceMethod yX10_check ∈ pw_BW := pw_bw (List.mem_of_getElem? (i := 718) (by decide +kernel)) rfl
theorem mw_719 : Cond.selects RX10 yX10_check yX10_check ∈ pw_BW := pw_bw (List.mem_of_getElem? (i := 719) (by decide +kernel)) rfl
set_option maxRecDepth 40000 in
theorem mw_720 : Cond.code yX10_check cX10_check 3 (some .int) ∈ pw_BW := pw_bw (List.mem_of_getElem? (i := 720) (by rfl)) rfl
theorem mw_721 : Cond.methodLink RX10 275 yX8_rightPlaces ∈ pw_BW := pw_bw (List.mem_of_getElem? (i := 721) (by decide +kernel)) rfl
theorem mw_722 : Cond.instanceMethod yX8_rightPlaces ∈ pw_BW := pw_bw (List.mem_of_getElem? (i := 722) (by decide +kernel)) rfl
theorem mw_723 : Cond.selects RX8 yX8_rightPlaces yX8_rightPlaces ∈ pw_BW := pw_bw (List.mem_of_getElem? (i := 723) (by decide +kernel)) rfl
set_option maxRecDepth 40000 in
theorem mw_724 : Cond.code yX8_rightPlaces cX8_rightPlaces 4 (some .int) ∈ pw_BW := pw_bw (List.mem_of_getElem? (i := 724) (by rfl)) rfl
theorem mw_725 : Cond.methodLink RX8 19 yX6_up ∈ pw_BW := pw_bw (List.mem_of_getElem? (i := 725) (by decide +kernel)) rfl
theorem mw_726 : Cond.methodLink RL 159 yX10_passes ∈ pw_BW := pw_bw (List.mem_of_getElem? (i := 726) (by decide +kernel)) rfl
theorem mw_727 : Cond.instanceMethod yX10_passes ∈ pw_BW := pw_bw (List.mem_of_getElem? (i := 727) (by decide +kernel)) rfl
theorem mw_728 : Cond.selects RX10 yX10_passes yX10_passes ∈ pw_BW := pw_bw (List.mem_of_getElem? (i := 728) (by decide +kernel)) rfl
set_option maxRecDepth 40000 in
theorem mw_729 : Cond.code yX10_passes cX10_passes 2 (some .int) ∈ pw_BW := pw_bw (List.mem_of_getElem? (i := 729) (by rfl)) rfl
theorem mw_730 : Cond.methodLink RX10 279 yX8_firstAt ∈ pw_BW := pw_bw (List.mem_of_getElem? (i := 730) (by decide +kernel)) rfl
theorem mw_731 : Cond.instanceMethod yX8_firstAt ∈ pw_BW := pw_bw (List.mem_of_getElem? (i := 731) (by decide +kernel)) rfl
theorem mw_732 : Cond.selects RX8 yX8_firstAt yX8_firstAt ∈ pw_BW := pw_bw (List.mem_of_getElem? (i := 732) (by decide +kernel)) rfl
set_option maxRecDepth 40000 in
theorem mw_733 : Cond.code yX8_firstAt cX8_firstAt 5 (some .int) ∈ pw_BW := pw_bw (List.mem_of_getElem? (i := 733) (by rfl)) rfl
theorem mw_734 : Cond.methodLink RX8 25 yX5_worth ∈ pw_BW := pw_bw (List.mem_of_getElem? (i := 734) (by decide +kernel)) rfl
theorem mw_736 : Cond.methodLink RL 163 yX10_count ∈ pw_BW := pw_bw (List.mem_of_getElem? (i := 736) (by decide +kernel)) rfl
theorem mw_737 : Cond.instanceMethod yX10_count ∈ pw_BW := pw_bw (List.mem_of_getElem? (i := 737) (by decide +kernel)) rfl
theorem mw_738 : Cond.selects RX10 yX10_count yX10_count ∈ pw_BW := pw_bw (List.mem_of_getElem? (i := 738) (by decide +kernel)) rfl
set_option maxRecDepth 40000 in
theorem mw_739 : Cond.code yX10_count cX10_count 2 (some .int) ∈ pw_BW := pw_bw (List.mem_of_getElem? (i := 739) (by rfl)) rfl
theorem mw_740 : Cond.methodLink RX10 284 yX3_howManyUntaken ∈ pw_BW := pw_bw (List.mem_of_getElem? (i := 740) (by decide +kernel)) rfl
theorem mw_741 : Cond.instanceMethod yX3_howManyUntaken ∈ pw_BW := pw_bw (List.mem_of_getElem? (i := 741) (by decide +kernel)) rfl
theorem mw_742 : Cond.selects RX3 yX3_howManyUntaken yX3_howManyUntaken ∈ pw_BW := pw_bw (List.mem_of_getElem? (i := 742) (by decide +kernel)) rfl
set_option maxRecDepth 40000 in
theorem mw_743 : Cond.code yX3_howManyUntaken cX3_howManyUntaken 3 (some .int) ∈ pw_BW := pw_bw (List.mem_of_getElem? (i := 743) (by rfl)) rfl
theorem mw_746 : Cond.methodLink RL 12 yX11_init ∈ pw_BW := pw_bw (List.mem_of_getElem? (i := 746) (by decide +kernel)) rfl
theorem mw_747 : Cond.instanceMethod yX11_init ∈ pw_BW := pw_bw (List.mem_of_getElem? (i := 747) (by decide +kernel)) rfl
set_option maxRecDepth 40000 in
theorem mw_748 : Cond.code yX11_init cX11_init 1 none ∈ pw_BW := pw_bw (List.mem_of_getElem? (i := 748) (by rfl)) rfl
theorem mw_750 : Cond.fieldLink RX11 76 "PerhapsWasModel" "processes" "I" ∈ pw_BW := pw_bw (List.mem_of_getElem? (i := 750) (by decide +kernel)) rfl
theorem mw_751 : Cond.fieldLink RX11 7 "PerhapsWasModel" "events" "[I" ∈ pw_BW := pw_bw (List.mem_of_getElem? (i := 751) (by decide +kernel)) rfl
theorem mw_752 : Cond.fieldLink RX11 13 "PerhapsWasModel" "kind" "[I" ∈ pw_BW := pw_bw (List.mem_of_getElem? (i := 752) (by decide +kernel)) rfl
theorem mw_753 : Cond.fieldLink RX11 16 "PerhapsWasModel" "about" "[I" ∈ pw_BW := pw_bw (List.mem_of_getElem? (i := 753) (by decide +kernel)) rfl
theorem mw_754 : Cond.fieldLink RX11 19 "PerhapsWasModel" "worth" "[I" ∈ pw_BW := pw_bw (List.mem_of_getElem? (i := 754) (by decide +kernel)) rfl
theorem mw_755 : Cond.fieldLink RX11 22 "PerhapsWasModel" "came" "[I" ∈ pw_BW := pw_bw (List.mem_of_getElem? (i := 755) (by decide +kernel)) rfl
theorem mw_756 : Cond.fieldLink RX11 25 "PerhapsWasModel" "clock" "[I" ∈ pw_BW := pw_bw (List.mem_of_getElem? (i := 756) (by decide +kernel)) rfl
theorem mw_757 : Cond.fieldLink RX11 87 "PerhapsWasModel" "all" "I" ∈ pw_BW := pw_bw (List.mem_of_getElem? (i := 757) (by decide +kernel)) rfl
theorem mw_758 : Cond.fieldLink RX11 94 "PerhapsWasModel" "letters" "I" ∈ pw_BW := pw_bw (List.mem_of_getElem? (i := 758) (by decide +kernel)) rfl
theorem mw_759 : Cond.fieldLink RX11 28 "PerhapsWasModel" "from" "[I" ∈ pw_BW := pw_bw (List.mem_of_getElem? (i := 759) (by decide +kernel)) rfl
theorem mw_760 : Cond.fieldLink RX11 31 "PerhapsWasModel" "to" "[I" ∈ pw_BW := pw_bw (List.mem_of_getElem? (i := 760) (by decide +kernel)) rfl
theorem mw_761 : Cond.fieldLink RX11 34 "PerhapsWasModel" "sent" "[I" ∈ pw_BW := pw_bw (List.mem_of_getElem? (i := 761) (by decide +kernel)) rfl
theorem mw_762 : Cond.fieldLink RX11 37 "PerhapsWasModel" "took" "[I" ∈ pw_BW := pw_bw (List.mem_of_getElem? (i := 762) (by decide +kernel)) rfl
theorem mw_763 : Cond.fieldLink RX11 40 "PerhapsWasModel" "barred" "[Z" ∈ pw_BW := pw_bw (List.mem_of_getElem? (i := 763) (by decide +kernel)) rfl
theorem mw_764 : Cond.fieldLink RX11 44 "PerhapsWasModel" "ways" "[J" ∈ pw_BW := pw_bw (List.mem_of_getElem? (i := 764) (by decide +kernel)) rfl
theorem mw_765 : Cond.fieldLink RX11 48 "PerhapsWasModel" "what" "[I" ∈ pw_BW := pw_bw (List.mem_of_getElem? (i := 765) (by decide +kernel)) rfl
theorem mw_766 : Cond.fieldLink RX11 51 "PerhapsWasModel" "partA" "[I" ∈ pw_BW := pw_bw (List.mem_of_getElem? (i := 766) (by decide +kernel)) rfl
theorem mw_767 : Cond.fieldLink RX11 54 "PerhapsWasModel" "partB" "[I" ∈ pw_BW := pw_bw (List.mem_of_getElem? (i := 767) (by decide +kernel)) rfl
theorem mw_768 : Cond.fieldLink RX11 57 "PerhapsWasModel" "parts" "[I" ∈ pw_BW := pw_bw (List.mem_of_getElem? (i := 768) (by decide +kernel)) rfl
theorem mw_769 : Cond.fieldLink RX11 152 "PerhapsWasModel" "conditions" "I" ∈ pw_BW := pw_bw (List.mem_of_getElem? (i := 769) (by decide +kernel)) rfl
theorem mw_770 : Cond.fieldLink RX11 142 "PerhapsWasModel" "piled" "I" ∈ pw_BW := pw_bw (List.mem_of_getElem? (i := 770) (by decide +kernel)) rfl
theorem mw_771 : Cond.fieldLink RX11 164 "PerhapsWasModel" "status" "I" ∈ pw_BW := pw_bw (List.mem_of_getElem? (i := 771) (by decide +kernel)) rfl
theorem mw_772 : Cond.fieldLink RX11 60 "PerhapsWasModel" "pile" "[I" ∈ pw_BW := pw_bw (List.mem_of_getElem? (i := 772) (by decide +kernel)) rfl
theorem mw_773 : Cond.fieldLink RX11 63 "PerhapsWasModel" "holds" "[Z" ∈ pw_BW := pw_bw (List.mem_of_getElem? (i := 773) (by decide +kernel)) rfl
theorem mw_774 : Cond.fieldLink RX11 66 "PerhapsWasModel" "come" "[Z" ∈ pw_BW := pw_bw (List.mem_of_getElem? (i := 774) (by decide +kernel)) rfl
theorem mw_775 : Cond.fieldLink RX11 69 "PerhapsWasModel" "said" "[I" ∈ pw_BW := pw_bw (List.mem_of_getElem? (i := 775) (by decide +kernel)) rfl
theorem mw_776 : Cond.fieldLink RX11 190 "PerhapsWasModel" "saids" "I" ∈ pw_BW := pw_bw (List.mem_of_getElem? (i := 776) (by decide +kernel)) rfl
theorem mw_834 : Cond.methodLink RL 17 yX11_process ∈ pw_BW := pw_bw (List.mem_of_getElem? (i := 834) (by decide +kernel)) rfl
theorem mw_835 : Cond.instanceMethod yX11_process ∈ pw_BW := pw_bw (List.mem_of_getElem? (i := 835) (by decide +kernel)) rfl
theorem mw_836 : Cond.selects RX11 yX11_process yX11_process ∈ pw_BW := pw_bw (List.mem_of_getElem? (i := 836) (by decide +kernel)) rfl
set_option maxRecDepth 40000 in
theorem mw_837 : Cond.code yX11_process cX11_process 1 (some .int) ∈ pw_BW := pw_bw (List.mem_of_getElem? (i := 837) (by rfl)) rfl
theorem mw_838 : Cond.methodLink RL 22 yX11_own ∈ pw_BW := pw_bw (List.mem_of_getElem? (i := 838) (by decide +kernel)) rfl
theorem mw_839 : Cond.instanceMethod yX11_own ∈ pw_BW := pw_bw (List.mem_of_getElem? (i := 839) (by decide +kernel)) rfl
theorem mw_840 : Cond.selects RX11 yX11_own yX11_own ∈ pw_BW := pw_bw (List.mem_of_getElem? (i := 840) (by decide +kernel)) rfl
set_option maxRecDepth 40000 in
theorem mw_841 : Cond.code yX11_own cX11_own 6 (some .int) ∈ pw_BW := pw_bw (List.mem_of_getElem? (i := 841) (by rfl)) rfl
theorem mw_842 : Cond.methodLink RX11 83 yX11_isProcess ∈ pw_BW := pw_bw (List.mem_of_getElem? (i := 842) (by decide +kernel)) rfl
theorem mw_844 : Cond.instanceMethod yX11_isProcess ∈ pw_BW := pw_bw (List.mem_of_getElem? (i := 844) (by decide +kernel)) rfl
set_option maxRecDepth 40000 in
theorem mw_845 : Cond.code yX11_isProcess cX11_isProcess 2 (some .boolean) ∈ pw_BW := pw_bw (List.mem_of_getElem? (i := 845) (by rfl)) rfl
theorem mw_846 : Cond.methodLink RX11 79 yX11_in ∈ pw_BW := pw_bw (List.mem_of_getElem? (i := 846) (by decide +kernel)) rfl
theorem mw_847 : Cond.static yX11_in ∈ pw_BW := pw_bw (List.mem_of_getElem? (i := 847) (by decide +kernel)) rfl
set_option maxRecDepth 40000 in
theorem mw_848 : Cond.code yX11_in cX11_in 3 (some .boolean) ∈ pw_BW := pw_bw (List.mem_of_getElem? (i := 848) (by rfl)) rfl
theorem mw_849 : Cond.methodLink RX11 90 yX11_comes ∈ pw_BW := pw_bw (List.mem_of_getElem? (i := 849) (by decide +kernel)) rfl
theorem mw_851 : Cond.instanceMethod yX11_comes ∈ pw_BW := pw_bw (List.mem_of_getElem? (i := 851) (by decide +kernel)) rfl
set_option maxRecDepth 40000 in
theorem mw_852 : Cond.code yX11_comes cX11_comes 7 (some .int) ∈ pw_BW := pw_bw (List.mem_of_getElem? (i := 852) (by rfl)) rfl
theorem mw_853 : Cond.methodLink RL 27 yX11_send ∈ pw_BW := pw_bw (List.mem_of_getElem? (i := 853) (by decide +kernel)) rfl
theorem mw_854 : Cond.instanceMethod yX11_send ∈ pw_BW := pw_bw (List.mem_of_getElem? (i := 854) (by decide +kernel)) rfl
theorem mw_855 : Cond.selects RX11 yX11_send yX11_send ∈ pw_BW := pw_bw (List.mem_of_getElem? (i := 855) (by decide +kernel)) rfl
set_option maxRecDepth 40000 in
theorem mw_856 : Cond.code yX11_send cX11_send 4 (some .int) ∈ pw_BW := pw_bw (List.mem_of_getElem? (i := 856) (by rfl)) rfl
theorem mw_857 : Cond.methodLink RL 32 yX11_take ∈ pw_BW := pw_bw (List.mem_of_getElem? (i := 857) (by decide +kernel)) rfl
theorem mw_858 : Cond.instanceMethod yX11_take ∈ pw_BW := pw_bw (List.mem_of_getElem? (i := 858) (by decide +kernel)) rfl
theorem mw_859 : Cond.selects RX11 yX11_take yX11_take ∈ pw_BW := pw_bw (List.mem_of_getElem? (i := 859) (by decide +kernel)) rfl
set_option maxRecDepth 40000 in
theorem mw_860 : Cond.code yX11_take cX11_take 4 (some .int) ∈ pw_BW := pw_bw (List.mem_of_getElem? (i := 860) (by rfl)) rfl
theorem mw_861 : Cond.methodLink RX11 97 yX11_joins ∈ pw_BW := pw_bw (List.mem_of_getElem? (i := 861) (by decide +kernel)) rfl
theorem mw_863 : Cond.instanceMethod yX11_joins ∈ pw_BW := pw_bw (List.mem_of_getElem? (i := 863) (by decide +kernel)) rfl
set_option maxRecDepth 40000 in
theorem mw_864 : Cond.code yX11_joins cX11_joins 4 none ∈ pw_BW := pw_bw (List.mem_of_getElem? (i := 864) (by rfl)) rfl
theorem mw_865 : Cond.methodLink RL 36 yX11_wait ∈ pw_BW := pw_bw (List.mem_of_getElem? (i := 865) (by decide +kernel)) rfl
theorem mw_866 : Cond.instanceMethod yX11_wait ∈ pw_BW := pw_bw (List.mem_of_getElem? (i := 866) (by decide +kernel)) rfl
theorem mw_867 : Cond.selects RX11 yX11_wait yX11_wait ∈ pw_BW := pw_bw (List.mem_of_getElem? (i := 867) (by decide +kernel)) rfl
set_option maxRecDepth 40000 in
theorem mw_868 : Cond.code yX11_wait cX11_wait 4 (some .int) ∈ pw_BW := pw_bw (List.mem_of_getElem? (i := 868) (by rfl)) rfl
theorem mw_869 : Cond.methodLink RL 40 yX11_undo ∈ pw_BW := pw_bw (List.mem_of_getElem? (i := 869) (by decide +kernel)) rfl
theorem mw_870 : Cond.instanceMethod yX11_undo ∈ pw_BW := pw_bw (List.mem_of_getElem? (i := 870) (by decide +kernel)) rfl
theorem mw_871 : Cond.selects RX11 yX11_undo yX11_undo ∈ pw_BW := pw_bw (List.mem_of_getElem? (i := 871) (by decide +kernel)) rfl
set_option maxRecDepth 40000 in
theorem mw_872 : Cond.code yX11_undo cX11_undo 3 (some .int) ∈ pw_BW := pw_bw (List.mem_of_getElem? (i := 872) (by rfl)) rfl
theorem mw_873 : Cond.methodLink RL 45 yX11_event ∈ pw_BW := pw_bw (List.mem_of_getElem? (i := 873) (by decide +kernel)) rfl
theorem mw_874 : Cond.instanceMethod yX11_event ∈ pw_BW := pw_bw (List.mem_of_getElem? (i := 874) (by decide +kernel)) rfl
theorem mw_875 : Cond.selects RX11 yX11_event yX11_event ∈ pw_BW := pw_bw (List.mem_of_getElem? (i := 875) (by decide +kernel)) rfl
set_option maxRecDepth 40000 in
theorem mw_876 : Cond.code yX11_event cX11_event 5 (some .int) ∈ pw_BW := pw_bw (List.mem_of_getElem? (i := 876) (by rfl)) rfl
theorem mw_877 : Cond.methodLink RX11 101 yX11_isEvent ∈ pw_BW := pw_bw (List.mem_of_getElem? (i := 877) (by decide +kernel)) rfl
theorem mw_879 : Cond.instanceMethod yX11_isEvent ∈ pw_BW := pw_bw (List.mem_of_getElem? (i := 879) (by decide +kernel)) rfl
set_option maxRecDepth 40000 in
theorem mw_880 : Cond.code yX11_isEvent cX11_isEvent 3 (some .boolean) ∈ pw_BW := pw_bw (List.mem_of_getElem? (i := 880) (by rfl)) rfl
theorem mw_881 : Cond.methodLink RL 49 yX11_letter ∈ pw_BW := pw_bw (List.mem_of_getElem? (i := 881) (by decide +kernel)) rfl
theorem mw_882 : Cond.instanceMethod yX11_letter ∈ pw_BW := pw_bw (List.mem_of_getElem? (i := 882) (by decide +kernel)) rfl
theorem mw_883 : Cond.selects RX11 yX11_letter yX11_letter ∈ pw_BW := pw_bw (List.mem_of_getElem? (i := 883) (by decide +kernel)) rfl
set_option maxRecDepth 40000 in
theorem mw_884 : Cond.code yX11_letter cX11_letter 3 (some .int) ∈ pw_BW := pw_bw (List.mem_of_getElem? (i := 884) (by rfl)) rfl
theorem mw_885 : Cond.methodLink RL 53 yX11_ahead ∈ pw_BW := pw_bw (List.mem_of_getElem? (i := 885) (by decide +kernel)) rfl
theorem mw_886 : Cond.instanceMethod yX11_ahead ∈ pw_BW := pw_bw (List.mem_of_getElem? (i := 886) (by decide +kernel)) rfl
theorem mw_887 : Cond.selects RX11 yX11_ahead yX11_ahead ∈ pw_BW := pw_bw (List.mem_of_getElem? (i := 887) (by decide +kernel)) rfl
set_option maxRecDepth 40000 in
theorem mw_888 : Cond.code yX11_ahead cX11_ahead 5 (some .int) ∈ pw_BW := pw_bw (List.mem_of_getElem? (i := 888) (by rfl)) rfl
theorem mw_889 : Cond.methodLink RL 57 yX11_clock ∈ pw_BW := pw_bw (List.mem_of_getElem? (i := 889) (by decide +kernel)) rfl
theorem mw_890 : Cond.instanceMethod yX11_clock ∈ pw_BW := pw_bw (List.mem_of_getElem? (i := 890) (by decide +kernel)) rfl
theorem mw_891 : Cond.selects RX11 yX11_clock yX11_clock ∈ pw_BW := pw_bw (List.mem_of_getElem? (i := 891) (by decide +kernel)) rfl
set_option maxRecDepth 40000 in
theorem mw_892 : Cond.code yX11_clock cX11_clock 4 (some .int) ∈ pw_BW := pw_bw (List.mem_of_getElem? (i := 892) (by rfl)) rfl
theorem mw_893 : Cond.methodLink RL 61 yX11_possible ∈ pw_BW := pw_bw (List.mem_of_getElem? (i := 893) (by decide +kernel)) rfl
theorem mw_894 : Cond.instanceMethod yX11_possible ∈ pw_BW := pw_bw (List.mem_of_getElem? (i := 894) (by decide +kernel)) rfl
theorem mw_895 : Cond.selects RX11 yX11_possible yX11_possible ∈ pw_BW := pw_bw (List.mem_of_getElem? (i := 895) (by decide +kernel)) rfl
set_option maxRecDepth 40000 in
theorem mw_896 : Cond.code yX11_possible cX11_possible 2 (some .int) ∈ pw_BW := pw_bw (List.mem_of_getElem? (i := 896) (by rfl)) rfl
theorem mw_897 : Cond.methodLink RX11 113 yX11_isCut ∈ pw_BW := pw_bw (List.mem_of_getElem? (i := 897) (by decide +kernel)) rfl
theorem mw_899 : Cond.instanceMethod yX11_isCut ∈ pw_BW := pw_bw (List.mem_of_getElem? (i := 899) (by decide +kernel)) rfl
set_option maxRecDepth 40000 in
theorem mw_900 : Cond.code yX11_isCut cX11_isCut 3 (some .boolean) ∈ pw_BW := pw_bw (List.mem_of_getElem? (i := 900) (by rfl)) rfl
theorem mw_901 : Cond.methodLink RX11 109 yX11_part ∈ pw_BW := pw_bw (List.mem_of_getElem? (i := 901) (by decide +kernel)) rfl
theorem mw_902 : Cond.static yX11_part ∈ pw_BW := pw_bw (List.mem_of_getElem? (i := 902) (by decide +kernel)) rfl
set_option maxRecDepth 40000 in
theorem mw_903 : Cond.code yX11_part cX11_part 2 (some .int) ∈ pw_BW := pw_bw (List.mem_of_getElem? (i := 903) (by rfl)) rfl
theorem mw_904 : Cond.methodLink RX11 105 yX11_unit ∈ pw_BW := pw_bw (List.mem_of_getElem? (i := 904) (by decide +kernel)) rfl
theorem mw_905 : Cond.static yX11_unit ∈ pw_BW := pw_bw (List.mem_of_getElem? (i := 905) (by decide +kernel)) rfl
set_option maxRecDepth 40000 in
theorem mw_906 : Cond.code yX11_unit cX11_unit 1 (some .int) ∈ pw_BW := pw_bw (List.mem_of_getElem? (i := 906) (by rfl)) rfl
theorem mw_907 : Cond.methodLink RX11 116 yX11_isPossible ∈ pw_BW := pw_bw (List.mem_of_getElem? (i := 907) (by decide +kernel)) rfl
theorem mw_909 : Cond.instanceMethod yX11_isPossible ∈ pw_BW := pw_bw (List.mem_of_getElem? (i := 909) (by decide +kernel)) rfl
set_option maxRecDepth 40000 in
theorem mw_910 : Cond.code yX11_isPossible cX11_isPossible 5 (some .boolean) ∈ pw_BW := pw_bw (List.mem_of_getElem? (i := 910) (by rfl)) rfl
theorem mw_911 : Cond.methodLink RL 65 yX11_cuts ∈ pw_BW := pw_bw (List.mem_of_getElem? (i := 911) (by decide +kernel)) rfl
theorem mw_912 : Cond.instanceMethod yX11_cuts ∈ pw_BW := pw_bw (List.mem_of_getElem? (i := 912) (by decide +kernel)) rfl
theorem mw_913 : Cond.selects RX11 yX11_cuts yX11_cuts ∈ pw_BW := pw_bw (List.mem_of_getElem? (i := 913) (by decide +kernel)) rfl
set_option maxRecDepth 40000 in
theorem mw_914 : Cond.code yX11_cuts cX11_cuts 4 (some .int) ∈ pw_BW := pw_bw (List.mem_of_getElem? (i := 914) (by rfl)) rfl
theorem mw_915 : Cond.methodLink RX11 119 yX11_sizeOf ∈ pw_BW := pw_bw (List.mem_of_getElem? (i := 915) (by decide +kernel)) rfl
theorem mw_916 : Cond.static yX11_sizeOf ∈ pw_BW := pw_bw (List.mem_of_getElem? (i := 916) (by decide +kernel)) rfl
set_option maxRecDepth 40000 in
theorem mw_917 : Cond.code yX11_sizeOf cX11_sizeOf 3 (some .int) ∈ pw_BW := pw_bw (List.mem_of_getElem? (i := 917) (by rfl)) rfl
theorem mw_918 : Cond.methodLink RL 69 yX11_next ∈ pw_BW := pw_bw (List.mem_of_getElem? (i := 918) (by decide +kernel)) rfl
theorem mw_919 : Cond.instanceMethod yX11_next ∈ pw_BW := pw_bw (List.mem_of_getElem? (i := 919) (by decide +kernel)) rfl
theorem mw_920 : Cond.selects RX11 yX11_next yX11_next ∈ pw_BW := pw_bw (List.mem_of_getElem? (i := 920) (by decide +kernel)) rfl
set_option maxRecDepth 40000 in
theorem mw_921 : Cond.code yX11_next cX11_next 6 (some .int) ∈ pw_BW := pw_bw (List.mem_of_getElem? (i := 921) (by rfl)) rfl
theorem mw_922 : Cond.methodLink RL 73 yX11_join ∈ pw_BW := pw_bw (List.mem_of_getElem? (i := 922) (by decide +kernel)) rfl
theorem mw_923 : Cond.instanceMethod yX11_join ∈ pw_BW := pw_bw (List.mem_of_getElem? (i := 923) (by decide +kernel)) rfl
theorem mw_924 : Cond.selects RX11 yX11_join yX11_join ∈ pw_BW := pw_bw (List.mem_of_getElem? (i := 924) (by decide +kernel)) rfl
set_option maxRecDepth 40000 in
theorem mw_925 : Cond.code yX11_join cX11_join 4 (some .int) ∈ pw_BW := pw_bw (List.mem_of_getElem? (i := 925) (by rfl)) rfl
theorem mw_926 : Cond.methodLink RX11 122 yX11_joined ∈ pw_BW := pw_bw (List.mem_of_getElem? (i := 926) (by decide +kernel)) rfl
theorem mw_927 : Cond.static yX11_joined ∈ pw_BW := pw_bw (List.mem_of_getElem? (i := 927) (by decide +kernel)) rfl
set_option maxRecDepth 40000 in
theorem mw_928 : Cond.code yX11_joined cX11_joined 7 (some .int) ∈ pw_BW := pw_bw (List.mem_of_getElem? (i := 928) (by rfl)) rfl
theorem mw_929 : Cond.methodLink RL 77 yX11_least ∈ pw_BW := pw_bw (List.mem_of_getElem? (i := 929) (by decide +kernel)) rfl
theorem mw_930 : Cond.instanceMethod yX11_least ∈ pw_BW := pw_bw (List.mem_of_getElem? (i := 930) (by decide +kernel)) rfl
theorem mw_931 : Cond.selects RX11 yX11_least yX11_least ∈ pw_BW := pw_bw (List.mem_of_getElem? (i := 931) (by decide +kernel)) rfl
set_option maxRecDepth 40000 in
theorem mw_932 : Cond.code yX11_least cX11_least 5 (some .int) ∈ pw_BW := pw_bw (List.mem_of_getElem? (i := 932) (by rfl)) rfl
theorem mw_933 : Cond.methodLink RL 82 yX11_orders ∈ pw_BW := pw_bw (List.mem_of_getElem? (i := 933) (by decide +kernel)) rfl
theorem mw_934 : Cond.instanceMethod yX11_orders ∈ pw_BW := pw_bw (List.mem_of_getElem? (i := 934) (by decide +kernel)) rfl
theorem mw_935 : Cond.selects RX11 yX11_orders yX11_orders ∈ pw_BW := pw_bw (List.mem_of_getElem? (i := 935) (by decide +kernel)) rfl
set_option maxRecDepth 40000 in
theorem mw_936 : Cond.code yX11_orders cX11_orders 1 (some .long) ∈ pw_BW := pw_bw (List.mem_of_getElem? (i := 936) (by rfl)) rfl
theorem mw_937 : Cond.methodLink RX11 132 yX11_open ∈ pw_BW := pw_bw (List.mem_of_getElem? (i := 937) (by decide +kernel)) rfl
theorem mw_939 : Cond.instanceMethod yX11_open ∈ pw_BW := pw_bw (List.mem_of_getElem? (i := 939) (by decide +kernel)) rfl
set_option maxRecDepth 40000 in
theorem mw_940 : Cond.code yX11_open cX11_open 2 none ∈ pw_BW := pw_bw (List.mem_of_getElem? (i := 940) (by rfl)) rfl
theorem mw_941 : Cond.methodLink RX11 135 yX11_count ∈ pw_BW := pw_bw (List.mem_of_getElem? (i := 941) (by decide +kernel)) rfl
theorem mw_943 : Cond.instanceMethod yX11_count ∈ pw_BW := pw_bw (List.mem_of_getElem? (i := 943) (by decide +kernel)) rfl
set_option maxRecDepth 40000 in
theorem mw_944 : Cond.code yX11_count cX11_count 4 none ∈ pw_BW := pw_bw (List.mem_of_getElem? (i := 944) (by rfl)) rfl
theorem mw_945 : Cond.methodLink RX11 126 yX11_whole ∈ pw_BW := pw_bw (List.mem_of_getElem? (i := 945) (by decide +kernel)) rfl
theorem mw_947 : Cond.instanceMethod yX11_whole ∈ pw_BW := pw_bw (List.mem_of_getElem? (i := 947) (by decide +kernel)) rfl
set_option maxRecDepth 40000 in
theorem mw_948 : Cond.code yX11_whole cX11_whole 3 (some .int) ∈ pw_BW := pw_bw (List.mem_of_getElem? (i := 948) (by rfl)) rfl
theorem mw_949 : Cond.constantLong RX11 130 (1000000000000000000 : Int64) ∈ pw_BW := pw_bw (List.mem_of_getElem? (i := 949) (by decide +kernel)) rfl
theorem mw_950 : Cond.methodLink RL 89 yX11_order ∈ pw_BW := pw_bw (List.mem_of_getElem? (i := 950) (by decide +kernel)) rfl
theorem mw_951 : Cond.instanceMethod yX11_order ∈ pw_BW := pw_bw (List.mem_of_getElem? (i := 951) (by decide +kernel)) rfl
theorem mw_952 : Cond.selects RX11 yX11_order yX11_order ∈ pw_BW := pw_bw (List.mem_of_getElem? (i := 952) (by decide +kernel)) rfl
set_option maxRecDepth 40000 in
theorem mw_953 : Cond.code yX11_order cX11_order 4 (some .int) ∈ pw_BW := pw_bw (List.mem_of_getElem? (i := 953) (by rfl)) rfl
theorem mw_954 : Cond.methodLink RX11 138 yX11_walk ∈ pw_BW := pw_bw (List.mem_of_getElem? (i := 954) (by decide +kernel)) rfl
theorem mw_956 : Cond.instanceMethod yX11_walk ∈ pw_BW := pw_bw (List.mem_of_getElem? (i := 956) (by decide +kernel)) rfl
set_option maxRecDepth 40000 in
theorem mw_957 : Cond.code yX11_walk cX11_walk 9 (some .int) ∈ pw_BW := pw_bw (List.mem_of_getElem? (i := 957) (by rfl)) rfl
theorem mw_958 : Cond.methodLink RL 93 yX11_number ∈ pw_BW := pw_bw (List.mem_of_getElem? (i := 958) (by decide +kernel)) rfl
theorem mw_959 : Cond.instanceMethod yX11_number ∈ pw_BW := pw_bw (List.mem_of_getElem? (i := 959) (by decide +kernel)) rfl
theorem mw_960 : Cond.selects RX11 yX11_number yX11_number ∈ pw_BW := pw_bw (List.mem_of_getElem? (i := 960) (by decide +kernel)) rfl
set_option maxRecDepth 40000 in
theorem mw_961 : Cond.code yX11_number cX11_number 2 (some .int) ∈ pw_BW := pw_bw (List.mem_of_getElem? (i := 961) (by rfl)) rfl
theorem mw_962 : Cond.methodLink RX11 145 yX11_push ∈ pw_BW := pw_bw (List.mem_of_getElem? (i := 962) (by decide +kernel)) rfl
theorem mw_964 : Cond.instanceMethod yX11_push ∈ pw_BW := pw_bw (List.mem_of_getElem? (i := 964) (by decide +kernel)) rfl
set_option maxRecDepth 40000 in
theorem mw_965 : Cond.code yX11_push cX11_push 5 (some .int) ∈ pw_BW := pw_bw (List.mem_of_getElem? (i := 965) (by rfl)) rfl
theorem mw_966 : Cond.methodLink RL 97 yX11_part_ ∈ pw_BW := pw_bw (List.mem_of_getElem? (i := 966) (by decide +kernel)) rfl
theorem mw_967 : Cond.instanceMethod yX11_part_ ∈ pw_BW := pw_bw (List.mem_of_getElem? (i := 967) (by decide +kernel)) rfl
theorem mw_968 : Cond.selects RX11 yX11_part_ yX11_part_ ∈ pw_BW := pw_bw (List.mem_of_getElem? (i := 968) (by decide +kernel)) rfl
set_option maxRecDepth 40000 in
theorem mw_969 : Cond.code yX11_part_ cX11_part_ 4 (some .int) ∈ pw_BW := pw_bw (List.mem_of_getElem? (i := 969) (by rfl)) rfl
theorem mw_970 : Cond.methodLink RL 101 yX11_op ∈ pw_BW := pw_bw (List.mem_of_getElem? (i := 970) (by decide +kernel)) rfl
theorem mw_971 : Cond.instanceMethod yX11_op ∈ pw_BW := pw_bw (List.mem_of_getElem? (i := 971) (by decide +kernel)) rfl
theorem mw_972 : Cond.selects RX11 yX11_op yX11_op ∈ pw_BW := pw_bw (List.mem_of_getElem? (i := 972) (by decide +kernel)) rfl
set_option maxRecDepth 40000 in
theorem mw_973 : Cond.code yX11_op cX11_op 7 (some .int) ∈ pw_BW := pw_bw (List.mem_of_getElem? (i := 973) (by rfl)) rfl
theorem mw_974 : Cond.methodLink RX11 149 yX11_copy ∈ pw_BW := pw_bw (List.mem_of_getElem? (i := 974) (by decide +kernel)) rfl
theorem mw_976 : Cond.instanceMethod yX11_copy ∈ pw_BW := pw_bw (List.mem_of_getElem? (i := 976) (by decide +kernel)) rfl
set_option maxRecDepth 40000 in
theorem mw_977 : Cond.code yX11_copy cX11_copy 5 none ∈ pw_BW := pw_bw (List.mem_of_getElem? (i := 977) (by rfl)) rfl
theorem mw_978 : Cond.methodLink RL 105 yX11_condition ∈ pw_BW := pw_bw (List.mem_of_getElem? (i := 978) (by decide +kernel)) rfl
theorem mw_979 : Cond.instanceMethod yX11_condition ∈ pw_BW := pw_bw (List.mem_of_getElem? (i := 979) (by decide +kernel)) rfl
theorem mw_980 : Cond.selects RX11 yX11_condition yX11_condition ∈ pw_BW := pw_bw (List.mem_of_getElem? (i := 980) (by decide +kernel)) rfl
set_option maxRecDepth 40000 in
theorem mw_981 : Cond.code yX11_condition cX11_condition 1 (some .int) ∈ pw_BW := pw_bw (List.mem_of_getElem? (i := 981) (by rfl)) rfl
theorem mw_982 : Cond.methodLink RL 109 yX11_clear ∈ pw_BW := pw_bw (List.mem_of_getElem? (i := 982) (by decide +kernel)) rfl
theorem mw_983 : Cond.instanceMethod yX11_clear ∈ pw_BW := pw_bw (List.mem_of_getElem? (i := 983) (by decide +kernel)) rfl
theorem mw_984 : Cond.selects RX11 yX11_clear yX11_clear ∈ pw_BW := pw_bw (List.mem_of_getElem? (i := 984) (by decide +kernel)) rfl
set_option maxRecDepth 40000 in
theorem mw_985 : Cond.code yX11_clear cX11_clear 3 (some .int) ∈ pw_BW := pw_bw (List.mem_of_getElem? (i := 985) (by rfl)) rfl
theorem mw_986 : Cond.methodLink RL 113 yX11_value ∈ pw_BW := pw_bw (List.mem_of_getElem? (i := 986) (by decide +kernel)) rfl
theorem mw_987 : Cond.instanceMethod yX11_value ∈ pw_BW := pw_bw (List.mem_of_getElem? (i := 987) (by decide +kernel)) rfl
theorem mw_988 : Cond.selects RX11 yX11_value yX11_value ∈ pw_BW := pw_bw (List.mem_of_getElem? (i := 988) (by decide +kernel)) rfl
set_option maxRecDepth 40000 in
theorem mw_989 : Cond.code yX11_value cX11_value 3 (some .int) ∈ pw_BW := pw_bw (List.mem_of_getElem? (i := 989) (by rfl)) rfl
theorem mw_990 : Cond.methodLink RX11 167 yX11_worthOf ∈ pw_BW := pw_bw (List.mem_of_getElem? (i := 990) (by decide +kernel)) rfl
theorem mw_992 : Cond.instanceMethod yX11_worthOf ∈ pw_BW := pw_bw (List.mem_of_getElem? (i := 992) (by decide +kernel)) rfl
set_option maxRecDepth 40000 in
theorem mw_993 : Cond.code yX11_worthOf cX11_worthOf 6 (some .int) ∈ pw_BW := pw_bw (List.mem_of_getElem? (i := 993) (by rfl)) rfl
theorem mw_994 : Cond.methodLink RX11 155 yX11_give ∈ pw_BW := pw_bw (List.mem_of_getElem? (i := 994) (by decide +kernel)) rfl
theorem mw_995 : Cond.static yX11_give ∈ pw_BW := pw_bw (List.mem_of_getElem? (i := 995) (by decide +kernel)) rfl
set_option maxRecDepth 40000 in
theorem mw_996 : Cond.code yX11_give cX11_give 3 (some .int) ∈ pw_BW := pw_bw (List.mem_of_getElem? (i := 996) (by rfl)) rfl
theorem mw_997 : Cond.methodLink RX11 158 yX11_nameAt ∈ pw_BW := pw_bw (List.mem_of_getElem? (i := 997) (by decide +kernel)) rfl
theorem mw_999 : Cond.instanceMethod yX11_nameAt ∈ pw_BW := pw_bw (List.mem_of_getElem? (i := 999) (by decide +kernel)) rfl
set_option maxRecDepth 40000 in
theorem mw_1000 : Cond.code yX11_nameAt cX11_nameAt 7 (some .int) ∈ pw_BW := pw_bw (List.mem_of_getElem? (i := 1000) (by rfl)) rfl
theorem mw_1001 : Cond.methodLink RX11 161 yX11_underWay ∈ pw_BW := pw_bw (List.mem_of_getElem? (i := 1001) (by decide +kernel)) rfl
theorem mw_1003 : Cond.instanceMethod yX11_underWay ∈ pw_BW := pw_bw (List.mem_of_getElem? (i := 1003) (by decide +kernel)) rfl
set_option maxRecDepth 40000 in
theorem mw_1004 : Cond.code yX11_underWay cX11_underWay 6 (some .int) ∈ pw_BW := pw_bw (List.mem_of_getElem? (i := 1004) (by rfl)) rfl
theorem mw_1005 : Cond.methodLink RL 117 yX11_status ∈ pw_BW := pw_bw (List.mem_of_getElem? (i := 1005) (by decide +kernel)) rfl
theorem mw_1006 : Cond.instanceMethod yX11_status ∈ pw_BW := pw_bw (List.mem_of_getElem? (i := 1006) (by decide +kernel)) rfl
theorem mw_1007 : Cond.selects RX11 yX11_status yX11_status ∈ pw_BW := pw_bw (List.mem_of_getElem? (i := 1007) (by decide +kernel)) rfl
set_option maxRecDepth 40000 in
theorem mw_1008 : Cond.code yX11_status cX11_status 1 (some .int) ∈ pw_BW := pw_bw (List.mem_of_getElem? (i := 1008) (by rfl)) rfl
theorem mw_1009 : Cond.methodLink RL 121 yX11_may ∈ pw_BW := pw_bw (List.mem_of_getElem? (i := 1009) (by decide +kernel)) rfl
theorem mw_1010 : Cond.instanceMethod yX11_may ∈ pw_BW := pw_bw (List.mem_of_getElem? (i := 1010) (by decide +kernel)) rfl
theorem mw_1011 : Cond.selects RX11 yX11_may yX11_may ∈ pw_BW := pw_bw (List.mem_of_getElem? (i := 1011) (by decide +kernel)) rfl
set_option maxRecDepth 40000 in
theorem mw_1012 : Cond.code yX11_may cX11_may 2 (some .int) ∈ pw_BW := pw_bw (List.mem_of_getElem? (i := 1012) (by rfl)) rfl
theorem mw_1013 : Cond.methodLink RX11 173 yX11_extreme ∈ pw_BW := pw_bw (List.mem_of_getElem? (i := 1013) (by decide +kernel)) rfl
theorem mw_1015 : Cond.instanceMethod yX11_extreme ∈ pw_BW := pw_bw (List.mem_of_getElem? (i := 1015) (by decide +kernel)) rfl
set_option maxRecDepth 40000 in
theorem mw_1016 : Cond.code yX11_extreme cX11_extreme 6 (some .int) ∈ pw_BW := pw_bw (List.mem_of_getElem? (i := 1016) (by rfl)) rfl
theorem mw_1017 : Cond.methodLink RX11 170 yX11_study ∈ pw_BW := pw_bw (List.mem_of_getElem? (i := 1017) (by decide +kernel)) rfl
theorem mw_1019 : Cond.instanceMethod yX11_study ∈ pw_BW := pw_bw (List.mem_of_getElem? (i := 1019) (by decide +kernel)) rfl
set_option maxRecDepth 40000 in
theorem mw_1020 : Cond.code yX11_study cX11_study 3 (some .boolean) ∈ pw_BW := pw_bw (List.mem_of_getElem? (i := 1020) (by rfl)) rfl
theorem mw_1021 : Cond.methodLink RL 125 yX11_last ∈ pw_BW := pw_bw (List.mem_of_getElem? (i := 1021) (by decide +kernel)) rfl
theorem mw_1022 : Cond.instanceMethod yX11_last ∈ pw_BW := pw_bw (List.mem_of_getElem? (i := 1022) (by decide +kernel)) rfl
theorem mw_1023 : Cond.selects RX11 yX11_last yX11_last ∈ pw_BW := pw_bw (List.mem_of_getElem? (i := 1023) (by decide +kernel)) rfl
set_option maxRecDepth 40000 in
theorem mw_1024 : Cond.code yX11_last cX11_last 2 (some .int) ∈ pw_BW := pw_bw (List.mem_of_getElem? (i := 1024) (by rfl)) rfl
theorem mw_1025 : Cond.methodLink RL 129 yX11_many ∈ pw_BW := pw_bw (List.mem_of_getElem? (i := 1025) (by decide +kernel)) rfl
theorem mw_1026 : Cond.instanceMethod yX11_many ∈ pw_BW := pw_bw (List.mem_of_getElem? (i := 1026) (by decide +kernel)) rfl
theorem mw_1027 : Cond.selects RX11 yX11_many yX11_many ∈ pw_BW := pw_bw (List.mem_of_getElem? (i := 1027) (by decide +kernel)) rfl
set_option maxRecDepth 40000 in
theorem mw_1028 : Cond.code yX11_many cX11_many 4 (some .int) ∈ pw_BW := pw_bw (List.mem_of_getElem? (i := 1028) (by rfl)) rfl
theorem mw_1029 : Cond.methodLink RL 133 yX11_sure ∈ pw_BW := pw_bw (List.mem_of_getElem? (i := 1029) (by decide +kernel)) rfl
theorem mw_1030 : Cond.instanceMethod yX11_sure ∈ pw_BW := pw_bw (List.mem_of_getElem? (i := 1030) (by decide +kernel)) rfl
theorem mw_1031 : Cond.selects RX11 yX11_sure yX11_sure ∈ pw_BW := pw_bw (List.mem_of_getElem? (i := 1031) (by decide +kernel)) rfl
set_option maxRecDepth 40000 in
theorem mw_1032 : Cond.code yX11_sure cX11_sure 2 (some .int) ∈ pw_BW := pw_bw (List.mem_of_getElem? (i := 1032) (by rfl)) rfl
theorem mw_1033 : Cond.methodLink RX11 177 yX11_bars ∈ pw_BW := pw_bw (List.mem_of_getElem? (i := 1033) (by decide +kernel)) rfl
theorem mw_1035 : Cond.instanceMethod yX11_bars ∈ pw_BW := pw_bw (List.mem_of_getElem? (i := 1035) (by decide +kernel)) rfl
set_option maxRecDepth 40000 in
theorem mw_1036 : Cond.code yX11_bars cX11_bars 3 (some .boolean) ∈ pw_BW := pw_bw (List.mem_of_getElem? (i := 1036) (by rfl)) rfl
theorem mw_1037 : Cond.methodLink RL 137 yX11_avoid ∈ pw_BW := pw_bw (List.mem_of_getElem? (i := 1037) (by decide +kernel)) rfl
theorem mw_1038 : Cond.instanceMethod yX11_avoid ∈ pw_BW := pw_bw (List.mem_of_getElem? (i := 1038) (by decide +kernel)) rfl
theorem mw_1039 : Cond.selects RX11 yX11_avoid yX11_avoid ∈ pw_BW := pw_bw (List.mem_of_getElem? (i := 1039) (by decide +kernel)) rfl
set_option maxRecDepth 40000 in
theorem mw_1040 : Cond.code yX11_avoid cX11_avoid 3 (some .int) ∈ pw_BW := pw_bw (List.mem_of_getElem? (i := 1040) (by rfl)) rfl
theorem mw_1041 : Cond.methodLink RL 142 yX11_avoids ∈ pw_BW := pw_bw (List.mem_of_getElem? (i := 1041) (by decide +kernel)) rfl
theorem mw_1042 : Cond.instanceMethod yX11_avoids ∈ pw_BW := pw_bw (List.mem_of_getElem? (i := 1042) (by decide +kernel)) rfl
theorem mw_1043 : Cond.selects RX11 yX11_avoids yX11_avoids ∈ pw_BW := pw_bw (List.mem_of_getElem? (i := 1043) (by decide +kernel)) rfl
set_option maxRecDepth 40000 in
theorem mw_1044 : Cond.code yX11_avoids cX11_avoids 2 (some .long) ∈ pw_BW := pw_bw (List.mem_of_getElem? (i := 1044) (by rfl)) rfl
theorem mw_1045 : Cond.constantLong RX11 180 (-1 : Int64) ∈ pw_BW := pw_bw (List.mem_of_getElem? (i := 1045) (by decide +kernel)) rfl
theorem mw_1046 : Cond.methodLink RL 146 yX11_is ∈ pw_BW := pw_bw (List.mem_of_getElem? (i := 1046) (by decide +kernel)) rfl
theorem mw_1047 : Cond.instanceMethod yX11_is ∈ pw_BW := pw_bw (List.mem_of_getElem? (i := 1047) (by decide +kernel)) rfl
theorem mw_1048 : Cond.selects RX11 yX11_is yX11_is ∈ pw_BW := pw_bw (List.mem_of_getElem? (i := 1048) (by decide +kernel)) rfl
set_option maxRecDepth 40000 in
theorem mw_1049 : Cond.code yX11_is cX11_is 3 (some .int) ∈ pw_BW := pw_bw (List.mem_of_getElem? (i := 1049) (by rfl)) rfl
theorem mw_1050 : Cond.methodLink RX11 182 yX11_isKept ∈ pw_BW := pw_bw (List.mem_of_getElem? (i := 1050) (by decide +kernel)) rfl
theorem mw_1052 : Cond.instanceMethod yX11_isKept ∈ pw_BW := pw_bw (List.mem_of_getElem? (i := 1052) (by decide +kernel)) rfl
set_option maxRecDepth 40000 in
theorem mw_1053 : Cond.code yX11_isKept cX11_isKept 3 (some .boolean) ∈ pw_BW := pw_bw (List.mem_of_getElem? (i := 1053) (by rfl)) rfl
theorem mw_1054 : Cond.methodLink RX11 186 yX11_isClosed ∈ pw_BW := pw_bw (List.mem_of_getElem? (i := 1054) (by decide +kernel)) rfl
theorem mw_1056 : Cond.instanceMethod yX11_isClosed ∈ pw_BW := pw_bw (List.mem_of_getElem? (i := 1056) (by decide +kernel)) rfl
set_option maxRecDepth 40000 in
theorem mw_1057 : Cond.code yX11_isClosed cX11_isClosed 4 (some .boolean) ∈ pw_BW := pw_bw (List.mem_of_getElem? (i := 1057) (by rfl)) rfl
theorem mw_1058 : Cond.methodLink RL 150 yX11_before ∈ pw_BW := pw_bw (List.mem_of_getElem? (i := 1058) (by decide +kernel)) rfl
theorem mw_1059 : Cond.instanceMethod yX11_before ∈ pw_BW := pw_bw (List.mem_of_getElem? (i := 1059) (by decide +kernel)) rfl
theorem mw_1060 : Cond.selects RX11 yX11_before yX11_before ∈ pw_BW := pw_bw (List.mem_of_getElem? (i := 1060) (by decide +kernel)) rfl
set_option maxRecDepth 40000 in
theorem mw_1061 : Cond.code yX11_before cX11_before 5 (some .int) ∈ pw_BW := pw_bw (List.mem_of_getElem? (i := 1061) (by rfl)) rfl
theorem mw_1062 : Cond.methodLink RL 154 yX11_say ∈ pw_BW := pw_bw (List.mem_of_getElem? (i := 1062) (by decide +kernel)) rfl
theorem mw_1063 : Cond.instanceMethod yX11_say ∈ pw_BW := pw_bw (List.mem_of_getElem? (i := 1063) (by decide +kernel)) rfl
theorem mw_1064 : Cond.selects RX11 yX11_say yX11_say ∈ pw_BW := pw_bw (List.mem_of_getElem? (i := 1064) (by decide +kernel)) rfl
set_option maxRecDepth 40000 in
theorem mw_1065 : Cond.code yX11_say cX11_say 2 (some .int) ∈ pw_BW := pw_bw (List.mem_of_getElem? (i := 1065) (by rfl)) rfl
theorem mw_1066 : Cond.methodLink RL 158 yX11_check ∈ pw_BW := pw_bw (List.mem_of_getElem? (i := 1066) (by decide +kernel)) rfl
theorem mw_1067 : Cond.instanceMethod yX11_check ∈ pw_BW := pw_bw (List.mem_of_getElem? (i := 1067) (by decide +kernel)) rfl
theorem mw_1068 : Cond.selects RX11 yX11_check yX11_check ∈ pw_BW := pw_bw (List.mem_of_getElem? (i := 1068) (by decide +kernel)) rfl
set_option maxRecDepth 40000 in
theorem mw_1069 : Cond.code yX11_check cX11_check 3 (some .int) ∈ pw_BW := pw_bw (List.mem_of_getElem? (i := 1069) (by rfl)) rfl
theorem mw_1070 : Cond.methodLink RX11 193 yX11_firstWrong ∈ pw_BW := pw_bw (List.mem_of_getElem? (i := 1070) (by decide +kernel)) rfl
theorem mw_1072 : Cond.instanceMethod yX11_firstWrong ∈ pw_BW := pw_bw (List.mem_of_getElem? (i := 1072) (by decide +kernel)) rfl
set_option maxRecDepth 40000 in
theorem mw_1073 : Cond.code yX11_firstWrong cX11_firstWrong 4 (some .int) ∈ pw_BW := pw_bw (List.mem_of_getElem? (i := 1073) (by rfl)) rfl
theorem mw_1074 : Cond.methodLink RL 162 yX11_passes ∈ pw_BW := pw_bw (List.mem_of_getElem? (i := 1074) (by decide +kernel)) rfl
theorem mw_1075 : Cond.instanceMethod yX11_passes ∈ pw_BW := pw_bw (List.mem_of_getElem? (i := 1075) (by decide +kernel)) rfl
theorem mw_1076 : Cond.selects RX11 yX11_passes yX11_passes ∈ pw_BW := pw_bw (List.mem_of_getElem? (i := 1076) (by decide +kernel)) rfl
set_option maxRecDepth 40000 in
theorem mw_1077 : Cond.code yX11_passes cX11_passes 4 (some .int) ∈ pw_BW := pw_bw (List.mem_of_getElem? (i := 1077) (by rfl)) rfl
theorem mw_1078 : Cond.methodLink RL 166 yX11_count_ ∈ pw_BW := pw_bw (List.mem_of_getElem? (i := 1078) (by decide +kernel)) rfl
theorem mw_1079 : Cond.instanceMethod yX11_count_ ∈ pw_BW := pw_bw (List.mem_of_getElem? (i := 1079) (by decide +kernel)) rfl
theorem mw_1080 : Cond.selects RX11 yX11_count_ yX11_count_ ∈ pw_BW := pw_bw (List.mem_of_getElem? (i := 1080) (by decide +kernel)) rfl
set_option maxRecDepth 40000 in
theorem mw_1081 : Cond.code yX11_count_ cX11_count_ 4 (some .int) ∈ pw_BW := pw_bw (List.mem_of_getElem? (i := 1081) (by rfl)) rfl
theorem mw_1082 : Cond.constantLong RL 83 (4294967295 : Int64) ∈ pw_BW := pw_bw (List.mem_of_getElem? (i := 1082) (by decide +kernel)) rfl
theorem wm_X0_has : Cond.instanceMethod yX0_has ∈ pw_BW ∧ Cond.selects yX0_has.cls yX0_has yX0_has ∈ pw_BW ∧ Cond.initialized yX0_has.cls ∈ pw_BW ∧ Cond.code yX0_has cX0_has 2 (some .boolean) ∈ pw_BW ∧ (yX0_has.cls ≠ "java/lang/invoke/MethodHandle" ∧ yX0_has.cls ≠ "java/lang/invoke/VarHandle" ∧ (parseMethodDescriptor yX0_has.desc).map (fun d => d.parameters.length) = some 1) := ⟨mw_602, mw_603, mw_40, mw_604, by decide +kernel⟩
theorem wm_X0_keep : Cond.instanceMethod yX0_keep ∈ pw_BW ∧ Cond.selects yX0_keep.cls yX0_keep yX0_keep ∈ pw_BW ∧ Cond.initialized yX0_keep.cls ∈ pw_BW ∧ Cond.code yX0_keep cX0_keep 2 (some .int) ∈ pw_BW ∧ (yX0_keep.cls ≠ "java/lang/invoke/MethodHandle" ∧ yX0_keep.cls ≠ "java/lang/invoke/VarHandle" ∧ (parseMethodDescriptor yX0_keep.desc).map (fun d => d.parameters.length) = some 1) := ⟨mw_589, mw_590, mw_40, mw_591, by decide +kernel⟩
theorem wm_X1_sidesOf : Cond.static yX1_sidesOf ∈ pw_BW ∧ Cond.initialized yX1_sidesOf.cls ∈ pw_BW ∧ Cond.code yX1_sidesOf cX1_sidesOf 1 (some .int) ∈ pw_BW ∧ (yX1_sidesOf.cls ≠ "java/lang/invoke/MethodHandle" ∧ yX1_sidesOf.cls ≠ "java/lang/invoke/VarHandle" ∧ (parseMethodDescriptor yX1_sidesOf.desc).map (fun d => d.parameters.length) = some 1) := ⟨mw_568, mw_39, mw_569, by decide +kernel⟩
theorem wm_X1_append : Cond.instanceMethod yX1_append ∈ pw_BW ∧ Cond.selects yX1_append.cls yX1_append yX1_append ∈ pw_BW ∧ Cond.initialized yX1_append.cls ∈ pw_BW ∧ Cond.code yX1_append cX1_append 4 none ∈ pw_BW ∧ (yX1_append.cls ≠ "java/lang/invoke/MethodHandle" ∧ yX1_append.cls ≠ "java/lang/invoke/VarHandle" ∧ (parseMethodDescriptor yX1_append.desc).map (fun d => d.parameters.length) = some 3) := ⟨mw_553, mw_554, mw_39, mw_555, by decide +kernel⟩
theorem wm_X1_appendAll : Cond.instanceMethod yX1_appendAll ∈ pw_BW ∧ Cond.selects yX1_appendAll.cls yX1_appendAll yX1_appendAll ∈ pw_BW ∧ Cond.initialized yX1_appendAll.cls ∈ pw_BW ∧ Cond.code yX1_appendAll cX1_appendAll 3 none ∈ pw_BW ∧ (yX1_appendAll.cls ≠ "java/lang/invoke/MethodHandle" ∧ yX1_appendAll.cls ≠ "java/lang/invoke/VarHandle" ∧ (parseMethodDescriptor yX1_appendAll.desc).map (fun d => d.parameters.length) = some 1) := ⟨mw_580, mw_581, mw_39, mw_582, by decide +kernel⟩
theorem wm_X2_place : Cond.static yX2_place ∈ pw_BW ∧ Cond.initialized yX2_place.cls ∈ pw_BW ∧ Cond.code yX2_place cX2_place 2 (some .int) ∈ pw_BW ∧ (yX2_place.cls ≠ "java/lang/invoke/MethodHandle" ∧ yX2_place.cls ≠ "java/lang/invoke/VarHandle" ∧ (parseMethodDescriptor yX2_place.desc).map (fun d => d.parameters.length) = some 2) := ⟨mw_354, mw_35, mw_355, by decide +kernel⟩
theorem wm_X2_valuePlace : Cond.static yX2_valuePlace ∈ pw_BW ∧ Cond.initialized yX2_valuePlace.cls ∈ pw_BW ∧ Cond.code yX2_valuePlace cX2_valuePlace 3 (some .int) ∈ pw_BW ∧ (yX2_valuePlace.cls ≠ "java/lang/invoke/MethodHandle" ∧ yX2_valuePlace.cls ≠ "java/lang/invoke/VarHandle" ∧ (parseMethodDescriptor yX2_valuePlace.desc).map (fun d => d.parameters.length) = some 3) := ⟨mw_361, mw_35, mw_362, by decide +kernel⟩
theorem wm_X2_hasProcess : Cond.instanceMethod yX2_hasProcess ∈ pw_BW ∧ Cond.selects yX2_hasProcess.cls yX2_hasProcess yX2_hasProcess ∈ pw_BW ∧ Cond.initialized yX2_hasProcess.cls ∈ pw_BW ∧ Cond.code yX2_hasProcess cX2_hasProcess 2 (some .boolean) ∈ pw_BW ∧ (yX2_hasProcess.cls ≠ "java/lang/invoke/MethodHandle" ∧ yX2_hasProcess.cls ≠ "java/lang/invoke/VarHandle" ∧ (parseMethodDescriptor yX2_hasProcess.desc).map (fun d => d.parameters.length) = some 1) := ⟨mw_338, mw_339, mw_35, mw_340, by decide +kernel⟩
theorem wm_X2_hasEvent : Cond.instanceMethod yX2_hasEvent ∈ pw_BW ∧ Cond.selects yX2_hasEvent.cls yX2_hasEvent yX2_hasEvent ∈ pw_BW ∧ Cond.initialized yX2_hasEvent.cls ∈ pw_BW ∧ Cond.code yX2_hasEvent cX2_hasEvent 3 (some .boolean) ∈ pw_BW ∧ (yX2_hasEvent.cls ≠ "java/lang/invoke/MethodHandle" ∧ yX2_hasEvent.cls ≠ "java/lang/invoke/VarHandle" ∧ (parseMethodDescriptor yX2_hasEvent.desc).map (fun d => d.parameters.length) = some 2) := ⟨mw_419, mw_420, mw_35, mw_421, by decide +kernel⟩
theorem wm_X2_hasCut : Cond.instanceMethod yX2_hasCut ∈ pw_BW ∧ Cond.selects yX2_hasCut.cls yX2_hasCut yX2_hasCut ∈ pw_BW ∧ Cond.initialized yX2_hasCut.cls ∈ pw_BW ∧ Cond.code yX2_hasCut cX2_hasCut 4 (some .boolean) ∈ pw_BW ∧ (yX2_hasCut.cls ≠ "java/lang/invoke/MethodHandle" ∧ yX2_hasCut.cls ≠ "java/lang/invoke/VarHandle" ∧ (parseMethodDescriptor yX2_hasCut.desc).map (fun d => d.parameters.length) = some 1) := ⟨mw_442, mw_443, mw_35, mw_444, by decide +kernel⟩
theorem wm_X2_isFull : Cond.instanceMethod yX2_isFull ∈ pw_BW ∧ Cond.selects yX2_isFull.cls yX2_isFull yX2_isFull ∈ pw_BW ∧ Cond.initialized yX2_isFull.cls ∈ pw_BW ∧ Cond.code yX2_isFull cX2_isFull 2 (some .boolean) ∈ pw_BW ∧ (yX2_isFull.cls ≠ "java/lang/invoke/MethodHandle" ∧ yX2_isFull.cls ≠ "java/lang/invoke/VarHandle" ∧ (parseMethodDescriptor yX2_isFull.desc).map (fun d => d.parameters.length) = some 1) := ⟨mw_342, mw_343, mw_35, mw_344, by decide +kernel⟩
theorem wm_X2_clockOf : Cond.instanceMethod yX2_clockOf ∈ pw_BW ∧ Cond.selects yX2_clockOf.cls yX2_clockOf yX2_clockOf ∈ pw_BW ∧ Cond.initialized yX2_clockOf.cls ∈ pw_BW ∧ Cond.code yX2_clockOf cX2_clockOf 4 (some .int) ∈ pw_BW ∧ (yX2_clockOf.cls ≠ "java/lang/invoke/MethodHandle" ∧ yX2_clockOf.cls ≠ "java/lang/invoke/VarHandle" ∧ (parseMethodDescriptor yX2_clockOf.desc).map (fun d => d.parameters.length) = some 3) := ⟨mw_357, mw_358, mw_35, mw_359, by decide +kernel⟩
theorem wm_X2_leastWith : Cond.instanceMethod yX2_leastWith ∈ pw_BW ∧ Cond.selects yX2_leastWith.cls yX2_leastWith yX2_leastWith ∈ pw_BW ∧ Cond.initialized yX2_leastWith.cls ∈ pw_BW ∧ Cond.code yX2_leastWith cX2_leastWith 5 (some .int) ∈ pw_BW ∧ (yX2_leastWith.cls ≠ "java/lang/invoke/MethodHandle" ∧ yX2_leastWith.cls ≠ "java/lang/invoke/VarHandle" ∧ (parseMethodDescriptor yX2_leastWith.desc).map (fun d => d.parameters.length) = some 2) := ⟨mw_506, mw_507, mw_35, mw_508, by decide +kernel⟩
theorem wm_X2_change : Cond.instanceMethod yX2_change ∈ pw_BW ∧ Cond.selects yX2_change.cls yX2_change yX2_change ∈ pw_BW ∧ Cond.initialized yX2_change.cls ∈ pw_BW ∧ Cond.code yX2_change cX2_change 7 (some .int) ∈ pw_BW ∧ (yX2_change.cls ≠ "java/lang/invoke/MethodHandle" ∧ yX2_change.cls ≠ "java/lang/invoke/VarHandle" ∧ (parseMethodDescriptor yX2_change.desc).map (fun d => d.parameters.length) = some 4) := ⟨mw_346, mw_347, mw_35, mw_348, by decide +kernel⟩
theorem wm_X2_sendOut : Cond.instanceMethod yX2_sendOut ∈ pw_BW ∧ Cond.selects yX2_sendOut.cls yX2_sendOut yX2_sendOut ∈ pw_BW ∧ Cond.initialized yX2_sendOut.cls ∈ pw_BW ∧ Cond.code yX2_sendOut cX2_sendOut 4 (some .int) ∈ pw_BW ∧ (yX2_sendOut.cls ≠ "java/lang/invoke/MethodHandle" ∧ yX2_sendOut.cls ≠ "java/lang/invoke/VarHandle" ∧ (parseMethodDescriptor yX2_sendOut.desc).map (fun d => d.parameters.length) = some 2) := ⟨mw_372, mw_373, mw_35, mw_374, by decide +kernel⟩
theorem wm_X2_takeIn : Cond.instanceMethod yX2_takeIn ∈ pw_BW ∧ Cond.selects yX2_takeIn.cls yX2_takeIn yX2_takeIn ∈ pw_BW ∧ Cond.initialized yX2_takeIn.cls ∈ pw_BW ∧ Cond.code yX2_takeIn cX2_takeIn 4 (some .int) ∈ pw_BW ∧ (yX2_takeIn.cls ≠ "java/lang/invoke/MethodHandle" ∧ yX2_takeIn.cls ≠ "java/lang/invoke/VarHandle" ∧ (parseMethodDescriptor yX2_takeIn.desc).map (fun d => d.parameters.length) = some 1) := ⟨mw_388, mw_389, mw_35, mw_390, by decide +kernel⟩
theorem wm_X2_awaitAll : Cond.instanceMethod yX2_awaitAll ∈ pw_BW ∧ Cond.selects yX2_awaitAll.cls yX2_awaitAll yX2_awaitAll ∈ pw_BW ∧ Cond.initialized yX2_awaitAll.cls ∈ pw_BW ∧ Cond.code yX2_awaitAll cX2_awaitAll 4 (some .int) ∈ pw_BW ∧ (yX2_awaitAll.cls ≠ "java/lang/invoke/MethodHandle" ∧ yX2_awaitAll.cls ≠ "java/lang/invoke/VarHandle" ∧ (parseMethodDescriptor yX2_awaitAll.desc).map (fun d => d.parameters.length) = some 2) := ⟨mw_403, mw_404, mw_35, mw_405, by decide +kernel⟩
theorem wm_X2_append : Cond.instanceMethod yX2_append ∈ pw_BW ∧ Cond.selects yX2_append.cls yX2_append yX2_append ∈ pw_BW ∧ Cond.initialized yX2_append.cls ∈ pw_BW ∧ Cond.code yX2_append cX2_append 7 (some .int) ∈ pw_BW ∧ (yX2_append.cls ≠ "java/lang/invoke/MethodHandle" ∧ yX2_append.cls ≠ "java/lang/invoke/VarHandle" ∧ (parseMethodDescriptor yX2_append.desc).map (fun d => d.parameters.length) = some 3) := ⟨mw_351, mw_0, mw_35, mw_352, by decide +kernel⟩
theorem wm_X2_follow : Cond.instanceMethod yX2_follow ∈ pw_BW ∧ Cond.selects yX2_follow.cls yX2_follow yX2_follow ∈ pw_BW ∧ Cond.initialized yX2_follow.cls ∈ pw_BW ∧ Cond.code yX2_follow cX2_follow 6 none ∈ pw_BW ∧ (yX2_follow.cls ≠ "java/lang/invoke/MethodHandle" ∧ yX2_follow.cls ≠ "java/lang/invoke/VarHandle" ∧ (parseMethodDescriptor yX2_follow.desc).map (fun d => d.parameters.length) = some 3) := ⟨mw_393, mw_2, mw_35, mw_394, by decide +kernel⟩
theorem wm_X2_takeBack : Cond.instanceMethod yX2_takeBack ∈ pw_BW ∧ Cond.selects yX2_takeBack.cls yX2_takeBack yX2_takeBack ∈ pw_BW ∧ Cond.initialized yX2_takeBack.cls ∈ pw_BW ∧ Cond.code yX2_takeBack cX2_takeBack 3 (some .int) ∈ pw_BW ∧ (yX2_takeBack.cls ≠ "java/lang/invoke/MethodHandle" ∧ yX2_takeBack.cls ≠ "java/lang/invoke/VarHandle" ∧ (parseMethodDescriptor yX2_takeBack.desc).map (fun d => d.parameters.length) = some 0) := ⟨mw_411, mw_412, mw_35, mw_413, by decide +kernel⟩
theorem wm_X3_has : Cond.instanceMethod yX3_has ∈ pw_BW ∧ Cond.selects yX3_has.cls yX3_has yX3_has ∈ pw_BW ∧ Cond.initialized yX3_has.cls ∈ pw_BW ∧ Cond.code yX3_has cX3_has 2 (some .boolean) ∈ pw_BW ∧ (yX3_has.cls ≠ "java/lang/invoke/MethodHandle" ∧ yX3_has.cls ≠ "java/lang/invoke/VarHandle" ∧ (parseMethodDescriptor yX3_has.desc).map (fun d => d.parameters.length) = some 1) := ⟨mw_384, mw_385, mw_36, mw_386, by decide +kernel⟩
theorem wm_X3_write : Cond.instanceMethod yX3_write ∈ pw_BW ∧ Cond.selects yX3_write.cls yX3_write yX3_write ∈ pw_BW ∧ Cond.initialized yX3_write.cls ∈ pw_BW ∧ Cond.code yX3_write cX3_write 5 (some .int) ∈ pw_BW ∧ (yX3_write.cls ≠ "java/lang/invoke/MethodHandle" ∧ yX3_write.cls ≠ "java/lang/invoke/VarHandle" ∧ (parseMethodDescriptor yX3_write.desc).map (fun d => d.parameters.length) = some 3) := ⟨mw_376, mw_377, mw_36, mw_378, by decide +kernel⟩
theorem wm_X3_howManyUntaken : Cond.instanceMethod yX3_howManyUntaken ∈ pw_BW ∧ Cond.selects yX3_howManyUntaken.cls yX3_howManyUntaken yX3_howManyUntaken ∈ pw_BW ∧ Cond.initialized yX3_howManyUntaken.cls ∈ pw_BW ∧ Cond.code yX3_howManyUntaken cX3_howManyUntaken 3 (some .int) ∈ pw_BW ∧ (yX3_howManyUntaken.cls ≠ "java/lang/invoke/MethodHandle" ∧ yX3_howManyUntaken.cls ≠ "java/lang/invoke/VarHandle" ∧ (parseMethodDescriptor yX3_howManyUntaken.desc).map (fun d => d.parameters.length) = some 0) := ⟨mw_741, mw_742, mw_36, mw_743, by decide +kernel⟩
theorem wm_X4_wipe : Cond.instanceMethod yX4_wipe ∈ pw_BW ∧ Cond.selects yX4_wipe.cls yX4_wipe yX4_wipe ∈ pw_BW ∧ Cond.initialized yX4_wipe.cls ∈ pw_BW ∧ Cond.code yX4_wipe cX4_wipe 3 none ∈ pw_BW ∧ (yX4_wipe.cls ≠ "java/lang/invoke/MethodHandle" ∧ yX4_wipe.cls ≠ "java/lang/invoke/VarHandle" ∧ (parseMethodDescriptor yX4_wipe.desc).map (fun d => d.parameters.length) = some 1) := ⟨mw_515, mw_516, mw_42, mw_517, by decide +kernel⟩
theorem wm_X4_set : Cond.instanceMethod yX4_set ∈ pw_BW ∧ Cond.selects yX4_set.cls yX4_set yX4_set ∈ pw_BW ∧ Cond.initialized yX4_set.cls ∈ pw_BW ∧ Cond.code yX4_set cX4_set 5 none ∈ pw_BW ∧ (yX4_set.cls ≠ "java/lang/invoke/MethodHandle" ∧ yX4_set.cls ≠ "java/lang/invoke/VarHandle" ∧ (parseMethodDescriptor yX4_set.desc).map (fun d => d.parameters.length) = some 2) := ⟨mw_636, mw_637, mw_42, mw_638, by decide +kernel⟩
theorem wm_X4_areKept : Cond.instanceMethod yX4_areKept ∈ pw_BW ∧ Cond.selects yX4_areKept.cls yX4_areKept yX4_areKept ∈ pw_BW ∧ Cond.initialized yX4_areKept.cls ∈ pw_BW ∧ Cond.code yX4_areKept cX4_areKept 6 (some .boolean) ∈ pw_BW ∧ (yX4_areKept.cls ≠ "java/lang/invoke/MethodHandle" ∧ yX4_areKept.cls ≠ "java/lang/invoke/VarHandle" ∧ (parseMethodDescriptor yX4_areKept.desc).map (fun d => d.parameters.length) = some 1) := ⟨mw_679, mw_680, mw_42, mw_681, by decide +kernel⟩
theorem wm_X4_areMet : Cond.instanceMethod yX4_areMet ∈ pw_BW ∧ Cond.selects yX4_areMet.cls yX4_areMet yX4_areMet ∈ pw_BW ∧ Cond.initialized yX4_areMet.cls ∈ pw_BW ∧ Cond.code yX4_areMet cX4_areMet 4 (some .boolean) ∈ pw_BW ∧ (yX4_areMet.cls ≠ "java/lang/invoke/MethodHandle" ∧ yX4_areMet.cls ≠ "java/lang/invoke/VarHandle" ∧ (parseMethodDescriptor yX4_areMet.desc).map (fun d => d.parameters.length) = some 1) := ⟨mw_684, mw_685, mw_42, mw_686, by decide +kernel⟩
theorem wm_X4_areJoined : Cond.instanceMethod yX4_areJoined ∈ pw_BW ∧ Cond.selects yX4_areJoined.cls yX4_areJoined yX4_areJoined ∈ pw_BW ∧ Cond.initialized yX4_areJoined.cls ∈ pw_BW ∧ Cond.code yX4_areJoined cX4_areJoined 4 (some .boolean) ∈ pw_BW ∧ (yX4_areJoined.cls ≠ "java/lang/invoke/MethodHandle" ∧ yX4_areJoined.cls ≠ "java/lang/invoke/VarHandle" ∧ (parseMethodDescriptor yX4_areJoined.desc).map (fun d => d.parameters.length) = some 1) := ⟨mw_697, mw_698, mw_42, mw_699, by decide +kernel⟩
theorem wm_X4_nearestBeyond : Cond.instanceMethod yX4_nearestBeyond ∈ pw_BW ∧ Cond.selects yX4_nearestBeyond.cls yX4_nearestBeyond yX4_nearestBeyond ∈ pw_BW ∧ Cond.initialized yX4_nearestBeyond.cls ∈ pw_BW ∧ Cond.code yX4_nearestBeyond cX4_nearestBeyond 8 (some .int) ∈ pw_BW ∧ (yX4_nearestBeyond.cls ≠ "java/lang/invoke/MethodHandle" ∧ yX4_nearestBeyond.cls ≠ "java/lang/invoke/VarHandle" ∧ (parseMethodDescriptor yX4_nearestBeyond.desc).map (fun d => d.parameters.length) = some 3) := ⟨mw_689, mw_11, mw_42, mw_690, by decide +kernel⟩
theorem wm_X5_worth : Cond.instanceMethod yX5_worth ∈ pw_BW ∧ Cond.selects yX5_worth.cls yX5_worth yX5_worth ∈ pw_BW ∧ Cond.initialized yX5_worth.cls ∈ pw_BW ∧ Cond.code yX5_worth cX5_worth 7 (some .int) ∈ pw_BW ∧ (yX5_worth.cls ≠ "java/lang/invoke/MethodHandle" ∧ yX5_worth.cls ≠ "java/lang/invoke/VarHandle" ∧ (parseMethodDescriptor yX5_worth.desc).map (fun d => d.parameters.length) = some 2) := ⟨mw_606, mw_607, mw_41, mw_608, by decide +kernel⟩
theorem wm_X5_seen : Cond.instanceMethod yX5_seen ∈ pw_BW ∧ Cond.selects yX5_seen.cls yX5_seen yX5_seen ∈ pw_BW ∧ Cond.initialized yX5_seen.cls ∈ pw_BW ∧ Cond.code yX5_seen cX5_seen 4 (some .int) ∈ pw_BW ∧ (yX5_seen.cls ≠ "java/lang/invoke/MethodHandle" ∧ yX5_seen.cls ≠ "java/lang/invoke/VarHandle" ∧ (parseMethodDescriptor yX5_seen.desc).map (fun d => d.parameters.length) = some 3) := ⟨mw_613, mw_8, mw_41, mw_614, by decide +kernel⟩
theorem wm_X5_howManyUnderWay : Cond.instanceMethod yX5_howManyUnderWay ∈ pw_BW ∧ Cond.selects yX5_howManyUnderWay.cls yX5_howManyUnderWay yX5_howManyUnderWay ∈ pw_BW ∧ Cond.initialized yX5_howManyUnderWay.cls ∈ pw_BW ∧ Cond.code yX5_howManyUnderWay cX5_howManyUnderWay 9 (some .int) ∈ pw_BW ∧ (yX5_howManyUnderWay.cls ≠ "java/lang/invoke/MethodHandle" ∧ yX5_howManyUnderWay.cls ≠ "java/lang/invoke/VarHandle" ∧ (parseMethodDescriptor yX5_howManyUnderWay.desc).map (fun d => d.parameters.length) = some 2) := ⟨mw_618, mw_9, mw_41, mw_619, by decide +kernel⟩
theorem wm_X5_reckoned : Cond.static yX5_reckoned ∈ pw_BW ∧ Cond.initialized yX5_reckoned.cls ∈ pw_BW ∧ Cond.code yX5_reckoned cX5_reckoned 3 (some .int) ∈ pw_BW ∧ (yX5_reckoned.cls ≠ "java/lang/invoke/MethodHandle" ∧ yX5_reckoned.cls ≠ "java/lang/invoke/VarHandle" ∧ (parseMethodDescriptor yX5_reckoned.desc).map (fun d => d.parameters.length) = some 3) := ⟨mw_621, mw_41, mw_622, by decide +kernel⟩
theorem wm_X6_shareOf : Cond.static yX6_shareOf ∈ pw_BW ∧ Cond.initialized yX6_shareOf.cls ∈ pw_BW ∧ Cond.code yX6_shareOf cX6_shareOf 4 (some .int) ∈ pw_BW ∧ (yX6_shareOf.cls ≠ "java/lang/invoke/MethodHandle" ∧ yX6_shareOf.cls ≠ "java/lang/invoke/VarHandle" ∧ (parseMethodDescriptor yX6_shareOf.desc).map (fun d => d.parameters.length) = some 2) := ⟨mw_495, mw_37, mw_496, by decide +kernel⟩
theorem wm_X6_sizeOf : Cond.static yX6_sizeOf ∈ pw_BW ∧ Cond.initialized yX6_sizeOf.cls ∈ pw_BW ∧ Cond.code yX6_sizeOf cX6_sizeOf 4 (some .int) ∈ pw_BW ∧ (yX6_sizeOf.cls ≠ "java/lang/invoke/MethodHandle" ∧ yX6_sizeOf.cls ≠ "java/lang/invoke/VarHandle" ∧ (parseMethodDescriptor yX6_sizeOf.desc).map (fun d => d.parameters.length) = some 1) := ⟨mw_469, mw_37, mw_470, by decide +kernel⟩
theorem wm_X6_combine : Cond.static yX6_combine ∈ pw_BW ∧ Cond.initialized yX6_combine.cls ∈ pw_BW ∧ Cond.code yX6_combine cX6_combine 7 (some .int) ∈ pw_BW ∧ (yX6_combine.cls ≠ "java/lang/invoke/MethodHandle" ∧ yX6_combine.cls ≠ "java/lang/invoke/VarHandle" ∧ (parseMethodDescriptor yX6_combine.desc).map (fun d => d.parameters.length) = some 3) := ⟨mw_492, mw_37, mw_493, by decide +kernel⟩
theorem wm_X6_refresh : Cond.instanceMethod yX6_refresh ∈ pw_BW ∧ Cond.selects yX6_refresh.cls yX6_refresh yX6_refresh ∈ pw_BW ∧ Cond.initialized yX6_refresh.cls ∈ pw_BW ∧ Cond.code yX6_refresh cX6_refresh 2 none ∈ pw_BW ∧ (yX6_refresh.cls ≠ "java/lang/invoke/MethodHandle" ∧ yX6_refresh.cls ≠ "java/lang/invoke/VarHandle" ∧ (parseMethodDescriptor yX6_refresh.desc).map (fun d => d.parameters.length) = some 0) := ⟨mw_450, mw_451, mw_37, mw_452, by decide +kernel⟩
theorem wm_X6_isClosed : Cond.instanceMethod yX6_isClosed ∈ pw_BW ∧ Cond.selects yX6_isClosed.cls yX6_isClosed yX6_isClosed ∈ pw_BW ∧ Cond.initialized yX6_isClosed.cls ∈ pw_BW ∧ Cond.code yX6_isClosed cX6_isClosed 5 (some .boolean) ∈ pw_BW ∧ (yX6_isClosed.cls ≠ "java/lang/invoke/MethodHandle" ∧ yX6_isClosed.cls ≠ "java/lang/invoke/VarHandle" ∧ (parseMethodDescriptor yX6_isClosed.desc).map (fun d => d.parameters.length) = some 1) := ⟨mw_458, mw_4, mw_37, mw_459, by decide +kernel⟩
theorem wm_X6_sortBySize : Cond.instanceMethod yX6_sortBySize ∈ pw_BW ∧ Cond.selects yX6_sortBySize.cls yX6_sortBySize yX6_sortBySize ∈ pw_BW ∧ Cond.initialized yX6_sortBySize.cls ∈ pw_BW ∧ Cond.code yX6_sortBySize cX6_sortBySize 3 none ∈ pw_BW ∧ (yX6_sortBySize.cls ≠ "java/lang/invoke/MethodHandle" ∧ yX6_sortBySize.cls ≠ "java/lang/invoke/VarHandle" ∧ (parseMethodDescriptor yX6_sortBySize.desc).map (fun d => d.parameters.length) = some 0) := ⟨mw_463, mw_5, mw_37, mw_464, by decide +kernel⟩
theorem wm_X6_howManyOf : Cond.instanceMethod yX6_howManyOf ∈ pw_BW ∧ Cond.selects yX6_howManyOf.cls yX6_howManyOf yX6_howManyOf ∈ pw_BW ∧ Cond.initialized yX6_howManyOf.cls ∈ pw_BW ∧ Cond.code yX6_howManyOf cX6_howManyOf 2 (some .int) ∈ pw_BW ∧ (yX6_howManyOf.cls ≠ "java/lang/invoke/MethodHandle" ∧ yX6_howManyOf.cls ≠ "java/lang/invoke/VarHandle" ∧ (parseMethodDescriptor yX6_howManyOf.desc).map (fun d => d.parameters.length) = some 1) := ⟨mw_476, mw_477, mw_37, mw_478, by decide +kernel⟩
theorem wm_X6_firstBehind : Cond.instanceMethod yX6_firstBehind ∈ pw_BW ∧ Cond.selects yX6_firstBehind.cls yX6_firstBehind yX6_firstBehind ∈ pw_BW ∧ Cond.initialized yX6_firstBehind.cls ∈ pw_BW ∧ Cond.code yX6_firstBehind cX6_firstBehind 4 (some .int) ∈ pw_BW ∧ (yX6_firstBehind.cls ≠ "java/lang/invoke/MethodHandle" ∧ yX6_firstBehind.cls ≠ "java/lang/invoke/VarHandle" ∧ (parseMethodDescriptor yX6_firstBehind.desc).map (fun d => d.parameters.length) = some 1) := ⟨mw_484, mw_485, mw_37, mw_486, by decide +kernel⟩
theorem wm_X6_up : Cond.instanceMethod yX6_up ∈ pw_BW ∧ Cond.selects yX6_up.cls yX6_up yX6_up ∈ pw_BW ∧ Cond.initialized yX6_up.cls ∈ pw_BW ∧ Cond.code yX6_up cX6_up 4 (some .int) ∈ pw_BW ∧ (yX6_up.cls ≠ "java/lang/invoke/MethodHandle" ∧ yX6_up.cls ≠ "java/lang/invoke/VarHandle" ∧ (parseMethodDescriptor yX6_up.desc).map (fun d => d.parameters.length) = some 2) := ⟨mw_531, mw_532, mw_37, mw_533, by decide +kernel⟩
theorem wm_X6_down : Cond.instanceMethod yX6_down ∈ pw_BW ∧ Cond.selects yX6_down.cls yX6_down yX6_down ∈ pw_BW ∧ Cond.initialized yX6_down.cls ∈ pw_BW ∧ Cond.code yX6_down cX6_down 4 (some .int) ∈ pw_BW ∧ (yX6_down.cls ≠ "java/lang/invoke/MethodHandle" ∧ yX6_down.cls ≠ "java/lang/invoke/VarHandle" ∧ (parseMethodDescriptor yX6_down.desc).map (fun d => d.parameters.length) = some 2) := ⟨mw_692, mw_693, mw_37, mw_694, by decide +kernel⟩
theorem wm_X6_firstOf : Cond.instanceMethod yX6_firstOf ∈ pw_BW ∧ Cond.selects yX6_firstOf.cls yX6_firstOf yX6_firstOf ∈ pw_BW ∧ Cond.initialized yX6_firstOf.cls ∈ pw_BW ∧ Cond.code yX6_firstOf cX6_firstOf 3 (some .int) ∈ pw_BW ∧ (yX6_firstOf.cls ≠ "java/lang/invoke/MethodHandle" ∧ yX6_firstOf.cls ≠ "java/lang/invoke/VarHandle" ∧ (parseMethodDescriptor yX6_firstOf.desc).map (fun d => d.parameters.length) = some 1) := ⟨mw_641, mw_642, mw_37, mw_643, by decide +kernel⟩
theorem wm_X6_lastOf : Cond.instanceMethod yX6_lastOf ∈ pw_BW ∧ Cond.selects yX6_lastOf.cls yX6_lastOf yX6_lastOf ∈ pw_BW ∧ Cond.initialized yX6_lastOf.cls ∈ pw_BW ∧ Cond.code yX6_lastOf cX6_lastOf 3 (some .int) ∈ pw_BW ∧ (yX6_lastOf.cls ≠ "java/lang/invoke/MethodHandle" ∧ yX6_lastOf.cls ≠ "java/lang/invoke/VarHandle" ∧ (parseMethodDescriptor yX6_lastOf.desc).map (fun d => d.parameters.length) = some 1) := ⟨mw_649, mw_650, mw_37, mw_651, by decide +kernel⟩
theorem wm_X6_howManyIn : Cond.instanceMethod yX6_howManyIn ∈ pw_BW ∧ Cond.selects yX6_howManyIn.cls yX6_howManyIn yX6_howManyIn ∈ pw_BW ∧ Cond.initialized yX6_howManyIn.cls ∈ pw_BW ∧ Cond.code yX6_howManyIn cX6_howManyIn 4 (some .int) ∈ pw_BW ∧ (yX6_howManyIn.cls ≠ "java/lang/invoke/MethodHandle" ∧ yX6_howManyIn.cls ≠ "java/lang/invoke/VarHandle" ∧ (parseMethodDescriptor yX6_howManyIn.desc).map (fun d => d.parameters.length) = some 1) := ⟨mw_657, mw_658, mw_37, mw_659, by decide +kernel⟩
theorem wm_X7_push : Cond.instanceMethod yX7_push ∈ pw_BW ∧ Cond.selects yX7_push.cls yX7_push yX7_push ∈ pw_BW ∧ Cond.initialized yX7_push.cls ∈ pw_BW ∧ Cond.code yX7_push cX7_push 4 (some .int) ∈ pw_BW ∧ (yX7_push.cls ≠ "java/lang/invoke/MethodHandle" ∧ yX7_push.cls ≠ "java/lang/invoke/VarHandle" ∧ (parseMethodDescriptor yX7_push.desc).map (fun d => d.parameters.length) = some 3) := ⟨mw_549, mw_550, mw_38, mw_551, by decide +kernel⟩
theorem wm_X7_partsBehind : Cond.instanceMethod yX7_partsBehind ∈ pw_BW ∧ Cond.selects yX7_partsBehind.cls yX7_partsBehind yX7_partsBehind ∈ pw_BW ∧ Cond.initialized yX7_partsBehind.cls ∈ pw_BW ∧ Cond.code yX7_partsBehind cX7_partsBehind 4 (some .int) ∈ pw_BW ∧ (yX7_partsBehind.cls ≠ "java/lang/invoke/MethodHandle" ∧ yX7_partsBehind.cls ≠ "java/lang/invoke/VarHandle" ∧ (parseMethodDescriptor yX7_partsBehind.desc).map (fun d => d.parameters.length) = some 1) := ⟨mw_571, mw_572, mw_38, mw_573, by decide +kernel⟩
theorem wm_X7_unite : Cond.instanceMethod yX7_unite ∈ pw_BW ∧ Cond.selects yX7_unite.cls yX7_unite yX7_unite ∈ pw_BW ∧ Cond.initialized yX7_unite.cls ∈ pw_BW ∧ Cond.code yX7_unite cX7_unite 2 (some .int) ∈ pw_BW ∧ (yX7_unite.cls ≠ "java/lang/invoke/MethodHandle" ∧ yX7_unite.cls ≠ "java/lang/invoke/VarHandle" ∧ (parseMethodDescriptor yX7_unite.desc).map (fun d => d.parameters.length) = some 1) := ⟨mw_576, mw_577, mw_38, mw_578, by decide +kernel⟩
theorem wm_X8_append : Cond.instanceMethod yX8_append ∈ pw_BW ∧ Cond.selects yX8_append.cls yX8_append yX8_append ∈ pw_BW ∧ Cond.initialized yX8_append.cls ∈ pw_BW ∧ Cond.code yX8_append cX8_append 2 (some .int) ∈ pw_BW ∧ (yX8_append.cls ≠ "java/lang/invoke/MethodHandle" ∧ yX8_append.cls ≠ "java/lang/invoke/VarHandle" ∧ (parseMethodDescriptor yX8_append.desc).map (fun d => d.parameters.length) = some 1) := ⟨mw_714, mw_715, mw_44, mw_716, by decide +kernel⟩
theorem wm_X8_rightPlaces : Cond.instanceMethod yX8_rightPlaces ∈ pw_BW ∧ Cond.selects yX8_rightPlaces.cls yX8_rightPlaces yX8_rightPlaces ∈ pw_BW ∧ Cond.initialized yX8_rightPlaces.cls ∈ pw_BW ∧ Cond.code yX8_rightPlaces cX8_rightPlaces 4 (some .int) ∈ pw_BW ∧ (yX8_rightPlaces.cls ≠ "java/lang/invoke/MethodHandle" ∧ yX8_rightPlaces.cls ≠ "java/lang/invoke/VarHandle" ∧ (parseMethodDescriptor yX8_rightPlaces.desc).map (fun d => d.parameters.length) = some 1) := ⟨mw_722, mw_723, mw_44, mw_724, by decide +kernel⟩
theorem wm_X8_firstAt : Cond.instanceMethod yX8_firstAt ∈ pw_BW ∧ Cond.selects yX8_firstAt.cls yX8_firstAt yX8_firstAt ∈ pw_BW ∧ Cond.initialized yX8_firstAt.cls ∈ pw_BW ∧ Cond.code yX8_firstAt cX8_firstAt 5 (some .int) ∈ pw_BW ∧ (yX8_firstAt.cls ≠ "java/lang/invoke/MethodHandle" ∧ yX8_firstAt.cls ≠ "java/lang/invoke/VarHandle" ∧ (parseMethodDescriptor yX8_firstAt.desc).map (fun d => d.parameters.length) = some 2) := ⟨mw_731, mw_732, mw_44, mw_733, by decide +kernel⟩
theorem wm_X9_fill : Cond.instanceMethod yX9_fill ∈ pw_BW ∧ Cond.selects yX9_fill.cls yX9_fill yX9_fill ∈ pw_BW ∧ Cond.initialized yX9_fill.cls ∈ pw_BW ∧ Cond.code yX9_fill cX9_fill 5 (some .long) ∈ pw_BW ∧ (yX9_fill.cls ≠ "java/lang/invoke/MethodHandle" ∧ yX9_fill.cls ≠ "java/lang/invoke/VarHandle" ∧ (parseMethodDescriptor yX9_fill.desc).map (fun d => d.parameters.length) = some 2) := ⟨mw_519, mw_520, mw_43, mw_521, by decide +kernel⟩
theorem wm_X9_fillUntil : Cond.instanceMethod yX9_fillUntil ∈ pw_BW ∧ Cond.selects yX9_fillUntil.cls yX9_fillUntil yX9_fillUntil ∈ pw_BW ∧ Cond.initialized yX9_fillUntil.cls ∈ pw_BW ∧ Cond.code yX9_fillUntil cX9_fillUntil 8 (some .long) ∈ pw_BW ∧ (yX9_fillUntil.cls ≠ "java/lang/invoke/MethodHandle" ∧ yX9_fillUntil.cls ≠ "java/lang/invoke/VarHandle" ∧ (parseMethodDescriptor yX9_fillUntil.desc).map (fun d => d.parameters.length) = some 4) := ⟨mw_705, mw_706, mw_43, mw_707, by decide +kernel⟩
theorem wm_X9_sumOver : Cond.instanceMethod yX9_sumOver ∈ pw_BW ∧ Cond.selects yX9_sumOver.cls yX9_sumOver yX9_sumOver ∈ pw_BW ∧ Cond.initialized yX9_sumOver.cls ∈ pw_BW ∧ Cond.code yX9_sumOver cX9_sumOver 6 (some .long) ∈ pw_BW ∧ (yX9_sumOver.cls ≠ "java/lang/invoke/MethodHandle" ∧ yX9_sumOver.cls ≠ "java/lang/invoke/VarHandle" ∧ (parseMethodDescriptor yX9_sumOver.desc).map (fun d => d.parameters.length) = some 2) := ⟨mw_524, mw_6, mw_43, mw_525, by decide +kernel⟩
theorem wm_X9_over : Cond.instanceMethod yX9_over ∈ pw_BW ∧ Cond.selects yX9_over.cls yX9_over yX9_over ∈ pw_BW ∧ Cond.initialized yX9_over.cls ∈ pw_BW ∧ Cond.code yX9_over cX9_over 5 (some .long) ∈ pw_BW ∧ (yX9_over.cls ≠ "java/lang/invoke/MethodHandle" ∧ yX9_over.cls ≠ "java/lang/invoke/VarHandle" ∧ (parseMethodDescriptor yX9_over.desc).map (fun d => d.parameters.length) = some 3) := ⟨mw_528, mw_7, mw_43, mw_529, by decide +kernel⟩
theorem wm_X9_processAt : Cond.instanceMethod yX9_processAt ∈ pw_BW ∧ Cond.selects yX9_processAt.cls yX9_processAt yX9_processAt ∈ pw_BW ∧ Cond.initialized yX9_processAt.cls ∈ pw_BW ∧ Cond.code yX9_processAt cX9_processAt 10 (some .int) ∈ pw_BW ∧ (yX9_processAt.cls ≠ "java/lang/invoke/MethodHandle" ∧ yX9_processAt.cls ≠ "java/lang/invoke/VarHandle" ∧ (parseMethodDescriptor yX9_processAt.desc).map (fun d => d.parameters.length) = some 3) := ⟨mw_540, mw_541, mw_43, mw_542, by decide +kernel⟩
theorem wm_X10_process : Cond.instanceMethod yX10_process ∈ pw_BW ∧ Cond.selects yX10_process.cls yX10_process yX10_process ∈ pw_BW ∧ Cond.initialized yX10_process.cls ∈ pw_BW ∧ Cond.code yX10_process cX10_process 1 (some .int) ∈ pw_BW ∧ (yX10_process.cls ≠ "java/lang/invoke/MethodHandle" ∧ yX10_process.cls ≠ "java/lang/invoke/VarHandle" ∧ (parseMethodDescriptor yX10_process.desc).map (fun d => d.parameters.length) = some 0) := ⟨mw_330, mw_331, mw_34, mw_332, by decide +kernel⟩
theorem wm_X10_own : Cond.instanceMethod yX10_own ∈ pw_BW ∧ Cond.selects yX10_own.cls yX10_own yX10_own ∈ pw_BW ∧ Cond.initialized yX10_own.cls ∈ pw_BW ∧ Cond.code yX10_own cX10_own 5 (some .int) ∈ pw_BW ∧ (yX10_own.cls ≠ "java/lang/invoke/MethodHandle" ∧ yX10_own.cls ≠ "java/lang/invoke/VarHandle" ∧ (parseMethodDescriptor yX10_own.desc).map (fun d => d.parameters.length) = some 4) := ⟨mw_334, mw_335, mw_34, mw_336, by decide +kernel⟩
theorem wm_X10_send : Cond.instanceMethod yX10_send ∈ pw_BW ∧ Cond.selects yX10_send.cls yX10_send yX10_send ∈ pw_BW ∧ Cond.initialized yX10_send.cls ∈ pw_BW ∧ Cond.code yX10_send cX10_send 4 (some .int) ∈ pw_BW ∧ (yX10_send.cls ≠ "java/lang/invoke/MethodHandle" ∧ yX10_send.cls ≠ "java/lang/invoke/VarHandle" ∧ (parseMethodDescriptor yX10_send.desc).map (fun d => d.parameters.length) = some 2) := ⟨mw_364, mw_365, mw_34, mw_366, by decide +kernel⟩
theorem wm_X10_take : Cond.instanceMethod yX10_take ∈ pw_BW ∧ Cond.selects yX10_take.cls yX10_take yX10_take ∈ pw_BW ∧ Cond.initialized yX10_take.cls ∈ pw_BW ∧ Cond.code yX10_take cX10_take 3 (some .int) ∈ pw_BW ∧ (yX10_take.cls ≠ "java/lang/invoke/MethodHandle" ∧ yX10_take.cls ≠ "java/lang/invoke/VarHandle" ∧ (parseMethodDescriptor yX10_take.desc).map (fun d => d.parameters.length) = some 1) := ⟨mw_380, mw_381, mw_34, mw_382, by decide +kernel⟩
theorem wm_X10_wait : Cond.instanceMethod yX10_wait ∈ pw_BW ∧ Cond.selects yX10_wait.cls yX10_wait yX10_wait ∈ pw_BW ∧ Cond.initialized yX10_wait.cls ∈ pw_BW ∧ Cond.code yX10_wait cX10_wait 4 (some .int) ∈ pw_BW ∧ (yX10_wait.cls ≠ "java/lang/invoke/MethodHandle" ∧ yX10_wait.cls ≠ "java/lang/invoke/VarHandle" ∧ (parseMethodDescriptor yX10_wait.desc).map (fun d => d.parameters.length) = some 2) := ⟨mw_399, mw_400, mw_34, mw_401, by decide +kernel⟩
theorem wm_X10_refusalOfPair : Cond.instanceMethod yX10_refusalOfPair ∈ pw_BW ∧ Cond.selects yX10_refusalOfPair.cls yX10_refusalOfPair yX10_refusalOfPair ∈ pw_BW ∧ Cond.initialized yX10_refusalOfPair.cls ∈ pw_BW ∧ Cond.code yX10_refusalOfPair cX10_refusalOfPair 3 (some .int) ∈ pw_BW ∧ (yX10_refusalOfPair.cls ≠ "java/lang/invoke/MethodHandle" ∧ yX10_refusalOfPair.cls ≠ "java/lang/invoke/VarHandle" ∧ (parseMethodDescriptor yX10_refusalOfPair.desc).map (fun d => d.parameters.length) = some 2) := ⟨mw_369, mw_1, mw_34, mw_370, by decide +kernel⟩
theorem wm_X10_undo : Cond.instanceMethod yX10_undo ∈ pw_BW ∧ Cond.selects yX10_undo.cls yX10_undo yX10_undo ∈ pw_BW ∧ Cond.initialized yX10_undo.cls ∈ pw_BW ∧ Cond.code yX10_undo cX10_undo 1 (some .int) ∈ pw_BW ∧ (yX10_undo.cls ≠ "java/lang/invoke/MethodHandle" ∧ yX10_undo.cls ≠ "java/lang/invoke/VarHandle" ∧ (parseMethodDescriptor yX10_undo.desc).map (fun d => d.parameters.length) = some 0) := ⟨mw_407, mw_408, mw_34, mw_409, by decide +kernel⟩
theorem wm_X10_event : Cond.instanceMethod yX10_event ∈ pw_BW ∧ Cond.selects yX10_event.cls yX10_event yX10_event ∈ pw_BW ∧ Cond.initialized yX10_event.cls ∈ pw_BW ∧ Cond.code yX10_event cX10_event 5 (some .int) ∈ pw_BW ∧ (yX10_event.cls ≠ "java/lang/invoke/MethodHandle" ∧ yX10_event.cls ≠ "java/lang/invoke/VarHandle" ∧ (parseMethodDescriptor yX10_event.desc).map (fun d => d.parameters.length) = some 3) := ⟨mw_415, mw_416, mw_34, mw_417, by decide +kernel⟩
theorem wm_X10_letter : Cond.instanceMethod yX10_letter ∈ pw_BW ∧ Cond.selects yX10_letter.cls yX10_letter yX10_letter ∈ pw_BW ∧ Cond.initialized yX10_letter.cls ∈ pw_BW ∧ Cond.code yX10_letter cX10_letter 4 (some .int) ∈ pw_BW ∧ (yX10_letter.cls ≠ "java/lang/invoke/MethodHandle" ∧ yX10_letter.cls ≠ "java/lang/invoke/VarHandle" ∧ (parseMethodDescriptor yX10_letter.desc).map (fun d => d.parameters.length) = some 2) := ⟨mw_425, mw_426, mw_34, mw_427, by decide +kernel⟩
theorem wm_X10_ahead : Cond.instanceMethod yX10_ahead ∈ pw_BW ∧ Cond.selects yX10_ahead.cls yX10_ahead yX10_ahead ∈ pw_BW ∧ Cond.initialized yX10_ahead.cls ∈ pw_BW ∧ Cond.code yX10_ahead cX10_ahead 5 (some .int) ∈ pw_BW ∧ (yX10_ahead.cls ≠ "java/lang/invoke/MethodHandle" ∧ yX10_ahead.cls ≠ "java/lang/invoke/VarHandle" ∧ (parseMethodDescriptor yX10_ahead.desc).map (fun d => d.parameters.length) = some 4) := ⟨mw_429, mw_430, mw_34, mw_431, by decide +kernel⟩
theorem wm_X10_clock : Cond.instanceMethod yX10_clock ∈ pw_BW ∧ Cond.selects yX10_clock.cls yX10_clock yX10_clock ∈ pw_BW ∧ Cond.initialized yX10_clock.cls ∈ pw_BW ∧ Cond.code yX10_clock cX10_clock 4 (some .int) ∈ pw_BW ∧ (yX10_clock.cls ≠ "java/lang/invoke/MethodHandle" ∧ yX10_clock.cls ≠ "java/lang/invoke/VarHandle" ∧ (parseMethodDescriptor yX10_clock.desc).map (fun d => d.parameters.length) = some 3) := ⟨mw_434, mw_435, mw_34, mw_436, by decide +kernel⟩
theorem wm_X10_possible : Cond.instanceMethod yX10_possible ∈ pw_BW ∧ Cond.selects yX10_possible.cls yX10_possible yX10_possible ∈ pw_BW ∧ Cond.initialized yX10_possible.cls ∈ pw_BW ∧ Cond.code yX10_possible cX10_possible 2 (some .int) ∈ pw_BW ∧ (yX10_possible.cls ≠ "java/lang/invoke/MethodHandle" ∧ yX10_possible.cls ≠ "java/lang/invoke/VarHandle" ∧ (parseMethodDescriptor yX10_possible.desc).map (fun d => d.parameters.length) = some 1) := ⟨mw_438, mw_439, mw_34, mw_440, by decide +kernel⟩
theorem wm_X10_cuts : Cond.instanceMethod yX10_cuts ∈ pw_BW ∧ Cond.selects yX10_cuts.cls yX10_cuts yX10_cuts ∈ pw_BW ∧ Cond.initialized yX10_cuts.cls ∈ pw_BW ∧ Cond.code yX10_cuts cX10_cuts 3 (some .int) ∈ pw_BW ∧ (yX10_cuts.cls ≠ "java/lang/invoke/MethodHandle" ∧ yX10_cuts.cls ≠ "java/lang/invoke/VarHandle" ∧ (parseMethodDescriptor yX10_cuts.desc).map (fun d => d.parameters.length) = some 1) := ⟨mw_472, mw_473, mw_34, mw_474, by decide +kernel⟩
theorem wm_X10_next : Cond.instanceMethod yX10_next ∈ pw_BW ∧ Cond.selects yX10_next.cls yX10_next yX10_next ∈ pw_BW ∧ Cond.initialized yX10_next.cls ∈ pw_BW ∧ Cond.code yX10_next cX10_next 2 (some .int) ∈ pw_BW ∧ (yX10_next.cls ≠ "java/lang/invoke/MethodHandle" ∧ yX10_next.cls ≠ "java/lang/invoke/VarHandle" ∧ (parseMethodDescriptor yX10_next.desc).map (fun d => d.parameters.length) = some 1) := ⟨mw_480, mw_481, mw_34, mw_482, by decide +kernel⟩
theorem wm_X10_join : Cond.instanceMethod yX10_join ∈ pw_BW ∧ Cond.selects yX10_join.cls yX10_join yX10_join ∈ pw_BW ∧ Cond.initialized yX10_join.cls ∈ pw_BW ∧ Cond.code yX10_join cX10_join 4 (some .int) ∈ pw_BW ∧ (yX10_join.cls ≠ "java/lang/invoke/MethodHandle" ∧ yX10_join.cls ≠ "java/lang/invoke/VarHandle" ∧ (parseMethodDescriptor yX10_join.desc).map (fun d => d.parameters.length) = some 3) := ⟨mw_488, mw_489, mw_34, mw_490, by decide +kernel⟩
theorem wm_X10_least : Cond.instanceMethod yX10_least ∈ pw_BW ∧ Cond.selects yX10_least.cls yX10_least yX10_least ∈ pw_BW ∧ Cond.initialized yX10_least.cls ∈ pw_BW ∧ Cond.code yX10_least cX10_least 3 (some .int) ∈ pw_BW ∧ (yX10_least.cls ≠ "java/lang/invoke/MethodHandle" ∧ yX10_least.cls ≠ "java/lang/invoke/VarHandle" ∧ (parseMethodDescriptor yX10_least.desc).map (fun d => d.parameters.length) = some 2) := ⟨mw_502, mw_503, mw_34, mw_504, by decide +kernel⟩
theorem wm_X10_orders : Cond.instanceMethod yX10_orders ∈ pw_BW ∧ Cond.selects yX10_orders.cls yX10_orders yX10_orders ∈ pw_BW ∧ Cond.initialized yX10_orders.cls ∈ pw_BW ∧ Cond.code yX10_orders cX10_orders 2 (some .long) ∈ pw_BW ∧ (yX10_orders.cls ≠ "java/lang/invoke/MethodHandle" ∧ yX10_orders.cls ≠ "java/lang/invoke/VarHandle" ∧ (parseMethodDescriptor yX10_orders.desc).map (fun d => d.parameters.length) = some 0) := ⟨mw_511, mw_512, mw_34, mw_513, by decide +kernel⟩
theorem wm_X10_order : Cond.instanceMethod yX10_order ∈ pw_BW ∧ Cond.selects yX10_order.cls yX10_order yX10_order ∈ pw_BW ∧ Cond.initialized yX10_order.cls ∈ pw_BW ∧ Cond.code yX10_order cX10_order 4 (some .int) ∈ pw_BW ∧ (yX10_order.cls ≠ "java/lang/invoke/MethodHandle" ∧ yX10_order.cls ≠ "java/lang/invoke/VarHandle" ∧ (parseMethodDescriptor yX10_order.desc).map (fun d => d.parameters.length) = some 2) := ⟨mw_535, mw_536, mw_34, mw_537, by decide +kernel⟩
theorem wm_X10_number : Cond.instanceMethod yX10_number ∈ pw_BW ∧ Cond.selects yX10_number.cls yX10_number yX10_number ∈ pw_BW ∧ Cond.initialized yX10_number.cls ∈ pw_BW ∧ Cond.code yX10_number cX10_number 2 (some .int) ∈ pw_BW ∧ (yX10_number.cls ≠ "java/lang/invoke/MethodHandle" ∧ yX10_number.cls ≠ "java/lang/invoke/VarHandle" ∧ (parseMethodDescriptor yX10_number.desc).map (fun d => d.parameters.length) = some 1) := ⟨mw_545, mw_546, mw_34, mw_547, by decide +kernel⟩
theorem wm_X10_part : Cond.instanceMethod yX10_part ∈ pw_BW ∧ Cond.selects yX10_part.cls yX10_part yX10_part ∈ pw_BW ∧ Cond.initialized yX10_part.cls ∈ pw_BW ∧ Cond.code yX10_part cX10_part 4 (some .int) ∈ pw_BW ∧ (yX10_part.cls ≠ "java/lang/invoke/MethodHandle" ∧ yX10_part.cls ≠ "java/lang/invoke/VarHandle" ∧ (parseMethodDescriptor yX10_part.desc).map (fun d => d.parameters.length) = some 3) := ⟨mw_557, mw_558, mw_34, mw_559, by decide +kernel⟩
theorem wm_X10_mayBeProcess : Cond.static yX10_mayBeProcess ∈ pw_BW ∧ Cond.initialized yX10_mayBeProcess.cls ∈ pw_BW ∧ Cond.code yX10_mayBeProcess cX10_mayBeProcess 1 (some .boolean) ∈ pw_BW ∧ (yX10_mayBeProcess.cls ≠ "java/lang/invoke/MethodHandle" ∧ yX10_mayBeProcess.cls ≠ "java/lang/invoke/VarHandle" ∧ (parseMethodDescriptor yX10_mayBeProcess.desc).map (fun d => d.parameters.length) = some 1) := ⟨mw_561, mw_34, mw_562, by decide +kernel⟩
theorem wm_X10_op : Cond.instanceMethod yX10_op ∈ pw_BW ∧ Cond.selects yX10_op.cls yX10_op yX10_op ∈ pw_BW ∧ Cond.initialized yX10_op.cls ∈ pw_BW ∧ Cond.code yX10_op cX10_op 2 (some .int) ∈ pw_BW ∧ (yX10_op.cls ≠ "java/lang/invoke/MethodHandle" ∧ yX10_op.cls ≠ "java/lang/invoke/VarHandle" ∧ (parseMethodDescriptor yX10_op.desc).map (fun d => d.parameters.length) = some 1) := ⟨mw_564, mw_565, mw_34, mw_566, by decide +kernel⟩
theorem wm_X10_condition : Cond.instanceMethod yX10_condition ∈ pw_BW ∧ Cond.selects yX10_condition.cls yX10_condition yX10_condition ∈ pw_BW ∧ Cond.initialized yX10_condition.cls ∈ pw_BW ∧ Cond.code yX10_condition cX10_condition 1 (some .int) ∈ pw_BW ∧ (yX10_condition.cls ≠ "java/lang/invoke/MethodHandle" ∧ yX10_condition.cls ≠ "java/lang/invoke/VarHandle" ∧ (parseMethodDescriptor yX10_condition.desc).map (fun d => d.parameters.length) = some 0) := ⟨mw_585, mw_586, mw_34, mw_587, by decide +kernel⟩
theorem wm_X10_clear : Cond.instanceMethod yX10_clear ∈ pw_BW ∧ Cond.selects yX10_clear.cls yX10_clear yX10_clear ∈ pw_BW ∧ Cond.initialized yX10_clear.cls ∈ pw_BW ∧ Cond.code yX10_clear cX10_clear 3 (some .int) ∈ pw_BW ∧ (yX10_clear.cls ≠ "java/lang/invoke/MethodHandle" ∧ yX10_clear.cls ≠ "java/lang/invoke/VarHandle" ∧ (parseMethodDescriptor yX10_clear.desc).map (fun d => d.parameters.length) = some 1) := ⟨mw_594, mw_595, mw_34, mw_596, by decide +kernel⟩
theorem wm_X10_value : Cond.instanceMethod yX10_value ∈ pw_BW ∧ Cond.selects yX10_value.cls yX10_value yX10_value ∈ pw_BW ∧ Cond.initialized yX10_value.cls ∈ pw_BW ∧ Cond.code yX10_value cX10_value 3 (some .int) ∈ pw_BW ∧ (yX10_value.cls ≠ "java/lang/invoke/MethodHandle" ∧ yX10_value.cls ≠ "java/lang/invoke/VarHandle" ∧ (parseMethodDescriptor yX10_value.desc).map (fun d => d.parameters.length) = some 2) := ⟨mw_598, mw_599, mw_34, mw_600, by decide +kernel⟩
theorem wm_X10_status : Cond.instanceMethod yX10_status ∈ pw_BW ∧ Cond.selects yX10_status.cls yX10_status yX10_status ∈ pw_BW ∧ Cond.initialized yX10_status.cls ∈ pw_BW ∧ Cond.code yX10_status cX10_status 1 (some .int) ∈ pw_BW ∧ (yX10_status.cls ≠ "java/lang/invoke/MethodHandle" ∧ yX10_status.cls ≠ "java/lang/invoke/VarHandle" ∧ (parseMethodDescriptor yX10_status.desc).map (fun d => d.parameters.length) = some 0) := ⟨mw_624, mw_625, mw_34, mw_626, by decide +kernel⟩
theorem wm_X10_may : Cond.instanceMethod yX10_may ∈ pw_BW ∧ Cond.selects yX10_may.cls yX10_may yX10_may ∈ pw_BW ∧ Cond.initialized yX10_may.cls ∈ pw_BW ∧ Cond.code yX10_may cX10_may 2 (some .int) ∈ pw_BW ∧ (yX10_may.cls ≠ "java/lang/invoke/MethodHandle" ∧ yX10_may.cls ≠ "java/lang/invoke/VarHandle" ∧ (parseMethodDescriptor yX10_may.desc).map (fun d => d.parameters.length) = some 1) := ⟨mw_628, mw_629, mw_34, mw_630, by decide +kernel⟩
theorem wm_X10_last : Cond.instanceMethod yX10_last ∈ pw_BW ∧ Cond.selects yX10_last.cls yX10_last yX10_last ∈ pw_BW ∧ Cond.initialized yX10_last.cls ∈ pw_BW ∧ Cond.code yX10_last cX10_last 2 (some .int) ∈ pw_BW ∧ (yX10_last.cls ≠ "java/lang/invoke/MethodHandle" ∧ yX10_last.cls ≠ "java/lang/invoke/VarHandle" ∧ (parseMethodDescriptor yX10_last.desc).map (fun d => d.parameters.length) = some 1) := ⟨mw_645, mw_646, mw_34, mw_647, by decide +kernel⟩
theorem wm_X10_many : Cond.instanceMethod yX10_many ∈ pw_BW ∧ Cond.selects yX10_many.cls yX10_many yX10_many ∈ pw_BW ∧ Cond.initialized yX10_many.cls ∈ pw_BW ∧ Cond.code yX10_many cX10_many 2 (some .int) ∈ pw_BW ∧ (yX10_many.cls ≠ "java/lang/invoke/MethodHandle" ∧ yX10_many.cls ≠ "java/lang/invoke/VarHandle" ∧ (parseMethodDescriptor yX10_many.desc).map (fun d => d.parameters.length) = some 1) := ⟨mw_653, mw_654, mw_34, mw_655, by decide +kernel⟩
theorem wm_X10_sure : Cond.instanceMethod yX10_sure ∈ pw_BW ∧ Cond.selects yX10_sure.cls yX10_sure yX10_sure ∈ pw_BW ∧ Cond.initialized yX10_sure.cls ∈ pw_BW ∧ Cond.code yX10_sure cX10_sure 2 (some .int) ∈ pw_BW ∧ (yX10_sure.cls ≠ "java/lang/invoke/MethodHandle" ∧ yX10_sure.cls ≠ "java/lang/invoke/VarHandle" ∧ (parseMethodDescriptor yX10_sure.desc).map (fun d => d.parameters.length) = some 1) := ⟨mw_661, mw_662, mw_34, mw_663, by decide +kernel⟩
theorem wm_X10_avoid : Cond.instanceMethod yX10_avoid ∈ pw_BW ∧ Cond.selects yX10_avoid.cls yX10_avoid yX10_avoid ∈ pw_BW ∧ Cond.initialized yX10_avoid.cls ∈ pw_BW ∧ Cond.code yX10_avoid cX10_avoid 3 (some .int) ∈ pw_BW ∧ (yX10_avoid.cls ≠ "java/lang/invoke/MethodHandle" ∧ yX10_avoid.cls ≠ "java/lang/invoke/VarHandle" ∧ (parseMethodDescriptor yX10_avoid.desc).map (fun d => d.parameters.length) = some 2) := ⟨mw_670, mw_671, mw_34, mw_672, by decide +kernel⟩
theorem wm_X10_avoids : Cond.instanceMethod yX10_avoids ∈ pw_BW ∧ Cond.selects yX10_avoids.cls yX10_avoids yX10_avoids ∈ pw_BW ∧ Cond.initialized yX10_avoids.cls ∈ pw_BW ∧ Cond.code yX10_avoids cX10_avoids 2 (some .long) ∈ pw_BW ∧ (yX10_avoids.cls ≠ "java/lang/invoke/MethodHandle" ∧ yX10_avoids.cls ≠ "java/lang/invoke/VarHandle" ∧ (parseMethodDescriptor yX10_avoids.desc).map (fun d => d.parameters.length) = some 1) := ⟨mw_665, mw_666, mw_34, mw_667, by decide +kernel⟩
theorem wm_X10_is : Cond.instanceMethod yX10_is ∈ pw_BW ∧ Cond.selects yX10_is.cls yX10_is yX10_is ∈ pw_BW ∧ Cond.initialized yX10_is.cls ∈ pw_BW ∧ Cond.code yX10_is cX10_is 5 (some .int) ∈ pw_BW ∧ (yX10_is.cls ≠ "java/lang/invoke/MethodHandle" ∧ yX10_is.cls ≠ "java/lang/invoke/VarHandle" ∧ (parseMethodDescriptor yX10_is.desc).map (fun d => d.parameters.length) = some 2) := ⟨mw_675, mw_676, mw_34, mw_677, by decide +kernel⟩
theorem wm_X10_before : Cond.instanceMethod yX10_before ∈ pw_BW ∧ Cond.selects yX10_before.cls yX10_before yX10_before ∈ pw_BW ∧ Cond.initialized yX10_before.cls ∈ pw_BW ∧ Cond.code yX10_before cX10_before 5 (some .int) ∈ pw_BW ∧ (yX10_before.cls ≠ "java/lang/invoke/MethodHandle" ∧ yX10_before.cls ≠ "java/lang/invoke/VarHandle" ∧ (parseMethodDescriptor yX10_before.desc).map (fun d => d.parameters.length) = some 2) := ⟨mw_701, mw_702, mw_34, mw_703, by decide +kernel⟩
theorem wm_X10_say : Cond.instanceMethod yX10_say ∈ pw_BW ∧ Cond.selects yX10_say.cls yX10_say yX10_say ∈ pw_BW ∧ Cond.initialized yX10_say.cls ∈ pw_BW ∧ Cond.code yX10_say cX10_say 2 (some .int) ∈ pw_BW ∧ (yX10_say.cls ≠ "java/lang/invoke/MethodHandle" ∧ yX10_say.cls ≠ "java/lang/invoke/VarHandle" ∧ (parseMethodDescriptor yX10_say.desc).map (fun d => d.parameters.length) = some 1) := ⟨mw_710, mw_711, mw_34, mw_712, by decide +kernel⟩
theorem wm_X10_check : Cond.instanceMethod yX10_check ∈ pw_BW ∧ Cond.selects yX10_check.cls yX10_check yX10_check ∈ pw_BW ∧ Cond.initialized yX10_check.cls ∈ pw_BW ∧ Cond.code yX10_check cX10_check 3 (some .int) ∈ pw_BW ∧ (yX10_check.cls ≠ "java/lang/invoke/MethodHandle" ∧ yX10_check.cls ≠ "java/lang/invoke/VarHandle" ∧ (parseMethodDescriptor yX10_check.desc).map (fun d => d.parameters.length) = some 0) := ⟨mw_718, mw_719, mw_34, mw_720, by decide +kernel⟩
theorem wm_X10_passes : Cond.instanceMethod yX10_passes ∈ pw_BW ∧ Cond.selects yX10_passes.cls yX10_passes yX10_passes ∈ pw_BW ∧ Cond.initialized yX10_passes.cls ∈ pw_BW ∧ Cond.code yX10_passes cX10_passes 2 (some .int) ∈ pw_BW ∧ (yX10_passes.cls ≠ "java/lang/invoke/MethodHandle" ∧ yX10_passes.cls ≠ "java/lang/invoke/VarHandle" ∧ (parseMethodDescriptor yX10_passes.desc).map (fun d => d.parameters.length) = some 1) := ⟨mw_727, mw_728, mw_34, mw_729, by decide +kernel⟩
theorem wm_X10_count : Cond.instanceMethod yX10_count ∈ pw_BW ∧ Cond.selects yX10_count.cls yX10_count yX10_count ∈ pw_BW ∧ Cond.initialized yX10_count.cls ∈ pw_BW ∧ Cond.code yX10_count cX10_count 2 (some .int) ∈ pw_BW ∧ (yX10_count.cls ≠ "java/lang/invoke/MethodHandle" ∧ yX10_count.cls ≠ "java/lang/invoke/VarHandle" ∧ (parseMethodDescriptor yX10_count.desc).map (fun d => d.parameters.length) = some 1) := ⟨mw_737, mw_738, mw_34, mw_739, by decide +kernel⟩
theorem wm_X10_freshNet : Cond.instanceMethod yX10_freshNet ∈ pw_BW ∧ Cond.selects yX10_freshNet.cls yX10_freshNet yX10_freshNet ∈ pw_BW ∧ Cond.initialized yX10_freshNet.cls ∈ pw_BW ∧ Cond.code yX10_freshNet cX10_freshNet 1 (some (.object RX6)) ∈ pw_BW ∧ (yX10_freshNet.cls ≠ "java/lang/invoke/MethodHandle" ∧ yX10_freshNet.cls ≠ "java/lang/invoke/VarHandle" ∧ (parseMethodDescriptor yX10_freshNet.desc).map (fun d => d.parameters.length) = some 0) := ⟨mw_447, mw_3, mw_34, mw_448, by decide +kernel⟩
theorem wm_X10_markedNet : Cond.instanceMethod yX10_markedNet ∈ pw_BW ∧ Cond.selects yX10_markedNet.cls yX10_markedNet yX10_markedNet ∈ pw_BW ∧ Cond.initialized yX10_markedNet.cls ∈ pw_BW ∧ Cond.code yX10_markedNet cX10_markedNet 3 (some (.object RX6)) ∈ pw_BW ∧ (yX10_markedNet.cls ≠ "java/lang/invoke/MethodHandle" ∧ yX10_markedNet.cls ≠ "java/lang/invoke/VarHandle" ∧ (parseMethodDescriptor yX10_markedNet.desc).map (fun d => d.parameters.length) = some 1) := ⟨mw_633, mw_10, mw_34, mw_634, by decide +kernel⟩
theorem wm_X11_in : Cond.static yX11_in ∈ pw_BW ∧ Cond.initialized yX11_in.cls ∈ pw_BW ∧ Cond.code yX11_in cX11_in 3 (some .boolean) ∈ pw_BW ∧ (yX11_in.cls ≠ "java/lang/invoke/MethodHandle" ∧ yX11_in.cls ≠ "java/lang/invoke/VarHandle" ∧ (parseMethodDescriptor yX11_in.desc).map (fun d => d.parameters.length) = some 3) := ⟨mw_847, mw_45, mw_848, by decide +kernel⟩
theorem wm_X11_isProcess : Cond.instanceMethod yX11_isProcess ∈ pw_BW ∧ Cond.selects yX11_isProcess.cls yX11_isProcess yX11_isProcess ∈ pw_BW ∧ Cond.initialized yX11_isProcess.cls ∈ pw_BW ∧ Cond.code yX11_isProcess cX11_isProcess 2 (some .boolean) ∈ pw_BW ∧ (yX11_isProcess.cls ≠ "java/lang/invoke/MethodHandle" ∧ yX11_isProcess.cls ≠ "java/lang/invoke/VarHandle" ∧ (parseMethodDescriptor yX11_isProcess.desc).map (fun d => d.parameters.length) = some 1) := ⟨mw_844, mw_12, mw_45, mw_845, by decide +kernel⟩
theorem wm_X11_isEvent : Cond.instanceMethod yX11_isEvent ∈ pw_BW ∧ Cond.selects yX11_isEvent.cls yX11_isEvent yX11_isEvent ∈ pw_BW ∧ Cond.initialized yX11_isEvent.cls ∈ pw_BW ∧ Cond.code yX11_isEvent cX11_isEvent 3 (some .boolean) ∈ pw_BW ∧ (yX11_isEvent.cls ≠ "java/lang/invoke/MethodHandle" ∧ yX11_isEvent.cls ≠ "java/lang/invoke/VarHandle" ∧ (parseMethodDescriptor yX11_isEvent.desc).map (fun d => d.parameters.length) = some 2) := ⟨mw_879, mw_15, mw_45, mw_880, by decide +kernel⟩
theorem wm_X11_process : Cond.instanceMethod yX11_process ∈ pw_BW ∧ Cond.selects yX11_process.cls yX11_process yX11_process ∈ pw_BW ∧ Cond.initialized yX11_process.cls ∈ pw_BW ∧ Cond.code yX11_process cX11_process 1 (some .int) ∈ pw_BW ∧ (yX11_process.cls ≠ "java/lang/invoke/MethodHandle" ∧ yX11_process.cls ≠ "java/lang/invoke/VarHandle" ∧ (parseMethodDescriptor yX11_process.desc).map (fun d => d.parameters.length) = some 0) := ⟨mw_835, mw_836, mw_45, mw_837, by decide +kernel⟩
theorem wm_X11_comes : Cond.instanceMethod yX11_comes ∈ pw_BW ∧ Cond.selects yX11_comes.cls yX11_comes yX11_comes ∈ pw_BW ∧ Cond.initialized yX11_comes.cls ∈ pw_BW ∧ Cond.code yX11_comes cX11_comes 7 (some .int) ∈ pw_BW ∧ (yX11_comes.cls ≠ "java/lang/invoke/MethodHandle" ∧ yX11_comes.cls ≠ "java/lang/invoke/VarHandle" ∧ (parseMethodDescriptor yX11_comes.desc).map (fun d => d.parameters.length) = some 4) := ⟨mw_851, mw_13, mw_45, mw_852, by decide +kernel⟩
theorem wm_X11_joins : Cond.instanceMethod yX11_joins ∈ pw_BW ∧ Cond.selects yX11_joins.cls yX11_joins yX11_joins ∈ pw_BW ∧ Cond.initialized yX11_joins.cls ∈ pw_BW ∧ Cond.code yX11_joins cX11_joins 4 none ∈ pw_BW ∧ (yX11_joins.cls ≠ "java/lang/invoke/MethodHandle" ∧ yX11_joins.cls ≠ "java/lang/invoke/VarHandle" ∧ (parseMethodDescriptor yX11_joins.desc).map (fun d => d.parameters.length) = some 2) := ⟨mw_863, mw_14, mw_45, mw_864, by decide +kernel⟩
theorem wm_X11_own : Cond.instanceMethod yX11_own ∈ pw_BW ∧ Cond.selects yX11_own.cls yX11_own yX11_own ∈ pw_BW ∧ Cond.initialized yX11_own.cls ∈ pw_BW ∧ Cond.code yX11_own cX11_own 6 (some .int) ∈ pw_BW ∧ (yX11_own.cls ≠ "java/lang/invoke/MethodHandle" ∧ yX11_own.cls ≠ "java/lang/invoke/VarHandle" ∧ (parseMethodDescriptor yX11_own.desc).map (fun d => d.parameters.length) = some 4) := ⟨mw_839, mw_840, mw_45, mw_841, by decide +kernel⟩
theorem wm_X11_send : Cond.instanceMethod yX11_send ∈ pw_BW ∧ Cond.selects yX11_send.cls yX11_send yX11_send ∈ pw_BW ∧ Cond.initialized yX11_send.cls ∈ pw_BW ∧ Cond.code yX11_send cX11_send 4 (some .int) ∈ pw_BW ∧ (yX11_send.cls ≠ "java/lang/invoke/MethodHandle" ∧ yX11_send.cls ≠ "java/lang/invoke/VarHandle" ∧ (parseMethodDescriptor yX11_send.desc).map (fun d => d.parameters.length) = some 2) := ⟨mw_854, mw_855, mw_45, mw_856, by decide +kernel⟩
theorem wm_X11_take : Cond.instanceMethod yX11_take ∈ pw_BW ∧ Cond.selects yX11_take.cls yX11_take yX11_take ∈ pw_BW ∧ Cond.initialized yX11_take.cls ∈ pw_BW ∧ Cond.code yX11_take cX11_take 4 (some .int) ∈ pw_BW ∧ (yX11_take.cls ≠ "java/lang/invoke/MethodHandle" ∧ yX11_take.cls ≠ "java/lang/invoke/VarHandle" ∧ (parseMethodDescriptor yX11_take.desc).map (fun d => d.parameters.length) = some 1) := ⟨mw_858, mw_859, mw_45, mw_860, by decide +kernel⟩
theorem wm_X11_wait : Cond.instanceMethod yX11_wait ∈ pw_BW ∧ Cond.selects yX11_wait.cls yX11_wait yX11_wait ∈ pw_BW ∧ Cond.initialized yX11_wait.cls ∈ pw_BW ∧ Cond.code yX11_wait cX11_wait 4 (some .int) ∈ pw_BW ∧ (yX11_wait.cls ≠ "java/lang/invoke/MethodHandle" ∧ yX11_wait.cls ≠ "java/lang/invoke/VarHandle" ∧ (parseMethodDescriptor yX11_wait.desc).map (fun d => d.parameters.length) = some 2) := ⟨mw_866, mw_867, mw_45, mw_868, by decide +kernel⟩
theorem wm_X11_undo : Cond.instanceMethod yX11_undo ∈ pw_BW ∧ Cond.selects yX11_undo.cls yX11_undo yX11_undo ∈ pw_BW ∧ Cond.initialized yX11_undo.cls ∈ pw_BW ∧ Cond.code yX11_undo cX11_undo 3 (some .int) ∈ pw_BW ∧ (yX11_undo.cls ≠ "java/lang/invoke/MethodHandle" ∧ yX11_undo.cls ≠ "java/lang/invoke/VarHandle" ∧ (parseMethodDescriptor yX11_undo.desc).map (fun d => d.parameters.length) = some 0) := ⟨mw_870, mw_871, mw_45, mw_872, by decide +kernel⟩
theorem wm_X11_event : Cond.instanceMethod yX11_event ∈ pw_BW ∧ Cond.selects yX11_event.cls yX11_event yX11_event ∈ pw_BW ∧ Cond.initialized yX11_event.cls ∈ pw_BW ∧ Cond.code yX11_event cX11_event 5 (some .int) ∈ pw_BW ∧ (yX11_event.cls ≠ "java/lang/invoke/MethodHandle" ∧ yX11_event.cls ≠ "java/lang/invoke/VarHandle" ∧ (parseMethodDescriptor yX11_event.desc).map (fun d => d.parameters.length) = some 3) := ⟨mw_874, mw_875, mw_45, mw_876, by decide +kernel⟩
theorem wm_X11_letter : Cond.instanceMethod yX11_letter ∈ pw_BW ∧ Cond.selects yX11_letter.cls yX11_letter yX11_letter ∈ pw_BW ∧ Cond.initialized yX11_letter.cls ∈ pw_BW ∧ Cond.code yX11_letter cX11_letter 3 (some .int) ∈ pw_BW ∧ (yX11_letter.cls ≠ "java/lang/invoke/MethodHandle" ∧ yX11_letter.cls ≠ "java/lang/invoke/VarHandle" ∧ (parseMethodDescriptor yX11_letter.desc).map (fun d => d.parameters.length) = some 2) := ⟨mw_882, mw_883, mw_45, mw_884, by decide +kernel⟩
theorem wm_X11_ahead : Cond.instanceMethod yX11_ahead ∈ pw_BW ∧ Cond.selects yX11_ahead.cls yX11_ahead yX11_ahead ∈ pw_BW ∧ Cond.initialized yX11_ahead.cls ∈ pw_BW ∧ Cond.code yX11_ahead cX11_ahead 5 (some .int) ∈ pw_BW ∧ (yX11_ahead.cls ≠ "java/lang/invoke/MethodHandle" ∧ yX11_ahead.cls ≠ "java/lang/invoke/VarHandle" ∧ (parseMethodDescriptor yX11_ahead.desc).map (fun d => d.parameters.length) = some 4) := ⟨mw_886, mw_887, mw_45, mw_888, by decide +kernel⟩
theorem wm_X11_clock : Cond.instanceMethod yX11_clock ∈ pw_BW ∧ Cond.selects yX11_clock.cls yX11_clock yX11_clock ∈ pw_BW ∧ Cond.initialized yX11_clock.cls ∈ pw_BW ∧ Cond.code yX11_clock cX11_clock 4 (some .int) ∈ pw_BW ∧ (yX11_clock.cls ≠ "java/lang/invoke/MethodHandle" ∧ yX11_clock.cls ≠ "java/lang/invoke/VarHandle" ∧ (parseMethodDescriptor yX11_clock.desc).map (fun d => d.parameters.length) = some 3) := ⟨mw_890, mw_891, mw_45, mw_892, by decide +kernel⟩
theorem wm_X11_unit : Cond.static yX11_unit ∈ pw_BW ∧ Cond.initialized yX11_unit.cls ∈ pw_BW ∧ Cond.code yX11_unit cX11_unit 1 (some .int) ∈ pw_BW ∧ (yX11_unit.cls ≠ "java/lang/invoke/MethodHandle" ∧ yX11_unit.cls ≠ "java/lang/invoke/VarHandle" ∧ (parseMethodDescriptor yX11_unit.desc).map (fun d => d.parameters.length) = some 1) := ⟨mw_905, mw_45, mw_906, by decide +kernel⟩
theorem wm_X11_part : Cond.static yX11_part ∈ pw_BW ∧ Cond.initialized yX11_part.cls ∈ pw_BW ∧ Cond.code yX11_part cX11_part 2 (some .int) ∈ pw_BW ∧ (yX11_part.cls ≠ "java/lang/invoke/MethodHandle" ∧ yX11_part.cls ≠ "java/lang/invoke/VarHandle" ∧ (parseMethodDescriptor yX11_part.desc).map (fun d => d.parameters.length) = some 2) := ⟨mw_902, mw_45, mw_903, by decide +kernel⟩
theorem wm_X11_isCut : Cond.instanceMethod yX11_isCut ∈ pw_BW ∧ Cond.selects yX11_isCut.cls yX11_isCut yX11_isCut ∈ pw_BW ∧ Cond.initialized yX11_isCut.cls ∈ pw_BW ∧ Cond.code yX11_isCut cX11_isCut 3 (some .boolean) ∈ pw_BW ∧ (yX11_isCut.cls ≠ "java/lang/invoke/MethodHandle" ∧ yX11_isCut.cls ≠ "java/lang/invoke/VarHandle" ∧ (parseMethodDescriptor yX11_isCut.desc).map (fun d => d.parameters.length) = some 1) := ⟨mw_899, mw_16, mw_45, mw_900, by decide +kernel⟩
theorem wm_X11_sizeOf : Cond.static yX11_sizeOf ∈ pw_BW ∧ Cond.initialized yX11_sizeOf.cls ∈ pw_BW ∧ Cond.code yX11_sizeOf cX11_sizeOf 3 (some .int) ∈ pw_BW ∧ (yX11_sizeOf.cls ≠ "java/lang/invoke/MethodHandle" ∧ yX11_sizeOf.cls ≠ "java/lang/invoke/VarHandle" ∧ (parseMethodDescriptor yX11_sizeOf.desc).map (fun d => d.parameters.length) = some 1) := ⟨mw_916, mw_45, mw_917, by decide +kernel⟩
theorem wm_X11_isPossible : Cond.instanceMethod yX11_isPossible ∈ pw_BW ∧ Cond.selects yX11_isPossible.cls yX11_isPossible yX11_isPossible ∈ pw_BW ∧ Cond.initialized yX11_isPossible.cls ∈ pw_BW ∧ Cond.code yX11_isPossible cX11_isPossible 5 (some .boolean) ∈ pw_BW ∧ (yX11_isPossible.cls ≠ "java/lang/invoke/MethodHandle" ∧ yX11_isPossible.cls ≠ "java/lang/invoke/VarHandle" ∧ (parseMethodDescriptor yX11_isPossible.desc).map (fun d => d.parameters.length) = some 1) := ⟨mw_909, mw_17, mw_45, mw_910, by decide +kernel⟩
theorem wm_X11_whole : Cond.instanceMethod yX11_whole ∈ pw_BW ∧ Cond.selects yX11_whole.cls yX11_whole yX11_whole ∈ pw_BW ∧ Cond.initialized yX11_whole.cls ∈ pw_BW ∧ Cond.code yX11_whole cX11_whole 3 (some .int) ∈ pw_BW ∧ (yX11_whole.cls ≠ "java/lang/invoke/MethodHandle" ∧ yX11_whole.cls ≠ "java/lang/invoke/VarHandle" ∧ (parseMethodDescriptor yX11_whole.desc).map (fun d => d.parameters.length) = some 0) := ⟨mw_947, mw_20, mw_45, mw_948, by decide +kernel⟩
theorem wm_X11_possible : Cond.instanceMethod yX11_possible ∈ pw_BW ∧ Cond.selects yX11_possible.cls yX11_possible yX11_possible ∈ pw_BW ∧ Cond.initialized yX11_possible.cls ∈ pw_BW ∧ Cond.code yX11_possible cX11_possible 2 (some .int) ∈ pw_BW ∧ (yX11_possible.cls ≠ "java/lang/invoke/MethodHandle" ∧ yX11_possible.cls ≠ "java/lang/invoke/VarHandle" ∧ (parseMethodDescriptor yX11_possible.desc).map (fun d => d.parameters.length) = some 1) := ⟨mw_894, mw_895, mw_45, mw_896, by decide +kernel⟩
theorem wm_X11_cuts : Cond.instanceMethod yX11_cuts ∈ pw_BW ∧ Cond.selects yX11_cuts.cls yX11_cuts yX11_cuts ∈ pw_BW ∧ Cond.initialized yX11_cuts.cls ∈ pw_BW ∧ Cond.code yX11_cuts cX11_cuts 4 (some .int) ∈ pw_BW ∧ (yX11_cuts.cls ≠ "java/lang/invoke/MethodHandle" ∧ yX11_cuts.cls ≠ "java/lang/invoke/VarHandle" ∧ (parseMethodDescriptor yX11_cuts.desc).map (fun d => d.parameters.length) = some 1) := ⟨mw_912, mw_913, mw_45, mw_914, by decide +kernel⟩
theorem wm_X11_next : Cond.instanceMethod yX11_next ∈ pw_BW ∧ Cond.selects yX11_next.cls yX11_next yX11_next ∈ pw_BW ∧ Cond.initialized yX11_next.cls ∈ pw_BW ∧ Cond.code yX11_next cX11_next 6 (some .int) ∈ pw_BW ∧ (yX11_next.cls ≠ "java/lang/invoke/MethodHandle" ∧ yX11_next.cls ≠ "java/lang/invoke/VarHandle" ∧ (parseMethodDescriptor yX11_next.desc).map (fun d => d.parameters.length) = some 1) := ⟨mw_919, mw_920, mw_45, mw_921, by decide +kernel⟩
theorem wm_X11_joined : Cond.static yX11_joined ∈ pw_BW ∧ Cond.initialized yX11_joined.cls ∈ pw_BW ∧ Cond.code yX11_joined cX11_joined 7 (some .int) ∈ pw_BW ∧ (yX11_joined.cls ≠ "java/lang/invoke/MethodHandle" ∧ yX11_joined.cls ≠ "java/lang/invoke/VarHandle" ∧ (parseMethodDescriptor yX11_joined.desc).map (fun d => d.parameters.length) = some 3) := ⟨mw_927, mw_45, mw_928, by decide +kernel⟩
theorem wm_X11_join : Cond.instanceMethod yX11_join ∈ pw_BW ∧ Cond.selects yX11_join.cls yX11_join yX11_join ∈ pw_BW ∧ Cond.initialized yX11_join.cls ∈ pw_BW ∧ Cond.code yX11_join cX11_join 4 (some .int) ∈ pw_BW ∧ (yX11_join.cls ≠ "java/lang/invoke/MethodHandle" ∧ yX11_join.cls ≠ "java/lang/invoke/VarHandle" ∧ (parseMethodDescriptor yX11_join.desc).map (fun d => d.parameters.length) = some 3) := ⟨mw_923, mw_924, mw_45, mw_925, by decide +kernel⟩
theorem wm_X11_least : Cond.instanceMethod yX11_least ∈ pw_BW ∧ Cond.selects yX11_least.cls yX11_least yX11_least ∈ pw_BW ∧ Cond.initialized yX11_least.cls ∈ pw_BW ∧ Cond.code yX11_least cX11_least 5 (some .int) ∈ pw_BW ∧ (yX11_least.cls ≠ "java/lang/invoke/MethodHandle" ∧ yX11_least.cls ≠ "java/lang/invoke/VarHandle" ∧ (parseMethodDescriptor yX11_least.desc).map (fun d => d.parameters.length) = some 2) := ⟨mw_930, mw_931, mw_45, mw_932, by decide +kernel⟩
theorem wm_X11_open : Cond.instanceMethod yX11_open ∈ pw_BW ∧ Cond.selects yX11_open.cls yX11_open yX11_open ∈ pw_BW ∧ Cond.initialized yX11_open.cls ∈ pw_BW ∧ Cond.code yX11_open cX11_open 2 none ∈ pw_BW ∧ (yX11_open.cls ≠ "java/lang/invoke/MethodHandle" ∧ yX11_open.cls ≠ "java/lang/invoke/VarHandle" ∧ (parseMethodDescriptor yX11_open.desc).map (fun d => d.parameters.length) = some 0) := ⟨mw_939, mw_18, mw_45, mw_940, by decide +kernel⟩
theorem wm_X11_count : Cond.instanceMethod yX11_count ∈ pw_BW ∧ Cond.selects yX11_count.cls yX11_count yX11_count ∈ pw_BW ∧ Cond.initialized yX11_count.cls ∈ pw_BW ∧ Cond.code yX11_count cX11_count 4 none ∈ pw_BW ∧ (yX11_count.cls ≠ "java/lang/invoke/MethodHandle" ∧ yX11_count.cls ≠ "java/lang/invoke/VarHandle" ∧ (parseMethodDescriptor yX11_count.desc).map (fun d => d.parameters.length) = some 0) := ⟨mw_943, mw_19, mw_45, mw_944, by decide +kernel⟩
theorem wm_X11_orders : Cond.instanceMethod yX11_orders ∈ pw_BW ∧ Cond.selects yX11_orders.cls yX11_orders yX11_orders ∈ pw_BW ∧ Cond.initialized yX11_orders.cls ∈ pw_BW ∧ Cond.code yX11_orders cX11_orders 1 (some .long) ∈ pw_BW ∧ (yX11_orders.cls ≠ "java/lang/invoke/MethodHandle" ∧ yX11_orders.cls ≠ "java/lang/invoke/VarHandle" ∧ (parseMethodDescriptor yX11_orders.desc).map (fun d => d.parameters.length) = some 0) := ⟨mw_934, mw_935, mw_45, mw_936, by decide +kernel⟩
theorem wm_X11_walk : Cond.instanceMethod yX11_walk ∈ pw_BW ∧ Cond.selects yX11_walk.cls yX11_walk yX11_walk ∈ pw_BW ∧ Cond.initialized yX11_walk.cls ∈ pw_BW ∧ Cond.code yX11_walk cX11_walk 9 (some .int) ∈ pw_BW ∧ (yX11_walk.cls ≠ "java/lang/invoke/MethodHandle" ∧ yX11_walk.cls ≠ "java/lang/invoke/VarHandle" ∧ (parseMethodDescriptor yX11_walk.desc).map (fun d => d.parameters.length) = some 2) := ⟨mw_956, mw_21, mw_45, mw_957, by decide +kernel⟩
theorem wm_X11_order : Cond.instanceMethod yX11_order ∈ pw_BW ∧ Cond.selects yX11_order.cls yX11_order yX11_order ∈ pw_BW ∧ Cond.initialized yX11_order.cls ∈ pw_BW ∧ Cond.code yX11_order cX11_order 4 (some .int) ∈ pw_BW ∧ (yX11_order.cls ≠ "java/lang/invoke/MethodHandle" ∧ yX11_order.cls ≠ "java/lang/invoke/VarHandle" ∧ (parseMethodDescriptor yX11_order.desc).map (fun d => d.parameters.length) = some 2) := ⟨mw_951, mw_952, mw_45, mw_953, by decide +kernel⟩
theorem wm_X11_push : Cond.instanceMethod yX11_push ∈ pw_BW ∧ Cond.selects yX11_push.cls yX11_push yX11_push ∈ pw_BW ∧ Cond.initialized yX11_push.cls ∈ pw_BW ∧ Cond.code yX11_push cX11_push 5 (some .int) ∈ pw_BW ∧ (yX11_push.cls ≠ "java/lang/invoke/MethodHandle" ∧ yX11_push.cls ≠ "java/lang/invoke/VarHandle" ∧ (parseMethodDescriptor yX11_push.desc).map (fun d => d.parameters.length) = some 3) := ⟨mw_964, mw_22, mw_45, mw_965, by decide +kernel⟩
theorem wm_X11_number : Cond.instanceMethod yX11_number ∈ pw_BW ∧ Cond.selects yX11_number.cls yX11_number yX11_number ∈ pw_BW ∧ Cond.initialized yX11_number.cls ∈ pw_BW ∧ Cond.code yX11_number cX11_number 2 (some .int) ∈ pw_BW ∧ (yX11_number.cls ≠ "java/lang/invoke/MethodHandle" ∧ yX11_number.cls ≠ "java/lang/invoke/VarHandle" ∧ (parseMethodDescriptor yX11_number.desc).map (fun d => d.parameters.length) = some 1) := ⟨mw_959, mw_960, mw_45, mw_961, by decide +kernel⟩
theorem wm_X11_part_ : Cond.instanceMethod yX11_part_ ∈ pw_BW ∧ Cond.selects yX11_part_.cls yX11_part_ yX11_part_ ∈ pw_BW ∧ Cond.initialized yX11_part_.cls ∈ pw_BW ∧ Cond.code yX11_part_ cX11_part_ 4 (some .int) ∈ pw_BW ∧ (yX11_part_.cls ≠ "java/lang/invoke/MethodHandle" ∧ yX11_part_.cls ≠ "java/lang/invoke/VarHandle" ∧ (parseMethodDescriptor yX11_part_.desc).map (fun d => d.parameters.length) = some 3) := ⟨mw_967, mw_968, mw_45, mw_969, by decide +kernel⟩
theorem wm_X11_copy : Cond.instanceMethod yX11_copy ∈ pw_BW ∧ Cond.selects yX11_copy.cls yX11_copy yX11_copy ∈ pw_BW ∧ Cond.initialized yX11_copy.cls ∈ pw_BW ∧ Cond.code yX11_copy cX11_copy 5 none ∈ pw_BW ∧ (yX11_copy.cls ≠ "java/lang/invoke/MethodHandle" ∧ yX11_copy.cls ≠ "java/lang/invoke/VarHandle" ∧ (parseMethodDescriptor yX11_copy.desc).map (fun d => d.parameters.length) = some 2) := ⟨mw_976, mw_23, mw_45, mw_977, by decide +kernel⟩
theorem wm_X11_op : Cond.instanceMethod yX11_op ∈ pw_BW ∧ Cond.selects yX11_op.cls yX11_op yX11_op ∈ pw_BW ∧ Cond.initialized yX11_op.cls ∈ pw_BW ∧ Cond.code yX11_op cX11_op 7 (some .int) ∈ pw_BW ∧ (yX11_op.cls ≠ "java/lang/invoke/MethodHandle" ∧ yX11_op.cls ≠ "java/lang/invoke/VarHandle" ∧ (parseMethodDescriptor yX11_op.desc).map (fun d => d.parameters.length) = some 1) := ⟨mw_971, mw_972, mw_45, mw_973, by decide +kernel⟩
theorem wm_X11_condition : Cond.instanceMethod yX11_condition ∈ pw_BW ∧ Cond.selects yX11_condition.cls yX11_condition yX11_condition ∈ pw_BW ∧ Cond.initialized yX11_condition.cls ∈ pw_BW ∧ Cond.code yX11_condition cX11_condition 1 (some .int) ∈ pw_BW ∧ (yX11_condition.cls ≠ "java/lang/invoke/MethodHandle" ∧ yX11_condition.cls ≠ "java/lang/invoke/VarHandle" ∧ (parseMethodDescriptor yX11_condition.desc).map (fun d => d.parameters.length) = some 0) := ⟨mw_979, mw_980, mw_45, mw_981, by decide +kernel⟩
theorem wm_X11_clear : Cond.instanceMethod yX11_clear ∈ pw_BW ∧ Cond.selects yX11_clear.cls yX11_clear yX11_clear ∈ pw_BW ∧ Cond.initialized yX11_clear.cls ∈ pw_BW ∧ Cond.code yX11_clear cX11_clear 3 (some .int) ∈ pw_BW ∧ (yX11_clear.cls ≠ "java/lang/invoke/MethodHandle" ∧ yX11_clear.cls ≠ "java/lang/invoke/VarHandle" ∧ (parseMethodDescriptor yX11_clear.desc).map (fun d => d.parameters.length) = some 1) := ⟨mw_983, mw_984, mw_45, mw_985, by decide +kernel⟩
theorem wm_X11_nameAt : Cond.instanceMethod yX11_nameAt ∈ pw_BW ∧ Cond.selects yX11_nameAt.cls yX11_nameAt yX11_nameAt ∈ pw_BW ∧ Cond.initialized yX11_nameAt.cls ∈ pw_BW ∧ Cond.code yX11_nameAt cX11_nameAt 7 (some .int) ∈ pw_BW ∧ (yX11_nameAt.cls ≠ "java/lang/invoke/MethodHandle" ∧ yX11_nameAt.cls ≠ "java/lang/invoke/VarHandle" ∧ (parseMethodDescriptor yX11_nameAt.desc).map (fun d => d.parameters.length) = some 3) := ⟨mw_999, mw_25, mw_45, mw_1000, by decide +kernel⟩
theorem wm_X11_underWay : Cond.instanceMethod yX11_underWay ∈ pw_BW ∧ Cond.selects yX11_underWay.cls yX11_underWay yX11_underWay ∈ pw_BW ∧ Cond.initialized yX11_underWay.cls ∈ pw_BW ∧ Cond.code yX11_underWay cX11_underWay 6 (some .int) ∈ pw_BW ∧ (yX11_underWay.cls ≠ "java/lang/invoke/MethodHandle" ∧ yX11_underWay.cls ≠ "java/lang/invoke/VarHandle" ∧ (parseMethodDescriptor yX11_underWay.desc).map (fun d => d.parameters.length) = some 3) := ⟨mw_1003, mw_26, mw_45, mw_1004, by decide +kernel⟩
theorem wm_X11_give : Cond.static yX11_give ∈ pw_BW ∧ Cond.initialized yX11_give.cls ∈ pw_BW ∧ Cond.code yX11_give cX11_give 3 (some .int) ∈ pw_BW ∧ (yX11_give.cls ≠ "java/lang/invoke/MethodHandle" ∧ yX11_give.cls ≠ "java/lang/invoke/VarHandle" ∧ (parseMethodDescriptor yX11_give.desc).map (fun d => d.parameters.length) = some 3) := ⟨mw_995, mw_45, mw_996, by decide +kernel⟩
theorem wm_X11_worthOf : Cond.instanceMethod yX11_worthOf ∈ pw_BW ∧ Cond.selects yX11_worthOf.cls yX11_worthOf yX11_worthOf ∈ pw_BW ∧ Cond.initialized yX11_worthOf.cls ∈ pw_BW ∧ Cond.code yX11_worthOf cX11_worthOf 6 (some .int) ∈ pw_BW ∧ (yX11_worthOf.cls ≠ "java/lang/invoke/MethodHandle" ∧ yX11_worthOf.cls ≠ "java/lang/invoke/VarHandle" ∧ (parseMethodDescriptor yX11_worthOf.desc).map (fun d => d.parameters.length) = some 2) := ⟨mw_992, mw_24, mw_45, mw_993, by decide +kernel⟩
theorem wm_X11_value : Cond.instanceMethod yX11_value ∈ pw_BW ∧ Cond.selects yX11_value.cls yX11_value yX11_value ∈ pw_BW ∧ Cond.initialized yX11_value.cls ∈ pw_BW ∧ Cond.code yX11_value cX11_value 3 (some .int) ∈ pw_BW ∧ (yX11_value.cls ≠ "java/lang/invoke/MethodHandle" ∧ yX11_value.cls ≠ "java/lang/invoke/VarHandle" ∧ (parseMethodDescriptor yX11_value.desc).map (fun d => d.parameters.length) = some 2) := ⟨mw_987, mw_988, mw_45, mw_989, by decide +kernel⟩
theorem wm_X11_status : Cond.instanceMethod yX11_status ∈ pw_BW ∧ Cond.selects yX11_status.cls yX11_status yX11_status ∈ pw_BW ∧ Cond.initialized yX11_status.cls ∈ pw_BW ∧ Cond.code yX11_status cX11_status 1 (some .int) ∈ pw_BW ∧ (yX11_status.cls ≠ "java/lang/invoke/MethodHandle" ∧ yX11_status.cls ≠ "java/lang/invoke/VarHandle" ∧ (parseMethodDescriptor yX11_status.desc).map (fun d => d.parameters.length) = some 0) := ⟨mw_1006, mw_1007, mw_45, mw_1008, by decide +kernel⟩
theorem wm_X11_study : Cond.instanceMethod yX11_study ∈ pw_BW ∧ Cond.selects yX11_study.cls yX11_study yX11_study ∈ pw_BW ∧ Cond.initialized yX11_study.cls ∈ pw_BW ∧ Cond.code yX11_study cX11_study 3 (some .boolean) ∈ pw_BW ∧ (yX11_study.cls ≠ "java/lang/invoke/MethodHandle" ∧ yX11_study.cls ≠ "java/lang/invoke/VarHandle" ∧ (parseMethodDescriptor yX11_study.desc).map (fun d => d.parameters.length) = some 1) := ⟨mw_1019, mw_28, mw_45, mw_1020, by decide +kernel⟩
theorem wm_X11_extreme : Cond.instanceMethod yX11_extreme ∈ pw_BW ∧ Cond.selects yX11_extreme.cls yX11_extreme yX11_extreme ∈ pw_BW ∧ Cond.initialized yX11_extreme.cls ∈ pw_BW ∧ Cond.code yX11_extreme cX11_extreme 6 (some .int) ∈ pw_BW ∧ (yX11_extreme.cls ≠ "java/lang/invoke/MethodHandle" ∧ yX11_extreme.cls ≠ "java/lang/invoke/VarHandle" ∧ (parseMethodDescriptor yX11_extreme.desc).map (fun d => d.parameters.length) = some 2) := ⟨mw_1015, mw_27, mw_45, mw_1016, by decide +kernel⟩
theorem wm_X11_may : Cond.instanceMethod yX11_may ∈ pw_BW ∧ Cond.selects yX11_may.cls yX11_may yX11_may ∈ pw_BW ∧ Cond.initialized yX11_may.cls ∈ pw_BW ∧ Cond.code yX11_may cX11_may 2 (some .int) ∈ pw_BW ∧ (yX11_may.cls ≠ "java/lang/invoke/MethodHandle" ∧ yX11_may.cls ≠ "java/lang/invoke/VarHandle" ∧ (parseMethodDescriptor yX11_may.desc).map (fun d => d.parameters.length) = some 1) := ⟨mw_1010, mw_1011, mw_45, mw_1012, by decide +kernel⟩
theorem wm_X11_last : Cond.instanceMethod yX11_last ∈ pw_BW ∧ Cond.selects yX11_last.cls yX11_last yX11_last ∈ pw_BW ∧ Cond.initialized yX11_last.cls ∈ pw_BW ∧ Cond.code yX11_last cX11_last 2 (some .int) ∈ pw_BW ∧ (yX11_last.cls ≠ "java/lang/invoke/MethodHandle" ∧ yX11_last.cls ≠ "java/lang/invoke/VarHandle" ∧ (parseMethodDescriptor yX11_last.desc).map (fun d => d.parameters.length) = some 1) := ⟨mw_1022, mw_1023, mw_45, mw_1024, by decide +kernel⟩
theorem wm_X11_many : Cond.instanceMethod yX11_many ∈ pw_BW ∧ Cond.selects yX11_many.cls yX11_many yX11_many ∈ pw_BW ∧ Cond.initialized yX11_many.cls ∈ pw_BW ∧ Cond.code yX11_many cX11_many 4 (some .int) ∈ pw_BW ∧ (yX11_many.cls ≠ "java/lang/invoke/MethodHandle" ∧ yX11_many.cls ≠ "java/lang/invoke/VarHandle" ∧ (parseMethodDescriptor yX11_many.desc).map (fun d => d.parameters.length) = some 1) := ⟨mw_1026, mw_1027, mw_45, mw_1028, by decide +kernel⟩
theorem wm_X11_bars : Cond.instanceMethod yX11_bars ∈ pw_BW ∧ Cond.selects yX11_bars.cls yX11_bars yX11_bars ∈ pw_BW ∧ Cond.initialized yX11_bars.cls ∈ pw_BW ∧ Cond.code yX11_bars cX11_bars 3 (some .boolean) ∈ pw_BW ∧ (yX11_bars.cls ≠ "java/lang/invoke/MethodHandle" ∧ yX11_bars.cls ≠ "java/lang/invoke/VarHandle" ∧ (parseMethodDescriptor yX11_bars.desc).map (fun d => d.parameters.length) = some 1) := ⟨mw_1035, mw_29, mw_45, mw_1036, by decide +kernel⟩
theorem wm_X11_sure : Cond.instanceMethod yX11_sure ∈ pw_BW ∧ Cond.selects yX11_sure.cls yX11_sure yX11_sure ∈ pw_BW ∧ Cond.initialized yX11_sure.cls ∈ pw_BW ∧ Cond.code yX11_sure cX11_sure 2 (some .int) ∈ pw_BW ∧ (yX11_sure.cls ≠ "java/lang/invoke/MethodHandle" ∧ yX11_sure.cls ≠ "java/lang/invoke/VarHandle" ∧ (parseMethodDescriptor yX11_sure.desc).map (fun d => d.parameters.length) = some 1) := ⟨mw_1030, mw_1031, mw_45, mw_1032, by decide +kernel⟩
theorem wm_X11_avoid : Cond.instanceMethod yX11_avoid ∈ pw_BW ∧ Cond.selects yX11_avoid.cls yX11_avoid yX11_avoid ∈ pw_BW ∧ Cond.initialized yX11_avoid.cls ∈ pw_BW ∧ Cond.code yX11_avoid cX11_avoid 3 (some .int) ∈ pw_BW ∧ (yX11_avoid.cls ≠ "java/lang/invoke/MethodHandle" ∧ yX11_avoid.cls ≠ "java/lang/invoke/VarHandle" ∧ (parseMethodDescriptor yX11_avoid.desc).map (fun d => d.parameters.length) = some 2) := ⟨mw_1038, mw_1039, mw_45, mw_1040, by decide +kernel⟩
theorem wm_X11_avoids : Cond.instanceMethod yX11_avoids ∈ pw_BW ∧ Cond.selects yX11_avoids.cls yX11_avoids yX11_avoids ∈ pw_BW ∧ Cond.initialized yX11_avoids.cls ∈ pw_BW ∧ Cond.code yX11_avoids cX11_avoids 2 (some .long) ∈ pw_BW ∧ (yX11_avoids.cls ≠ "java/lang/invoke/MethodHandle" ∧ yX11_avoids.cls ≠ "java/lang/invoke/VarHandle" ∧ (parseMethodDescriptor yX11_avoids.desc).map (fun d => d.parameters.length) = some 1) := ⟨mw_1042, mw_1043, mw_45, mw_1044, by decide +kernel⟩
theorem wm_X11_isKept : Cond.instanceMethod yX11_isKept ∈ pw_BW ∧ Cond.selects yX11_isKept.cls yX11_isKept yX11_isKept ∈ pw_BW ∧ Cond.initialized yX11_isKept.cls ∈ pw_BW ∧ Cond.code yX11_isKept cX11_isKept 3 (some .boolean) ∈ pw_BW ∧ (yX11_isKept.cls ≠ "java/lang/invoke/MethodHandle" ∧ yX11_isKept.cls ≠ "java/lang/invoke/VarHandle" ∧ (parseMethodDescriptor yX11_isKept.desc).map (fun d => d.parameters.length) = some 0) := ⟨mw_1052, mw_30, mw_45, mw_1053, by decide +kernel⟩
theorem wm_X11_isClosed : Cond.instanceMethod yX11_isClosed ∈ pw_BW ∧ Cond.selects yX11_isClosed.cls yX11_isClosed yX11_isClosed ∈ pw_BW ∧ Cond.initialized yX11_isClosed.cls ∈ pw_BW ∧ Cond.code yX11_isClosed cX11_isClosed 4 (some .boolean) ∈ pw_BW ∧ (yX11_isClosed.cls ≠ "java/lang/invoke/MethodHandle" ∧ yX11_isClosed.cls ≠ "java/lang/invoke/VarHandle" ∧ (parseMethodDescriptor yX11_isClosed.desc).map (fun d => d.parameters.length) = some 1) := ⟨mw_1056, mw_31, mw_45, mw_1057, by decide +kernel⟩
theorem wm_X11_is : Cond.instanceMethod yX11_is ∈ pw_BW ∧ Cond.selects yX11_is.cls yX11_is yX11_is ∈ pw_BW ∧ Cond.initialized yX11_is.cls ∈ pw_BW ∧ Cond.code yX11_is cX11_is 3 (some .int) ∈ pw_BW ∧ (yX11_is.cls ≠ "java/lang/invoke/MethodHandle" ∧ yX11_is.cls ≠ "java/lang/invoke/VarHandle" ∧ (parseMethodDescriptor yX11_is.desc).map (fun d => d.parameters.length) = some 2) := ⟨mw_1047, mw_1048, mw_45, mw_1049, by decide +kernel⟩
theorem wm_X11_before : Cond.instanceMethod yX11_before ∈ pw_BW ∧ Cond.selects yX11_before.cls yX11_before yX11_before ∈ pw_BW ∧ Cond.initialized yX11_before.cls ∈ pw_BW ∧ Cond.code yX11_before cX11_before 5 (some .int) ∈ pw_BW ∧ (yX11_before.cls ≠ "java/lang/invoke/MethodHandle" ∧ yX11_before.cls ≠ "java/lang/invoke/VarHandle" ∧ (parseMethodDescriptor yX11_before.desc).map (fun d => d.parameters.length) = some 2) := ⟨mw_1059, mw_1060, mw_45, mw_1061, by decide +kernel⟩
theorem wm_X11_say : Cond.instanceMethod yX11_say ∈ pw_BW ∧ Cond.selects yX11_say.cls yX11_say yX11_say ∈ pw_BW ∧ Cond.initialized yX11_say.cls ∈ pw_BW ∧ Cond.code yX11_say cX11_say 2 (some .int) ∈ pw_BW ∧ (yX11_say.cls ≠ "java/lang/invoke/MethodHandle" ∧ yX11_say.cls ≠ "java/lang/invoke/VarHandle" ∧ (parseMethodDescriptor yX11_say.desc).map (fun d => d.parameters.length) = some 1) := ⟨mw_1063, mw_1064, mw_45, mw_1065, by decide +kernel⟩
theorem wm_X11_firstWrong : Cond.instanceMethod yX11_firstWrong ∈ pw_BW ∧ Cond.selects yX11_firstWrong.cls yX11_firstWrong yX11_firstWrong ∈ pw_BW ∧ Cond.initialized yX11_firstWrong.cls ∈ pw_BW ∧ Cond.code yX11_firstWrong cX11_firstWrong 4 (some .int) ∈ pw_BW ∧ (yX11_firstWrong.cls ≠ "java/lang/invoke/MethodHandle" ∧ yX11_firstWrong.cls ≠ "java/lang/invoke/VarHandle" ∧ (parseMethodDescriptor yX11_firstWrong.desc).map (fun d => d.parameters.length) = some 0) := ⟨mw_1072, mw_32, mw_45, mw_1073, by decide +kernel⟩
theorem wm_X11_check : Cond.instanceMethod yX11_check ∈ pw_BW ∧ Cond.selects yX11_check.cls yX11_check yX11_check ∈ pw_BW ∧ Cond.initialized yX11_check.cls ∈ pw_BW ∧ Cond.code yX11_check cX11_check 3 (some .int) ∈ pw_BW ∧ (yX11_check.cls ≠ "java/lang/invoke/MethodHandle" ∧ yX11_check.cls ≠ "java/lang/invoke/VarHandle" ∧ (parseMethodDescriptor yX11_check.desc).map (fun d => d.parameters.length) = some 0) := ⟨mw_1067, mw_1068, mw_45, mw_1069, by decide +kernel⟩
theorem wm_X11_passes : Cond.instanceMethod yX11_passes ∈ pw_BW ∧ Cond.selects yX11_passes.cls yX11_passes yX11_passes ∈ pw_BW ∧ Cond.initialized yX11_passes.cls ∈ pw_BW ∧ Cond.code yX11_passes cX11_passes 4 (some .int) ∈ pw_BW ∧ (yX11_passes.cls ≠ "java/lang/invoke/MethodHandle" ∧ yX11_passes.cls ≠ "java/lang/invoke/VarHandle" ∧ (parseMethodDescriptor yX11_passes.desc).map (fun d => d.parameters.length) = some 1) := ⟨mw_1075, mw_1076, mw_45, mw_1077, by decide +kernel⟩
theorem wm_X11_count_ : Cond.instanceMethod yX11_count_ ∈ pw_BW ∧ Cond.selects yX11_count_.cls yX11_count_ yX11_count_ ∈ pw_BW ∧ Cond.initialized yX11_count_.cls ∈ pw_BW ∧ Cond.code yX11_count_ cX11_count_ 4 (some .int) ∈ pw_BW ∧ (yX11_count_.cls ≠ "java/lang/invoke/MethodHandle" ∧ yX11_count_.cls ≠ "java/lang/invoke/VarHandle" ∧ (parseMethodDescriptor yX11_count_.desc).map (fun d => d.parameters.length) = some 1) := ⟨mw_1079, mw_1080, mw_45, mw_1081, by decide +kernel⟩
theorem wm_J9_max_7cf53 : Cond.static yJ9_max_7cf53 ∈ pw_BW ∧ Cond.initialized yJ9_max_7cf53.cls ∈ pw_BW ∧ Cond.code yJ9_max_7cf53 cJ9_max_7cf53 2 (some .int) ∈ pw_BW ∧ (yJ9_max_7cf53.cls ≠ "java/lang/invoke/MethodHandle" ∧ yJ9_max_7cf53.cls ≠ "java/lang/invoke/VarHandle" ∧ (parseMethodDescriptor yJ9_max_7cf53.desc).map (fun d => d.parameters.length) = some 2) := ⟨mw_396, mw_46, mw_397, by decide +kernel⟩
theorem wm_J9_min_7cf53 : Cond.static yJ9_min_7cf53 ∈ pw_BW ∧ Cond.initialized yJ9_min_7cf53.cls ∈ pw_BW ∧ Cond.code yJ9_min_7cf53 cJ9_min_7cf53 2 (some .int) ∈ pw_BW ∧ (yJ9_min_7cf53.cls ≠ "java/lang/invoke/MethodHandle" ∧ yJ9_min_7cf53.cls ≠ "java/lang/invoke/VarHandle" ∧ (parseMethodDescriptor yJ9_min_7cf53.desc).map (fun d => d.parameters.length) = some 2) := ⟨mw_498, mw_46, mw_499, by decide +kernel⟩
theorem wm_J7_fill_53178 : Cond.static yJ7_fill_53178 ∈ pw_BW ∧ Cond.initialized yJ7_fill_53178.cls ∈ pw_BW ∧ Cond.code yJ7_fill_53178 cJ7_fill_53178 4 none ∈ pw_BW ∧ (yJ7_fill_53178.cls ≠ "java/lang/invoke/MethodHandle" ∧ yJ7_fill_53178.cls ≠ "java/lang/invoke/VarHandle" ∧ (parseMethodDescriptor yJ7_fill_53178.desc).map (fun d => d.parameters.length) = some 2) := ⟨mw_466, mw_47, mw_467, by decide +kernel⟩
end
section
theorem ca_11 {G : pw_Gh} : 11 < 110 ∧ ∀ (f : Nat → Int32) (g : Nat → Int64), pw_cell G 11 f g = .inl (pw_gI G, 4, .inl f) := ⟨by decide, fun _ _ => rfl⟩
theorem ca_12 {G : pw_Gh} : 12 < 110 ∧ ∀ (f : Nat → Int32) (g : Nat → Int64), pw_cell G 12 f g = .inl (pw_gI G, 24, .inl f) := ⟨by decide, fun _ _ => rfl⟩
theorem ca_13 {G : pw_Gh} : 13 < 110 ∧ ∀ (f : Nat → Int32) (g : Nat → Int64), pw_cell G 13 f g = .inl (pw_gI G, 24, .inl f) := ⟨by decide, fun _ _ => rfl⟩
theorem ca_14 {G : pw_Gh} : 14 < 110 ∧ ∀ (f : Nat → Int32) (g : Nat → Int64), pw_cell G 14 f g = .inl (pw_gI G, 24, .inl f) := ⟨by decide, fun _ _ => rfl⟩
theorem ca_15 {G : pw_Gh} : 15 < 110 ∧ ∀ (f : Nat → Int32) (g : Nat → Int64), pw_cell G 15 f g = .inl (pw_gI G, 24, .inl f) := ⟨by decide, fun _ _ => rfl⟩
theorem ca_16 {G : pw_Gh} : 16 < 110 ∧ ∀ (f : Nat → Int32) (g : Nat → Int64), pw_cell G 16 f g = .inl (pw_gI G, 96, .inl f) := ⟨by decide, fun _ _ => rfl⟩
theorem ca_17 {G : pw_Gh} : 17 < 110 ∧ ∀ (f : Nat → Int32) (g : Nat → Int64), pw_cell G 17 f g = .inl (pw_gI G, 84, .inl f) := ⟨by decide, fun _ _ => rfl⟩
theorem ca_18 {G : pw_Gh} : 18 < 110 ∧ ∀ (f : Nat → Int32) (g : Nat → Int64), pw_cell G 18 f g = .inl (pw_gI G, 24, .inl f) := ⟨by decide, fun _ _ => rfl⟩
theorem ca_19 {G : pw_Gh} : 19 < 110 ∧ ∀ (f : Nat → Int32) (g : Nat → Int64), pw_cell G 19 f g = .inl (pw_gI G, 24, .inl f) := ⟨by decide, fun _ _ => rfl⟩
theorem ca_20 {G : pw_Gh} : 20 < 110 ∧ ∀ (f : Nat → Int32) (g : Nat → Int64), pw_cell G 20 f g = .inl (pw_gI G, 24, .inl f) := ⟨by decide, fun _ _ => rfl⟩
theorem ca_21 {G : pw_Gh} : 21 < 110 ∧ ∀ (f : Nat → Int32) (g : Nat → Int64), pw_cell G 21 f g = .inl (pw_gI G, 24, .inl f) := ⟨by decide, fun _ _ => rfl⟩
theorem ca_22 {G : pw_Gh} : 22 < 110 ∧ ∀ (f : Nat → Int32) (g : Nat → Int64), pw_cell G 22 f g = .inl (pw_gI G, 2401, .inl f) := ⟨by decide, fun _ _ => rfl⟩
theorem ca_23 {G : pw_Gh} : 23 < 110 ∧ ∀ (f : Nat → Int32) (g : Nat → Int64), pw_cell G 23 f g = .inl (pw_gZ G, 2401, .inl f) := ⟨by decide, fun _ _ => rfl⟩
theorem ca_24 {G : pw_Gh} : 24 < 110 ∧ ∀ (f : Nat → Int32) (g : Nat → Int64), pw_cell G 24 f g = .inl (pw_gI G, 25, .inl f) := ⟨by decide, fun _ _ => rfl⟩
theorem ca_25 {G : pw_Gh} : 25 < 110 ∧ ∀ (f : Nat → Int32) (g : Nat → Int64), pw_cell G 25 f g = .inl (pw_gI G, 4, .inl f) := ⟨by decide, fun _ _ => rfl⟩
theorem ca_26 {G : pw_Gh} : 26 < 110 ∧ ∀ (f : Nat → Int32) (g : Nat → Int64), pw_cell G 26 f g = .inl (pw_gF G, 6, .inr (.inr (.inr (.inr (fun i => some (pw_ad G (4 * (i + 0) + 54))))))) := ⟨by decide, fun _ _ => rfl⟩
theorem ca_27 {G : pw_Gh} : 27 < 110 ∧ ∀ (f : Nat → Int32) (g : Nat → Int64), pw_cell G 27 f g = .inl (pw_gF G, 8, .inr (.inr (.inr (.inr (fun i => some (pw_ad G (4 * (i + 6) + 54))))))) := ⟨by decide, fun _ _ => rfl⟩
theorem ca_28 {G : pw_Gh} : 28 < 110 ∧ ∀ (f : Nat → Int32) (g : Nat → Int64), pw_cell G 28 f g = .inl (pw_gI G, 4, .inl f) := ⟨by decide, fun _ _ => rfl⟩
theorem ca_29 {G : pw_Gh} : 29 < 110 ∧ ∀ (f : Nat → Int32) (g : Nat → Int64), pw_cell G 29 f g = .inl (pw_gI G, 6, .inl f) := ⟨by decide, fun _ _ => rfl⟩
theorem ca_30 {G : pw_Gh} : 30 < 110 ∧ ∀ (f : Nat → Int32) (g : Nat → Int64), pw_cell G 30 f g = .inl (pw_gZ G, 2401, .inl f) := ⟨by decide, fun _ _ => rfl⟩
theorem ca_31 {G : pw_Gh} : 31 < 110 ∧ ∀ (f : Nat → Int32) (g : Nat → Int64), pw_cell G 31 f g = .inl (pw_gI G, 2401, .inl f) := ⟨by decide, fun _ _ => rfl⟩
theorem ca_32 {G : pw_Gh} : 32 < 110 ∧ ∀ (f : Nat → Int32) (g : Nat → Int64), pw_cell G 32 f g = .inl (pw_gJ G, 2401, .inr (.inl g)) := ⟨by decide, fun _ _ => rfl⟩
theorem ca_33 {G : pw_Gh} : 33 < 110 ∧ ∀ (f : Nat → Int32) (g : Nat → Int64), pw_cell G 33 f g = .inl (pw_gI G, 24, .inl f) := ⟨by decide, fun _ _ => rfl⟩
theorem ca_34 {G : pw_Gh} : 34 < 110 ∧ ∀ (f : Nat → Int32) (g : Nat → Int64), pw_cell G 34 f g = .inl (pw_gI G, 4, .inl f) := ⟨by decide, fun _ _ => rfl⟩
theorem ca_35 {G : pw_Gh} : 35 < 110 ∧ ∀ (f : Nat → Int32) (g : Nat → Int64), pw_cell G 35 f g = .inl (pw_gI G, 24, .inl f) := ⟨by decide, fun _ _ => rfl⟩
theorem ca_36 {G : pw_Gh} : 36 < 110 ∧ ∀ (f : Nat → Int32) (g : Nat → Int64), pw_cell G 36 f g = .inl (pw_gI G, 24, .inl f) := ⟨by decide, fun _ _ => rfl⟩
theorem ca_37 {G : pw_Gh} : 37 < 110 ∧ ∀ (f : Nat → Int32) (g : Nat → Int64), pw_cell G 37 f g = .inl (pw_gI G, 24, .inl f) := ⟨by decide, fun _ _ => rfl⟩
theorem ca_38 {G : pw_Gh} : 38 < 110 ∧ ∀ (f : Nat → Int32) (g : Nat → Int64), pw_cell G 38 f g = .inl (pw_gI G, 24, .inl f) := ⟨by decide, fun _ _ => rfl⟩
theorem ca_39 {G : pw_Gh} : 39 < 110 ∧ ∀ (f : Nat → Int32) (g : Nat → Int64), pw_cell G 39 f g = .inl (pw_gI G, 96, .inl f) := ⟨by decide, fun _ _ => rfl⟩
theorem ca_40 {G : pw_Gh} : 40 < 110 ∧ ∀ (f : Nat → Int32) (g : Nat → Int64), pw_cell G 40 f g = .inl (pw_gI G, 24, .inl f) := ⟨by decide, fun _ _ => rfl⟩
theorem ca_41 {G : pw_Gh} : 41 < 110 ∧ ∀ (f : Nat → Int32) (g : Nat → Int64), pw_cell G 41 f g = .inl (pw_gI G, 24, .inl f) := ⟨by decide, fun _ _ => rfl⟩
theorem ca_42 {G : pw_Gh} : 42 < 110 ∧ ∀ (f : Nat → Int32) (g : Nat → Int64), pw_cell G 42 f g = .inl (pw_gI G, 24, .inl f) := ⟨by decide, fun _ _ => rfl⟩
theorem ca_43 {G : pw_Gh} : 43 < 110 ∧ ∀ (f : Nat → Int32) (g : Nat → Int64), pw_cell G 43 f g = .inl (pw_gI G, 24, .inl f) := ⟨by decide, fun _ _ => rfl⟩
theorem ca_44 {G : pw_Gh} : 44 < 110 ∧ ∀ (f : Nat → Int32) (g : Nat → Int64), pw_cell G 44 f g = .inl (pw_gZ G, 2401, .inl f) := ⟨by decide, fun _ _ => rfl⟩
theorem ca_45 {G : pw_Gh} : 45 < 110 ∧ ∀ (f : Nat → Int32) (g : Nat → Int64), pw_cell G 45 f g = .inl (pw_gJ G, 2401, .inr (.inl g)) := ⟨by decide, fun _ _ => rfl⟩
theorem ca_46 {G : pw_Gh} : 46 < 110 ∧ ∀ (f : Nat → Int32) (g : Nat → Int64), pw_cell G 46 f g = .inl (pw_gI G, 240, .inl f) := ⟨by decide, fun _ _ => rfl⟩
theorem ca_47 {G : pw_Gh} : 47 < 110 ∧ ∀ (f : Nat → Int32) (g : Nat → Int64), pw_cell G 47 f g = .inl (pw_gI G, 240, .inl f) := ⟨by decide, fun _ _ => rfl⟩
theorem ca_48 {G : pw_Gh} : 48 < 110 ∧ ∀ (f : Nat → Int32) (g : Nat → Int64), pw_cell G 48 f g = .inl (pw_gI G, 240, .inl f) := ⟨by decide, fun _ _ => rfl⟩
theorem ca_49 {G : pw_Gh} : 49 < 110 ∧ ∀ (f : Nat → Int32) (g : Nat → Int64), pw_cell G 49 f g = .inl (pw_gI G, 16, .inl f) := ⟨by decide, fun _ _ => rfl⟩
theorem ca_50 {G : pw_Gh} : 50 < 110 ∧ ∀ (f : Nat → Int32) (g : Nat → Int64), pw_cell G 50 f g = .inl (pw_gI G, 16, .inl f) := ⟨by decide, fun _ _ => rfl⟩
theorem ca_51 {G : pw_Gh} : 51 < 110 ∧ ∀ (f : Nat → Int32) (g : Nat → Int64), pw_cell G 51 f g = .inl (pw_gZ G, 2401, .inl f) := ⟨by decide, fun _ _ => rfl⟩
theorem ca_52 {G : pw_Gh} : 52 < 110 ∧ ∀ (f : Nat → Int32) (g : Nat → Int64), pw_cell G 52 f g = .inl (pw_gZ G, 2401, .inl f) := ⟨by decide, fun _ _ => rfl⟩
theorem ca_53 {G : pw_Gh} : 53 < 110 ∧ ∀ (f : Nat → Int32) (g : Nat → Int64), pw_cell G 53 f g = .inl (pw_gI G, 24, .inl f) := ⟨by decide, fun _ _ => rfl⟩
theorem ca_F1 {G : pw_Gh} {n : Nat} (h : n < 14) : 4 * n + 55 < 110 ∧ ∀ (f : Nat → Int32) (g : Nat → Int64), pw_cell G (4 * n + 55) f g = .inl (pw_gI G, 15, .inl f) := ⟨by omega, fun _ _ => pw_cellF1⟩
theorem ca_F2 {G : pw_Gh} {n : Nat} (h : n < 14) : 4 * n + 56 < 110 ∧ ∀ (f : Nat → Int32) (g : Nat → Int64), pw_cell G (4 * n + 56) f g = .inl (pw_gI G, 15, .inl f) := ⟨by omega, fun _ _ => pw_cellF2⟩
theorem ca_F3 {G : pw_Gh} {n : Nat} (h : n < 14) : 4 * n + 57 < 110 ∧ ∀ (f : Nat → Int32) (g : Nat → Int64), pw_cell G (4 * n + 57) f g = .inl (pw_gI G, 15, .inl f) := ⟨by omega, fun _ _ => pw_cellF3⟩
section PWF
variable {p : Program} {l : Launch} {e : Env} {R : Room} {s : State} {m : MethodId} {args : Array Value} {below : List Frame} {meth : Method} {c : Code} {H : Heap} {locs : List Loc} {cells slots : Nat} {Q : State → Prop}
variable {G : pw_Gh} {σ : pw_St} {own : String} {cc : ByteArray} {nL pc idx : Nat} {ret : Option FieldType} {ls : Array Slot} {rest : List Value}
theorem pg_0_0 (hC : pw_CX G own cc nL ret p s m args meth c) (hw : pw_WH G σ s.heap H locs) (hl : Cond.fieldLink own idx "PerhapsWas" "history" "LPerhapsWas$History;" ∈ pw_BW) (hdg : decode cc pc = .ok (.getfield idx, 3))
    (kk : W p l e R s m args below meth c H locs cells slots Q (F0 m (pc + 3) ls (.ref (pw_ad G 1) :: rest))) : W p l e R s m args below meth c H locs cells slots Q (F0 m pc ls (.ref (pw_ad G (0)) :: rest)) :=
  va_get (D := pw_gD G) (ci := 10) (C := RX10) (T := TX10) (N := 9) hC.1 hC.2.1 hC.2.2.2.2.1 pw_inX10 hC.2.2.2.1 hC.2.2.2.2.2.1.1 hw.1.1 (0) (pw_at (by decide)) rfl 0 (by decide) (hC.2.2.2.2.1 _ hl) (fun _ h => h) rfl hdg kk
theorem pg_0_1 (hC : pw_CX G own cc nL ret p s m args meth c) (hw : pw_WH G σ s.heap H locs) (hl : Cond.fieldLink own idx "PerhapsWas" "net" "LPerhapsWas$Net;" ∈ pw_BW) (hdg : decode cc pc = .ok (.getfield idx, 3))
    (kk : W p l e R s m args below meth c H locs cells slots Q (F0 m (pc + 3) ls (.ref (pw_ad G 3) :: rest))) : W p l e R s m args below meth c H locs cells slots Q (F0 m pc ls (.ref (pw_ad G (0)) :: rest)) :=
  va_get (D := pw_gD G) (ci := 10) (C := RX10) (T := TX10) (N := 9) hC.1 hC.2.1 hC.2.2.2.2.1 pw_inX10 hC.2.2.2.1 hC.2.2.2.2.2.1.1 hw.1.1 (0) (pw_at (by decide)) rfl 1 (by decide) (hC.2.2.2.2.1 _ hl) (fun _ h => h) rfl hdg kk
theorem pg_0_2 (hC : pw_CX G own cc nL ret p s m args meth c) (hw : pw_WH G σ s.heap H locs) (hl : Cond.fieldLink own idx "PerhapsWas" "pile" "LPerhapsWas$Pile;" ∈ pw_BW) (hdg : decode cc pc = .ok (.getfield idx, 3))
    (kk : W p l e R s m args below meth c H locs cells slots Q (F0 m (pc + 3) ls (.ref (pw_ad G 4) :: rest))) : W p l e R s m args below meth c H locs cells slots Q (F0 m pc ls (.ref (pw_ad G (0)) :: rest)) :=
  va_get (D := pw_gD G) (ci := 10) (C := RX10) (T := TX10) (N := 9) hC.1 hC.2.1 hC.2.2.2.2.1 pw_inX10 hC.2.2.2.1 hC.2.2.2.2.2.1.1 hw.1.1 (0) (pw_at (by decide)) rfl 2 (by decide) (hC.2.2.2.2.1 _ hl) (fun _ h => h) rfl hdg kk
theorem pg_0_3 (hC : pw_CX G own cc nL ret p s m args meth c) (hw : pw_WH G σ s.heap H locs) (hl : Cond.fieldLink own idx "PerhapsWas" "conditions" "LPerhapsWas$Conditions;" ∈ pw_BW) (hdg : decode cc pc = .ok (.getfield idx, 3))
    (kk : W p l e R s m args below meth c H locs cells slots Q (F0 m (pc + 3) ls (.ref (pw_ad G 5) :: rest))) : W p l e R s m args below meth c H locs cells slots Q (F0 m pc ls (.ref (pw_ad G (0)) :: rest)) :=
  va_get (D := pw_gD G) (ci := 10) (C := RX10) (T := TX10) (N := 9) hC.1 hC.2.1 hC.2.2.2.2.1 pw_inX10 hC.2.2.2.1 hC.2.2.2.2.2.1.1 hw.1.1 (0) (pw_at (by decide)) rfl 3 (by decide) (hC.2.2.2.2.1 _ hl) (fun _ h => h) rfl hdg kk
theorem pg_0_4 (hC : pw_CX G own cc nL ret p s m args meth c) (hw : pw_WH G σ s.heap H locs) (hl : Cond.fieldLink own idx "PerhapsWas" "moment" "LPerhapsWas$Moment;" ∈ pw_BW) (hdg : decode cc pc = .ok (.getfield idx, 3))
    (kk : W p l e R s m args below meth c H locs cells slots Q (F0 m (pc + 3) ls (.ref (pw_ad G 6) :: rest))) : W p l e R s m args below meth c H locs cells slots Q (F0 m pc ls (.ref (pw_ad G (0)) :: rest)) :=
  va_get (D := pw_gD G) (ci := 10) (C := RX10) (T := TX10) (N := 9) hC.1 hC.2.1 hC.2.2.2.2.1 pw_inX10 hC.2.2.2.1 hC.2.2.2.2.2.1.1 hw.1.1 (0) (pw_at (by decide)) rfl 4 (by decide) (hC.2.2.2.2.1 _ hl) (fun _ h => h) rfl hdg kk
theorem pg_0_5 (hC : pw_CX G own cc nL ret p s m args meth c) (hw : pw_WH G σ s.heap H locs) (hl : Cond.fieldLink own idx "PerhapsWas" "marks" "LPerhapsWas$Marks;" ∈ pw_BW) (hdg : decode cc pc = .ok (.getfield idx, 3))
    (kk : W p l e R s m args below meth c H locs cells slots Q (F0 m (pc + 3) ls (.ref (pw_ad G 7) :: rest))) : W p l e R s m args below meth c H locs cells slots Q (F0 m pc ls (.ref (pw_ad G (0)) :: rest)) :=
  va_get (D := pw_gD G) (ci := 10) (C := RX10) (T := TX10) (N := 9) hC.1 hC.2.1 hC.2.2.2.2.1 pw_inX10 hC.2.2.2.1 hC.2.2.2.2.2.1.1 hw.1.1 (0) (pw_at (by decide)) rfl 5 (by decide) (hC.2.2.2.2.1 _ hl) (fun _ h => h) rfl hdg kk
theorem pg_0_6 (hC : pw_CX G own cc nL ret p s m args meth c) (hw : pw_WH G σ s.heap H locs) (hl : Cond.fieldLink own idx "PerhapsWas" "ways" "LPerhapsWas$Ways;" ∈ pw_BW) (hdg : decode cc pc = .ok (.getfield idx, 3))
    (kk : W p l e R s m args below meth c H locs cells slots Q (F0 m (pc + 3) ls (.ref (pw_ad G 8) :: rest))) : W p l e R s m args below meth c H locs cells slots Q (F0 m pc ls (.ref (pw_ad G (0)) :: rest)) :=
  va_get (D := pw_gD G) (ci := 10) (C := RX10) (T := TX10) (N := 9) hC.1 hC.2.1 hC.2.2.2.2.1 pw_inX10 hC.2.2.2.1 hC.2.2.2.2.2.1.1 hw.1.1 (0) (pw_at (by decide)) rfl 6 (by decide) (hC.2.2.2.2.1 _ hl) (fun _ h => h) rfl hdg kk
theorem pg_0_7 (hC : pw_CX G own cc nL ret p s m args meth c) (hw : pw_WH G σ s.heap H locs) (hl : Cond.fieldLink own idx "PerhapsWas" "row" "LPerhapsWas$Row;" ∈ pw_BW) (hdg : decode cc pc = .ok (.getfield idx, 3))
    (kk : W p l e R s m args below meth c H locs cells slots Q (F0 m (pc + 3) ls (.ref (pw_ad G 9) :: rest))) : W p l e R s m args below meth c H locs cells slots Q (F0 m pc ls (.ref (pw_ad G (0)) :: rest)) :=
  va_get (D := pw_gD G) (ci := 10) (C := RX10) (T := TX10) (N := 9) hC.1 hC.2.1 hC.2.2.2.2.1 pw_inX10 hC.2.2.2.1 hC.2.2.2.2.2.1.1 hw.1.1 (0) (pw_at (by decide)) rfl 7 (by decide) (hC.2.2.2.2.1 _ hl) (fun _ h => h) rfl hdg kk
theorem pg_0_8 (hC : pw_CX G own cc nL ret p s m args meth c) (hw : pw_WH G σ s.heap H locs) (hl : Cond.fieldLink own idx "PerhapsWas" "refusal" "I" ∈ pw_BW) (hdg : decode cc pc = .ok (.getfield idx, 3))
    (kk : W p l e R s m args below meth c H locs cells slots Q (F0 m (pc + 3) ls (.int (σ.1 0 8) :: rest))) : W p l e R s m args below meth c H locs cells slots Q (F0 m pc ls (.ref (pw_ad G (0)) :: rest)) :=
  va_get (D := pw_gD G) (ci := 10) (C := RX10) (T := TX10) (N := 9) hC.1 hC.2.1 hC.2.2.2.2.1 pw_inX10 hC.2.2.2.1 hC.2.2.2.2.2.1.1 hw.1.1 (0) (pw_at (by decide)) rfl 8 (by decide) (hC.2.2.2.2.1 _ hl) (fun _ h => h) rfl hdg kk
theorem pp_0_8 {v : Int32} (hC : pw_CX G own cc nL ret p s m args meth c) (hw : pw_WH G σ s.heap H locs) (hl : Cond.fieldLink own idx "PerhapsWas" "refusal" "I" ∈ pw_BW) (hdg : decode cc pc = .ok (.putfield idx, 3))
    (kk : ∀ (H1 : Heap) (locs1 : List Loc), pw_WH G (pw_sM σ (0) 8 v) s.heap H1 locs1 → W p l e R s m args below meth c H1 locs1 cells slots Q (F0 m (pc + 3) ls rest)) : W p l e R s m args below meth c H locs cells slots Q (F0 m pc ls (.int v :: .ref (pw_ad G (0)) :: rest)) := by
  refine va_put (D := pw_gD G) (ci := 10) (v := .int v) (ty := .int) (C := RX10) (T := TX10) (N := 9) hC.1 hC.2.1 hC.2.2.2.2.1 pw_inX10 tyX10 tyX10_ok nmX10 hC.2.2.2.1 hC.2.2.2.2.2.1.1 hw.1.1 hw.1.2 hw.2 (0) (pw_at (by decide)) rfl 8 (by decide) (hC.2.2.2.2.1 _ hl) (fun _ h => h) rfl (by decide +kernel) rfl rfl (Nat.le_of_ble_eq_true rfl) hdg (fun H1 locs1 h1 h2 h3 => ?_)
  have hq := pw_setM (G := G) (σ := σ) (k := 0) (j := 8) (v := v) (by decide)
  skip
  exact kk H1 locs1 ⟨⟨hq ▸ h1, hq ▸ h2⟩, h3⟩
theorem pg_1_0 (hC : pw_CX G own cc nL ret p s m args meth c) (hw : pw_WH G σ s.heap H locs) (hl : Cond.fieldLink own idx "PerhapsWas$History" "letters" "LPerhapsWas$Letters;" ∈ pw_BW) (hdg : decode cc pc = .ok (.getfield idx, 3))
    (kk : W p l e R s m args below meth c H locs cells slots Q (F0 m (pc + 3) ls (.ref (pw_ad G 2) :: rest))) : W p l e R s m args below meth c H locs cells slots Q (F0 m pc ls (.ref (pw_ad G (1)) :: rest)) :=
  va_get (D := pw_gD G) (ci := 2) (C := RX2) (T := TX2) (N := 11) hC.1 hC.2.1 hC.2.2.2.2.1 pw_inX2 hC.2.2.2.1 hC.2.2.2.2.2.1.1 hw.1.1 (1) (pw_at (by decide)) rfl 0 (by decide) (hC.2.2.2.2.1 _ hl) (fun _ h => h) rfl hdg kk
theorem pg_1_1 (hC : pw_CX G own cc nL ret p s m args meth c) (hw : pw_WH G σ s.heap H locs) (hl : Cond.fieldLink own idx "PerhapsWas$History" "had" "[I" ∈ pw_BW) (hdg : decode cc pc = .ok (.getfield idx, 3))
    (kk : W p l e R s m args below meth c H locs cells slots Q (F0 m (pc + 3) ls (.ref (pw_ad G 11) :: rest))) : W p l e R s m args below meth c H locs cells slots Q (F0 m pc ls (.ref (pw_ad G (1)) :: rest)) :=
  va_get (D := pw_gD G) (ci := 2) (C := RX2) (T := TX2) (N := 11) hC.1 hC.2.1 hC.2.2.2.2.1 pw_inX2 hC.2.2.2.1 hC.2.2.2.2.2.1.1 hw.1.1 (1) (pw_at (by decide)) rfl 1 (by decide) (hC.2.2.2.2.1 _ hl) (fun _ h => h) rfl hdg kk
theorem pg_1_2 (hC : pw_CX G own cc nL ret p s m args meth c) (hw : pw_WH G σ s.heap H locs) (hl : Cond.fieldLink own idx "PerhapsWas$History" "came" "[I" ∈ pw_BW) (hdg : decode cc pc = .ok (.getfield idx, 3))
    (kk : W p l e R s m args below meth c H locs cells slots Q (F0 m (pc + 3) ls (.ref (pw_ad G 12) :: rest))) : W p l e R s m args below meth c H locs cells slots Q (F0 m pc ls (.ref (pw_ad G (1)) :: rest)) :=
  va_get (D := pw_gD G) (ci := 2) (C := RX2) (T := TX2) (N := 11) hC.1 hC.2.1 hC.2.2.2.2.1 pw_inX2 hC.2.2.2.1 hC.2.2.2.2.2.1.1 hw.1.1 (1) (pw_at (by decide)) rfl 2 (by decide) (hC.2.2.2.2.1 _ hl) (fun _ h => h) rfl hdg kk
theorem pg_1_3 (hC : pw_CX G own cc nL ret p s m args meth c) (hw : pw_WH G σ s.heap H locs) (hl : Cond.fieldLink own idx "PerhapsWas$History" "kinds" "[I" ∈ pw_BW) (hdg : decode cc pc = .ok (.getfield idx, 3))
    (kk : W p l e R s m args below meth c H locs cells slots Q (F0 m (pc + 3) ls (.ref (pw_ad G 13) :: rest))) : W p l e R s m args below meth c H locs cells slots Q (F0 m pc ls (.ref (pw_ad G (1)) :: rest)) :=
  va_get (D := pw_gD G) (ci := 2) (C := RX2) (T := TX2) (N := 11) hC.1 hC.2.1 hC.2.2.2.2.1 pw_inX2 hC.2.2.2.1 hC.2.2.2.2.2.1.1 hw.1.1 (1) (pw_at (by decide)) rfl 3 (by decide) (hC.2.2.2.2.1 _ hl) (fun _ h => h) rfl hdg kk
theorem pg_1_4 (hC : pw_CX G own cc nL ret p s m args meth c) (hw : pw_WH G σ s.heap H locs) (hl : Cond.fieldLink own idx "PerhapsWas$History" "subjects" "[I" ∈ pw_BW) (hdg : decode cc pc = .ok (.getfield idx, 3))
    (kk : W p l e R s m args below meth c H locs cells slots Q (F0 m (pc + 3) ls (.ref (pw_ad G 14) :: rest))) : W p l e R s m args below meth c H locs cells slots Q (F0 m pc ls (.ref (pw_ad G (1)) :: rest)) :=
  va_get (D := pw_gD G) (ci := 2) (C := RX2) (T := TX2) (N := 11) hC.1 hC.2.1 hC.2.2.2.2.1 pw_inX2 hC.2.2.2.1 hC.2.2.2.2.2.1.1 hw.1.1 (1) (pw_at (by decide)) rfl 4 (by decide) (hC.2.2.2.2.1 _ hl) (fun _ h => h) rfl hdg kk
theorem pg_1_5 (hC : pw_CX G own cc nL ret p s m args meth c) (hw : pw_WH G σ s.heap H locs) (hl : Cond.fieldLink own idx "PerhapsWas$History" "turns" "[I" ∈ pw_BW) (hdg : decode cc pc = .ok (.getfield idx, 3))
    (kk : W p l e R s m args below meth c H locs cells slots Q (F0 m (pc + 3) ls (.ref (pw_ad G 15) :: rest))) : W p l e R s m args below meth c H locs cells slots Q (F0 m pc ls (.ref (pw_ad G (1)) :: rest)) :=
  va_get (D := pw_gD G) (ci := 2) (C := RX2) (T := TX2) (N := 11) hC.1 hC.2.1 hC.2.2.2.2.1 pw_inX2 hC.2.2.2.1 hC.2.2.2.2.2.1.1 hw.1.1 (1) (pw_at (by decide)) rfl 5 (by decide) (hC.2.2.2.2.1 _ hl) (fun _ h => h) rfl hdg kk
theorem pg_1_6 (hC : pw_CX G own cc nL ret p s m args meth c) (hw : pw_WH G σ s.heap H locs) (hl : Cond.fieldLink own idx "PerhapsWas$History" "clocks" "[I" ∈ pw_BW) (hdg : decode cc pc = .ok (.getfield idx, 3))
    (kk : W p l e R s m args below meth c H locs cells slots Q (F0 m (pc + 3) ls (.ref (pw_ad G 16) :: rest))) : W p l e R s m args below meth c H locs cells slots Q (F0 m pc ls (.ref (pw_ad G (1)) :: rest)) :=
  va_get (D := pw_gD G) (ci := 2) (C := RX2) (T := TX2) (N := 11) hC.1 hC.2.1 hC.2.2.2.2.1 pw_inX2 hC.2.2.2.1 hC.2.2.2.2.2.1.1 hw.1.1 (1) (pw_at (by decide)) rfl 6 (by decide) (hC.2.2.2.2.1 _ hl) (fun _ h => h) rfl hdg kk
theorem pg_1_7 (hC : pw_CX G own cc nL ret p s m args meth c) (hw : pw_WH G σ s.heap H locs) (hl : Cond.fieldLink own idx "PerhapsWas$History" "values" "[I" ∈ pw_BW) (hdg : decode cc pc = .ok (.getfield idx, 3))
    (kk : W p l e R s m args below meth c H locs cells slots Q (F0 m (pc + 3) ls (.ref (pw_ad G 17) :: rest))) : W p l e R s m args below meth c H locs cells slots Q (F0 m pc ls (.ref (pw_ad G (1)) :: rest)) :=
  va_get (D := pw_gD G) (ci := 2) (C := RX2) (T := TX2) (N := 11) hC.1 hC.2.1 hC.2.2.2.2.1 pw_inX2 hC.2.2.2.1 hC.2.2.2.2.2.1.1 hw.1.1 (1) (pw_at (by decide)) rfl 7 (by decide) (hC.2.2.2.2.1 _ hl) (fun _ h => h) rfl hdg kk
theorem pg_1_8 (hC : pw_CX G own cc nL ret p s m args meth c) (hw : pw_WH G σ s.heap H locs) (hl : Cond.fieldLink own idx "PerhapsWas$History" "processes" "I" ∈ pw_BW) (hdg : decode cc pc = .ok (.getfield idx, 3))
    (kk : W p l e R s m args below meth c H locs cells slots Q (F0 m (pc + 3) ls (.int (σ.1 1 8) :: rest))) : W p l e R s m args below meth c H locs cells slots Q (F0 m pc ls (.ref (pw_ad G (1)) :: rest)) :=
  va_get (D := pw_gD G) (ci := 2) (C := RX2) (T := TX2) (N := 11) hC.1 hC.2.1 hC.2.2.2.2.1 pw_inX2 hC.2.2.2.1 hC.2.2.2.2.2.1.1 hw.1.1 (1) (pw_at (by decide)) rfl 8 (by decide) (hC.2.2.2.2.1 _ hl) (fun _ h => h) rfl hdg kk
theorem pp_1_8 {v : Int32} (hC : pw_CX G own cc nL ret p s m args meth c) (hw : pw_WH G σ s.heap H locs) (hl : Cond.fieldLink own idx "PerhapsWas$History" "processes" "I" ∈ pw_BW) (hdg : decode cc pc = .ok (.putfield idx, 3))
    (kk : ∀ (H1 : Heap) (locs1 : List Loc), pw_WH G (pw_sM σ (1) 8 v) s.heap H1 locs1 → W p l e R s m args below meth c H1 locs1 cells slots Q (F0 m (pc + 3) ls rest)) : W p l e R s m args below meth c H locs cells slots Q (F0 m pc ls (.int v :: .ref (pw_ad G (1)) :: rest)) := by
  refine va_put (D := pw_gD G) (ci := 2) (v := .int v) (ty := .int) (C := RX2) (T := TX2) (N := 11) hC.1 hC.2.1 hC.2.2.2.2.1 pw_inX2 tyX2 tyX2_ok nmX2 hC.2.2.2.1 hC.2.2.2.2.2.1.1 hw.1.1 hw.1.2 hw.2 (1) (pw_at (by decide)) rfl 8 (by decide) (hC.2.2.2.2.1 _ hl) (fun _ h => h) rfl (by decide +kernel) rfl rfl (Nat.le_of_ble_eq_true rfl) hdg (fun H1 locs1 h1 h2 h3 => ?_)
  have hq := pw_setM (G := G) (σ := σ) (k := 1) (j := 8) (v := v) (by decide)
  skip
  exact kk H1 locs1 ⟨⟨hq ▸ h1, hq ▸ h2⟩, h3⟩
theorem pg_1_9 (hC : pw_CX G own cc nL ret p s m args meth c) (hw : pw_WH G σ s.heap H locs) (hl : Cond.fieldLink own idx "PerhapsWas$History" "total" "I" ∈ pw_BW) (hdg : decode cc pc = .ok (.getfield idx, 3))
    (kk : W p l e R s m args below meth c H locs cells slots Q (F0 m (pc + 3) ls (.int (σ.1 1 9) :: rest))) : W p l e R s m args below meth c H locs cells slots Q (F0 m pc ls (.ref (pw_ad G (1)) :: rest)) :=
  va_get (D := pw_gD G) (ci := 2) (C := RX2) (T := TX2) (N := 11) hC.1 hC.2.1 hC.2.2.2.2.1 pw_inX2 hC.2.2.2.1 hC.2.2.2.2.2.1.1 hw.1.1 (1) (pw_at (by decide)) rfl 9 (by decide) (hC.2.2.2.2.1 _ hl) (fun _ h => h) rfl hdg kk
theorem pp_1_9 {v : Int32} (hC : pw_CX G own cc nL ret p s m args meth c) (hw : pw_WH G σ s.heap H locs) (hl : Cond.fieldLink own idx "PerhapsWas$History" "total" "I" ∈ pw_BW) (hdg : decode cc pc = .ok (.putfield idx, 3))
    (kk : ∀ (H1 : Heap) (locs1 : List Loc), pw_WH G (pw_sM σ (1) 9 v) s.heap H1 locs1 → W p l e R s m args below meth c H1 locs1 cells slots Q (F0 m (pc + 3) ls rest)) : W p l e R s m args below meth c H locs cells slots Q (F0 m pc ls (.int v :: .ref (pw_ad G (1)) :: rest)) := by
  refine va_put (D := pw_gD G) (ci := 2) (v := .int v) (ty := .int) (C := RX2) (T := TX2) (N := 11) hC.1 hC.2.1 hC.2.2.2.2.1 pw_inX2 tyX2 tyX2_ok nmX2 hC.2.2.2.1 hC.2.2.2.2.2.1.1 hw.1.1 hw.1.2 hw.2 (1) (pw_at (by decide)) rfl 9 (by decide) (hC.2.2.2.2.1 _ hl) (fun _ h => h) rfl (by decide +kernel) rfl rfl (Nat.le_of_ble_eq_true rfl) hdg (fun H1 locs1 h1 h2 h3 => ?_)
  have hq := pw_setM (G := G) (σ := σ) (k := 1) (j := 9) (v := v) (by decide)
  skip
  exact kk H1 locs1 ⟨⟨hq ▸ h1, hq ▸ h2⟩, h3⟩
theorem pg_1_10 (hC : pw_CX G own cc nL ret p s m args meth c) (hw : pw_WH G σ s.heap H locs) (hl : Cond.fieldLink own idx "PerhapsWas$History" "changes" "I" ∈ pw_BW) (hdg : decode cc pc = .ok (.getfield idx, 3))
    (kk : W p l e R s m args below meth c H locs cells slots Q (F0 m (pc + 3) ls (.int (σ.1 1 10) :: rest))) : W p l e R s m args below meth c H locs cells slots Q (F0 m pc ls (.ref (pw_ad G (1)) :: rest)) :=
  va_get (D := pw_gD G) (ci := 2) (C := RX2) (T := TX2) (N := 11) hC.1 hC.2.1 hC.2.2.2.2.1 pw_inX2 hC.2.2.2.1 hC.2.2.2.2.2.1.1 hw.1.1 (1) (pw_at (by decide)) rfl 10 (by decide) (hC.2.2.2.2.1 _ hl) (fun _ h => h) rfl hdg kk
theorem pp_1_10 {v : Int32} (hC : pw_CX G own cc nL ret p s m args meth c) (hw : pw_WH G σ s.heap H locs) (hl : Cond.fieldLink own idx "PerhapsWas$History" "changes" "I" ∈ pw_BW) (hdg : decode cc pc = .ok (.putfield idx, 3))
    (kk : ∀ (H1 : Heap) (locs1 : List Loc), pw_WH G (pw_sM σ (1) 10 v) s.heap H1 locs1 → W p l e R s m args below meth c H1 locs1 cells slots Q (F0 m (pc + 3) ls rest)) : W p l e R s m args below meth c H locs cells slots Q (F0 m pc ls (.int v :: .ref (pw_ad G (1)) :: rest)) := by
  refine va_put (D := pw_gD G) (ci := 2) (v := .int v) (ty := .int) (C := RX2) (T := TX2) (N := 11) hC.1 hC.2.1 hC.2.2.2.2.1 pw_inX2 tyX2 tyX2_ok nmX2 hC.2.2.2.1 hC.2.2.2.2.2.1.1 hw.1.1 hw.1.2 hw.2 (1) (pw_at (by decide)) rfl 10 (by decide) (hC.2.2.2.2.1 _ hl) (fun _ h => h) rfl (by decide +kernel) rfl rfl (Nat.le_of_ble_eq_true rfl) hdg (fun H1 locs1 h1 h2 h3 => ?_)
  have hq := pw_setM (G := G) (σ := σ) (k := 1) (j := 10) (v := v) (by decide)
  skip
  exact kk H1 locs1 ⟨⟨hq ▸ h1, hq ▸ h2⟩, h3⟩
theorem pg_2_0 (hC : pw_CX G own cc nL ret p s m args meth c) (hw : pw_WH G σ s.heap H locs) (hl : Cond.fieldLink own idx "PerhapsWas$Letters" "from" "[I" ∈ pw_BW) (hdg : decode cc pc = .ok (.getfield idx, 3))
    (kk : W p l e R s m args below meth c H locs cells slots Q (F0 m (pc + 3) ls (.ref (pw_ad G 18) :: rest))) : W p l e R s m args below meth c H locs cells slots Q (F0 m pc ls (.ref (pw_ad G (2)) :: rest)) :=
  va_get (D := pw_gD G) (ci := 3) (C := RX3) (T := TX3) (N := 5) hC.1 hC.2.1 hC.2.2.2.2.1 pw_inX3 hC.2.2.2.1 hC.2.2.2.2.2.1.1 hw.1.1 (2) (pw_at (by decide)) rfl 0 (by decide) (hC.2.2.2.2.1 _ hl) (fun _ h => h) rfl hdg kk
theorem pg_2_1 (hC : pw_CX G own cc nL ret p s m args meth c) (hw : pw_WH G σ s.heap H locs) (hl : Cond.fieldLink own idx "PerhapsWas$Letters" "to" "[I" ∈ pw_BW) (hdg : decode cc pc = .ok (.getfield idx, 3))
    (kk : W p l e R s m args below meth c H locs cells slots Q (F0 m (pc + 3) ls (.ref (pw_ad G 19) :: rest))) : W p l e R s m args below meth c H locs cells slots Q (F0 m pc ls (.ref (pw_ad G (2)) :: rest)) :=
  va_get (D := pw_gD G) (ci := 3) (C := RX3) (T := TX3) (N := 5) hC.1 hC.2.1 hC.2.2.2.2.1 pw_inX3 hC.2.2.2.1 hC.2.2.2.2.2.1.1 hw.1.1 (2) (pw_at (by decide)) rfl 1 (by decide) (hC.2.2.2.2.1 _ hl) (fun _ h => h) rfl hdg kk
theorem pg_2_2 (hC : pw_CX G own cc nL ret p s m args meth c) (hw : pw_WH G σ s.heap H locs) (hl : Cond.fieldLink own idx "PerhapsWas$Letters" "sent" "[I" ∈ pw_BW) (hdg : decode cc pc = .ok (.getfield idx, 3))
    (kk : W p l e R s m args below meth c H locs cells slots Q (F0 m (pc + 3) ls (.ref (pw_ad G 20) :: rest))) : W p l e R s m args below meth c H locs cells slots Q (F0 m pc ls (.ref (pw_ad G (2)) :: rest)) :=
  va_get (D := pw_gD G) (ci := 3) (C := RX3) (T := TX3) (N := 5) hC.1 hC.2.1 hC.2.2.2.2.1 pw_inX3 hC.2.2.2.1 hC.2.2.2.2.2.1.1 hw.1.1 (2) (pw_at (by decide)) rfl 2 (by decide) (hC.2.2.2.2.1 _ hl) (fun _ h => h) rfl hdg kk
theorem pg_2_3 (hC : pw_CX G own cc nL ret p s m args meth c) (hw : pw_WH G σ s.heap H locs) (hl : Cond.fieldLink own idx "PerhapsWas$Letters" "taken" "[I" ∈ pw_BW) (hdg : decode cc pc = .ok (.getfield idx, 3))
    (kk : W p l e R s m args below meth c H locs cells slots Q (F0 m (pc + 3) ls (.ref (pw_ad G 21) :: rest))) : W p l e R s m args below meth c H locs cells slots Q (F0 m pc ls (.ref (pw_ad G (2)) :: rest)) :=
  va_get (D := pw_gD G) (ci := 3) (C := RX3) (T := TX3) (N := 5) hC.1 hC.2.1 hC.2.2.2.2.1 pw_inX3 hC.2.2.2.1 hC.2.2.2.2.2.1.1 hw.1.1 (2) (pw_at (by decide)) rfl 3 (by decide) (hC.2.2.2.2.1 _ hl) (fun _ h => h) rfl hdg kk
theorem pg_2_4 (hC : pw_CX G own cc nL ret p s m args meth c) (hw : pw_WH G σ s.heap H locs) (hl : Cond.fieldLink own idx "PerhapsWas$Letters" "total" "I" ∈ pw_BW) (hdg : decode cc pc = .ok (.getfield idx, 3))
    (kk : W p l e R s m args below meth c H locs cells slots Q (F0 m (pc + 3) ls (.int (σ.1 2 4) :: rest))) : W p l e R s m args below meth c H locs cells slots Q (F0 m pc ls (.ref (pw_ad G (2)) :: rest)) :=
  va_get (D := pw_gD G) (ci := 3) (C := RX3) (T := TX3) (N := 5) hC.1 hC.2.1 hC.2.2.2.2.1 pw_inX3 hC.2.2.2.1 hC.2.2.2.2.2.1.1 hw.1.1 (2) (pw_at (by decide)) rfl 4 (by decide) (hC.2.2.2.2.1 _ hl) (fun _ h => h) rfl hdg kk
theorem pp_2_4 {v : Int32} (hC : pw_CX G own cc nL ret p s m args meth c) (hw : pw_WH G σ s.heap H locs) (hl : Cond.fieldLink own idx "PerhapsWas$Letters" "total" "I" ∈ pw_BW) (hdg : decode cc pc = .ok (.putfield idx, 3))
    (kk : ∀ (H1 : Heap) (locs1 : List Loc), pw_WH G (pw_sM σ (2) 4 v) s.heap H1 locs1 → W p l e R s m args below meth c H1 locs1 cells slots Q (F0 m (pc + 3) ls rest)) : W p l e R s m args below meth c H locs cells slots Q (F0 m pc ls (.int v :: .ref (pw_ad G (2)) :: rest)) := by
  refine va_put (D := pw_gD G) (ci := 3) (v := .int v) (ty := .int) (C := RX3) (T := TX3) (N := 5) hC.1 hC.2.1 hC.2.2.2.2.1 pw_inX3 tyX3 tyX3_ok nmX3 hC.2.2.2.1 hC.2.2.2.2.2.1.1 hw.1.1 hw.1.2 hw.2 (2) (pw_at (by decide)) rfl 4 (by decide) (hC.2.2.2.2.1 _ hl) (fun _ h => h) rfl (by decide +kernel) rfl rfl (Nat.le_of_ble_eq_true rfl) hdg (fun H1 locs1 h1 h2 h3 => ?_)
  have hq := pw_setM (G := G) (σ := σ) (k := 2) (j := 4) (v := v) (by decide)
  skip
  exact kk H1 locs1 ⟨⟨hq ▸ h1, hq ▸ h2⟩, h3⟩
theorem pg_3_0 (hC : pw_CX G own cc nL ret p s m args meth c) (hw : pw_WH G σ s.heap H locs) (hl : Cond.fieldLink own idx "PerhapsWas$Net" "history" "LPerhapsWas$History;" ∈ pw_BW) (hdg : decode cc pc = .ok (.getfield idx, 3))
    (kk : W p l e R s m args below meth c H locs cells slots Q (F0 m (pc + 3) ls (.ref (pw_ad G 1) :: rest))) : W p l e R s m args below meth c H locs cells slots Q (F0 m pc ls (.ref (pw_ad G (3)) :: rest)) :=
  va_get (D := pw_gD G) (ci := 6) (C := RX6) (T := TX6) (N := 8) hC.1 hC.2.1 hC.2.2.2.2.1 pw_inX6 hC.2.2.2.1 hC.2.2.2.2.2.1.1 hw.1.1 (3) (pw_at (by decide)) rfl 0 (by decide) (hC.2.2.2.2.1 _ hl) (fun _ h => h) rfl hdg kk
theorem pg_3_1 (hC : pw_CX G own cc nL ret p s m args meth c) (hw : pw_WH G σ s.heap H locs) (hl : Cond.fieldLink own idx "PerhapsWas$Net" "inOrder" "[I" ∈ pw_BW) (hdg : decode cc pc = .ok (.getfield idx, 3))
    (kk : W p l e R s m args below meth c H locs cells slots Q (F0 m (pc + 3) ls (.ref (pw_ad G 22) :: rest))) : W p l e R s m args below meth c H locs cells slots Q (F0 m pc ls (.ref (pw_ad G (3)) :: rest)) :=
  va_get (D := pw_gD G) (ci := 6) (C := RX6) (T := TX6) (N := 8) hC.1 hC.2.1 hC.2.2.2.2.1 pw_inX6 hC.2.2.2.1 hC.2.2.2.2.2.1.1 hw.1.1 (3) (pw_at (by decide)) rfl 1 (by decide) (hC.2.2.2.2.1 _ hl) (fun _ h => h) rfl hdg kk
theorem pg_3_2 (hC : pw_CX G own cc nL ret p s m args meth c) (hw : pw_WH G σ s.heap H locs) (hl : Cond.fieldLink own idx "PerhapsWas$Net" "allowed" "[Z" ∈ pw_BW) (hdg : decode cc pc = .ok (.getfield idx, 3))
    (kk : W p l e R s m args below meth c H locs cells slots Q (F0 m (pc + 3) ls (.ref (pw_ad G 23) :: rest))) : W p l e R s m args below meth c H locs cells slots Q (F0 m pc ls (.ref (pw_ad G (3)) :: rest)) :=
  va_get (D := pw_gD G) (ci := 6) (C := RX6) (T := TX6) (N := 8) hC.1 hC.2.1 hC.2.2.2.2.1 pw_inX6 hC.2.2.2.1 hC.2.2.2.2.2.1.1 hw.1.1 (3) (pw_at (by decide)) rfl 2 (by decide) (hC.2.2.2.2.1 _ hl) (fun _ h => h) rfl hdg kk
theorem pg_3_3 (hC : pw_CX G own cc nL ret p s m args meth c) (hw : pw_WH G σ s.heap H locs) (hl : Cond.fieldLink own idx "PerhapsWas$Net" "ends" "[I" ∈ pw_BW) (hdg : decode cc pc = .ok (.getfield idx, 3))
    (kk : W p l e R s m args below meth c H locs cells slots Q (F0 m (pc + 3) ls (.ref (pw_ad G 24) :: rest))) : W p l e R s m args below meth c H locs cells slots Q (F0 m pc ls (.ref (pw_ad G (3)) :: rest)) :=
  va_get (D := pw_gD G) (ci := 6) (C := RX6) (T := TX6) (N := 8) hC.1 hC.2.1 hC.2.2.2.2.1 pw_inX6 hC.2.2.2.1 hC.2.2.2.2.2.1.1 hw.1.1 (3) (pw_at (by decide)) rfl 3 (by decide) (hC.2.2.2.2.1 _ hl) (fun _ h => h) rfl hdg kk
theorem pg_3_4 (hC : pw_CX G own cc nL ret p s m args meth c) (hw : pw_WH G σ s.heap H locs) (hl : Cond.fieldLink own idx "PerhapsWas$Net" "counts" "[I" ∈ pw_BW) (hdg : decode cc pc = .ok (.getfield idx, 3))
    (kk : W p l e R s m args below meth c H locs cells slots Q (F0 m (pc + 3) ls (.ref (pw_ad G 25) :: rest))) : W p l e R s m args below meth c H locs cells slots Q (F0 m pc ls (.ref (pw_ad G (3)) :: rest)) :=
  va_get (D := pw_gD G) (ci := 6) (C := RX6) (T := TX6) (N := 8) hC.1 hC.2.1 hC.2.2.2.2.1 pw_inX6 hC.2.2.2.1 hC.2.2.2.2.2.1.1 hw.1.1 (3) (pw_at (by decide)) rfl 4 (by decide) (hC.2.2.2.2.1 _ hl) (fun _ h => h) rfl hdg kk
theorem pg_3_5 (hC : pw_CX G own cc nL ret p s m args meth c) (hw : pw_WH G σ s.heap H locs) (hl : Cond.fieldLink own idx "PerhapsWas$Net" "total" "I" ∈ pw_BW) (hdg : decode cc pc = .ok (.getfield idx, 3))
    (kk : W p l e R s m args below meth c H locs cells slots Q (F0 m (pc + 3) ls (.int (σ.1 3 5) :: rest))) : W p l e R s m args below meth c H locs cells slots Q (F0 m pc ls (.ref (pw_ad G (3)) :: rest)) :=
  va_get (D := pw_gD G) (ci := 6) (C := RX6) (T := TX6) (N := 8) hC.1 hC.2.1 hC.2.2.2.2.1 pw_inX6 hC.2.2.2.1 hC.2.2.2.2.2.1.1 hw.1.1 (3) (pw_at (by decide)) rfl 5 (by decide) (hC.2.2.2.2.1 _ hl) (fun _ h => h) rfl hdg kk
theorem pp_3_5 {v : Int32} (hC : pw_CX G own cc nL ret p s m args meth c) (hw : pw_WH G σ s.heap H locs) (hl : Cond.fieldLink own idx "PerhapsWas$Net" "total" "I" ∈ pw_BW) (hdg : decode cc pc = .ok (.putfield idx, 3))
    (kk : ∀ (H1 : Heap) (locs1 : List Loc), pw_WH G (pw_sM σ (3) 5 v) s.heap H1 locs1 → W p l e R s m args below meth c H1 locs1 cells slots Q (F0 m (pc + 3) ls rest)) : W p l e R s m args below meth c H locs cells slots Q (F0 m pc ls (.int v :: .ref (pw_ad G (3)) :: rest)) := by
  refine va_put (D := pw_gD G) (ci := 6) (v := .int v) (ty := .int) (C := RX6) (T := TX6) (N := 8) hC.1 hC.2.1 hC.2.2.2.2.1 pw_inX6 tyX6 tyX6_ok nmX6 hC.2.2.2.1 hC.2.2.2.2.2.1.1 hw.1.1 hw.1.2 hw.2 (3) (pw_at (by decide)) rfl 5 (by decide) (hC.2.2.2.2.1 _ hl) (fun _ h => h) rfl (by decide +kernel) rfl rfl (Nat.le_of_ble_eq_true rfl) hdg (fun H1 locs1 h1 h2 h3 => ?_)
  have hq := pw_setM (G := G) (σ := σ) (k := 3) (j := 5) (v := v) (by decide)
  skip
  exact kk H1 locs1 ⟨⟨hq ▸ h1, hq ▸ h2⟩, h3⟩
theorem pg_3_6 (hC : pw_CX G own cc nL ret p s m args meth c) (hw : pw_WH G σ s.heap H locs) (hl : Cond.fieldLink own idx "PerhapsWas$Net" "whole" "I" ∈ pw_BW) (hdg : decode cc pc = .ok (.getfield idx, 3))
    (kk : W p l e R s m args below meth c H locs cells slots Q (F0 m (pc + 3) ls (.int (σ.1 3 6) :: rest))) : W p l e R s m args below meth c H locs cells slots Q (F0 m pc ls (.ref (pw_ad G (3)) :: rest)) :=
  va_get (D := pw_gD G) (ci := 6) (C := RX6) (T := TX6) (N := 8) hC.1 hC.2.1 hC.2.2.2.2.1 pw_inX6 hC.2.2.2.1 hC.2.2.2.2.2.1.1 hw.1.1 (3) (pw_at (by decide)) rfl 6 (by decide) (hC.2.2.2.2.1 _ hl) (fun _ h => h) rfl hdg kk
theorem pp_3_6 {v : Int32} (hC : pw_CX G own cc nL ret p s m args meth c) (hw : pw_WH G σ s.heap H locs) (hl : Cond.fieldLink own idx "PerhapsWas$Net" "whole" "I" ∈ pw_BW) (hdg : decode cc pc = .ok (.putfield idx, 3))
    (kk : ∀ (H1 : Heap) (locs1 : List Loc), pw_WH G (pw_sM σ (3) 6 v) s.heap H1 locs1 → W p l e R s m args below meth c H1 locs1 cells slots Q (F0 m (pc + 3) ls rest)) : W p l e R s m args below meth c H locs cells slots Q (F0 m pc ls (.int v :: .ref (pw_ad G (3)) :: rest)) := by
  refine va_put (D := pw_gD G) (ci := 6) (v := .int v) (ty := .int) (C := RX6) (T := TX6) (N := 8) hC.1 hC.2.1 hC.2.2.2.2.1 pw_inX6 tyX6 tyX6_ok nmX6 hC.2.2.2.1 hC.2.2.2.2.2.1.1 hw.1.1 hw.1.2 hw.2 (3) (pw_at (by decide)) rfl 6 (by decide) (hC.2.2.2.2.1 _ hl) (fun _ h => h) rfl (by decide +kernel) rfl rfl (Nat.le_of_ble_eq_true rfl) hdg (fun H1 locs1 h1 h2 h3 => ?_)
  have hq := pw_setM (G := G) (σ := σ) (k := 3) (j := 6) (v := v) (by decide)
  skip
  exact kk H1 locs1 ⟨⟨hq ▸ h1, hq ▸ h2⟩, h3⟩
theorem pg_3_7 (hC : pw_CX G own cc nL ret p s m args meth c) (hw : pw_WH G σ s.heap H locs) (hl : Cond.fieldLink own idx "PerhapsWas$Net" "seenChanges" "I" ∈ pw_BW) (hdg : decode cc pc = .ok (.getfield idx, 3))
    (kk : W p l e R s m args below meth c H locs cells slots Q (F0 m (pc + 3) ls (.int (σ.1 3 7) :: rest))) : W p l e R s m args below meth c H locs cells slots Q (F0 m pc ls (.ref (pw_ad G (3)) :: rest)) :=
  va_get (D := pw_gD G) (ci := 6) (C := RX6) (T := TX6) (N := 8) hC.1 hC.2.1 hC.2.2.2.2.1 pw_inX6 hC.2.2.2.1 hC.2.2.2.2.2.1.1 hw.1.1 (3) (pw_at (by decide)) rfl 7 (by decide) (hC.2.2.2.2.1 _ hl) (fun _ h => h) rfl hdg kk
theorem pp_3_7 {v : Int32} (hC : pw_CX G own cc nL ret p s m args meth c) (hw : pw_WH G σ s.heap H locs) (hl : Cond.fieldLink own idx "PerhapsWas$Net" "seenChanges" "I" ∈ pw_BW) (hdg : decode cc pc = .ok (.putfield idx, 3))
    (kk : ∀ (H1 : Heap) (locs1 : List Loc), pw_WH G (pw_sM σ (3) 7 v) s.heap H1 locs1 → W p l e R s m args below meth c H1 locs1 cells slots Q (F0 m (pc + 3) ls rest)) : W p l e R s m args below meth c H locs cells slots Q (F0 m pc ls (.int v :: .ref (pw_ad G (3)) :: rest)) := by
  refine va_put (D := pw_gD G) (ci := 6) (v := .int v) (ty := .int) (C := RX6) (T := TX6) (N := 8) hC.1 hC.2.1 hC.2.2.2.2.1 pw_inX6 tyX6 tyX6_ok nmX6 hC.2.2.2.1 hC.2.2.2.2.2.1.1 hw.1.1 hw.1.2 hw.2 (3) (pw_at (by decide)) rfl 7 (by decide) (hC.2.2.2.2.1 _ hl) (fun _ h => h) rfl (by decide +kernel) rfl rfl (Nat.le_of_ble_eq_true rfl) hdg (fun H1 locs1 h1 h2 h3 => ?_)
  have hq := pw_setM (G := G) (σ := σ) (k := 3) (j := 7) (v := v) (by decide)
  skip
  exact kk H1 locs1 ⟨⟨hq ▸ h1, hq ▸ h2⟩, h3⟩
theorem pg_4_0 (hC : pw_CX G own cc nL ret p s m args meth c) (hw : pw_WH G σ s.heap H locs) (hl : Cond.fieldLink own idx "PerhapsWas$Pile" "formulas" "[LPerhapsWas$Formula;" ∈ pw_BW) (hdg : decode cc pc = .ok (.getfield idx, 3))
    (kk : W p l e R s m args below meth c H locs cells slots Q (F0 m (pc + 3) ls (.ref (pw_ad G 26) :: rest))) : W p l e R s m args below meth c H locs cells slots Q (F0 m pc ls (.ref (pw_ad G (4)) :: rest)) :=
  va_get (D := pw_gD G) (ci := 7) (C := RX7) (T := TX7) (N := 2) hC.1 hC.2.1 hC.2.2.2.2.1 pw_inX7 hC.2.2.2.1 hC.2.2.2.2.2.1.1 hw.1.1 (4) (pw_at (by decide)) rfl 0 (by decide) (hC.2.2.2.2.1 _ hl) (fun _ h => h) rfl hdg kk
theorem pg_4_1 (hC : pw_CX G own cc nL ret p s m args meth c) (hw : pw_WH G σ s.heap H locs) (hl : Cond.fieldLink own idx "PerhapsWas$Pile" "tops" "I" ∈ pw_BW) (hdg : decode cc pc = .ok (.getfield idx, 3))
    (kk : W p l e R s m args below meth c H locs cells slots Q (F0 m (pc + 3) ls (.int (σ.1 4 1) :: rest))) : W p l e R s m args below meth c H locs cells slots Q (F0 m pc ls (.ref (pw_ad G (4)) :: rest)) :=
  va_get (D := pw_gD G) (ci := 7) (C := RX7) (T := TX7) (N := 2) hC.1 hC.2.1 hC.2.2.2.2.1 pw_inX7 hC.2.2.2.1 hC.2.2.2.2.2.1.1 hw.1.1 (4) (pw_at (by decide)) rfl 1 (by decide) (hC.2.2.2.2.1 _ hl) (fun _ h => h) rfl hdg kk
theorem pp_4_1 {v : Int32} (hC : pw_CX G own cc nL ret p s m args meth c) (hw : pw_WH G σ s.heap H locs) (hl : Cond.fieldLink own idx "PerhapsWas$Pile" "tops" "I" ∈ pw_BW) (hdg : decode cc pc = .ok (.putfield idx, 3))
    (kk : ∀ (H1 : Heap) (locs1 : List Loc), pw_WH G (pw_sM σ (4) 1 v) s.heap H1 locs1 → W p l e R s m args below meth c H1 locs1 cells slots Q (F0 m (pc + 3) ls rest)) : W p l e R s m args below meth c H locs cells slots Q (F0 m pc ls (.int v :: .ref (pw_ad G (4)) :: rest)) := by
  refine va_put (D := pw_gD G) (ci := 7) (v := .int v) (ty := .int) (C := RX7) (T := TX7) (N := 2) hC.1 hC.2.1 hC.2.2.2.2.1 pw_inX7 tyX7 tyX7_ok nmX7 hC.2.2.2.1 hC.2.2.2.2.2.1.1 hw.1.1 hw.1.2 hw.2 (4) (pw_at (by decide)) rfl 1 (by decide) (hC.2.2.2.2.1 _ hl) (fun _ h => h) rfl (by decide +kernel) rfl rfl (Nat.le_of_ble_eq_true rfl) hdg (fun H1 locs1 h1 h2 h3 => ?_)
  have hq := pw_setM (G := G) (σ := σ) (k := 4) (j := 1) (v := v) (by decide)
  skip
  exact kk H1 locs1 ⟨⟨hq ▸ h1, hq ▸ h2⟩, h3⟩
theorem pg_5_0 (hC : pw_CX G own cc nL ret p s m args meth c) (hw : pw_WH G σ s.heap H locs) (hl : Cond.fieldLink own idx "PerhapsWas$Conditions" "formulas" "[LPerhapsWas$Formula;" ∈ pw_BW) (hdg : decode cc pc = .ok (.getfield idx, 3))
    (kk : W p l e R s m args below meth c H locs cells slots Q (F0 m (pc + 3) ls (.ref (pw_ad G 27) :: rest))) : W p l e R s m args below meth c H locs cells slots Q (F0 m pc ls (.ref (pw_ad G (5)) :: rest)) :=
  va_get (D := pw_gD G) (ci := 0) (C := RX0) (T := TX0) (N := 2) hC.1 hC.2.1 hC.2.2.2.2.1 pw_inX0 hC.2.2.2.1 hC.2.2.2.2.2.1.1 hw.1.1 (5) (pw_at (by decide)) rfl 0 (by decide) (hC.2.2.2.2.1 _ hl) (fun _ h => h) rfl hdg kk
theorem pg_5_1 (hC : pw_CX G own cc nL ret p s m args meth c) (hw : pw_WH G σ s.heap H locs) (hl : Cond.fieldLink own idx "PerhapsWas$Conditions" "total" "I" ∈ pw_BW) (hdg : decode cc pc = .ok (.getfield idx, 3))
    (kk : W p l e R s m args below meth c H locs cells slots Q (F0 m (pc + 3) ls (.int (σ.1 5 1) :: rest))) : W p l e R s m args below meth c H locs cells slots Q (F0 m pc ls (.ref (pw_ad G (5)) :: rest)) :=
  va_get (D := pw_gD G) (ci := 0) (C := RX0) (T := TX0) (N := 2) hC.1 hC.2.1 hC.2.2.2.2.1 pw_inX0 hC.2.2.2.1 hC.2.2.2.2.2.1.1 hw.1.1 (5) (pw_at (by decide)) rfl 1 (by decide) (hC.2.2.2.2.1 _ hl) (fun _ h => h) rfl hdg kk
theorem pp_5_1 {v : Int32} (hC : pw_CX G own cc nL ret p s m args meth c) (hw : pw_WH G σ s.heap H locs) (hl : Cond.fieldLink own idx "PerhapsWas$Conditions" "total" "I" ∈ pw_BW) (hdg : decode cc pc = .ok (.putfield idx, 3))
    (kk : ∀ (H1 : Heap) (locs1 : List Loc), pw_WH G (pw_sM σ (5) 1 v) s.heap H1 locs1 → W p l e R s m args below meth c H1 locs1 cells slots Q (F0 m (pc + 3) ls rest)) : W p l e R s m args below meth c H locs cells slots Q (F0 m pc ls (.int v :: .ref (pw_ad G (5)) :: rest)) := by
  refine va_put (D := pw_gD G) (ci := 0) (v := .int v) (ty := .int) (C := RX0) (T := TX0) (N := 2) hC.1 hC.2.1 hC.2.2.2.2.1 pw_inX0 tyX0 tyX0_ok nmX0 hC.2.2.2.1 hC.2.2.2.2.2.1.1 hw.1.1 hw.1.2 hw.2 (5) (pw_at (by decide)) rfl 1 (by decide) (hC.2.2.2.2.1 _ hl) (fun _ h => h) rfl (by decide +kernel) rfl rfl (Nat.le_of_ble_eq_true rfl) hdg (fun H1 locs1 h1 h2 h3 => ?_)
  have hq := pw_setM (G := G) (σ := σ) (k := 5) (j := 1) (v := v) (by decide)
  skip
  exact kk H1 locs1 ⟨⟨hq ▸ h1, hq ▸ h2⟩, h3⟩
theorem pg_6_0 (hC : pw_CX G own cc nL ret p s m args meth c) (hw : pw_WH G σ s.heap H locs) (hl : Cond.fieldLink own idx "PerhapsWas$Moment" "history" "LPerhapsWas$History;" ∈ pw_BW) (hdg : decode cc pc = .ok (.getfield idx, 3))
    (kk : W p l e R s m args below meth c H locs cells slots Q (F0 m (pc + 3) ls (.ref (pw_ad G 1) :: rest))) : W p l e R s m args below meth c H locs cells slots Q (F0 m pc ls (.ref (pw_ad G (6)) :: rest)) :=
  va_get (D := pw_gD G) (ci := 5) (C := RX5) (T := TX5) (N := 3) hC.1 hC.2.1 hC.2.2.2.2.1 pw_inX5 hC.2.2.2.1 hC.2.2.2.2.2.1.1 hw.1.1 (6) (pw_at (by decide)) rfl 0 (by decide) (hC.2.2.2.2.1 _ hl) (fun _ h => h) rfl hdg kk
theorem pg_6_1 (hC : pw_CX G own cc nL ret p s m args meth c) (hw : pw_WH G σ s.heap H locs) (hl : Cond.fieldLink own idx "PerhapsWas$Moment" "counts" "[I" ∈ pw_BW) (hdg : decode cc pc = .ok (.getfield idx, 3))
    (kk : W p l e R s m args below meth c H locs cells slots Q (F0 m (pc + 3) ls (.ref (pw_ad G 28) :: rest))) : W p l e R s m args below meth c H locs cells slots Q (F0 m pc ls (.ref (pw_ad G (6)) :: rest)) :=
  va_get (D := pw_gD G) (ci := 5) (C := RX5) (T := TX5) (N := 3) hC.1 hC.2.1 hC.2.2.2.2.1 pw_inX5 hC.2.2.2.1 hC.2.2.2.2.2.1.1 hw.1.1 (6) (pw_at (by decide)) rfl 1 (by decide) (hC.2.2.2.2.1 _ hl) (fun _ h => h) rfl hdg kk
theorem pg_6_2 (hC : pw_CX G own cc nL ret p s m args meth c) (hw : pw_WH G σ s.heap H locs) (hl : Cond.fieldLink own idx "PerhapsWas$Moment" "pile" "[I" ∈ pw_BW) (hdg : decode cc pc = .ok (.getfield idx, 3))
    (kk : W p l e R s m args below meth c H locs cells slots Q (F0 m (pc + 3) ls (.ref (pw_ad G 29) :: rest))) : W p l e R s m args below meth c H locs cells slots Q (F0 m pc ls (.ref (pw_ad G (6)) :: rest)) :=
  va_get (D := pw_gD G) (ci := 5) (C := RX5) (T := TX5) (N := 3) hC.1 hC.2.1 hC.2.2.2.2.1 pw_inX5 hC.2.2.2.1 hC.2.2.2.2.2.1.1 hw.1.1 (6) (pw_at (by decide)) rfl 2 (by decide) (hC.2.2.2.2.1 _ hl) (fun _ h => h) rfl hdg kk
theorem pg_7_0 (hC : pw_CX G own cc nL ret p s m args meth c) (hw : pw_WH G σ s.heap H locs) (hl : Cond.fieldLink own idx "PerhapsWas$Marks" "moment" "LPerhapsWas$Moment;" ∈ pw_BW) (hdg : decode cc pc = .ok (.getfield idx, 3))
    (kk : W p l e R s m args below meth c H locs cells slots Q (F0 m (pc + 3) ls (.ref (pw_ad G 6) :: rest))) : W p l e R s m args below meth c H locs cells slots Q (F0 m pc ls (.ref (pw_ad G (7)) :: rest)) :=
  va_get (D := pw_gD G) (ci := 4) (C := RX4) (T := TX4) (N := 3) hC.1 hC.2.1 hC.2.2.2.2.1 pw_inX4 hC.2.2.2.1 hC.2.2.2.2.2.1.1 hw.1.1 (7) (pw_at (by decide)) rfl 0 (by decide) (hC.2.2.2.2.1 _ hl) (fun _ h => h) rfl hdg kk
theorem pg_7_1 (hC : pw_CX G own cc nL ret p s m args meth c) (hw : pw_WH G σ s.heap H locs) (hl : Cond.fieldLink own idx "PerhapsWas$Marks" "holds" "[Z" ∈ pw_BW) (hdg : decode cc pc = .ok (.getfield idx, 3))
    (kk : W p l e R s m args below meth c H locs cells slots Q (F0 m (pc + 3) ls (.ref (pw_ad G 30) :: rest))) : W p l e R s m args below meth c H locs cells slots Q (F0 m pc ls (.ref (pw_ad G (7)) :: rest)) :=
  va_get (D := pw_gD G) (ci := 4) (C := RX4) (T := TX4) (N := 3) hC.1 hC.2.1 hC.2.2.2.2.1 pw_inX4 hC.2.2.2.1 hC.2.2.2.2.2.1.1 hw.1.1 (7) (pw_at (by decide)) rfl 1 (by decide) (hC.2.2.2.2.1 _ hl) (fun _ h => h) rfl hdg kk
theorem pg_7_2 (hC : pw_CX G own cc nL ret p s m args meth c) (hw : pw_WH G σ s.heap H locs) (hl : Cond.fieldLink own idx "PerhapsWas$Marks" "nearest" "[I" ∈ pw_BW) (hdg : decode cc pc = .ok (.getfield idx, 3))
    (kk : W p l e R s m args below meth c H locs cells slots Q (F0 m (pc + 3) ls (.ref (pw_ad G 31) :: rest))) : W p l e R s m args below meth c H locs cells slots Q (F0 m pc ls (.ref (pw_ad G (7)) :: rest)) :=
  va_get (D := pw_gD G) (ci := 4) (C := RX4) (T := TX4) (N := 3) hC.1 hC.2.1 hC.2.2.2.2.1 pw_inX4 hC.2.2.2.1 hC.2.2.2.2.2.1.1 hw.1.1 (7) (pw_at (by decide)) rfl 2 (by decide) (hC.2.2.2.2.1 _ hl) (fun _ h => h) rfl hdg kk
theorem pg_8_0 (hC : pw_CX G own cc nL ret p s m args meth c) (hw : pw_WH G σ s.heap H locs) (hl : Cond.fieldLink own idx "PerhapsWas$Ways" "onward" "[J" ∈ pw_BW) (hdg : decode cc pc = .ok (.getfield idx, 3))
    (kk : W p l e R s m args below meth c H locs cells slots Q (F0 m (pc + 3) ls (.ref (pw_ad G 32) :: rest))) : W p l e R s m args below meth c H locs cells slots Q (F0 m pc ls (.ref (pw_ad G (8)) :: rest)) :=
  va_get (D := pw_gD G) (ci := 9) (C := RX9) (T := TX9) (N := 1) hC.1 hC.2.1 hC.2.2.2.2.1 pw_inX9 hC.2.2.2.1 hC.2.2.2.2.2.1.1 hw.1.1 (8) (pw_at (by decide)) rfl 0 (by decide) (hC.2.2.2.2.1 _ hl) (fun _ h => h) rfl hdg kk
theorem pg_9_0 (hC : pw_CX G own cc nL ret p s m args meth c) (hw : pw_WH G σ s.heap H locs) (hl : Cond.fieldLink own idx "PerhapsWas$Row" "told" "[I" ∈ pw_BW) (hdg : decode cc pc = .ok (.getfield idx, 3))
    (kk : W p l e R s m args below meth c H locs cells slots Q (F0 m (pc + 3) ls (.ref (pw_ad G 33) :: rest))) : W p l e R s m args below meth c H locs cells slots Q (F0 m pc ls (.ref (pw_ad G (9)) :: rest)) :=
  va_get (D := pw_gD G) (ci := 8) (C := RX8) (T := TX8) (N := 2) hC.1 hC.2.1 hC.2.2.2.2.1 pw_inX8 hC.2.2.2.1 hC.2.2.2.2.2.1.1 hw.1.1 (9) (pw_at (by decide)) rfl 0 (by decide) (hC.2.2.2.2.1 _ hl) (fun _ h => h) rfl hdg kk
theorem pg_9_1 (hC : pw_CX G own cc nL ret p s m args meth c) (hw : pw_WH G σ s.heap H locs) (hl : Cond.fieldLink own idx "PerhapsWas$Row" "length" "I" ∈ pw_BW) (hdg : decode cc pc = .ok (.getfield idx, 3))
    (kk : W p l e R s m args below meth c H locs cells slots Q (F0 m (pc + 3) ls (.int (σ.1 9 1) :: rest))) : W p l e R s m args below meth c H locs cells slots Q (F0 m pc ls (.ref (pw_ad G (9)) :: rest)) :=
  va_get (D := pw_gD G) (ci := 8) (C := RX8) (T := TX8) (N := 2) hC.1 hC.2.1 hC.2.2.2.2.1 pw_inX8 hC.2.2.2.1 hC.2.2.2.2.2.1.1 hw.1.1 (9) (pw_at (by decide)) rfl 1 (by decide) (hC.2.2.2.2.1 _ hl) (fun _ h => h) rfl hdg kk
theorem pp_9_1 {v : Int32} (hC : pw_CX G own cc nL ret p s m args meth c) (hw : pw_WH G σ s.heap H locs) (hl : Cond.fieldLink own idx "PerhapsWas$Row" "length" "I" ∈ pw_BW) (hdg : decode cc pc = .ok (.putfield idx, 3))
    (kk : ∀ (H1 : Heap) (locs1 : List Loc), pw_WH G (pw_sM σ (9) 1 v) s.heap H1 locs1 → W p l e R s m args below meth c H1 locs1 cells slots Q (F0 m (pc + 3) ls rest)) : W p l e R s m args below meth c H locs cells slots Q (F0 m pc ls (.int v :: .ref (pw_ad G (9)) :: rest)) := by
  refine va_put (D := pw_gD G) (ci := 8) (v := .int v) (ty := .int) (C := RX8) (T := TX8) (N := 2) hC.1 hC.2.1 hC.2.2.2.2.1 pw_inX8 tyX8 tyX8_ok nmX8 hC.2.2.2.1 hC.2.2.2.2.2.1.1 hw.1.1 hw.1.2 hw.2 (9) (pw_at (by decide)) rfl 1 (by decide) (hC.2.2.2.2.1 _ hl) (fun _ h => h) rfl (by decide +kernel) rfl rfl (Nat.le_of_ble_eq_true rfl) hdg (fun H1 locs1 h1 h2 h3 => ?_)
  have hq := pw_setM (G := G) (σ := σ) (k := 9) (j := 1) (v := v) (by decide)
  skip
  exact kk H1 locs1 ⟨⟨hq ▸ h1, hq ▸ h2⟩, h3⟩
theorem pg_10_0 (hC : pw_CX G own cc nL ret p s m args meth c) (hw : pw_WH G σ s.heap H locs) (hl : Cond.fieldLink own idx "PerhapsWasModel" "thrown" "I" ∈ pw_BW) (hdg : decode cc pc = .ok (.getfield idx, 3))
    (kk : W p l e R s m args below meth c H locs cells slots Q (F0 m (pc + 3) ls (.int (σ.1 10 0) :: rest))) : W p l e R s m args below meth c H locs cells slots Q (F0 m pc ls (.ref (pw_ad G (10)) :: rest)) :=
  va_get (D := pw_gD G) (ci := 11) (C := RX11) (T := TX11) (N := 28) hC.1 hC.2.1 hC.2.2.2.2.1 pw_inX11 hC.2.2.2.1 hC.2.2.2.2.2.1.1 hw.1.1 (10) (pw_at (by decide)) rfl 0 (by decide) (hC.2.2.2.2.1 _ hl) (fun _ h => h) rfl hdg kk
theorem pp_10_0 {v : Int32} (hC : pw_CX G own cc nL ret p s m args meth c) (hw : pw_WH G σ s.heap H locs) (hl : Cond.fieldLink own idx "PerhapsWasModel" "thrown" "I" ∈ pw_BW) (hdg : decode cc pc = .ok (.putfield idx, 3))
    (kk : ∀ (H1 : Heap) (locs1 : List Loc), pw_WH G (pw_sM σ (10) 0 v) s.heap H1 locs1 → W p l e R s m args below meth c H1 locs1 cells slots Q (F0 m (pc + 3) ls rest)) : W p l e R s m args below meth c H locs cells slots Q (F0 m pc ls (.int v :: .ref (pw_ad G (10)) :: rest)) := by
  refine va_put (D := pw_gD G) (ci := 11) (v := .int v) (ty := .int) (C := RX11) (T := TX11) (N := 28) hC.1 hC.2.1 hC.2.2.2.2.1 pw_inX11 tyX11 tyX11_ok nmX11 hC.2.2.2.1 hC.2.2.2.2.2.1.1 hw.1.1 hw.1.2 hw.2 (10) (pw_at (by decide)) rfl 0 (by decide) (hC.2.2.2.2.1 _ hl) (fun _ h => h) rfl (by decide +kernel) rfl rfl (Nat.le_of_ble_eq_true rfl) hdg (fun H1 locs1 h1 h2 h3 => ?_)
  have hq := pw_setM (G := G) (σ := σ) (k := 10) (j := 0) (v := v) (by decide)
  skip
  exact kk H1 locs1 ⟨⟨hq ▸ h1, hq ▸ h2⟩, h3⟩
theorem pg_10_1 (hC : pw_CX G own cc nL ret p s m args meth c) (hw : pw_WH G σ s.heap H locs) (hl : Cond.fieldLink own idx "PerhapsWasModel" "processes" "I" ∈ pw_BW) (hdg : decode cc pc = .ok (.getfield idx, 3))
    (kk : W p l e R s m args below meth c H locs cells slots Q (F0 m (pc + 3) ls (.int (σ.1 10 1) :: rest))) : W p l e R s m args below meth c H locs cells slots Q (F0 m pc ls (.ref (pw_ad G (10)) :: rest)) :=
  va_get (D := pw_gD G) (ci := 11) (C := RX11) (T := TX11) (N := 28) hC.1 hC.2.1 hC.2.2.2.2.1 pw_inX11 hC.2.2.2.1 hC.2.2.2.2.2.1.1 hw.1.1 (10) (pw_at (by decide)) rfl 1 (by decide) (hC.2.2.2.2.1 _ hl) (fun _ h => h) rfl hdg kk
theorem pp_10_1 {v : Int32} (hC : pw_CX G own cc nL ret p s m args meth c) (hw : pw_WH G σ s.heap H locs) (hl : Cond.fieldLink own idx "PerhapsWasModel" "processes" "I" ∈ pw_BW) (hdg : decode cc pc = .ok (.putfield idx, 3))
    (kk : ∀ (H1 : Heap) (locs1 : List Loc), pw_WH G (pw_sM σ (10) 1 v) s.heap H1 locs1 → W p l e R s m args below meth c H1 locs1 cells slots Q (F0 m (pc + 3) ls rest)) : W p l e R s m args below meth c H locs cells slots Q (F0 m pc ls (.int v :: .ref (pw_ad G (10)) :: rest)) := by
  refine va_put (D := pw_gD G) (ci := 11) (v := .int v) (ty := .int) (C := RX11) (T := TX11) (N := 28) hC.1 hC.2.1 hC.2.2.2.2.1 pw_inX11 tyX11 tyX11_ok nmX11 hC.2.2.2.1 hC.2.2.2.2.2.1.1 hw.1.1 hw.1.2 hw.2 (10) (pw_at (by decide)) rfl 1 (by decide) (hC.2.2.2.2.1 _ hl) (fun _ h => h) rfl (by decide +kernel) rfl rfl (Nat.le_of_ble_eq_true rfl) hdg (fun H1 locs1 h1 h2 h3 => ?_)
  have hq := pw_setM (G := G) (σ := σ) (k := 10) (j := 1) (v := v) (by decide)
  skip
  exact kk H1 locs1 ⟨⟨hq ▸ h1, hq ▸ h2⟩, h3⟩
theorem pg_10_2 (hC : pw_CX G own cc nL ret p s m args meth c) (hw : pw_WH G σ s.heap H locs) (hl : Cond.fieldLink own idx "PerhapsWasModel" "events" "[I" ∈ pw_BW) (hdg : decode cc pc = .ok (.getfield idx, 3))
    (kk : W p l e R s m args below meth c H locs cells slots Q (F0 m (pc + 3) ls (.ref (pw_ad G 34) :: rest))) : W p l e R s m args below meth c H locs cells slots Q (F0 m pc ls (.ref (pw_ad G (10)) :: rest)) :=
  va_get (D := pw_gD G) (ci := 11) (C := RX11) (T := TX11) (N := 28) hC.1 hC.2.1 hC.2.2.2.2.1 pw_inX11 hC.2.2.2.1 hC.2.2.2.2.2.1.1 hw.1.1 (10) (pw_at (by decide)) rfl 2 (by decide) (hC.2.2.2.2.1 _ hl) (fun _ h => h) rfl hdg kk
theorem pg_10_3 (hC : pw_CX G own cc nL ret p s m args meth c) (hw : pw_WH G σ s.heap H locs) (hl : Cond.fieldLink own idx "PerhapsWasModel" "kind" "[I" ∈ pw_BW) (hdg : decode cc pc = .ok (.getfield idx, 3))
    (kk : W p l e R s m args below meth c H locs cells slots Q (F0 m (pc + 3) ls (.ref (pw_ad G 35) :: rest))) : W p l e R s m args below meth c H locs cells slots Q (F0 m pc ls (.ref (pw_ad G (10)) :: rest)) :=
  va_get (D := pw_gD G) (ci := 11) (C := RX11) (T := TX11) (N := 28) hC.1 hC.2.1 hC.2.2.2.2.1 pw_inX11 hC.2.2.2.1 hC.2.2.2.2.2.1.1 hw.1.1 (10) (pw_at (by decide)) rfl 3 (by decide) (hC.2.2.2.2.1 _ hl) (fun _ h => h) rfl hdg kk
theorem pg_10_4 (hC : pw_CX G own cc nL ret p s m args meth c) (hw : pw_WH G σ s.heap H locs) (hl : Cond.fieldLink own idx "PerhapsWasModel" "about" "[I" ∈ pw_BW) (hdg : decode cc pc = .ok (.getfield idx, 3))
    (kk : W p l e R s m args below meth c H locs cells slots Q (F0 m (pc + 3) ls (.ref (pw_ad G 36) :: rest))) : W p l e R s m args below meth c H locs cells slots Q (F0 m pc ls (.ref (pw_ad G (10)) :: rest)) :=
  va_get (D := pw_gD G) (ci := 11) (C := RX11) (T := TX11) (N := 28) hC.1 hC.2.1 hC.2.2.2.2.1 pw_inX11 hC.2.2.2.1 hC.2.2.2.2.2.1.1 hw.1.1 (10) (pw_at (by decide)) rfl 4 (by decide) (hC.2.2.2.2.1 _ hl) (fun _ h => h) rfl hdg kk
theorem pg_10_5 (hC : pw_CX G own cc nL ret p s m args meth c) (hw : pw_WH G σ s.heap H locs) (hl : Cond.fieldLink own idx "PerhapsWasModel" "worth" "[I" ∈ pw_BW) (hdg : decode cc pc = .ok (.getfield idx, 3))
    (kk : W p l e R s m args below meth c H locs cells slots Q (F0 m (pc + 3) ls (.ref (pw_ad G 37) :: rest))) : W p l e R s m args below meth c H locs cells slots Q (F0 m pc ls (.ref (pw_ad G (10)) :: rest)) :=
  va_get (D := pw_gD G) (ci := 11) (C := RX11) (T := TX11) (N := 28) hC.1 hC.2.1 hC.2.2.2.2.1 pw_inX11 hC.2.2.2.1 hC.2.2.2.2.2.1.1 hw.1.1 (10) (pw_at (by decide)) rfl 5 (by decide) (hC.2.2.2.2.1 _ hl) (fun _ h => h) rfl hdg kk
theorem pg_10_6 (hC : pw_CX G own cc nL ret p s m args meth c) (hw : pw_WH G σ s.heap H locs) (hl : Cond.fieldLink own idx "PerhapsWasModel" "came" "[I" ∈ pw_BW) (hdg : decode cc pc = .ok (.getfield idx, 3))
    (kk : W p l e R s m args below meth c H locs cells slots Q (F0 m (pc + 3) ls (.ref (pw_ad G 38) :: rest))) : W p l e R s m args below meth c H locs cells slots Q (F0 m pc ls (.ref (pw_ad G (10)) :: rest)) :=
  va_get (D := pw_gD G) (ci := 11) (C := RX11) (T := TX11) (N := 28) hC.1 hC.2.1 hC.2.2.2.2.1 pw_inX11 hC.2.2.2.1 hC.2.2.2.2.2.1.1 hw.1.1 (10) (pw_at (by decide)) rfl 6 (by decide) (hC.2.2.2.2.1 _ hl) (fun _ h => h) rfl hdg kk
theorem pg_10_7 (hC : pw_CX G own cc nL ret p s m args meth c) (hw : pw_WH G σ s.heap H locs) (hl : Cond.fieldLink own idx "PerhapsWasModel" "clock" "[I" ∈ pw_BW) (hdg : decode cc pc = .ok (.getfield idx, 3))
    (kk : W p l e R s m args below meth c H locs cells slots Q (F0 m (pc + 3) ls (.ref (pw_ad G 39) :: rest))) : W p l e R s m args below meth c H locs cells slots Q (F0 m pc ls (.ref (pw_ad G (10)) :: rest)) :=
  va_get (D := pw_gD G) (ci := 11) (C := RX11) (T := TX11) (N := 28) hC.1 hC.2.1 hC.2.2.2.2.1 pw_inX11 hC.2.2.2.1 hC.2.2.2.2.2.1.1 hw.1.1 (10) (pw_at (by decide)) rfl 7 (by decide) (hC.2.2.2.2.1 _ hl) (fun _ h => h) rfl hdg kk
theorem pg_10_8 (hC : pw_CX G own cc nL ret p s m args meth c) (hw : pw_WH G σ s.heap H locs) (hl : Cond.fieldLink own idx "PerhapsWasModel" "all" "I" ∈ pw_BW) (hdg : decode cc pc = .ok (.getfield idx, 3))
    (kk : W p l e R s m args below meth c H locs cells slots Q (F0 m (pc + 3) ls (.int (σ.1 10 8) :: rest))) : W p l e R s m args below meth c H locs cells slots Q (F0 m pc ls (.ref (pw_ad G (10)) :: rest)) :=
  va_get (D := pw_gD G) (ci := 11) (C := RX11) (T := TX11) (N := 28) hC.1 hC.2.1 hC.2.2.2.2.1 pw_inX11 hC.2.2.2.1 hC.2.2.2.2.2.1.1 hw.1.1 (10) (pw_at (by decide)) rfl 8 (by decide) (hC.2.2.2.2.1 _ hl) (fun _ h => h) rfl hdg kk
theorem pp_10_8 {v : Int32} (hC : pw_CX G own cc nL ret p s m args meth c) (hw : pw_WH G σ s.heap H locs) (hl : Cond.fieldLink own idx "PerhapsWasModel" "all" "I" ∈ pw_BW) (hdg : decode cc pc = .ok (.putfield idx, 3))
    (kk : ∀ (H1 : Heap) (locs1 : List Loc), pw_WH G (pw_sM σ (10) 8 v) s.heap H1 locs1 → W p l e R s m args below meth c H1 locs1 cells slots Q (F0 m (pc + 3) ls rest)) : W p l e R s m args below meth c H locs cells slots Q (F0 m pc ls (.int v :: .ref (pw_ad G (10)) :: rest)) := by
  refine va_put (D := pw_gD G) (ci := 11) (v := .int v) (ty := .int) (C := RX11) (T := TX11) (N := 28) hC.1 hC.2.1 hC.2.2.2.2.1 pw_inX11 tyX11 tyX11_ok nmX11 hC.2.2.2.1 hC.2.2.2.2.2.1.1 hw.1.1 hw.1.2 hw.2 (10) (pw_at (by decide)) rfl 8 (by decide) (hC.2.2.2.2.1 _ hl) (fun _ h => h) rfl (by decide +kernel) rfl rfl (Nat.le_of_ble_eq_true rfl) hdg (fun H1 locs1 h1 h2 h3 => ?_)
  have hq := pw_setM (G := G) (σ := σ) (k := 10) (j := 8) (v := v) (by decide)
  skip
  exact kk H1 locs1 ⟨⟨hq ▸ h1, hq ▸ h2⟩, h3⟩
theorem pg_10_9 (hC : pw_CX G own cc nL ret p s m args meth c) (hw : pw_WH G σ s.heap H locs) (hl : Cond.fieldLink own idx "PerhapsWasModel" "letters" "I" ∈ pw_BW) (hdg : decode cc pc = .ok (.getfield idx, 3))
    (kk : W p l e R s m args below meth c H locs cells slots Q (F0 m (pc + 3) ls (.int (σ.1 10 9) :: rest))) : W p l e R s m args below meth c H locs cells slots Q (F0 m pc ls (.ref (pw_ad G (10)) :: rest)) :=
  va_get (D := pw_gD G) (ci := 11) (C := RX11) (T := TX11) (N := 28) hC.1 hC.2.1 hC.2.2.2.2.1 pw_inX11 hC.2.2.2.1 hC.2.2.2.2.2.1.1 hw.1.1 (10) (pw_at (by decide)) rfl 9 (by decide) (hC.2.2.2.2.1 _ hl) (fun _ h => h) rfl hdg kk
theorem pp_10_9 {v : Int32} (hC : pw_CX G own cc nL ret p s m args meth c) (hw : pw_WH G σ s.heap H locs) (hl : Cond.fieldLink own idx "PerhapsWasModel" "letters" "I" ∈ pw_BW) (hdg : decode cc pc = .ok (.putfield idx, 3))
    (kk : ∀ (H1 : Heap) (locs1 : List Loc), pw_WH G (pw_sM σ (10) 9 v) s.heap H1 locs1 → W p l e R s m args below meth c H1 locs1 cells slots Q (F0 m (pc + 3) ls rest)) : W p l e R s m args below meth c H locs cells slots Q (F0 m pc ls (.int v :: .ref (pw_ad G (10)) :: rest)) := by
  refine va_put (D := pw_gD G) (ci := 11) (v := .int v) (ty := .int) (C := RX11) (T := TX11) (N := 28) hC.1 hC.2.1 hC.2.2.2.2.1 pw_inX11 tyX11 tyX11_ok nmX11 hC.2.2.2.1 hC.2.2.2.2.2.1.1 hw.1.1 hw.1.2 hw.2 (10) (pw_at (by decide)) rfl 9 (by decide) (hC.2.2.2.2.1 _ hl) (fun _ h => h) rfl (by decide +kernel) rfl rfl (Nat.le_of_ble_eq_true rfl) hdg (fun H1 locs1 h1 h2 h3 => ?_)
  have hq := pw_setM (G := G) (σ := σ) (k := 10) (j := 9) (v := v) (by decide)
  skip
  exact kk H1 locs1 ⟨⟨hq ▸ h1, hq ▸ h2⟩, h3⟩
theorem pg_10_10 (hC : pw_CX G own cc nL ret p s m args meth c) (hw : pw_WH G σ s.heap H locs) (hl : Cond.fieldLink own idx "PerhapsWasModel" "from" "[I" ∈ pw_BW) (hdg : decode cc pc = .ok (.getfield idx, 3))
    (kk : W p l e R s m args below meth c H locs cells slots Q (F0 m (pc + 3) ls (.ref (pw_ad G 40) :: rest))) : W p l e R s m args below meth c H locs cells slots Q (F0 m pc ls (.ref (pw_ad G (10)) :: rest)) :=
  va_get (D := pw_gD G) (ci := 11) (C := RX11) (T := TX11) (N := 28) hC.1 hC.2.1 hC.2.2.2.2.1 pw_inX11 hC.2.2.2.1 hC.2.2.2.2.2.1.1 hw.1.1 (10) (pw_at (by decide)) rfl 10 (by decide) (hC.2.2.2.2.1 _ hl) (fun _ h => h) rfl hdg kk
theorem pg_10_11 (hC : pw_CX G own cc nL ret p s m args meth c) (hw : pw_WH G σ s.heap H locs) (hl : Cond.fieldLink own idx "PerhapsWasModel" "to" "[I" ∈ pw_BW) (hdg : decode cc pc = .ok (.getfield idx, 3))
    (kk : W p l e R s m args below meth c H locs cells slots Q (F0 m (pc + 3) ls (.ref (pw_ad G 41) :: rest))) : W p l e R s m args below meth c H locs cells slots Q (F0 m pc ls (.ref (pw_ad G (10)) :: rest)) :=
  va_get (D := pw_gD G) (ci := 11) (C := RX11) (T := TX11) (N := 28) hC.1 hC.2.1 hC.2.2.2.2.1 pw_inX11 hC.2.2.2.1 hC.2.2.2.2.2.1.1 hw.1.1 (10) (pw_at (by decide)) rfl 11 (by decide) (hC.2.2.2.2.1 _ hl) (fun _ h => h) rfl hdg kk
theorem pg_10_12 (hC : pw_CX G own cc nL ret p s m args meth c) (hw : pw_WH G σ s.heap H locs) (hl : Cond.fieldLink own idx "PerhapsWasModel" "sent" "[I" ∈ pw_BW) (hdg : decode cc pc = .ok (.getfield idx, 3))
    (kk : W p l e R s m args below meth c H locs cells slots Q (F0 m (pc + 3) ls (.ref (pw_ad G 42) :: rest))) : W p l e R s m args below meth c H locs cells slots Q (F0 m pc ls (.ref (pw_ad G (10)) :: rest)) :=
  va_get (D := pw_gD G) (ci := 11) (C := RX11) (T := TX11) (N := 28) hC.1 hC.2.1 hC.2.2.2.2.1 pw_inX11 hC.2.2.2.1 hC.2.2.2.2.2.1.1 hw.1.1 (10) (pw_at (by decide)) rfl 12 (by decide) (hC.2.2.2.2.1 _ hl) (fun _ h => h) rfl hdg kk
theorem pg_10_13 (hC : pw_CX G own cc nL ret p s m args meth c) (hw : pw_WH G σ s.heap H locs) (hl : Cond.fieldLink own idx "PerhapsWasModel" "took" "[I" ∈ pw_BW) (hdg : decode cc pc = .ok (.getfield idx, 3))
    (kk : W p l e R s m args below meth c H locs cells slots Q (F0 m (pc + 3) ls (.ref (pw_ad G 43) :: rest))) : W p l e R s m args below meth c H locs cells slots Q (F0 m pc ls (.ref (pw_ad G (10)) :: rest)) :=
  va_get (D := pw_gD G) (ci := 11) (C := RX11) (T := TX11) (N := 28) hC.1 hC.2.1 hC.2.2.2.2.1 pw_inX11 hC.2.2.2.1 hC.2.2.2.2.2.1.1 hw.1.1 (10) (pw_at (by decide)) rfl 13 (by decide) (hC.2.2.2.2.1 _ hl) (fun _ h => h) rfl hdg kk
theorem pg_10_14 (hC : pw_CX G own cc nL ret p s m args meth c) (hw : pw_WH G σ s.heap H locs) (hl : Cond.fieldLink own idx "PerhapsWasModel" "barred" "[Z" ∈ pw_BW) (hdg : decode cc pc = .ok (.getfield idx, 3))
    (kk : W p l e R s m args below meth c H locs cells slots Q (F0 m (pc + 3) ls (.ref (pw_ad G 44) :: rest))) : W p l e R s m args below meth c H locs cells slots Q (F0 m pc ls (.ref (pw_ad G (10)) :: rest)) :=
  va_get (D := pw_gD G) (ci := 11) (C := RX11) (T := TX11) (N := 28) hC.1 hC.2.1 hC.2.2.2.2.1 pw_inX11 hC.2.2.2.1 hC.2.2.2.2.2.1.1 hw.1.1 (10) (pw_at (by decide)) rfl 14 (by decide) (hC.2.2.2.2.1 _ hl) (fun _ h => h) rfl hdg kk
theorem pg_10_15 (hC : pw_CX G own cc nL ret p s m args meth c) (hw : pw_WH G σ s.heap H locs) (hl : Cond.fieldLink own idx "PerhapsWasModel" "ways" "[J" ∈ pw_BW) (hdg : decode cc pc = .ok (.getfield idx, 3))
    (kk : W p l e R s m args below meth c H locs cells slots Q (F0 m (pc + 3) ls (.ref (pw_ad G 45) :: rest))) : W p l e R s m args below meth c H locs cells slots Q (F0 m pc ls (.ref (pw_ad G (10)) :: rest)) :=
  va_get (D := pw_gD G) (ci := 11) (C := RX11) (T := TX11) (N := 28) hC.1 hC.2.1 hC.2.2.2.2.1 pw_inX11 hC.2.2.2.1 hC.2.2.2.2.2.1.1 hw.1.1 (10) (pw_at (by decide)) rfl 15 (by decide) (hC.2.2.2.2.1 _ hl) (fun _ h => h) rfl hdg kk
theorem pg_10_16 (hC : pw_CX G own cc nL ret p s m args meth c) (hw : pw_WH G σ s.heap H locs) (hl : Cond.fieldLink own idx "PerhapsWasModel" "what" "[I" ∈ pw_BW) (hdg : decode cc pc = .ok (.getfield idx, 3))
    (kk : W p l e R s m args below meth c H locs cells slots Q (F0 m (pc + 3) ls (.ref (pw_ad G 46) :: rest))) : W p l e R s m args below meth c H locs cells slots Q (F0 m pc ls (.ref (pw_ad G (10)) :: rest)) :=
  va_get (D := pw_gD G) (ci := 11) (C := RX11) (T := TX11) (N := 28) hC.1 hC.2.1 hC.2.2.2.2.1 pw_inX11 hC.2.2.2.1 hC.2.2.2.2.2.1.1 hw.1.1 (10) (pw_at (by decide)) rfl 16 (by decide) (hC.2.2.2.2.1 _ hl) (fun _ h => h) rfl hdg kk
theorem pg_10_17 (hC : pw_CX G own cc nL ret p s m args meth c) (hw : pw_WH G σ s.heap H locs) (hl : Cond.fieldLink own idx "PerhapsWasModel" "partA" "[I" ∈ pw_BW) (hdg : decode cc pc = .ok (.getfield idx, 3))
    (kk : W p l e R s m args below meth c H locs cells slots Q (F0 m (pc + 3) ls (.ref (pw_ad G 47) :: rest))) : W p l e R s m args below meth c H locs cells slots Q (F0 m pc ls (.ref (pw_ad G (10)) :: rest)) :=
  va_get (D := pw_gD G) (ci := 11) (C := RX11) (T := TX11) (N := 28) hC.1 hC.2.1 hC.2.2.2.2.1 pw_inX11 hC.2.2.2.1 hC.2.2.2.2.2.1.1 hw.1.1 (10) (pw_at (by decide)) rfl 17 (by decide) (hC.2.2.2.2.1 _ hl) (fun _ h => h) rfl hdg kk
theorem pg_10_18 (hC : pw_CX G own cc nL ret p s m args meth c) (hw : pw_WH G σ s.heap H locs) (hl : Cond.fieldLink own idx "PerhapsWasModel" "partB" "[I" ∈ pw_BW) (hdg : decode cc pc = .ok (.getfield idx, 3))
    (kk : W p l e R s m args below meth c H locs cells slots Q (F0 m (pc + 3) ls (.ref (pw_ad G 48) :: rest))) : W p l e R s m args below meth c H locs cells slots Q (F0 m pc ls (.ref (pw_ad G (10)) :: rest)) :=
  va_get (D := pw_gD G) (ci := 11) (C := RX11) (T := TX11) (N := 28) hC.1 hC.2.1 hC.2.2.2.2.1 pw_inX11 hC.2.2.2.1 hC.2.2.2.2.2.1.1 hw.1.1 (10) (pw_at (by decide)) rfl 18 (by decide) (hC.2.2.2.2.1 _ hl) (fun _ h => h) rfl hdg kk
theorem pg_10_19 (hC : pw_CX G own cc nL ret p s m args meth c) (hw : pw_WH G σ s.heap H locs) (hl : Cond.fieldLink own idx "PerhapsWasModel" "parts" "[I" ∈ pw_BW) (hdg : decode cc pc = .ok (.getfield idx, 3))
    (kk : W p l e R s m args below meth c H locs cells slots Q (F0 m (pc + 3) ls (.ref (pw_ad G 49) :: rest))) : W p l e R s m args below meth c H locs cells slots Q (F0 m pc ls (.ref (pw_ad G (10)) :: rest)) :=
  va_get (D := pw_gD G) (ci := 11) (C := RX11) (T := TX11) (N := 28) hC.1 hC.2.1 hC.2.2.2.2.1 pw_inX11 hC.2.2.2.1 hC.2.2.2.2.2.1.1 hw.1.1 (10) (pw_at (by decide)) rfl 19 (by decide) (hC.2.2.2.2.1 _ hl) (fun _ h => h) rfl hdg kk
theorem pg_10_20 (hC : pw_CX G own cc nL ret p s m args meth c) (hw : pw_WH G σ s.heap H locs) (hl : Cond.fieldLink own idx "PerhapsWasModel" "conditions" "I" ∈ pw_BW) (hdg : decode cc pc = .ok (.getfield idx, 3))
    (kk : W p l e R s m args below meth c H locs cells slots Q (F0 m (pc + 3) ls (.int (σ.1 10 20) :: rest))) : W p l e R s m args below meth c H locs cells slots Q (F0 m pc ls (.ref (pw_ad G (10)) :: rest)) :=
  va_get (D := pw_gD G) (ci := 11) (C := RX11) (T := TX11) (N := 28) hC.1 hC.2.1 hC.2.2.2.2.1 pw_inX11 hC.2.2.2.1 hC.2.2.2.2.2.1.1 hw.1.1 (10) (pw_at (by decide)) rfl 20 (by decide) (hC.2.2.2.2.1 _ hl) (fun _ h => h) rfl hdg kk
theorem pp_10_20 {v : Int32} (hC : pw_CX G own cc nL ret p s m args meth c) (hw : pw_WH G σ s.heap H locs) (hl : Cond.fieldLink own idx "PerhapsWasModel" "conditions" "I" ∈ pw_BW) (hdg : decode cc pc = .ok (.putfield idx, 3))
    (kk : ∀ (H1 : Heap) (locs1 : List Loc), pw_WH G (pw_sM σ (10) 20 v) s.heap H1 locs1 → W p l e R s m args below meth c H1 locs1 cells slots Q (F0 m (pc + 3) ls rest)) : W p l e R s m args below meth c H locs cells slots Q (F0 m pc ls (.int v :: .ref (pw_ad G (10)) :: rest)) := by
  refine va_put (D := pw_gD G) (ci := 11) (v := .int v) (ty := .int) (C := RX11) (T := TX11) (N := 28) hC.1 hC.2.1 hC.2.2.2.2.1 pw_inX11 tyX11 tyX11_ok nmX11 hC.2.2.2.1 hC.2.2.2.2.2.1.1 hw.1.1 hw.1.2 hw.2 (10) (pw_at (by decide)) rfl 20 (by decide) (hC.2.2.2.2.1 _ hl) (fun _ h => h) rfl (by decide +kernel) rfl rfl (Nat.le_of_ble_eq_true rfl) hdg (fun H1 locs1 h1 h2 h3 => ?_)
  have hq := pw_setM (G := G) (σ := σ) (k := 10) (j := 20) (v := v) (by decide)
  skip
  exact kk H1 locs1 ⟨⟨hq ▸ h1, hq ▸ h2⟩, h3⟩
theorem pg_10_21 (hC : pw_CX G own cc nL ret p s m args meth c) (hw : pw_WH G σ s.heap H locs) (hl : Cond.fieldLink own idx "PerhapsWasModel" "piled" "I" ∈ pw_BW) (hdg : decode cc pc = .ok (.getfield idx, 3))
    (kk : W p l e R s m args below meth c H locs cells slots Q (F0 m (pc + 3) ls (.int (σ.1 10 21) :: rest))) : W p l e R s m args below meth c H locs cells slots Q (F0 m pc ls (.ref (pw_ad G (10)) :: rest)) :=
  va_get (D := pw_gD G) (ci := 11) (C := RX11) (T := TX11) (N := 28) hC.1 hC.2.1 hC.2.2.2.2.1 pw_inX11 hC.2.2.2.1 hC.2.2.2.2.2.1.1 hw.1.1 (10) (pw_at (by decide)) rfl 21 (by decide) (hC.2.2.2.2.1 _ hl) (fun _ h => h) rfl hdg kk
theorem pp_10_21 {v : Int32} (hC : pw_CX G own cc nL ret p s m args meth c) (hw : pw_WH G σ s.heap H locs) (hl : Cond.fieldLink own idx "PerhapsWasModel" "piled" "I" ∈ pw_BW) (hdg : decode cc pc = .ok (.putfield idx, 3))
    (kk : ∀ (H1 : Heap) (locs1 : List Loc), pw_WH G (pw_sM σ (10) 21 v) s.heap H1 locs1 → W p l e R s m args below meth c H1 locs1 cells slots Q (F0 m (pc + 3) ls rest)) : W p l e R s m args below meth c H locs cells slots Q (F0 m pc ls (.int v :: .ref (pw_ad G (10)) :: rest)) := by
  refine va_put (D := pw_gD G) (ci := 11) (v := .int v) (ty := .int) (C := RX11) (T := TX11) (N := 28) hC.1 hC.2.1 hC.2.2.2.2.1 pw_inX11 tyX11 tyX11_ok nmX11 hC.2.2.2.1 hC.2.2.2.2.2.1.1 hw.1.1 hw.1.2 hw.2 (10) (pw_at (by decide)) rfl 21 (by decide) (hC.2.2.2.2.1 _ hl) (fun _ h => h) rfl (by decide +kernel) rfl rfl (Nat.le_of_ble_eq_true rfl) hdg (fun H1 locs1 h1 h2 h3 => ?_)
  have hq := pw_setM (G := G) (σ := σ) (k := 10) (j := 21) (v := v) (by decide)
  skip
  exact kk H1 locs1 ⟨⟨hq ▸ h1, hq ▸ h2⟩, h3⟩
theorem pg_10_22 (hC : pw_CX G own cc nL ret p s m args meth c) (hw : pw_WH G σ s.heap H locs) (hl : Cond.fieldLink own idx "PerhapsWasModel" "status" "I" ∈ pw_BW) (hdg : decode cc pc = .ok (.getfield idx, 3))
    (kk : W p l e R s m args below meth c H locs cells slots Q (F0 m (pc + 3) ls (.int (σ.1 10 22) :: rest))) : W p l e R s m args below meth c H locs cells slots Q (F0 m pc ls (.ref (pw_ad G (10)) :: rest)) :=
  va_get (D := pw_gD G) (ci := 11) (C := RX11) (T := TX11) (N := 28) hC.1 hC.2.1 hC.2.2.2.2.1 pw_inX11 hC.2.2.2.1 hC.2.2.2.2.2.1.1 hw.1.1 (10) (pw_at (by decide)) rfl 22 (by decide) (hC.2.2.2.2.1 _ hl) (fun _ h => h) rfl hdg kk
theorem pp_10_22 {v : Int32} (hC : pw_CX G own cc nL ret p s m args meth c) (hw : pw_WH G σ s.heap H locs) (hl : Cond.fieldLink own idx "PerhapsWasModel" "status" "I" ∈ pw_BW) (hdg : decode cc pc = .ok (.putfield idx, 3))
    (kk : ∀ (H1 : Heap) (locs1 : List Loc), pw_WH G (pw_sM σ (10) 22 v) s.heap H1 locs1 → W p l e R s m args below meth c H1 locs1 cells slots Q (F0 m (pc + 3) ls rest)) : W p l e R s m args below meth c H locs cells slots Q (F0 m pc ls (.int v :: .ref (pw_ad G (10)) :: rest)) := by
  refine va_put (D := pw_gD G) (ci := 11) (v := .int v) (ty := .int) (C := RX11) (T := TX11) (N := 28) hC.1 hC.2.1 hC.2.2.2.2.1 pw_inX11 tyX11 tyX11_ok nmX11 hC.2.2.2.1 hC.2.2.2.2.2.1.1 hw.1.1 hw.1.2 hw.2 (10) (pw_at (by decide)) rfl 22 (by decide) (hC.2.2.2.2.1 _ hl) (fun _ h => h) rfl (by decide +kernel) rfl rfl (Nat.le_of_ble_eq_true rfl) hdg (fun H1 locs1 h1 h2 h3 => ?_)
  have hq := pw_setM (G := G) (σ := σ) (k := 10) (j := 22) (v := v) (by decide)
  skip
  exact kk H1 locs1 ⟨⟨hq ▸ h1, hq ▸ h2⟩, h3⟩
theorem pg_10_23 (hC : pw_CX G own cc nL ret p s m args meth c) (hw : pw_WH G σ s.heap H locs) (hl : Cond.fieldLink own idx "PerhapsWasModel" "pile" "[I" ∈ pw_BW) (hdg : decode cc pc = .ok (.getfield idx, 3))
    (kk : W p l e R s m args below meth c H locs cells slots Q (F0 m (pc + 3) ls (.ref (pw_ad G 50) :: rest))) : W p l e R s m args below meth c H locs cells slots Q (F0 m pc ls (.ref (pw_ad G (10)) :: rest)) :=
  va_get (D := pw_gD G) (ci := 11) (C := RX11) (T := TX11) (N := 28) hC.1 hC.2.1 hC.2.2.2.2.1 pw_inX11 hC.2.2.2.1 hC.2.2.2.2.2.1.1 hw.1.1 (10) (pw_at (by decide)) rfl 23 (by decide) (hC.2.2.2.2.1 _ hl) (fun _ h => h) rfl hdg kk
theorem pg_10_24 (hC : pw_CX G own cc nL ret p s m args meth c) (hw : pw_WH G σ s.heap H locs) (hl : Cond.fieldLink own idx "PerhapsWasModel" "holds" "[Z" ∈ pw_BW) (hdg : decode cc pc = .ok (.getfield idx, 3))
    (kk : W p l e R s m args below meth c H locs cells slots Q (F0 m (pc + 3) ls (.ref (pw_ad G 51) :: rest))) : W p l e R s m args below meth c H locs cells slots Q (F0 m pc ls (.ref (pw_ad G (10)) :: rest)) :=
  va_get (D := pw_gD G) (ci := 11) (C := RX11) (T := TX11) (N := 28) hC.1 hC.2.1 hC.2.2.2.2.1 pw_inX11 hC.2.2.2.1 hC.2.2.2.2.2.1.1 hw.1.1 (10) (pw_at (by decide)) rfl 24 (by decide) (hC.2.2.2.2.1 _ hl) (fun _ h => h) rfl hdg kk
theorem pg_10_25 (hC : pw_CX G own cc nL ret p s m args meth c) (hw : pw_WH G σ s.heap H locs) (hl : Cond.fieldLink own idx "PerhapsWasModel" "come" "[Z" ∈ pw_BW) (hdg : decode cc pc = .ok (.getfield idx, 3))
    (kk : W p l e R s m args below meth c H locs cells slots Q (F0 m (pc + 3) ls (.ref (pw_ad G 52) :: rest))) : W p l e R s m args below meth c H locs cells slots Q (F0 m pc ls (.ref (pw_ad G (10)) :: rest)) :=
  va_get (D := pw_gD G) (ci := 11) (C := RX11) (T := TX11) (N := 28) hC.1 hC.2.1 hC.2.2.2.2.1 pw_inX11 hC.2.2.2.1 hC.2.2.2.2.2.1.1 hw.1.1 (10) (pw_at (by decide)) rfl 25 (by decide) (hC.2.2.2.2.1 _ hl) (fun _ h => h) rfl hdg kk
theorem pg_10_26 (hC : pw_CX G own cc nL ret p s m args meth c) (hw : pw_WH G σ s.heap H locs) (hl : Cond.fieldLink own idx "PerhapsWasModel" "said" "[I" ∈ pw_BW) (hdg : decode cc pc = .ok (.getfield idx, 3))
    (kk : W p l e R s m args below meth c H locs cells slots Q (F0 m (pc + 3) ls (.ref (pw_ad G 53) :: rest))) : W p l e R s m args below meth c H locs cells slots Q (F0 m pc ls (.ref (pw_ad G (10)) :: rest)) :=
  va_get (D := pw_gD G) (ci := 11) (C := RX11) (T := TX11) (N := 28) hC.1 hC.2.1 hC.2.2.2.2.1 pw_inX11 hC.2.2.2.1 hC.2.2.2.2.2.1.1 hw.1.1 (10) (pw_at (by decide)) rfl 26 (by decide) (hC.2.2.2.2.1 _ hl) (fun _ h => h) rfl hdg kk
theorem pg_10_27 (hC : pw_CX G own cc nL ret p s m args meth c) (hw : pw_WH G σ s.heap H locs) (hl : Cond.fieldLink own idx "PerhapsWasModel" "saids" "I" ∈ pw_BW) (hdg : decode cc pc = .ok (.getfield idx, 3))
    (kk : W p l e R s m args below meth c H locs cells slots Q (F0 m (pc + 3) ls (.int (σ.1 10 27) :: rest))) : W p l e R s m args below meth c H locs cells slots Q (F0 m pc ls (.ref (pw_ad G (10)) :: rest)) :=
  va_get (D := pw_gD G) (ci := 11) (C := RX11) (T := TX11) (N := 28) hC.1 hC.2.1 hC.2.2.2.2.1 pw_inX11 hC.2.2.2.1 hC.2.2.2.2.2.1.1 hw.1.1 (10) (pw_at (by decide)) rfl 27 (by decide) (hC.2.2.2.2.1 _ hl) (fun _ h => h) rfl hdg kk
theorem pp_10_27 {v : Int32} (hC : pw_CX G own cc nL ret p s m args meth c) (hw : pw_WH G σ s.heap H locs) (hl : Cond.fieldLink own idx "PerhapsWasModel" "saids" "I" ∈ pw_BW) (hdg : decode cc pc = .ok (.putfield idx, 3))
    (kk : ∀ (H1 : Heap) (locs1 : List Loc), pw_WH G (pw_sM σ (10) 27 v) s.heap H1 locs1 → W p l e R s m args below meth c H1 locs1 cells slots Q (F0 m (pc + 3) ls rest)) : W p l e R s m args below meth c H locs cells slots Q (F0 m pc ls (.int v :: .ref (pw_ad G (10)) :: rest)) := by
  refine va_put (D := pw_gD G) (ci := 11) (v := .int v) (ty := .int) (C := RX11) (T := TX11) (N := 28) hC.1 hC.2.1 hC.2.2.2.2.1 pw_inX11 tyX11 tyX11_ok nmX11 hC.2.2.2.1 hC.2.2.2.2.2.1.1 hw.1.1 hw.1.2 hw.2 (10) (pw_at (by decide)) rfl 27 (by decide) (hC.2.2.2.2.1 _ hl) (fun _ h => h) rfl (by decide +kernel) rfl rfl (Nat.le_of_ble_eq_true rfl) hdg (fun H1 locs1 h1 h2 h3 => ?_)
  have hq := pw_setM (G := G) (σ := σ) (k := 10) (j := 27) (v := v) (by decide)
  skip
  exact kk H1 locs1 ⟨⟨hq ▸ h1, hq ▸ h2⟩, h3⟩
theorem pg_F_0 {n : Nat} (hn : n < 14) (hC : pw_CX G own cc nL ret p s m args meth c) (hw : pw_WH G σ s.heap H locs) (hl : Cond.fieldLink own idx "PerhapsWas$Formula" "kinds" "[I" ∈ pw_BW) (hdg : decode cc pc = .ok (.getfield idx, 3))
    (kk : W p l e R s m args below meth c H locs cells slots Q (F0 m (pc + 3) ls (.ref (pw_ad G (4 * n + 55)) :: rest))) : W p l e R s m args below meth c H locs cells slots Q (F0 m pc ls (.ref (pw_ad G (4 * n + 54)) :: rest)) :=
  va_get (D := pw_gD G) (ci := 1) (C := RX1) (T := TX1) (N := 4) hC.1 hC.2.1 hC.2.2.2.2.1 pw_inX1 hC.2.2.2.1 hC.2.2.2.2.2.1.1 hw.1.1 (4 * n + 54) ((pw_at (by omega)).trans (by rw [pw_cellF])) rfl 0 (by decide) (hC.2.2.2.2.1 _ hl) (fun _ h => h) rfl hdg kk
theorem pg_F_1 {n : Nat} (hn : n < 14) (hC : pw_CX G own cc nL ret p s m args meth c) (hw : pw_WH G σ s.heap H locs) (hl : Cond.fieldLink own idx "PerhapsWas$Formula" "firsts" "[I" ∈ pw_BW) (hdg : decode cc pc = .ok (.getfield idx, 3))
    (kk : W p l e R s m args below meth c H locs cells slots Q (F0 m (pc + 3) ls (.ref (pw_ad G (4 * n + 56)) :: rest))) : W p l e R s m args below meth c H locs cells slots Q (F0 m pc ls (.ref (pw_ad G (4 * n + 54)) :: rest)) :=
  va_get (D := pw_gD G) (ci := 1) (C := RX1) (T := TX1) (N := 4) hC.1 hC.2.1 hC.2.2.2.2.1 pw_inX1 hC.2.2.2.1 hC.2.2.2.2.2.1.1 hw.1.1 (4 * n + 54) ((pw_at (by omega)).trans (by rw [pw_cellF])) rfl 1 (by decide) (hC.2.2.2.2.1 _ hl) (fun _ h => h) rfl hdg kk
theorem pg_F_2 {n : Nat} (hn : n < 14) (hC : pw_CX G own cc nL ret p s m args meth c) (hw : pw_WH G σ s.heap H locs) (hl : Cond.fieldLink own idx "PerhapsWas$Formula" "seconds" "[I" ∈ pw_BW) (hdg : decode cc pc = .ok (.getfield idx, 3))
    (kk : W p l e R s m args below meth c H locs cells slots Q (F0 m (pc + 3) ls (.ref (pw_ad G (4 * n + 57)) :: rest))) : W p l e R s m args below meth c H locs cells slots Q (F0 m pc ls (.ref (pw_ad G (4 * n + 54)) :: rest)) :=
  va_get (D := pw_gD G) (ci := 1) (C := RX1) (T := TX1) (N := 4) hC.1 hC.2.1 hC.2.2.2.2.1 pw_inX1 hC.2.2.2.1 hC.2.2.2.2.2.1.1 hw.1.1 (4 * n + 54) ((pw_at (by omega)).trans (by rw [pw_cellF])) rfl 2 (by decide) (hC.2.2.2.2.1 _ hl) (fun _ h => h) rfl hdg kk
theorem pg_F_3 {n : Nat} (hn : n < 14) (hC : pw_CX G own cc nL ret p s m args meth c) (hw : pw_WH G σ s.heap H locs) (hl : Cond.fieldLink own idx "PerhapsWas$Formula" "parts" "I" ∈ pw_BW) (hdg : decode cc pc = .ok (.getfield idx, 3))
    (kk : W p l e R s m args below meth c H locs cells slots Q (F0 m (pc + 3) ls (.int (σ.1 (4 * n + 54) 3) :: rest))) : W p l e R s m args below meth c H locs cells slots Q (F0 m pc ls (.ref (pw_ad G (4 * n + 54)) :: rest)) :=
  va_get (D := pw_gD G) (ci := 1) (C := RX1) (T := TX1) (N := 4) hC.1 hC.2.1 hC.2.2.2.2.1 pw_inX1 hC.2.2.2.1 hC.2.2.2.2.2.1.1 hw.1.1 (4 * n + 54) ((pw_at (by omega)).trans (by rw [pw_cellF])) rfl 3 (by decide) (hC.2.2.2.2.1 _ hl) (fun _ h => h) rfl hdg kk
theorem pp_F_3 {n : Nat} (hn : n < 14) {v : Int32} (hC : pw_CX G own cc nL ret p s m args meth c) (hw : pw_WH G σ s.heap H locs) (hl : Cond.fieldLink own idx "PerhapsWas$Formula" "parts" "I" ∈ pw_BW) (hdg : decode cc pc = .ok (.putfield idx, 3))
    (kk : ∀ (H1 : Heap) (locs1 : List Loc), pw_WH G (pw_sM σ (4 * n + 54) 3 v) s.heap H1 locs1 → W p l e R s m args below meth c H1 locs1 cells slots Q (F0 m (pc + 3) ls rest)) : W p l e R s m args below meth c H locs cells slots Q (F0 m pc ls (.int v :: .ref (pw_ad G (4 * n + 54)) :: rest)) := by
  refine va_put (D := pw_gD G) (ci := 1) (v := .int v) (ty := .int) (C := RX1) (T := TX1) (N := 4) hC.1 hC.2.1 hC.2.2.2.2.1 pw_inX1 tyX1 tyX1_ok nmX1 hC.2.2.2.1 hC.2.2.2.2.2.1.1 hw.1.1 hw.1.2 hw.2 (4 * n + 54) ((pw_at (by omega)).trans (by rw [pw_cellF])) rfl 3 (by decide) (hC.2.2.2.2.1 _ hl) (fun _ h => h) rfl (by decide +kernel) rfl rfl (Nat.le_of_ble_eq_true rfl) hdg (fun H1 locs1 h1 h2 h3 => ?_)
  have hq := pw_setM (G := G) (σ := σ) (k := 4 * n + 54) (j := 3) (v := v) (by omega)
  rw [pw_cellF] at hq
  exact kk H1 locs1 ⟨⟨hq ▸ h1, hq ▸ h2⟩, h3⟩
end PWF
end
section
section PM
variable {p : Program} {l : Launch} {e : Env} {s : State} {m : MethodId} {args : Array Value} {below : List Frame} {meth : Method} {c : Code} {G : pw_Gh}
-- PerhapsWas$Conditions has
def f_X0_has (x1 : Int32) (σ : pw_St) : Option (Int32 × pw_St) := (if x1 < 0 then (if pw_isb (0 : Int32) = true then some ((0 : Int32), σ) else none) else (if (σ.1 5 1) ≤ x1 then (if pw_isb (0 : Int32) = true then some ((0 : Int32), σ) else none) else (if pw_isb (1 : Int32) = true then some ((1 : Int32), σ) else none)))
def rm_X0_has : Room := { frames := 0, cells := 0, slots := 0, locals := 0 }
set_option maxHeartbeats 4000000 in
set_option maxRecDepth 100000 in
theorem c_X0_has {l : Launch} {G : pw_Gh} {x1 : Int32} {σ : pw_St} {r : Int32} {τ : pw_St} (hf : f_X0_has x1 σ = some (r, τ)) : Met l yX0_has (.code yX0_has cX0_has 2 (some .boolean) :: pw_BW) rm_X0_has (pw_Pc G [.ref (pw_ad G 5), .int x1] σ) (pw_Qi G r τ) 0 0 (pw_gA G) := by
  refine pw_met (by decide +kernel) (Nat.le_of_ble_eq_true rfl) ?_
  intro p e s m args below meth c ls hC hw hl
  replace hl : lv_has ls 2 [(0, .ref (pw_ad G 5)), (1, .int x1)] := hl
  have hx := hC.1
  have hb := hC.2.1
  unfold f_X0_has at hf
  refine lv_iload_n hx hb dX0_has_0 rfl (lv_at hl 1 rfl) ?_
  refine lv_if_lt (tgt := 16) hx hb dX0_has_1 (by decide) (fun hc => ?_) (fun hc => ?_)
  · replace hf := pw_ifp hc hf
    refine lv_iconst (v := 0) hx hb dX0_has_16 (by decide) ?_
    exact pw_zret hC hw hf dX0_has_17
  · replace hf := pw_ifn hc hf
    refine lv_iload_n hx hb dX0_has_4 rfl (lv_at hl 1 rfl) ?_
    refine lv_aload_n hx hb dX0_has_5 rfl (lv_at hl 0 rfl) ?_
    refine pg_5_1 hC hw mw_236 dX0_has_6 ?_
    refine lv_icmp_ge (tgt := 16) hx hb dX0_has_9 (by decide) (fun hc => ?_) (fun hc => ?_)
    · replace hf := pw_ifp hc hf
      refine lv_iconst (v := 0) hx hb dX0_has_16 (by decide) ?_
      exact pw_zret hC hw hf dX0_has_17
    · replace hf := pw_ifn hc hf
      refine lv_iconst (v := 1) hx hb dX0_has_12 (by decide) ?_
      refine lv_goto (tgt := 17) hx hb dX0_has_13 (by decide) ?_
      exact pw_zret hC hw hf dX0_has_17
-- PerhapsWas$Formula append
def f_X1_append (n0 : Nat) (x1 : Int32) (x2 : Int32) (x3 : Int32) (σ : pw_St) : Option pw_St := (if pw_in (σ.1 (4 * n0 + 54) 3) 15 = true then (pw_lt (pw_sM σ (4 * n0 + 55) (σ.1 (4 * n0 + 54) 3).toNatClampNeg x1) fun σ1 => (if pw_in (σ1.1 (4 * n0 + 54) 3) 15 = true then (pw_lt (pw_sM σ1 (4 * n0 + 56) (σ1.1 (4 * n0 + 54) 3).toNatClampNeg x2) fun σ2 => (if pw_in (σ2.1 (4 * n0 + 54) 3) 15 = true then (pw_lt (pw_sM σ2 (4 * n0 + 57) (σ2.1 (4 * n0 + 54) 3).toNatClampNeg x3) fun σ3 => (pw_lt (pw_sM σ3 (4 * n0 + 54) 3 ((σ3.1 (4 * n0 + 54) 3) + (1 : Int32))) fun σ4 => (some σ4))) else none)) else none)) else none)
def rm_X1_append : Room := { frames := 0, cells := 0, slots := 0, locals := 0 }
set_option maxHeartbeats 4000000 in
set_option maxRecDepth 100000 in
theorem c_X1_append {l : Launch} {G : pw_Gh} {n0 : Nat} {x1 : Int32} {x2 : Int32} {x3 : Int32} (hbn0 : n0 < 14) {σ : pw_St} {τ : pw_St} (hf : f_X1_append n0 x1 x2 x3 σ = some τ) : Met l yX1_append (.code yX1_append cX1_append 4 none :: pw_BW) rm_X1_append (pw_Pc G [.ref (pw_ad G (4 * n0 + 54)), .int x1, .int x2, .int x3] σ) (pw_Qv G τ) 0 0 (pw_gA G) := by
  refine pw_met (by decide +kernel) (Nat.le_of_ble_eq_true rfl) ?_
  intro p e s m args below meth c ls hC hw hl
  replace hl : lv_has ls 4 [(0, .ref (pw_ad G (4 * n0 + 54))), (1, .int x1), (2, .int x2), (3, .int x3)] := hl
  have hx := hC.1
  have hb := hC.2.1
  unfold f_X1_append at hf
  refine lv_aload_n hx hb dX1_append_0 rfl (lv_at hl 0 rfl) ?_
  refine pg_F_0 hbn0 hC hw mw_198 dX1_append_1 ?_
  refine lv_aload_n hx hb dX1_append_4 rfl (lv_at hl 0 rfl) ?_
  refine pg_F_3 hbn0 hC hw mw_206 dX1_append_5 ?_
  refine lv_iload_n hx hb dX1_append_8 rfl (lv_at hl 1 rfl) ?_
  obtain ⟨hin, hf⟩ := pw_gd hf
  refine pw_ist hC hw (ca_F1 hbn0) hin dX1_append_9 (fun H locs hw => ?_)
  obtain ⟨σ1, e1, hf⟩ := pw_lts hf
  replace hw := pw_WHe e1 hw
  refine lv_aload_n hx hb dX1_append_10 rfl (lv_at hl 0 rfl) ?_
  refine pg_F_1 hbn0 hC hw mw_200 dX1_append_11 ?_
  refine lv_aload_n hx hb dX1_append_14 rfl (lv_at hl 0 rfl) ?_
  refine pg_F_3 hbn0 hC hw mw_206 dX1_append_15 ?_
  refine lv_iload_n hx hb dX1_append_18 rfl (lv_at hl 2 rfl) ?_
  obtain ⟨hin, hf⟩ := pw_gd hf
  refine pw_ist hC hw (ca_F2 hbn0) hin dX1_append_19 (fun H locs hw => ?_)
  obtain ⟨σ2, e2, hf⟩ := pw_lts hf
  replace hw := pw_WHe e2 hw
  refine lv_aload_n hx hb dX1_append_20 rfl (lv_at hl 0 rfl) ?_
  refine pg_F_2 hbn0 hC hw mw_202 dX1_append_21 ?_
  refine lv_aload_n hx hb dX1_append_24 rfl (lv_at hl 0 rfl) ?_
  refine pg_F_3 hbn0 hC hw mw_206 dX1_append_25 ?_
  refine lv_iload_n hx hb dX1_append_28 rfl (lv_at hl 3 rfl) ?_
  obtain ⟨hin, hf⟩ := pw_gd hf
  refine pw_ist hC hw (ca_F3 hbn0) hin dX1_append_29 (fun H locs hw => ?_)
  obtain ⟨σ3, e3, hf⟩ := pw_lts hf
  replace hw := pw_WHe e3 hw
  refine lv_aload_n hx hb dX1_append_30 rfl (lv_at hl 0 rfl) ?_
  refine lv_dup hx hb dX1_append_31 rfl ?_
  refine pg_F_3 hbn0 hC hw mw_206 dX1_append_32 ?_
  refine lv_iconst (v := 1) hx hb dX1_append_35 (by decide) ?_
  refine lv_iadd hx hb dX1_append_36 ?_
  refine pp_F_3 hbn0 hC hw mw_206 dX1_append_37 (fun H locs hw => ?_)
  obtain ⟨σ4, e4, hf⟩ := pw_lts hf
  replace hw := pw_WHe e4 hw
  exact pw_vret hC hw hf dX1_append_40
-- PerhapsWas$Formula appendAll
def b_X1_appendAll_2 (k2 : Nat → Nat → Int32 → pw_St → Option pw_St) (n0 : Nat) (n1 : Nat) (x2 : Int32) (σ : pw_St) : Option pw_St := (if (σ.1 (4 * n1 + 54) 3) ≤ x2 then (some σ) else (if pw_in x2 15 = true then (if pw_in x2 15 = true then (if pw_in x2 15 = true then (pw_bv (f_X1_append n0 (σ.1 (4 * n1 + 55) x2.toNatClampNeg) (σ.1 (4 * n1 + 56) x2.toNatClampNeg) (σ.1 (4 * n1 + 57) x2.toNatClampNeg) σ) fun σ1 => (k2 n0 n1 (x2 + (1 : Int32)) σ1)) else none) else none) else none))
def l_X1_appendAll_2 : Nat → Nat → Nat → Int32 → pw_St → Option pw_St
  | 0 => fun _ _ _ _ => none
  | n + 1 => fun n0 n1 x2 σ => b_X1_appendAll_2  (l_X1_appendAll_2  n) n0 n1 x2 σ
def f_X1_appendAll (n0 : Nat) (n1 : Nat) (σ : pw_St) : Option pw_St := (l_X1_appendAll_2  pw_FU n0 n1 (0 : Int32) σ)
def rm_X1_appendAll : Room := { frames := 1, cells := 0, slots := 0, locals := 23 }
set_option maxHeartbeats 4000000 in
set_option maxRecDepth 100000 in
theorem t_X1_appendAll_2 (hC : pw_CX G RX1 cX1_appendAll 3 none p s m args meth c) {k2 : Nat → Nat → Int32 → pw_St → Option pw_St} {τ : pw_St} (hk2 : ∀ (n0 : Nat), ∀ (n1 : Nat), ∀ (x2 : Int32), ∀ (σ : pw_St) (H : Heap) (locs : List Loc) (ls : Array Slot), n0 < 14 → n1 < 14 → pw_WH G σ s.heap H locs → lv_has ls 3 [(0, .ref (pw_ad G (4 * n0 + 54))), (1, .ref (pw_ad G (4 * n1 + 54))), (2, .int x2)] → k2 n0 n1 x2 σ = some τ → W p l e rm_X1_appendAll s m args below meth c H locs 0 0 (MQ below (pw_Qv G τ) args s 0 0 (pw_gA G)) (F0 m 2 ls [])) {n0 : Nat} {n1 : Nat} {x2 : Int32} (hbn0 : n0 < 14) (hbn1 : n1 < 14) {σ : pw_St} {H : Heap} {locs : List Loc} {ls : Array Slot} (hw : pw_WH G σ s.heap H locs) (hl : lv_has ls 3 [(0, .ref (pw_ad G (4 * n0 + 54))), (1, .ref (pw_ad G (4 * n1 + 54))), (2, .int x2)]) (hf : b_X1_appendAll_2 k2 n0 n1 x2 σ = some τ) : W p l e rm_X1_appendAll s m args below meth c H locs 0 0 (MQ below (pw_Qv G τ) args s 0 0 (pw_gA G)) (F0 m 2 ls []) := by
  have hx := hC.1
  have hb := hC.2.1
  unfold b_X1_appendAll_2 at hf
  refine lv_iload_n hx hb dX1_appendAll_2 rfl (lv_at hl 2 rfl) ?_
  refine lv_aload_n hx hb dX1_appendAll_3 rfl (lv_at hl 1 rfl) ?_
  refine pg_F_3 hbn1 hC hw mw_206 dX1_appendAll_4 ?_
  refine lv_icmp_ge (tgt := 38) hx hb dX1_appendAll_7 (by decide) (fun hc => ?_) (fun hc => ?_)
  · replace hf := pw_ifp hc hf
    exact pw_vret hC hw hf dX1_appendAll_38
  · replace hf := pw_ifn hc hf
    refine lv_aload_n hx hb dX1_appendAll_10 rfl (lv_at hl 0 rfl) ?_
    refine lv_aload_n hx hb dX1_appendAll_11 rfl (lv_at hl 1 rfl) ?_
    refine pg_F_0 hbn1 hC hw mw_198 dX1_appendAll_12 ?_
    refine lv_iload_n hx hb dX1_appendAll_15 rfl (lv_at hl 2 rfl) ?_
    obtain ⟨hin, hf⟩ := pw_gd hf
    refine pw_ild hC hw (ca_F1 hbn1) hin dX1_appendAll_16 ?_
    refine lv_aload_n hx hb dX1_appendAll_17 rfl (lv_at hl 1 rfl) ?_
    refine pg_F_1 hbn1 hC hw mw_200 dX1_appendAll_18 ?_
    refine lv_iload_n hx hb dX1_appendAll_21 rfl (lv_at hl 2 rfl) ?_
    obtain ⟨hin, hf⟩ := pw_gd hf
    refine pw_ild hC hw (ca_F2 hbn1) hin dX1_appendAll_22 ?_
    refine lv_aload_n hx hb dX1_appendAll_23 rfl (lv_at hl 1 rfl) ?_
    refine pg_F_2 hbn1 hC hw mw_202 dX1_appendAll_24 ?_
    refine lv_iload_n hx hb dX1_appendAll_27 rfl (lv_at hl 2 rfl) ?_
    obtain ⟨hin, hf⟩ := pw_gd hf
    refine pw_ild hC hw (ca_F3 hbn1) hin dX1_appendAll_28 ?_
    obtain ⟨σ1, h1, hf⟩ := pw_bv_some hf
    refine pw_cv hw (pw_runV (As := [.int (σ.1 (4 * n1 + 55) x2.toNatClampNeg), .int (σ.1 (4 * n1 + 56) x2.toNatClampNeg), .int (σ.1 (4 * n1 + 57) x2.toNatClampNeg)]) (rest := []) hC hw (c_X1_append hbn0 h1) mw_583 wm_X1_append ⟨Nat.zero_le _, Nat.zero_le _⟩ ⟨rfl, rfl, Nat.le_of_ble_eq_true rfl, Nat.le_of_ble_eq_true rfl⟩ (by omega) pw_cellF rfl rfl hl.1 rfl (Nat.le_of_ble_eq_true rfl) dX1_appendAll_29) (fun H locs hw => ?_)
    refine lv_iinc (v := (x2 + (1 : Int32))) (lv' := [(2, .int (x2 + (1 : Int32))), (0, .ref (pw_ad G (4 * n0 + 54))), (1, .ref (pw_ad G (4 * n1 + 54)))]) hx hb dX1_appendAll_32 hl (k := 2) rfl rfl (by decide) rfl (fun ls hl => ?_)
    refine lv_goto (tgt := 2) hx hb dX1_appendAll_35 (by decide) ?_
    exact hk2 _ _ _ _ _ _ _ hbn0 hbn1 hw (lv_sub hl [1, 2, 0] rfl) hf
set_option maxHeartbeats 4000000 in
theorem tl_X1_appendAll_2 (hC : pw_CX G RX1 cX1_appendAll 3 none p s m args meth c) {τ : pw_St} : ∀ (n : Nat) (n0 : Nat) (n1 : Nat) (x2 : Int32) (σ : pw_St) (H : Heap) (locs : List Loc) (ls : Array Slot), n0 < 14 → n1 < 14 → pw_WH G σ s.heap H locs → lv_has ls 3 [(0, .ref (pw_ad G (4 * n0 + 54))), (1, .ref (pw_ad G (4 * n1 + 54))), (2, .int x2)] → l_X1_appendAll_2  n n0 n1 x2 σ = some τ → W p l e rm_X1_appendAll s m args below meth c H locs 0 0 (MQ below (pw_Qv G τ) args s 0 0 (pw_gA G)) (F0 m 2 ls []) := by
  intro n
  induction n with
  | zero => intro n0 n1 x2 σ H locs ls hbn0 hbn1 hw hl hf; cases hf
  | succ n ih => intro n0 n1 x2 σ H locs ls hbn0 hbn1 hw hl hf; exact t_X1_appendAll_2 hC ih hbn0 hbn1 hw hl hf
set_option maxHeartbeats 4000000 in
set_option maxRecDepth 100000 in
theorem c_X1_appendAll {l : Launch} {G : pw_Gh} {n0 : Nat} {n1 : Nat} (hbn0 : n0 < 14) (hbn1 : n1 < 14) {σ : pw_St} {τ : pw_St} (hf : f_X1_appendAll n0 n1 σ = some τ) : Met l yX1_appendAll (.code yX1_appendAll cX1_appendAll 3 none :: pw_BW) rm_X1_appendAll (pw_Pc G [.ref (pw_ad G (4 * n0 + 54)), .ref (pw_ad G (4 * n1 + 54))] σ) (pw_Qv G τ) 0 0 (pw_gA G) := by
  refine pw_met (by decide +kernel) (Nat.le_of_ble_eq_true rfl) ?_
  intro p e s m args below meth c ls hC hw hl
  replace hl : lv_has ls 3 [(0, .ref (pw_ad G (4 * n0 + 54))), (1, .ref (pw_ad G (4 * n1 + 54)))] := hl
  have hx := hC.1
  have hb := hC.2.1
  unfold f_X1_appendAll at hf
  refine lv_iconst (v := 0) hx hb dX1_appendAll_0 (by decide) ?_
  refine lv_istore_n (lv' := [(2, .int (0 : Int32)), (0, .ref (pw_ad G (4 * n0 + 54))), (1, .ref (pw_ad G (4 * n1 + 54)))]) hx hb dX1_appendAll_1 rfl hl (by decide) rfl (fun ls hl => ?_)
  exact tl_X1_appendAll_2 hC  pw_FU _ _ _ _ _ _ _ hbn0 hbn1 hw (lv_sub hl [1, 2, 0] rfl) hf
-- PerhapsWas$Conditions keep
def f_X0_keep (n1 : Nat) (σ : pw_St) : Option (Int32 × pw_St) := (if pw_in (σ.1 5 1) 8 = true then (pw_lt (pw_sM σ (4 * ((σ.1 5 1).toNatClampNeg + 6) + 54) 3 (0 : Int32)) fun σ2 => (if pw_in (σ2.1 5 1) 8 = true then (pw_bv (f_X1_appendAll ((σ2.1 5 1).toNatClampNeg + 6) n1 σ2) fun σ4 => (pw_lt (pw_sM σ4 5 1 ((σ4.1 5 1) + (1 : Int32))) fun σ5 => (some (((σ5.1 5 1) - (1 : Int32)), σ5)))) else none)) else none)
def rm_X0_keep : Room := { frames := 2, cells := 0, slots := 0, locals := 45 }
set_option maxHeartbeats 4000000 in
set_option maxRecDepth 100000 in
theorem c_X0_keep {l : Launch} {G : pw_Gh} {n1 : Nat} (hbn1 : n1 < 14) {σ : pw_St} {r : Int32} {τ : pw_St} (hf : f_X0_keep n1 σ = some (r, τ)) : Met l yX0_keep (.code yX0_keep cX0_keep 2 (some .int) :: pw_BW) rm_X0_keep (pw_Pc G [.ref (pw_ad G 5), .ref (pw_ad G (4 * n1 + 54))] σ) (pw_Qi G r τ) 0 0 (pw_gA G) := by
  refine pw_met (by decide +kernel) (Nat.le_of_ble_eq_true rfl) ?_
  intro p e s m args below meth c ls hC hw hl
  replace hl : lv_has ls 2 [(0, .ref (pw_ad G 5)), (1, .ref (pw_ad G (4 * n1 + 54)))] := hl
  have hx := hC.1
  have hb := hC.2.1
  unfold f_X0_keep at hf
  refine lv_aload_n hx hb dX0_keep_0 rfl (lv_at hl 0 rfl) ?_
  refine pg_5_0 hC hw mw_234 dX0_keep_1 ?_
  refine lv_aload_n hx hb dX0_keep_4 rfl (lv_at hl 0 rfl) ?_
  refine pg_5_1 hC hw mw_236 dX0_keep_5 ?_
  obtain ⟨hin, hf⟩ := pw_gd hf
  have hn1 : ((σ.1 5 1).toNatClampNeg + 6) < 14 := pw_fb hin (by decide)
  refine pw_fld hC hw ca_27 hin dX0_keep_8 ?_
  refine lv_iconst (v := 0) hx hb dX0_keep_9 (by decide) ?_
  refine pp_F_3 hn1 hC hw mw_207 dX0_keep_10 (fun H locs hw => ?_)
  obtain ⟨σ2, e2, hf⟩ := pw_lts hf
  replace hw := pw_WHe e2 hw
  refine lv_aload_n hx hb dX0_keep_13 rfl (lv_at hl 0 rfl) ?_
  refine pg_5_0 hC hw mw_234 dX0_keep_14 ?_
  refine lv_aload_n hx hb dX0_keep_17 rfl (lv_at hl 0 rfl) ?_
  refine pg_5_1 hC hw mw_236 dX0_keep_18 ?_
  obtain ⟨hin, hf⟩ := pw_gd hf
  have hn3 : ((σ2.1 5 1).toNatClampNeg + 6) < 14 := pw_fb hin (by decide)
  refine pw_fld hC hw ca_27 hin dX0_keep_21 ?_
  refine lv_aload_n hx hb dX0_keep_22 rfl (lv_at hl 1 rfl) ?_
  obtain ⟨σ4, h4, hf⟩ := pw_bv_some hf
  refine pw_cv hw (pw_runV (As := [.ref (pw_ad G (4 * n1 + 54))]) (rest := []) hC hw (c_X1_appendAll hn3 hbn1 h4) mw_592 wm_X1_appendAll ⟨Nat.zero_le _, Nat.zero_le _⟩ ⟨rfl, rfl, Nat.le_of_ble_eq_true rfl, Nat.le_of_ble_eq_true rfl⟩ (by omega) pw_cellF rfl rfl hl.1 rfl (Nat.le_of_ble_eq_true rfl) dX0_keep_23) (fun H locs hw => ?_)
  refine lv_aload_n hx hb dX0_keep_26 rfl (lv_at hl 0 rfl) ?_
  refine lv_dup hx hb dX0_keep_27 rfl ?_
  refine pg_5_1 hC hw mw_236 dX0_keep_28 ?_
  refine lv_iconst (v := 1) hx hb dX0_keep_31 (by decide) ?_
  refine lv_iadd hx hb dX0_keep_32 ?_
  refine pp_5_1 hC hw mw_236 dX0_keep_33 (fun H locs hw => ?_)
  obtain ⟨σ5, e5, hf⟩ := pw_lts hf
  replace hw := pw_WHe e5 hw
  refine lv_aload_n hx hb dX0_keep_36 rfl (lv_at hl 0 rfl) ?_
  refine pg_5_1 hC hw mw_236 dX0_keep_37 ?_
  refine lv_iconst (v := 1) hx hb dX0_keep_40 (by decide) ?_
  refine lv_isub hx hb dX0_keep_41 ?_
  exact pw_iret hC hw hf dX0_keep_42
-- PerhapsWas$Formula sidesOf
def f_X1_sidesOf (x0 : Int32) (σ : pw_St) : Option (Int32 × pw_St) := (if (7 : Int32) ≤ x0 then (if x0 = (7 : Int32) then (some ((1 : Int32), σ)) else (some ((0 : Int32), σ))) else (some ((2 : Int32), σ)))
def rm_X1_sidesOf : Room := { frames := 0, cells := 0, slots := 0, locals := 0 }
set_option maxHeartbeats 4000000 in
set_option maxRecDepth 100000 in
theorem c_X1_sidesOf {l : Launch} {G : pw_Gh} {x0 : Int32} {σ : pw_St} {r : Int32} {τ : pw_St} (hf : f_X1_sidesOf x0 σ = some (r, τ)) : Met l yX1_sidesOf (.code yX1_sidesOf cX1_sidesOf 1 (some .int) :: pw_BW) rm_X1_sidesOf (pw_Pc G [.int x0] σ) (pw_Qi G r τ) 0 0 (pw_gA G) := by
  refine pw_met (by decide +kernel) (Nat.le_of_ble_eq_true rfl) ?_
  intro p e s m args below meth c ls hC hw hl
  replace hl : lv_has ls 1 [(0, .int x0)] := hl
  have hx := hC.1
  have hb := hC.2.1
  unfold f_X1_sidesOf at hf
  refine lv_iload_n hx hb dX1_sidesOf_0 rfl (lv_at hl 0 rfl) ?_
  refine lv_bipush (v := 7) hx hb dX1_sidesOf_1 (by decide) ?_
  refine lv_icmp_ge (tgt := 10) hx hb dX1_sidesOf_3 (by decide) (fun hc => ?_) (fun hc => ?_)
  · replace hf := pw_ifp hc hf
    refine lv_iload_n hx hb dX1_sidesOf_10 rfl (lv_at hl 0 rfl) ?_
    refine lv_bipush (v := 7) hx hb dX1_sidesOf_11 (by decide) ?_
    refine lv_icmp_ne (tgt := 20) hx hb dX1_sidesOf_13 (by decide) (fun hc => ?_) (fun hc => ?_)
    · replace hf := pw_ifn hc hf
      refine lv_iconst (v := 0) hx hb dX1_sidesOf_20 (by decide) ?_
      exact pw_iret hC hw hf dX1_sidesOf_21
    · replace hf := pw_ifp hc hf
      refine lv_iconst (v := 1) hx hb dX1_sidesOf_16 (by decide) ?_
      refine lv_goto (tgt := 21) hx hb dX1_sidesOf_17 (by decide) ?_
      exact pw_iret hC hw hf dX1_sidesOf_21
  · replace hf := pw_ifn hc hf
    refine lv_iconst (v := 2) hx hb dX1_sidesOf_6 (by decide) ?_
    refine lv_goto (tgt := 21) hx hb dX1_sidesOf_7 (by decide) ?_
    exact pw_iret hC hw hf dX1_sidesOf_21
-- PerhapsWas$History place
def f_X2_place (x0 : Int32) (x1 : Int32) (σ : pw_St) : Option (Int32 × pw_St) := (some (((x0 * (6 : Int32)) + x1), σ))
def rm_X2_place : Room := { frames := 0, cells := 0, slots := 0, locals := 0 }
set_option maxHeartbeats 4000000 in
set_option maxRecDepth 100000 in
theorem c_X2_place {l : Launch} {G : pw_Gh} {x0 : Int32} {x1 : Int32} {σ : pw_St} {r : Int32} {τ : pw_St} (hf : f_X2_place x0 x1 σ = some (r, τ)) : Met l yX2_place (.code yX2_place cX2_place 2 (some .int) :: pw_BW) rm_X2_place (pw_Pc G [.int x0, .int x1] σ) (pw_Qi G r τ) 0 0 (pw_gA G) := by
  refine pw_met (by decide +kernel) (Nat.le_of_ble_eq_true rfl) ?_
  intro p e s m args below meth c ls hC hw hl
  replace hl : lv_has ls 2 [(0, .int x0), (1, .int x1)] := hl
  have hx := hC.1
  have hb := hC.2.1
  unfold f_X2_place at hf
  refine lv_iload_n hx hb dX2_place_0 rfl (lv_at hl 0 rfl) ?_
  refine lv_bipush (v := 6) hx hb dX2_place_1 (by decide) ?_
  refine lv_imul hx hb dX2_place_3 ?_
  refine lv_iload_n hx hb dX2_place_4 rfl (lv_at hl 1 rfl) ?_
  refine lv_iadd hx hb dX2_place_5 ?_
  exact pw_iret hC hw hf dX2_place_6
-- PerhapsWas$History valuePlace
def f_X2_valuePlace (x0 : Int32) (x1 : Int32) (x2 : Int32) (σ : pw_St) : Option (Int32 × pw_St) := (some (((((x0 * (7 : Int32)) + x1) * (3 : Int32)) + x2), σ))
def rm_X2_valuePlace : Room := { frames := 0, cells := 0, slots := 0, locals := 0 }
set_option maxHeartbeats 4000000 in
set_option maxRecDepth 100000 in
theorem c_X2_valuePlace {l : Launch} {G : pw_Gh} {x0 : Int32} {x1 : Int32} {x2 : Int32} {σ : pw_St} {r : Int32} {τ : pw_St} (hf : f_X2_valuePlace x0 x1 x2 σ = some (r, τ)) : Met l yX2_valuePlace (.code yX2_valuePlace cX2_valuePlace 3 (some .int) :: pw_BW) rm_X2_valuePlace (pw_Pc G [.int x0, .int x1, .int x2] σ) (pw_Qi G r τ) 0 0 (pw_gA G) := by
  refine pw_met (by decide +kernel) (Nat.le_of_ble_eq_true rfl) ?_
  intro p e s m args below meth c ls hC hw hl
  replace hl : lv_has ls 3 [(0, .int x0), (1, .int x1), (2, .int x2)] := hl
  have hx := hC.1
  have hb := hC.2.1
  unfold f_X2_valuePlace at hf
  refine lv_iload_n hx hb dX2_valuePlace_0 rfl (lv_at hl 0 rfl) ?_
  refine lv_bipush (v := 7) hx hb dX2_valuePlace_1 (by decide) ?_
  refine lv_imul hx hb dX2_valuePlace_3 ?_
  refine lv_iload_n hx hb dX2_valuePlace_4 rfl (lv_at hl 1 rfl) ?_
  refine lv_iadd hx hb dX2_valuePlace_5 ?_
  refine lv_iconst (v := 3) hx hb dX2_valuePlace_6 (by decide) ?_
  refine lv_imul hx hb dX2_valuePlace_7 ?_
  refine lv_iload_n hx hb dX2_valuePlace_8 rfl (lv_at hl 2 rfl) ?_
  refine lv_iadd hx hb dX2_valuePlace_9 ?_
  exact pw_iret hC hw hf dX2_valuePlace_10
-- PerhapsWas$History hasProcess
def f_X2_hasProcess (x1 : Int32) (σ : pw_St) : Option (Int32 × pw_St) := (if x1 < 0 then (if pw_isb (0 : Int32) = true then some ((0 : Int32), σ) else none) else (if (σ.1 1 8) ≤ x1 then (if pw_isb (0 : Int32) = true then some ((0 : Int32), σ) else none) else (if pw_isb (1 : Int32) = true then some ((1 : Int32), σ) else none)))
def rm_X2_hasProcess : Room := { frames := 0, cells := 0, slots := 0, locals := 0 }
set_option maxHeartbeats 4000000 in
set_option maxRecDepth 100000 in
theorem c_X2_hasProcess {l : Launch} {G : pw_Gh} {x1 : Int32} {σ : pw_St} {r : Int32} {τ : pw_St} (hf : f_X2_hasProcess x1 σ = some (r, τ)) : Met l yX2_hasProcess (.code yX2_hasProcess cX2_hasProcess 2 (some .boolean) :: pw_BW) rm_X2_hasProcess (pw_Pc G [.ref (pw_ad G 1), .int x1] σ) (pw_Qi G r τ) 0 0 (pw_gA G) := by
  refine pw_met (by decide +kernel) (Nat.le_of_ble_eq_true rfl) ?_
  intro p e s m args below meth c ls hC hw hl
  replace hl : lv_has ls 2 [(0, .ref (pw_ad G 1)), (1, .int x1)] := hl
  have hx := hC.1
  have hb := hC.2.1
  unfold f_X2_hasProcess at hf
  refine lv_iload_n hx hb dX2_hasProcess_0 rfl (lv_at hl 1 rfl) ?_
  refine lv_if_lt (tgt := 16) hx hb dX2_hasProcess_1 (by decide) (fun hc => ?_) (fun hc => ?_)
  · replace hf := pw_ifp hc hf
    refine lv_iconst (v := 0) hx hb dX2_hasProcess_16 (by decide) ?_
    exact pw_zret hC hw hf dX2_hasProcess_17
  · replace hf := pw_ifn hc hf
    refine lv_iload_n hx hb dX2_hasProcess_4 rfl (lv_at hl 1 rfl) ?_
    refine lv_aload_n hx hb dX2_hasProcess_5 rfl (lv_at hl 0 rfl) ?_
    refine pg_1_8 hC hw mw_117 dX2_hasProcess_6 ?_
    refine lv_icmp_ge (tgt := 16) hx hb dX2_hasProcess_9 (by decide) (fun hc => ?_) (fun hc => ?_)
    · replace hf := pw_ifp hc hf
      refine lv_iconst (v := 0) hx hb dX2_hasProcess_16 (by decide) ?_
      exact pw_zret hC hw hf dX2_hasProcess_17
    · replace hf := pw_ifn hc hf
      refine lv_iconst (v := 1) hx hb dX2_hasProcess_12 (by decide) ?_
      refine lv_goto (tgt := 17) hx hb dX2_hasProcess_13 (by decide) ?_
      exact pw_zret hC hw hf dX2_hasProcess_17
-- PerhapsWas$History hasEvent
def f_X2_hasEvent (x1 : Int32) (x2 : Int32) (σ : pw_St) : Option (Int32 × pw_St) := (pw_bi (f_X2_hasProcess x1 σ) fun r1 σ1 => (if r1 = 0 then (if pw_isb (0 : Int32) = true then some ((0 : Int32), σ1) else none) else (if x2 < 0 then (if pw_isb (0 : Int32) = true then some ((0 : Int32), σ1) else none) else (if pw_in x1 4 = true then (if (σ1.1 11 x1.toNatClampNeg) ≤ x2 then (if pw_isb (0 : Int32) = true then some ((0 : Int32), σ1) else none) else (if pw_isb (1 : Int32) = true then some ((1 : Int32), σ1) else none)) else none))))
def rm_X2_hasEvent : Room := { frames := 1, cells := 0, slots := 0, locals := 21 }
set_option maxHeartbeats 4000000 in
set_option maxRecDepth 100000 in
theorem c_X2_hasEvent {l : Launch} {G : pw_Gh} {x1 : Int32} {x2 : Int32} {σ : pw_St} {r : Int32} {τ : pw_St} (hf : f_X2_hasEvent x1 x2 σ = some (r, τ)) : Met l yX2_hasEvent (.code yX2_hasEvent cX2_hasEvent 3 (some .boolean) :: pw_BW) rm_X2_hasEvent (pw_Pc G [.ref (pw_ad G 1), .int x1, .int x2] σ) (pw_Qi G r τ) 0 0 (pw_gA G) := by
  refine pw_met (by decide +kernel) (Nat.le_of_ble_eq_true rfl) ?_
  intro p e s m args below meth c ls hC hw hl
  replace hl : lv_has ls 3 [(0, .ref (pw_ad G 1)), (1, .int x1), (2, .int x2)] := hl
  have hx := hC.1
  have hb := hC.2.1
  unfold f_X2_hasEvent at hf
  refine lv_aload_n hx hb dX2_hasEvent_0 rfl (lv_at hl 0 rfl) ?_
  refine lv_iload_n hx hb dX2_hasEvent_1 rfl (lv_at hl 1 rfl) ?_
  obtain ⟨r1, σ1, h1, hf⟩ := pw_bi_some hf
  refine pw_ci hw (pw_runV (As := [.int x1]) (rest := []) hC hw (c_X2_hasProcess  h1) mw_422 wm_X2_hasProcess ⟨Nat.zero_le _, Nat.zero_le _⟩ ⟨rfl, rfl, Nat.le_of_ble_eq_true rfl, Nat.le_of_ble_eq_true rfl⟩ (by decide) rfl rfl rfl hl.1 rfl (Nat.le_of_ble_eq_true rfl) dX2_hasEvent_2) (fun H locs hw => ?_)
  refine lv_if_eq (tgt := 26) hx hb dX2_hasEvent_5 (by decide) (fun hc => ?_) (fun hc => ?_)
  · replace hf := pw_ifp hc hf
    refine lv_iconst (v := 0) hx hb dX2_hasEvent_26 (by decide) ?_
    exact pw_zret hC hw hf dX2_hasEvent_27
  · replace hf := pw_ifn hc hf
    refine lv_iload_n hx hb dX2_hasEvent_8 rfl (lv_at hl 2 rfl) ?_
    refine lv_if_lt (tgt := 26) hx hb dX2_hasEvent_9 (by decide) (fun hc => ?_) (fun hc => ?_)
    · replace hf := pw_ifp hc hf
      refine lv_iconst (v := 0) hx hb dX2_hasEvent_26 (by decide) ?_
      exact pw_zret hC hw hf dX2_hasEvent_27
    · replace hf := pw_ifn hc hf
      refine lv_iload_n hx hb dX2_hasEvent_12 rfl (lv_at hl 2 rfl) ?_
      refine lv_aload_n hx hb dX2_hasEvent_13 rfl (lv_at hl 0 rfl) ?_
      refine pg_1_1 hC hw mw_103 dX2_hasEvent_14 ?_
      refine lv_iload_n hx hb dX2_hasEvent_17 rfl (lv_at hl 1 rfl) ?_
      obtain ⟨hin, hf⟩ := pw_gd hf
      refine pw_ild hC hw ca_11 hin dX2_hasEvent_18 ?_
      refine lv_icmp_ge (tgt := 26) hx hb dX2_hasEvent_19 (by decide) (fun hc => ?_) (fun hc => ?_)
      · replace hf := pw_ifp hc hf
        refine lv_iconst (v := 0) hx hb dX2_hasEvent_26 (by decide) ?_
        exact pw_zret hC hw hf dX2_hasEvent_27
      · replace hf := pw_ifn hc hf
        refine lv_iconst (v := 1) hx hb dX2_hasEvent_22 (by decide) ?_
        refine lv_goto (tgt := 27) hx hb dX2_hasEvent_23 (by decide) ?_
        exact pw_zret hC hw hf dX2_hasEvent_27
-- PerhapsWas$History hasCut
def b_X2_hasCut_17 (k17 : Int32 → Int32 → pw_St → Option (Int32 × pw_St)) (x2 : Int32) (x3 : Int32) (σ : pw_St) : Option (Int32 × pw_St) := (if (4 : Int32) ≤ x3 then (if pw_isb (1 : Int32) = true then some ((1 : Int32), σ) else none) else (if pw_in x3 4 = true then (if (x2 - x2 / (7 : Int32) * (7 : Int32)) ≤ (σ.1 11 x3.toNatClampNeg) then (k17 (x2 / (7 : Int32)) (x3 + (1 : Int32)) σ) else (if pw_isb (0 : Int32) = true then some ((0 : Int32), σ) else none)) else none))
def l_X2_hasCut_17 : Nat → Int32 → Int32 → pw_St → Option (Int32 × pw_St)
  | 0 => fun _ _ _ => none
  | n + 1 => fun x2 x3 σ => b_X2_hasCut_17  (l_X2_hasCut_17  n) x2 x3 σ
def f_X2_hasCut (x1 : Int32) (σ : pw_St) : Option (Int32 × pw_St) := (if x1 < 0 then (if pw_isb (0 : Int32) = true then some ((0 : Int32), σ) else none) else (if x1 < (2401 : Int32) then (l_X2_hasCut_17  pw_FU x1 (0 : Int32) σ) else (if pw_isb (0 : Int32) = true then some ((0 : Int32), σ) else none)))
def rm_X2_hasCut : Room := { frames := 0, cells := 0, slots := 0, locals := 0 }
set_option maxHeartbeats 4000000 in
set_option maxRecDepth 100000 in
theorem t_X2_hasCut_17 (hC : pw_CX G RX2 cX2_hasCut 4 (some .boolean) p s m args meth c) {k17 : Int32 → Int32 → pw_St → Option (Int32 × pw_St)} {r : Int32} {τ : pw_St} (hk17 : ∀ (x2 : Int32), ∀ (x3 : Int32), ∀ (σ : pw_St) (H : Heap) (locs : List Loc) (ls : Array Slot), pw_WH G σ s.heap H locs → lv_has ls 4 [(0, .ref (pw_ad G 1)), (2, .int x2), (3, .int x3)] → k17 x2 x3 σ = some (r, τ) → W p l e rm_X2_hasCut s m args below meth c H locs 0 0 (MQ below (pw_Qi G r τ) args s 0 0 (pw_gA G)) (F0 m 17 ls [])) {x2 : Int32} {x3 : Int32} {σ : pw_St} {H : Heap} {locs : List Loc} {ls : Array Slot} (hw : pw_WH G σ s.heap H locs) (hl : lv_has ls 4 [(0, .ref (pw_ad G 1)), (2, .int x2), (3, .int x3)]) (hf : b_X2_hasCut_17 k17 x2 x3 σ = some (r, τ)) : W p l e rm_X2_hasCut s m args below meth c H locs 0 0 (MQ below (pw_Qi G r τ) args s 0 0 (pw_gA G)) (F0 m 17 ls []) := by
  have hx := hC.1
  have hb := hC.2.1
  unfold b_X2_hasCut_17 at hf
  refine lv_iload_n hx hb dX2_hasCut_17 rfl (lv_at hl 2 rfl) ?_
  refine lv_iconst (v := 4) hx hb dX2_hasCut_18 (by decide) ?_
  refine lv_icmp_ge (tgt := 48) hx hb dX2_hasCut_19 (by decide) (fun hc => ?_) (fun hc => ?_)
  · replace hf := pw_ifp hc hf
    refine lv_iconst (v := 1) hx hb dX2_hasCut_48 (by decide) ?_
    exact pw_zret hC hw hf dX2_hasCut_49
  · replace hf := pw_ifn hc hf
    refine lv_iload_n hx hb dX2_hasCut_22 rfl (lv_at hl 1 rfl) ?_
    refine lv_bipush (v := 7) hx hb dX2_hasCut_23 (by decide) ?_
    refine lv_irem hx hb dX2_hasCut_25 (by decide) ?_
    refine lv_aload_n hx hb dX2_hasCut_26 rfl (lv_at hl 0 rfl) ?_
    refine pg_1_1 hC hw mw_103 dX2_hasCut_27 ?_
    refine lv_iload_n hx hb dX2_hasCut_30 rfl (lv_at hl 2 rfl) ?_
    obtain ⟨hin, hf⟩ := pw_gd hf
    refine pw_ild hC hw ca_11 hin dX2_hasCut_31 ?_
    refine lv_icmp_le (tgt := 37) hx hb dX2_hasCut_32 (by decide) (fun hc => ?_) (fun hc => ?_)
    · replace hf := pw_ifp hc hf
      refine lv_iload_n hx hb dX2_hasCut_37 rfl (lv_at hl 1 rfl) ?_
      refine lv_bipush (v := 7) hx hb dX2_hasCut_38 (by decide) ?_
      refine lv_idiv hx hb dX2_hasCut_40 (by decide) ?_
      refine lv_istore_n (lv' := [(2, .int (x2 / (7 : Int32))), (0, .ref (pw_ad G 1)), (3, .int x3)]) hx hb dX2_hasCut_41 rfl hl (by decide) rfl (fun ls hl => ?_)
      refine lv_iinc (v := (x3 + (1 : Int32))) (lv' := [(3, .int (x3 + (1 : Int32))), (2, .int (x2 / (7 : Int32))), (0, .ref (pw_ad G 1))]) hx hb dX2_hasCut_42 hl (k := 2) rfl rfl (by decide) rfl (fun ls hl => ?_)
      refine lv_goto (tgt := 17) hx hb dX2_hasCut_45 (by decide) ?_
      exact hk17 _ _ _ _ _ _ hw (lv_sub hl [2, 1, 0] rfl) hf
    · replace hf := pw_ifn hc hf
      refine lv_iconst (v := 0) hx hb dX2_hasCut_35 (by decide) ?_
      exact pw_zret hC hw hf dX2_hasCut_36
set_option maxHeartbeats 4000000 in
theorem tl_X2_hasCut_17 (hC : pw_CX G RX2 cX2_hasCut 4 (some .boolean) p s m args meth c) {r : Int32} {τ : pw_St} : ∀ (n : Nat) (x2 : Int32) (x3 : Int32) (σ : pw_St) (H : Heap) (locs : List Loc) (ls : Array Slot), pw_WH G σ s.heap H locs → lv_has ls 4 [(0, .ref (pw_ad G 1)), (2, .int x2), (3, .int x3)] → l_X2_hasCut_17  n x2 x3 σ = some (r, τ) → W p l e rm_X2_hasCut s m args below meth c H locs 0 0 (MQ below (pw_Qi G r τ) args s 0 0 (pw_gA G)) (F0 m 17 ls []) := by
  intro n
  induction n with
  | zero => intro x2 x3 σ H locs ls hw hl hf; cases hf
  | succ n ih => intro x2 x3 σ H locs ls hw hl hf; exact t_X2_hasCut_17 hC ih  hw hl hf
set_option maxHeartbeats 4000000 in
set_option maxRecDepth 100000 in
theorem c_X2_hasCut {l : Launch} {G : pw_Gh} {x1 : Int32} {σ : pw_St} {r : Int32} {τ : pw_St} (hf : f_X2_hasCut x1 σ = some (r, τ)) : Met l yX2_hasCut (.code yX2_hasCut cX2_hasCut 4 (some .boolean) :: pw_BW) rm_X2_hasCut (pw_Pc G [.ref (pw_ad G 1), .int x1] σ) (pw_Qi G r τ) 0 0 (pw_gA G) := by
  refine pw_met (by decide +kernel) (Nat.le_of_ble_eq_true rfl) ?_
  intro p e s m args below meth c ls hC hw hl
  replace hl : lv_has ls 4 [(0, .ref (pw_ad G 1)), (1, .int x1)] := hl
  have hx := hC.1
  have hb := hC.2.1
  unfold f_X2_hasCut at hf
  refine lv_iload_n hx hb dX2_hasCut_0 rfl (lv_at hl 1 rfl) ?_
  refine lv_if_lt (tgt := 11) hx hb dX2_hasCut_1 (by decide) (fun hc => ?_) (fun hc => ?_)
  · replace hf := pw_ifp hc hf
    refine lv_iconst (v := 0) hx hb dX2_hasCut_11 (by decide) ?_
    exact pw_zret hC hw hf dX2_hasCut_12
  · replace hf := pw_ifn hc hf
    refine lv_iload_n hx hb dX2_hasCut_4 rfl (lv_at hl 1 rfl) ?_
    refine lv_sipush (v := 2401) hx hb dX2_hasCut_5 (by decide) ?_
    refine lv_icmp_lt (tgt := 13) hx hb dX2_hasCut_8 (by decide) (fun hc => ?_) (fun hc => ?_)
    · replace hf := pw_ifp hc hf
      refine lv_iload_n hx hb dX2_hasCut_13 rfl (lv_at hl 1 rfl) ?_
      refine lv_istore_n (lv' := [(2, .int x1), (0, .ref (pw_ad G 1)), (1, .int x1)]) hx hb dX2_hasCut_14 rfl hl (by decide) rfl (fun ls hl => ?_)
      refine lv_iconst (v := 0) hx hb dX2_hasCut_15 (by decide) ?_
      refine lv_istore_n (lv' := [(3, .int (0 : Int32)), (2, .int x1), (0, .ref (pw_ad G 1)), (1, .int x1)]) hx hb dX2_hasCut_16 rfl hl (by decide) rfl (fun ls hl => ?_)
      exact tl_X2_hasCut_17 hC  pw_FU _ _ _ _ _ _ hw (lv_sub hl [2, 1, 0] rfl) hf
    · replace hf := pw_ifn hc hf
      refine lv_iconst (v := 0) hx hb dX2_hasCut_11 (by decide) ?_
      exact pw_zret hC hw hf dX2_hasCut_12
-- PerhapsWas$History isFull
def f_X2_isFull (x1 : Int32) (σ : pw_St) : Option (Int32 × pw_St) := (if pw_in x1 4 = true then (if (σ.1 11 x1.toNatClampNeg) < (6 : Int32) then (if pw_isb (0 : Int32) = true then some ((0 : Int32), σ) else none) else (if pw_isb (1 : Int32) = true then some ((1 : Int32), σ) else none)) else none)
def rm_X2_isFull : Room := { frames := 0, cells := 0, slots := 0, locals := 0 }
set_option maxHeartbeats 4000000 in
set_option maxRecDepth 100000 in
theorem c_X2_isFull {l : Launch} {G : pw_Gh} {x1 : Int32} {σ : pw_St} {r : Int32} {τ : pw_St} (hf : f_X2_isFull x1 σ = some (r, τ)) : Met l yX2_isFull (.code yX2_isFull cX2_isFull 2 (some .boolean) :: pw_BW) rm_X2_isFull (pw_Pc G [.ref (pw_ad G 1), .int x1] σ) (pw_Qi G r τ) 0 0 (pw_gA G) := by
  refine pw_met (by decide +kernel) (Nat.le_of_ble_eq_true rfl) ?_
  intro p e s m args below meth c ls hC hw hl
  replace hl : lv_has ls 2 [(0, .ref (pw_ad G 1)), (1, .int x1)] := hl
  have hx := hC.1
  have hb := hC.2.1
  unfold f_X2_isFull at hf
  refine lv_aload_n hx hb dX2_isFull_0 rfl (lv_at hl 0 rfl) ?_
  refine pg_1_1 hC hw mw_103 dX2_isFull_1 ?_
  refine lv_iload_n hx hb dX2_isFull_4 rfl (lv_at hl 1 rfl) ?_
  obtain ⟨hin, hf⟩ := pw_gd hf
  refine pw_ild hC hw ca_11 hin dX2_isFull_5 ?_
  refine lv_bipush (v := 6) hx hb dX2_isFull_6 (by decide) ?_
  refine lv_icmp_lt (tgt := 15) hx hb dX2_isFull_8 (by decide) (fun hc => ?_) (fun hc => ?_)
  · replace hf := pw_ifp hc hf
    refine lv_iconst (v := 0) hx hb dX2_isFull_15 (by decide) ?_
    exact pw_zret hC hw hf dX2_isFull_16
  · replace hf := pw_ifn hc hf
    refine lv_iconst (v := 1) hx hb dX2_isFull_11 (by decide) ?_
    refine lv_goto (tgt := 16) hx hb dX2_isFull_12 (by decide) ?_
    exact pw_zret hC hw hf dX2_isFull_16
-- PerhapsWas$History clockOf
def f_X2_clockOf (x1 : Int32) (x2 : Int32) (x3 : Int32) (σ : pw_St) : Option (Int32 × pw_St) := (if pw_in ((((x1 * (6 : Int32)) + x2) * (4 : Int32)) + x3) 96 = true then (some ((σ.1 16 ((((x1 * (6 : Int32)) + x2) * (4 : Int32)) + x3).toNatClampNeg), σ)) else none)
def rm_X2_clockOf : Room := { frames := 0, cells := 0, slots := 0, locals := 0 }
set_option maxHeartbeats 4000000 in
set_option maxRecDepth 100000 in
theorem c_X2_clockOf {l : Launch} {G : pw_Gh} {x1 : Int32} {x2 : Int32} {x3 : Int32} {σ : pw_St} {r : Int32} {τ : pw_St} (hf : f_X2_clockOf x1 x2 x3 σ = some (r, τ)) : Met l yX2_clockOf (.code yX2_clockOf cX2_clockOf 4 (some .int) :: pw_BW) rm_X2_clockOf (pw_Pc G [.ref (pw_ad G 1), .int x1, .int x2, .int x3] σ) (pw_Qi G r τ) 0 0 (pw_gA G) := by
  refine pw_met (by decide +kernel) (Nat.le_of_ble_eq_true rfl) ?_
  intro p e s m args below meth c ls hC hw hl
  replace hl : lv_has ls 4 [(0, .ref (pw_ad G 1)), (1, .int x1), (2, .int x2), (3, .int x3)] := hl
  have hx := hC.1
  have hb := hC.2.1
  unfold f_X2_clockOf at hf
  refine lv_aload_n hx hb dX2_clockOf_0 rfl (lv_at hl 0 rfl) ?_
  refine pg_1_6 hC hw mw_113 dX2_clockOf_1 ?_
  refine lv_iload_n hx hb dX2_clockOf_4 rfl (lv_at hl 1 rfl) ?_
  refine lv_bipush (v := 6) hx hb dX2_clockOf_5 (by decide) ?_
  refine lv_imul hx hb dX2_clockOf_7 ?_
  refine lv_iload_n hx hb dX2_clockOf_8 rfl (lv_at hl 2 rfl) ?_
  refine lv_iadd hx hb dX2_clockOf_9 ?_
  refine lv_iconst (v := 4) hx hb dX2_clockOf_10 (by decide) ?_
  refine lv_imul hx hb dX2_clockOf_11 ?_
  refine lv_iload_n hx hb dX2_clockOf_12 rfl (lv_at hl 3 rfl) ?_
  refine lv_iadd hx hb dX2_clockOf_13 ?_
  obtain ⟨hin, hf⟩ := pw_gd hf
  refine pw_ild hC hw ca_16 hin dX2_clockOf_14 ?_
  exact pw_iret hC hw hf dX2_clockOf_15
-- PerhapsWas$History leastWith
def b_X2_leastWith_5 (k5 : Int32 → Int32 → Int32 → Int32 → pw_St → Option (Int32 × pw_St)) (x1 : Int32) (x2 : Int32) (x3 : Int32) (x4 : Int32) (σ : pw_St) : Option (Int32 × pw_St) := (if (4 : Int32) ≤ x4 then (some (x3, σ)) else (pw_bi (f_X2_clockOf x1 x2 x4 σ) fun r1 σ1 => (if pw_in x4 4 = true then (k5 x1 x2 (x3 + (r1 * (pw_wt x4.toNatClampNeg))) (x4 + (1 : Int32)) σ1) else none)))
def l_X2_leastWith_5 : Nat → Int32 → Int32 → Int32 → Int32 → pw_St → Option (Int32 × pw_St)
  | 0 => fun _ _ _ _ _ => none
  | n + 1 => fun x1 x2 x3 x4 σ => b_X2_leastWith_5  (l_X2_leastWith_5  n) x1 x2 x3 x4 σ
def f_X2_leastWith (x1 : Int32) (x2 : Int32) (σ : pw_St) : Option (Int32 × pw_St) := (l_X2_leastWith_5  pw_FU x1 x2 (0 : Int32) (0 : Int32) σ)
def rm_X2_leastWith : Room := { frames := 1, cells := 0, slots := 0, locals := 23 }
set_option maxHeartbeats 4000000 in
set_option maxRecDepth 100000 in
theorem t_X2_leastWith_5 (hC : pw_CX G RX2 cX2_leastWith 5 (some .int) p s m args meth c) {k5 : Int32 → Int32 → Int32 → Int32 → pw_St → Option (Int32 × pw_St)} {r : Int32} {τ : pw_St} (hk5 : ∀ (x1 : Int32), ∀ (x2 : Int32), ∀ (x3 : Int32), ∀ (x4 : Int32), ∀ (σ : pw_St) (H : Heap) (locs : List Loc) (ls : Array Slot), pw_WH G σ s.heap H locs → lv_has ls 5 [(0, .ref (pw_ad G 1)), (1, .int x1), (2, .int x2), (3, .int x3), (4, .int x4)] → k5 x1 x2 x3 x4 σ = some (r, τ) → W p l e rm_X2_leastWith s m args below meth c H locs 0 0 (MQ below (pw_Qi G r τ) args s 0 0 (pw_gA G)) (F0 m 5 ls [])) {x1 : Int32} {x2 : Int32} {x3 : Int32} {x4 : Int32} {σ : pw_St} {H : Heap} {locs : List Loc} {ls : Array Slot} (hw : pw_WH G σ s.heap H locs) (hl : lv_has ls 5 [(0, .ref (pw_ad G 1)), (1, .int x1), (2, .int x2), (3, .int x3), (4, .int x4)]) (hf : b_X2_leastWith_5 k5 x1 x2 x3 x4 σ = some (r, τ)) : W p l e rm_X2_leastWith s m args below meth c H locs 0 0 (MQ below (pw_Qi G r τ) args s 0 0 (pw_gA G)) (F0 m 5 ls []) := by
  have hx := hC.1
  have hb := hC.2.1
  unfold b_X2_leastWith_5 at hf
  refine lv_iload hx hb dX2_leastWith_5 (lv_at hl 4 rfl) ?_
  refine lv_iconst (v := 4) hx hb dX2_leastWith_7 (by decide) ?_
  refine lv_icmp_ge (tgt := 35) hx hb dX2_leastWith_8 (by decide) (fun hc => ?_) (fun hc => ?_)
  · replace hf := pw_ifp hc hf
    refine lv_iload_n hx hb dX2_leastWith_35 rfl (lv_at hl 3 rfl) ?_
    exact pw_iret hC hw hf dX2_leastWith_36
  · replace hf := pw_ifn hc hf
    refine lv_iload_n hx hb dX2_leastWith_11 rfl (lv_at hl 3 rfl) ?_
    refine lv_aload_n hx hb dX2_leastWith_12 rfl (lv_at hl 0 rfl) ?_
    refine lv_iload_n hx hb dX2_leastWith_13 rfl (lv_at hl 1 rfl) ?_
    refine lv_iload_n hx hb dX2_leastWith_14 rfl (lv_at hl 2 rfl) ?_
    refine lv_iload hx hb dX2_leastWith_15 (lv_at hl 4 rfl) ?_
    obtain ⟨r1, σ1, h1, hf⟩ := pw_bi_some hf
    refine pw_ci hw (pw_runV (As := [.int x1, .int x2, .int x4]) (rest := [.int x3]) hC hw (c_X2_clockOf  h1) mw_356 wm_X2_clockOf ⟨Nat.zero_le _, Nat.zero_le _⟩ ⟨rfl, rfl, Nat.le_of_ble_eq_true rfl, Nat.le_of_ble_eq_true rfl⟩ (by decide) rfl rfl rfl hl.1 rfl (Nat.le_of_ble_eq_true rfl) dX2_leastWith_17) (fun H locs hw => ?_)
    refine pw_wget hC hw hC.2.2.2.2.2.1.2.2.2.1 dX2_leastWith_20 ?_
    refine lv_iload hx hb dX2_leastWith_23 (lv_at hl 4 rfl) ?_
    obtain ⟨hin, hf⟩ := pw_gd hf
    refine pw_wld hC hw hin dX2_leastWith_25 ?_
    refine lv_imul hx hb dX2_leastWith_26 ?_
    refine lv_iadd hx hb dX2_leastWith_27 ?_
    refine lv_istore_n (lv' := [(3, .int (x3 + (r1 * (pw_wt x4.toNatClampNeg)))), (0, .ref (pw_ad G 1)), (1, .int x1), (2, .int x2), (4, .int x4)]) hx hb dX2_leastWith_28 rfl hl (by decide) rfl (fun ls hl => ?_)
    refine lv_iinc (v := (x4 + (1 : Int32))) (lv' := [(4, .int (x4 + (1 : Int32))), (3, .int (x3 + (r1 * (pw_wt x4.toNatClampNeg)))), (0, .ref (pw_ad G 1)), (1, .int x1), (2, .int x2)]) hx hb dX2_leastWith_29 hl (k := 4) rfl rfl (by decide) rfl (fun ls hl => ?_)
    refine lv_goto (tgt := 5) hx hb dX2_leastWith_32 (by decide) ?_
    exact hk5 _ _ _ _ _ _ _ _ hw (lv_sub hl [2, 3, 4, 1, 0] rfl) hf
set_option maxHeartbeats 4000000 in
theorem tl_X2_leastWith_5 (hC : pw_CX G RX2 cX2_leastWith 5 (some .int) p s m args meth c) {r : Int32} {τ : pw_St} : ∀ (n : Nat) (x1 : Int32) (x2 : Int32) (x3 : Int32) (x4 : Int32) (σ : pw_St) (H : Heap) (locs : List Loc) (ls : Array Slot), pw_WH G σ s.heap H locs → lv_has ls 5 [(0, .ref (pw_ad G 1)), (1, .int x1), (2, .int x2), (3, .int x3), (4, .int x4)] → l_X2_leastWith_5  n x1 x2 x3 x4 σ = some (r, τ) → W p l e rm_X2_leastWith s m args below meth c H locs 0 0 (MQ below (pw_Qi G r τ) args s 0 0 (pw_gA G)) (F0 m 5 ls []) := by
  intro n
  induction n with
  | zero => intro x1 x2 x3 x4 σ H locs ls hw hl hf; cases hf
  | succ n ih => intro x1 x2 x3 x4 σ H locs ls hw hl hf; exact t_X2_leastWith_5 hC ih  hw hl hf
set_option maxHeartbeats 4000000 in
set_option maxRecDepth 100000 in
theorem c_X2_leastWith {l : Launch} {G : pw_Gh} {x1 : Int32} {x2 : Int32} {σ : pw_St} {r : Int32} {τ : pw_St} (hf : f_X2_leastWith x1 x2 σ = some (r, τ)) : Met l yX2_leastWith (.code yX2_leastWith cX2_leastWith 5 (some .int) :: pw_BW) rm_X2_leastWith (pw_Pc G [.ref (pw_ad G 1), .int x1, .int x2] σ) (pw_Qi G r τ) 0 0 (pw_gA G) := by
  refine pw_met (by decide +kernel) (Nat.le_of_ble_eq_true rfl) ?_
  intro p e s m args below meth c ls hC hw hl
  replace hl : lv_has ls 5 [(0, .ref (pw_ad G 1)), (1, .int x1), (2, .int x2)] := hl
  have hx := hC.1
  have hb := hC.2.1
  unfold f_X2_leastWith at hf
  refine lv_iconst (v := 0) hx hb dX2_leastWith_0 (by decide) ?_
  refine lv_istore_n (lv' := [(3, .int (0 : Int32)), (0, .ref (pw_ad G 1)), (1, .int x1), (2, .int x2)]) hx hb dX2_leastWith_1 rfl hl (by decide) rfl (fun ls hl => ?_)
  refine lv_iconst (v := 0) hx hb dX2_leastWith_2 (by decide) ?_
  refine lv_istore (lv' := [(4, .int (0 : Int32)), (3, .int (0 : Int32)), (0, .ref (pw_ad G 1)), (1, .int x1), (2, .int x2)]) hx hb dX2_leastWith_3 hl (by decide) rfl (fun ls hl => ?_)
  exact tl_X2_leastWith_5 hC  pw_FU _ _ _ _ _ _ _ _ hw (lv_sub hl [2, 3, 4, 1, 0] rfl) hf
-- PerhapsWas$History append
def b_X2_append_158 (x1 : Int32) (x4 : Int32) (σ : pw_St) : Option (Int32 × pw_St) := (if pw_in x1 4 = true then (pw_lt (pw_sM σ 11 x1.toNatClampNeg (x4 + (1 : Int32))) fun σ1 => (pw_lt (pw_sM σ1 1 9 ((σ1.1 1 9) + (1 : Int32))) fun σ2 => (pw_lt (pw_sM σ2 1 10 ((σ2.1 1 10) + (1 : Int32))) fun σ3 => (some ((x4 + (1 : Int32)), σ3))))) else none)
def b_X2_append_118 (k118 : Int32 → Int32 → Int32 → pw_St → Option (Int32 × pw_St)) (x1 : Int32) (x4 : Int32) (x6 : Int32) (σ : pw_St) : Option (Int32 × pw_St) := (if (3 : Int32) ≤ x6 then (b_X2_append_158  x1 x4 σ) else (pw_bi (f_X2_valuePlace x1 (x4 + (1 : Int32)) x6 σ) fun r1 σ1 => (pw_bi (f_X2_valuePlace x1 x4 x6 σ1) fun r2 σ2 => (if pw_in r2 84 = true then (if pw_in r1 84 = true then (pw_lt (pw_sM σ2 17 r1.toNatClampNeg (σ2.1 17 r2.toNatClampNeg)) fun σ3 => (k118 x1 x4 (x6 + (1 : Int32)) σ3)) else none) else none))))
def l_X2_append_118 : Nat → Int32 → Int32 → Int32 → pw_St → Option (Int32 × pw_St)
  | 0 => fun _ _ _ _ => none
  | n + 1 => fun x1 x4 x6 σ => b_X2_append_118  (l_X2_append_118  n) x1 x4 x6 σ
def b_X2_append_100 (x1 : Int32) (x4 : Int32) (x5 : Int32) (σ : pw_St) : Option (Int32 × pw_St) := (if pw_in ((x5 * (4 : Int32)) + x1) 96 = true then (pw_lt (pw_sM σ 16 ((x5 * (4 : Int32)) + x1).toNatClampNeg (x4 + (1 : Int32))) fun σ1 => (l_X2_append_118  pw_FU x1 x4 (0 : Int32) σ1)) else none)
def b_X2_append_93 (k56 : Int32 → Int32 → Int32 → Int32 → pw_St → Option (Int32 × pw_St)) (x1 : Int32) (x4 : Int32) (x5 : Int32) (x6 : Int32) (y0 : Int32) (y1 : Int32) (σ : pw_St) : Option (Int32 × pw_St) := (if pw_in y1 96 = true then (pw_lt (pw_sM σ 16 y1.toNatClampNeg y0) fun σ1 => (k56 x1 x4 x5 (x6 + (1 : Int32)) σ1)) else none)
def b_X2_append_56 (k56 : Int32 → Int32 → Int32 → Int32 → pw_St → Option (Int32 × pw_St)) (x1 : Int32) (x4 : Int32) (x5 : Int32) (x6 : Int32) (σ : pw_St) : Option (Int32 × pw_St) := (if (4 : Int32) ≤ x6 then (b_X2_append_100  x1 x4 x5 σ) else (if x4 = 0 then (b_X2_append_93 k56 x1 x4 x5 x6 (0 : Int32) ((x5 * (4 : Int32)) + x6) σ) else (pw_bi (f_X2_clockOf x1 (x4 - (1 : Int32)) x6 σ) fun r1 σ1 => (b_X2_append_93 k56 x1 x4 x5 x6 r1 ((x5 * (4 : Int32)) + x6) σ1))))
def l_X2_append_56 : Nat → Int32 → Int32 → Int32 → Int32 → pw_St → Option (Int32 × pw_St)
  | 0 => fun _ _ _ _ _ => none
  | n + 1 => fun x1 x4 x5 x6 σ => b_X2_append_56  (l_X2_append_56  n) x1 x4 x5 x6 σ
def f_X2_append (x1 : Int32) (x2 : Int32) (x3 : Int32) (σ : pw_St) : Option (Int32 × pw_St) := (if pw_in x1 4 = true then (pw_bi (f_X2_place x1 (σ.1 11 x1.toNatClampNeg) σ) fun r1 σ1 => (if pw_in r1 24 = true then (pw_lt (pw_sM σ1 13 r1.toNatClampNeg x2) fun σ2 => (if pw_in r1 24 = true then (pw_lt (pw_sM σ2 14 r1.toNatClampNeg x3) fun σ3 => (if pw_in r1 24 = true then (pw_lt (pw_sM σ3 15 r1.toNatClampNeg (σ3.1 1 9)) fun σ4 => (if pw_in (σ4.1 1 9) 24 = true then (pw_lt (pw_sM σ4 12 (σ4.1 1 9).toNatClampNeg x1) fun σ5 => (l_X2_append_56  pw_FU x1 (σ.1 11 x1.toNatClampNeg) r1 (0 : Int32) σ5)) else none)) else none)) else none)) else none)) else none)
def rm_X2_append : Room := { frames := 1, cells := 0, slots := 0, locals := 23 }
set_option maxHeartbeats 4000000 in
set_option maxRecDepth 100000 in
theorem t_X2_append_158 (hC : pw_CX G RX2 cX2_append 7 (some .int) p s m args meth c) {r : Int32} {τ : pw_St} {x1 : Int32} {x4 : Int32} {σ : pw_St} {H : Heap} {locs : List Loc} {ls : Array Slot} (hw : pw_WH G σ s.heap H locs) (hl : lv_has ls 7 [(0, .ref (pw_ad G 1)), (1, .int x1), (4, .int x4)]) (hf : b_X2_append_158 x1 x4 σ = some (r, τ)) : W p l e rm_X2_append s m args below meth c H locs 0 0 (MQ below (pw_Qi G r τ) args s 0 0 (pw_gA G)) (F0 m 158 ls []) := by
  have hx := hC.1
  have hb := hC.2.1
  unfold b_X2_append_158 at hf
  refine lv_aload_n hx hb dX2_append_158 rfl (lv_at hl 0 rfl) ?_
  refine pg_1_1 hC hw mw_103 dX2_append_159 ?_
  refine lv_iload_n hx hb dX2_append_162 rfl (lv_at hl 1 rfl) ?_
  refine lv_iload hx hb dX2_append_163 (lv_at hl 2 rfl) ?_
  refine lv_iconst (v := 1) hx hb dX2_append_165 (by decide) ?_
  refine lv_iadd hx hb dX2_append_166 ?_
  obtain ⟨hin, hf⟩ := pw_gd hf
  refine pw_ist hC hw ca_11 hin dX2_append_167 (fun H locs hw => ?_)
  obtain ⟨σ1, e1, hf⟩ := pw_lts hf
  replace hw := pw_WHe e1 hw
  refine lv_aload_n hx hb dX2_append_168 rfl (lv_at hl 0 rfl) ?_
  refine lv_dup hx hb dX2_append_169 rfl ?_
  refine pg_1_9 hC hw mw_119 dX2_append_170 ?_
  refine lv_iconst (v := 1) hx hb dX2_append_173 (by decide) ?_
  refine lv_iadd hx hb dX2_append_174 ?_
  refine pp_1_9 hC hw mw_119 dX2_append_175 (fun H locs hw => ?_)
  obtain ⟨σ2, e2, hf⟩ := pw_lts hf
  replace hw := pw_WHe e2 hw
  refine lv_aload_n hx hb dX2_append_178 rfl (lv_at hl 0 rfl) ?_
  refine lv_dup hx hb dX2_append_179 rfl ?_
  refine pg_1_10 hC hw mw_121 dX2_append_180 ?_
  refine lv_iconst (v := 1) hx hb dX2_append_183 (by decide) ?_
  refine lv_iadd hx hb dX2_append_184 ?_
  refine pp_1_10 hC hw mw_121 dX2_append_185 (fun H locs hw => ?_)
  obtain ⟨σ3, e3, hf⟩ := pw_lts hf
  replace hw := pw_WHe e3 hw
  refine lv_iload hx hb dX2_append_188 (lv_at hl 2 rfl) ?_
  refine lv_iconst (v := 1) hx hb dX2_append_190 (by decide) ?_
  refine lv_iadd hx hb dX2_append_191 ?_
  exact pw_iret hC hw hf dX2_append_192
set_option maxHeartbeats 4000000 in
set_option maxRecDepth 100000 in
theorem t_X2_append_118 (hC : pw_CX G RX2 cX2_append 7 (some .int) p s m args meth c) {k118 : Int32 → Int32 → Int32 → pw_St → Option (Int32 × pw_St)} {r : Int32} {τ : pw_St} (hk118 : ∀ (x1 : Int32), ∀ (x4 : Int32), ∀ (x6 : Int32), ∀ (σ : pw_St) (H : Heap) (locs : List Loc) (ls : Array Slot), pw_WH G σ s.heap H locs → lv_has ls 7 [(0, .ref (pw_ad G 1)), (1, .int x1), (4, .int x4), (6, .int x6)] → k118 x1 x4 x6 σ = some (r, τ) → W p l e rm_X2_append s m args below meth c H locs 0 0 (MQ below (pw_Qi G r τ) args s 0 0 (pw_gA G)) (F0 m 118 ls [])) {x1 : Int32} {x4 : Int32} {x6 : Int32} {σ : pw_St} {H : Heap} {locs : List Loc} {ls : Array Slot} (hw : pw_WH G σ s.heap H locs) (hl : lv_has ls 7 [(0, .ref (pw_ad G 1)), (1, .int x1), (4, .int x4), (6, .int x6)]) (hf : b_X2_append_118 k118 x1 x4 x6 σ = some (r, τ)) : W p l e rm_X2_append s m args below meth c H locs 0 0 (MQ below (pw_Qi G r τ) args s 0 0 (pw_gA G)) (F0 m 118 ls []) := by
  have hx := hC.1
  have hb := hC.2.1
  unfold b_X2_append_118 at hf
  refine lv_iload hx hb dX2_append_118 (lv_at hl 3 rfl) ?_
  refine lv_iconst (v := 3) hx hb dX2_append_120 (by decide) ?_
  refine lv_icmp_ge (tgt := 158) hx hb dX2_append_121 (by decide) (fun hc => ?_) (fun hc => ?_)
  · replace hf := pw_ifp hc hf
    exact t_X2_append_158 hC   hw (lv_sub hl [0, 1, 2] rfl) hf
  · replace hf := pw_ifn hc hf
    refine lv_aload_n hx hb dX2_append_124 rfl (lv_at hl 0 rfl) ?_
    refine pg_1_7 hC hw mw_114 dX2_append_125 ?_
    refine lv_iload_n hx hb dX2_append_128 rfl (lv_at hl 1 rfl) ?_
    refine lv_iload hx hb dX2_append_129 (lv_at hl 2 rfl) ?_
    refine lv_iconst (v := 1) hx hb dX2_append_131 (by decide) ?_
    refine lv_iadd hx hb dX2_append_132 ?_
    refine lv_iload hx hb dX2_append_133 (lv_at hl 3 rfl) ?_
    obtain ⟨r1, σ1, h1, hf⟩ := pw_bi_some hf
    refine pw_ci hw (pw_runS (As := [.int x1, .int (x4 + (1 : Int32)), .int x6]) (rest := [.ref (pw_ad G 17)]) hC hw (c_X2_valuePlace  h1) mw_360 wm_X2_valuePlace ⟨Nat.zero_le _, Nat.zero_le _⟩ ⟨rfl, rfl, Nat.le_of_ble_eq_true rfl, Nat.le_of_ble_eq_true rfl⟩ rfl hl.1 rfl (Nat.le_of_ble_eq_true rfl) dX2_append_135) (fun H locs hw => ?_)
    refine lv_aload_n hx hb dX2_append_138 rfl (lv_at hl 0 rfl) ?_
    refine pg_1_7 hC hw mw_114 dX2_append_139 ?_
    refine lv_iload_n hx hb dX2_append_142 rfl (lv_at hl 1 rfl) ?_
    refine lv_iload hx hb dX2_append_143 (lv_at hl 2 rfl) ?_
    refine lv_iload hx hb dX2_append_145 (lv_at hl 3 rfl) ?_
    obtain ⟨r2, σ2, h2, hf⟩ := pw_bi_some hf
    refine pw_ci hw (pw_runS (As := [.int x1, .int x4, .int x6]) (rest := [.ref (pw_ad G 17), .int r1, .ref (pw_ad G 17)]) hC hw (c_X2_valuePlace  h2) mw_360 wm_X2_valuePlace ⟨Nat.zero_le _, Nat.zero_le _⟩ ⟨rfl, rfl, Nat.le_of_ble_eq_true rfl, Nat.le_of_ble_eq_true rfl⟩ rfl hl.1 rfl (Nat.le_of_ble_eq_true rfl) dX2_append_147) (fun H locs hw => ?_)
    obtain ⟨hin, hf⟩ := pw_gd hf
    refine pw_ild hC hw ca_17 hin dX2_append_150 ?_
    obtain ⟨hin, hf⟩ := pw_gd hf
    refine pw_ist hC hw ca_17 hin dX2_append_151 (fun H locs hw => ?_)
    obtain ⟨σ3, e3, hf⟩ := pw_lts hf
    replace hw := pw_WHe e3 hw
    refine lv_iinc (v := (x6 + (1 : Int32))) (lv' := [(6, .int (x6 + (1 : Int32))), (0, .ref (pw_ad G 1)), (1, .int x1), (4, .int x4)]) hx hb dX2_append_152 hl (k := 3) rfl rfl (by decide) rfl (fun ls hl => ?_)
    refine lv_goto (tgt := 118) hx hb dX2_append_155 (by decide) ?_
    exact hk118 _ _ _ _ _ _ _ hw (lv_sub hl [1, 2, 3, 0] rfl) hf
set_option maxHeartbeats 4000000 in
theorem tl_X2_append_118 (hC : pw_CX G RX2 cX2_append 7 (some .int) p s m args meth c) {r : Int32} {τ : pw_St} : ∀ (n : Nat) (x1 : Int32) (x4 : Int32) (x6 : Int32) (σ : pw_St) (H : Heap) (locs : List Loc) (ls : Array Slot), pw_WH G σ s.heap H locs → lv_has ls 7 [(0, .ref (pw_ad G 1)), (1, .int x1), (4, .int x4), (6, .int x6)] → l_X2_append_118  n x1 x4 x6 σ = some (r, τ) → W p l e rm_X2_append s m args below meth c H locs 0 0 (MQ below (pw_Qi G r τ) args s 0 0 (pw_gA G)) (F0 m 118 ls []) := by
  intro n
  induction n with
  | zero => intro x1 x4 x6 σ H locs ls hw hl hf; cases hf
  | succ n ih => intro x1 x4 x6 σ H locs ls hw hl hf; exact t_X2_append_118 hC ih  hw hl hf
set_option maxHeartbeats 4000000 in
set_option maxRecDepth 100000 in
theorem t_X2_append_100 (hC : pw_CX G RX2 cX2_append 7 (some .int) p s m args meth c) {r : Int32} {τ : pw_St} {x1 : Int32} {x4 : Int32} {x5 : Int32} {σ : pw_St} {H : Heap} {locs : List Loc} {ls : Array Slot} (hw : pw_WH G σ s.heap H locs) (hl : lv_has ls 7 [(0, .ref (pw_ad G 1)), (1, .int x1), (4, .int x4), (5, .int x5)]) (hf : b_X2_append_100 x1 x4 x5 σ = some (r, τ)) : W p l e rm_X2_append s m args below meth c H locs 0 0 (MQ below (pw_Qi G r τ) args s 0 0 (pw_gA G)) (F0 m 100 ls []) := by
  have hx := hC.1
  have hb := hC.2.1
  unfold b_X2_append_100 at hf
  refine lv_aload_n hx hb dX2_append_100 rfl (lv_at hl 0 rfl) ?_
  refine pg_1_6 hC hw mw_113 dX2_append_101 ?_
  refine lv_iload hx hb dX2_append_104 (lv_at hl 3 rfl) ?_
  refine lv_iconst (v := 4) hx hb dX2_append_106 (by decide) ?_
  refine lv_imul hx hb dX2_append_107 ?_
  refine lv_iload_n hx hb dX2_append_108 rfl (lv_at hl 1 rfl) ?_
  refine lv_iadd hx hb dX2_append_109 ?_
  refine lv_iload hx hb dX2_append_110 (lv_at hl 2 rfl) ?_
  refine lv_iconst (v := 1) hx hb dX2_append_112 (by decide) ?_
  refine lv_iadd hx hb dX2_append_113 ?_
  obtain ⟨hin, hf⟩ := pw_gd hf
  refine pw_ist hC hw ca_16 hin dX2_append_114 (fun H locs hw => ?_)
  obtain ⟨σ1, e1, hf⟩ := pw_lts hf
  replace hw := pw_WHe e1 hw
  refine lv_iconst (v := 0) hx hb dX2_append_115 (by decide) ?_
  refine lv_istore (lv' := [(6, .int (0 : Int32)), (0, .ref (pw_ad G 1)), (1, .int x1), (4, .int x4), (5, .int x5)]) hx hb dX2_append_116 hl (by decide) rfl (fun ls hl => ?_)
  exact tl_X2_append_118 hC  pw_FU _ _ _ _ _ _ _ hw (lv_sub hl [1, 2, 3, 0] rfl) hf
set_option maxHeartbeats 4000000 in
set_option maxRecDepth 100000 in
theorem t_X2_append_93 (hC : pw_CX G RX2 cX2_append 7 (some .int) p s m args meth c) {k56 : Int32 → Int32 → Int32 → Int32 → pw_St → Option (Int32 × pw_St)} {r : Int32} {τ : pw_St} (hk56 : ∀ (x1 : Int32), ∀ (x4 : Int32), ∀ (x5 : Int32), ∀ (x6 : Int32), ∀ (σ : pw_St) (H : Heap) (locs : List Loc) (ls : Array Slot), pw_WH G σ s.heap H locs → lv_has ls 7 [(0, .ref (pw_ad G 1)), (1, .int x1), (4, .int x4), (5, .int x5), (6, .int x6)] → k56 x1 x4 x5 x6 σ = some (r, τ) → W p l e rm_X2_append s m args below meth c H locs 0 0 (MQ below (pw_Qi G r τ) args s 0 0 (pw_gA G)) (F0 m 56 ls [])) {x1 : Int32} {x4 : Int32} {x5 : Int32} {x6 : Int32} {y0 : Int32} {y1 : Int32} {σ : pw_St} {H : Heap} {locs : List Loc} {ls : Array Slot} (hw : pw_WH G σ s.heap H locs) (hl : lv_has ls 7 [(0, .ref (pw_ad G 1)), (1, .int x1), (4, .int x4), (5, .int x5), (6, .int x6)]) (hf : b_X2_append_93 k56 x1 x4 x5 x6 y0 y1 σ = some (r, τ)) : W p l e rm_X2_append s m args below meth c H locs 0 0 (MQ below (pw_Qi G r τ) args s 0 0 (pw_gA G)) (F0 m 93 ls [.int y0, .int y1, .ref (pw_ad G 16)]) := by
  have hx := hC.1
  have hb := hC.2.1
  unfold b_X2_append_93 at hf
  obtain ⟨hin, hf⟩ := pw_gd hf
  refine pw_ist hC hw ca_16 hin dX2_append_93 (fun H locs hw => ?_)
  obtain ⟨σ1, e1, hf⟩ := pw_lts hf
  replace hw := pw_WHe e1 hw
  refine lv_iinc (v := (x6 + (1 : Int32))) (lv' := [(6, .int (x6 + (1 : Int32))), (0, .ref (pw_ad G 1)), (1, .int x1), (4, .int x4), (5, .int x5)]) hx hb dX2_append_94 hl (k := 4) rfl rfl (by decide) rfl (fun ls hl => ?_)
  refine lv_goto (tgt := 56) hx hb dX2_append_97 (by decide) ?_
  exact hk56 _ _ _ _ _ _ _ _ hw (lv_sub hl [1, 2, 3, 4, 0] rfl) hf
set_option maxHeartbeats 4000000 in
set_option maxRecDepth 100000 in
theorem t_X2_append_56 (hC : pw_CX G RX2 cX2_append 7 (some .int) p s m args meth c) {k56 : Int32 → Int32 → Int32 → Int32 → pw_St → Option (Int32 × pw_St)} {r : Int32} {τ : pw_St} (hk56 : ∀ (x1 : Int32), ∀ (x4 : Int32), ∀ (x5 : Int32), ∀ (x6 : Int32), ∀ (σ : pw_St) (H : Heap) (locs : List Loc) (ls : Array Slot), pw_WH G σ s.heap H locs → lv_has ls 7 [(0, .ref (pw_ad G 1)), (1, .int x1), (4, .int x4), (5, .int x5), (6, .int x6)] → k56 x1 x4 x5 x6 σ = some (r, τ) → W p l e rm_X2_append s m args below meth c H locs 0 0 (MQ below (pw_Qi G r τ) args s 0 0 (pw_gA G)) (F0 m 56 ls [])) {x1 : Int32} {x4 : Int32} {x5 : Int32} {x6 : Int32} {σ : pw_St} {H : Heap} {locs : List Loc} {ls : Array Slot} (hw : pw_WH G σ s.heap H locs) (hl : lv_has ls 7 [(0, .ref (pw_ad G 1)), (1, .int x1), (4, .int x4), (5, .int x5), (6, .int x6)]) (hf : b_X2_append_56 k56 x1 x4 x5 x6 σ = some (r, τ)) : W p l e rm_X2_append s m args below meth c H locs 0 0 (MQ below (pw_Qi G r τ) args s 0 0 (pw_gA G)) (F0 m 56 ls []) := by
  have hx := hC.1
  have hb := hC.2.1
  unfold b_X2_append_56 at hf
  refine lv_iload hx hb dX2_append_56 (lv_at hl 4 rfl) ?_
  refine lv_iconst (v := 4) hx hb dX2_append_58 (by decide) ?_
  refine lv_icmp_ge (tgt := 100) hx hb dX2_append_59 (by decide) (fun hc => ?_) (fun hc => ?_)
  · replace hf := pw_ifp hc hf
    exact t_X2_append_100 hC   hw (lv_sub hl [0, 1, 2, 3] rfl) hf
  · replace hf := pw_ifn hc hf
    refine lv_aload_n hx hb dX2_append_62 rfl (lv_at hl 0 rfl) ?_
    refine pg_1_6 hC hw mw_113 dX2_append_63 ?_
    refine lv_iload hx hb dX2_append_66 (lv_at hl 3 rfl) ?_
    refine lv_iconst (v := 4) hx hb dX2_append_68 (by decide) ?_
    refine lv_imul hx hb dX2_append_69 ?_
    refine lv_iload hx hb dX2_append_70 (lv_at hl 4 rfl) ?_
    refine lv_iadd hx hb dX2_append_72 ?_
    refine lv_iload hx hb dX2_append_73 (lv_at hl 2 rfl) ?_
    refine lv_if_ne (tgt := 82) hx hb dX2_append_75 (by decide) (fun hc => ?_) (fun hc => ?_)
    · replace hf := pw_ifn hc hf
      refine lv_aload_n hx hb dX2_append_82 rfl (lv_at hl 0 rfl) ?_
      refine lv_iload_n hx hb dX2_append_83 rfl (lv_at hl 1 rfl) ?_
      refine lv_iload hx hb dX2_append_84 (lv_at hl 2 rfl) ?_
      refine lv_iconst (v := 1) hx hb dX2_append_86 (by decide) ?_
      refine lv_isub hx hb dX2_append_87 ?_
      refine lv_iload hx hb dX2_append_88 (lv_at hl 4 rfl) ?_
      obtain ⟨r1, σ1, h1, hf⟩ := pw_bi_some hf
      refine pw_ci hw (pw_runV (As := [.int x1, .int (x4 - (1 : Int32)), .int x6]) (rest := [.int ((x5 * (4 : Int32)) + x6), .ref (pw_ad G 16)]) hC hw (c_X2_clockOf  h1) mw_356 wm_X2_clockOf ⟨Nat.zero_le _, Nat.zero_le _⟩ ⟨rfl, rfl, Nat.le_of_ble_eq_true rfl, Nat.le_of_ble_eq_true rfl⟩ (by decide) rfl rfl rfl hl.1 rfl (Nat.le_of_ble_eq_true rfl) dX2_append_90) (fun H locs hw => ?_)
      exact t_X2_append_93 hC hk56  hw (lv_sub hl [0, 1, 2, 3, 4] rfl) hf
    · replace hf := pw_ifp hc hf
      refine lv_iconst (v := 0) hx hb dX2_append_78 (by decide) ?_
      refine lv_goto (tgt := 93) hx hb dX2_append_79 (by decide) ?_
      exact t_X2_append_93 hC hk56  hw (lv_sub hl [0, 1, 2, 3, 4] rfl) hf
set_option maxHeartbeats 4000000 in
theorem tl_X2_append_56 (hC : pw_CX G RX2 cX2_append 7 (some .int) p s m args meth c) {r : Int32} {τ : pw_St} : ∀ (n : Nat) (x1 : Int32) (x4 : Int32) (x5 : Int32) (x6 : Int32) (σ : pw_St) (H : Heap) (locs : List Loc) (ls : Array Slot), pw_WH G σ s.heap H locs → lv_has ls 7 [(0, .ref (pw_ad G 1)), (1, .int x1), (4, .int x4), (5, .int x5), (6, .int x6)] → l_X2_append_56  n x1 x4 x5 x6 σ = some (r, τ) → W p l e rm_X2_append s m args below meth c H locs 0 0 (MQ below (pw_Qi G r τ) args s 0 0 (pw_gA G)) (F0 m 56 ls []) := by
  intro n
  induction n with
  | zero => intro x1 x4 x5 x6 σ H locs ls hw hl hf; cases hf
  | succ n ih => intro x1 x4 x5 x6 σ H locs ls hw hl hf; exact t_X2_append_56 hC ih  hw hl hf
set_option maxHeartbeats 4000000 in
set_option maxRecDepth 100000 in
theorem c_X2_append {l : Launch} {G : pw_Gh} {x1 : Int32} {x2 : Int32} {x3 : Int32} {σ : pw_St} {r : Int32} {τ : pw_St} (hf : f_X2_append x1 x2 x3 σ = some (r, τ)) : Met l yX2_append (.code yX2_append cX2_append 7 (some .int) :: pw_BW) rm_X2_append (pw_Pc G [.ref (pw_ad G 1), .int x1, .int x2, .int x3] σ) (pw_Qi G r τ) 0 0 (pw_gA G) := by
  refine pw_met (by decide +kernel) (Nat.le_of_ble_eq_true rfl) ?_
  intro p e s m args below meth c ls hC hw hl
  replace hl : lv_has ls 7 [(0, .ref (pw_ad G 1)), (1, .int x1), (2, .int x2), (3, .int x3)] := hl
  have hx := hC.1
  have hb := hC.2.1
  unfold f_X2_append at hf
  refine lv_aload_n hx hb dX2_append_0 rfl (lv_at hl 0 rfl) ?_
  refine pg_1_1 hC hw mw_103 dX2_append_1 ?_
  refine lv_iload_n hx hb dX2_append_4 rfl (lv_at hl 1 rfl) ?_
  obtain ⟨hin, hf⟩ := pw_gd hf
  refine pw_ild hC hw ca_11 hin dX2_append_5 ?_
  refine lv_istore (lv' := [(4, .int (σ.1 11 x1.toNatClampNeg)), (0, .ref (pw_ad G 1)), (1, .int x1), (2, .int x2), (3, .int x3)]) hx hb dX2_append_6 hl (by decide) rfl (fun ls hl => ?_)
  refine lv_iload_n hx hb dX2_append_8 rfl (lv_at hl 2 rfl) ?_
  refine lv_iload hx hb dX2_append_9 (lv_at hl 0 rfl) ?_
  obtain ⟨r1, σ1, h1, hf⟩ := pw_bi_some hf
  refine pw_ci hw (pw_runS (As := [.int x1, .int (σ.1 11 x1.toNatClampNeg)]) (rest := []) hC hw (c_X2_place  h1) mw_353 wm_X2_place ⟨Nat.zero_le _, Nat.zero_le _⟩ ⟨rfl, rfl, Nat.le_of_ble_eq_true rfl, Nat.le_of_ble_eq_true rfl⟩ rfl hl.1 rfl (Nat.le_of_ble_eq_true rfl) dX2_append_11) (fun H locs hw => ?_)
  refine lv_istore (lv' := [(5, .int r1), (4, .int (σ.1 11 x1.toNatClampNeg)), (0, .ref (pw_ad G 1)), (1, .int x1), (2, .int x2), (3, .int x3)]) hx hb dX2_append_14 hl (by decide) rfl (fun ls hl => ?_)
  refine lv_aload_n hx hb dX2_append_16 rfl (lv_at hl 2 rfl) ?_
  refine pg_1_3 hC hw mw_107 dX2_append_17 ?_
  refine lv_iload hx hb dX2_append_20 (lv_at hl 0 rfl) ?_
  refine lv_iload_n hx hb dX2_append_22 rfl (lv_at hl 4 rfl) ?_
  obtain ⟨hin, hf⟩ := pw_gd hf
  refine pw_ist hC hw ca_13 hin dX2_append_23 (fun H locs hw => ?_)
  obtain ⟨σ2, e2, hf⟩ := pw_lts hf
  replace hw := pw_WHe e2 hw
  refine lv_aload_n hx hb dX2_append_24 rfl (lv_at hl 2 rfl) ?_
  refine pg_1_4 hC hw mw_109 dX2_append_25 ?_
  refine lv_iload hx hb dX2_append_28 (lv_at hl 0 rfl) ?_
  refine lv_iload_n hx hb dX2_append_30 rfl (lv_at hl 5 rfl) ?_
  obtain ⟨hin, hf⟩ := pw_gd hf
  refine pw_ist hC hw ca_14 hin dX2_append_31 (fun H locs hw => ?_)
  obtain ⟨σ3, e3, hf⟩ := pw_lts hf
  replace hw := pw_WHe e3 hw
  refine lv_aload_n hx hb dX2_append_32 rfl (lv_at hl 2 rfl) ?_
  refine pg_1_5 hC hw mw_111 dX2_append_33 ?_
  refine lv_iload hx hb dX2_append_36 (lv_at hl 0 rfl) ?_
  refine lv_aload_n hx hb dX2_append_38 rfl (lv_at hl 2 rfl) ?_
  refine pg_1_9 hC hw mw_119 dX2_append_39 ?_
  obtain ⟨hin, hf⟩ := pw_gd hf
  refine pw_ist hC hw ca_15 hin dX2_append_42 (fun H locs hw => ?_)
  obtain ⟨σ4, e4, hf⟩ := pw_lts hf
  replace hw := pw_WHe e4 hw
  refine lv_aload_n hx hb dX2_append_43 rfl (lv_at hl 2 rfl) ?_
  refine pg_1_2 hC hw mw_106 dX2_append_44 ?_
  refine lv_aload_n hx hb dX2_append_47 rfl (lv_at hl 2 rfl) ?_
  refine pg_1_9 hC hw mw_119 dX2_append_48 ?_
  refine lv_iload_n hx hb dX2_append_51 rfl (lv_at hl 3 rfl) ?_
  obtain ⟨hin, hf⟩ := pw_gd hf
  refine pw_ist hC hw ca_12 hin dX2_append_52 (fun H locs hw => ?_)
  obtain ⟨σ5, e5, hf⟩ := pw_lts hf
  replace hw := pw_WHe e5 hw
  refine lv_iconst (v := 0) hx hb dX2_append_53 (by decide) ?_
  refine lv_istore (lv' := [(6, .int (0 : Int32)), (5, .int r1), (4, .int (σ.1 11 x1.toNatClampNeg)), (0, .ref (pw_ad G 1)), (1, .int x1), (2, .int x2), (3, .int x3)]) hx hb dX2_append_54 hl (by decide) rfl (fun ls hl => ?_)
  exact tl_X2_append_56 hC  pw_FU _ _ _ _ _ _ _ _ hw (lv_sub hl [3, 4, 2, 1, 0] rfl) hf
-- PerhapsWas$History change
def b_X2_change_51 (x5 : Int32) (y0 : Int32) (y1 : Int32) (σ : pw_St) : Option (Int32 × pw_St) := (if pw_in y1 84 = true then (pw_lt (pw_sM σ 17 y1.toNatClampNeg y0) fun σ1 => (some (x5, σ1))) else none)
def b_X2_change_12 (x1 : Int32) (x2 : Int32) (x3 : Int32) (x4 : Int32) (y0 : Int32) (y1 : Int32) (σ : pw_St) : Option (Int32 × pw_St) := (pw_bi (f_X2_append y1 y0 x2 σ) fun r1 σ1 => (pw_bi (f_X2_valuePlace x1 r1 x2 σ1) fun r2 σ2 => (if x4 = 0 then (b_X2_change_51  r1 x3 r2 σ2) else (if pw_in r2 84 = true then (b_X2_change_51  r1 ((σ2.1 17 r2.toNatClampNeg) + x3) r2 σ2) else none))))
def f_X2_change (x1 : Int32) (x2 : Int32) (x3 : Int32) (x4 : Int32) (σ : pw_St) : Option (Int32 × pw_St) := (if x4 = 0 then (b_X2_change_12  x1 x2 x3 x4 (0 : Int32) x1 σ) else (b_X2_change_12  x1 x2 x3 x4 (1 : Int32) x1 σ))
def rm_X2_change : Room := { frames := 2, cells := 0, slots := 0, locals := 49 }
set_option maxHeartbeats 4000000 in
set_option maxRecDepth 100000 in
theorem t_X2_change_51 (hC : pw_CX G RX2 cX2_change 7 (some .int) p s m args meth c) {r : Int32} {τ : pw_St} {x5 : Int32} {y0 : Int32} {y1 : Int32} {σ : pw_St} {H : Heap} {locs : List Loc} {ls : Array Slot} (hw : pw_WH G σ s.heap H locs) (hl : lv_has ls 7 [(5, .int x5)]) (hf : b_X2_change_51 x5 y0 y1 σ = some (r, τ)) : W p l e rm_X2_change s m args below meth c H locs 0 0 (MQ below (pw_Qi G r τ) args s 0 0 (pw_gA G)) (F0 m 51 ls [.int y0, .int y1, .ref (pw_ad G 17)]) := by
  have hx := hC.1
  have hb := hC.2.1
  unfold b_X2_change_51 at hf
  obtain ⟨hin, hf⟩ := pw_gd hf
  refine pw_ist hC hw ca_17 hin dX2_change_51 (fun H locs hw => ?_)
  obtain ⟨σ1, e1, hf⟩ := pw_lts hf
  replace hw := pw_WHe e1 hw
  refine lv_iload hx hb dX2_change_52 (lv_at hl 0 rfl) ?_
  exact pw_iret hC hw hf dX2_change_54
set_option maxHeartbeats 4000000 in
set_option maxRecDepth 100000 in
theorem t_X2_change_12 (hC : pw_CX G RX2 cX2_change 7 (some .int) p s m args meth c) {r : Int32} {τ : pw_St} {x1 : Int32} {x2 : Int32} {x3 : Int32} {x4 : Int32} {y0 : Int32} {y1 : Int32} {σ : pw_St} {H : Heap} {locs : List Loc} {ls : Array Slot} (hw : pw_WH G σ s.heap H locs) (hl : lv_has ls 7 [(0, .ref (pw_ad G 1)), (1, .int x1), (2, .int x2), (3, .int x3), (4, .int x4)]) (hf : b_X2_change_12 x1 x2 x3 x4 y0 y1 σ = some (r, τ)) : W p l e rm_X2_change s m args below meth c H locs 0 0 (MQ below (pw_Qi G r τ) args s 0 0 (pw_gA G)) (F0 m 12 ls [.int y0, .int y1, .ref (pw_ad G 1)]) := by
  have hx := hC.1
  have hb := hC.2.1
  unfold b_X2_change_12 at hf
  refine lv_iload_n hx hb dX2_change_12 rfl (lv_at hl 2 rfl) ?_
  obtain ⟨r1, σ1, h1, hf⟩ := pw_bi_some hf
  refine pw_ci hw (pw_runV (As := [.int y1, .int y0, .int x2]) (rest := []) hC hw (c_X2_append  h1) mw_349 wm_X2_append ⟨Nat.zero_le _, Nat.zero_le _⟩ ⟨rfl, rfl, Nat.le_of_ble_eq_true rfl, Nat.le_of_ble_eq_true rfl⟩ (by decide) rfl rfl rfl hl.1 rfl (Nat.le_of_ble_eq_true rfl) dX2_change_13) (fun H locs hw => ?_)
  refine lv_istore (lv' := [(5, .int r1), (0, .ref (pw_ad G 1)), (1, .int x1), (2, .int x2), (3, .int x3), (4, .int x4)]) hx hb dX2_change_16 hl (by decide) rfl (fun ls hl => ?_)
  refine lv_iload_n hx hb dX2_change_18 rfl (lv_at hl 2 rfl) ?_
  refine lv_iload hx hb dX2_change_19 (lv_at hl 0 rfl) ?_
  refine lv_iload_n hx hb dX2_change_21 rfl (lv_at hl 3 rfl) ?_
  obtain ⟨r2, σ2, h2, hf⟩ := pw_bi_some hf
  refine pw_ci hw (pw_runS (As := [.int x1, .int r1, .int x2]) (rest := []) hC hw (c_X2_valuePlace  h2) mw_360 wm_X2_valuePlace ⟨Nat.zero_le _, Nat.zero_le _⟩ ⟨rfl, rfl, Nat.le_of_ble_eq_true rfl, Nat.le_of_ble_eq_true rfl⟩ rfl hl.1 rfl (Nat.le_of_ble_eq_true rfl) dX2_change_22) (fun H locs hw => ?_)
  refine lv_istore (lv' := [(6, .int r2), (5, .int r1), (0, .ref (pw_ad G 1)), (1, .int x1), (2, .int x2), (3, .int x3), (4, .int x4)]) hx hb dX2_change_25 hl (by decide) rfl (fun ls hl => ?_)
  refine lv_aload_n hx hb dX2_change_27 rfl (lv_at hl 2 rfl) ?_
  refine pg_1_7 hC hw mw_114 dX2_change_28 ?_
  refine lv_iload hx hb dX2_change_31 (lv_at hl 0 rfl) ?_
  refine lv_iload hx hb dX2_change_33 (lv_at hl 6 rfl) ?_
  refine lv_if_eq (tgt := 50) hx hb dX2_change_35 (by decide) (fun hc => ?_) (fun hc => ?_)
  · replace hf := pw_ifp hc hf
    refine lv_iload_n hx hb dX2_change_50 rfl (lv_at hl 5 rfl) ?_
    exact t_X2_change_51 hC   hw (lv_sub hl [1] rfl) hf
  · replace hf := pw_ifn hc hf
    refine lv_aload_n hx hb dX2_change_38 rfl (lv_at hl 2 rfl) ?_
    refine pg_1_7 hC hw mw_114 dX2_change_39 ?_
    refine lv_iload hx hb dX2_change_42 (lv_at hl 0 rfl) ?_
    obtain ⟨hin, hf⟩ := pw_gd hf
    refine pw_ild hC hw ca_17 hin dX2_change_44 ?_
    refine lv_iload_n hx hb dX2_change_45 rfl (lv_at hl 5 rfl) ?_
    refine lv_iadd hx hb dX2_change_46 ?_
    refine lv_goto (tgt := 51) hx hb dX2_change_47 (by decide) ?_
    exact t_X2_change_51 hC   hw (lv_sub hl [1] rfl) hf
set_option maxHeartbeats 4000000 in
set_option maxRecDepth 100000 in
theorem c_X2_change {l : Launch} {G : pw_Gh} {x1 : Int32} {x2 : Int32} {x3 : Int32} {x4 : Int32} {σ : pw_St} {r : Int32} {τ : pw_St} (hf : f_X2_change x1 x2 x3 x4 σ = some (r, τ)) : Met l yX2_change (.code yX2_change cX2_change 7 (some .int) :: pw_BW) rm_X2_change (pw_Pc G [.ref (pw_ad G 1), .int x1, .int x2, .int x3, .int x4] σ) (pw_Qi G r τ) 0 0 (pw_gA G) := by
  refine pw_met (by decide +kernel) (Nat.le_of_ble_eq_true rfl) ?_
  intro p e s m args below meth c ls hC hw hl
  replace hl : lv_has ls 7 [(0, .ref (pw_ad G 1)), (1, .int x1), (2, .int x2), (3, .int x3), (4, .int x4)] := hl
  have hx := hC.1
  have hb := hC.2.1
  unfold f_X2_change at hf
  refine lv_aload_n hx hb dX2_change_0 rfl (lv_at hl 0 rfl) ?_
  refine lv_iload_n hx hb dX2_change_1 rfl (lv_at hl 1 rfl) ?_
  refine lv_iload hx hb dX2_change_2 (lv_at hl 4 rfl) ?_
  refine lv_if_eq (tgt := 11) hx hb dX2_change_4 (by decide) (fun hc => ?_) (fun hc => ?_)
  · replace hf := pw_ifp hc hf
    refine lv_iconst (v := 0) hx hb dX2_change_11 (by decide) ?_
    exact t_X2_change_12 hC   hw (lv_sub hl [0, 1, 2, 3, 4] rfl) hf
  · replace hf := pw_ifn hc hf
    refine lv_iconst (v := 1) hx hb dX2_change_7 (by decide) ?_
    refine lv_goto (tgt := 12) hx hb dX2_change_8 (by decide) ?_
    exact t_X2_change_12 hC   hw (lv_sub hl [0, 1, 2, 3, 4] rfl) hf
-- PerhapsWas$Letters write
def f_X3_write (x1 : Int32) (x2 : Int32) (x3 : Int32) (σ : pw_St) : Option (Int32 × pw_St) := (if pw_in (σ.1 2 4) 24 = true then (pw_lt (pw_sM σ 18 (σ.1 2 4).toNatClampNeg x1) fun σ1 => (if pw_in (σ.1 2 4) 24 = true then (pw_lt (pw_sM σ1 19 (σ.1 2 4).toNatClampNeg x2) fun σ2 => (if pw_in (σ.1 2 4) 24 = true then (pw_lt (pw_sM σ2 20 (σ.1 2 4).toNatClampNeg x3) fun σ3 => (if pw_in (σ.1 2 4) 24 = true then (pw_lt (pw_sM σ3 21 (σ.1 2 4).toNatClampNeg (-1 : Int32)) fun σ4 => (pw_lt (pw_sM σ4 2 4 ((σ4.1 2 4) + (1 : Int32))) fun σ5 => (some ((σ.1 2 4), σ5)))) else none)) else none)) else none)) else none)
def rm_X3_write : Room := { frames := 0, cells := 0, slots := 0, locals := 0 }
set_option maxHeartbeats 4000000 in
set_option maxRecDepth 100000 in
theorem c_X3_write {l : Launch} {G : pw_Gh} {x1 : Int32} {x2 : Int32} {x3 : Int32} {σ : pw_St} {r : Int32} {τ : pw_St} (hf : f_X3_write x1 x2 x3 σ = some (r, τ)) : Met l yX3_write (.code yX3_write cX3_write 5 (some .int) :: pw_BW) rm_X3_write (pw_Pc G [.ref (pw_ad G 2), .int x1, .int x2, .int x3] σ) (pw_Qi G r τ) 0 0 (pw_gA G) := by
  refine pw_met (by decide +kernel) (Nat.le_of_ble_eq_true rfl) ?_
  intro p e s m args below meth c ls hC hw hl
  replace hl : lv_has ls 5 [(0, .ref (pw_ad G 2)), (1, .int x1), (2, .int x2), (3, .int x3)] := hl
  have hx := hC.1
  have hb := hC.2.1
  unfold f_X3_write at hf
  refine lv_aload_n hx hb dX3_write_0 rfl (lv_at hl 0 rfl) ?_
  refine pg_2_4 hC hw mw_84 dX3_write_1 ?_
  refine lv_istore (lv' := [(4, .int (σ.1 2 4)), (0, .ref (pw_ad G 2)), (1, .int x1), (2, .int x2), (3, .int x3)]) hx hb dX3_write_4 hl (by decide) rfl (fun ls hl => ?_)
  refine lv_aload_n hx hb dX3_write_6 rfl (lv_at hl 1 rfl) ?_
  refine pg_2_0 hC hw mw_68 dX3_write_7 ?_
  refine lv_iload hx hb dX3_write_10 (lv_at hl 0 rfl) ?_
  refine lv_iload_n hx hb dX3_write_12 rfl (lv_at hl 2 rfl) ?_
  obtain ⟨hin, hf⟩ := pw_gd hf
  refine pw_ist hC hw ca_18 hin dX3_write_13 (fun H locs hw => ?_)
  obtain ⟨σ1, e1, hf⟩ := pw_lts hf
  replace hw := pw_WHe e1 hw
  refine lv_aload_n hx hb dX3_write_14 rfl (lv_at hl 1 rfl) ?_
  refine pg_2_1 hC hw mw_72 dX3_write_15 ?_
  refine lv_iload hx hb dX3_write_18 (lv_at hl 0 rfl) ?_
  refine lv_iload_n hx hb dX3_write_20 rfl (lv_at hl 3 rfl) ?_
  obtain ⟨hin, hf⟩ := pw_gd hf
  refine pw_ist hC hw ca_19 hin dX3_write_21 (fun H locs hw => ?_)
  obtain ⟨σ2, e2, hf⟩ := pw_lts hf
  replace hw := pw_WHe e2 hw
  refine lv_aload_n hx hb dX3_write_22 rfl (lv_at hl 1 rfl) ?_
  refine pg_2_2 hC hw mw_76 dX3_write_23 ?_
  refine lv_iload hx hb dX3_write_26 (lv_at hl 0 rfl) ?_
  refine lv_iload_n hx hb dX3_write_28 rfl (lv_at hl 4 rfl) ?_
  obtain ⟨hin, hf⟩ := pw_gd hf
  refine pw_ist hC hw ca_20 hin dX3_write_29 (fun H locs hw => ?_)
  obtain ⟨σ3, e3, hf⟩ := pw_lts hf
  replace hw := pw_WHe e3 hw
  refine lv_aload_n hx hb dX3_write_30 rfl (lv_at hl 1 rfl) ?_
  refine pg_2_3 hC hw mw_80 dX3_write_31 ?_
  refine lv_iload hx hb dX3_write_34 (lv_at hl 0 rfl) ?_
  refine lv_iconst (v := -1) hx hb dX3_write_36 (by decide) ?_
  obtain ⟨hin, hf⟩ := pw_gd hf
  refine pw_ist hC hw ca_21 hin dX3_write_37 (fun H locs hw => ?_)
  obtain ⟨σ4, e4, hf⟩ := pw_lts hf
  replace hw := pw_WHe e4 hw
  refine lv_aload_n hx hb dX3_write_38 rfl (lv_at hl 1 rfl) ?_
  refine lv_dup hx hb dX3_write_39 rfl ?_
  refine pg_2_4 hC hw mw_84 dX3_write_40 ?_
  refine lv_iconst (v := 1) hx hb dX3_write_43 (by decide) ?_
  refine lv_iadd hx hb dX3_write_44 ?_
  refine pp_2_4 hC hw mw_84 dX3_write_45 (fun H locs hw => ?_)
  obtain ⟨σ5, e5, hf⟩ := pw_lts hf
  replace hw := pw_WHe e5 hw
  refine lv_iload hx hb dX3_write_48 (lv_at hl 0 rfl) ?_
  exact pw_iret hC hw hf dX3_write_50
-- PerhapsWas$History sendOut
def f_X2_sendOut (x1 : Int32) (x2 : Int32) (σ : pw_St) : Option (Int32 × pw_St) := (if pw_in x1 4 = true then (pw_bi (f_X3_write x1 x2 (σ.1 11 x1.toNatClampNeg) σ) fun r1 σ1 => (pw_bi (f_X2_append x1 (2 : Int32) r1 σ1) fun r2 σ2 => (some (r1, σ2)))) else none)
def rm_X2_sendOut : Room := { frames := 2, cells := 0, slots := 0, locals := 49 }
set_option maxHeartbeats 4000000 in
set_option maxRecDepth 100000 in
theorem c_X2_sendOut {l : Launch} {G : pw_Gh} {x1 : Int32} {x2 : Int32} {σ : pw_St} {r : Int32} {τ : pw_St} (hf : f_X2_sendOut x1 x2 σ = some (r, τ)) : Met l yX2_sendOut (.code yX2_sendOut cX2_sendOut 4 (some .int) :: pw_BW) rm_X2_sendOut (pw_Pc G [.ref (pw_ad G 1), .int x1, .int x2] σ) (pw_Qi G r τ) 0 0 (pw_gA G) := by
  refine pw_met (by decide +kernel) (Nat.le_of_ble_eq_true rfl) ?_
  intro p e s m args below meth c ls hC hw hl
  replace hl : lv_has ls 4 [(0, .ref (pw_ad G 1)), (1, .int x1), (2, .int x2)] := hl
  have hx := hC.1
  have hb := hC.2.1
  unfold f_X2_sendOut at hf
  refine lv_aload_n hx hb dX2_sendOut_0 rfl (lv_at hl 0 rfl) ?_
  refine pg_1_0 hC hw mw_100 dX2_sendOut_1 ?_
  refine lv_iload_n hx hb dX2_sendOut_4 rfl (lv_at hl 1 rfl) ?_
  refine lv_iload_n hx hb dX2_sendOut_5 rfl (lv_at hl 2 rfl) ?_
  refine lv_aload_n hx hb dX2_sendOut_6 rfl (lv_at hl 0 rfl) ?_
  refine pg_1_1 hC hw mw_103 dX2_sendOut_7 ?_
  refine lv_iload_n hx hb dX2_sendOut_10 rfl (lv_at hl 1 rfl) ?_
  obtain ⟨hin, hf⟩ := pw_gd hf
  refine pw_ild hC hw ca_11 hin dX2_sendOut_11 ?_
  obtain ⟨r1, σ1, h1, hf⟩ := pw_bi_some hf
  refine pw_ci hw (pw_runV (As := [.int x1, .int x2, .int (σ.1 11 x1.toNatClampNeg)]) (rest := []) hC hw (c_X3_write  h1) mw_375 wm_X3_write ⟨Nat.zero_le _, Nat.zero_le _⟩ ⟨rfl, rfl, Nat.le_of_ble_eq_true rfl, Nat.le_of_ble_eq_true rfl⟩ (by decide) rfl rfl rfl hl.1 rfl (Nat.le_of_ble_eq_true rfl) dX2_sendOut_12) (fun H locs hw => ?_)
  refine lv_istore_n (lv' := [(3, .int r1), (0, .ref (pw_ad G 1)), (1, .int x1), (2, .int x2)]) hx hb dX2_sendOut_15 rfl hl (by decide) rfl (fun ls hl => ?_)
  refine lv_aload_n hx hb dX2_sendOut_16 rfl (lv_at hl 1 rfl) ?_
  refine lv_iload_n hx hb dX2_sendOut_17 rfl (lv_at hl 2 rfl) ?_
  refine lv_iconst (v := 2) hx hb dX2_sendOut_18 (by decide) ?_
  refine lv_iload_n hx hb dX2_sendOut_19 rfl (lv_at hl 0 rfl) ?_
  obtain ⟨r2, σ2, h2, hf⟩ := pw_bi_some hf
  refine pw_ci hw (pw_runV (As := [.int x1, .int (2 : Int32), .int r1]) (rest := []) hC hw (c_X2_append  h2) mw_349 wm_X2_append ⟨Nat.zero_le _, Nat.zero_le _⟩ ⟨rfl, rfl, Nat.le_of_ble_eq_true rfl, Nat.le_of_ble_eq_true rfl⟩ (by decide) rfl rfl rfl hl.1 rfl (Nat.le_of_ble_eq_true rfl) dX2_sendOut_20) (fun H locs hw => ?_)
  refine lv_pop hx hb dX2_sendOut_23 rfl ?_
  refine lv_iload_n hx hb dX2_sendOut_24 rfl (lv_at hl 0 rfl) ?_
  exact pw_iret hC hw hf dX2_sendOut_25
-- PerhapsWas$History follow
def b_X2_follow_19 (k19 : Int32 → Int32 → Int32 → Int32 → pw_St → Option pw_St) (x2 : Int32) (x3 : Int32) (x4 : Int32) (x5 : Int32) (σ : pw_St) : Option pw_St := (if (4 : Int32) ≤ x5 then (some σ) else (if pw_in (x4 + x5) 96 = true then (pw_bi (f_X2_clockOf x2 x3 x5 σ) fun r1 σ1 => (if pw_in (x4 + x5) 96 = true then (pw_lt (pw_sM σ1 16 (x4 + x5).toNatClampNeg (if (σ.1 16 (x4 + x5).toNatClampNeg) < r1 then r1 else (σ.1 16 (x4 + x5).toNatClampNeg))) fun σ2 => (k19 x2 x3 x4 (x5 + (1 : Int32)) σ2)) else none)) else none))
def l_X2_follow_19 : Nat → Int32 → Int32 → Int32 → Int32 → pw_St → Option pw_St
  | 0 => fun _ _ _ _ _ => none
  | n + 1 => fun x2 x3 x4 x5 σ => b_X2_follow_19  (l_X2_follow_19  n) x2 x3 x4 x5 σ
def f_X2_follow (x1 : Int32) (x2 : Int32) (x3 : Int32) (σ : pw_St) : Option pw_St := (if pw_in x1 4 = true then (pw_bi (f_X2_place x1 ((σ.1 11 x1.toNatClampNeg) - (1 : Int32)) σ) fun r1 σ1 => (l_X2_follow_19  pw_FU x2 x3 (r1 * (4 : Int32)) (0 : Int32) σ1)) else none)
def rm_X2_follow : Room := { frames := 1, cells := 0, slots := 0, locals := 23 }
set_option maxHeartbeats 4000000 in
set_option maxRecDepth 100000 in
theorem t_X2_follow_19 (hC : pw_CX G RX2 cX2_follow 6 none p s m args meth c) {k19 : Int32 → Int32 → Int32 → Int32 → pw_St → Option pw_St} {τ : pw_St} (hk19 : ∀ (x2 : Int32), ∀ (x3 : Int32), ∀ (x4 : Int32), ∀ (x5 : Int32), ∀ (σ : pw_St) (H : Heap) (locs : List Loc) (ls : Array Slot), pw_WH G σ s.heap H locs → lv_has ls 6 [(0, .ref (pw_ad G 1)), (2, .int x2), (3, .int x3), (4, .int x4), (5, .int x5)] → k19 x2 x3 x4 x5 σ = some τ → W p l e rm_X2_follow s m args below meth c H locs 0 0 (MQ below (pw_Qv G τ) args s 0 0 (pw_gA G)) (F0 m 19 ls [])) {x2 : Int32} {x3 : Int32} {x4 : Int32} {x5 : Int32} {σ : pw_St} {H : Heap} {locs : List Loc} {ls : Array Slot} (hw : pw_WH G σ s.heap H locs) (hl : lv_has ls 6 [(0, .ref (pw_ad G 1)), (2, .int x2), (3, .int x3), (4, .int x4), (5, .int x5)]) (hf : b_X2_follow_19 k19 x2 x3 x4 x5 σ = some τ) : W p l e rm_X2_follow s m args below meth c H locs 0 0 (MQ below (pw_Qv G τ) args s 0 0 (pw_gA G)) (F0 m 19 ls []) := by
  have hx := hC.1
  have hb := hC.2.1
  unfold b_X2_follow_19 at hf
  refine lv_iload hx hb dX2_follow_19 (lv_at hl 4 rfl) ?_
  refine lv_iconst (v := 4) hx hb dX2_follow_21 (by decide) ?_
  refine lv_icmp_ge (tgt := 62) hx hb dX2_follow_22 (by decide) (fun hc => ?_) (fun hc => ?_)
  · replace hf := pw_ifp hc hf
    exact pw_vret hC hw hf dX2_follow_62
  · replace hf := pw_ifn hc hf
    refine lv_aload_n hx hb dX2_follow_25 rfl (lv_at hl 0 rfl) ?_
    refine pg_1_6 hC hw mw_113 dX2_follow_26 ?_
    refine lv_iload hx hb dX2_follow_29 (lv_at hl 3 rfl) ?_
    refine lv_iload hx hb dX2_follow_31 (lv_at hl 4 rfl) ?_
    refine lv_iadd hx hb dX2_follow_33 ?_
    refine lv_aload_n hx hb dX2_follow_34 rfl (lv_at hl 0 rfl) ?_
    refine pg_1_6 hC hw mw_113 dX2_follow_35 ?_
    refine lv_iload hx hb dX2_follow_38 (lv_at hl 3 rfl) ?_
    refine lv_iload hx hb dX2_follow_40 (lv_at hl 4 rfl) ?_
    refine lv_iadd hx hb dX2_follow_42 ?_
    obtain ⟨hin, hf⟩ := pw_gd hf
    refine pw_ild hC hw ca_16 hin dX2_follow_43 ?_
    refine lv_aload_n hx hb dX2_follow_44 rfl (lv_at hl 0 rfl) ?_
    refine lv_iload_n hx hb dX2_follow_45 rfl (lv_at hl 1 rfl) ?_
    refine lv_iload_n hx hb dX2_follow_46 rfl (lv_at hl 2 rfl) ?_
    refine lv_iload hx hb dX2_follow_47 (lv_at hl 4 rfl) ?_
    obtain ⟨r1, σ1, h1, hf⟩ := pw_bi_some hf
    refine pw_ci hw (pw_runV (As := [.int x2, .int x3, .int x5]) (rest := [.int (σ.1 16 (x4 + x5).toNatClampNeg), .int (x4 + x5), .ref (pw_ad G 16)]) hC hw (c_X2_clockOf  h1) mw_356 wm_X2_clockOf ⟨Nat.zero_le _, Nat.zero_le _⟩ ⟨rfl, rfl, Nat.le_of_ble_eq_true rfl, Nat.le_of_ble_eq_true rfl⟩ (by decide) rfl rfl rfl hl.1 rfl (Nat.le_of_ble_eq_true rfl) dX2_follow_49) (fun H locs hw => ?_)
    refine va_mmax hx hb (hC.2.2.1.trans hl.1.symm) hC.2.2.2.1 (hC.2.2.2.2.1 _ mw_395) (hC.2.2.2.2.1 _ mw_396) (hC.2.2.2.2.1 _ mw_46) (hC.2.2.2.2.1 _ mw_397) (Nat.le_of_ble_eq_true rfl) (Nat.le_of_ble_eq_true rfl) (Nat.zero_le _) (Nat.zero_le _) dX2_follow_52 ?_
    obtain ⟨hin, hf⟩ := pw_gd hf
    refine pw_ist hC hw ca_16 hin dX2_follow_55 (fun H locs hw => ?_)
    obtain ⟨σ2, e2, hf⟩ := pw_lts hf
    replace hw := pw_WHe e2 hw
    refine lv_iinc (v := (x5 + (1 : Int32))) (lv' := [(5, .int (x5 + (1 : Int32))), (0, .ref (pw_ad G 1)), (2, .int x2), (3, .int x3), (4, .int x4)]) hx hb dX2_follow_56 hl (k := 4) rfl rfl (by decide) rfl (fun ls hl => ?_)
    refine lv_goto (tgt := 19) hx hb dX2_follow_59 (by decide) ?_
    exact hk19 _ _ _ _ _ _ _ _ hw (lv_sub hl [1, 2, 3, 4, 0] rfl) hf
set_option maxHeartbeats 4000000 in
theorem tl_X2_follow_19 (hC : pw_CX G RX2 cX2_follow 6 none p s m args meth c) {τ : pw_St} : ∀ (n : Nat) (x2 : Int32) (x3 : Int32) (x4 : Int32) (x5 : Int32) (σ : pw_St) (H : Heap) (locs : List Loc) (ls : Array Slot), pw_WH G σ s.heap H locs → lv_has ls 6 [(0, .ref (pw_ad G 1)), (2, .int x2), (3, .int x3), (4, .int x4), (5, .int x5)] → l_X2_follow_19  n x2 x3 x4 x5 σ = some τ → W p l e rm_X2_follow s m args below meth c H locs 0 0 (MQ below (pw_Qv G τ) args s 0 0 (pw_gA G)) (F0 m 19 ls []) := by
  intro n
  induction n with
  | zero => intro x2 x3 x4 x5 σ H locs ls hw hl hf; cases hf
  | succ n ih => intro x2 x3 x4 x5 σ H locs ls hw hl hf; exact t_X2_follow_19 hC ih  hw hl hf
set_option maxHeartbeats 4000000 in
set_option maxRecDepth 100000 in
theorem c_X2_follow {l : Launch} {G : pw_Gh} {x1 : Int32} {x2 : Int32} {x3 : Int32} {σ : pw_St} {τ : pw_St} (hf : f_X2_follow x1 x2 x3 σ = some τ) : Met l yX2_follow (.code yX2_follow cX2_follow 6 none :: pw_BW) rm_X2_follow (pw_Pc G [.ref (pw_ad G 1), .int x1, .int x2, .int x3] σ) (pw_Qv G τ) 0 0 (pw_gA G) := by
  refine pw_met (by decide +kernel) (Nat.le_of_ble_eq_true rfl) ?_
  intro p e s m args below meth c ls hC hw hl
  replace hl : lv_has ls 6 [(0, .ref (pw_ad G 1)), (1, .int x1), (2, .int x2), (3, .int x3)] := hl
  have hx := hC.1
  have hb := hC.2.1
  unfold f_X2_follow at hf
  refine lv_iload_n hx hb dX2_follow_0 rfl (lv_at hl 1 rfl) ?_
  refine lv_aload_n hx hb dX2_follow_1 rfl (lv_at hl 0 rfl) ?_
  refine pg_1_1 hC hw mw_103 dX2_follow_2 ?_
  refine lv_iload_n hx hb dX2_follow_5 rfl (lv_at hl 1 rfl) ?_
  obtain ⟨hin, hf⟩ := pw_gd hf
  refine pw_ild hC hw ca_11 hin dX2_follow_6 ?_
  refine lv_iconst (v := 1) hx hb dX2_follow_7 (by decide) ?_
  refine lv_isub hx hb dX2_follow_8 ?_
  obtain ⟨r1, σ1, h1, hf⟩ := pw_bi_some hf
  refine pw_ci hw (pw_runS (As := [.int x1, .int ((σ.1 11 x1.toNatClampNeg) - (1 : Int32))]) (rest := []) hC hw (c_X2_place  h1) mw_353 wm_X2_place ⟨Nat.zero_le _, Nat.zero_le _⟩ ⟨rfl, rfl, Nat.le_of_ble_eq_true rfl, Nat.le_of_ble_eq_true rfl⟩ rfl hl.1 rfl (Nat.le_of_ble_eq_true rfl) dX2_follow_9) (fun H locs hw => ?_)
  refine lv_iconst (v := 4) hx hb dX2_follow_12 (by decide) ?_
  refine lv_imul hx hb dX2_follow_13 ?_
  refine lv_istore (lv' := [(4, .int (r1 * (4 : Int32))), (0, .ref (pw_ad G 1)), (1, .int x1), (2, .int x2), (3, .int x3)]) hx hb dX2_follow_14 hl (by decide) rfl (fun ls hl => ?_)
  refine lv_iconst (v := 0) hx hb dX2_follow_16 (by decide) ?_
  refine lv_istore (lv' := [(5, .int (0 : Int32)), (4, .int (r1 * (4 : Int32))), (0, .ref (pw_ad G 1)), (1, .int x1), (2, .int x2), (3, .int x3)]) hx hb dX2_follow_17 hl (by decide) rfl (fun ls hl => ?_)
  exact tl_X2_follow_19 hC  pw_FU _ _ _ _ _ _ _ _ hw (lv_sub hl [2, 4, 5, 1, 0] rfl) hf
end PM
end
