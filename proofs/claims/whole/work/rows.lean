section
-- ===== PART A: goes FIRST, ahead of the names: the tables' words, and 'selects' of the private methods out of them =====
/-- a private method of a class that the tables say can be made, by its rows of tables_1 -/
def lw_okq (q : MethodName × Nat) : Prop := (q.1.cls ≠ "java/lang/invoke/MethodHandle" ∧ q.1.cls ≠ "java/lang/invoke/VarHandle") ∧ Cond.instantiable q.1.cls q.2 ∈ tables_1 ∧ Cond.privateMethod q.1 ∈ tables_1 ∧ Cond.instanceMethod q.1 ∈ tables_1
theorem lw_p0 : lw_okq (⟨"BlindBuff", "isNobody", "(I)Z"⟩, 8) := ⟨⟨by decide +kernel, by decide +kernel⟩, List.mem_of_getElem? (i := 16) (by decide +kernel), List.mem_of_getElem? (i := 214) (by decide +kernel), List.mem_of_getElem? (i := 215) (by decide +kernel)⟩
theorem lw_p1 : lw_okq (⟨"BlindBuffModel", "fresh", "(II)V"⟩, 18) := ⟨⟨by decide +kernel, by decide +kernel⟩, List.mem_of_getElem? (i := 597) (by decide +kernel), List.mem_of_getElem? (i := 603) (by decide +kernel), List.mem_of_getElem? (i := 604) (by decide +kernel)⟩
theorem lw_p2 : lw_okq (⟨"BlindBuffModel", "cells", "()I"⟩, 18) := ⟨⟨by decide +kernel, by decide +kernel⟩, List.mem_of_getElem? (i := 597) (by decide +kernel), List.mem_of_getElem? (i := 671) (by decide +kernel), List.mem_of_getElem? (i := 672) (by decide +kernel)⟩
theorem lw_p3 : lw_okq (⟨"BlindBuffModel", "comes", "(IIII)V"⟩, 18) := ⟨⟨by decide +kernel, by decide +kernel⟩, List.mem_of_getElem? (i := 597) (by decide +kernel), List.mem_of_getElem? (i := 682) (by decide +kernel), List.mem_of_getElem? (i := 683) (by decide +kernel)⟩
theorem lw_p4 : lw_okq (⟨"BlindBuffModel", "isPerson", "(I)Z"⟩, 18) := ⟨⟨by decide +kernel, by decide +kernel⟩, List.mem_of_getElem? (i := 597) (by decide +kernel), List.mem_of_getElem? (i := 690) (by decide +kernel), List.mem_of_getElem? (i := 691) (by decide +kernel)⟩
theorem lw_p5 : lw_okq (⟨"BlindBuffModel", "isFree", "(I)Z"⟩, 18) := ⟨⟨by decide +kernel, by decide +kernel⟩, List.mem_of_getElem? (i := 597) (by decide +kernel), List.mem_of_getElem? (i := 695) (by decide +kernel), List.mem_of_getElem? (i := 696) (by decide +kernel)⟩
theorem lw_p6 : lw_okq (⟨"BlindBuffModel", "far", "(I)I"⟩, 18) := ⟨⟨by decide +kernel, by decide +kernel⟩, List.mem_of_getElem? (i := 597) (by decide +kernel), List.mem_of_getElem? (i := 699) (by decide +kernel), List.mem_of_getElem? (i := 700) (by decide +kernel)⟩
theorem lw_p7 : lw_okq (⟨"BlindBuffModel", "told", "(II)I"⟩, 18) := ⟨⟨by decide +kernel, by decide +kernel⟩, List.mem_of_getElem? (i := 597) (by decide +kernel), List.mem_of_getElem? (i := 703) (by decide +kernel), List.mem_of_getElem? (i := 704) (by decide +kernel)⟩
theorem lw_p8 : lw_okq (⟨"BlindBuffModel", "loud", "(I)I"⟩, 18) := ⟨⟨by decide +kernel, by decide +kernel⟩, List.mem_of_getElem? (i := 597) (by decide +kernel), List.mem_of_getElem? (i := 710) (by decide +kernel), List.mem_of_getElem? (i := 711) (by decide +kernel)⟩
theorem lw_p9 : lw_okq (⟨"BlindBuffModel", "named", "(II)I"⟩, 18) := ⟨⟨by decide +kernel, by decide +kernel⟩, List.mem_of_getElem? (i := 597) (by decide +kernel), List.mem_of_getElem? (i := 714) (by decide +kernel), List.mem_of_getElem? (i := 715) (by decide +kernel)⟩
theorem lw_p10 : lw_okq (⟨"BlindBuffModel", "follows", "(I)I"⟩, 18) := ⟨⟨by decide +kernel, by decide +kernel⟩, List.mem_of_getElem? (i := 597) (by decide +kernel), List.mem_of_getElem? (i := 730) (by decide +kernel), List.mem_of_getElem? (i := 731) (by decide +kernel)⟩
theorem lw_p11 : lw_okq (⟨"BlindBuffModel", "digit", "(II)I"⟩, 18) := ⟨⟨by decide +kernel, by decide +kernel⟩, List.mem_of_getElem? (i := 597) (by decide +kernel), List.mem_of_getElem? (i := 744) (by decide +kernel), List.mem_of_getElem? (i := 745) (by decide +kernel)⟩
theorem lw_p12 : lw_okq (⟨"BlindBuffModel", "here", "()I"⟩, 18) := ⟨⟨by decide +kernel, by decide +kernel⟩, List.mem_of_getElem? (i := 597) (by decide +kernel), List.mem_of_getElem? (i := 748) (by decide +kernel), List.mem_of_getElem? (i := 749) (by decide +kernel)⟩
theorem lw_p13 : lw_okq (⟨"BlindBuffModel", "must", "(Z)V"⟩, 18) := ⟨⟨by decide +kernel, by decide +kernel⟩, List.mem_of_getElem? (i := 597) (by decide +kernel), List.mem_of_getElem? (i := 752) (by decide +kernel), List.mem_of_getElem? (i := 753) (by decide +kernel)⟩
theorem lw_p14 : lw_okq (⟨"BlindBuffModel", "sign", "(I)V"⟩, 18) := ⟨⟨by decide +kernel, by decide +kernel⟩, List.mem_of_getElem? (i := 597) (by decide +kernel), List.mem_of_getElem? (i := 756) (by decide +kernel), List.mem_of_getElem? (i := 757) (by decide +kernel)⟩
theorem lw_p15 : lw_okq (⟨"BlindBuffModel", "readPeople", "(II)I"⟩, 18) := ⟨⟨by decide +kernel, by decide +kernel⟩, List.mem_of_getElem? (i := 597) (by decide +kernel), List.mem_of_getElem? (i := 760) (by decide +kernel), List.mem_of_getElem? (i := 761) (by decide +kernel)⟩
def lw_privs_1 : List (MethodName × Nat) := [(⟨"BlindBuff", "isNobody", "(I)Z"⟩, 8), (⟨"BlindBuffModel", "fresh", "(II)V"⟩, 18), (⟨"BlindBuffModel", "cells", "()I"⟩, 18), (⟨"BlindBuffModel", "comes", "(IIII)V"⟩, 18), (⟨"BlindBuffModel", "isPerson", "(I)Z"⟩, 18), (⟨"BlindBuffModel", "isFree", "(I)Z"⟩, 18), (⟨"BlindBuffModel", "far", "(I)I"⟩, 18), (⟨"BlindBuffModel", "told", "(II)I"⟩, 18), (⟨"BlindBuffModel", "loud", "(I)I"⟩, 18), (⟨"BlindBuffModel", "named", "(II)I"⟩, 18), (⟨"BlindBuffModel", "follows", "(I)I"⟩, 18), (⟨"BlindBuffModel", "digit", "(II)I"⟩, 18), (⟨"BlindBuffModel", "here", "()I"⟩, 18), (⟨"BlindBuffModel", "must", "(Z)V"⟩, 18), (⟨"BlindBuffModel", "sign", "(I)V"⟩, 18), (⟨"BlindBuffModel", "readPeople", "(II)I"⟩, 18)]
theorem lw_r1 : ∀ q ∈ lw_privs_1, lw_okq q := List.forall_mem_cons.mpr ⟨lw_p0, List.forall_mem_cons.mpr ⟨lw_p1, List.forall_mem_cons.mpr ⟨lw_p2, List.forall_mem_cons.mpr ⟨lw_p3, List.forall_mem_cons.mpr ⟨lw_p4, List.forall_mem_cons.mpr ⟨lw_p5, List.forall_mem_cons.mpr ⟨lw_p6, List.forall_mem_cons.mpr ⟨lw_p7, List.forall_mem_cons.mpr ⟨lw_p8, List.forall_mem_cons.mpr ⟨lw_p9, List.forall_mem_cons.mpr ⟨lw_p10, List.forall_mem_cons.mpr ⟨lw_p11, List.forall_mem_cons.mpr ⟨lw_p12, List.forall_mem_cons.mpr ⟨lw_p13, List.forall_mem_cons.mpr ⟨lw_p14, List.forall_mem_cons.mpr ⟨lw_p15, fun _ h => absurd h List.not_mem_nil⟩⟩⟩⟩⟩⟩⟩⟩⟩⟩⟩⟩⟩⟩⟩⟩
theorem lw_p16 : lw_okq (⟨"BlindBuffModel", "readFace", "()I"⟩, 18) := ⟨⟨by decide +kernel, by decide +kernel⟩, List.mem_of_getElem? (i := 597) (by decide +kernel), List.mem_of_getElem? (i := 764) (by decide +kernel), List.mem_of_getElem? (i := 765) (by decide +kernel)⟩
theorem lw_p17 : lw_okq (⟨"BlindBuffModel", "notes", "()V"⟩, 18) := ⟨⟨by decide +kernel, by decide +kernel⟩, List.mem_of_getElem? (i := 597) (by decide +kernel), List.mem_of_getElem? (i := 774) (by decide +kernel), List.mem_of_getElem? (i := 775) (by decide +kernel)⟩
theorem lw_p18 : lw_okq (⟨"BlindBuffModel", "goesBy", "()Z"⟩, 18) := ⟨⟨by decide +kernel, by decide +kernel⟩, List.mem_of_getElem? (i := 597) (by decide +kernel), List.mem_of_getElem? (i := 778) (by decide +kernel), List.mem_of_getElem? (i := 779) (by decide +kernel)⟩
theorem lw_p19 : lw_okq (⟨"BlindBuffModel", "beside", "(II)I"⟩, 18) := ⟨⟨by decide +kernel, by decide +kernel⟩, List.mem_of_getElem? (i := 597) (by decide +kernel), List.mem_of_getElem? (i := 790) (by decide +kernel), List.mem_of_getElem? (i := 791) (by decide +kernel)⟩
theorem lw_p20 : lw_okq (⟨"BlindBuffModel", "asides", "()V"⟩, 18) := ⟨⟨by decide +kernel, by decide +kernel⟩, List.mem_of_getElem? (i := 597) (by decide +kernel), List.mem_of_getElem? (i := 819) (by decide +kernel), List.mem_of_getElem? (i := 820) (by decide +kernel)⟩
theorem lw_p21 : lw_okq (⟨"BlindBuffModel", "backs", "()V"⟩, 18) := ⟨⟨by decide +kernel, by decide +kernel⟩, List.mem_of_getElem? (i := 597) (by decide +kernel), List.mem_of_getElem? (i := 823) (by decide +kernel), List.mem_of_getElem? (i := 824) (by decide +kernel)⟩
theorem lw_p22 : lw_okq (⟨"BlindBuffModel", "nextBehind", "()I"⟩, 18) := ⟨⟨by decide +kernel, by decide +kernel⟩, List.mem_of_getElem? (i := 597) (by decide +kernel), List.mem_of_getElem? (i := 831) (by decide +kernel), List.mem_of_getElem? (i := 832) (by decide +kernel)⟩
theorem lw_p23 : lw_okq (⟨"BlindBuffModel", "caughtBehind", "(II)I"⟩, 18) := ⟨⟨by decide +kernel, by decide +kernel⟩, List.mem_of_getElem? (i := 597) (by decide +kernel), List.mem_of_getElem? (i := 839) (by decide +kernel), List.mem_of_getElem? (i := 840) (by decide +kernel)⟩
theorem lw_p24 : lw_okq (⟨"BlindBuffModel", "why", "(IIII)I"⟩, 18) := ⟨⟨by decide +kernel, by decide +kernel⟩, List.mem_of_getElem? (i := 597) (by decide +kernel), List.mem_of_getElem? (i := 882) (by decide +kernel), List.mem_of_getElem? (i := 883) (by decide +kernel)⟩
def lw_privs_2 : List (MethodName × Nat) := [(⟨"BlindBuffModel", "readFace", "()I"⟩, 18), (⟨"BlindBuffModel", "notes", "()V"⟩, 18), (⟨"BlindBuffModel", "goesBy", "()Z"⟩, 18), (⟨"BlindBuffModel", "beside", "(II)I"⟩, 18), (⟨"BlindBuffModel", "asides", "()V"⟩, 18), (⟨"BlindBuffModel", "backs", "()V"⟩, 18), (⟨"BlindBuffModel", "nextBehind", "()I"⟩, 18), (⟨"BlindBuffModel", "caughtBehind", "(II)I"⟩, 18), (⟨"BlindBuffModel", "why", "(IIII)I"⟩, 18)]
theorem lw_r2 : ∀ q ∈ lw_privs_2, lw_okq q := List.forall_mem_cons.mpr ⟨lw_p16, List.forall_mem_cons.mpr ⟨lw_p17, List.forall_mem_cons.mpr ⟨lw_p18, List.forall_mem_cons.mpr ⟨lw_p19, List.forall_mem_cons.mpr ⟨lw_p20, List.forall_mem_cons.mpr ⟨lw_p21, List.forall_mem_cons.mpr ⟨lw_p22, List.forall_mem_cons.mpr ⟨lw_p23, List.forall_mem_cons.mpr ⟨lw_p24, fun _ h => absurd h List.not_mem_nil⟩⟩⟩⟩⟩⟩⟩⟩⟩
def lw_privs : List (MethodName × Nat) := lw_privs_1 ++ (lw_privs_2)
def lw_tbl : List Cond := k2_sels lw_privs ++ tables_1
theorem lw_privs_ok : ∀ q ∈ lw_privs, lw_okq q := by
  show ∀ q ∈ lw_privs_1 ++ (lw_privs_2), lw_okq q
  exact List.forall_mem_append.mpr ⟨lw_r1, lw_r2⟩
end
section
def RX0 : String := "BlindBuff$City"
def TX0 : u_T := fun k => match k with
  | 0 => ("BlindBuff$City", "rows", "I", false)
  | 1 => ("BlindBuff$City", "columns", "I", false)
  | 2 => ("BlindBuff$City", "people", "I", false)
  | 3 => ("BlindBuff$City", "constable", "I", false)
  | 4 => ("BlindBuff$City", "caught", "I", false)
  | 5 => ("BlindBuff$City", "minute", "I", false)
  | 6 => ("BlindBuff$City", "right", "I", false)
  | 7 => ("BlindBuff$City", "wrong", "I", false)
  | 8 => ("BlindBuff$City", "draw", "I", false)
  | 9 => ("BlindBuff$City", "kind", "[I", true)
  | 10 => ("BlindBuff$City", "cell", "[I", true)
  | 11 => ("BlindBuff$City", "noise", "[I", true)
  | 12 => ("BlindBuff$City", "look", "[I", true)
  | _ => ("BlindBuff$City", "disguise", "[I", true)
def tyX0 : Nat → FieldType := fun k => match k with
  | 0 => .int
  | 1 => .int
  | 2 => .int
  | 3 => .int
  | 4 => .int
  | 5 => .int
  | 6 => .int
  | 7 => .int
  | 8 => .int
  | 9 => .array .int
  | 10 => .array .int
  | 11 => .array .int
  | 12 => .array .int
  | _ => .array .int
abbrev wsX00 : List Cond := u_ws RX0 TX0 14
theorem nmX0 : ∀ a, a < 14 → ∀ b, b < 14 → a ≠ b → (TX0 a).2.1 ≠ (TX0 b).2.1 := by decide +kernel
theorem tyX0_ok : ∀ k, k < 14 → parseFieldDescriptor (TX0 k).2.2.1 = some (tyX0 k) := by decide +kernel
abbrev cX0_init : ByteArray := prog_2_method_1_code
def yX0_init : MethodName := ⟨RX0, "<init>", "()V"⟩
abbrev cX0_take : ByteArray := prog_2_method_2_code
def yX0_take : MethodName := ⟨RX0, "take", "(LBlindBuff$City;)V"⟩
abbrev cX0_build : ByteArray := prog_2_method_3_code
def yX0_build : MethodName := ⟨RX0, "build", "(II)V"⟩
abbrev cX0_enter : ByteArray := prog_2_method_4_code
def yX0_enter : MethodName := ⟨RX0, "enter", "(IIII)I"⟩
abbrev cX0_cells : ByteArray := prog_2_method_5_code
def yX0_cells : MethodName := ⟨RX0, "cells", "()I"⟩
abbrev cX0_isFree : ByteArray := prog_2_method_6_code
def yX0_isFree : MethodName := ⟨RX0, "isFree", "(I)Z"⟩
abbrev cX0_far : ByteArray := prog_2_method_7_code
def yX0_far : MethodName := ⟨RX0, "far", "(I)I"⟩
abbrev cX0_rowOf : ByteArray := prog_2_method_8_code
def yX0_rowOf : MethodName := ⟨RX0, "rowOf", "(I)I"⟩
abbrev cX0_columnOf : ByteArray := prog_2_method_9_code
def yX0_columnOf : MethodName := ⟨RX0, "columnOf", "(I)I"⟩
abbrev cX0_loud : ByteArray := prog_2_method_10_code
def yX0_loud : MethodName := ⟨RX0, "loud", "(I)I"⟩
abbrev cX0_followed : ByteArray := prog_2_method_11_code
def yX0_followed : MethodName := ⟨RX0, "followed", "()I"⟩
abbrev cX0_goesFirst : ByteArray := prog_2_method_12_code
def yX0_goesFirst : MethodName := ⟨RX0, "goesFirst", "(II)Z"⟩
abbrev cX0_feel : ByteArray := prog_2_method_13_code
def yX0_feel : MethodName := ⟨RX0, "feel", "(I)I"⟩
abbrev cX0_namedBy : ByteArray := prog_2_method_14_code
def yX0_namedBy : MethodName := ⟨RX0, "namedBy", "(I)I"⟩
abbrev cX0_pass : ByteArray := prog_2_method_15_code
def yX0_pass : MethodName := ⟨RX0, "pass", "()I"⟩
abbrev cX0_nearerTo : ByteArray := prog_2_method_16_code
def yX0_nearerTo : MethodName := ⟨RX0, "nearerTo", "(I)I"⟩
abbrev cX0_firstOnHisCell : ByteArray := prog_2_method_17_code
def yX0_firstOnHisCell : MethodName := ⟨RX0, "firstOnHisCell", "()I"⟩
abbrev cX0_passUntilCaught : ByteArray := prog_2_method_18_code
def yX0_passUntilCaught : MethodName := ⟨RX0, "passUntilCaught", "()I"⟩
abbrev cX0_behindHowMany : ByteArray := prog_2_method_19_code
def yX0_behindHowMany : MethodName := ⟨RX0, "behindHowMany", "(II)I"⟩
abbrev cX0_beside : ByteArray := prog_2_method_20_code
def yX0_beside : MethodName := ⟨RX0, "beside", "(II)I"⟩
abbrev cX0_stray : ByteArray := prog_2_method_21_code
def yX0_stray : MethodName := ⟨RX0, "stray", "()V"⟩
def RX1 : String := "BlindBuff$Past"
def TX1 : u_T := fun k => match k with
  | 0 => ("BlindBuff$Past", "steps", "[[I", true)
  | 1 => ("BlindBuff$Past", "place", "I", false)
  | _ => ("BlindBuff$Past", "known", "I", false)
def tyX1 : Nat → FieldType := fun k => match k with
  | 0 => .array (.array .int)
  | 1 => .int
  | _ => .int
abbrev wsX10 : List Cond := u_ws RX1 TX1 3
theorem nmX1 : ∀ a, a < 3 → ∀ b, b < 3 → a ≠ b → (TX1 a).2.1 ≠ (TX1 b).2.1 := by decide +kernel
theorem tyX1_ok : ∀ k, k < 3 → parseFieldDescriptor (TX1 k).2.2.1 = some (tyX1 k) := by decide +kernel
abbrev cX1_init : ByteArray := prog_3_method_1_code
def yX1_init : MethodName := ⟨RX1, "<init>", "()V"⟩
abbrev cX1_forget : ByteArray := prog_3_method_2_code
def yX1_forget : MethodName := ⟨RX1, "forget", "()V"⟩
abbrev cX1_keep : ByteArray := prog_3_method_3_code
def yX1_keep : MethodName := ⟨RX1, "keep", "(LBlindBuff$City;)V"⟩
abbrev cX1_bringBack : ByteArray := prog_3_method_4_code
def yX1_bringBack : MethodName := ⟨RX1, "bringBack", "(LBlindBuff$City;)V"⟩
abbrev cX1_takePast : ByteArray := prog_3_method_5_code
def yX1_takePast : MethodName := ⟨RX1, "takePast", "(LBlindBuff$Past;)V"⟩
def RX2 : String := "BlindBuff$Row"
def TX2 : u_T := fun k => match k with
  | 0 => ("BlindBuff$Row", "lane", "I", false)
  | 1 => ("BlindBuff$Row", "length", "I", false)
  | _ => ("BlindBuff$Row", "items", "[J", true)
def tyX2 : Nat → FieldType := fun k => match k with
  | 0 => .int
  | 1 => .int
  | _ => .array .long
abbrev wsX20 : List Cond := u_ws RX2 TX2 3
theorem nmX2 : ∀ a, a < 3 → ∀ b, b < 3 → a ≠ b → (TX2 a).2.1 ≠ (TX2 b).2.1 := by decide +kernel
theorem tyX2_ok : ∀ k, k < 3 → parseFieldDescriptor (TX2 k).2.2.1 = some (tyX2 k) := by decide +kernel
abbrev cX2_init : ByteArray := prog_4_method_1_code
def yX2_init : MethodName := ⟨RX2, "<init>", "()V"⟩
abbrev cX2_isMissing : ByteArray := prog_4_method_2_code
def yX2_isMissing : MethodName := ⟨RX2, "isMissing", "()Z"⟩
abbrev cX2_renew : ByteArray := prog_4_method_3_code
def yX2_renew : MethodName := ⟨RX2, "renew", "(II)V"⟩
abbrev cX2_lose : ByteArray := prog_4_method_4_code
def yX2_lose : MethodName := ⟨RX2, "lose", "()V"⟩
abbrev cX2_faultOf : ByteArray := prog_4_method_5_code
def yX2_faultOf : MethodName := ⟨RX2, "faultOf", "(III)I"⟩
abbrev cX2_reaches : ByteArray := prog_4_method_6_code
def yX2_reaches : MethodName := ⟨RX2, "reaches", "(II)Z"⟩
abbrev cX2_put : ByteArray := prog_4_method_7_code
def yX2_put : MethodName := ⟨RX2, "put", "(IJ)V"⟩
abbrev cX2_tellsOf : ByteArray := prog_4_method_8_code
def yX2_tellsOf : MethodName := ⟨RX2, "tellsOf", "(LBlindBuff$City;II)Z"⟩
def RX3 : String := "BlindBuff$Tape"
def TX3 : u_T := fun k => match k with
  | 0 => ("BlindBuff$Tape", "letters", "[C", true)
  | 1 => ("BlindBuff$Tape", "length", "I", false)
  | _ => ("BlindBuff$Tape", "at", "I", false)
def tyX3 : Nat → FieldType := fun k => match k with
  | 0 => .array .char
  | 1 => .int
  | _ => .int
abbrev wsX30 : List Cond := u_ws RX3 TX3 3
theorem nmX3 : ∀ a, a < 3 → ∀ b, b < 3 → a ≠ b → (TX3 a).2.1 ≠ (TX3 b).2.1 := by decide +kernel
theorem tyX3_ok : ∀ k, k < 3 → parseFieldDescriptor (TX3 k).2.2.1 = some (tyX3 k) := by decide +kernel
abbrev cX3_init : ByteArray := prog_5_method_1_code
def yX3_init : MethodName := ⟨RX3, "<init>", "()V"⟩
abbrev cX3_add : ByteArray := prog_5_method_2_code
def yX3_add : MethodName := ⟨RX3, "add", "(I)I"⟩
abbrev cX3_readInto : ByteArray := prog_5_method_3_code
def yX3_readInto : MethodName := ⟨RX3, "readInto", "(LBlindBuff$City;)Z"⟩
abbrev cX3_readStreets : ByteArray := prog_5_method_4_code
def yX3_readStreets : MethodName := ⟨RX3, "readStreets", "(LBlindBuff$City;)Z"⟩
abbrev cX3_readPerson : ByteArray := prog_5_method_5_code
def yX3_readPerson : MethodName := ⟨RX3, "readPerson", "(LBlindBuff$City;)Z"⟩
abbrev cX3_readFeatures : ByteArray := prog_5_method_6_code
def yX3_readFeatures : MethodName := ⟨RX3, "readFeatures", "()I"⟩
abbrev cX3_readCell : ByteArray := prog_5_method_7_code
def yX3_readCell : MethodName := ⟨RX3, "readCell", "(LBlindBuff$City;)I"⟩
abbrev cX3_readDigit : ByteArray := prog_5_method_8_code
def yX3_readDigit : MethodName := ⟨RX3, "readDigit", "(II)I"⟩
abbrev cX3_readSign : ByteArray := prog_5_method_9_code
def yX3_readSign : MethodName := ⟨RX3, "readSign", "(C)Z"⟩
abbrev cX3_peek : ByteArray := prog_5_method_10_code
def yX3_peek : MethodName := ⟨RX3, "peek", "()C"⟩
def RX4 : String := "BlindBuff"
def TX4 : u_T := fun k => match k with
  | 0 => ("BlindBuff", "now", "LBlindBuff$City;", true)
  | 1 => ("BlindBuff", "past", "LBlindBuff$Past;", true)
  | 2 => ("BlindBuff", "trial", "LBlindBuff$City;", true)
  | 3 => ("BlindBuff", "keptCity", "LBlindBuff$City;", true)
  | 4 => ("BlindBuff", "keptPast", "LBlindBuff$Past;", true)
  | 5 => ("BlindBuff", "kept", "Z", false)
  | 6 => ("BlindBuff", "tape", "LBlindBuff$Tape;", true)
  | _ => ("BlindBuff", "sheets", "[LBlindBuff$Row;", true)
def tyX4 : Nat → FieldType := fun k => match k with
  | 0 => .object "BlindBuff$City"
  | 1 => .object "BlindBuff$Past"
  | 2 => .object "BlindBuff$City"
  | 3 => .object "BlindBuff$City"
  | 4 => .object "BlindBuff$Past"
  | 5 => .boolean
  | 6 => .object "BlindBuff$Tape"
  | _ => .array (.object "BlindBuff$Row")
abbrev wsX40 : List Cond := u_ws RX4 TX4 8
theorem nmX4 : ∀ a, a < 8 → ∀ b, b < 8 → a ≠ b → (TX4 a).2.1 ≠ (TX4 b).2.1 := by decide +kernel
theorem tyX4_ok : ∀ k, k < 8 → parseFieldDescriptor (TX4 k).2.2.1 = some (tyX4 k) := by decide +kernel
abbrev cX4_init : ByteArray := prog_1_method_1_code
def yX4_init : MethodName := ⟨RX4, "<init>", "()V"⟩
abbrev cX4_streets : ByteArray := prog_1_method_2_code
def yX4_streets : MethodName := ⟨RX4, "streets", "(II)I"⟩
abbrev cX4_person : ByteArray := prog_1_method_3_code
def yX4_person : MethodName := ⟨RX4, "person", "(IIII)I"⟩
abbrev cX4_of : ByteArray := prog_1_method_4_code
def yX4_of : MethodName := ⟨RX4, "of", "(II)I"⟩
abbrev cX4_rule : ByteArray := prog_1_method_5_code
def yX4_rule : MethodName := ⟨RX4, "rule", "(III)I"⟩
abbrev cX4_type : ByteArray := prog_1_method_6_code
def yX4_type : MethodName := ⟨RX4, "type", "(I)I"⟩
abbrev cX4_city : ByteArray := prog_1_method_7_code
def yX4_city : MethodName := ⟨RX4, "city", "()I"⟩
abbrev cX4_count : ByteArray := prog_1_method_8_code
def yX4_count : MethodName := ⟨RX4, "count", "(I)I"⟩
abbrev cX4_minutes : ByteArray := prog_1_method_9_code
def yX4_minutes : MethodName := ⟨RX4, "minutes", "(I)I"⟩
abbrev cX4_walk : ByteArray := prog_1_method_10_code
def yX4_walk : MethodName := ⟨RX4, "walk", "(II)I"⟩
abbrev cX4_free : ByteArray := prog_1_method_11_code
def yX4_free : MethodName := ⟨RX4, "free", "(I)I"⟩
abbrev cX4_drift : ByteArray := prog_1_method_12_code
def yX4_drift : MethodName := ⟨RX4, "drift", "(I)I"⟩
abbrev cX4_undo : ByteArray := prog_1_method_13_code
def yX4_undo : MethodName := ⟨RX4, "undo", "()I"⟩
abbrev cX4_seed : ByteArray := prog_1_method_14_code
def yX4_seed : MethodName := ⟨RX4, "seed", "(I)I"⟩
abbrev cX4_ahead : ByteArray := prog_1_method_15_code
def yX4_ahead : MethodName := ⟨RX4, "ahead", "(II)I"⟩
abbrev cX4_next : ByteArray := prog_1_method_16_code
def yX4_next : MethodName := ⟨RX4, "next", "(I)I"⟩
abbrev cX4_stand : ByteArray := prog_1_method_17_code
def yX4_stand : MethodName := ⟨RX4, "stand", "(II)I"⟩
abbrev cX4_hush : ByteArray := prog_1_method_18_code
def yX4_hush : MethodName := ⟨RX4, "hush", "(II)I"⟩
abbrev cX4_mask : ByteArray := prog_1_method_19_code
def yX4_mask : MethodName := ⟨RX4, "mask", "(II)I"⟩
abbrev cX4_alike : ByteArray := prog_1_method_20_code
def yX4_alike : MethodName := ⟨RX4, "alike", "(II)I"⟩
abbrev cX4_turned : ByteArray := prog_1_method_21_code
def yX4_turned : MethodName := ⟨RX4, "turned", "(II)I"⟩
abbrev cX4_luck : ByteArray := prog_1_method_22_code
def yX4_luck : MethodName := ⟨RX4, "luck", "(III)I"⟩
abbrev cX4_image : ByteArray := prog_1_method_23_code
def yX4_image : MethodName := ⟨RX4, "image", "()I"⟩
abbrev cX4_restore : ByteArray := prog_1_method_24_code
def yX4_restore : MethodName := ⟨RX4, "restore", "()I"⟩
abbrev cX4_seen : ByteArray := prog_1_method_25_code
def yX4_seen : MethodName := ⟨RX4, "seen", "(IIIII)I"⟩
abbrev cX4_film : ByteArray := prog_1_method_26_code
def yX4_film : MethodName := ⟨RX4, "film", "(IIII)I"⟩
abbrev cX4_sheet : ByteArray := prog_1_method_27_code
def yX4_sheet : MethodName := ⟨RX4, "sheet", "(III)I"⟩
abbrev cX4_drop : ByteArray := prog_1_method_28_code
def yX4_drop : MethodName := ⟨RX4, "drop", "(I)I"⟩
abbrev cX4_item : ByteArray := prog_1_method_29_code
def yX4_item : MethodName := ⟨RX4, "item", "(IIIJ)I"⟩
abbrev cX4_copy : ByteArray := prog_1_method_30_code
def yX4_copy : MethodName := ⟨RX4, "copy", "(IIIII)I"⟩
abbrev cX4_isNobody : ByteArray := prog_1_method_31_code
def yX4_isNobody : MethodName := ⟨RX4, "isNobody", "(I)Z"⟩
abbrev cX4_isNoSheet : ByteArray := prog_1_method_32_code
def yX4_isNoSheet : MethodName := ⟨RX4, "isNoSheet", "(I)Z"⟩
abbrev cX4_outside : ByteArray := prog_1_method_33_code
def yX4_outside : MethodName := ⟨RX4, "outside", "(III)Z"⟩
abbrev cX4_commonDivisor : ByteArray := prog_1_method_34_code
def yX4_commonDivisor : MethodName := ⟨RX4, "commonDivisor", "(II)I"⟩
def RX5 : String := "BlindBuffModel"
def TX5 : u_T := fun k => match k with
  | 0 => ("BlindBuffModel", "now", "[I", true)
  | 1 => ("BlindBuffModel", "last", "I", false)
  | 2 => ("BlindBuffModel", "lastNamed", "I", false)
  | 3 => ("BlindBuffModel", "tape", "[I", true)
  | 4 => ("BlindBuffModel", "typed", "I", false)
  | 5 => ("BlindBuffModel", "place", "I", false)
  | 6 => ("BlindBuffModel", "isFault", "Z", false)
  | 7 => ("BlindBuffModel", "read", "[I", true)
  | 8 => ("BlindBuffModel", "undone", "[I", true)
  | 9 => ("BlindBuffModel", "undos", "I", false)
  | 10 => ("BlindBuffModel", "aside", "[I", true)
  | 11 => ("BlindBuffModel", "kept", "[I", true)
  | 12 => ("BlindBuffModel", "keptUndos", "I", false)
  | 13 => ("BlindBuffModel", "isKept", "Z", false)
  | 14 => ("BlindBuffModel", "lanes", "[I", true)
  | 15 => ("BlindBuffModel", "sizes", "[I", true)
  | 16 => ("BlindBuffModel", "items", "[J", true)
  | _ => ("BlindBuffModel", "moved", "[J", true)
def tyX5 : Nat → FieldType := fun k => match k with
  | 0 => .array .int
  | 1 => .int
  | 2 => .int
  | 3 => .array .int
  | 4 => .int
  | 5 => .int
  | 6 => .boolean
  | 7 => .array .int
  | 8 => .array .int
  | 9 => .int
  | 10 => .array .int
  | 11 => .array .int
  | 12 => .int
  | 13 => .boolean
  | 14 => .array .int
  | 15 => .array .int
  | 16 => .array .long
  | _ => .array .long
abbrev wsX50 : List Cond := u_ws RX5 TX5 18
theorem nmX5 : ∀ a, a < 18 → ∀ b, b < 18 → a ≠ b → (TX5 a).2.1 ≠ (TX5 b).2.1 := by decide +kernel
theorem tyX5_ok : ∀ k, k < 18 → parseFieldDescriptor (TX5 k).2.2.1 = some (tyX5 k) := by decide +kernel
abbrev cX5_in : ByteArray := prog_7_method_2_code
def yX5_in : MethodName := ⟨RX5, "in", "(JJJ)Z"⟩
abbrev cX5_init : ByteArray := prog_7_method_3_code
def yX5_init : MethodName := ⟨RX5, "<init>", "()V"⟩
abbrev cX5_fresh : ByteArray := prog_7_method_4_code
def yX5_fresh : MethodName := ⟨RX5, "fresh", "(II)V"⟩
abbrev cX5_cells : ByteArray := prog_7_method_5_code
def yX5_cells : MethodName := ⟨RX5, "cells", "()I"⟩
abbrev cX5_isPerson : ByteArray := prog_7_method_6_code
def yX5_isPerson : MethodName := ⟨RX5, "isPerson", "(I)Z"⟩
abbrev cX5_told : ByteArray := prog_7_method_7_code
def yX5_told : MethodName := ⟨RX5, "told", "(II)I"⟩
abbrev cX5_isFree : ByteArray := prog_7_method_8_code
def yX5_isFree : MethodName := ⟨RX5, "isFree", "(I)Z"⟩
abbrev cX5_apart : ByteArray := prog_7_method_9_code
def yX5_apart : MethodName := ⟨RX5, "apart", "(II)I"⟩
abbrev cX5_far : ByteArray := prog_7_method_10_code
def yX5_far : MethodName := ⟨RX5, "far", "(I)I"⟩
abbrev cX5_loud : ByteArray := prog_7_method_11_code
def yX5_loud : MethodName := ⟨RX5, "loud", "(I)I"⟩
abbrev cX5_many : ByteArray := prog_7_method_12_code
def yX5_many : MethodName := ⟨RX5, "many", "(I)I"⟩
abbrev cX5_named : ByteArray := prog_7_method_13_code
def yX5_named : MethodName := ⟨RX5, "named", "(II)I"⟩
abbrev cX5_follows : ByteArray := prog_7_method_14_code
def yX5_follows : MethodName := ⟨RX5, "follows", "(I)I"⟩
abbrev cX5_nearer : ByteArray := prog_7_method_15_code
def yX5_nearer : MethodName := ⟨RX5, "nearer", "(II)I"⟩
abbrev cX5_goesBy : ByteArray := prog_7_method_16_code
def yX5_goesBy : MethodName := ⟨RX5, "goesBy", "()Z"⟩
abbrev cX5_streets : ByteArray := prog_7_method_17_code
def yX5_streets : MethodName := ⟨RX5, "streets", "(II)I"⟩
abbrev cX5_comes : ByteArray := prog_7_method_18_code
def yX5_comes : MethodName := ⟨RX5, "comes", "(IIII)V"⟩
abbrev cX5_person : ByteArray := prog_7_method_19_code
def yX5_person : MethodName := ⟨RX5, "person", "(IIII)I"⟩
abbrev cX5_of : ByteArray := prog_7_method_20_code
def yX5_of : MethodName := ⟨RX5, "of", "(II)I"⟩
abbrev cX5_rule : ByteArray := prog_7_method_21_code
def yX5_rule : MethodName := ⟨RX5, "rule", "(III)I"⟩
abbrev cX5_count : ByteArray := prog_7_method_22_code
def yX5_count : MethodName := ⟨RX5, "count", "(I)I"⟩
abbrev cX5_type : ByteArray := prog_7_method_23_code
def yX5_type : MethodName := ⟨RX5, "type", "(I)I"⟩
abbrev cX5_here : ByteArray := prog_7_method_24_code
def yX5_here : MethodName := ⟨RX5, "here", "()I"⟩
abbrev cX5_must : ByteArray := prog_7_method_25_code
def yX5_must : MethodName := ⟨RX5, "must", "(Z)V"⟩
abbrev cX5_digit : ByteArray := prog_7_method_26_code
def yX5_digit : MethodName := ⟨RX5, "digit", "(II)I"⟩
abbrev cX5_sign : ByteArray := prog_7_method_27_code
def yX5_sign : MethodName := ⟨RX5, "sign", "(I)V"⟩
abbrev cX5_readFace : ByteArray := prog_7_method_28_code
def yX5_readFace : MethodName := ⟨RX5, "readFace", "()I"⟩
abbrev cX5_readPeople : ByteArray := prog_7_method_29_code
def yX5_readPeople : MethodName := ⟨RX5, "readPeople", "(II)I"⟩
abbrev cX5_city : ByteArray := prog_7_method_30_code
def yX5_city : MethodName := ⟨RX5, "city", "()I"⟩
abbrev cX5_notes : ByteArray := prog_7_method_31_code
def yX5_notes : MethodName := ⟨RX5, "notes", "()V"⟩
abbrev cX5_minutes : ByteArray := prog_7_method_32_code
def yX5_minutes : MethodName := ⟨RX5, "minutes", "(I)I"⟩
abbrev cX5_beside : ByteArray := prog_7_method_33_code
def yX5_beside : MethodName := ⟨RX5, "beside", "(II)I"⟩
abbrev cX5_walk : ByteArray := prog_7_method_34_code
def yX5_walk : MethodName := ⟨RX5, "walk", "(II)I"⟩
abbrev cX5_free : ByteArray := prog_7_method_35_code
def yX5_free : MethodName := ⟨RX5, "free", "(I)I"⟩
abbrev cX5_drift : ByteArray := prog_7_method_36_code
def yX5_drift : MethodName := ⟨RX5, "drift", "(I)I"⟩
abbrev cX5_undo : ByteArray := prog_7_method_37_code
def yX5_undo : MethodName := ⟨RX5, "undo", "()I"⟩
abbrev cX5_seed : ByteArray := prog_7_method_38_code
def yX5_seed : MethodName := ⟨RX5, "seed", "(I)I"⟩
abbrev cX5_asides : ByteArray := prog_7_method_39_code
def yX5_asides : MethodName := ⟨RX5, "asides", "()V"⟩
abbrev cX5_backs : ByteArray := prog_7_method_40_code
def yX5_backs : MethodName := ⟨RX5, "backs", "()V"⟩
abbrev cX5_ahead : ByteArray := prog_7_method_41_code
def yX5_ahead : MethodName := ⟨RX5, "ahead", "(II)I"⟩
abbrev cX5_nextBehind : ByteArray := prog_7_method_42_code
def yX5_nextBehind : MethodName := ⟨RX5, "nextBehind", "()I"⟩
abbrev cX5_next : ByteArray := prog_7_method_43_code
def yX5_next : MethodName := ⟨RX5, "next", "(I)I"⟩
abbrev cX5_caughtBehind : ByteArray := prog_7_method_44_code
def yX5_caughtBehind : MethodName := ⟨RX5, "caughtBehind", "(II)I"⟩
abbrev cX5_stand : ByteArray := prog_7_method_45_code
def yX5_stand : MethodName := ⟨RX5, "stand", "(II)I"⟩
abbrev cX5_hush : ByteArray := prog_7_method_46_code
def yX5_hush : MethodName := ⟨RX5, "hush", "(II)I"⟩
abbrev cX5_mask : ByteArray := prog_7_method_47_code
def yX5_mask : MethodName := ⟨RX5, "mask", "(II)I"⟩
abbrev cX5_alike : ByteArray := prog_7_method_48_code
def yX5_alike : MethodName := ⟨RX5, "alike", "(II)I"⟩
abbrev cX5_turned : ByteArray := prog_7_method_49_code
def yX5_turned : MethodName := ⟨RX5, "turned", "(II)I"⟩
abbrev cX5_luck : ByteArray := prog_7_method_50_code
def yX5_luck : MethodName := ⟨RX5, "luck", "(III)I"⟩
abbrev cX5_image : ByteArray := prog_7_method_51_code
def yX5_image : MethodName := ⟨RX5, "image", "()I"⟩
abbrev cX5_restore : ByteArray := prog_7_method_52_code
def yX5_restore : MethodName := ⟨RX5, "restore", "()I"⟩
abbrev cX5_isSheet : ByteArray := prog_7_method_53_code
def yX5_isSheet : MethodName := ⟨RX5, "isSheet", "(I)Z"⟩
abbrev cX5_isLane : ByteArray := prog_7_method_54_code
def yX5_isLane : MethodName := ⟨RX5, "isLane", "(I)Z"⟩
abbrev cX5_why : ByteArray := prog_7_method_55_code
def yX5_why : MethodName := ⟨RX5, "why", "(IIII)I"⟩
abbrev cX5_seen : ByteArray := prog_7_method_56_code
def yX5_seen : MethodName := ⟨RX5, "seen", "(IIIII)I"⟩
abbrev cX5_film : ByteArray := prog_7_method_57_code
def yX5_film : MethodName := ⟨RX5, "film", "(IIII)I"⟩
abbrev cX5_sheet : ByteArray := prog_7_method_58_code
def yX5_sheet : MethodName := ⟨RX5, "sheet", "(III)I"⟩
abbrev cX5_drop : ByteArray := prog_7_method_59_code
def yX5_drop : MethodName := ⟨RX5, "drop", "(I)I"⟩
abbrev cX5_item : ByteArray := prog_7_method_60_code
def yX5_item : MethodName := ⟨RX5, "item", "(IIIJ)I"⟩
abbrev cX5_copy : ByteArray := prog_7_method_61_code
def yX5_copy : MethodName := ⟨RX5, "copy", "(IIIII)I"⟩
def RJ6 : String := "java/lang/Integer"
def TJ6 : u_T := fun k => match k with
  | _ => ("", "", "", false)
def tyJ6 : Nat → FieldType := fun k => match k with
  | _ => .int
theorem nmJ6 : ∀ a, a < 0 → ∀ b, b < 0 → a ≠ b → (TJ6 a).2.1 ≠ (TJ6 b).2.1 := by decide +kernel
theorem tyJ6_ok : ∀ k, k < 0 → parseFieldDescriptor (TJ6 k).2.2.1 = some (tyJ6 k) := by decide +kernel
abbrev cJ6_compare_7cf53 : ByteArray := prog_9_method_40_code
def yJ6_compare_7cf53 : MethodName := ⟨RJ6, "compare", "(II)I"⟩
abbrev cJ6_bitCount_0f7a4 : ByteArray := prog_9_method_49_code
def yJ6_bitCount_0f7a4 : MethodName := ⟨RJ6, "bitCount", "(I)I"⟩
def RJ0 : String := "java/lang/String"
def TJ0 : u_T := fun k => match k with
  | _ => ("", "", "", false)
def tyJ0 : Nat → FieldType := fun k => match k with
  | _ => .int
theorem nmJ0 : ∀ a, a < 0 → ∀ b, b < 0 → a ≠ b → (TJ0 a).2.1 ≠ (TJ0 b).2.1 := by decide +kernel
theorem tyJ0_ok : ∀ k, k < 0 → parseFieldDescriptor (TJ0 k).2.2.1 = some (tyJ0 k) := by decide +kernel
abbrev cJ0_length_8abf5 : ByteArray := prog_11_method_54_code
def yJ0_length_8abf5 : MethodName := ⟨RJ0, "length", "()I"⟩
abbrev cJ0_indexOf_0f7a4 : ByteArray := prog_11_method_79_code
def yJ0_indexOf_0f7a4 : MethodName := ⟨RJ0, "indexOf", "(I)I"⟩
abbrev cJ0_indexOf_7cf53 : ByteArray := prog_11_method_80_code
def yJ0_indexOf_7cf53 : MethodName := ⟨RJ0, "indexOf", "(II)I"⟩
abbrev cJ0_coder_7d493 : ByteArray := prog_11_method_152_code
def yJ0_coder_7d493 : MethodName := ⟨RJ0, "coder", "()B"⟩
abbrev cJ0_isLatin1_aae02 : ByteArray := prog_11_method_154_code
def yJ0_isLatin1_aae02 : MethodName := ⟨RJ0, "isLatin1", "()Z"⟩
abbrev cJ0_checkBoundsBeginEnd_23922 : ByteArray := prog_11_method_158_code
def yJ0_checkBoundsBeginEnd_23922 : MethodName := ⟨RJ0, "checkBoundsBeginEnd", "(III)V"⟩
def RJ1 : String := "java/lang/StringLatin1"
def TJ1 : u_T := fun k => match k with
  | _ => ("", "", "", false)
def tyJ1 : Nat → FieldType := fun k => match k with
  | _ => .int
theorem nmJ1 : ∀ a, a < 0 → ∀ b, b < 0 → a ≠ b → (TJ1 a).2.1 ≠ (TJ1 b).2.1 := by decide +kernel
theorem tyJ1_ok : ∀ k, k < 0 → parseFieldDescriptor (TJ1 k).2.2.1 = some (tyJ1 k) := by decide +kernel
abbrev cJ1_canEncode_9a6ad : ByteArray := prog_12_method_4_code
def yJ1_canEncode_9a6ad : MethodName := ⟨RJ1, "canEncode", "(I)Z"⟩
abbrev cJ1_indexOf_4cfef : ByteArray := prog_12_method_22_code
def yJ1_indexOf_4cfef : MethodName := ⟨RJ1, "indexOf", "([BIII)I"⟩
abbrev cJ1_indexOfChar_4cfef : ByteArray := prog_12_method_23_code
def yJ1_indexOfChar_4cfef : MethodName := ⟨RJ1, "indexOfChar", "([BIII)I"⟩
def RL : String := "BlindBuffLaw"
abbrev cL_law : ByteArray := code
def yL_law : MethodName := ⟨RL, "law", "([I)Z"⟩
end
section
theorem dX0_init_0 : decode cX0_init 0 = .ok (.aload_n 0, 1) := by decide +kernel
theorem dX0_init_1 : decode cX0_init 1 = .ok (.invokespecial 3, 3) := by decide +kernel
theorem dX0_init_4 : decode cX0_init 4 = .ok (.aload_n 0, 1) := by decide +kernel
theorem dX0_init_5 : decode cX0_init 5 = .ok (.iconst 4, 1) := by decide +kernel
theorem dX0_init_6 : decode cX0_init 6 = .ok (.putfield 9, 3) := by decide +kernel
theorem dX0_init_9 : decode cX0_init 9 = .ok (.aload_n 0, 1) := by decide +kernel
theorem dX0_init_10 : decode cX0_init 10 = .ok (.iconst 5, 1) := by decide +kernel
theorem dX0_init_11 : decode cX0_init 11 = .ok (.putfield 15, 3) := by decide +kernel
theorem dX0_init_14 : decode cX0_init 14 = .ok (.aload_n 0, 1) := by decide +kernel
theorem dX0_init_15 : decode cX0_init 15 = .ok (.iconst 1, 1) := by decide +kernel
theorem dX0_init_16 : decode cX0_init 16 = .ok (.putfield 18, 3) := by decide +kernel
theorem dX0_init_19 : decode cX0_init 19 = .ok (.aload_n 0, 1) := by decide +kernel
theorem dX0_init_20 : decode cX0_init 20 = .ok (.bipush 6, 2) := by decide +kernel
theorem dX0_init_22 : decode cX0_init 22 = .ok (.newarray .int, 2) := by decide +kernel
theorem dX0_init_24 : decode cX0_init 24 = .ok (.putfield 21, 3) := by decide +kernel
theorem dX0_init_27 : decode cX0_init 27 = .ok (.aload_n 0, 1) := by decide +kernel
theorem dX0_init_28 : decode cX0_init 28 = .ok (.bipush 6, 2) := by decide +kernel
theorem dX0_init_30 : decode cX0_init 30 = .ok (.newarray .int, 2) := by decide +kernel
theorem dX0_init_32 : decode cX0_init 32 = .ok (.putfield 25, 3) := by decide +kernel
theorem dX0_init_35 : decode cX0_init 35 = .ok (.aload_n 0, 1) := by decide +kernel
theorem dX0_init_36 : decode cX0_init 36 = .ok (.bipush 6, 2) := by decide +kernel
theorem dX0_init_38 : decode cX0_init 38 = .ok (.newarray .int, 2) := by decide +kernel
theorem dX0_init_40 : decode cX0_init 40 = .ok (.putfield 28, 3) := by decide +kernel
theorem dX0_init_43 : decode cX0_init 43 = .ok (.aload_n 0, 1) := by decide +kernel
theorem dX0_init_44 : decode cX0_init 44 = .ok (.bipush 6, 2) := by decide +kernel
theorem dX0_init_46 : decode cX0_init 46 = .ok (.newarray .int, 2) := by decide +kernel
theorem dX0_init_48 : decode cX0_init 48 = .ok (.putfield 31, 3) := by decide +kernel
theorem dX0_init_51 : decode cX0_init 51 = .ok (.aload_n 0, 1) := by decide +kernel
theorem dX0_init_52 : decode cX0_init 52 = .ok (.bipush 6, 2) := by decide +kernel
theorem dX0_init_54 : decode cX0_init 54 = .ok (.newarray .int, 2) := by decide +kernel
theorem dX0_init_56 : decode cX0_init 56 = .ok (.putfield 34, 3) := by decide +kernel
theorem dX0_init_59 : decode cX0_init 59 = .ok (.return_, 1) := by decide +kernel
theorem dX0_take_0 : decode cX0_take 0 = .ok (.aload_n 0, 1) := by decide +kernel
theorem dX0_take_1 : decode cX0_take 1 = .ok (.aload_n 1, 1) := by decide +kernel
theorem dX0_take_2 : decode cX0_take 2 = .ok (.getfield 9, 3) := by decide +kernel
theorem dX0_take_5 : decode cX0_take 5 = .ok (.putfield 9, 3) := by decide +kernel
theorem dX0_take_8 : decode cX0_take 8 = .ok (.aload_n 0, 1) := by decide +kernel
theorem dX0_take_9 : decode cX0_take 9 = .ok (.aload_n 1, 1) := by decide +kernel
theorem dX0_take_10 : decode cX0_take 10 = .ok (.getfield 15, 3) := by decide +kernel
theorem dX0_take_13 : decode cX0_take 13 = .ok (.putfield 15, 3) := by decide +kernel
theorem dX0_take_16 : decode cX0_take 16 = .ok (.aload_n 0, 1) := by decide +kernel
theorem dX0_take_17 : decode cX0_take 17 = .ok (.aload_n 1, 1) := by decide +kernel
theorem dX0_take_18 : decode cX0_take 18 = .ok (.getfield 37, 3) := by decide +kernel
theorem dX0_take_21 : decode cX0_take 21 = .ok (.putfield 37, 3) := by decide +kernel
theorem dX0_take_24 : decode cX0_take 24 = .ok (.aload_n 0, 1) := by decide +kernel
theorem dX0_take_25 : decode cX0_take 25 = .ok (.aload_n 1, 1) := by decide +kernel
theorem dX0_take_26 : decode cX0_take 26 = .ok (.getfield 40, 3) := by decide +kernel
theorem dX0_take_29 : decode cX0_take 29 = .ok (.putfield 40, 3) := by decide +kernel
theorem dX0_take_32 : decode cX0_take 32 = .ok (.aload_n 0, 1) := by decide +kernel
theorem dX0_take_33 : decode cX0_take 33 = .ok (.aload_n 1, 1) := by decide +kernel
theorem dX0_take_34 : decode cX0_take 34 = .ok (.getfield 43, 3) := by decide +kernel
theorem dX0_take_37 : decode cX0_take 37 = .ok (.putfield 43, 3) := by decide +kernel
theorem dX0_take_40 : decode cX0_take 40 = .ok (.aload_n 0, 1) := by decide +kernel
theorem dX0_take_41 : decode cX0_take 41 = .ok (.aload_n 1, 1) := by decide +kernel
theorem dX0_take_42 : decode cX0_take 42 = .ok (.getfield 46, 3) := by decide +kernel
theorem dX0_take_45 : decode cX0_take 45 = .ok (.putfield 46, 3) := by decide +kernel
theorem dX0_take_48 : decode cX0_take 48 = .ok (.aload_n 0, 1) := by decide +kernel
theorem dX0_take_49 : decode cX0_take 49 = .ok (.aload_n 1, 1) := by decide +kernel
theorem dX0_take_50 : decode cX0_take 50 = .ok (.getfield 49, 3) := by decide +kernel
theorem dX0_take_53 : decode cX0_take 53 = .ok (.putfield 49, 3) := by decide +kernel
theorem dX0_take_56 : decode cX0_take 56 = .ok (.aload_n 0, 1) := by decide +kernel
theorem dX0_take_57 : decode cX0_take 57 = .ok (.aload_n 1, 1) := by decide +kernel
theorem dX0_take_58 : decode cX0_take 58 = .ok (.getfield 52, 3) := by decide +kernel
theorem dX0_take_61 : decode cX0_take 61 = .ok (.putfield 52, 3) := by decide +kernel
theorem dX0_take_64 : decode cX0_take 64 = .ok (.aload_n 0, 1) := by decide +kernel
theorem dX0_take_65 : decode cX0_take 65 = .ok (.aload_n 1, 1) := by decide +kernel
theorem dX0_take_66 : decode cX0_take 66 = .ok (.getfield 18, 3) := by decide +kernel
theorem dX0_take_69 : decode cX0_take 69 = .ok (.putfield 18, 3) := by decide +kernel
theorem dX0_take_72 : decode cX0_take 72 = .ok (.aload_n 1, 1) := by decide +kernel
theorem dX0_take_73 : decode cX0_take 73 = .ok (.getfield 21, 3) := by decide +kernel
theorem dX0_take_76 : decode cX0_take 76 = .ok (.iconst 0, 1) := by decide +kernel
theorem dX0_take_77 : decode cX0_take 77 = .ok (.aload_n 0, 1) := by decide +kernel
theorem dX0_take_78 : decode cX0_take 78 = .ok (.getfield 21, 3) := by decide +kernel
theorem dX0_take_81 : decode cX0_take 81 = .ok (.iconst 0, 1) := by decide +kernel
theorem dX0_take_82 : decode cX0_take 82 = .ok (.bipush 6, 2) := by decide +kernel
theorem dX0_take_84 : decode cX0_take 84 = .ok (.invokestatic 55, 3) := by decide +kernel
theorem dX0_take_87 : decode cX0_take 87 = .ok (.aload_n 1, 1) := by decide +kernel
theorem dX0_take_88 : decode cX0_take 88 = .ok (.getfield 25, 3) := by decide +kernel
theorem dX0_take_91 : decode cX0_take 91 = .ok (.iconst 0, 1) := by decide +kernel
theorem dX0_take_92 : decode cX0_take 92 = .ok (.aload_n 0, 1) := by decide +kernel
theorem dX0_take_93 : decode cX0_take 93 = .ok (.getfield 25, 3) := by decide +kernel
theorem dX0_take_96 : decode cX0_take 96 = .ok (.iconst 0, 1) := by decide +kernel
theorem dX0_take_97 : decode cX0_take 97 = .ok (.bipush 6, 2) := by decide +kernel
theorem dX0_take_99 : decode cX0_take 99 = .ok (.invokestatic 55, 3) := by decide +kernel
theorem dX0_take_102 : decode cX0_take 102 = .ok (.aload_n 1, 1) := by decide +kernel
theorem dX0_take_103 : decode cX0_take 103 = .ok (.getfield 28, 3) := by decide +kernel
theorem dX0_take_106 : decode cX0_take 106 = .ok (.iconst 0, 1) := by decide +kernel
theorem dX0_take_107 : decode cX0_take 107 = .ok (.aload_n 0, 1) := by decide +kernel
theorem dX0_take_108 : decode cX0_take 108 = .ok (.getfield 28, 3) := by decide +kernel
theorem dX0_take_111 : decode cX0_take 111 = .ok (.iconst 0, 1) := by decide +kernel
theorem dX0_take_112 : decode cX0_take 112 = .ok (.bipush 6, 2) := by decide +kernel
theorem dX0_take_114 : decode cX0_take 114 = .ok (.invokestatic 55, 3) := by decide +kernel
theorem dX0_take_117 : decode cX0_take 117 = .ok (.aload_n 1, 1) := by decide +kernel
theorem dX0_take_118 : decode cX0_take 118 = .ok (.getfield 31, 3) := by decide +kernel
theorem dX0_take_121 : decode cX0_take 121 = .ok (.iconst 0, 1) := by decide +kernel
theorem dX0_take_122 : decode cX0_take 122 = .ok (.aload_n 0, 1) := by decide +kernel
theorem dX0_take_123 : decode cX0_take 123 = .ok (.getfield 31, 3) := by decide +kernel
theorem dX0_take_126 : decode cX0_take 126 = .ok (.iconst 0, 1) := by decide +kernel
theorem dX0_take_127 : decode cX0_take 127 = .ok (.bipush 6, 2) := by decide +kernel
theorem dX0_take_129 : decode cX0_take 129 = .ok (.invokestatic 55, 3) := by decide +kernel
theorem dX0_take_132 : decode cX0_take 132 = .ok (.aload_n 1, 1) := by decide +kernel
theorem dX0_take_133 : decode cX0_take 133 = .ok (.getfield 34, 3) := by decide +kernel
theorem dX0_take_136 : decode cX0_take 136 = .ok (.iconst 0, 1) := by decide +kernel
theorem dX0_take_137 : decode cX0_take 137 = .ok (.aload_n 0, 1) := by decide +kernel
theorem dX0_take_138 : decode cX0_take 138 = .ok (.getfield 34, 3) := by decide +kernel
theorem dX0_take_141 : decode cX0_take 141 = .ok (.iconst 0, 1) := by decide +kernel
theorem dX0_take_142 : decode cX0_take 142 = .ok (.bipush 6, 2) := by decide +kernel
theorem dX0_take_144 : decode cX0_take 144 = .ok (.invokestatic 55, 3) := by decide +kernel
theorem dX0_take_147 : decode cX0_take 147 = .ok (.return_, 1) := by decide +kernel
theorem dX0_build_0 : decode cX0_build 0 = .ok (.aload_n 0, 1) := by decide +kernel
theorem dX0_build_1 : decode cX0_build 1 = .ok (.iload_n 1, 1) := by decide +kernel
theorem dX0_build_2 : decode cX0_build 2 = .ok (.putfield 9, 3) := by decide +kernel
theorem dX0_build_5 : decode cX0_build 5 = .ok (.aload_n 0, 1) := by decide +kernel
theorem dX0_build_6 : decode cX0_build 6 = .ok (.iload_n 2, 1) := by decide +kernel
theorem dX0_build_7 : decode cX0_build 7 = .ok (.putfield 15, 3) := by decide +kernel
theorem dX0_build_10 : decode cX0_build 10 = .ok (.aload_n 0, 1) := by decide +kernel
theorem dX0_build_11 : decode cX0_build 11 = .ok (.iconst 0, 1) := by decide +kernel
theorem dX0_build_12 : decode cX0_build 12 = .ok (.putfield 37, 3) := by decide +kernel
theorem dX0_build_15 : decode cX0_build 15 = .ok (.aload_n 0, 1) := by decide +kernel
theorem dX0_build_16 : decode cX0_build 16 = .ok (.iconst 0, 1) := by decide +kernel
theorem dX0_build_17 : decode cX0_build 17 = .ok (.putfield 40, 3) := by decide +kernel
theorem dX0_build_20 : decode cX0_build 20 = .ok (.aload_n 0, 1) := by decide +kernel
theorem dX0_build_21 : decode cX0_build 21 = .ok (.iconst 0, 1) := by decide +kernel
theorem dX0_build_22 : decode cX0_build 22 = .ok (.putfield 43, 3) := by decide +kernel
theorem dX0_build_25 : decode cX0_build 25 = .ok (.aload_n 0, 1) := by decide +kernel
theorem dX0_build_26 : decode cX0_build 26 = .ok (.iconst 0, 1) := by decide +kernel
theorem dX0_build_27 : decode cX0_build 27 = .ok (.putfield 46, 3) := by decide +kernel
theorem dX0_build_30 : decode cX0_build 30 = .ok (.aload_n 0, 1) := by decide +kernel
theorem dX0_build_31 : decode cX0_build 31 = .ok (.iconst 0, 1) := by decide +kernel
theorem dX0_build_32 : decode cX0_build 32 = .ok (.putfield 49, 3) := by decide +kernel
theorem dX0_build_35 : decode cX0_build 35 = .ok (.aload_n 0, 1) := by decide +kernel
theorem dX0_build_36 : decode cX0_build 36 = .ok (.iconst 0, 1) := by decide +kernel
theorem dX0_build_37 : decode cX0_build 37 = .ok (.putfield 52, 3) := by decide +kernel
theorem dX0_build_40 : decode cX0_build 40 = .ok (.return_, 1) := by decide +kernel
theorem dX0_enter_0 : decode cX0_enter 0 = .ok (.aload_n 0, 1) := by decide +kernel
theorem dX0_enter_1 : decode cX0_enter 1 = .ok (.getfield 37, 3) := by decide +kernel
theorem dX0_enter_4 : decode cX0_enter 4 = .ok (.istore 5, 2) := by decide +kernel
theorem dX0_enter_6 : decode cX0_enter 6 = .ok (.iload 5, 2) := by decide +kernel
theorem dX0_enter_8 : decode cX0_enter 8 = .ok (.ifCond .lt 10, 3) := by decide +kernel
theorem dX0_enter_11 : decode cX0_enter 11 = .ok (.iload 5, 2) := by decide +kernel
theorem dX0_enter_13 : decode cX0_enter 13 = .ok (.bipush 6, 2) := by decide +kernel
theorem dX0_enter_15 : decode cX0_enter 15 = .ok (.if_icmp .lt 6, 3) := by decide +kernel
theorem dX0_enter_18 : decode cX0_enter 18 = .ok (.bipush (-3), 2) := by decide +kernel
theorem dX0_enter_20 : decode cX0_enter 20 = .ok (.ireturn, 1) := by decide +kernel
theorem dX0_enter_21 : decode cX0_enter 21 = .ok (.aload_n 0, 1) := by decide +kernel
theorem dX0_enter_22 : decode cX0_enter 22 = .ok (.getfield 21, 3) := by decide +kernel
theorem dX0_enter_25 : decode cX0_enter 25 = .ok (.iload 5, 2) := by decide +kernel
theorem dX0_enter_27 : decode cX0_enter 27 = .ok (.iload_n 1, 1) := by decide +kernel
theorem dX0_enter_28 : decode cX0_enter 28 = .ok (.iastore, 1) := by decide +kernel
theorem dX0_enter_29 : decode cX0_enter 29 = .ok (.aload_n 0, 1) := by decide +kernel
theorem dX0_enter_30 : decode cX0_enter 30 = .ok (.getfield 25, 3) := by decide +kernel
theorem dX0_enter_33 : decode cX0_enter 33 = .ok (.iload 5, 2) := by decide +kernel
theorem dX0_enter_35 : decode cX0_enter 35 = .ok (.iload_n 2, 1) := by decide +kernel
theorem dX0_enter_36 : decode cX0_enter 36 = .ok (.iastore, 1) := by decide +kernel
theorem dX0_enter_37 : decode cX0_enter 37 = .ok (.aload_n 0, 1) := by decide +kernel
theorem dX0_enter_38 : decode cX0_enter 38 = .ok (.getfield 28, 3) := by decide +kernel
theorem dX0_enter_41 : decode cX0_enter 41 = .ok (.iload 5, 2) := by decide +kernel
theorem dX0_enter_43 : decode cX0_enter 43 = .ok (.iload_n 3, 1) := by decide +kernel
theorem dX0_enter_44 : decode cX0_enter 44 = .ok (.iastore, 1) := by decide +kernel
theorem dX0_enter_45 : decode cX0_enter 45 = .ok (.aload_n 0, 1) := by decide +kernel
theorem dX0_enter_46 : decode cX0_enter 46 = .ok (.getfield 31, 3) := by decide +kernel
theorem dX0_enter_49 : decode cX0_enter 49 = .ok (.iload 5, 2) := by decide +kernel
theorem dX0_enter_51 : decode cX0_enter 51 = .ok (.iload 4, 2) := by decide +kernel
theorem dX0_enter_53 : decode cX0_enter 53 = .ok (.iastore, 1) := by decide +kernel
theorem dX0_enter_54 : decode cX0_enter 54 = .ok (.aload_n 0, 1) := by decide +kernel
theorem dX0_enter_55 : decode cX0_enter 55 = .ok (.getfield 34, 3) := by decide +kernel
theorem dX0_enter_58 : decode cX0_enter 58 = .ok (.iload 5, 2) := by decide +kernel
theorem dX0_enter_60 : decode cX0_enter 60 = .ok (.iconst 0, 1) := by decide +kernel
theorem dX0_enter_61 : decode cX0_enter 61 = .ok (.iastore, 1) := by decide +kernel
theorem dX0_enter_62 : decode cX0_enter 62 = .ok (.aload_n 0, 1) := by decide +kernel
theorem dX0_enter_63 : decode cX0_enter 63 = .ok (.dup, 1) := by decide +kernel
theorem dX0_enter_64 : decode cX0_enter 64 = .ok (.getfield 37, 3) := by decide +kernel
theorem dX0_enter_67 : decode cX0_enter 67 = .ok (.iconst 1, 1) := by decide +kernel
theorem dX0_enter_68 : decode cX0_enter 68 = .ok (.iadd, 1) := by decide +kernel
theorem dX0_enter_69 : decode cX0_enter 69 = .ok (.putfield 37, 3) := by decide +kernel
theorem dX0_enter_72 : decode cX0_enter 72 = .ok (.iload 5, 2) := by decide +kernel
theorem dX0_enter_74 : decode cX0_enter 74 = .ok (.ireturn, 1) := by decide +kernel
theorem dX0_cells_0 : decode cX0_cells 0 = .ok (.aload_n 0, 1) := by decide +kernel
theorem dX0_cells_1 : decode cX0_cells 1 = .ok (.getfield 9, 3) := by decide +kernel
theorem dX0_cells_4 : decode cX0_cells 4 = .ok (.aload_n 0, 1) := by decide +kernel
theorem dX0_cells_5 : decode cX0_cells 5 = .ok (.getfield 15, 3) := by decide +kernel
theorem dX0_cells_8 : decode cX0_cells 8 = .ok (.imul, 1) := by decide +kernel
theorem dX0_cells_9 : decode cX0_cells 9 = .ok (.ireturn, 1) := by decide +kernel
theorem dX0_isFree_0 : decode cX0_isFree 0 = .ok (.aload_n 0, 1) := by decide +kernel
theorem dX0_isFree_1 : decode cX0_isFree 1 = .ok (.getfield 43, 3) := by decide +kernel
theorem dX0_isFree_4 : decode cX0_isFree 4 = .ok (.iconst 1, 1) := by decide +kernel
theorem dX0_isFree_5 : decode cX0_isFree 5 = .ok (.iload_n 1, 1) := by decide +kernel
theorem dX0_isFree_6 : decode cX0_isFree 6 = .ok (.ishl, 1) := by decide +kernel
theorem dX0_isFree_7 : decode cX0_isFree 7 = .ok (.iand, 1) := by decide +kernel
theorem dX0_isFree_8 : decode cX0_isFree 8 = .ok (.ifCond .ne 7, 3) := by decide +kernel
theorem dX0_isFree_11 : decode cX0_isFree 11 = .ok (.iconst 1, 1) := by decide +kernel
theorem dX0_isFree_12 : decode cX0_isFree 12 = .ok (.goto 4, 3) := by decide +kernel
theorem dX0_isFree_15 : decode cX0_isFree 15 = .ok (.iconst 0, 1) := by decide +kernel
theorem dX0_isFree_16 : decode cX0_isFree 16 = .ok (.ireturn, 1) := by decide +kernel
theorem dX0_far_0 : decode cX0_far 0 = .ok (.aload_n 0, 1) := by decide +kernel
theorem dX0_far_1 : decode cX0_far 1 = .ok (.aload_n 0, 1) := by decide +kernel
theorem dX0_far_2 : decode cX0_far 2 = .ok (.getfield 25, 3) := by decide +kernel
theorem dX0_far_5 : decode cX0_far 5 = .ok (.iload_n 1, 1) := by decide +kernel
theorem dX0_far_6 : decode cX0_far 6 = .ok (.iaload, 1) := by decide +kernel
theorem dX0_far_7 : decode cX0_far 7 = .ok (.invokevirtual 61, 3) := by decide +kernel
theorem dX0_far_10 : decode cX0_far 10 = .ok (.aload_n 0, 1) := by decide +kernel
theorem dX0_far_11 : decode cX0_far 11 = .ok (.aload_n 0, 1) := by decide +kernel
theorem dX0_far_12 : decode cX0_far 12 = .ok (.getfield 40, 3) := by decide +kernel
theorem dX0_far_15 : decode cX0_far 15 = .ok (.invokevirtual 61, 3) := by decide +kernel
theorem dX0_far_18 : decode cX0_far 18 = .ok (.isub, 1) := by decide +kernel
theorem dX0_far_19 : decode cX0_far 19 = .ok (.invokestatic 65, 3) := by decide +kernel
theorem dX0_far_22 : decode cX0_far 22 = .ok (.aload_n 0, 1) := by decide +kernel
theorem dX0_far_23 : decode cX0_far 23 = .ok (.aload_n 0, 1) := by decide +kernel
theorem dX0_far_24 : decode cX0_far 24 = .ok (.getfield 25, 3) := by decide +kernel
theorem dX0_far_27 : decode cX0_far 27 = .ok (.iload_n 1, 1) := by decide +kernel
theorem dX0_far_28 : decode cX0_far 28 = .ok (.iaload, 1) := by decide +kernel
theorem dX0_far_29 : decode cX0_far 29 = .ok (.invokevirtual 70, 3) := by decide +kernel
theorem dX0_far_32 : decode cX0_far 32 = .ok (.aload_n 0, 1) := by decide +kernel
theorem dX0_far_33 : decode cX0_far 33 = .ok (.aload_n 0, 1) := by decide +kernel
theorem dX0_far_34 : decode cX0_far 34 = .ok (.getfield 40, 3) := by decide +kernel
theorem dX0_far_37 : decode cX0_far 37 = .ok (.invokevirtual 70, 3) := by decide +kernel
theorem dX0_far_40 : decode cX0_far 40 = .ok (.isub, 1) := by decide +kernel
theorem dX0_far_41 : decode cX0_far 41 = .ok (.invokestatic 65, 3) := by decide +kernel
theorem dX0_far_44 : decode cX0_far 44 = .ok (.iadd, 1) := by decide +kernel
theorem dX0_far_45 : decode cX0_far 45 = .ok (.ireturn, 1) := by decide +kernel
theorem dX0_rowOf_0 : decode cX0_rowOf 0 = .ok (.aload_n 0, 1) := by decide +kernel
theorem dX0_rowOf_1 : decode cX0_rowOf 1 = .ok (.getfield 15, 3) := by decide +kernel
theorem dX0_rowOf_4 : decode cX0_rowOf 4 = .ok (.iconst 2, 1) := by decide +kernel
theorem dX0_rowOf_5 : decode cX0_rowOf 5 = .ok (.if_icmp .ge 7, 3) := by decide +kernel
theorem dX0_rowOf_8 : decode cX0_rowOf 8 = .ok (.iconst 0, 1) := by decide +kernel
theorem dX0_rowOf_9 : decode cX0_rowOf 9 = .ok (.goto 9, 3) := by decide +kernel
theorem dX0_rowOf_12 : decode cX0_rowOf 12 = .ok (.iload_n 1, 1) := by decide +kernel
theorem dX0_rowOf_13 : decode cX0_rowOf 13 = .ok (.aload_n 0, 1) := by decide +kernel
theorem dX0_rowOf_14 : decode cX0_rowOf 14 = .ok (.getfield 15, 3) := by decide +kernel
theorem dX0_rowOf_17 : decode cX0_rowOf 17 = .ok (.idiv, 1) := by decide +kernel
theorem dX0_rowOf_18 : decode cX0_rowOf 18 = .ok (.ireturn, 1) := by decide +kernel
theorem dX0_columnOf_0 : decode cX0_columnOf 0 = .ok (.aload_n 0, 1) := by decide +kernel
theorem dX0_columnOf_1 : decode cX0_columnOf 1 = .ok (.getfield 15, 3) := by decide +kernel
theorem dX0_columnOf_4 : decode cX0_columnOf 4 = .ok (.iconst 2, 1) := by decide +kernel
theorem dX0_columnOf_5 : decode cX0_columnOf 5 = .ok (.if_icmp .ge 7, 3) := by decide +kernel
theorem dX0_columnOf_8 : decode cX0_columnOf 8 = .ok (.iconst 0, 1) := by decide +kernel
theorem dX0_columnOf_9 : decode cX0_columnOf 9 = .ok (.goto 9, 3) := by decide +kernel
theorem dX0_columnOf_12 : decode cX0_columnOf 12 = .ok (.iload_n 1, 1) := by decide +kernel
theorem dX0_columnOf_13 : decode cX0_columnOf 13 = .ok (.aload_n 0, 1) := by decide +kernel
theorem dX0_columnOf_14 : decode cX0_columnOf 14 = .ok (.getfield 15, 3) := by decide +kernel
theorem dX0_columnOf_17 : decode cX0_columnOf 17 = .ok (.irem, 1) := by decide +kernel
theorem dX0_columnOf_18 : decode cX0_columnOf 18 = .ok (.ireturn, 1) := by decide +kernel
theorem dX0_loud_0 : decode cX0_loud 0 = .ok (.aload_n 0, 1) := by decide +kernel
theorem dX0_loud_1 : decode cX0_loud 1 = .ok (.iload_n 1, 1) := by decide +kernel
theorem dX0_loud_2 : decode cX0_loud 2 = .ok (.invokevirtual 73, 3) := by decide +kernel
theorem dX0_loud_5 : decode cX0_loud 5 = .ok (.istore_n 2, 1) := by decide +kernel
theorem dX0_loud_6 : decode cX0_loud 6 = .ok (.iconst 0, 1) := by decide +kernel
theorem dX0_loud_7 : decode cX0_loud 7 = .ok (.aload_n 0, 1) := by decide +kernel
theorem dX0_loud_8 : decode cX0_loud 8 = .ok (.getfield 28, 3) := by decide +kernel
theorem dX0_loud_11 : decode cX0_loud 11 = .ok (.iload_n 1, 1) := by decide +kernel
theorem dX0_loud_12 : decode cX0_loud 12 = .ok (.iaload, 1) := by decide +kernel
theorem dX0_loud_13 : decode cX0_loud 13 = .ok (.iload_n 2, 1) := by decide +kernel
theorem dX0_loud_14 : decode cX0_loud 14 = .ok (.isub, 1) := by decide +kernel
theorem dX0_loud_15 : decode cX0_loud 15 = .ok (.invokestatic 76, 3) := by decide +kernel
theorem dX0_loud_18 : decode cX0_loud 18 = .ok (.istore_n 3, 1) := by decide +kernel
theorem dX0_loud_19 : decode cX0_loud 19 = .ok (.iload_n 3, 1) := by decide +kernel
theorem dX0_loud_20 : decode cX0_loud 20 = .ok (.iconst 2, 1) := by decide +kernel
theorem dX0_loud_21 : decode cX0_loud 21 = .ok (.idiv, 1) := by decide +kernel
theorem dX0_loud_22 : decode cX0_loud 22 = .ok (.istore 4, 2) := by decide +kernel
theorem dX0_loud_24 : decode cX0_loud 24 = .ok (.iload_n 3, 1) := by decide +kernel
theorem dX0_loud_25 : decode cX0_loud 25 = .ok (.iconst 4, 1) := by decide +kernel
theorem dX0_loud_26 : decode cX0_loud 26 = .ok (.iadd, 1) := by decide +kernel
theorem dX0_loud_27 : decode cX0_loud 27 = .ok (.istore 5, 2) := by decide +kernel
theorem dX0_loud_29 : decode cX0_loud 29 = .ok (.aload_n 0, 1) := by decide +kernel
theorem dX0_loud_30 : decode cX0_loud 30 = .ok (.getfield 21, 3) := by decide +kernel
theorem dX0_loud_33 : decode cX0_loud 33 = .ok (.iload_n 1, 1) := by decide +kernel
theorem dX0_loud_34 : decode cX0_loud 34 = .ok (.iaload, 1) := by decide +kernel
theorem dX0_loud_35 : decode cX0_loud 35 = .ok (.tableswitch 66 1 4 #[29, 32, 35, 51], 29) := by decide +kernel
theorem dX0_loud_64 : decode cX0_loud 64 = .ok (.iload 4, 2) := by decide +kernel
theorem dX0_loud_66 : decode cX0_loud 66 = .ok (.ireturn, 1) := by decide +kernel
theorem dX0_loud_67 : decode cX0_loud 67 = .ok (.iload 5, 2) := by decide +kernel
theorem dX0_loud_69 : decode cX0_loud 69 = .ok (.ireturn, 1) := by decide +kernel
theorem dX0_loud_70 : decode cX0_loud 70 = .ok (.aload_n 0, 1) := by decide +kernel
theorem dX0_loud_71 : decode cX0_loud 71 = .ok (.getfield 46, 3) := by decide +kernel
theorem dX0_loud_74 : decode cX0_loud 74 = .ok (.iconst 2, 1) := by decide +kernel
theorem dX0_loud_75 : decode cX0_loud 75 = .ok (.irem, 1) := by decide +kernel
theorem dX0_loud_76 : decode cX0_loud 76 = .ok (.ifCond .ne 7, 3) := by decide +kernel
theorem dX0_loud_79 : decode cX0_loud 79 = .ok (.iconst 0, 1) := by decide +kernel
theorem dX0_loud_80 : decode cX0_loud 80 = .ok (.goto 5, 3) := by decide +kernel
theorem dX0_loud_83 : decode cX0_loud 83 = .ok (.iload 4, 2) := by decide +kernel
theorem dX0_loud_85 : decode cX0_loud 85 = .ok (.ireturn, 1) := by decide +kernel
theorem dX0_loud_86 : decode cX0_loud 86 = .ok (.iload_n 2, 1) := by decide +kernel
theorem dX0_loud_87 : decode cX0_loud 87 = .ok (.iconst 2, 1) := by decide +kernel
theorem dX0_loud_88 : decode cX0_loud 88 = .ok (.if_icmp .gt 10, 3) := by decide +kernel
theorem dX0_loud_91 : decode cX0_loud 91 = .ok (.iconst 2, 1) := by decide +kernel
theorem dX0_loud_92 : decode cX0_loud 92 = .ok (.iload 5, 2) := by decide +kernel
theorem dX0_loud_94 : decode cX0_loud 94 = .ok (.imul, 1) := by decide +kernel
theorem dX0_loud_95 : decode cX0_loud 95 = .ok (.goto 5, 3) := by decide +kernel
theorem dX0_loud_98 : decode cX0_loud 98 = .ok (.iload 5, 2) := by decide +kernel
theorem dX0_loud_100 : decode cX0_loud 100 = .ok (.ireturn, 1) := by decide +kernel
theorem dX0_loud_101 : decode cX0_loud 101 = .ok (.iload_n 3, 1) := by decide +kernel
theorem dX0_loud_102 : decode cX0_loud 102 = .ok (.ireturn, 1) := by decide +kernel
theorem dX0_followed_0 : decode cX0_followed 0 = .ok (.bipush (-4), 2) := by decide +kernel
theorem dX0_followed_2 : decode cX0_followed 2 = .ok (.istore_n 1, 1) := by decide +kernel
theorem dX0_followed_3 : decode cX0_followed 3 = .ok (.iconst 0, 1) := by decide +kernel
theorem dX0_followed_4 : decode cX0_followed 4 = .ok (.istore_n 2, 1) := by decide +kernel
theorem dX0_followed_5 : decode cX0_followed 5 = .ok (.iconst 0, 1) := by decide +kernel
theorem dX0_followed_6 : decode cX0_followed 6 = .ok (.istore_n 3, 1) := by decide +kernel
theorem dX0_followed_7 : decode cX0_followed 7 = .ok (.iload_n 3, 1) := by decide +kernel
theorem dX0_followed_8 : decode cX0_followed 8 = .ok (.aload_n 0, 1) := by decide +kernel
theorem dX0_followed_9 : decode cX0_followed 9 = .ok (.getfield 37, 3) := by decide +kernel
theorem dX0_followed_12 : decode cX0_followed 12 = .ok (.if_icmp .ge 35, 3) := by decide +kernel
theorem dX0_followed_15 : decode cX0_followed 15 = .ok (.aload_n 0, 1) := by decide +kernel
theorem dX0_followed_16 : decode cX0_followed 16 = .ok (.iload_n 3, 1) := by decide +kernel
theorem dX0_followed_17 : decode cX0_followed 17 = .ok (.invokevirtual 80, 3) := by decide +kernel
theorem dX0_followed_20 : decode cX0_followed 20 = .ok (.ifCond .eq 21, 3) := by decide +kernel
theorem dX0_followed_23 : decode cX0_followed 23 = .ok (.aload_n 0, 1) := by decide +kernel
theorem dX0_followed_24 : decode cX0_followed 24 = .ok (.iload_n 3, 1) := by decide +kernel
theorem dX0_followed_25 : decode cX0_followed 25 = .ok (.invokevirtual 84, 3) := by decide +kernel
theorem dX0_followed_28 : decode cX0_followed 28 = .ok (.istore 4, 2) := by decide +kernel
theorem dX0_followed_30 : decode cX0_followed 30 = .ok (.iload 4, 2) := by decide +kernel
theorem dX0_followed_32 : decode cX0_followed 32 = .ok (.iload_n 2, 1) := by decide +kernel
theorem dX0_followed_33 : decode cX0_followed 33 = .ok (.if_icmp .le 8, 3) := by decide +kernel
theorem dX0_followed_36 : decode cX0_followed 36 = .ok (.iload 4, 2) := by decide +kernel
theorem dX0_followed_38 : decode cX0_followed 38 = .ok (.istore_n 2, 1) := by decide +kernel
theorem dX0_followed_39 : decode cX0_followed 39 = .ok (.iload_n 3, 1) := by decide +kernel
theorem dX0_followed_40 : decode cX0_followed 40 = .ok (.istore_n 1, 1) := by decide +kernel
theorem dX0_followed_41 : decode cX0_followed 41 = .ok (.iinc 3 1, 3) := by decide +kernel
theorem dX0_followed_44 : decode cX0_followed 44 = .ok (.goto (-37), 3) := by decide +kernel
theorem dX0_followed_47 : decode cX0_followed 47 = .ok (.iload_n 1, 1) := by decide +kernel
theorem dX0_followed_48 : decode cX0_followed 48 = .ok (.ireturn, 1) := by decide +kernel
theorem dX0_goesFirst_0 : decode cX0_goesFirst 0 = .ok (.iload_n 1, 1) := by decide +kernel
theorem dX0_goesFirst_1 : decode cX0_goesFirst 1 = .ok (.iload_n 2, 1) := by decide +kernel
theorem dX0_goesFirst_2 : decode cX0_goesFirst 2 = .ok (.if_icmp .eq 11, 3) := by decide +kernel
theorem dX0_goesFirst_5 : decode cX0_goesFirst 5 = .ok (.aload_n 0, 1) := by decide +kernel
theorem dX0_goesFirst_6 : decode cX0_goesFirst 6 = .ok (.iload_n 1, 1) := by decide +kernel
theorem dX0_goesFirst_7 : decode cX0_goesFirst 7 = .ok (.invokevirtual 80, 3) := by decide +kernel
theorem dX0_goesFirst_10 : decode cX0_goesFirst 10 = .ok (.ifCond .ne 5, 3) := by decide +kernel
theorem dX0_goesFirst_13 : decode cX0_goesFirst 13 = .ok (.iconst 0, 1) := by decide +kernel
theorem dX0_goesFirst_14 : decode cX0_goesFirst 14 = .ok (.ireturn, 1) := by decide +kernel
theorem dX0_goesFirst_15 : decode cX0_goesFirst 15 = .ok (.aload_n 0, 1) := by decide +kernel
theorem dX0_goesFirst_16 : decode cX0_goesFirst 16 = .ok (.iload_n 1, 1) := by decide +kernel
theorem dX0_goesFirst_17 : decode cX0_goesFirst 17 = .ok (.invokevirtual 84, 3) := by decide +kernel
theorem dX0_goesFirst_20 : decode cX0_goesFirst 20 = .ok (.aload_n 0, 1) := by decide +kernel
theorem dX0_goesFirst_21 : decode cX0_goesFirst 21 = .ok (.iload_n 2, 1) := by decide +kernel
theorem dX0_goesFirst_22 : decode cX0_goesFirst 22 = .ok (.invokevirtual 84, 3) := by decide +kernel
theorem dX0_goesFirst_25 : decode cX0_goesFirst 25 = .ok (.isub, 1) := by decide +kernel
theorem dX0_goesFirst_26 : decode cX0_goesFirst 26 = .ok (.istore_n 3, 1) := by decide +kernel
theorem dX0_goesFirst_27 : decode cX0_goesFirst 27 = .ok (.iload_n 3, 1) := by decide +kernel
theorem dX0_goesFirst_28 : decode cX0_goesFirst 28 = .ok (.ifCond .gt 12, 3) := by decide +kernel
theorem dX0_goesFirst_31 : decode cX0_goesFirst 31 = .ok (.iload_n 3, 1) := by decide +kernel
theorem dX0_goesFirst_32 : decode cX0_goesFirst 32 = .ok (.ifCond .ne 12, 3) := by decide +kernel
theorem dX0_goesFirst_35 : decode cX0_goesFirst 35 = .ok (.iload_n 1, 1) := by decide +kernel
theorem dX0_goesFirst_36 : decode cX0_goesFirst 36 = .ok (.iload_n 2, 1) := by decide +kernel
theorem dX0_goesFirst_37 : decode cX0_goesFirst 37 = .ok (.if_icmp .ge 7, 3) := by decide +kernel
theorem dX0_goesFirst_40 : decode cX0_goesFirst 40 = .ok (.iconst 1, 1) := by decide +kernel
theorem dX0_goesFirst_41 : decode cX0_goesFirst 41 = .ok (.goto 4, 3) := by decide +kernel
theorem dX0_goesFirst_44 : decode cX0_goesFirst 44 = .ok (.iconst 0, 1) := by decide +kernel
theorem dX0_goesFirst_45 : decode cX0_goesFirst 45 = .ok (.ireturn, 1) := by decide +kernel
theorem dX0_feel_0 : decode cX0_feel 0 = .ok (.aload_n 0, 1) := by decide +kernel
theorem dX0_feel_1 : decode cX0_feel 1 = .ok (.getfield 31, 3) := by decide +kernel
theorem dX0_feel_4 : decode cX0_feel 4 = .ok (.iload_n 1, 1) := by decide +kernel
theorem dX0_feel_5 : decode cX0_feel 5 = .ok (.iaload, 1) := by decide +kernel
theorem dX0_feel_6 : decode cX0_feel 6 = .ok (.aload_n 0, 1) := by decide +kernel
theorem dX0_feel_7 : decode cX0_feel 7 = .ok (.getfield 34, 3) := by decide +kernel
theorem dX0_feel_10 : decode cX0_feel 10 = .ok (.iload_n 1, 1) := by decide +kernel
theorem dX0_feel_11 : decode cX0_feel 11 = .ok (.iaload, 1) := by decide +kernel
theorem dX0_feel_12 : decode cX0_feel 12 = .ok (.ixor, 1) := by decide +kernel
theorem dX0_feel_13 : decode cX0_feel 13 = .ok (.ireturn, 1) := by decide +kernel
theorem dX0_namedBy_0 : decode cX0_namedBy 0 = .ok (.bipush (-4), 2) := by decide +kernel
theorem dX0_namedBy_2 : decode cX0_namedBy 2 = .ok (.istore_n 2, 1) := by decide +kernel
theorem dX0_namedBy_3 : decode cX0_namedBy 3 = .ok (.bipush 7, 2) := by decide +kernel
theorem dX0_namedBy_5 : decode cX0_namedBy 5 = .ok (.istore_n 3, 1) := by decide +kernel
theorem dX0_namedBy_6 : decode cX0_namedBy 6 = .ok (.iconst 0, 1) := by decide +kernel
theorem dX0_namedBy_7 : decode cX0_namedBy 7 = .ok (.istore 4, 2) := by decide +kernel
theorem dX0_namedBy_9 : decode cX0_namedBy 9 = .ok (.iload 4, 2) := by decide +kernel
theorem dX0_namedBy_11 : decode cX0_namedBy 11 = .ok (.aload_n 0, 1) := by decide +kernel
theorem dX0_namedBy_12 : decode cX0_namedBy 12 = .ok (.getfield 37, 3) := by decide +kernel
theorem dX0_namedBy_15 : decode cX0_namedBy 15 = .ok (.if_icmp .ge 35, 3) := by decide +kernel
theorem dX0_namedBy_18 : decode cX0_namedBy 18 = .ok (.aload_n 0, 1) := by decide +kernel
theorem dX0_namedBy_19 : decode cX0_namedBy 19 = .ok (.getfield 31, 3) := by decide +kernel
theorem dX0_namedBy_22 : decode cX0_namedBy 22 = .ok (.iload 4, 2) := by decide +kernel
theorem dX0_namedBy_24 : decode cX0_namedBy 24 = .ok (.iaload, 1) := by decide +kernel
theorem dX0_namedBy_25 : decode cX0_namedBy 25 = .ok (.iload_n 1, 1) := by decide +kernel
theorem dX0_namedBy_26 : decode cX0_namedBy 26 = .ok (.ixor, 1) := by decide +kernel
theorem dX0_namedBy_27 : decode cX0_namedBy 27 = .ok (.invokestatic 87, 3) := by decide +kernel
theorem dX0_namedBy_30 : decode cX0_namedBy 30 = .ok (.istore 5, 2) := by decide +kernel
theorem dX0_namedBy_32 : decode cX0_namedBy 32 = .ok (.iload 5, 2) := by decide +kernel
theorem dX0_namedBy_34 : decode cX0_namedBy 34 = .ok (.iload_n 3, 1) := by decide +kernel
theorem dX0_namedBy_35 : decode cX0_namedBy 35 = .ok (.if_icmp .ge 9, 3) := by decide +kernel
theorem dX0_namedBy_38 : decode cX0_namedBy 38 = .ok (.iload 5, 2) := by decide +kernel
theorem dX0_namedBy_40 : decode cX0_namedBy 40 = .ok (.istore_n 3, 1) := by decide +kernel
theorem dX0_namedBy_41 : decode cX0_namedBy 41 = .ok (.iload 4, 2) := by decide +kernel
theorem dX0_namedBy_43 : decode cX0_namedBy 43 = .ok (.istore_n 2, 1) := by decide +kernel
theorem dX0_namedBy_44 : decode cX0_namedBy 44 = .ok (.iinc 4 1, 3) := by decide +kernel
theorem dX0_namedBy_47 : decode cX0_namedBy 47 = .ok (.goto (-38), 3) := by decide +kernel
theorem dX0_namedBy_50 : decode cX0_namedBy 50 = .ok (.iload_n 2, 1) := by decide +kernel
theorem dX0_namedBy_51 : decode cX0_namedBy 51 = .ok (.ireturn, 1) := by decide +kernel
theorem dX0_pass_0 : decode cX0_pass 0 = .ok (.aload_n 0, 1) := by decide +kernel
theorem dX0_pass_1 : decode cX0_pass 1 = .ok (.invokevirtual 92, 3) := by decide +kernel
theorem dX0_pass_4 : decode cX0_pass 4 = .ok (.istore_n 1, 1) := by decide +kernel
theorem dX0_pass_5 : decode cX0_pass 5 = .ok (.iload_n 1, 1) := by decide +kernel
theorem dX0_pass_6 : decode cX0_pass 6 = .ok (.bipush (-4), 2) := by decide +kernel
theorem dX0_pass_8 : decode cX0_pass 8 = .ok (.if_icmp .eq 17, 3) := by decide +kernel
theorem dX0_pass_11 : decode cX0_pass 11 = .ok (.aload_n 0, 1) := by decide +kernel
theorem dX0_pass_12 : decode cX0_pass 12 = .ok (.aload_n 0, 1) := by decide +kernel
theorem dX0_pass_13 : decode cX0_pass 13 = .ok (.aload_n 0, 1) := by decide +kernel
theorem dX0_pass_14 : decode cX0_pass 14 = .ok (.getfield 25, 3) := by decide +kernel
theorem dX0_pass_17 : decode cX0_pass 17 = .ok (.iload_n 1, 1) := by decide +kernel
theorem dX0_pass_18 : decode cX0_pass 18 = .ok (.iaload, 1) := by decide +kernel
theorem dX0_pass_19 : decode cX0_pass 19 = .ok (.invokevirtual 96, 3) := by decide +kernel
theorem dX0_pass_22 : decode cX0_pass 22 = .ok (.putfield 40, 3) := by decide +kernel
theorem dX0_pass_25 : decode cX0_pass 25 = .ok (.aload_n 0, 1) := by decide +kernel
theorem dX0_pass_26 : decode cX0_pass 26 = .ok (.invokevirtual 99, 3) := by decide +kernel
theorem dX0_pass_29 : decode cX0_pass 29 = .ok (.istore_n 2, 1) := by decide +kernel
theorem dX0_pass_30 : decode cX0_pass 30 = .ok (.iload_n 2, 1) := by decide +kernel
theorem dX0_pass_31 : decode cX0_pass 31 = .ok (.bipush (-4), 2) := by decide +kernel
theorem dX0_pass_33 : decode cX0_pass 33 = .ok (.if_icmp .eq 51, 3) := by decide +kernel
theorem dX0_pass_36 : decode cX0_pass 36 = .ok (.aload_n 0, 1) := by decide +kernel
theorem dX0_pass_37 : decode cX0_pass 37 = .ok (.dup, 1) := by decide +kernel
theorem dX0_pass_38 : decode cX0_pass 38 = .ok (.getfield 43, 3) := by decide +kernel
theorem dX0_pass_41 : decode cX0_pass 41 = .ok (.iconst 1, 1) := by decide +kernel
theorem dX0_pass_42 : decode cX0_pass 42 = .ok (.iload_n 2, 1) := by decide +kernel
theorem dX0_pass_43 : decode cX0_pass 43 = .ok (.ishl, 1) := by decide +kernel
theorem dX0_pass_44 : decode cX0_pass 44 = .ok (.ior, 1) := by decide +kernel
theorem dX0_pass_45 : decode cX0_pass 45 = .ok (.putfield 43, 3) := by decide +kernel
theorem dX0_pass_48 : decode cX0_pass 48 = .ok (.aload_n 0, 1) := by decide +kernel
theorem dX0_pass_49 : decode cX0_pass 49 = .ok (.aload_n 0, 1) := by decide +kernel
theorem dX0_pass_50 : decode cX0_pass 50 = .ok (.iload_n 2, 1) := by decide +kernel
theorem dX0_pass_51 : decode cX0_pass 51 = .ok (.invokevirtual 102, 3) := by decide +kernel
theorem dX0_pass_54 : decode cX0_pass 54 = .ok (.invokevirtual 105, 3) := by decide +kernel
theorem dX0_pass_57 : decode cX0_pass 57 = .ok (.iload_n 2, 1) := by decide +kernel
theorem dX0_pass_58 : decode cX0_pass 58 = .ok (.if_icmp .ne 16, 3) := by decide +kernel
theorem dX0_pass_61 : decode cX0_pass 61 = .ok (.aload_n 0, 1) := by decide +kernel
theorem dX0_pass_62 : decode cX0_pass 62 = .ok (.dup, 1) := by decide +kernel
theorem dX0_pass_63 : decode cX0_pass 63 = .ok (.getfield 49, 3) := by decide +kernel
theorem dX0_pass_66 : decode cX0_pass 66 = .ok (.iconst 1, 1) := by decide +kernel
theorem dX0_pass_67 : decode cX0_pass 67 = .ok (.iadd, 1) := by decide +kernel
theorem dX0_pass_68 : decode cX0_pass 68 = .ok (.putfield 49, 3) := by decide +kernel
theorem dX0_pass_71 : decode cX0_pass 71 = .ok (.goto 13, 3) := by decide +kernel
theorem dX0_pass_74 : decode cX0_pass 74 = .ok (.aload_n 0, 1) := by decide +kernel
theorem dX0_pass_75 : decode cX0_pass 75 = .ok (.dup, 1) := by decide +kernel
theorem dX0_pass_76 : decode cX0_pass 76 = .ok (.getfield 52, 3) := by decide +kernel
theorem dX0_pass_79 : decode cX0_pass 79 = .ok (.iconst 1, 1) := by decide +kernel
theorem dX0_pass_80 : decode cX0_pass 80 = .ok (.iadd, 1) := by decide +kernel
theorem dX0_pass_81 : decode cX0_pass 81 = .ok (.putfield 52, 3) := by decide +kernel
theorem dX0_pass_84 : decode cX0_pass 84 = .ok (.aload_n 0, 1) := by decide +kernel
theorem dX0_pass_85 : decode cX0_pass 85 = .ok (.dup, 1) := by decide +kernel
theorem dX0_pass_86 : decode cX0_pass 86 = .ok (.getfield 46, 3) := by decide +kernel
theorem dX0_pass_89 : decode cX0_pass 89 = .ok (.iconst 1, 1) := by decide +kernel
theorem dX0_pass_90 : decode cX0_pass 90 = .ok (.iadd, 1) := by decide +kernel
theorem dX0_pass_91 : decode cX0_pass 91 = .ok (.putfield 46, 3) := by decide +kernel
theorem dX0_pass_94 : decode cX0_pass 94 = .ok (.iload_n 2, 1) := by decide +kernel
theorem dX0_pass_95 : decode cX0_pass 95 = .ok (.ireturn, 1) := by decide +kernel
theorem dX0_nearerTo_0 : decode cX0_nearerTo 0 = .ok (.aload_n 0, 1) := by decide +kernel
theorem dX0_nearerTo_1 : decode cX0_nearerTo 1 = .ok (.iload_n 1, 1) := by decide +kernel
theorem dX0_nearerTo_2 : decode cX0_nearerTo 2 = .ok (.invokevirtual 61, 3) := by decide +kernel
theorem dX0_nearerTo_5 : decode cX0_nearerTo 5 = .ok (.aload_n 0, 1) := by decide +kernel
theorem dX0_nearerTo_6 : decode cX0_nearerTo 6 = .ok (.aload_n 0, 1) := by decide +kernel
theorem dX0_nearerTo_7 : decode cX0_nearerTo 7 = .ok (.getfield 40, 3) := by decide +kernel
theorem dX0_nearerTo_10 : decode cX0_nearerTo 10 = .ok (.invokevirtual 61, 3) := by decide +kernel
theorem dX0_nearerTo_13 : decode cX0_nearerTo 13 = .ok (.isub, 1) := by decide +kernel
theorem dX0_nearerTo_14 : decode cX0_nearerTo 14 = .ok (.istore_n 2, 1) := by decide +kernel
theorem dX0_nearerTo_15 : decode cX0_nearerTo 15 = .ok (.iload_n 2, 1) := by decide +kernel
theorem dX0_nearerTo_16 : decode cX0_nearerTo 16 = .ok (.ifCond .eq 29, 3) := by decide +kernel
theorem dX0_nearerTo_19 : decode cX0_nearerTo 19 = .ok (.iload_n 2, 1) := by decide +kernel
theorem dX0_nearerTo_20 : decode cX0_nearerTo 20 = .ok (.ifCond .le 15, 3) := by decide +kernel
theorem dX0_nearerTo_23 : decode cX0_nearerTo 23 = .ok (.aload_n 0, 1) := by decide +kernel
theorem dX0_nearerTo_24 : decode cX0_nearerTo 24 = .ok (.getfield 40, 3) := by decide +kernel
theorem dX0_nearerTo_27 : decode cX0_nearerTo 27 = .ok (.aload_n 0, 1) := by decide +kernel
theorem dX0_nearerTo_28 : decode cX0_nearerTo 28 = .ok (.getfield 15, 3) := by decide +kernel
theorem dX0_nearerTo_31 : decode cX0_nearerTo 31 = .ok (.iadd, 1) := by decide +kernel
theorem dX0_nearerTo_32 : decode cX0_nearerTo 32 = .ok (.goto 12, 3) := by decide +kernel
theorem dX0_nearerTo_35 : decode cX0_nearerTo 35 = .ok (.aload_n 0, 1) := by decide +kernel
theorem dX0_nearerTo_36 : decode cX0_nearerTo 36 = .ok (.getfield 40, 3) := by decide +kernel
theorem dX0_nearerTo_39 : decode cX0_nearerTo 39 = .ok (.aload_n 0, 1) := by decide +kernel
theorem dX0_nearerTo_40 : decode cX0_nearerTo 40 = .ok (.getfield 15, 3) := by decide +kernel
theorem dX0_nearerTo_43 : decode cX0_nearerTo 43 = .ok (.isub, 1) := by decide +kernel
theorem dX0_nearerTo_44 : decode cX0_nearerTo 44 = .ok (.ireturn, 1) := by decide +kernel
theorem dX0_nearerTo_45 : decode cX0_nearerTo 45 = .ok (.aload_n 0, 1) := by decide +kernel
theorem dX0_nearerTo_46 : decode cX0_nearerTo 46 = .ok (.getfield 40, 3) := by decide +kernel
theorem dX0_nearerTo_49 : decode cX0_nearerTo 49 = .ok (.iload_n 1, 1) := by decide +kernel
theorem dX0_nearerTo_50 : decode cX0_nearerTo 50 = .ok (.aload_n 0, 1) := by decide +kernel
theorem dX0_nearerTo_51 : decode cX0_nearerTo 51 = .ok (.getfield 40, 3) := by decide +kernel
theorem dX0_nearerTo_54 : decode cX0_nearerTo 54 = .ok (.invokestatic 108, 3) := by decide +kernel
theorem dX0_nearerTo_57 : decode cX0_nearerTo 57 = .ok (.iadd, 1) := by decide +kernel
theorem dX0_nearerTo_58 : decode cX0_nearerTo 58 = .ok (.ireturn, 1) := by decide +kernel
theorem dX0_firstOnHisCell_0 : decode cX0_firstOnHisCell 0 = .ok (.iconst 0, 1) := by decide +kernel
theorem dX0_firstOnHisCell_1 : decode cX0_firstOnHisCell 1 = .ok (.istore_n 1, 1) := by decide +kernel
theorem dX0_firstOnHisCell_2 : decode cX0_firstOnHisCell 2 = .ok (.iload_n 1, 1) := by decide +kernel
theorem dX0_firstOnHisCell_3 : decode cX0_firstOnHisCell 3 = .ok (.aload_n 0, 1) := by decide +kernel
theorem dX0_firstOnHisCell_4 : decode cX0_firstOnHisCell 4 = .ok (.getfield 37, 3) := by decide +kernel
theorem dX0_firstOnHisCell_7 : decode cX0_firstOnHisCell 7 = .ok (.if_icmp .ge 32, 3) := by decide +kernel
theorem dX0_firstOnHisCell_10 : decode cX0_firstOnHisCell 10 = .ok (.aload_n 0, 1) := by decide +kernel
theorem dX0_firstOnHisCell_11 : decode cX0_firstOnHisCell 11 = .ok (.iload_n 1, 1) := by decide +kernel
theorem dX0_firstOnHisCell_12 : decode cX0_firstOnHisCell 12 = .ok (.invokevirtual 80, 3) := by decide +kernel
theorem dX0_firstOnHisCell_15 : decode cX0_firstOnHisCell 15 = .ok (.ifCond .eq 18, 3) := by decide +kernel
theorem dX0_firstOnHisCell_18 : decode cX0_firstOnHisCell 18 = .ok (.aload_n 0, 1) := by decide +kernel
theorem dX0_firstOnHisCell_19 : decode cX0_firstOnHisCell 19 = .ok (.getfield 25, 3) := by decide +kernel
theorem dX0_firstOnHisCell_22 : decode cX0_firstOnHisCell 22 = .ok (.iload_n 1, 1) := by decide +kernel
theorem dX0_firstOnHisCell_23 : decode cX0_firstOnHisCell 23 = .ok (.iaload, 1) := by decide +kernel
theorem dX0_firstOnHisCell_24 : decode cX0_firstOnHisCell 24 = .ok (.aload_n 0, 1) := by decide +kernel
theorem dX0_firstOnHisCell_25 : decode cX0_firstOnHisCell 25 = .ok (.getfield 40, 3) := by decide +kernel
theorem dX0_firstOnHisCell_28 : decode cX0_firstOnHisCell 28 = .ok (.if_icmp .ne 5, 3) := by decide +kernel
theorem dX0_firstOnHisCell_31 : decode cX0_firstOnHisCell 31 = .ok (.iload_n 1, 1) := by decide +kernel
theorem dX0_firstOnHisCell_32 : decode cX0_firstOnHisCell 32 = .ok (.ireturn, 1) := by decide +kernel
theorem dX0_firstOnHisCell_33 : decode cX0_firstOnHisCell 33 = .ok (.iinc 1 1, 3) := by decide +kernel
theorem dX0_firstOnHisCell_36 : decode cX0_firstOnHisCell 36 = .ok (.goto (-34), 3) := by decide +kernel
theorem dX0_firstOnHisCell_39 : decode cX0_firstOnHisCell 39 = .ok (.bipush (-4), 2) := by decide +kernel
theorem dX0_firstOnHisCell_41 : decode cX0_firstOnHisCell 41 = .ok (.ireturn, 1) := by decide +kernel
theorem dX0_passUntilCaught_0 : decode cX0_passUntilCaught 0 = .ok (.bipush (-4), 2) := by decide +kernel
theorem dX0_passUntilCaught_2 : decode cX0_passUntilCaught 2 = .ok (.istore_n 1, 1) := by decide +kernel
theorem dX0_passUntilCaught_3 : decode cX0_passUntilCaught 3 = .ok (.iconst 0, 1) := by decide +kernel
theorem dX0_passUntilCaught_4 : decode cX0_passUntilCaught 4 = .ok (.istore_n 2, 1) := by decide +kernel
theorem dX0_passUntilCaught_5 : decode cX0_passUntilCaught 5 = .ok (.iload_n 2, 1) := by decide +kernel
theorem dX0_passUntilCaught_6 : decode cX0_passUntilCaught 6 = .ok (.bipush 60, 2) := by decide +kernel
theorem dX0_passUntilCaught_8 : decode cX0_passUntilCaught 8 = .ok (.if_icmp .ge 20, 3) := by decide +kernel
theorem dX0_passUntilCaught_11 : decode cX0_passUntilCaught 11 = .ok (.iload_n 1, 1) := by decide +kernel
theorem dX0_passUntilCaught_12 : decode cX0_passUntilCaught 12 = .ok (.bipush (-4), 2) := by decide +kernel
theorem dX0_passUntilCaught_14 : decode cX0_passUntilCaught 14 = .ok (.if_icmp .ne 14, 3) := by decide +kernel
theorem dX0_passUntilCaught_17 : decode cX0_passUntilCaught 17 = .ok (.aload_n 0, 1) := by decide +kernel
theorem dX0_passUntilCaught_18 : decode cX0_passUntilCaught 18 = .ok (.invokevirtual 111, 3) := by decide +kernel
theorem dX0_passUntilCaught_21 : decode cX0_passUntilCaught 21 = .ok (.istore_n 1, 1) := by decide +kernel
theorem dX0_passUntilCaught_22 : decode cX0_passUntilCaught 22 = .ok (.iinc 2 1, 3) := by decide +kernel
theorem dX0_passUntilCaught_25 : decode cX0_passUntilCaught 25 = .ok (.goto (-20), 3) := by decide +kernel
theorem dX0_passUntilCaught_28 : decode cX0_passUntilCaught 28 = .ok (.iload_n 1, 1) := by decide +kernel
theorem dX0_passUntilCaught_29 : decode cX0_passUntilCaught 29 = .ok (.ireturn, 1) := by decide +kernel
theorem dX0_behindHowMany_0 : decode cX0_behindHowMany 0 = .ok (.iconst 1, 1) := by decide +kernel
theorem dX0_behindHowMany_1 : decode cX0_behindHowMany 1 = .ok (.istore_n 3, 1) := by decide +kernel
theorem dX0_behindHowMany_2 : decode cX0_behindHowMany 2 = .ok (.iload_n 3, 1) := by decide +kernel
theorem dX0_behindHowMany_3 : decode cX0_behindHowMany 3 = .ok (.iload_n 2, 1) := by decide +kernel
theorem dX0_behindHowMany_4 : decode cX0_behindHowMany 4 = .ok (.if_icmp .gt 19, 3) := by decide +kernel
theorem dX0_behindHowMany_7 : decode cX0_behindHowMany 7 = .ok (.aload_n 0, 1) := by decide +kernel
theorem dX0_behindHowMany_8 : decode cX0_behindHowMany 8 = .ok (.invokevirtual 111, 3) := by decide +kernel
theorem dX0_behindHowMany_11 : decode cX0_behindHowMany 11 = .ok (.iload_n 1, 1) := by decide +kernel
theorem dX0_behindHowMany_12 : decode cX0_behindHowMany 12 = .ok (.if_icmp .ne 5, 3) := by decide +kernel
theorem dX0_behindHowMany_15 : decode cX0_behindHowMany 15 = .ok (.iload_n 3, 1) := by decide +kernel
theorem dX0_behindHowMany_16 : decode cX0_behindHowMany 16 = .ok (.ireturn, 1) := by decide +kernel
theorem dX0_behindHowMany_17 : decode cX0_behindHowMany 17 = .ok (.iinc 3 1, 3) := by decide +kernel
theorem dX0_behindHowMany_20 : decode cX0_behindHowMany 20 = .ok (.goto (-18), 3) := by decide +kernel
theorem dX0_behindHowMany_23 : decode cX0_behindHowMany 23 = .ok (.iload_n 2, 1) := by decide +kernel
theorem dX0_behindHowMany_24 : decode cX0_behindHowMany 24 = .ok (.iconst 1, 1) := by decide +kernel
theorem dX0_behindHowMany_25 : decode cX0_behindHowMany 25 = .ok (.iadd, 1) := by decide +kernel
theorem dX0_behindHowMany_26 : decode cX0_behindHowMany 26 = .ok (.ireturn, 1) := by decide +kernel
theorem dX0_beside_0 : decode cX0_beside 0 = .ok (.iload_n 2, 1) := by decide +kernel
theorem dX0_beside_1 : decode cX0_beside 1 = .ok (.tableswitch 117 0 3 #[31, 51, 77, 94], 31) := by decide +kernel
theorem dX0_beside_32 : decode cX0_beside 32 = .ok (.aload_n 0, 1) := by decide +kernel
theorem dX0_beside_33 : decode cX0_beside 33 = .ok (.iload_n 1, 1) := by decide +kernel
theorem dX0_beside_34 : decode cX0_beside 34 = .ok (.invokevirtual 61, 3) := by decide +kernel
theorem dX0_beside_37 : decode cX0_beside 37 = .ok (.ifCond .le 12, 3) := by decide +kernel
theorem dX0_beside_40 : decode cX0_beside 40 = .ok (.iload_n 1, 1) := by decide +kernel
theorem dX0_beside_41 : decode cX0_beside 41 = .ok (.aload_n 0, 1) := by decide +kernel
theorem dX0_beside_42 : decode cX0_beside 42 = .ok (.getfield 15, 3) := by decide +kernel
theorem dX0_beside_45 : decode cX0_beside 45 = .ok (.isub, 1) := by decide +kernel
theorem dX0_beside_46 : decode cX0_beside 46 = .ok (.goto 5, 3) := by decide +kernel
theorem dX0_beside_49 : decode cX0_beside 49 = .ok (.bipush (-4), 2) := by decide +kernel
theorem dX0_beside_51 : decode cX0_beside 51 = .ok (.ireturn, 1) := by decide +kernel
theorem dX0_beside_52 : decode cX0_beside 52 = .ok (.aload_n 0, 1) := by decide +kernel
theorem dX0_beside_53 : decode cX0_beside 53 = .ok (.iload_n 1, 1) := by decide +kernel
theorem dX0_beside_54 : decode cX0_beside 54 = .ok (.invokevirtual 61, 3) := by decide +kernel
theorem dX0_beside_57 : decode cX0_beside 57 = .ok (.aload_n 0, 1) := by decide +kernel
theorem dX0_beside_58 : decode cX0_beside 58 = .ok (.getfield 9, 3) := by decide +kernel
theorem dX0_beside_61 : decode cX0_beside 61 = .ok (.iconst 1, 1) := by decide +kernel
theorem dX0_beside_62 : decode cX0_beside 62 = .ok (.isub, 1) := by decide +kernel
theorem dX0_beside_63 : decode cX0_beside 63 = .ok (.if_icmp .ge 12, 3) := by decide +kernel
theorem dX0_beside_66 : decode cX0_beside 66 = .ok (.iload_n 1, 1) := by decide +kernel
theorem dX0_beside_67 : decode cX0_beside 67 = .ok (.aload_n 0, 1) := by decide +kernel
theorem dX0_beside_68 : decode cX0_beside 68 = .ok (.getfield 15, 3) := by decide +kernel
theorem dX0_beside_71 : decode cX0_beside 71 = .ok (.iadd, 1) := by decide +kernel
theorem dX0_beside_72 : decode cX0_beside 72 = .ok (.goto 5, 3) := by decide +kernel
theorem dX0_beside_75 : decode cX0_beside 75 = .ok (.bipush (-4), 2) := by decide +kernel
theorem dX0_beside_77 : decode cX0_beside 77 = .ok (.ireturn, 1) := by decide +kernel
theorem dX0_beside_78 : decode cX0_beside 78 = .ok (.aload_n 0, 1) := by decide +kernel
theorem dX0_beside_79 : decode cX0_beside 79 = .ok (.iload_n 1, 1) := by decide +kernel
theorem dX0_beside_80 : decode cX0_beside 80 = .ok (.invokevirtual 70, 3) := by decide +kernel
theorem dX0_beside_83 : decode cX0_beside 83 = .ok (.ifCond .le 9, 3) := by decide +kernel
theorem dX0_beside_86 : decode cX0_beside 86 = .ok (.iload_n 1, 1) := by decide +kernel
theorem dX0_beside_87 : decode cX0_beside 87 = .ok (.iconst 1, 1) := by decide +kernel
theorem dX0_beside_88 : decode cX0_beside 88 = .ok (.isub, 1) := by decide +kernel
theorem dX0_beside_89 : decode cX0_beside 89 = .ok (.goto 5, 3) := by decide +kernel
theorem dX0_beside_92 : decode cX0_beside 92 = .ok (.bipush (-4), 2) := by decide +kernel
theorem dX0_beside_94 : decode cX0_beside 94 = .ok (.ireturn, 1) := by decide +kernel
theorem dX0_beside_95 : decode cX0_beside 95 = .ok (.aload_n 0, 1) := by decide +kernel
theorem dX0_beside_96 : decode cX0_beside 96 = .ok (.iload_n 1, 1) := by decide +kernel
theorem dX0_beside_97 : decode cX0_beside 97 = .ok (.invokevirtual 70, 3) := by decide +kernel
theorem dX0_beside_100 : decode cX0_beside 100 = .ok (.aload_n 0, 1) := by decide +kernel
theorem dX0_beside_101 : decode cX0_beside 101 = .ok (.getfield 15, 3) := by decide +kernel
theorem dX0_beside_104 : decode cX0_beside 104 = .ok (.iconst 1, 1) := by decide +kernel
theorem dX0_beside_105 : decode cX0_beside 105 = .ok (.isub, 1) := by decide +kernel
theorem dX0_beside_106 : decode cX0_beside 106 = .ok (.if_icmp .ge 9, 3) := by decide +kernel
theorem dX0_beside_109 : decode cX0_beside 109 = .ok (.iload_n 1, 1) := by decide +kernel
theorem dX0_beside_110 : decode cX0_beside 110 = .ok (.iconst 1, 1) := by decide +kernel
theorem dX0_beside_111 : decode cX0_beside 111 = .ok (.iadd, 1) := by decide +kernel
theorem dX0_beside_112 : decode cX0_beside 112 = .ok (.goto 5, 3) := by decide +kernel
theorem dX0_beside_115 : decode cX0_beside 115 = .ok (.bipush (-4), 2) := by decide +kernel
theorem dX0_beside_117 : decode cX0_beside 117 = .ok (.ireturn, 1) := by decide +kernel
theorem dX0_beside_118 : decode cX0_beside 118 = .ok (.bipush (-4), 2) := by decide +kernel
theorem dX0_beside_120 : decode cX0_beside 120 = .ok (.ireturn, 1) := by decide +kernel
theorem dX0_stray_0 : decode cX0_stray 0 = .ok (.aload_n 0, 1) := by decide +kernel
theorem dX0_stray_1 : decode cX0_stray 1 = .ok (.getfield 37, 3) := by decide +kernel
theorem dX0_stray_4 : decode cX0_stray 4 = .ok (.ifCond .gt 4, 3) := by decide +kernel
theorem dX0_stray_7 : decode cX0_stray 7 = .ok (.return_, 1) := by decide +kernel
theorem dX0_stray_8 : decode cX0_stray 8 = .ok (.aload_n 0, 1) := by decide +kernel
theorem dX0_stray_9 : decode cX0_stray 9 = .ok (.aload_n 0, 1) := by decide +kernel
theorem dX0_stray_10 : decode cX0_stray 10 = .ok (.getfield 18, 3) := by decide +kernel
theorem dX0_stray_13 : decode cX0_stray 13 = .ok (.ldc 114, 2) := by decide +kernel
theorem dX0_stray_15 : decode cX0_stray 15 = .ok (.imul, 1) := by decide +kernel
theorem dX0_stray_16 : decode cX0_stray 16 = .ok (.sipush 12345, 3) := by decide +kernel
theorem dX0_stray_19 : decode cX0_stray 19 = .ok (.iadd, 1) := by decide +kernel
theorem dX0_stray_20 : decode cX0_stray 20 = .ok (.ldc 115, 2) := by decide +kernel
theorem dX0_stray_22 : decode cX0_stray 22 = .ok (.iand, 1) := by decide +kernel
theorem dX0_stray_23 : decode cX0_stray 23 = .ok (.putfield 18, 3) := by decide +kernel
theorem dX0_stray_26 : decode cX0_stray 26 = .ok (.aload_n 0, 1) := by decide +kernel
theorem dX0_stray_27 : decode cX0_stray 27 = .ok (.getfield 18, 3) := by decide +kernel
theorem dX0_stray_30 : decode cX0_stray 30 = .ok (.ldc 116, 2) := by decide +kernel
theorem dX0_stray_32 : decode cX0_stray 32 = .ok (.idiv, 1) := by decide +kernel
theorem dX0_stray_33 : decode cX0_stray 33 = .ok (.aload_n 0, 1) := by decide +kernel
theorem dX0_stray_34 : decode cX0_stray 34 = .ok (.getfield 37, 3) := by decide +kernel
theorem dX0_stray_37 : decode cX0_stray 37 = .ok (.irem, 1) := by decide +kernel
theorem dX0_stray_38 : decode cX0_stray 38 = .ok (.istore_n 1, 1) := by decide +kernel
theorem dX0_stray_39 : decode cX0_stray 39 = .ok (.aload_n 0, 1) := by decide +kernel
theorem dX0_stray_40 : decode cX0_stray 40 = .ok (.aload_n 0, 1) := by decide +kernel
theorem dX0_stray_41 : decode cX0_stray 41 = .ok (.getfield 25, 3) := by decide +kernel
theorem dX0_stray_44 : decode cX0_stray 44 = .ok (.iload_n 1, 1) := by decide +kernel
theorem dX0_stray_45 : decode cX0_stray 45 = .ok (.iaload, 1) := by decide +kernel
theorem dX0_stray_46 : decode cX0_stray 46 = .ok (.aload_n 0, 1) := by decide +kernel
theorem dX0_stray_47 : decode cX0_stray 47 = .ok (.getfield 18, 3) := by decide +kernel
theorem dX0_stray_50 : decode cX0_stray 50 = .ok (.sipush 128, 3) := by decide +kernel
theorem dX0_stray_53 : decode cX0_stray 53 = .ok (.idiv, 1) := by decide +kernel
theorem dX0_stray_54 : decode cX0_stray 54 = .ok (.iconst 4, 1) := by decide +kernel
theorem dX0_stray_55 : decode cX0_stray 55 = .ok (.irem, 1) := by decide +kernel
theorem dX0_stray_56 : decode cX0_stray 56 = .ok (.invokevirtual 117, 3) := by decide +kernel
theorem dX0_stray_59 : decode cX0_stray 59 = .ok (.istore_n 2, 1) := by decide +kernel
theorem dX0_stray_60 : decode cX0_stray 60 = .ok (.aload_n 0, 1) := by decide +kernel
theorem dX0_stray_61 : decode cX0_stray 61 = .ok (.iload_n 1, 1) := by decide +kernel
theorem dX0_stray_62 : decode cX0_stray 62 = .ok (.invokevirtual 80, 3) := by decide +kernel
theorem dX0_stray_65 : decode cX0_stray 65 = .ok (.ifCond .eq 16, 3) := by decide +kernel
theorem dX0_stray_68 : decode cX0_stray 68 = .ok (.iload_n 2, 1) := by decide +kernel
theorem dX0_stray_69 : decode cX0_stray 69 = .ok (.bipush (-4), 2) := by decide +kernel
theorem dX0_stray_71 : decode cX0_stray 71 = .ok (.if_icmp .eq 10, 3) := by decide +kernel
theorem dX0_stray_74 : decode cX0_stray 74 = .ok (.aload_n 0, 1) := by decide +kernel
theorem dX0_stray_75 : decode cX0_stray 75 = .ok (.getfield 25, 3) := by decide +kernel
theorem dX0_stray_78 : decode cX0_stray 78 = .ok (.iload_n 1, 1) := by decide +kernel
theorem dX0_stray_79 : decode cX0_stray 79 = .ok (.iload_n 2, 1) := by decide +kernel
theorem dX0_stray_80 : decode cX0_stray 80 = .ok (.iastore, 1) := by decide +kernel
theorem dX0_stray_81 : decode cX0_stray 81 = .ok (.return_, 1) := by decide +kernel
theorem dX1_init_0 : decode cX1_init 0 = .ok (.aload_n 0, 1) := by decide +kernel
theorem dX1_init_1 : decode cX1_init 1 = .ok (.invokespecial 3, 3) := by decide +kernel
theorem dX1_init_4 : decode cX1_init 4 = .ok (.aload_n 0, 1) := by decide +kernel
theorem dX1_init_5 : decode cX1_init 5 = .ok (.bipush 8, 2) := by decide +kernel
theorem dX1_init_7 : decode cX1_init 7 = .ok (.bipush 12, 2) := by decide +kernel
theorem dX1_init_9 : decode cX1_init 9 = .ok (.multianewarray 11 2, 4) := by decide +kernel
theorem dX1_init_13 : decode cX1_init 13 = .ok (.putfield 13, 3) := by decide +kernel
theorem dX1_init_16 : decode cX1_init 16 = .ok (.return_, 1) := by decide +kernel
theorem dX1_forget_0 : decode cX1_forget 0 = .ok (.aload_n 0, 1) := by decide +kernel
theorem dX1_forget_1 : decode cX1_forget 1 = .ok (.iconst 0, 1) := by decide +kernel
theorem dX1_forget_2 : decode cX1_forget 2 = .ok (.putfield 16, 3) := by decide +kernel
theorem dX1_forget_5 : decode cX1_forget 5 = .ok (.return_, 1) := by decide +kernel
theorem dX1_keep_0 : decode cX1_keep 0 = .ok (.aload_n 0, 1) := by decide +kernel
theorem dX1_keep_1 : decode cX1_keep 1 = .ok (.getfield 13, 3) := by decide +kernel
theorem dX1_keep_4 : decode cX1_keep 4 = .ok (.aload_n 0, 1) := by decide +kernel
theorem dX1_keep_5 : decode cX1_keep 5 = .ok (.getfield 20, 3) := by decide +kernel
theorem dX1_keep_8 : decode cX1_keep 8 = .ok (.aaload, 1) := by decide +kernel
theorem dX1_keep_9 : decode cX1_keep 9 = .ok (.astore_n 2, 1) := by decide +kernel
theorem dX1_keep_10 : decode cX1_keep 10 = .ok (.aload_n 1, 1) := by decide +kernel
theorem dX1_keep_11 : decode cX1_keep 11 = .ok (.getfield 23, 3) := by decide +kernel
theorem dX1_keep_14 : decode cX1_keep 14 = .ok (.iconst 0, 1) := by decide +kernel
theorem dX1_keep_15 : decode cX1_keep 15 = .ok (.aload_n 2, 1) := by decide +kernel
theorem dX1_keep_16 : decode cX1_keep 16 = .ok (.iconst 0, 1) := by decide +kernel
theorem dX1_keep_17 : decode cX1_keep 17 = .ok (.bipush 6, 2) := by decide +kernel
theorem dX1_keep_19 : decode cX1_keep 19 = .ok (.invokestatic 29, 3) := by decide +kernel
theorem dX1_keep_22 : decode cX1_keep 22 = .ok (.aload_n 2, 1) := by decide +kernel
theorem dX1_keep_23 : decode cX1_keep 23 = .ok (.bipush 6, 2) := by decide +kernel
theorem dX1_keep_25 : decode cX1_keep 25 = .ok (.aload_n 1, 1) := by decide +kernel
theorem dX1_keep_26 : decode cX1_keep 26 = .ok (.getfield 35, 3) := by decide +kernel
theorem dX1_keep_29 : decode cX1_keep 29 = .ok (.iastore, 1) := by decide +kernel
theorem dX1_keep_30 : decode cX1_keep 30 = .ok (.aload_n 2, 1) := by decide +kernel
theorem dX1_keep_31 : decode cX1_keep 31 = .ok (.bipush 7, 2) := by decide +kernel
theorem dX1_keep_33 : decode cX1_keep 33 = .ok (.aload_n 1, 1) := by decide +kernel
theorem dX1_keep_34 : decode cX1_keep 34 = .ok (.getfield 38, 3) := by decide +kernel
theorem dX1_keep_37 : decode cX1_keep 37 = .ok (.iastore, 1) := by decide +kernel
theorem dX1_keep_38 : decode cX1_keep 38 = .ok (.aload_n 2, 1) := by decide +kernel
theorem dX1_keep_39 : decode cX1_keep 39 = .ok (.bipush 8, 2) := by decide +kernel
theorem dX1_keep_41 : decode cX1_keep 41 = .ok (.aload_n 1, 1) := by decide +kernel
theorem dX1_keep_42 : decode cX1_keep 42 = .ok (.getfield 41, 3) := by decide +kernel
theorem dX1_keep_45 : decode cX1_keep 45 = .ok (.iastore, 1) := by decide +kernel
theorem dX1_keep_46 : decode cX1_keep 46 = .ok (.aload_n 2, 1) := by decide +kernel
theorem dX1_keep_47 : decode cX1_keep 47 = .ok (.bipush 9, 2) := by decide +kernel
theorem dX1_keep_49 : decode cX1_keep 49 = .ok (.aload_n 1, 1) := by decide +kernel
theorem dX1_keep_50 : decode cX1_keep 50 = .ok (.getfield 44, 3) := by decide +kernel
theorem dX1_keep_53 : decode cX1_keep 53 = .ok (.iastore, 1) := by decide +kernel
theorem dX1_keep_54 : decode cX1_keep 54 = .ok (.aload_n 2, 1) := by decide +kernel
theorem dX1_keep_55 : decode cX1_keep 55 = .ok (.bipush 10, 2) := by decide +kernel
theorem dX1_keep_57 : decode cX1_keep 57 = .ok (.aload_n 1, 1) := by decide +kernel
theorem dX1_keep_58 : decode cX1_keep 58 = .ok (.getfield 47, 3) := by decide +kernel
theorem dX1_keep_61 : decode cX1_keep 61 = .ok (.iastore, 1) := by decide +kernel
theorem dX1_keep_62 : decode cX1_keep 62 = .ok (.aload_n 2, 1) := by decide +kernel
theorem dX1_keep_63 : decode cX1_keep 63 = .ok (.bipush 11, 2) := by decide +kernel
theorem dX1_keep_65 : decode cX1_keep 65 = .ok (.aload_n 1, 1) := by decide +kernel
theorem dX1_keep_66 : decode cX1_keep 66 = .ok (.getfield 50, 3) := by decide +kernel
theorem dX1_keep_69 : decode cX1_keep 69 = .ok (.iastore, 1) := by decide +kernel
theorem dX1_keep_70 : decode cX1_keep 70 = .ok (.aload_n 0, 1) := by decide +kernel
theorem dX1_keep_71 : decode cX1_keep 71 = .ok (.aload_n 0, 1) := by decide +kernel
theorem dX1_keep_72 : decode cX1_keep 72 = .ok (.getfield 20, 3) := by decide +kernel
theorem dX1_keep_75 : decode cX1_keep 75 = .ok (.iconst 1, 1) := by decide +kernel
theorem dX1_keep_76 : decode cX1_keep 76 = .ok (.iadd, 1) := by decide +kernel
theorem dX1_keep_77 : decode cX1_keep 77 = .ok (.bipush 8, 2) := by decide +kernel
theorem dX1_keep_79 : decode cX1_keep 79 = .ok (.irem, 1) := by decide +kernel
theorem dX1_keep_80 : decode cX1_keep 80 = .ok (.putfield 20, 3) := by decide +kernel
theorem dX1_keep_83 : decode cX1_keep 83 = .ok (.aload_n 0, 1) := by decide +kernel
theorem dX1_keep_84 : decode cX1_keep 84 = .ok (.aload_n 0, 1) := by decide +kernel
theorem dX1_keep_85 : decode cX1_keep 85 = .ok (.getfield 16, 3) := by decide +kernel
theorem dX1_keep_88 : decode cX1_keep 88 = .ok (.iconst 1, 1) := by decide +kernel
theorem dX1_keep_89 : decode cX1_keep 89 = .ok (.iadd, 1) := by decide +kernel
theorem dX1_keep_90 : decode cX1_keep 90 = .ok (.bipush 8, 2) := by decide +kernel
theorem dX1_keep_92 : decode cX1_keep 92 = .ok (.invokestatic 53, 3) := by decide +kernel
theorem dX1_keep_95 : decode cX1_keep 95 = .ok (.putfield 16, 3) := by decide +kernel
theorem dX1_keep_98 : decode cX1_keep 98 = .ok (.return_, 1) := by decide +kernel
theorem dX1_bringBack_0 : decode cX1_bringBack 0 = .ok (.aload_n 0, 1) := by decide +kernel
theorem dX1_bringBack_1 : decode cX1_bringBack 1 = .ok (.getfield 16, 3) := by decide +kernel
theorem dX1_bringBack_4 : decode cX1_bringBack 4 = .ok (.ifCond .gt 4, 3) := by decide +kernel
theorem dX1_bringBack_7 : decode cX1_bringBack 7 = .ok (.return_, 1) := by decide +kernel
theorem dX1_bringBack_8 : decode cX1_bringBack 8 = .ok (.aload_n 0, 1) := by decide +kernel
theorem dX1_bringBack_9 : decode cX1_bringBack 9 = .ok (.aload_n 0, 1) := by decide +kernel
theorem dX1_bringBack_10 : decode cX1_bringBack 10 = .ok (.getfield 20, 3) := by decide +kernel
theorem dX1_bringBack_13 : decode cX1_bringBack 13 = .ok (.bipush 8, 2) := by decide +kernel
theorem dX1_bringBack_15 : decode cX1_bringBack 15 = .ok (.iadd, 1) := by decide +kernel
theorem dX1_bringBack_16 : decode cX1_bringBack 16 = .ok (.iconst 1, 1) := by decide +kernel
theorem dX1_bringBack_17 : decode cX1_bringBack 17 = .ok (.isub, 1) := by decide +kernel
theorem dX1_bringBack_18 : decode cX1_bringBack 18 = .ok (.bipush 8, 2) := by decide +kernel
theorem dX1_bringBack_20 : decode cX1_bringBack 20 = .ok (.irem, 1) := by decide +kernel
theorem dX1_bringBack_21 : decode cX1_bringBack 21 = .ok (.putfield 20, 3) := by decide +kernel
theorem dX1_bringBack_24 : decode cX1_bringBack 24 = .ok (.aload_n 0, 1) := by decide +kernel
theorem dX1_bringBack_25 : decode cX1_bringBack 25 = .ok (.dup, 1) := by decide +kernel
theorem dX1_bringBack_26 : decode cX1_bringBack 26 = .ok (.getfield 16, 3) := by decide +kernel
theorem dX1_bringBack_29 : decode cX1_bringBack 29 = .ok (.iconst 1, 1) := by decide +kernel
theorem dX1_bringBack_30 : decode cX1_bringBack 30 = .ok (.isub, 1) := by decide +kernel
theorem dX1_bringBack_31 : decode cX1_bringBack 31 = .ok (.putfield 16, 3) := by decide +kernel
theorem dX1_bringBack_34 : decode cX1_bringBack 34 = .ok (.aload_n 0, 1) := by decide +kernel
theorem dX1_bringBack_35 : decode cX1_bringBack 35 = .ok (.getfield 13, 3) := by decide +kernel
theorem dX1_bringBack_38 : decode cX1_bringBack 38 = .ok (.aload_n 0, 1) := by decide +kernel
theorem dX1_bringBack_39 : decode cX1_bringBack 39 = .ok (.getfield 20, 3) := by decide +kernel
theorem dX1_bringBack_42 : decode cX1_bringBack 42 = .ok (.aaload, 1) := by decide +kernel
theorem dX1_bringBack_43 : decode cX1_bringBack 43 = .ok (.astore_n 2, 1) := by decide +kernel
theorem dX1_bringBack_44 : decode cX1_bringBack 44 = .ok (.aload_n 2, 1) := by decide +kernel
theorem dX1_bringBack_45 : decode cX1_bringBack 45 = .ok (.iconst 0, 1) := by decide +kernel
theorem dX1_bringBack_46 : decode cX1_bringBack 46 = .ok (.aload_n 1, 1) := by decide +kernel
theorem dX1_bringBack_47 : decode cX1_bringBack 47 = .ok (.getfield 23, 3) := by decide +kernel
theorem dX1_bringBack_50 : decode cX1_bringBack 50 = .ok (.iconst 0, 1) := by decide +kernel
theorem dX1_bringBack_51 : decode cX1_bringBack 51 = .ok (.bipush 6, 2) := by decide +kernel
theorem dX1_bringBack_53 : decode cX1_bringBack 53 = .ok (.invokestatic 29, 3) := by decide +kernel
theorem dX1_bringBack_56 : decode cX1_bringBack 56 = .ok (.aload_n 1, 1) := by decide +kernel
theorem dX1_bringBack_57 : decode cX1_bringBack 57 = .ok (.aload_n 2, 1) := by decide +kernel
theorem dX1_bringBack_58 : decode cX1_bringBack 58 = .ok (.bipush 6, 2) := by decide +kernel
theorem dX1_bringBack_60 : decode cX1_bringBack 60 = .ok (.iaload, 1) := by decide +kernel
theorem dX1_bringBack_61 : decode cX1_bringBack 61 = .ok (.putfield 35, 3) := by decide +kernel
theorem dX1_bringBack_64 : decode cX1_bringBack 64 = .ok (.aload_n 1, 1) := by decide +kernel
theorem dX1_bringBack_65 : decode cX1_bringBack 65 = .ok (.aload_n 2, 1) := by decide +kernel
theorem dX1_bringBack_66 : decode cX1_bringBack 66 = .ok (.bipush 7, 2) := by decide +kernel
theorem dX1_bringBack_68 : decode cX1_bringBack 68 = .ok (.iaload, 1) := by decide +kernel
theorem dX1_bringBack_69 : decode cX1_bringBack 69 = .ok (.putfield 38, 3) := by decide +kernel
theorem dX1_bringBack_72 : decode cX1_bringBack 72 = .ok (.aload_n 1, 1) := by decide +kernel
theorem dX1_bringBack_73 : decode cX1_bringBack 73 = .ok (.aload_n 2, 1) := by decide +kernel
theorem dX1_bringBack_74 : decode cX1_bringBack 74 = .ok (.bipush 8, 2) := by decide +kernel
theorem dX1_bringBack_76 : decode cX1_bringBack 76 = .ok (.iaload, 1) := by decide +kernel
theorem dX1_bringBack_77 : decode cX1_bringBack 77 = .ok (.putfield 41, 3) := by decide +kernel
theorem dX1_bringBack_80 : decode cX1_bringBack 80 = .ok (.aload_n 1, 1) := by decide +kernel
theorem dX1_bringBack_81 : decode cX1_bringBack 81 = .ok (.aload_n 2, 1) := by decide +kernel
theorem dX1_bringBack_82 : decode cX1_bringBack 82 = .ok (.bipush 9, 2) := by decide +kernel
theorem dX1_bringBack_84 : decode cX1_bringBack 84 = .ok (.iaload, 1) := by decide +kernel
theorem dX1_bringBack_85 : decode cX1_bringBack 85 = .ok (.putfield 44, 3) := by decide +kernel
theorem dX1_bringBack_88 : decode cX1_bringBack 88 = .ok (.aload_n 1, 1) := by decide +kernel
theorem dX1_bringBack_89 : decode cX1_bringBack 89 = .ok (.aload_n 2, 1) := by decide +kernel
theorem dX1_bringBack_90 : decode cX1_bringBack 90 = .ok (.bipush 10, 2) := by decide +kernel
theorem dX1_bringBack_92 : decode cX1_bringBack 92 = .ok (.iaload, 1) := by decide +kernel
theorem dX1_bringBack_93 : decode cX1_bringBack 93 = .ok (.putfield 47, 3) := by decide +kernel
theorem dX1_bringBack_96 : decode cX1_bringBack 96 = .ok (.aload_n 1, 1) := by decide +kernel
theorem dX1_bringBack_97 : decode cX1_bringBack 97 = .ok (.aload_n 2, 1) := by decide +kernel
theorem dX1_bringBack_98 : decode cX1_bringBack 98 = .ok (.bipush 11, 2) := by decide +kernel
theorem dX1_bringBack_100 : decode cX1_bringBack 100 = .ok (.iaload, 1) := by decide +kernel
theorem dX1_bringBack_101 : decode cX1_bringBack 101 = .ok (.putfield 50, 3) := by decide +kernel
theorem dX1_bringBack_104 : decode cX1_bringBack 104 = .ok (.return_, 1) := by decide +kernel
theorem dX1_takePast_0 : decode cX1_takePast 0 = .ok (.aload_n 0, 1) := by decide +kernel
theorem dX1_takePast_1 : decode cX1_takePast 1 = .ok (.aload_n 1, 1) := by decide +kernel
theorem dX1_takePast_2 : decode cX1_takePast 2 = .ok (.getfield 20, 3) := by decide +kernel
theorem dX1_takePast_5 : decode cX1_takePast 5 = .ok (.putfield 20, 3) := by decide +kernel
theorem dX1_takePast_8 : decode cX1_takePast 8 = .ok (.aload_n 0, 1) := by decide +kernel
theorem dX1_takePast_9 : decode cX1_takePast 9 = .ok (.aload_n 1, 1) := by decide +kernel
theorem dX1_takePast_10 : decode cX1_takePast 10 = .ok (.getfield 16, 3) := by decide +kernel
theorem dX1_takePast_13 : decode cX1_takePast 13 = .ok (.putfield 16, 3) := by decide +kernel
theorem dX1_takePast_16 : decode cX1_takePast 16 = .ok (.iconst 0, 1) := by decide +kernel
theorem dX1_takePast_17 : decode cX1_takePast 17 = .ok (.istore_n 2, 1) := by decide +kernel
theorem dX1_takePast_18 : decode cX1_takePast 18 = .ok (.iload_n 2, 1) := by decide +kernel
theorem dX1_takePast_19 : decode cX1_takePast 19 = .ok (.bipush 8, 2) := by decide +kernel
theorem dX1_takePast_21 : decode cX1_takePast 21 = .ok (.if_icmp .ge 28, 3) := by decide +kernel
theorem dX1_takePast_24 : decode cX1_takePast 24 = .ok (.aload_n 1, 1) := by decide +kernel
theorem dX1_takePast_25 : decode cX1_takePast 25 = .ok (.getfield 13, 3) := by decide +kernel
theorem dX1_takePast_28 : decode cX1_takePast 28 = .ok (.iload_n 2, 1) := by decide +kernel
theorem dX1_takePast_29 : decode cX1_takePast 29 = .ok (.aaload, 1) := by decide +kernel
theorem dX1_takePast_30 : decode cX1_takePast 30 = .ok (.iconst 0, 1) := by decide +kernel
theorem dX1_takePast_31 : decode cX1_takePast 31 = .ok (.aload_n 0, 1) := by decide +kernel
theorem dX1_takePast_32 : decode cX1_takePast 32 = .ok (.getfield 13, 3) := by decide +kernel
theorem dX1_takePast_35 : decode cX1_takePast 35 = .ok (.iload_n 2, 1) := by decide +kernel
theorem dX1_takePast_36 : decode cX1_takePast 36 = .ok (.aaload, 1) := by decide +kernel
theorem dX1_takePast_37 : decode cX1_takePast 37 = .ok (.iconst 0, 1) := by decide +kernel
theorem dX1_takePast_38 : decode cX1_takePast 38 = .ok (.bipush 12, 2) := by decide +kernel
theorem dX1_takePast_40 : decode cX1_takePast 40 = .ok (.invokestatic 29, 3) := by decide +kernel
theorem dX1_takePast_43 : decode cX1_takePast 43 = .ok (.iinc 2 1, 3) := by decide +kernel
theorem dX1_takePast_46 : decode cX1_takePast 46 = .ok (.goto (-28), 3) := by decide +kernel
theorem dX1_takePast_49 : decode cX1_takePast 49 = .ok (.return_, 1) := by decide +kernel
theorem dX2_init_0 : decode cX2_init 0 = .ok (.aload_n 0, 1) := by decide +kernel
theorem dX2_init_1 : decode cX2_init 1 = .ok (.invokespecial 3, 3) := by decide +kernel
theorem dX2_init_4 : decode cX2_init 4 = .ok (.aload_n 0, 1) := by decide +kernel
theorem dX2_init_5 : decode cX2_init 5 = .ok (.iconst (-1), 1) := by decide +kernel
theorem dX2_init_6 : decode cX2_init 6 = .ok (.putfield 11, 3) := by decide +kernel
theorem dX2_init_9 : decode cX2_init 9 = .ok (.aload_n 0, 1) := by decide +kernel
theorem dX2_init_10 : decode cX2_init 10 = .ok (.bipush 24, 2) := by decide +kernel
theorem dX2_init_12 : decode cX2_init 12 = .ok (.newarray .long, 2) := by decide +kernel
theorem dX2_init_14 : decode cX2_init 14 = .ok (.putfield 15, 3) := by decide +kernel
theorem dX2_init_17 : decode cX2_init 17 = .ok (.return_, 1) := by decide +kernel
theorem dX2_isMissing_0 : decode cX2_isMissing 0 = .ok (.aload_n 0, 1) := by decide +kernel
theorem dX2_isMissing_1 : decode cX2_isMissing 1 = .ok (.getfield 11, 3) := by decide +kernel
theorem dX2_isMissing_4 : decode cX2_isMissing 4 = .ok (.iconst (-1), 1) := by decide +kernel
theorem dX2_isMissing_5 : decode cX2_isMissing 5 = .ok (.if_icmp .ne 7, 3) := by decide +kernel
theorem dX2_isMissing_8 : decode cX2_isMissing 8 = .ok (.iconst 1, 1) := by decide +kernel
theorem dX2_isMissing_9 : decode cX2_isMissing 9 = .ok (.goto 4, 3) := by decide +kernel
theorem dX2_isMissing_12 : decode cX2_isMissing 12 = .ok (.iconst 0, 1) := by decide +kernel
theorem dX2_isMissing_13 : decode cX2_isMissing 13 = .ok (.ireturn, 1) := by decide +kernel
theorem dX2_renew_0 : decode cX2_renew 0 = .ok (.aload_n 0, 1) := by decide +kernel
theorem dX2_renew_1 : decode cX2_renew 1 = .ok (.iload_n 1, 1) := by decide +kernel
theorem dX2_renew_2 : decode cX2_renew 2 = .ok (.putfield 11, 3) := by decide +kernel
theorem dX2_renew_5 : decode cX2_renew 5 = .ok (.aload_n 0, 1) := by decide +kernel
theorem dX2_renew_6 : decode cX2_renew 6 = .ok (.iload_n 2, 1) := by decide +kernel
theorem dX2_renew_7 : decode cX2_renew 7 = .ok (.putfield 19, 3) := by decide +kernel
theorem dX2_renew_10 : decode cX2_renew 10 = .ok (.iconst 0, 1) := by decide +kernel
theorem dX2_renew_11 : decode cX2_renew 11 = .ok (.istore_n 3, 1) := by decide +kernel
theorem dX2_renew_12 : decode cX2_renew 12 = .ok (.iload_n 3, 1) := by decide +kernel
theorem dX2_renew_13 : decode cX2_renew 13 = .ok (.bipush 24, 2) := by decide +kernel
theorem dX2_renew_15 : decode cX2_renew 15 = .ok (.if_icmp .ge 16, 3) := by decide +kernel
theorem dX2_renew_18 : decode cX2_renew 18 = .ok (.aload_n 0, 1) := by decide +kernel
theorem dX2_renew_19 : decode cX2_renew 19 = .ok (.getfield 15, 3) := by decide +kernel
theorem dX2_renew_22 : decode cX2_renew 22 = .ok (.iload_n 3, 1) := by decide +kernel
theorem dX2_renew_23 : decode cX2_renew 23 = .ok (.lconst 0, 1) := by decide +kernel
theorem dX2_renew_24 : decode cX2_renew 24 = .ok (.lastore, 1) := by decide +kernel
theorem dX2_renew_25 : decode cX2_renew 25 = .ok (.iinc 3 1, 3) := by decide +kernel
theorem dX2_renew_28 : decode cX2_renew 28 = .ok (.goto (-16), 3) := by decide +kernel
theorem dX2_renew_31 : decode cX2_renew 31 = .ok (.return_, 1) := by decide +kernel
theorem dX2_lose_0 : decode cX2_lose 0 = .ok (.aload_n 0, 1) := by decide +kernel
theorem dX2_lose_1 : decode cX2_lose 1 = .ok (.iconst (-1), 1) := by decide +kernel
theorem dX2_lose_2 : decode cX2_lose 2 = .ok (.putfield 11, 3) := by decide +kernel
theorem dX2_lose_5 : decode cX2_lose 5 = .ok (.aload_n 0, 1) := by decide +kernel
theorem dX2_lose_6 : decode cX2_lose 6 = .ok (.iconst 0, 1) := by decide +kernel
theorem dX2_lose_7 : decode cX2_lose 7 = .ok (.putfield 19, 3) := by decide +kernel
theorem dX2_lose_10 : decode cX2_lose 10 = .ok (.return_, 1) := by decide +kernel
theorem dX2_faultOf_0 : decode cX2_faultOf 0 = .ok (.aload_n 0, 1) := by decide +kernel
theorem dX2_faultOf_1 : decode cX2_faultOf 1 = .ok (.invokevirtual 22, 3) := by decide +kernel
theorem dX2_faultOf_4 : decode cX2_faultOf 4 = .ok (.ifCond .eq 6, 3) := by decide +kernel
theorem dX2_faultOf_7 : decode cX2_faultOf 7 = .ok (.bipush (-11), 2) := by decide +kernel
theorem dX2_faultOf_9 : decode cX2_faultOf 9 = .ok (.ireturn, 1) := by decide +kernel
theorem dX2_faultOf_10 : decode cX2_faultOf 10 = .ok (.aload_n 0, 1) := by decide +kernel
theorem dX2_faultOf_11 : decode cX2_faultOf 11 = .ok (.getfield 11, 3) := by decide +kernel
theorem dX2_faultOf_14 : decode cX2_faultOf 14 = .ok (.iload_n 1, 1) := by decide +kernel
theorem dX2_faultOf_15 : decode cX2_faultOf 15 = .ok (.if_icmp .eq 6, 3) := by decide +kernel
theorem dX2_faultOf_18 : decode cX2_faultOf 18 = .ok (.bipush (-12), 2) := by decide +kernel
theorem dX2_faultOf_20 : decode cX2_faultOf 20 = .ok (.ireturn, 1) := by decide +kernel
theorem dX2_faultOf_21 : decode cX2_faultOf 21 = .ok (.aload_n 0, 1) := by decide +kernel
theorem dX2_faultOf_22 : decode cX2_faultOf 22 = .ok (.iload_n 2, 1) := by decide +kernel
theorem dX2_faultOf_23 : decode cX2_faultOf 23 = .ok (.iload_n 3, 1) := by decide +kernel
theorem dX2_faultOf_24 : decode cX2_faultOf 24 = .ok (.invokevirtual 26, 3) := by decide +kernel
theorem dX2_faultOf_27 : decode cX2_faultOf 27 = .ok (.ifCond .eq 7, 3) := by decide +kernel
theorem dX2_faultOf_30 : decode cX2_faultOf 30 = .ok (.iconst 0, 1) := by decide +kernel
theorem dX2_faultOf_31 : decode cX2_faultOf 31 = .ok (.goto 5, 3) := by decide +kernel
theorem dX2_faultOf_34 : decode cX2_faultOf 34 = .ok (.bipush (-13), 2) := by decide +kernel
theorem dX2_faultOf_36 : decode cX2_faultOf 36 = .ok (.ireturn, 1) := by decide +kernel
theorem dX2_reaches_0 : decode cX2_reaches 0 = .ok (.iload_n 1, 1) := by decide +kernel
theorem dX2_reaches_1 : decode cX2_reaches 1 = .ok (.ifCond .lt 29, 3) := by decide +kernel
theorem dX2_reaches_4 : decode cX2_reaches 4 = .ok (.iload_n 2, 1) := by decide +kernel
theorem dX2_reaches_5 : decode cX2_reaches 5 = .ok (.ifCond .lt 25, 3) := by decide +kernel
theorem dX2_reaches_8 : decode cX2_reaches 8 = .ok (.iload_n 2, 1) := by decide +kernel
theorem dX2_reaches_9 : decode cX2_reaches 9 = .ok (.aload_n 0, 1) := by decide +kernel
theorem dX2_reaches_10 : decode cX2_reaches 10 = .ok (.getfield 19, 3) := by decide +kernel
theorem dX2_reaches_13 : decode cX2_reaches 13 = .ok (.if_icmp .gt 17, 3) := by decide +kernel
theorem dX2_reaches_16 : decode cX2_reaches 16 = .ok (.iload_n 1, 1) := by decide +kernel
theorem dX2_reaches_17 : decode cX2_reaches 17 = .ok (.aload_n 0, 1) := by decide +kernel
theorem dX2_reaches_18 : decode cX2_reaches 18 = .ok (.getfield 19, 3) := by decide +kernel
theorem dX2_reaches_21 : decode cX2_reaches 21 = .ok (.iload_n 2, 1) := by decide +kernel
theorem dX2_reaches_22 : decode cX2_reaches 22 = .ok (.isub, 1) := by decide +kernel
theorem dX2_reaches_23 : decode cX2_reaches 23 = .ok (.if_icmp .gt 7, 3) := by decide +kernel
theorem dX2_reaches_26 : decode cX2_reaches 26 = .ok (.iconst 1, 1) := by decide +kernel
theorem dX2_reaches_27 : decode cX2_reaches 27 = .ok (.goto 4, 3) := by decide +kernel
theorem dX2_reaches_30 : decode cX2_reaches 30 = .ok (.iconst 0, 1) := by decide +kernel
theorem dX2_reaches_31 : decode cX2_reaches 31 = .ok (.ireturn, 1) := by decide +kernel
theorem dX2_put_0 : decode cX2_put 0 = .ok (.aload_n 0, 1) := by decide +kernel
theorem dX2_put_1 : decode cX2_put 1 = .ok (.iload_n 1, 1) := by decide +kernel
theorem dX2_put_2 : decode cX2_put 2 = .ok (.iconst 1, 1) := by decide +kernel
theorem dX2_put_3 : decode cX2_put 3 = .ok (.invokevirtual 26, 3) := by decide +kernel
theorem dX2_put_6 : decode cX2_put 6 = .ok (.ifCond .ne 4, 3) := by decide +kernel
theorem dX2_put_9 : decode cX2_put 9 = .ok (.return_, 1) := by decide +kernel
theorem dX2_put_10 : decode cX2_put 10 = .ok (.aload_n 0, 1) := by decide +kernel
theorem dX2_put_11 : decode cX2_put 11 = .ok (.getfield 11, 3) := by decide +kernel
theorem dX2_put_14 : decode cX2_put 14 = .ok (.tableswitch 64 0 2 #[26, 39, 52], 26) := by decide +kernel
theorem dX2_put_40 : decode cX2_put 40 = .ok (.aload_n 0, 1) := by decide +kernel
theorem dX2_put_41 : decode cX2_put 41 = .ok (.getfield 15, 3) := by decide +kernel
theorem dX2_put_44 : decode cX2_put 44 = .ok (.iload_n 1, 1) := by decide +kernel
theorem dX2_put_45 : decode cX2_put 45 = .ok (.lload_n 2, 1) := by decide +kernel
theorem dX2_put_46 : decode cX2_put 46 = .ok (.l2i, 1) := by decide +kernel
theorem dX2_put_47 : decode cX2_put 47 = .ok (.i2b, 1) := by decide +kernel
theorem dX2_put_48 : decode cX2_put 48 = .ok (.i2l, 1) := by decide +kernel
theorem dX2_put_49 : decode cX2_put 49 = .ok (.lastore, 1) := by decide +kernel
theorem dX2_put_50 : decode cX2_put 50 = .ok (.goto 35, 3) := by decide +kernel
theorem dX2_put_53 : decode cX2_put 53 = .ok (.aload_n 0, 1) := by decide +kernel
theorem dX2_put_54 : decode cX2_put 54 = .ok (.getfield 15, 3) := by decide +kernel
theorem dX2_put_57 : decode cX2_put 57 = .ok (.iload_n 1, 1) := by decide +kernel
theorem dX2_put_58 : decode cX2_put 58 = .ok (.lload_n 2, 1) := by decide +kernel
theorem dX2_put_59 : decode cX2_put 59 = .ok (.l2i, 1) := by decide +kernel
theorem dX2_put_60 : decode cX2_put 60 = .ok (.i2s, 1) := by decide +kernel
theorem dX2_put_61 : decode cX2_put 61 = .ok (.i2l, 1) := by decide +kernel
theorem dX2_put_62 : decode cX2_put 62 = .ok (.lastore, 1) := by decide +kernel
theorem dX2_put_63 : decode cX2_put 63 = .ok (.goto 22, 3) := by decide +kernel
theorem dX2_put_66 : decode cX2_put 66 = .ok (.aload_n 0, 1) := by decide +kernel
theorem dX2_put_67 : decode cX2_put 67 = .ok (.getfield 15, 3) := by decide +kernel
theorem dX2_put_70 : decode cX2_put 70 = .ok (.iload_n 1, 1) := by decide +kernel
theorem dX2_put_71 : decode cX2_put 71 = .ok (.lload_n 2, 1) := by decide +kernel
theorem dX2_put_72 : decode cX2_put 72 = .ok (.l2i, 1) := by decide +kernel
theorem dX2_put_73 : decode cX2_put 73 = .ok (.i2l, 1) := by decide +kernel
theorem dX2_put_74 : decode cX2_put 74 = .ok (.lastore, 1) := by decide +kernel
theorem dX2_put_75 : decode cX2_put 75 = .ok (.goto 10, 3) := by decide +kernel
theorem dX2_put_78 : decode cX2_put 78 = .ok (.aload_n 0, 1) := by decide +kernel
theorem dX2_put_79 : decode cX2_put 79 = .ok (.getfield 15, 3) := by decide +kernel
theorem dX2_put_82 : decode cX2_put 82 = .ok (.iload_n 1, 1) := by decide +kernel
theorem dX2_put_83 : decode cX2_put 83 = .ok (.lload_n 2, 1) := by decide +kernel
theorem dX2_put_84 : decode cX2_put 84 = .ok (.lastore, 1) := by decide +kernel
theorem dX2_put_85 : decode cX2_put 85 = .ok (.return_, 1) := by decide +kernel
theorem dX2_tellsOf_0 : decode cX2_tellsOf 0 = .ok (.aload_n 0, 1) := by decide +kernel
theorem dX2_tellsOf_1 : decode cX2_tellsOf 1 = .ok (.iload_n 2, 1) := by decide +kernel
theorem dX2_tellsOf_2 : decode cX2_tellsOf 2 = .ok (.iload_n 3, 1) := by decide +kernel
theorem dX2_tellsOf_3 : decode cX2_tellsOf 3 = .ok (.invokevirtual 26, 3) := by decide +kernel
theorem dX2_tellsOf_6 : decode cX2_tellsOf 6 = .ok (.ifCond .ne 5, 3) := by decide +kernel
theorem dX2_tellsOf_9 : decode cX2_tellsOf 9 = .ok (.iconst 0, 1) := by decide +kernel
theorem dX2_tellsOf_10 : decode cX2_tellsOf 10 = .ok (.ireturn, 1) := by decide +kernel
theorem dX2_tellsOf_11 : decode cX2_tellsOf 11 = .ok (.iconst 0, 1) := by decide +kernel
theorem dX2_tellsOf_12 : decode cX2_tellsOf 12 = .ok (.istore 4, 2) := by decide +kernel
theorem dX2_tellsOf_14 : decode cX2_tellsOf 14 = .ok (.iload 4, 2) := by decide +kernel
theorem dX2_tellsOf_16 : decode cX2_tellsOf 16 = .ok (.iload_n 3, 1) := by decide +kernel
theorem dX2_tellsOf_17 : decode cX2_tellsOf 17 = .ok (.if_icmp .ge 34, 3) := by decide +kernel
theorem dX2_tellsOf_20 : decode cX2_tellsOf 20 = .ok (.aload_n 1, 1) := by decide +kernel
theorem dX2_tellsOf_21 : decode cX2_tellsOf 21 = .ok (.invokevirtual 30, 3) := by decide +kernel
theorem dX2_tellsOf_24 : decode cX2_tellsOf 24 = .ok (.pop, 1) := by decide +kernel
theorem dX2_tellsOf_25 : decode cX2_tellsOf 25 = .ok (.aload_n 0, 1) := by decide +kernel
theorem dX2_tellsOf_26 : decode cX2_tellsOf 26 = .ok (.getfield 15, 3) := by decide +kernel
theorem dX2_tellsOf_29 : decode cX2_tellsOf 29 = .ok (.iload_n 2, 1) := by decide +kernel
theorem dX2_tellsOf_30 : decode cX2_tellsOf 30 = .ok (.iload 4, 2) := by decide +kernel
theorem dX2_tellsOf_32 : decode cX2_tellsOf 32 = .ok (.iadd, 1) := by decide +kernel
theorem dX2_tellsOf_33 : decode cX2_tellsOf 33 = .ok (.laload, 1) := by decide +kernel
theorem dX2_tellsOf_34 : decode cX2_tellsOf 34 = .ok (.aload_n 1, 1) := by decide +kernel
theorem dX2_tellsOf_35 : decode cX2_tellsOf 35 = .ok (.getfield 36, 3) := by decide +kernel
theorem dX2_tellsOf_38 : decode cX2_tellsOf 38 = .ok (.i2l, 1) := by decide +kernel
theorem dX2_tellsOf_39 : decode cX2_tellsOf 39 = .ok (.lcmp, 1) := by decide +kernel
theorem dX2_tellsOf_40 : decode cX2_tellsOf 40 = .ok (.ifCond .eq 5, 3) := by decide +kernel
theorem dX2_tellsOf_43 : decode cX2_tellsOf 43 = .ok (.iconst 0, 1) := by decide +kernel
theorem dX2_tellsOf_44 : decode cX2_tellsOf 44 = .ok (.ireturn, 1) := by decide +kernel
theorem dX2_tellsOf_45 : decode cX2_tellsOf 45 = .ok (.iinc 4 1, 3) := by decide +kernel
theorem dX2_tellsOf_48 : decode cX2_tellsOf 48 = .ok (.goto (-34), 3) := by decide +kernel
theorem dX2_tellsOf_51 : decode cX2_tellsOf 51 = .ok (.iconst 1, 1) := by decide +kernel
theorem dX2_tellsOf_52 : decode cX2_tellsOf 52 = .ok (.ireturn, 1) := by decide +kernel
theorem dX3_init_0 : decode cX3_init 0 = .ok (.aload_n 0, 1) := by decide +kernel
theorem dX3_init_1 : decode cX3_init 1 = .ok (.invokespecial 3, 3) := by decide +kernel
theorem dX3_init_4 : decode cX3_init 4 = .ok (.aload_n 0, 1) := by decide +kernel
theorem dX3_init_5 : decode cX3_init 5 = .ok (.bipush 90, 2) := by decide +kernel
theorem dX3_init_7 : decode cX3_init 7 = .ok (.newarray .char, 2) := by decide +kernel
theorem dX3_init_9 : decode cX3_init 9 = .ok (.putfield 9, 3) := by decide +kernel
theorem dX3_init_12 : decode cX3_init 12 = .ok (.return_, 1) := by decide +kernel
theorem dX3_add_0 : decode cX3_add 0 = .ok (.aload_n 0, 1) := by decide +kernel
theorem dX3_add_1 : decode cX3_add 1 = .ok (.getfield 15, 3) := by decide +kernel
theorem dX3_add_4 : decode cX3_add 4 = .ok (.ifCond .lt 33, 3) := by decide +kernel
theorem dX3_add_7 : decode cX3_add 7 = .ok (.aload_n 0, 1) := by decide +kernel
theorem dX3_add_8 : decode cX3_add 8 = .ok (.getfield 15, 3) := by decide +kernel
theorem dX3_add_11 : decode cX3_add 11 = .ok (.bipush 90, 2) := by decide +kernel
theorem dX3_add_13 : decode cX3_add 13 = .ok (.if_icmp .ge 24, 3) := by decide +kernel
theorem dX3_add_16 : decode cX3_add 16 = .ok (.aload_n 0, 1) := by decide +kernel
theorem dX3_add_17 : decode cX3_add 17 = .ok (.getfield 9, 3) := by decide +kernel
theorem dX3_add_20 : decode cX3_add 20 = .ok (.aload_n 0, 1) := by decide +kernel
theorem dX3_add_21 : decode cX3_add 21 = .ok (.getfield 15, 3) := by decide +kernel
theorem dX3_add_24 : decode cX3_add 24 = .ok (.iload_n 1, 1) := by decide +kernel
theorem dX3_add_25 : decode cX3_add 25 = .ok (.i2c, 1) := by decide +kernel
theorem dX3_add_26 : decode cX3_add 26 = .ok (.castore, 1) := by decide +kernel
theorem dX3_add_27 : decode cX3_add 27 = .ok (.aload_n 0, 1) := by decide +kernel
theorem dX3_add_28 : decode cX3_add 28 = .ok (.dup, 1) := by decide +kernel
theorem dX3_add_29 : decode cX3_add 29 = .ok (.getfield 15, 3) := by decide +kernel
theorem dX3_add_32 : decode cX3_add 32 = .ok (.iconst 1, 1) := by decide +kernel
theorem dX3_add_33 : decode cX3_add 33 = .ok (.iadd, 1) := by decide +kernel
theorem dX3_add_34 : decode cX3_add 34 = .ok (.putfield 15, 3) := by decide +kernel
theorem dX3_add_37 : decode cX3_add 37 = .ok (.aload_n 0, 1) := by decide +kernel
theorem dX3_add_38 : decode cX3_add 38 = .ok (.getfield 15, 3) := by decide +kernel
theorem dX3_add_41 : decode cX3_add 41 = .ok (.ireturn, 1) := by decide +kernel
theorem dX3_readInto_0 : decode cX3_readInto 0 = .ok (.aload_n 0, 1) := by decide +kernel
theorem dX3_readInto_1 : decode cX3_readInto 1 = .ok (.iconst 0, 1) := by decide +kernel
theorem dX3_readInto_2 : decode cX3_readInto 2 = .ok (.putfield 19, 3) := by decide +kernel
theorem dX3_readInto_5 : decode cX3_readInto 5 = .ok (.aload_n 0, 1) := by decide +kernel
theorem dX3_readInto_6 : decode cX3_readInto 6 = .ok (.aload_n 1, 1) := by decide +kernel
theorem dX3_readInto_7 : decode cX3_readInto 7 = .ok (.invokevirtual 22, 3) := by decide +kernel
theorem dX3_readInto_10 : decode cX3_readInto 10 = .ok (.ifCond .eq 12, 3) := by decide +kernel
theorem dX3_readInto_13 : decode cX3_readInto 13 = .ok (.aload_n 0, 1) := by decide +kernel
theorem dX3_readInto_14 : decode cX3_readInto 14 = .ok (.bipush 59, 2) := by decide +kernel
theorem dX3_readInto_16 : decode cX3_readInto 16 = .ok (.invokevirtual 26, 3) := by decide +kernel
theorem dX3_readInto_19 : decode cX3_readInto 19 = .ok (.ifCond .ne 5, 3) := by decide +kernel
theorem dX3_readInto_22 : decode cX3_readInto 22 = .ok (.iconst 0, 1) := by decide +kernel
theorem dX3_readInto_23 : decode cX3_readInto 23 = .ok (.ireturn, 1) := by decide +kernel
theorem dX3_readInto_24 : decode cX3_readInto 24 = .ok (.iconst 1, 1) := by decide +kernel
theorem dX3_readInto_25 : decode cX3_readInto 25 = .ok (.istore_n 2, 1) := by decide +kernel
theorem dX3_readInto_26 : decode cX3_readInto 26 = .ok (.iload_n 2, 1) := by decide +kernel
theorem dX3_readInto_27 : decode cX3_readInto 27 = .ok (.bipush 6, 2) := by decide +kernel
theorem dX3_readInto_29 : decode cX3_readInto 29 = .ok (.if_icmp .gt 45, 3) := by decide +kernel
theorem dX3_readInto_32 : decode cX3_readInto 32 = .ok (.aload_n 0, 1) := by decide +kernel
theorem dX3_readInto_33 : decode cX3_readInto 33 = .ok (.aload_n 1, 1) := by decide +kernel
theorem dX3_readInto_34 : decode cX3_readInto 34 = .ok (.invokevirtual 30, 3) := by decide +kernel
theorem dX3_readInto_37 : decode cX3_readInto 37 = .ok (.ifCond .ne 5, 3) := by decide +kernel
theorem dX3_readInto_40 : decode cX3_readInto 40 = .ok (.iconst 0, 1) := by decide +kernel
theorem dX3_readInto_41 : decode cX3_readInto 41 = .ok (.ireturn, 1) := by decide +kernel
theorem dX3_readInto_42 : decode cX3_readInto 42 = .ok (.aload_n 0, 1) := by decide +kernel
theorem dX3_readInto_43 : decode cX3_readInto 43 = .ok (.invokevirtual 33, 3) := by decide +kernel
theorem dX3_readInto_46 : decode cX3_readInto 46 = .ok (.ifCond .ne 5, 3) := by decide +kernel
theorem dX3_readInto_49 : decode cX3_readInto 49 = .ok (.iconst 1, 1) := by decide +kernel
theorem dX3_readInto_50 : decode cX3_readInto 50 = .ok (.ireturn, 1) := by decide +kernel
theorem dX3_readInto_51 : decode cX3_readInto 51 = .ok (.iload_n 2, 1) := by decide +kernel
theorem dX3_readInto_52 : decode cX3_readInto 52 = .ok (.bipush 6, 2) := by decide +kernel
theorem dX3_readInto_54 : decode cX3_readInto 54 = .ok (.if_icmp .eq 12, 3) := by decide +kernel
theorem dX3_readInto_57 : decode cX3_readInto 57 = .ok (.aload_n 0, 1) := by decide +kernel
theorem dX3_readInto_58 : decode cX3_readInto 58 = .ok (.bipush 44, 2) := by decide +kernel
theorem dX3_readInto_60 : decode cX3_readInto 60 = .ok (.invokevirtual 26, 3) := by decide +kernel
theorem dX3_readInto_63 : decode cX3_readInto 63 = .ok (.ifCond .ne 5, 3) := by decide +kernel
theorem dX3_readInto_66 : decode cX3_readInto 66 = .ok (.iconst 0, 1) := by decide +kernel
theorem dX3_readInto_67 : decode cX3_readInto 67 = .ok (.ireturn, 1) := by decide +kernel
theorem dX3_readInto_68 : decode cX3_readInto 68 = .ok (.iinc 2 1, 3) := by decide +kernel
theorem dX3_readInto_71 : decode cX3_readInto 71 = .ok (.goto (-45), 3) := by decide +kernel
theorem dX3_readInto_74 : decode cX3_readInto 74 = .ok (.iconst 0, 1) := by decide +kernel
theorem dX3_readInto_75 : decode cX3_readInto 75 = .ok (.ireturn, 1) := by decide +kernel
theorem dX3_readStreets_0 : decode cX3_readStreets 0 = .ok (.aload_n 0, 1) := by decide +kernel
theorem dX3_readStreets_1 : decode cX3_readStreets 1 = .ok (.iconst 2, 1) := by decide +kernel
theorem dX3_readStreets_2 : decode cX3_readStreets 2 = .ok (.bipush 6, 2) := by decide +kernel
theorem dX3_readStreets_4 : decode cX3_readStreets 4 = .ok (.invokevirtual 37, 3) := by decide +kernel
theorem dX3_readStreets_7 : decode cX3_readStreets 7 = .ok (.istore_n 2, 1) := by decide +kernel
theorem dX3_readStreets_8 : decode cX3_readStreets 8 = .ok (.iload_n 2, 1) := by decide +kernel
theorem dX3_readStreets_9 : decode cX3_readStreets 9 = .ok (.bipush (-4), 2) := by decide +kernel
theorem dX3_readStreets_11 : decode cX3_readStreets 11 = .ok (.if_icmp .eq 12, 3) := by decide +kernel
theorem dX3_readStreets_14 : decode cX3_readStreets 14 = .ok (.aload_n 0, 1) := by decide +kernel
theorem dX3_readStreets_15 : decode cX3_readStreets 15 = .ok (.bipush 120, 2) := by decide +kernel
theorem dX3_readStreets_17 : decode cX3_readStreets 17 = .ok (.invokevirtual 26, 3) := by decide +kernel
theorem dX3_readStreets_20 : decode cX3_readStreets 20 = .ok (.ifCond .ne 5, 3) := by decide +kernel
theorem dX3_readStreets_23 : decode cX3_readStreets 23 = .ok (.iconst 0, 1) := by decide +kernel
theorem dX3_readStreets_24 : decode cX3_readStreets 24 = .ok (.ireturn, 1) := by decide +kernel
theorem dX3_readStreets_25 : decode cX3_readStreets 25 = .ok (.aload_n 0, 1) := by decide +kernel
theorem dX3_readStreets_26 : decode cX3_readStreets 26 = .ok (.iconst 2, 1) := by decide +kernel
theorem dX3_readStreets_27 : decode cX3_readStreets 27 = .ok (.bipush 6, 2) := by decide +kernel
theorem dX3_readStreets_29 : decode cX3_readStreets 29 = .ok (.invokevirtual 37, 3) := by decide +kernel
theorem dX3_readStreets_32 : decode cX3_readStreets 32 = .ok (.istore_n 3, 1) := by decide +kernel
theorem dX3_readStreets_33 : decode cX3_readStreets 33 = .ok (.iload_n 3, 1) := by decide +kernel
theorem dX3_readStreets_34 : decode cX3_readStreets 34 = .ok (.bipush (-4), 2) := by decide +kernel
theorem dX3_readStreets_36 : decode cX3_readStreets 36 = .ok (.if_icmp .eq 12, 3) := by decide +kernel
theorem dX3_readStreets_39 : decode cX3_readStreets 39 = .ok (.aload_n 0, 1) := by decide +kernel
theorem dX3_readStreets_40 : decode cX3_readStreets 40 = .ok (.bipush 64, 2) := by decide +kernel
theorem dX3_readStreets_42 : decode cX3_readStreets 42 = .ok (.invokevirtual 26, 3) := by decide +kernel
theorem dX3_readStreets_45 : decode cX3_readStreets 45 = .ok (.ifCond .ne 5, 3) := by decide +kernel
theorem dX3_readStreets_48 : decode cX3_readStreets 48 = .ok (.iconst 0, 1) := by decide +kernel
theorem dX3_readStreets_49 : decode cX3_readStreets 49 = .ok (.ireturn, 1) := by decide +kernel
theorem dX3_readStreets_50 : decode cX3_readStreets 50 = .ok (.aload_n 1, 1) := by decide +kernel
theorem dX3_readStreets_51 : decode cX3_readStreets 51 = .ok (.iload_n 2, 1) := by decide +kernel
theorem dX3_readStreets_52 : decode cX3_readStreets 52 = .ok (.iload_n 3, 1) := by decide +kernel
theorem dX3_readStreets_53 : decode cX3_readStreets 53 = .ok (.invokevirtual 41, 3) := by decide +kernel
theorem dX3_readStreets_56 : decode cX3_readStreets 56 = .ok (.aload_n 0, 1) := by decide +kernel
theorem dX3_readStreets_57 : decode cX3_readStreets 57 = .ok (.aload_n 1, 1) := by decide +kernel
theorem dX3_readStreets_58 : decode cX3_readStreets 58 = .ok (.invokevirtual 47, 3) := by decide +kernel
theorem dX3_readStreets_61 : decode cX3_readStreets 61 = .ok (.istore 4, 2) := by decide +kernel
theorem dX3_readStreets_63 : decode cX3_readStreets 63 = .ok (.aload_n 1, 1) := by decide +kernel
theorem dX3_readStreets_64 : decode cX3_readStreets 64 = .ok (.iload 4, 2) := by decide +kernel
theorem dX3_readStreets_66 : decode cX3_readStreets 66 = .ok (.iconst 0, 1) := by decide +kernel
theorem dX3_readStreets_67 : decode cX3_readStreets 67 = .ok (.invokestatic 51, 3) := by decide +kernel
theorem dX3_readStreets_70 : decode cX3_readStreets 70 = .ok (.putfield 56, 3) := by decide +kernel
theorem dX3_readStreets_73 : decode cX3_readStreets 73 = .ok (.iload 4, 2) := by decide +kernel
theorem dX3_readStreets_75 : decode cX3_readStreets 75 = .ok (.bipush (-4), 2) := by decide +kernel
theorem dX3_readStreets_77 : decode cX3_readStreets 77 = .ok (.if_icmp .eq 7, 3) := by decide +kernel
theorem dX3_readStreets_80 : decode cX3_readStreets 80 = .ok (.iconst 1, 1) := by decide +kernel
theorem dX3_readStreets_81 : decode cX3_readStreets 81 = .ok (.goto 4, 3) := by decide +kernel
theorem dX3_readStreets_84 : decode cX3_readStreets 84 = .ok (.iconst 0, 1) := by decide +kernel
theorem dX3_readStreets_85 : decode cX3_readStreets 85 = .ok (.ireturn, 1) := by decide +kernel
theorem dX3_readPerson_0 : decode cX3_readPerson 0 = .ok (.ldc 59, 2) := by decide +kernel
theorem dX3_readPerson_2 : decode cX3_readPerson 2 = .ok (.aload_n 0, 1) := by decide +kernel
theorem dX3_readPerson_3 : decode cX3_readPerson 3 = .ok (.invokevirtual 33, 3) := by decide +kernel
theorem dX3_readPerson_6 : decode cX3_readPerson 6 = .ok (.invokevirtual 61, 3) := by decide +kernel
theorem dX3_readPerson_9 : decode cX3_readPerson 9 = .ok (.istore_n 2, 1) := by decide +kernel
theorem dX3_readPerson_10 : decode cX3_readPerson 10 = .ok (.iload_n 2, 1) := by decide +kernel
theorem dX3_readPerson_11 : decode cX3_readPerson 11 = .ok (.ifCond .ge 5, 3) := by decide +kernel
theorem dX3_readPerson_14 : decode cX3_readPerson 14 = .ok (.iconst 0, 1) := by decide +kernel
theorem dX3_readPerson_15 : decode cX3_readPerson 15 = .ok (.ireturn, 1) := by decide +kernel
theorem dX3_readPerson_16 : decode cX3_readPerson 16 = .ok (.aload_n 0, 1) := by decide +kernel
theorem dX3_readPerson_17 : decode cX3_readPerson 17 = .ok (.dup, 1) := by decide +kernel
theorem dX3_readPerson_18 : decode cX3_readPerson 18 = .ok (.getfield 19, 3) := by decide +kernel
theorem dX3_readPerson_21 : decode cX3_readPerson 21 = .ok (.iconst 1, 1) := by decide +kernel
theorem dX3_readPerson_22 : decode cX3_readPerson 22 = .ok (.iadd, 1) := by decide +kernel
theorem dX3_readPerson_23 : decode cX3_readPerson 23 = .ok (.putfield 19, 3) := by decide +kernel
theorem dX3_readPerson_26 : decode cX3_readPerson 26 = .ok (.aload_n 0, 1) := by decide +kernel
theorem dX3_readPerson_27 : decode cX3_readPerson 27 = .ok (.aload_n 1, 1) := by decide +kernel
theorem dX3_readPerson_28 : decode cX3_readPerson 28 = .ok (.invokevirtual 47, 3) := by decide +kernel
theorem dX3_readPerson_31 : decode cX3_readPerson 31 = .ok (.istore_n 3, 1) := by decide +kernel
theorem dX3_readPerson_32 : decode cX3_readPerson 32 = .ok (.iload_n 3, 1) := by decide +kernel
theorem dX3_readPerson_33 : decode cX3_readPerson 33 = .ok (.bipush (-4), 2) := by decide +kernel
theorem dX3_readPerson_35 : decode cX3_readPerson 35 = .ok (.if_icmp .ne 5, 3) := by decide +kernel
theorem dX3_readPerson_38 : decode cX3_readPerson 38 = .ok (.iconst 0, 1) := by decide +kernel
theorem dX3_readPerson_39 : decode cX3_readPerson 39 = .ok (.ireturn, 1) := by decide +kernel
theorem dX3_readPerson_40 : decode cX3_readPerson 40 = .ok (.aload_n 0, 1) := by decide +kernel
theorem dX3_readPerson_41 : decode cX3_readPerson 41 = .ok (.iconst 0, 1) := by decide +kernel
theorem dX3_readPerson_42 : decode cX3_readPerson 42 = .ok (.bipush 9, 2) := by decide +kernel
theorem dX3_readPerson_44 : decode cX3_readPerson 44 = .ok (.invokevirtual 37, 3) := by decide +kernel
theorem dX3_readPerson_47 : decode cX3_readPerson 47 = .ok (.istore 4, 2) := by decide +kernel
theorem dX3_readPerson_49 : decode cX3_readPerson 49 = .ok (.iload 4, 2) := by decide +kernel
theorem dX3_readPerson_51 : decode cX3_readPerson 51 = .ok (.bipush (-4), 2) := by decide +kernel
theorem dX3_readPerson_53 : decode cX3_readPerson 53 = .ok (.if_icmp .ne 5, 3) := by decide +kernel
theorem dX3_readPerson_56 : decode cX3_readPerson 56 = .ok (.iconst 0, 1) := by decide +kernel
theorem dX3_readPerson_57 : decode cX3_readPerson 57 = .ok (.ireturn, 1) := by decide +kernel
theorem dX3_readPerson_58 : decode cX3_readPerson 58 = .ok (.aload_n 1, 1) := by decide +kernel
theorem dX3_readPerson_59 : decode cX3_readPerson 59 = .ok (.iload_n 2, 1) := by decide +kernel
theorem dX3_readPerson_60 : decode cX3_readPerson 60 = .ok (.iload_n 3, 1) := by decide +kernel
theorem dX3_readPerson_61 : decode cX3_readPerson 61 = .ok (.iload 4, 2) := by decide +kernel
theorem dX3_readPerson_63 : decode cX3_readPerson 63 = .ok (.aload_n 0, 1) := by decide +kernel
theorem dX3_readPerson_64 : decode cX3_readPerson 64 = .ok (.invokevirtual 67, 3) := by decide +kernel
theorem dX3_readPerson_67 : decode cX3_readPerson 67 = .ok (.invokevirtual 71, 3) := by decide +kernel
theorem dX3_readPerson_70 : decode cX3_readPerson 70 = .ok (.pop, 1) := by decide +kernel
theorem dX3_readPerson_71 : decode cX3_readPerson 71 = .ok (.iconst 1, 1) := by decide +kernel
theorem dX3_readPerson_72 : decode cX3_readPerson 72 = .ok (.ireturn, 1) := by decide +kernel
theorem dX3_readFeatures_0 : decode cX3_readFeatures 0 = .ok (.iconst 0, 1) := by decide +kernel
theorem dX3_readFeatures_1 : decode cX3_readFeatures 1 = .ok (.istore_n 1, 1) := by decide +kernel
theorem dX3_readFeatures_2 : decode cX3_readFeatures 2 = .ok (.iconst 0, 1) := by decide +kernel
theorem dX3_readFeatures_3 : decode cX3_readFeatures 3 = .ok (.istore_n 2, 1) := by decide +kernel
theorem dX3_readFeatures_4 : decode cX3_readFeatures 4 = .ok (.iload_n 2, 1) := by decide +kernel
theorem dX3_readFeatures_5 : decode cX3_readFeatures 5 = .ok (.bipush 6, 2) := by decide +kernel
theorem dX3_readFeatures_7 : decode cX3_readFeatures 7 = .ok (.if_icmp .ge 36, 3) := by decide +kernel
theorem dX3_readFeatures_10 : decode cX3_readFeatures 10 = .ok (.aload_n 0, 1) := by decide +kernel
theorem dX3_readFeatures_11 : decode cX3_readFeatures 11 = .ok (.invokevirtual 33, 3) := by decide +kernel
theorem dX3_readFeatures_14 : decode cX3_readFeatures 14 = .ok (.bipush 97, 2) := by decide +kernel
theorem dX3_readFeatures_16 : decode cX3_readFeatures 16 = .ok (.iload_n 2, 1) := by decide +kernel
theorem dX3_readFeatures_17 : decode cX3_readFeatures 17 = .ok (.iadd, 1) := by decide +kernel
theorem dX3_readFeatures_18 : decode cX3_readFeatures 18 = .ok (.if_icmp .ne 19, 3) := by decide +kernel
theorem dX3_readFeatures_21 : decode cX3_readFeatures 21 = .ok (.iload_n 1, 1) := by decide +kernel
theorem dX3_readFeatures_22 : decode cX3_readFeatures 22 = .ok (.iconst 1, 1) := by decide +kernel
theorem dX3_readFeatures_23 : decode cX3_readFeatures 23 = .ok (.iload_n 2, 1) := by decide +kernel
theorem dX3_readFeatures_24 : decode cX3_readFeatures 24 = .ok (.ishl, 1) := by decide +kernel
theorem dX3_readFeatures_25 : decode cX3_readFeatures 25 = .ok (.ior, 1) := by decide +kernel
theorem dX3_readFeatures_26 : decode cX3_readFeatures 26 = .ok (.istore_n 1, 1) := by decide +kernel
theorem dX3_readFeatures_27 : decode cX3_readFeatures 27 = .ok (.aload_n 0, 1) := by decide +kernel
theorem dX3_readFeatures_28 : decode cX3_readFeatures 28 = .ok (.dup, 1) := by decide +kernel
theorem dX3_readFeatures_29 : decode cX3_readFeatures 29 = .ok (.getfield 19, 3) := by decide +kernel
theorem dX3_readFeatures_32 : decode cX3_readFeatures 32 = .ok (.iconst 1, 1) := by decide +kernel
theorem dX3_readFeatures_33 : decode cX3_readFeatures 33 = .ok (.iadd, 1) := by decide +kernel
theorem dX3_readFeatures_34 : decode cX3_readFeatures 34 = .ok (.putfield 19, 3) := by decide +kernel
theorem dX3_readFeatures_37 : decode cX3_readFeatures 37 = .ok (.iinc 2 1, 3) := by decide +kernel
theorem dX3_readFeatures_40 : decode cX3_readFeatures 40 = .ok (.goto (-36), 3) := by decide +kernel
theorem dX3_readFeatures_43 : decode cX3_readFeatures 43 = .ok (.iload_n 1, 1) := by decide +kernel
theorem dX3_readFeatures_44 : decode cX3_readFeatures 44 = .ok (.ireturn, 1) := by decide +kernel
theorem dX3_readCell_0 : decode cX3_readCell 0 = .ok (.aload_n 0, 1) := by decide +kernel
theorem dX3_readCell_1 : decode cX3_readCell 1 = .ok (.iconst 0, 1) := by decide +kernel
theorem dX3_readCell_2 : decode cX3_readCell 2 = .ok (.aload_n 1, 1) := by decide +kernel
theorem dX3_readCell_3 : decode cX3_readCell 3 = .ok (.getfield 75, 3) := by decide +kernel
theorem dX3_readCell_6 : decode cX3_readCell 6 = .ok (.iconst 1, 1) := by decide +kernel
theorem dX3_readCell_7 : decode cX3_readCell 7 = .ok (.isub, 1) := by decide +kernel
theorem dX3_readCell_8 : decode cX3_readCell 8 = .ok (.invokevirtual 37, 3) := by decide +kernel
theorem dX3_readCell_11 : decode cX3_readCell 11 = .ok (.istore_n 2, 1) := by decide +kernel
theorem dX3_readCell_12 : decode cX3_readCell 12 = .ok (.iload_n 2, 1) := by decide +kernel
theorem dX3_readCell_13 : decode cX3_readCell 13 = .ok (.bipush (-4), 2) := by decide +kernel
theorem dX3_readCell_15 : decode cX3_readCell 15 = .ok (.if_icmp .ne 6, 3) := by decide +kernel
theorem dX3_readCell_18 : decode cX3_readCell 18 = .ok (.bipush (-4), 2) := by decide +kernel
theorem dX3_readCell_20 : decode cX3_readCell 20 = .ok (.ireturn, 1) := by decide +kernel
theorem dX3_readCell_21 : decode cX3_readCell 21 = .ok (.aload_n 0, 1) := by decide +kernel
theorem dX3_readCell_22 : decode cX3_readCell 22 = .ok (.iconst 0, 1) := by decide +kernel
theorem dX3_readCell_23 : decode cX3_readCell 23 = .ok (.aload_n 1, 1) := by decide +kernel
theorem dX3_readCell_24 : decode cX3_readCell 24 = .ok (.getfield 78, 3) := by decide +kernel
theorem dX3_readCell_27 : decode cX3_readCell 27 = .ok (.iconst 1, 1) := by decide +kernel
theorem dX3_readCell_28 : decode cX3_readCell 28 = .ok (.isub, 1) := by decide +kernel
theorem dX3_readCell_29 : decode cX3_readCell 29 = .ok (.invokevirtual 37, 3) := by decide +kernel
theorem dX3_readCell_32 : decode cX3_readCell 32 = .ok (.istore_n 3, 1) := by decide +kernel
theorem dX3_readCell_33 : decode cX3_readCell 33 = .ok (.iload_n 3, 1) := by decide +kernel
theorem dX3_readCell_34 : decode cX3_readCell 34 = .ok (.bipush (-4), 2) := by decide +kernel
theorem dX3_readCell_36 : decode cX3_readCell 36 = .ok (.if_icmp .ne 8, 3) := by decide +kernel
theorem dX3_readCell_39 : decode cX3_readCell 39 = .ok (.bipush (-4), 2) := by decide +kernel
theorem dX3_readCell_41 : decode cX3_readCell 41 = .ok (.goto 11, 3) := by decide +kernel
theorem dX3_readCell_44 : decode cX3_readCell 44 = .ok (.iload_n 2, 1) := by decide +kernel
theorem dX3_readCell_45 : decode cX3_readCell 45 = .ok (.aload_n 1, 1) := by decide +kernel
theorem dX3_readCell_46 : decode cX3_readCell 46 = .ok (.getfield 78, 3) := by decide +kernel
theorem dX3_readCell_49 : decode cX3_readCell 49 = .ok (.imul, 1) := by decide +kernel
theorem dX3_readCell_50 : decode cX3_readCell 50 = .ok (.iload_n 3, 1) := by decide +kernel
theorem dX3_readCell_51 : decode cX3_readCell 51 = .ok (.iadd, 1) := by decide +kernel
theorem dX3_readCell_52 : decode cX3_readCell 52 = .ok (.ireturn, 1) := by decide +kernel
theorem dX3_readDigit_0 : decode cX3_readDigit 0 = .ok (.aload_n 0, 1) := by decide +kernel
theorem dX3_readDigit_1 : decode cX3_readDigit 1 = .ok (.invokevirtual 33, 3) := by decide +kernel
theorem dX3_readDigit_4 : decode cX3_readDigit 4 = .ok (.bipush 48, 2) := by decide +kernel
theorem dX3_readDigit_6 : decode cX3_readDigit 6 = .ok (.isub, 1) := by decide +kernel
theorem dX3_readDigit_7 : decode cX3_readDigit 7 = .ok (.istore_n 3, 1) := by decide +kernel
theorem dX3_readDigit_8 : decode cX3_readDigit 8 = .ok (.iload_n 3, 1) := by decide +kernel
theorem dX3_readDigit_9 : decode cX3_readDigit 9 = .ok (.iload_n 1, 1) := by decide +kernel
theorem dX3_readDigit_10 : decode cX3_readDigit 10 = .ok (.if_icmp .lt 8, 3) := by decide +kernel
theorem dX3_readDigit_13 : decode cX3_readDigit 13 = .ok (.iload_n 3, 1) := by decide +kernel
theorem dX3_readDigit_14 : decode cX3_readDigit 14 = .ok (.iload_n 2, 1) := by decide +kernel
theorem dX3_readDigit_15 : decode cX3_readDigit 15 = .ok (.if_icmp .le 6, 3) := by decide +kernel
theorem dX3_readDigit_18 : decode cX3_readDigit 18 = .ok (.bipush (-4), 2) := by decide +kernel
theorem dX3_readDigit_20 : decode cX3_readDigit 20 = .ok (.ireturn, 1) := by decide +kernel
theorem dX3_readDigit_21 : decode cX3_readDigit 21 = .ok (.aload_n 0, 1) := by decide +kernel
theorem dX3_readDigit_22 : decode cX3_readDigit 22 = .ok (.dup, 1) := by decide +kernel
theorem dX3_readDigit_23 : decode cX3_readDigit 23 = .ok (.getfield 19, 3) := by decide +kernel
theorem dX3_readDigit_26 : decode cX3_readDigit 26 = .ok (.iconst 1, 1) := by decide +kernel
theorem dX3_readDigit_27 : decode cX3_readDigit 27 = .ok (.iadd, 1) := by decide +kernel
theorem dX3_readDigit_28 : decode cX3_readDigit 28 = .ok (.putfield 19, 3) := by decide +kernel
theorem dX3_readDigit_31 : decode cX3_readDigit 31 = .ok (.iload_n 3, 1) := by decide +kernel
theorem dX3_readDigit_32 : decode cX3_readDigit 32 = .ok (.ireturn, 1) := by decide +kernel
theorem dX3_readSign_0 : decode cX3_readSign 0 = .ok (.aload_n 0, 1) := by decide +kernel
theorem dX3_readSign_1 : decode cX3_readSign 1 = .ok (.invokevirtual 33, 3) := by decide +kernel
theorem dX3_readSign_4 : decode cX3_readSign 4 = .ok (.iload_n 1, 1) := by decide +kernel
theorem dX3_readSign_5 : decode cX3_readSign 5 = .ok (.if_icmp .eq 5, 3) := by decide +kernel
theorem dX3_readSign_8 : decode cX3_readSign 8 = .ok (.iconst 0, 1) := by decide +kernel
theorem dX3_readSign_9 : decode cX3_readSign 9 = .ok (.ireturn, 1) := by decide +kernel
theorem dX3_readSign_10 : decode cX3_readSign 10 = .ok (.aload_n 0, 1) := by decide +kernel
theorem dX3_readSign_11 : decode cX3_readSign 11 = .ok (.dup, 1) := by decide +kernel
theorem dX3_readSign_12 : decode cX3_readSign 12 = .ok (.getfield 19, 3) := by decide +kernel
theorem dX3_readSign_15 : decode cX3_readSign 15 = .ok (.iconst 1, 1) := by decide +kernel
theorem dX3_readSign_16 : decode cX3_readSign 16 = .ok (.iadd, 1) := by decide +kernel
theorem dX3_readSign_17 : decode cX3_readSign 17 = .ok (.putfield 19, 3) := by decide +kernel
theorem dX3_readSign_20 : decode cX3_readSign 20 = .ok (.iconst 1, 1) := by decide +kernel
theorem dX3_readSign_21 : decode cX3_readSign 21 = .ok (.ireturn, 1) := by decide +kernel
theorem dX3_peek_0 : decode cX3_peek 0 = .ok (.aload_n 0, 1) := by decide +kernel
theorem dX3_peek_1 : decode cX3_peek 1 = .ok (.getfield 19, 3) := by decide +kernel
theorem dX3_peek_4 : decode cX3_peek 4 = .ok (.aload_n 0, 1) := by decide +kernel
theorem dX3_peek_5 : decode cX3_peek 5 = .ok (.getfield 15, 3) := by decide +kernel
theorem dX3_peek_8 : decode cX3_peek 8 = .ok (.if_icmp .ge 39, 3) := by decide +kernel
theorem dX3_peek_11 : decode cX3_peek 11 = .ok (.aload_n 0, 1) := by decide +kernel
theorem dX3_peek_12 : decode cX3_peek 12 = .ok (.getfield 19, 3) := by decide +kernel
theorem dX3_peek_15 : decode cX3_peek 15 = .ok (.bipush 90, 2) := by decide +kernel
theorem dX3_peek_17 : decode cX3_peek 17 = .ok (.if_icmp .ge 30, 3) := by decide +kernel
theorem dX3_peek_20 : decode cX3_peek 20 = .ok (.aload_n 0, 1) := by decide +kernel
theorem dX3_peek_21 : decode cX3_peek 21 = .ok (.getfield 9, 3) := by decide +kernel
theorem dX3_peek_24 : decode cX3_peek 24 = .ok (.aload_n 0, 1) := by decide +kernel
theorem dX3_peek_25 : decode cX3_peek 25 = .ok (.getfield 19, 3) := by decide +kernel
theorem dX3_peek_28 : decode cX3_peek 28 = .ok (.caload, 1) := by decide +kernel
theorem dX3_peek_29 : decode cX3_peek 29 = .ok (.bipush 32, 2) := by decide +kernel
theorem dX3_peek_31 : decode cX3_peek 31 = .ok (.if_icmp .ne 16, 3) := by decide +kernel
theorem dX3_peek_34 : decode cX3_peek 34 = .ok (.aload_n 0, 1) := by decide +kernel
theorem dX3_peek_35 : decode cX3_peek 35 = .ok (.dup, 1) := by decide +kernel
theorem dX3_peek_36 : decode cX3_peek 36 = .ok (.getfield 19, 3) := by decide +kernel
theorem dX3_peek_39 : decode cX3_peek 39 = .ok (.iconst 1, 1) := by decide +kernel
theorem dX3_peek_40 : decode cX3_peek 40 = .ok (.iadd, 1) := by decide +kernel
theorem dX3_peek_41 : decode cX3_peek 41 = .ok (.putfield 19, 3) := by decide +kernel
theorem dX3_peek_44 : decode cX3_peek 44 = .ok (.goto (-44), 3) := by decide +kernel
theorem dX3_peek_47 : decode cX3_peek 47 = .ok (.aload_n 0, 1) := by decide +kernel
theorem dX3_peek_48 : decode cX3_peek 48 = .ok (.getfield 19, 3) := by decide +kernel
theorem dX3_peek_51 : decode cX3_peek 51 = .ok (.aload_n 0, 1) := by decide +kernel
theorem dX3_peek_52 : decode cX3_peek 52 = .ok (.getfield 15, 3) := by decide +kernel
theorem dX3_peek_55 : decode cX3_peek 55 = .ok (.if_icmp .ge 24, 3) := by decide +kernel
theorem dX3_peek_58 : decode cX3_peek 58 = .ok (.aload_n 0, 1) := by decide +kernel
theorem dX3_peek_59 : decode cX3_peek 59 = .ok (.getfield 19, 3) := by decide +kernel
theorem dX3_peek_62 : decode cX3_peek 62 = .ok (.bipush 90, 2) := by decide +kernel
theorem dX3_peek_64 : decode cX3_peek 64 = .ok (.if_icmp .ge 15, 3) := by decide +kernel
theorem dX3_peek_67 : decode cX3_peek 67 = .ok (.aload_n 0, 1) := by decide +kernel
theorem dX3_peek_68 : decode cX3_peek 68 = .ok (.getfield 9, 3) := by decide +kernel
theorem dX3_peek_71 : decode cX3_peek 71 = .ok (.aload_n 0, 1) := by decide +kernel
theorem dX3_peek_72 : decode cX3_peek 72 = .ok (.getfield 19, 3) := by decide +kernel
theorem dX3_peek_75 : decode cX3_peek 75 = .ok (.caload, 1) := by decide +kernel
theorem dX3_peek_76 : decode cX3_peek 76 = .ok (.goto 4, 3) := by decide +kernel
theorem dX3_peek_79 : decode cX3_peek 79 = .ok (.iconst 0, 1) := by decide +kernel
theorem dX3_peek_80 : decode cX3_peek 80 = .ok (.ireturn, 1) := by decide +kernel
theorem dX4_init_0 : decode cX4_init 0 = .ok (.aload_n 0, 1) := by decide +kernel
theorem dX4_init_1 : decode cX4_init 1 = .ok (.invokespecial 1, 3) := by decide +kernel
theorem dX4_init_4 : decode cX4_init 4 = .ok (.aload_n 0, 1) := by decide +kernel
theorem dX4_init_5 : decode cX4_init 5 = .ok (.new 7, 3) := by decide +kernel
theorem dX4_init_8 : decode cX4_init 8 = .ok (.dup, 1) := by decide +kernel
theorem dX4_init_9 : decode cX4_init 9 = .ok (.invokespecial 9, 3) := by decide +kernel
theorem dX4_init_12 : decode cX4_init 12 = .ok (.putfield 10, 3) := by decide +kernel
theorem dX4_init_15 : decode cX4_init 15 = .ok (.aload_n 0, 1) := by decide +kernel
theorem dX4_init_16 : decode cX4_init 16 = .ok (.new 16, 3) := by decide +kernel
theorem dX4_init_19 : decode cX4_init 19 = .ok (.dup, 1) := by decide +kernel
theorem dX4_init_20 : decode cX4_init 20 = .ok (.invokespecial 18, 3) := by decide +kernel
theorem dX4_init_23 : decode cX4_init 23 = .ok (.putfield 19, 3) := by decide +kernel
theorem dX4_init_26 : decode cX4_init 26 = .ok (.aload_n 0, 1) := by decide +kernel
theorem dX4_init_27 : decode cX4_init 27 = .ok (.new 7, 3) := by decide +kernel
theorem dX4_init_30 : decode cX4_init 30 = .ok (.dup, 1) := by decide +kernel
theorem dX4_init_31 : decode cX4_init 31 = .ok (.invokespecial 9, 3) := by decide +kernel
theorem dX4_init_34 : decode cX4_init 34 = .ok (.putfield 23, 3) := by decide +kernel
theorem dX4_init_37 : decode cX4_init 37 = .ok (.aload_n 0, 1) := by decide +kernel
theorem dX4_init_38 : decode cX4_init 38 = .ok (.new 7, 3) := by decide +kernel
theorem dX4_init_41 : decode cX4_init 41 = .ok (.dup, 1) := by decide +kernel
theorem dX4_init_42 : decode cX4_init 42 = .ok (.invokespecial 9, 3) := by decide +kernel
theorem dX4_init_45 : decode cX4_init 45 = .ok (.putfield 26, 3) := by decide +kernel
theorem dX4_init_48 : decode cX4_init 48 = .ok (.aload_n 0, 1) := by decide +kernel
theorem dX4_init_49 : decode cX4_init 49 = .ok (.new 16, 3) := by decide +kernel
theorem dX4_init_52 : decode cX4_init 52 = .ok (.dup, 1) := by decide +kernel
theorem dX4_init_53 : decode cX4_init 53 = .ok (.invokespecial 18, 3) := by decide +kernel
theorem dX4_init_56 : decode cX4_init 56 = .ok (.putfield 29, 3) := by decide +kernel
theorem dX4_init_59 : decode cX4_init 59 = .ok (.aload_n 0, 1) := by decide +kernel
theorem dX4_init_60 : decode cX4_init 60 = .ok (.new 32, 3) := by decide +kernel
theorem dX4_init_63 : decode cX4_init 63 = .ok (.dup, 1) := by decide +kernel
theorem dX4_init_64 : decode cX4_init 64 = .ok (.invokespecial 34, 3) := by decide +kernel
theorem dX4_init_67 : decode cX4_init 67 = .ok (.putfield 35, 3) := by decide +kernel
theorem dX4_init_70 : decode cX4_init 70 = .ok (.aload_n 0, 1) := by decide +kernel
theorem dX4_init_71 : decode cX4_init 71 = .ok (.iconst 4, 1) := by decide +kernel
theorem dX4_init_72 : decode cX4_init 72 = .ok (.anewarray 39, 3) := by decide +kernel
theorem dX4_init_75 : decode cX4_init 75 = .ok (.putfield 41, 3) := by decide +kernel
theorem dX4_init_78 : decode cX4_init 78 = .ok (.iconst 0, 1) := by decide +kernel
theorem dX4_init_79 : decode cX4_init 79 = .ok (.istore_n 1, 1) := by decide +kernel
theorem dX4_init_80 : decode cX4_init 80 = .ok (.iload_n 1, 1) := by decide +kernel
theorem dX4_init_81 : decode cX4_init 81 = .ok (.iconst 4, 1) := by decide +kernel
theorem dX4_init_82 : decode cX4_init 82 = .ok (.if_icmp .ge 22, 3) := by decide +kernel
theorem dX4_init_85 : decode cX4_init 85 = .ok (.aload_n 0, 1) := by decide +kernel
theorem dX4_init_86 : decode cX4_init 86 = .ok (.getfield 41, 3) := by decide +kernel
theorem dX4_init_89 : decode cX4_init 89 = .ok (.iload_n 1, 1) := by decide +kernel
theorem dX4_init_90 : decode cX4_init 90 = .ok (.new 39, 3) := by decide +kernel
theorem dX4_init_93 : decode cX4_init 93 = .ok (.dup, 1) := by decide +kernel
theorem dX4_init_94 : decode cX4_init 94 = .ok (.invokespecial 45, 3) := by decide +kernel
theorem dX4_init_97 : decode cX4_init 97 = .ok (.aastore, 1) := by decide +kernel
theorem dX4_init_98 : decode cX4_init 98 = .ok (.iinc 1 1, 3) := by decide +kernel
theorem dX4_init_101 : decode cX4_init 101 = .ok (.goto (-21), 3) := by decide +kernel
theorem dX4_init_104 : decode cX4_init 104 = .ok (.return_, 1) := by decide +kernel
theorem dX4_streets_0 : decode cX4_streets 0 = .ok (.iload_n 1, 1) := by decide +kernel
theorem dX4_streets_1 : decode cX4_streets 1 = .ok (.iconst 2, 1) := by decide +kernel
theorem dX4_streets_2 : decode cX4_streets 2 = .ok (.bipush 6, 2) := by decide +kernel
theorem dX4_streets_4 : decode cX4_streets 4 = .ok (.invokestatic 46, 3) := by decide +kernel
theorem dX4_streets_7 : decode cX4_streets 7 = .ok (.ifCond .ne 13, 3) := by decide +kernel
theorem dX4_streets_10 : decode cX4_streets 10 = .ok (.iload_n 2, 1) := by decide +kernel
theorem dX4_streets_11 : decode cX4_streets 11 = .ok (.iconst 2, 1) := by decide +kernel
theorem dX4_streets_12 : decode cX4_streets 12 = .ok (.bipush 6, 2) := by decide +kernel
theorem dX4_streets_14 : decode cX4_streets 14 = .ok (.invokestatic 46, 3) := by decide +kernel
theorem dX4_streets_17 : decode cX4_streets 17 = .ok (.ifCond .eq 5, 3) := by decide +kernel
theorem dX4_streets_20 : decode cX4_streets 20 = .ok (.iconst (-1), 1) := by decide +kernel
theorem dX4_streets_21 : decode cX4_streets 21 = .ok (.ireturn, 1) := by decide +kernel
theorem dX4_streets_22 : decode cX4_streets 22 = .ok (.aload_n 0, 1) := by decide +kernel
theorem dX4_streets_23 : decode cX4_streets 23 = .ok (.getfield 10, 3) := by decide +kernel
theorem dX4_streets_26 : decode cX4_streets 26 = .ok (.iload_n 1, 1) := by decide +kernel
theorem dX4_streets_27 : decode cX4_streets 27 = .ok (.iload_n 2, 1) := by decide +kernel
theorem dX4_streets_28 : decode cX4_streets 28 = .ok (.invokevirtual 50, 3) := by decide +kernel
theorem dX4_streets_31 : decode cX4_streets 31 = .ok (.aload_n 0, 1) := by decide +kernel
theorem dX4_streets_32 : decode cX4_streets 32 = .ok (.getfield 19, 3) := by decide +kernel
theorem dX4_streets_35 : decode cX4_streets 35 = .ok (.invokevirtual 54, 3) := by decide +kernel
theorem dX4_streets_38 : decode cX4_streets 38 = .ok (.aload_n 0, 1) := by decide +kernel
theorem dX4_streets_39 : decode cX4_streets 39 = .ok (.getfield 10, 3) := by decide +kernel
theorem dX4_streets_42 : decode cX4_streets 42 = .ok (.invokevirtual 57, 3) := by decide +kernel
theorem dX4_streets_45 : decode cX4_streets 45 = .ok (.ireturn, 1) := by decide +kernel
theorem dX4_person_0 : decode cX4_person 0 = .ok (.iload_n 1, 1) := by decide +kernel
theorem dX4_person_1 : decode cX4_person 1 = .ok (.iconst 0, 1) := by decide +kernel
theorem dX4_person_2 : decode cX4_person 2 = .ok (.iconst 4, 1) := by decide +kernel
theorem dX4_person_3 : decode cX4_person 3 = .ok (.invokestatic 46, 3) := by decide +kernel
theorem dX4_person_6 : decode cX4_person 6 = .ok (.ifCond .ne 41, 3) := by decide +kernel
theorem dX4_person_9 : decode cX4_person 9 = .ok (.iload_n 2, 1) := by decide +kernel
theorem dX4_person_10 : decode cX4_person 10 = .ok (.iconst 0, 1) := by decide +kernel
theorem dX4_person_11 : decode cX4_person 11 = .ok (.aload_n 0, 1) := by decide +kernel
theorem dX4_person_12 : decode cX4_person 12 = .ok (.getfield 10, 3) := by decide +kernel
theorem dX4_person_15 : decode cX4_person 15 = .ok (.invokevirtual 57, 3) := by decide +kernel
theorem dX4_person_18 : decode cX4_person 18 = .ok (.iconst 1, 1) := by decide +kernel
theorem dX4_person_19 : decode cX4_person 19 = .ok (.isub, 1) := by decide +kernel
theorem dX4_person_20 : decode cX4_person 20 = .ok (.invokestatic 46, 3) := by decide +kernel
theorem dX4_person_23 : decode cX4_person 23 = .ok (.ifCond .ne 24, 3) := by decide +kernel
theorem dX4_person_26 : decode cX4_person 26 = .ok (.iload_n 3, 1) := by decide +kernel
theorem dX4_person_27 : decode cX4_person 27 = .ok (.iconst 0, 1) := by decide +kernel
theorem dX4_person_28 : decode cX4_person 28 = .ok (.bipush 9, 2) := by decide +kernel
theorem dX4_person_30 : decode cX4_person 30 = .ok (.invokestatic 46, 3) := by decide +kernel
theorem dX4_person_33 : decode cX4_person 33 = .ok (.ifCond .ne 14, 3) := by decide +kernel
theorem dX4_person_36 : decode cX4_person 36 = .ok (.iload 4, 2) := by decide +kernel
theorem dX4_person_38 : decode cX4_person 38 = .ok (.iconst 0, 1) := by decide +kernel
theorem dX4_person_39 : decode cX4_person 39 = .ok (.bipush 63, 2) := by decide +kernel
theorem dX4_person_41 : decode cX4_person 41 = .ok (.invokestatic 46, 3) := by decide +kernel
theorem dX4_person_44 : decode cX4_person 44 = .ok (.ifCond .eq 5, 3) := by decide +kernel
theorem dX4_person_47 : decode cX4_person 47 = .ok (.iconst (-1), 1) := by decide +kernel
theorem dX4_person_48 : decode cX4_person 48 = .ok (.ireturn, 1) := by decide +kernel
theorem dX4_person_49 : decode cX4_person 49 = .ok (.aload_n 0, 1) := by decide +kernel
theorem dX4_person_50 : decode cX4_person 50 = .ok (.getfield 10, 3) := by decide +kernel
theorem dX4_person_53 : decode cX4_person 53 = .ok (.getfield 61, 3) := by decide +kernel
theorem dX4_person_56 : decode cX4_person 56 = .ok (.bipush 6, 2) := by decide +kernel
theorem dX4_person_58 : decode cX4_person 58 = .ok (.if_icmp .lt 6, 3) := by decide +kernel
theorem dX4_person_61 : decode cX4_person 61 = .ok (.bipush (-3), 2) := by decide +kernel
theorem dX4_person_63 : decode cX4_person 63 = .ok (.ireturn, 1) := by decide +kernel
theorem dX4_person_64 : decode cX4_person 64 = .ok (.aload_n 0, 1) := by decide +kernel
theorem dX4_person_65 : decode cX4_person 65 = .ok (.getfield 19, 3) := by decide +kernel
theorem dX4_person_68 : decode cX4_person 68 = .ok (.invokevirtual 54, 3) := by decide +kernel
theorem dX4_person_71 : decode cX4_person 71 = .ok (.aload_n 0, 1) := by decide +kernel
theorem dX4_person_72 : decode cX4_person 72 = .ok (.getfield 10, 3) := by decide +kernel
theorem dX4_person_75 : decode cX4_person 75 = .ok (.iload_n 1, 1) := by decide +kernel
theorem dX4_person_76 : decode cX4_person 76 = .ok (.iload_n 2, 1) := by decide +kernel
theorem dX4_person_77 : decode cX4_person 77 = .ok (.iload_n 3, 1) := by decide +kernel
theorem dX4_person_78 : decode cX4_person 78 = .ok (.iload 4, 2) := by decide +kernel
theorem dX4_person_80 : decode cX4_person 80 = .ok (.invokevirtual 65, 3) := by decide +kernel
theorem dX4_person_83 : decode cX4_person 83 = .ok (.ireturn, 1) := by decide +kernel
theorem dX4_of_0 : decode cX4_of 0 = .ok (.aload_n 0, 1) := by decide +kernel
theorem dX4_of_1 : decode cX4_of 1 = .ok (.iload_n 1, 1) := by decide +kernel
theorem dX4_of_2 : decode cX4_of 2 = .ok (.invokevirtual 69, 3) := by decide +kernel
theorem dX4_of_5 : decode cX4_of 5 = .ok (.ifCond .eq 5, 3) := by decide +kernel
theorem dX4_of_8 : decode cX4_of 8 = .ok (.iconst (-1), 1) := by decide +kernel
theorem dX4_of_9 : decode cX4_of 9 = .ok (.ireturn, 1) := by decide +kernel
theorem dX4_of_10 : decode cX4_of 10 = .ok (.iload_n 2, 1) := by decide +kernel
theorem dX4_of_11 : decode cX4_of 11 = .ok (.tableswitch 150 0 8 #[49, 59, 69, 79, 89, 99, 116, 125, 134], 49) := by decide +kernel
theorem dX4_of_60 : decode cX4_of 60 = .ok (.aload_n 0, 1) := by decide +kernel
theorem dX4_of_61 : decode cX4_of 61 = .ok (.getfield 10, 3) := by decide +kernel
theorem dX4_of_64 : decode cX4_of 64 = .ok (.getfield 73, 3) := by decide +kernel
theorem dX4_of_67 : decode cX4_of 67 = .ok (.iload_n 1, 1) := by decide +kernel
theorem dX4_of_68 : decode cX4_of 68 = .ok (.iaload, 1) := by decide +kernel
theorem dX4_of_69 : decode cX4_of 69 = .ok (.ireturn, 1) := by decide +kernel
theorem dX4_of_70 : decode cX4_of 70 = .ok (.aload_n 0, 1) := by decide +kernel
theorem dX4_of_71 : decode cX4_of 71 = .ok (.getfield 10, 3) := by decide +kernel
theorem dX4_of_74 : decode cX4_of 74 = .ok (.getfield 77, 3) := by decide +kernel
theorem dX4_of_77 : decode cX4_of 77 = .ok (.iload_n 1, 1) := by decide +kernel
theorem dX4_of_78 : decode cX4_of 78 = .ok (.iaload, 1) := by decide +kernel
theorem dX4_of_79 : decode cX4_of 79 = .ok (.ireturn, 1) := by decide +kernel
theorem dX4_of_80 : decode cX4_of 80 = .ok (.aload_n 0, 1) := by decide +kernel
theorem dX4_of_81 : decode cX4_of 81 = .ok (.getfield 10, 3) := by decide +kernel
theorem dX4_of_84 : decode cX4_of 84 = .ok (.getfield 80, 3) := by decide +kernel
theorem dX4_of_87 : decode cX4_of 87 = .ok (.iload_n 1, 1) := by decide +kernel
theorem dX4_of_88 : decode cX4_of 88 = .ok (.iaload, 1) := by decide +kernel
theorem dX4_of_89 : decode cX4_of 89 = .ok (.ireturn, 1) := by decide +kernel
theorem dX4_of_90 : decode cX4_of 90 = .ok (.aload_n 0, 1) := by decide +kernel
theorem dX4_of_91 : decode cX4_of 91 = .ok (.getfield 10, 3) := by decide +kernel
theorem dX4_of_94 : decode cX4_of 94 = .ok (.getfield 83, 3) := by decide +kernel
theorem dX4_of_97 : decode cX4_of 97 = .ok (.iload_n 1, 1) := by decide +kernel
theorem dX4_of_98 : decode cX4_of 98 = .ok (.iaload, 1) := by decide +kernel
theorem dX4_of_99 : decode cX4_of 99 = .ok (.ireturn, 1) := by decide +kernel
theorem dX4_of_100 : decode cX4_of 100 = .ok (.aload_n 0, 1) := by decide +kernel
theorem dX4_of_101 : decode cX4_of 101 = .ok (.getfield 10, 3) := by decide +kernel
theorem dX4_of_104 : decode cX4_of 104 = .ok (.getfield 86, 3) := by decide +kernel
theorem dX4_of_107 : decode cX4_of 107 = .ok (.iload_n 1, 1) := by decide +kernel
theorem dX4_of_108 : decode cX4_of 108 = .ok (.iaload, 1) := by decide +kernel
theorem dX4_of_109 : decode cX4_of 109 = .ok (.ireturn, 1) := by decide +kernel
theorem dX4_of_110 : decode cX4_of 110 = .ok (.aload_n 0, 1) := by decide +kernel
theorem dX4_of_111 : decode cX4_of 111 = .ok (.getfield 10, 3) := by decide +kernel
theorem dX4_of_114 : decode cX4_of 114 = .ok (.iload_n 1, 1) := by decide +kernel
theorem dX4_of_115 : decode cX4_of 115 = .ok (.invokevirtual 89, 3) := by decide +kernel
theorem dX4_of_118 : decode cX4_of 118 = .ok (.ifCond .eq 7, 3) := by decide +kernel
theorem dX4_of_121 : decode cX4_of 121 = .ok (.iconst 0, 1) := by decide +kernel
theorem dX4_of_122 : decode cX4_of 122 = .ok (.goto 4, 3) := by decide +kernel
theorem dX4_of_125 : decode cX4_of 125 = .ok (.iconst 1, 1) := by decide +kernel
theorem dX4_of_126 : decode cX4_of 126 = .ok (.ireturn, 1) := by decide +kernel
theorem dX4_of_127 : decode cX4_of 127 = .ok (.aload_n 0, 1) := by decide +kernel
theorem dX4_of_128 : decode cX4_of 128 = .ok (.getfield 10, 3) := by decide +kernel
theorem dX4_of_131 : decode cX4_of 131 = .ok (.iload_n 1, 1) := by decide +kernel
theorem dX4_of_132 : decode cX4_of 132 = .ok (.invokevirtual 92, 3) := by decide +kernel
theorem dX4_of_135 : decode cX4_of 135 = .ok (.ireturn, 1) := by decide +kernel
theorem dX4_of_136 : decode cX4_of 136 = .ok (.aload_n 0, 1) := by decide +kernel
theorem dX4_of_137 : decode cX4_of 137 = .ok (.getfield 10, 3) := by decide +kernel
theorem dX4_of_140 : decode cX4_of 140 = .ok (.iload_n 1, 1) := by decide +kernel
theorem dX4_of_141 : decode cX4_of 141 = .ok (.invokevirtual 96, 3) := by decide +kernel
theorem dX4_of_144 : decode cX4_of 144 = .ok (.ireturn, 1) := by decide +kernel
theorem dX4_of_145 : decode cX4_of 145 = .ok (.aload_n 0, 1) := by decide +kernel
theorem dX4_of_146 : decode cX4_of 146 = .ok (.getfield 10, 3) := by decide +kernel
theorem dX4_of_149 : decode cX4_of 149 = .ok (.aload_n 0, 1) := by decide +kernel
theorem dX4_of_150 : decode cX4_of 150 = .ok (.getfield 10, 3) := by decide +kernel
theorem dX4_of_153 : decode cX4_of 153 = .ok (.iload_n 1, 1) := by decide +kernel
theorem dX4_of_154 : decode cX4_of 154 = .ok (.invokevirtual 99, 3) := by decide +kernel
theorem dX4_of_157 : decode cX4_of 157 = .ok (.invokevirtual 102, 3) := by decide +kernel
theorem dX4_of_160 : decode cX4_of 160 = .ok (.ireturn, 1) := by decide +kernel
theorem dX4_of_161 : decode cX4_of 161 = .ok (.iconst (-1), 1) := by decide +kernel
theorem dX4_of_162 : decode cX4_of 162 = .ok (.ireturn, 1) := by decide +kernel
theorem dX4_rule_0 : decode cX4_rule 0 = .ok (.aload_n 0, 1) := by decide +kernel
theorem dX4_rule_1 : decode cX4_rule 1 = .ok (.iload_n 1, 1) := by decide +kernel
theorem dX4_rule_2 : decode cX4_rule 2 = .ok (.invokevirtual 69, 3) := by decide +kernel
theorem dX4_rule_5 : decode cX4_rule 5 = .ok (.ifCond .eq 5, 3) := by decide +kernel
theorem dX4_rule_8 : decode cX4_rule 8 = .ok (.iconst (-1), 1) := by decide +kernel
theorem dX4_rule_9 : decode cX4_rule 9 = .ok (.ireturn, 1) := by decide +kernel
theorem dX4_rule_10 : decode cX4_rule 10 = .ok (.iload_n 2, 1) := by decide +kernel
theorem dX4_rule_11 : decode cX4_rule 11 = .ok (.ifCond .ne 37, 3) := by decide +kernel
theorem dX4_rule_14 : decode cX4_rule 14 = .ok (.iload_n 3, 1) := by decide +kernel
theorem dX4_rule_15 : decode cX4_rule 15 = .ok (.iconst 0, 1) := by decide +kernel
theorem dX4_rule_16 : decode cX4_rule 16 = .ok (.bipush 9, 2) := by decide +kernel
theorem dX4_rule_18 : decode cX4_rule 18 = .ok (.invokestatic 46, 3) := by decide +kernel
theorem dX4_rule_21 : decode cX4_rule 21 = .ok (.ifCond .ne 27, 3) := by decide +kernel
theorem dX4_rule_24 : decode cX4_rule 24 = .ok (.aload_n 0, 1) := by decide +kernel
theorem dX4_rule_25 : decode cX4_rule 25 = .ok (.getfield 10, 3) := by decide +kernel
theorem dX4_rule_28 : decode cX4_rule 28 = .ok (.getfield 80, 3) := by decide +kernel
theorem dX4_rule_31 : decode cX4_rule 31 = .ok (.iload_n 1, 1) := by decide +kernel
theorem dX4_rule_32 : decode cX4_rule 32 = .ok (.iaload, 1) := by decide +kernel
theorem dX4_rule_33 : decode cX4_rule 33 = .ok (.istore 4, 2) := by decide +kernel
theorem dX4_rule_35 : decode cX4_rule 35 = .ok (.aload_n 0, 1) := by decide +kernel
theorem dX4_rule_36 : decode cX4_rule 36 = .ok (.getfield 10, 3) := by decide +kernel
theorem dX4_rule_39 : decode cX4_rule 39 = .ok (.getfield 80, 3) := by decide +kernel
theorem dX4_rule_42 : decode cX4_rule 42 = .ok (.iload_n 1, 1) := by decide +kernel
theorem dX4_rule_43 : decode cX4_rule 43 = .ok (.iload_n 3, 1) := by decide +kernel
theorem dX4_rule_44 : decode cX4_rule 44 = .ok (.iastore, 1) := by decide +kernel
theorem dX4_rule_45 : decode cX4_rule 45 = .ok (.iload 4, 2) := by decide +kernel
theorem dX4_rule_47 : decode cX4_rule 47 = .ok (.ireturn, 1) := by decide +kernel
theorem dX4_rule_48 : decode cX4_rule 48 = .ok (.iload_n 2, 1) := by decide +kernel
theorem dX4_rule_49 : decode cX4_rule 49 = .ok (.iconst 1, 1) := by decide +kernel
theorem dX4_rule_50 : decode cX4_rule 50 = .ok (.if_icmp .ne 37, 3) := by decide +kernel
theorem dX4_rule_53 : decode cX4_rule 53 = .ok (.iload_n 3, 1) := by decide +kernel
theorem dX4_rule_54 : decode cX4_rule 54 = .ok (.iconst 0, 1) := by decide +kernel
theorem dX4_rule_55 : decode cX4_rule 55 = .ok (.bipush 63, 2) := by decide +kernel
theorem dX4_rule_57 : decode cX4_rule 57 = .ok (.invokestatic 46, 3) := by decide +kernel
theorem dX4_rule_60 : decode cX4_rule 60 = .ok (.ifCond .ne 27, 3) := by decide +kernel
theorem dX4_rule_63 : decode cX4_rule 63 = .ok (.aload_n 0, 1) := by decide +kernel
theorem dX4_rule_64 : decode cX4_rule 64 = .ok (.getfield 10, 3) := by decide +kernel
theorem dX4_rule_67 : decode cX4_rule 67 = .ok (.getfield 86, 3) := by decide +kernel
theorem dX4_rule_70 : decode cX4_rule 70 = .ok (.iload_n 1, 1) := by decide +kernel
theorem dX4_rule_71 : decode cX4_rule 71 = .ok (.iaload, 1) := by decide +kernel
theorem dX4_rule_72 : decode cX4_rule 72 = .ok (.istore 4, 2) := by decide +kernel
theorem dX4_rule_74 : decode cX4_rule 74 = .ok (.aload_n 0, 1) := by decide +kernel
theorem dX4_rule_75 : decode cX4_rule 75 = .ok (.getfield 10, 3) := by decide +kernel
theorem dX4_rule_78 : decode cX4_rule 78 = .ok (.getfield 86, 3) := by decide +kernel
theorem dX4_rule_81 : decode cX4_rule 81 = .ok (.iload_n 1, 1) := by decide +kernel
theorem dX4_rule_82 : decode cX4_rule 82 = .ok (.iload_n 3, 1) := by decide +kernel
theorem dX4_rule_83 : decode cX4_rule 83 = .ok (.iastore, 1) := by decide +kernel
theorem dX4_rule_84 : decode cX4_rule 84 = .ok (.iload 4, 2) := by decide +kernel
theorem dX4_rule_86 : decode cX4_rule 86 = .ok (.ireturn, 1) := by decide +kernel
theorem dX4_rule_87 : decode cX4_rule 87 = .ok (.iconst (-1), 1) := by decide +kernel
theorem dX4_rule_88 : decode cX4_rule 88 = .ok (.ireturn, 1) := by decide +kernel
theorem dX4_type_0 : decode cX4_type 0 = .ok (.iload_n 1, 1) := by decide +kernel
theorem dX4_type_1 : decode cX4_type 1 = .ok (.bipush 32, 2) := by decide +kernel
theorem dX4_type_3 : decode cX4_type 3 = .ok (.bipush 126, 2) := by decide +kernel
theorem dX4_type_5 : decode cX4_type 5 = .ok (.invokestatic 46, 3) := by decide +kernel
theorem dX4_type_8 : decode cX4_type 8 = .ok (.ifCond .eq 5, 3) := by decide +kernel
theorem dX4_type_11 : decode cX4_type 11 = .ok (.iconst (-1), 1) := by decide +kernel
theorem dX4_type_12 : decode cX4_type 12 = .ok (.ireturn, 1) := by decide +kernel
theorem dX4_type_13 : decode cX4_type 13 = .ok (.aload_n 0, 1) := by decide +kernel
theorem dX4_type_14 : decode cX4_type 14 = .ok (.getfield 35, 3) := by decide +kernel
theorem dX4_type_17 : decode cX4_type 17 = .ok (.getfield 105, 3) := by decide +kernel
theorem dX4_type_20 : decode cX4_type 20 = .ok (.bipush 90, 2) := by decide +kernel
theorem dX4_type_22 : decode cX4_type 22 = .ok (.if_icmp .lt 6, 3) := by decide +kernel
theorem dX4_type_25 : decode cX4_type 25 = .ok (.bipush (-3), 2) := by decide +kernel
theorem dX4_type_27 : decode cX4_type 27 = .ok (.ireturn, 1) := by decide +kernel
theorem dX4_type_28 : decode cX4_type 28 = .ok (.aload_n 0, 1) := by decide +kernel
theorem dX4_type_29 : decode cX4_type 29 = .ok (.getfield 35, 3) := by decide +kernel
theorem dX4_type_32 : decode cX4_type 32 = .ok (.iload_n 1, 1) := by decide +kernel
theorem dX4_type_33 : decode cX4_type 33 = .ok (.invokevirtual 108, 3) := by decide +kernel
theorem dX4_type_36 : decode cX4_type 36 = .ok (.ireturn, 1) := by decide +kernel
theorem dX4_city_0 : decode cX4_city 0 = .ok (.aload_n 0, 1) := by decide +kernel
theorem dX4_city_1 : decode cX4_city 1 = .ok (.getfield 23, 3) := by decide +kernel
theorem dX4_city_4 : decode cX4_city 4 = .ok (.aload_n 0, 1) := by decide +kernel
theorem dX4_city_5 : decode cX4_city 5 = .ok (.getfield 10, 3) := by decide +kernel
theorem dX4_city_8 : decode cX4_city 8 = .ok (.invokevirtual 111, 3) := by decide +kernel
theorem dX4_city_11 : decode cX4_city 11 = .ok (.aload_n 0, 1) := by decide +kernel
theorem dX4_city_12 : decode cX4_city 12 = .ok (.getfield 35, 3) := by decide +kernel
theorem dX4_city_15 : decode cX4_city 15 = .ok (.aload_n 0, 1) := by decide +kernel
theorem dX4_city_16 : decode cX4_city 16 = .ok (.getfield 23, 3) := by decide +kernel
theorem dX4_city_19 : decode cX4_city 19 = .ok (.invokevirtual 115, 3) := by decide +kernel
theorem dX4_city_22 : decode cX4_city 22 = .ok (.istore_n 1, 1) := by decide +kernel
theorem dX4_city_23 : decode cX4_city 23 = .ok (.iload_n 1, 1) := by decide +kernel
theorem dX4_city_24 : decode cX4_city 24 = .ok (.ifCond .eq 13, 3) := by decide +kernel
theorem dX4_city_27 : decode cX4_city 27 = .ok (.aload_n 0, 1) := by decide +kernel
theorem dX4_city_28 : decode cX4_city 28 = .ok (.getfield 23, 3) := by decide +kernel
theorem dX4_city_31 : decode cX4_city 31 = .ok (.getfield 61, 3) := by decide +kernel
theorem dX4_city_34 : decode cX4_city 34 = .ok (.goto 13, 3) := by decide +kernel
theorem dX4_city_37 : decode cX4_city 37 = .ok (.bipush (-20), 2) := by decide +kernel
theorem dX4_city_39 : decode cX4_city 39 = .ok (.aload_n 0, 1) := by decide +kernel
theorem dX4_city_40 : decode cX4_city 40 = .ok (.getfield 35, 3) := by decide +kernel
theorem dX4_city_43 : decode cX4_city 43 = .ok (.getfield 119, 3) := by decide +kernel
theorem dX4_city_46 : decode cX4_city 46 = .ok (.isub, 1) := by decide +kernel
theorem dX4_city_47 : decode cX4_city 47 = .ok (.istore_n 2, 1) := by decide +kernel
theorem dX4_city_48 : decode cX4_city 48 = .ok (.aload_n 0, 1) := by decide +kernel
theorem dX4_city_49 : decode cX4_city 49 = .ok (.getfield 35, 3) := by decide +kernel
theorem dX4_city_52 : decode cX4_city 52 = .ok (.iconst 0, 1) := by decide +kernel
theorem dX4_city_53 : decode cX4_city 53 = .ok (.putfield 105, 3) := by decide +kernel
theorem dX4_city_56 : decode cX4_city 56 = .ok (.iload_n 1, 1) := by decide +kernel
theorem dX4_city_57 : decode cX4_city 57 = .ok (.ifCond .eq 21, 3) := by decide +kernel
theorem dX4_city_60 : decode cX4_city 60 = .ok (.aload_n 0, 1) := by decide +kernel
theorem dX4_city_61 : decode cX4_city 61 = .ok (.getfield 10, 3) := by decide +kernel
theorem dX4_city_64 : decode cX4_city 64 = .ok (.aload_n 0, 1) := by decide +kernel
theorem dX4_city_65 : decode cX4_city 65 = .ok (.getfield 23, 3) := by decide +kernel
theorem dX4_city_68 : decode cX4_city 68 = .ok (.invokevirtual 111, 3) := by decide +kernel
theorem dX4_city_71 : decode cX4_city 71 = .ok (.aload_n 0, 1) := by decide +kernel
theorem dX4_city_72 : decode cX4_city 72 = .ok (.getfield 19, 3) := by decide +kernel
theorem dX4_city_75 : decode cX4_city 75 = .ok (.invokevirtual 54, 3) := by decide +kernel
theorem dX4_city_78 : decode cX4_city 78 = .ok (.iload_n 2, 1) := by decide +kernel
theorem dX4_city_79 : decode cX4_city 79 = .ok (.ireturn, 1) := by decide +kernel
theorem dX4_count_0 : decode cX4_count 0 = .ok (.iload_n 1, 1) := by decide +kernel
theorem dX4_count_1 : decode cX4_count 1 = .ok (.tableswitch 135 0 9 #[55, 63, 71, 79, 87, 95, 103, 111, 119, 127], 55) := by decide +kernel
theorem dX4_count_56 : decode cX4_count 56 = .ok (.aload_n 0, 1) := by decide +kernel
theorem dX4_count_57 : decode cX4_count 57 = .ok (.getfield 10, 3) := by decide +kernel
theorem dX4_count_60 : decode cX4_count 60 = .ok (.getfield 122, 3) := by decide +kernel
theorem dX4_count_63 : decode cX4_count 63 = .ok (.ireturn, 1) := by decide +kernel
theorem dX4_count_64 : decode cX4_count 64 = .ok (.aload_n 0, 1) := by decide +kernel
theorem dX4_count_65 : decode cX4_count 65 = .ok (.getfield 10, 3) := by decide +kernel
theorem dX4_count_68 : decode cX4_count 68 = .ok (.getfield 125, 3) := by decide +kernel
theorem dX4_count_71 : decode cX4_count 71 = .ok (.ireturn, 1) := by decide +kernel
theorem dX4_count_72 : decode cX4_count 72 = .ok (.aload_n 0, 1) := by decide +kernel
theorem dX4_count_73 : decode cX4_count 73 = .ok (.getfield 10, 3) := by decide +kernel
theorem dX4_count_76 : decode cX4_count 76 = .ok (.getfield 61, 3) := by decide +kernel
theorem dX4_count_79 : decode cX4_count 79 = .ok (.ireturn, 1) := by decide +kernel
theorem dX4_count_80 : decode cX4_count 80 = .ok (.aload_n 0, 1) := by decide +kernel
theorem dX4_count_81 : decode cX4_count 81 = .ok (.getfield 10, 3) := by decide +kernel
theorem dX4_count_84 : decode cX4_count 84 = .ok (.getfield 128, 3) := by decide +kernel
theorem dX4_count_87 : decode cX4_count 87 = .ok (.ireturn, 1) := by decide +kernel
theorem dX4_count_88 : decode cX4_count 88 = .ok (.aload_n 0, 1) := by decide +kernel
theorem dX4_count_89 : decode cX4_count 89 = .ok (.getfield 10, 3) := by decide +kernel
theorem dX4_count_92 : decode cX4_count 92 = .ok (.getfield 131, 3) := by decide +kernel
theorem dX4_count_95 : decode cX4_count 95 = .ok (.ireturn, 1) := by decide +kernel
theorem dX4_count_96 : decode cX4_count 96 = .ok (.aload_n 0, 1) := by decide +kernel
theorem dX4_count_97 : decode cX4_count 97 = .ok (.getfield 10, 3) := by decide +kernel
theorem dX4_count_100 : decode cX4_count 100 = .ok (.getfield 134, 3) := by decide +kernel
theorem dX4_count_103 : decode cX4_count 103 = .ok (.ireturn, 1) := by decide +kernel
theorem dX4_count_104 : decode cX4_count 104 = .ok (.aload_n 0, 1) := by decide +kernel
theorem dX4_count_105 : decode cX4_count 105 = .ok (.getfield 10, 3) := by decide +kernel
theorem dX4_count_108 : decode cX4_count 108 = .ok (.getfield 137, 3) := by decide +kernel
theorem dX4_count_111 : decode cX4_count 111 = .ok (.ireturn, 1) := by decide +kernel
theorem dX4_count_112 : decode cX4_count 112 = .ok (.aload_n 0, 1) := by decide +kernel
theorem dX4_count_113 : decode cX4_count 113 = .ok (.getfield 10, 3) := by decide +kernel
theorem dX4_count_116 : decode cX4_count 116 = .ok (.getfield 140, 3) := by decide +kernel
theorem dX4_count_119 : decode cX4_count 119 = .ok (.ireturn, 1) := by decide +kernel
theorem dX4_count_120 : decode cX4_count 120 = .ok (.aload_n 0, 1) := by decide +kernel
theorem dX4_count_121 : decode cX4_count 121 = .ok (.getfield 10, 3) := by decide +kernel
theorem dX4_count_124 : decode cX4_count 124 = .ok (.invokevirtual 143, 3) := by decide +kernel
theorem dX4_count_127 : decode cX4_count 127 = .ok (.ireturn, 1) := by decide +kernel
theorem dX4_count_128 : decode cX4_count 128 = .ok (.aload_n 0, 1) := by decide +kernel
theorem dX4_count_129 : decode cX4_count 129 = .ok (.getfield 19, 3) := by decide +kernel
theorem dX4_count_132 : decode cX4_count 132 = .ok (.getfield 146, 3) := by decide +kernel
theorem dX4_count_135 : decode cX4_count 135 = .ok (.ireturn, 1) := by decide +kernel
theorem dX4_count_136 : decode cX4_count 136 = .ok (.iconst (-1), 1) := by decide +kernel
theorem dX4_count_137 : decode cX4_count 137 = .ok (.ireturn, 1) := by decide +kernel
theorem dX4_minutes_0 : decode cX4_minutes 0 = .ok (.iload_n 1, 1) := by decide +kernel
theorem dX4_minutes_1 : decode cX4_minutes 1 = .ok (.iconst 1, 1) := by decide +kernel
theorem dX4_minutes_2 : decode cX4_minutes 2 = .ok (.bipush 40, 2) := by decide +kernel
theorem dX4_minutes_4 : decode cX4_minutes 4 = .ok (.invokestatic 46, 3) := by decide +kernel
theorem dX4_minutes_7 : decode cX4_minutes 7 = .ok (.ifCond .eq 5, 3) := by decide +kernel
theorem dX4_minutes_10 : decode cX4_minutes 10 = .ok (.iconst (-1), 1) := by decide +kernel
theorem dX4_minutes_11 : decode cX4_minutes 11 = .ok (.ireturn, 1) := by decide +kernel
theorem dX4_minutes_12 : decode cX4_minutes 12 = .ok (.aload_n 0, 1) := by decide +kernel
theorem dX4_minutes_13 : decode cX4_minutes 13 = .ok (.getfield 10, 3) := by decide +kernel
theorem dX4_minutes_16 : decode cX4_minutes 16 = .ok (.getfield 131, 3) := by decide +kernel
theorem dX4_minutes_19 : decode cX4_minutes 19 = .ok (.iload_n 1, 1) := by decide +kernel
theorem dX4_minutes_20 : decode cX4_minutes 20 = .ok (.iadd, 1) := by decide +kernel
theorem dX4_minutes_21 : decode cX4_minutes 21 = .ok (.sipush 9999, 3) := by decide +kernel
theorem dX4_minutes_24 : decode cX4_minutes 24 = .ok (.if_icmp .le 6, 3) := by decide +kernel
theorem dX4_minutes_27 : decode cX4_minutes 27 = .ok (.bipush (-3), 2) := by decide +kernel
theorem dX4_minutes_29 : decode cX4_minutes 29 = .ok (.ireturn, 1) := by decide +kernel
theorem dX4_minutes_30 : decode cX4_minutes 30 = .ok (.iconst 0, 1) := by decide +kernel
theorem dX4_minutes_31 : decode cX4_minutes 31 = .ok (.istore_n 2, 1) := by decide +kernel
theorem dX4_minutes_32 : decode cX4_minutes 32 = .ok (.iload_n 2, 1) := by decide +kernel
theorem dX4_minutes_33 : decode cX4_minutes 33 = .ok (.iload_n 1, 1) := by decide +kernel
theorem dX4_minutes_34 : decode cX4_minutes 34 = .ok (.if_icmp .ge 28, 3) := by decide +kernel
theorem dX4_minutes_37 : decode cX4_minutes 37 = .ok (.aload_n 0, 1) := by decide +kernel
theorem dX4_minutes_38 : decode cX4_minutes 38 = .ok (.getfield 19, 3) := by decide +kernel
theorem dX4_minutes_41 : decode cX4_minutes 41 = .ok (.aload_n 0, 1) := by decide +kernel
theorem dX4_minutes_42 : decode cX4_minutes 42 = .ok (.getfield 10, 3) := by decide +kernel
theorem dX4_minutes_45 : decode cX4_minutes 45 = .ok (.invokevirtual 149, 3) := by decide +kernel
theorem dX4_minutes_48 : decode cX4_minutes 48 = .ok (.aload_n 0, 1) := by decide +kernel
theorem dX4_minutes_49 : decode cX4_minutes 49 = .ok (.getfield 10, 3) := by decide +kernel
theorem dX4_minutes_52 : decode cX4_minutes 52 = .ok (.invokevirtual 152, 3) := by decide +kernel
theorem dX4_minutes_55 : decode cX4_minutes 55 = .ok (.pop, 1) := by decide +kernel
theorem dX4_minutes_56 : decode cX4_minutes 56 = .ok (.iinc 2 1, 3) := by decide +kernel
theorem dX4_minutes_59 : decode cX4_minutes 59 = .ok (.goto (-27), 3) := by decide +kernel
theorem dX4_minutes_62 : decode cX4_minutes 62 = .ok (.aload_n 0, 1) := by decide +kernel
theorem dX4_minutes_63 : decode cX4_minutes 63 = .ok (.getfield 10, 3) := by decide +kernel
theorem dX4_minutes_66 : decode cX4_minutes 66 = .ok (.getfield 134, 3) := by decide +kernel
theorem dX4_minutes_69 : decode cX4_minutes 69 = .ok (.ireturn, 1) := by decide +kernel
theorem dX4_walk_0 : decode cX4_walk 0 = .ok (.aload_n 0, 1) := by decide +kernel
theorem dX4_walk_1 : decode cX4_walk 1 = .ok (.iload_n 1, 1) := by decide +kernel
theorem dX4_walk_2 : decode cX4_walk 2 = .ok (.invokevirtual 69, 3) := by decide +kernel
theorem dX4_walk_5 : decode cX4_walk 5 = .ok (.ifCond .ne 12, 3) := by decide +kernel
theorem dX4_walk_8 : decode cX4_walk 8 = .ok (.iload_n 2, 1) := by decide +kernel
theorem dX4_walk_9 : decode cX4_walk 9 = .ok (.iconst 0, 1) := by decide +kernel
theorem dX4_walk_10 : decode cX4_walk 10 = .ok (.iconst 3, 1) := by decide +kernel
theorem dX4_walk_11 : decode cX4_walk 11 = .ok (.invokestatic 46, 3) := by decide +kernel
theorem dX4_walk_14 : decode cX4_walk 14 = .ok (.ifCond .eq 5, 3) := by decide +kernel
theorem dX4_walk_17 : decode cX4_walk 17 = .ok (.iconst (-1), 1) := by decide +kernel
theorem dX4_walk_18 : decode cX4_walk 18 = .ok (.ireturn, 1) := by decide +kernel
theorem dX4_walk_19 : decode cX4_walk 19 = .ok (.aload_n 0, 1) := by decide +kernel
theorem dX4_walk_20 : decode cX4_walk 20 = .ok (.getfield 10, 3) := by decide +kernel
theorem dX4_walk_23 : decode cX4_walk 23 = .ok (.aload_n 0, 1) := by decide +kernel
theorem dX4_walk_24 : decode cX4_walk 24 = .ok (.getfield 10, 3) := by decide +kernel
theorem dX4_walk_27 : decode cX4_walk 27 = .ok (.getfield 77, 3) := by decide +kernel
theorem dX4_walk_30 : decode cX4_walk 30 = .ok (.iload_n 1, 1) := by decide +kernel
theorem dX4_walk_31 : decode cX4_walk 31 = .ok (.iaload, 1) := by decide +kernel
theorem dX4_walk_32 : decode cX4_walk 32 = .ok (.iload_n 2, 1) := by decide +kernel
theorem dX4_walk_33 : decode cX4_walk 33 = .ok (.invokevirtual 155, 3) := by decide +kernel
theorem dX4_walk_36 : decode cX4_walk 36 = .ok (.istore_n 3, 1) := by decide +kernel
theorem dX4_walk_37 : decode cX4_walk 37 = .ok (.aload_n 0, 1) := by decide +kernel
theorem dX4_walk_38 : decode cX4_walk 38 = .ok (.getfield 10, 3) := by decide +kernel
theorem dX4_walk_41 : decode cX4_walk 41 = .ok (.iload_n 1, 1) := by decide +kernel
theorem dX4_walk_42 : decode cX4_walk 42 = .ok (.invokevirtual 89, 3) := by decide +kernel
theorem dX4_walk_45 : decode cX4_walk 45 = .ok (.ifCond .eq 9, 3) := by decide +kernel
theorem dX4_walk_48 : decode cX4_walk 48 = .ok (.iload_n 3, 1) := by decide +kernel
theorem dX4_walk_49 : decode cX4_walk 49 = .ok (.bipush (-4), 2) := by decide +kernel
theorem dX4_walk_51 : decode cX4_walk 51 = .ok (.if_icmp .ne 6, 3) := by decide +kernel
theorem dX4_walk_54 : decode cX4_walk 54 = .ok (.bipush (-2), 2) := by decide +kernel
theorem dX4_walk_56 : decode cX4_walk 56 = .ok (.ireturn, 1) := by decide +kernel
theorem dX4_walk_57 : decode cX4_walk 57 = .ok (.aload_n 0, 1) := by decide +kernel
theorem dX4_walk_58 : decode cX4_walk 58 = .ok (.getfield 19, 3) := by decide +kernel
theorem dX4_walk_61 : decode cX4_walk 61 = .ok (.aload_n 0, 1) := by decide +kernel
theorem dX4_walk_62 : decode cX4_walk 62 = .ok (.getfield 10, 3) := by decide +kernel
theorem dX4_walk_65 : decode cX4_walk 65 = .ok (.invokevirtual 149, 3) := by decide +kernel
theorem dX4_walk_68 : decode cX4_walk 68 = .ok (.aload_n 0, 1) := by decide +kernel
theorem dX4_walk_69 : decode cX4_walk 69 = .ok (.getfield 10, 3) := by decide +kernel
theorem dX4_walk_72 : decode cX4_walk 72 = .ok (.getfield 77, 3) := by decide +kernel
theorem dX4_walk_75 : decode cX4_walk 75 = .ok (.iload_n 1, 1) := by decide +kernel
theorem dX4_walk_76 : decode cX4_walk 76 = .ok (.iload_n 3, 1) := by decide +kernel
theorem dX4_walk_77 : decode cX4_walk 77 = .ok (.iastore, 1) := by decide +kernel
theorem dX4_walk_78 : decode cX4_walk 78 = .ok (.iload_n 3, 1) := by decide +kernel
theorem dX4_walk_79 : decode cX4_walk 79 = .ok (.ireturn, 1) := by decide +kernel
theorem dX4_free_0 : decode cX4_free 0 = .ok (.aload_n 0, 1) := by decide +kernel
theorem dX4_free_1 : decode cX4_free 1 = .ok (.iload_n 1, 1) := by decide +kernel
theorem dX4_free_2 : decode cX4_free 2 = .ok (.invokevirtual 69, 3) := by decide +kernel
theorem dX4_free_5 : decode cX4_free 5 = .ok (.ifCond .eq 5, 3) := by decide +kernel
theorem dX4_free_8 : decode cX4_free 8 = .ok (.iconst (-1), 1) := by decide +kernel
theorem dX4_free_9 : decode cX4_free 9 = .ok (.ireturn, 1) := by decide +kernel
theorem dX4_free_10 : decode cX4_free 10 = .ok (.aload_n 0, 1) := by decide +kernel
theorem dX4_free_11 : decode cX4_free 11 = .ok (.getfield 10, 3) := by decide +kernel
theorem dX4_free_14 : decode cX4_free 14 = .ok (.iload_n 1, 1) := by decide +kernel
theorem dX4_free_15 : decode cX4_free 15 = .ok (.invokevirtual 89, 3) := by decide +kernel
theorem dX4_free_18 : decode cX4_free 18 = .ok (.ifCond .eq 6, 3) := by decide +kernel
theorem dX4_free_21 : decode cX4_free 21 = .ok (.bipush (-2), 2) := by decide +kernel
theorem dX4_free_23 : decode cX4_free 23 = .ok (.ireturn, 1) := by decide +kernel
theorem dX4_free_24 : decode cX4_free 24 = .ok (.aload_n 0, 1) := by decide +kernel
theorem dX4_free_25 : decode cX4_free 25 = .ok (.getfield 19, 3) := by decide +kernel
theorem dX4_free_28 : decode cX4_free 28 = .ok (.aload_n 0, 1) := by decide +kernel
theorem dX4_free_29 : decode cX4_free 29 = .ok (.getfield 10, 3) := by decide +kernel
theorem dX4_free_32 : decode cX4_free 32 = .ok (.invokevirtual 149, 3) := by decide +kernel
theorem dX4_free_35 : decode cX4_free 35 = .ok (.aload_n 0, 1) := by decide +kernel
theorem dX4_free_36 : decode cX4_free 36 = .ok (.getfield 10, 3) := by decide +kernel
theorem dX4_free_39 : decode cX4_free 39 = .ok (.dup, 1) := by decide +kernel
theorem dX4_free_40 : decode cX4_free 40 = .ok (.getfield 134, 3) := by decide +kernel
theorem dX4_free_43 : decode cX4_free 43 = .ok (.iconst 1, 1) := by decide +kernel
theorem dX4_free_44 : decode cX4_free 44 = .ok (.iload_n 1, 1) := by decide +kernel
theorem dX4_free_45 : decode cX4_free 45 = .ok (.ishl, 1) := by decide +kernel
theorem dX4_free_46 : decode cX4_free 46 = .ok (.iconst (-1), 1) := by decide +kernel
theorem dX4_free_47 : decode cX4_free 47 = .ok (.ixor, 1) := by decide +kernel
theorem dX4_free_48 : decode cX4_free 48 = .ok (.iand, 1) := by decide +kernel
theorem dX4_free_49 : decode cX4_free 49 = .ok (.putfield 134, 3) := by decide +kernel
theorem dX4_free_52 : decode cX4_free 52 = .ok (.aload_n 0, 1) := by decide +kernel
theorem dX4_free_53 : decode cX4_free 53 = .ok (.getfield 10, 3) := by decide +kernel
theorem dX4_free_56 : decode cX4_free 56 = .ok (.getfield 134, 3) := by decide +kernel
theorem dX4_free_59 : decode cX4_free 59 = .ok (.ireturn, 1) := by decide +kernel
theorem dX4_drift_0 : decode cX4_drift 0 = .ok (.iload_n 1, 1) := by decide +kernel
theorem dX4_drift_1 : decode cX4_drift 1 = .ok (.iconst 1, 1) := by decide +kernel
theorem dX4_drift_2 : decode cX4_drift 2 = .ok (.bipush 40, 2) := by decide +kernel
theorem dX4_drift_4 : decode cX4_drift 4 = .ok (.invokestatic 46, 3) := by decide +kernel
theorem dX4_drift_7 : decode cX4_drift 7 = .ok (.ifCond .eq 5, 3) := by decide +kernel
theorem dX4_drift_10 : decode cX4_drift 10 = .ok (.iconst (-1), 1) := by decide +kernel
theorem dX4_drift_11 : decode cX4_drift 11 = .ok (.ireturn, 1) := by decide +kernel
theorem dX4_drift_12 : decode cX4_drift 12 = .ok (.aload_n 0, 1) := by decide +kernel
theorem dX4_drift_13 : decode cX4_drift 13 = .ok (.getfield 10, 3) := by decide +kernel
theorem dX4_drift_16 : decode cX4_drift 16 = .ok (.getfield 61, 3) := by decide +kernel
theorem dX4_drift_19 : decode cX4_drift 19 = .ok (.ifCond .ne 6, 3) := by decide +kernel
theorem dX4_drift_22 : decode cX4_drift 22 = .ok (.bipush (-2), 2) := by decide +kernel
theorem dX4_drift_24 : decode cX4_drift 24 = .ok (.ireturn, 1) := by decide +kernel
theorem dX4_drift_25 : decode cX4_drift 25 = .ok (.aload_n 0, 1) := by decide +kernel
theorem dX4_drift_26 : decode cX4_drift 26 = .ok (.getfield 10, 3) := by decide +kernel
theorem dX4_drift_29 : decode cX4_drift 29 = .ok (.getfield 131, 3) := by decide +kernel
theorem dX4_drift_32 : decode cX4_drift 32 = .ok (.iload_n 1, 1) := by decide +kernel
theorem dX4_drift_33 : decode cX4_drift 33 = .ok (.iadd, 1) := by decide +kernel
theorem dX4_drift_34 : decode cX4_drift 34 = .ok (.sipush 9999, 3) := by decide +kernel
theorem dX4_drift_37 : decode cX4_drift 37 = .ok (.if_icmp .le 6, 3) := by decide +kernel
theorem dX4_drift_40 : decode cX4_drift 40 = .ok (.bipush (-3), 2) := by decide +kernel
theorem dX4_drift_42 : decode cX4_drift 42 = .ok (.ireturn, 1) := by decide +kernel
theorem dX4_drift_43 : decode cX4_drift 43 = .ok (.iconst 0, 1) := by decide +kernel
theorem dX4_drift_44 : decode cX4_drift 44 = .ok (.istore_n 2, 1) := by decide +kernel
theorem dX4_drift_45 : decode cX4_drift 45 = .ok (.iload_n 2, 1) := by decide +kernel
theorem dX4_drift_46 : decode cX4_drift 46 = .ok (.iload_n 1, 1) := by decide +kernel
theorem dX4_drift_47 : decode cX4_drift 47 = .ok (.if_icmp .ge 35, 3) := by decide +kernel
theorem dX4_drift_50 : decode cX4_drift 50 = .ok (.aload_n 0, 1) := by decide +kernel
theorem dX4_drift_51 : decode cX4_drift 51 = .ok (.getfield 19, 3) := by decide +kernel
theorem dX4_drift_54 : decode cX4_drift 54 = .ok (.aload_n 0, 1) := by decide +kernel
theorem dX4_drift_55 : decode cX4_drift 55 = .ok (.getfield 10, 3) := by decide +kernel
theorem dX4_drift_58 : decode cX4_drift 58 = .ok (.invokevirtual 149, 3) := by decide +kernel
theorem dX4_drift_61 : decode cX4_drift 61 = .ok (.aload_n 0, 1) := by decide +kernel
theorem dX4_drift_62 : decode cX4_drift 62 = .ok (.getfield 10, 3) := by decide +kernel
theorem dX4_drift_65 : decode cX4_drift 65 = .ok (.invokevirtual 159, 3) := by decide +kernel
theorem dX4_drift_68 : decode cX4_drift 68 = .ok (.aload_n 0, 1) := by decide +kernel
theorem dX4_drift_69 : decode cX4_drift 69 = .ok (.getfield 10, 3) := by decide +kernel
theorem dX4_drift_72 : decode cX4_drift 72 = .ok (.invokevirtual 152, 3) := by decide +kernel
theorem dX4_drift_75 : decode cX4_drift 75 = .ok (.pop, 1) := by decide +kernel
theorem dX4_drift_76 : decode cX4_drift 76 = .ok (.iinc 2 1, 3) := by decide +kernel
theorem dX4_drift_79 : decode cX4_drift 79 = .ok (.goto (-34), 3) := by decide +kernel
theorem dX4_drift_82 : decode cX4_drift 82 = .ok (.aload_n 0, 1) := by decide +kernel
theorem dX4_drift_83 : decode cX4_drift 83 = .ok (.getfield 10, 3) := by decide +kernel
theorem dX4_drift_86 : decode cX4_drift 86 = .ok (.getfield 134, 3) := by decide +kernel
theorem dX4_drift_89 : decode cX4_drift 89 = .ok (.ireturn, 1) := by decide +kernel
theorem dX4_undo_0 : decode cX4_undo 0 = .ok (.aload_n 0, 1) := by decide +kernel
theorem dX4_undo_1 : decode cX4_undo 1 = .ok (.getfield 19, 3) := by decide +kernel
theorem dX4_undo_4 : decode cX4_undo 4 = .ok (.getfield 146, 3) := by decide +kernel
theorem dX4_undo_7 : decode cX4_undo 7 = .ok (.ifCond .ne 6, 3) := by decide +kernel
theorem dX4_undo_10 : decode cX4_undo 10 = .ok (.bipush (-4), 2) := by decide +kernel
theorem dX4_undo_12 : decode cX4_undo 12 = .ok (.ireturn, 1) := by decide +kernel
theorem dX4_undo_13 : decode cX4_undo 13 = .ok (.aload_n 0, 1) := by decide +kernel
theorem dX4_undo_14 : decode cX4_undo 14 = .ok (.getfield 19, 3) := by decide +kernel
theorem dX4_undo_17 : decode cX4_undo 17 = .ok (.aload_n 0, 1) := by decide +kernel
theorem dX4_undo_18 : decode cX4_undo 18 = .ok (.getfield 10, 3) := by decide +kernel
theorem dX4_undo_21 : decode cX4_undo 21 = .ok (.invokevirtual 162, 3) := by decide +kernel
theorem dX4_undo_24 : decode cX4_undo 24 = .ok (.aload_n 0, 1) := by decide +kernel
theorem dX4_undo_25 : decode cX4_undo 25 = .ok (.getfield 19, 3) := by decide +kernel
theorem dX4_undo_28 : decode cX4_undo 28 = .ok (.getfield 146, 3) := by decide +kernel
theorem dX4_undo_31 : decode cX4_undo 31 = .ok (.ireturn, 1) := by decide +kernel
theorem dX4_seed_0 : decode cX4_seed 0 = .ok (.iload_n 1, 1) := by decide +kernel
theorem dX4_seed_1 : decode cX4_seed 1 = .ok (.ifCond .ge 5, 3) := by decide +kernel
theorem dX4_seed_4 : decode cX4_seed 4 = .ok (.iconst (-1), 1) := by decide +kernel
theorem dX4_seed_5 : decode cX4_seed 5 = .ok (.ireturn, 1) := by decide +kernel
theorem dX4_seed_6 : decode cX4_seed 6 = .ok (.aload_n 0, 1) := by decide +kernel
theorem dX4_seed_7 : decode cX4_seed 7 = .ok (.getfield 10, 3) := by decide +kernel
theorem dX4_seed_10 : decode cX4_seed 10 = .ok (.getfield 165, 3) := by decide +kernel
theorem dX4_seed_13 : decode cX4_seed 13 = .ok (.istore_n 2, 1) := by decide +kernel
theorem dX4_seed_14 : decode cX4_seed 14 = .ok (.aload_n 0, 1) := by decide +kernel
theorem dX4_seed_15 : decode cX4_seed 15 = .ok (.getfield 10, 3) := by decide +kernel
theorem dX4_seed_18 : decode cX4_seed 18 = .ok (.iload_n 1, 1) := by decide +kernel
theorem dX4_seed_19 : decode cX4_seed 19 = .ok (.putfield 165, 3) := by decide +kernel
theorem dX4_seed_22 : decode cX4_seed 22 = .ok (.iload_n 2, 1) := by decide +kernel
theorem dX4_seed_23 : decode cX4_seed 23 = .ok (.ireturn, 1) := by decide +kernel
theorem dX4_ahead_0 : decode cX4_ahead 0 = .ok (.iload_n 1, 1) := by decide +kernel
theorem dX4_ahead_1 : decode cX4_ahead 1 = .ok (.iconst 0, 1) := by decide +kernel
theorem dX4_ahead_2 : decode cX4_ahead 2 = .ok (.bipush 60, 2) := by decide +kernel
theorem dX4_ahead_4 : decode cX4_ahead 4 = .ok (.invokestatic 46, 3) := by decide +kernel
theorem dX4_ahead_7 : decode cX4_ahead 7 = .ok (.ifCond .ne 12, 3) := by decide +kernel
theorem dX4_ahead_10 : decode cX4_ahead 10 = .ok (.iload_n 2, 1) := by decide +kernel
theorem dX4_ahead_11 : decode cX4_ahead 11 = .ok (.iconst 0, 1) := by decide +kernel
theorem dX4_ahead_12 : decode cX4_ahead 12 = .ok (.iconst 3, 1) := by decide +kernel
theorem dX4_ahead_13 : decode cX4_ahead 13 = .ok (.invokestatic 46, 3) := by decide +kernel
theorem dX4_ahead_16 : decode cX4_ahead 16 = .ok (.ifCond .eq 5, 3) := by decide +kernel
theorem dX4_ahead_19 : decode cX4_ahead 19 = .ok (.iconst (-1), 1) := by decide +kernel
theorem dX4_ahead_20 : decode cX4_ahead 20 = .ok (.ireturn, 1) := by decide +kernel
theorem dX4_ahead_21 : decode cX4_ahead 21 = .ok (.aload_n 0, 1) := by decide +kernel
theorem dX4_ahead_22 : decode cX4_ahead 22 = .ok (.getfield 23, 3) := by decide +kernel
theorem dX4_ahead_25 : decode cX4_ahead 25 = .ok (.aload_n 0, 1) := by decide +kernel
theorem dX4_ahead_26 : decode cX4_ahead 26 = .ok (.getfield 10, 3) := by decide +kernel
theorem dX4_ahead_29 : decode cX4_ahead 29 = .ok (.invokevirtual 111, 3) := by decide +kernel
theorem dX4_ahead_32 : decode cX4_ahead 32 = .ok (.iconst 0, 1) := by decide +kernel
theorem dX4_ahead_33 : decode cX4_ahead 33 = .ok (.istore_n 3, 1) := by decide +kernel
theorem dX4_ahead_34 : decode cX4_ahead 34 = .ok (.iload_n 3, 1) := by decide +kernel
theorem dX4_ahead_35 : decode cX4_ahead 35 = .ok (.iload_n 1, 1) := by decide +kernel
theorem dX4_ahead_36 : decode cX4_ahead 36 = .ok (.if_icmp .ge 17, 3) := by decide +kernel
theorem dX4_ahead_39 : decode cX4_ahead 39 = .ok (.aload_n 0, 1) := by decide +kernel
theorem dX4_ahead_40 : decode cX4_ahead 40 = .ok (.getfield 23, 3) := by decide +kernel
theorem dX4_ahead_43 : decode cX4_ahead 43 = .ok (.invokevirtual 152, 3) := by decide +kernel
theorem dX4_ahead_46 : decode cX4_ahead 46 = .ok (.pop, 1) := by decide +kernel
theorem dX4_ahead_47 : decode cX4_ahead 47 = .ok (.iinc 3 1, 3) := by decide +kernel
theorem dX4_ahead_50 : decode cX4_ahead 50 = .ok (.goto (-16), 3) := by decide +kernel
theorem dX4_ahead_53 : decode cX4_ahead 53 = .ok (.iload_n 2, 1) := by decide +kernel
theorem dX4_ahead_54 : decode cX4_ahead 54 = .ok (.tableswitch 50 0 2 #[26, 34, 42], 26) := by decide +kernel
theorem dX4_ahead_80 : decode cX4_ahead 80 = .ok (.aload_n 0, 1) := by decide +kernel
theorem dX4_ahead_81 : decode cX4_ahead 81 = .ok (.getfield 23, 3) := by decide +kernel
theorem dX4_ahead_84 : decode cX4_ahead 84 = .ok (.getfield 128, 3) := by decide +kernel
theorem dX4_ahead_87 : decode cX4_ahead 87 = .ok (.ireturn, 1) := by decide +kernel
theorem dX4_ahead_88 : decode cX4_ahead 88 = .ok (.aload_n 0, 1) := by decide +kernel
theorem dX4_ahead_89 : decode cX4_ahead 89 = .ok (.getfield 23, 3) := by decide +kernel
theorem dX4_ahead_92 : decode cX4_ahead 92 = .ok (.getfield 134, 3) := by decide +kernel
theorem dX4_ahead_95 : decode cX4_ahead 95 = .ok (.ireturn, 1) := by decide +kernel
theorem dX4_ahead_96 : decode cX4_ahead 96 = .ok (.aload_n 0, 1) := by decide +kernel
theorem dX4_ahead_97 : decode cX4_ahead 97 = .ok (.getfield 23, 3) := by decide +kernel
theorem dX4_ahead_100 : decode cX4_ahead 100 = .ok (.getfield 137, 3) := by decide +kernel
theorem dX4_ahead_103 : decode cX4_ahead 103 = .ok (.ireturn, 1) := by decide +kernel
theorem dX4_ahead_104 : decode cX4_ahead 104 = .ok (.aload_n 0, 1) := by decide +kernel
theorem dX4_ahead_105 : decode cX4_ahead 105 = .ok (.getfield 23, 3) := by decide +kernel
theorem dX4_ahead_108 : decode cX4_ahead 108 = .ok (.getfield 140, 3) := by decide +kernel
theorem dX4_ahead_111 : decode cX4_ahead 111 = .ok (.ireturn, 1) := by decide +kernel
theorem dX4_next_0 : decode cX4_next 0 = .ok (.iload_n 1, 1) := by decide +kernel
theorem dX4_next_1 : decode cX4_next 1 = .ok (.iconst 0, 1) := by decide +kernel
theorem dX4_next_2 : decode cX4_next 2 = .ok (.iconst 2, 1) := by decide +kernel
theorem dX4_next_3 : decode cX4_next 3 = .ok (.invokestatic 46, 3) := by decide +kernel
theorem dX4_next_6 : decode cX4_next 6 = .ok (.ifCond .eq 5, 3) := by decide +kernel
theorem dX4_next_9 : decode cX4_next 9 = .ok (.iconst (-1), 1) := by decide +kernel
theorem dX4_next_10 : decode cX4_next 10 = .ok (.ireturn, 1) := by decide +kernel
theorem dX4_next_11 : decode cX4_next 11 = .ok (.aload_n 0, 1) := by decide +kernel
theorem dX4_next_12 : decode cX4_next 12 = .ok (.getfield 23, 3) := by decide +kernel
theorem dX4_next_15 : decode cX4_next 15 = .ok (.aload_n 0, 1) := by decide +kernel
theorem dX4_next_16 : decode cX4_next 16 = .ok (.getfield 10, 3) := by decide +kernel
theorem dX4_next_19 : decode cX4_next 19 = .ok (.invokevirtual 111, 3) := by decide +kernel
theorem dX4_next_22 : decode cX4_next 22 = .ok (.aload_n 0, 1) := by decide +kernel
theorem dX4_next_23 : decode cX4_next 23 = .ok (.getfield 23, 3) := by decide +kernel
theorem dX4_next_26 : decode cX4_next 26 = .ok (.invokevirtual 168, 3) := by decide +kernel
theorem dX4_next_29 : decode cX4_next 29 = .ok (.istore_n 2, 1) := by decide +kernel
theorem dX4_next_30 : decode cX4_next 30 = .ok (.iload_n 2, 1) := by decide +kernel
theorem dX4_next_31 : decode cX4_next 31 = .ok (.bipush (-4), 2) := by decide +kernel
theorem dX4_next_33 : decode cX4_next 33 = .ok (.if_icmp .eq 7, 3) := by decide +kernel
theorem dX4_next_36 : decode cX4_next 36 = .ok (.iload_n 1, 1) := by decide +kernel
theorem dX4_next_37 : decode cX4_next 37 = .ok (.ifCond .ne 5, 3) := by decide +kernel
theorem dX4_next_40 : decode cX4_next 40 = .ok (.iload_n 2, 1) := by decide +kernel
theorem dX4_next_41 : decode cX4_next 41 = .ok (.ireturn, 1) := by decide +kernel
theorem dX4_next_42 : decode cX4_next 42 = .ok (.iload_n 1, 1) := by decide +kernel
theorem dX4_next_43 : decode cX4_next 43 = .ok (.iconst 1, 1) := by decide +kernel
theorem dX4_next_44 : decode cX4_next 44 = .ok (.if_icmp .ne 21, 3) := by decide +kernel
theorem dX4_next_47 : decode cX4_next 47 = .ok (.aload_n 0, 1) := by decide +kernel
theorem dX4_next_48 : decode cX4_next 48 = .ok (.getfield 23, 3) := by decide +kernel
theorem dX4_next_51 : decode cX4_next 51 = .ok (.getfield 131, 3) := by decide +kernel
theorem dX4_next_54 : decode cX4_next 54 = .ok (.aload_n 0, 1) := by decide +kernel
theorem dX4_next_55 : decode cX4_next 55 = .ok (.getfield 10, 3) := by decide +kernel
theorem dX4_next_58 : decode cX4_next 58 = .ok (.getfield 131, 3) := by decide +kernel
theorem dX4_next_61 : decode cX4_next 61 = .ok (.isub, 1) := by decide +kernel
theorem dX4_next_62 : decode cX4_next 62 = .ok (.goto 18, 3) := by decide +kernel
theorem dX4_next_65 : decode cX4_next 65 = .ok (.aload_n 0, 1) := by decide +kernel
theorem dX4_next_66 : decode cX4_next 66 = .ok (.getfield 23, 3) := by decide +kernel
theorem dX4_next_69 : decode cX4_next 69 = .ok (.aload_n 0, 1) := by decide +kernel
theorem dX4_next_70 : decode cX4_next 70 = .ok (.getfield 23, 3) := by decide +kernel
theorem dX4_next_73 : decode cX4_next 73 = .ok (.iload_n 2, 1) := by decide +kernel
theorem dX4_next_74 : decode cX4_next 74 = .ok (.invokevirtual 99, 3) := by decide +kernel
theorem dX4_next_77 : decode cX4_next 77 = .ok (.invokevirtual 102, 3) := by decide +kernel
theorem dX4_next_80 : decode cX4_next 80 = .ok (.ireturn, 1) := by decide +kernel
theorem dX4_stand_0 : decode cX4_stand 0 = .ok (.aload_n 0, 1) := by decide +kernel
theorem dX4_stand_1 : decode cX4_stand 1 = .ok (.iload_n 1, 1) := by decide +kernel
theorem dX4_stand_2 : decode cX4_stand 2 = .ok (.invokevirtual 69, 3) := by decide +kernel
theorem dX4_stand_5 : decode cX4_stand 5 = .ok (.ifCond .ne 12, 3) := by decide +kernel
theorem dX4_stand_8 : decode cX4_stand 8 = .ok (.iload_n 2, 1) := by decide +kernel
theorem dX4_stand_9 : decode cX4_stand 9 = .ok (.iconst 0, 1) := by decide +kernel
theorem dX4_stand_10 : decode cX4_stand 10 = .ok (.iconst 1, 1) := by decide +kernel
theorem dX4_stand_11 : decode cX4_stand 11 = .ok (.invokestatic 46, 3) := by decide +kernel
theorem dX4_stand_14 : decode cX4_stand 14 = .ok (.ifCond .eq 5, 3) := by decide +kernel
theorem dX4_stand_17 : decode cX4_stand 17 = .ok (.iconst (-1), 1) := by decide +kernel
theorem dX4_stand_18 : decode cX4_stand 18 = .ok (.ireturn, 1) := by decide +kernel
theorem dX4_stand_19 : decode cX4_stand 19 = .ok (.aload_n 0, 1) := by decide +kernel
theorem dX4_stand_20 : decode cX4_stand 20 = .ok (.getfield 10, 3) := by decide +kernel
theorem dX4_stand_23 : decode cX4_stand 23 = .ok (.iload_n 1, 1) := by decide +kernel
theorem dX4_stand_24 : decode cX4_stand 24 = .ok (.invokevirtual 89, 3) := by decide +kernel
theorem dX4_stand_27 : decode cX4_stand 27 = .ok (.ifCond .ne 6, 3) := by decide +kernel
theorem dX4_stand_30 : decode cX4_stand 30 = .ok (.bipush (-2), 2) := by decide +kernel
theorem dX4_stand_32 : decode cX4_stand 32 = .ok (.ireturn, 1) := by decide +kernel
theorem dX4_stand_33 : decode cX4_stand 33 = .ok (.iconst 0, 1) := by decide +kernel
theorem dX4_stand_34 : decode cX4_stand 34 = .ok (.istore_n 3, 1) := by decide +kernel
theorem dX4_stand_35 : decode cX4_stand 35 = .ok (.iconst 0, 1) := by decide +kernel
theorem dX4_stand_36 : decode cX4_stand 36 = .ok (.istore 4, 2) := by decide +kernel
theorem dX4_stand_38 : decode cX4_stand 38 = .ok (.iconst 0, 1) := by decide +kernel
theorem dX4_stand_39 : decode cX4_stand 39 = .ok (.istore 5, 2) := by decide +kernel
theorem dX4_stand_41 : decode cX4_stand 41 = .ok (.iload 5, 2) := by decide +kernel
theorem dX4_stand_43 : decode cX4_stand 43 = .ok (.aload_n 0, 1) := by decide +kernel
theorem dX4_stand_44 : decode cX4_stand 44 = .ok (.getfield 10, 3) := by decide +kernel
theorem dX4_stand_47 : decode cX4_stand 47 = .ok (.invokevirtual 57, 3) := by decide +kernel
theorem dX4_stand_50 : decode cX4_stand 50 = .ok (.if_icmp .ge 57, 3) := by decide +kernel
theorem dX4_stand_53 : decode cX4_stand 53 = .ok (.aload_n 0, 1) := by decide +kernel
theorem dX4_stand_54 : decode cX4_stand 54 = .ok (.getfield 23, 3) := by decide +kernel
theorem dX4_stand_57 : decode cX4_stand 57 = .ok (.aload_n 0, 1) := by decide +kernel
theorem dX4_stand_58 : decode cX4_stand 58 = .ok (.getfield 10, 3) := by decide +kernel
theorem dX4_stand_61 : decode cX4_stand 61 = .ok (.invokevirtual 111, 3) := by decide +kernel
theorem dX4_stand_64 : decode cX4_stand 64 = .ok (.aload_n 0, 1) := by decide +kernel
theorem dX4_stand_65 : decode cX4_stand 65 = .ok (.getfield 23, 3) := by decide +kernel
theorem dX4_stand_68 : decode cX4_stand 68 = .ok (.getfield 77, 3) := by decide +kernel
theorem dX4_stand_71 : decode cX4_stand 71 = .ok (.iload_n 1, 1) := by decide +kernel
theorem dX4_stand_72 : decode cX4_stand 72 = .ok (.iload 5, 2) := by decide +kernel
theorem dX4_stand_74 : decode cX4_stand 74 = .ok (.iastore, 1) := by decide +kernel
theorem dX4_stand_75 : decode cX4_stand 75 = .ok (.aload_n 0, 1) := by decide +kernel
theorem dX4_stand_76 : decode cX4_stand 76 = .ok (.getfield 23, 3) := by decide +kernel
theorem dX4_stand_79 : decode cX4_stand 79 = .ok (.iload_n 1, 1) := by decide +kernel
theorem dX4_stand_80 : decode cX4_stand 80 = .ok (.bipush 60, 2) := by decide +kernel
theorem dX4_stand_82 : decode cX4_stand 82 = .ok (.invokevirtual 171, 3) := by decide +kernel
theorem dX4_stand_85 : decode cX4_stand 85 = .ok (.istore 6, 2) := by decide +kernel
theorem dX4_stand_87 : decode cX4_stand 87 = .ok (.iload 6, 2) := by decide +kernel
theorem dX4_stand_89 : decode cX4_stand 89 = .ok (.iload 4, 2) := by decide +kernel
theorem dX4_stand_91 : decode cX4_stand 91 = .ok (.if_icmp .le 10, 3) := by decide +kernel
theorem dX4_stand_94 : decode cX4_stand 94 = .ok (.iload 6, 2) := by decide +kernel
theorem dX4_stand_96 : decode cX4_stand 96 = .ok (.istore 4, 2) := by decide +kernel
theorem dX4_stand_98 : decode cX4_stand 98 = .ok (.iload 5, 2) := by decide +kernel
theorem dX4_stand_100 : decode cX4_stand 100 = .ok (.istore_n 3, 1) := by decide +kernel
theorem dX4_stand_101 : decode cX4_stand 101 = .ok (.iinc 5 1, 3) := by decide +kernel
theorem dX4_stand_104 : decode cX4_stand 104 = .ok (.goto (-63), 3) := by decide +kernel
theorem dX4_stand_107 : decode cX4_stand 107 = .ok (.iload_n 2, 1) := by decide +kernel
theorem dX4_stand_108 : decode cX4_stand 108 = .ok (.ifCond .ne 7, 3) := by decide +kernel
theorem dX4_stand_111 : decode cX4_stand 111 = .ok (.iload_n 3, 1) := by decide +kernel
theorem dX4_stand_112 : decode cX4_stand 112 = .ok (.goto 5, 3) := by decide +kernel
theorem dX4_stand_115 : decode cX4_stand 115 = .ok (.iload 4, 2) := by decide +kernel
theorem dX4_stand_117 : decode cX4_stand 117 = .ok (.ireturn, 1) := by decide +kernel
theorem dX4_hush_0 : decode cX4_hush 0 = .ok (.aload_n 0, 1) := by decide +kernel
theorem dX4_hush_1 : decode cX4_hush 1 = .ok (.iload_n 1, 1) := by decide +kernel
theorem dX4_hush_2 : decode cX4_hush 2 = .ok (.invokevirtual 69, 3) := by decide +kernel
theorem dX4_hush_5 : decode cX4_hush 5 = .ok (.ifCond .ne 13, 3) := by decide +kernel
theorem dX4_hush_8 : decode cX4_hush 8 = .ok (.iload_n 2, 1) := by decide +kernel
theorem dX4_hush_9 : decode cX4_hush 9 = .ok (.iconst 1, 1) := by decide +kernel
theorem dX4_hush_10 : decode cX4_hush 10 = .ok (.bipush 60, 2) := by decide +kernel
theorem dX4_hush_12 : decode cX4_hush 12 = .ok (.invokestatic 46, 3) := by decide +kernel
theorem dX4_hush_15 : decode cX4_hush 15 = .ok (.ifCond .eq 5, 3) := by decide +kernel
theorem dX4_hush_18 : decode cX4_hush 18 = .ok (.iconst (-1), 1) := by decide +kernel
theorem dX4_hush_19 : decode cX4_hush 19 = .ok (.ireturn, 1) := by decide +kernel
theorem dX4_hush_20 : decode cX4_hush 20 = .ok (.aload_n 0, 1) := by decide +kernel
theorem dX4_hush_21 : decode cX4_hush 21 = .ok (.getfield 10, 3) := by decide +kernel
theorem dX4_hush_24 : decode cX4_hush 24 = .ok (.iload_n 1, 1) := by decide +kernel
theorem dX4_hush_25 : decode cX4_hush 25 = .ok (.invokevirtual 89, 3) := by decide +kernel
theorem dX4_hush_28 : decode cX4_hush 28 = .ok (.ifCond .ne 6, 3) := by decide +kernel
theorem dX4_hush_31 : decode cX4_hush 31 = .ok (.bipush (-2), 2) := by decide +kernel
theorem dX4_hush_33 : decode cX4_hush 33 = .ok (.ireturn, 1) := by decide +kernel
theorem dX4_hush_34 : decode cX4_hush 34 = .ok (.iconst 0, 1) := by decide +kernel
theorem dX4_hush_35 : decode cX4_hush 35 = .ok (.istore_n 3, 1) := by decide +kernel
theorem dX4_hush_36 : decode cX4_hush 36 = .ok (.iload_n 3, 1) := by decide +kernel
theorem dX4_hush_37 : decode cX4_hush 37 = .ok (.aload_n 0, 1) := by decide +kernel
theorem dX4_hush_38 : decode cX4_hush 38 = .ok (.getfield 10, 3) := by decide +kernel
theorem dX4_hush_41 : decode cX4_hush 41 = .ok (.getfield 80, 3) := by decide +kernel
theorem dX4_hush_44 : decode cX4_hush 44 = .ok (.iload_n 1, 1) := by decide +kernel
theorem dX4_hush_45 : decode cX4_hush 45 = .ok (.iaload, 1) := by decide +kernel
theorem dX4_hush_46 : decode cX4_hush 46 = .ok (.if_icmp .gt 48, 3) := by decide +kernel
theorem dX4_hush_49 : decode cX4_hush 49 = .ok (.aload_n 0, 1) := by decide +kernel
theorem dX4_hush_50 : decode cX4_hush 50 = .ok (.getfield 23, 3) := by decide +kernel
theorem dX4_hush_53 : decode cX4_hush 53 = .ok (.aload_n 0, 1) := by decide +kernel
theorem dX4_hush_54 : decode cX4_hush 54 = .ok (.getfield 10, 3) := by decide +kernel
theorem dX4_hush_57 : decode cX4_hush 57 = .ok (.invokevirtual 111, 3) := by decide +kernel
theorem dX4_hush_60 : decode cX4_hush 60 = .ok (.aload_n 0, 1) := by decide +kernel
theorem dX4_hush_61 : decode cX4_hush 61 = .ok (.getfield 23, 3) := by decide +kernel
theorem dX4_hush_64 : decode cX4_hush 64 = .ok (.getfield 80, 3) := by decide +kernel
theorem dX4_hush_67 : decode cX4_hush 67 = .ok (.iload_n 1, 1) := by decide +kernel
theorem dX4_hush_68 : decode cX4_hush 68 = .ok (.dup2, 1) := by decide +kernel
theorem dX4_hush_69 : decode cX4_hush 69 = .ok (.iaload, 1) := by decide +kernel
theorem dX4_hush_70 : decode cX4_hush 70 = .ok (.iload_n 3, 1) := by decide +kernel
theorem dX4_hush_71 : decode cX4_hush 71 = .ok (.isub, 1) := by decide +kernel
theorem dX4_hush_72 : decode cX4_hush 72 = .ok (.iastore, 1) := by decide +kernel
theorem dX4_hush_73 : decode cX4_hush 73 = .ok (.aload_n 0, 1) := by decide +kernel
theorem dX4_hush_74 : decode cX4_hush 74 = .ok (.getfield 23, 3) := by decide +kernel
theorem dX4_hush_77 : decode cX4_hush 77 = .ok (.iload_n 1, 1) := by decide +kernel
theorem dX4_hush_78 : decode cX4_hush 78 = .ok (.iload_n 2, 1) := by decide +kernel
theorem dX4_hush_79 : decode cX4_hush 79 = .ok (.invokevirtual 171, 3) := by decide +kernel
theorem dX4_hush_82 : decode cX4_hush 82 = .ok (.iload_n 2, 1) := by decide +kernel
theorem dX4_hush_83 : decode cX4_hush 83 = .ok (.if_icmp .le 5, 3) := by decide +kernel
theorem dX4_hush_86 : decode cX4_hush 86 = .ok (.iload_n 3, 1) := by decide +kernel
theorem dX4_hush_87 : decode cX4_hush 87 = .ok (.ireturn, 1) := by decide +kernel
theorem dX4_hush_88 : decode cX4_hush 88 = .ok (.iinc 3 1, 3) := by decide +kernel
theorem dX4_hush_91 : decode cX4_hush 91 = .ok (.goto (-55), 3) := by decide +kernel
theorem dX4_hush_94 : decode cX4_hush 94 = .ok (.bipush (-4), 2) := by decide +kernel
theorem dX4_hush_96 : decode cX4_hush 96 = .ok (.ireturn, 1) := by decide +kernel
theorem dX4_mask_0 : decode cX4_mask 0 = .ok (.aload_n 0, 1) := by decide +kernel
theorem dX4_mask_1 : decode cX4_mask 1 = .ok (.iload_n 1, 1) := by decide +kernel
theorem dX4_mask_2 : decode cX4_mask 2 = .ok (.invokevirtual 69, 3) := by decide +kernel
theorem dX4_mask_5 : decode cX4_mask 5 = .ok (.ifCond .ne 12, 3) := by decide +kernel
theorem dX4_mask_8 : decode cX4_mask 8 = .ok (.iload_n 2, 1) := by decide +kernel
theorem dX4_mask_9 : decode cX4_mask 9 = .ok (.iconst 0, 1) := by decide +kernel
theorem dX4_mask_10 : decode cX4_mask 10 = .ok (.iconst 1, 1) := by decide +kernel
theorem dX4_mask_11 : decode cX4_mask 11 = .ok (.invokestatic 46, 3) := by decide +kernel
theorem dX4_mask_14 : decode cX4_mask 14 = .ok (.ifCond .eq 5, 3) := by decide +kernel
theorem dX4_mask_17 : decode cX4_mask 17 = .ok (.iconst (-1), 1) := by decide +kernel
theorem dX4_mask_18 : decode cX4_mask 18 = .ok (.ireturn, 1) := by decide +kernel
theorem dX4_mask_19 : decode cX4_mask 19 = .ok (.bipush 7, 2) := by decide +kernel
theorem dX4_mask_21 : decode cX4_mask 21 = .ok (.istore_n 3, 1) := by decide +kernel
theorem dX4_mask_22 : decode cX4_mask 22 = .ok (.bipush (-4), 2) := by decide +kernel
theorem dX4_mask_24 : decode cX4_mask 24 = .ok (.istore 4, 2) := by decide +kernel
theorem dX4_mask_26 : decode cX4_mask 26 = .ok (.iconst 0, 1) := by decide +kernel
theorem dX4_mask_27 : decode cX4_mask 27 = .ok (.istore 5, 2) := by decide +kernel
theorem dX4_mask_29 : decode cX4_mask 29 = .ok (.iload 5, 2) := by decide +kernel
theorem dX4_mask_31 : decode cX4_mask 31 = .ok (.bipush 63, 2) := by decide +kernel
theorem dX4_mask_33 : decode cX4_mask 33 = .ok (.if_icmp .gt 51, 3) := by decide +kernel
theorem dX4_mask_36 : decode cX4_mask 36 = .ok (.iload 5, 2) := by decide +kernel
theorem dX4_mask_38 : decode cX4_mask 38 = .ok (.invokestatic 174, 3) := by decide +kernel
theorem dX4_mask_41 : decode cX4_mask 41 = .ok (.istore 6, 2) := by decide +kernel
theorem dX4_mask_43 : decode cX4_mask 43 = .ok (.iload 6, 2) := by decide +kernel
theorem dX4_mask_45 : decode cX4_mask 45 = .ok (.iload_n 3, 1) := by decide +kernel
theorem dX4_mask_46 : decode cX4_mask 46 = .ok (.if_icmp .ge 32, 3) := by decide +kernel
theorem dX4_mask_49 : decode cX4_mask 49 = .ok (.aload_n 0, 1) := by decide +kernel
theorem dX4_mask_50 : decode cX4_mask 50 = .ok (.getfield 10, 3) := by decide +kernel
theorem dX4_mask_53 : decode cX4_mask 53 = .ok (.aload_n 0, 1) := by decide +kernel
theorem dX4_mask_54 : decode cX4_mask 54 = .ok (.getfield 10, 3) := by decide +kernel
theorem dX4_mask_57 : decode cX4_mask 57 = .ok (.iload_n 1, 1) := by decide +kernel
theorem dX4_mask_58 : decode cX4_mask 58 = .ok (.invokevirtual 99, 3) := by decide +kernel
theorem dX4_mask_61 : decode cX4_mask 61 = .ok (.iload 5, 2) := by decide +kernel
theorem dX4_mask_63 : decode cX4_mask 63 = .ok (.ixor, 1) := by decide +kernel
theorem dX4_mask_64 : decode cX4_mask 64 = .ok (.invokevirtual 102, 3) := by decide +kernel
theorem dX4_mask_67 : decode cX4_mask 67 = .ok (.iload_n 1, 1) := by decide +kernel
theorem dX4_mask_68 : decode cX4_mask 68 = .ok (.if_icmp .eq 10, 3) := by decide +kernel
theorem dX4_mask_71 : decode cX4_mask 71 = .ok (.iload 6, 2) := by decide +kernel
theorem dX4_mask_73 : decode cX4_mask 73 = .ok (.istore_n 3, 1) := by decide +kernel
theorem dX4_mask_74 : decode cX4_mask 74 = .ok (.iload 5, 2) := by decide +kernel
theorem dX4_mask_76 : decode cX4_mask 76 = .ok (.istore 4, 2) := by decide +kernel
theorem dX4_mask_78 : decode cX4_mask 78 = .ok (.iinc 5 1, 3) := by decide +kernel
theorem dX4_mask_81 : decode cX4_mask 81 = .ok (.goto (-52), 3) := by decide +kernel
theorem dX4_mask_84 : decode cX4_mask 84 = .ok (.iload_n 2, 1) := by decide +kernel
theorem dX4_mask_85 : decode cX4_mask 85 = .ok (.ifCond .ne 14, 3) := by decide +kernel
theorem dX4_mask_88 : decode cX4_mask 88 = .ok (.iload 4, 2) := by decide +kernel
theorem dX4_mask_90 : decode cX4_mask 90 = .ok (.bipush (-4), 2) := by decide +kernel
theorem dX4_mask_92 : decode cX4_mask 92 = .ok (.if_icmp .eq 7, 3) := by decide +kernel
theorem dX4_mask_95 : decode cX4_mask 95 = .ok (.iload_n 3, 1) := by decide +kernel
theorem dX4_mask_96 : decode cX4_mask 96 = .ok (.goto 5, 3) := by decide +kernel
theorem dX4_mask_99 : decode cX4_mask 99 = .ok (.iload 4, 2) := by decide +kernel
theorem dX4_mask_101 : decode cX4_mask 101 = .ok (.ireturn, 1) := by decide +kernel
theorem dX4_alike_0 : decode cX4_alike 0 = .ok (.iload_n 1, 1) := by decide +kernel
theorem dX4_alike_1 : decode cX4_alike 1 = .ok (.iconst 0, 1) := by decide +kernel
theorem dX4_alike_2 : decode cX4_alike 2 = .ok (.bipush 6, 2) := by decide +kernel
theorem dX4_alike_4 : decode cX4_alike 4 = .ok (.invokestatic 46, 3) := by decide +kernel
theorem dX4_alike_7 : decode cX4_alike 7 = .ok (.ifCond .ne 12, 3) := by decide +kernel
theorem dX4_alike_10 : decode cX4_alike 10 = .ok (.iload_n 2, 1) := by decide +kernel
theorem dX4_alike_11 : decode cX4_alike 11 = .ok (.iconst 0, 1) := by decide +kernel
theorem dX4_alike_12 : decode cX4_alike 12 = .ok (.iconst 1, 1) := by decide +kernel
theorem dX4_alike_13 : decode cX4_alike 13 = .ok (.invokestatic 46, 3) := by decide +kernel
theorem dX4_alike_16 : decode cX4_alike 16 = .ok (.ifCond .eq 5, 3) := by decide +kernel
theorem dX4_alike_19 : decode cX4_alike 19 = .ok (.iconst (-1), 1) := by decide +kernel
theorem dX4_alike_20 : decode cX4_alike 20 = .ok (.ireturn, 1) := by decide +kernel
theorem dX4_alike_21 : decode cX4_alike 21 = .ok (.iconst 0, 1) := by decide +kernel
theorem dX4_alike_22 : decode cX4_alike 22 = .ok (.istore_n 3, 1) := by decide +kernel
theorem dX4_alike_23 : decode cX4_alike 23 = .ok (.bipush (-4), 2) := by decide +kernel
theorem dX4_alike_25 : decode cX4_alike 25 = .ok (.istore 4, 2) := by decide +kernel
theorem dX4_alike_27 : decode cX4_alike 27 = .ok (.iconst 0, 1) := by decide +kernel
theorem dX4_alike_28 : decode cX4_alike 28 = .ok (.istore 5, 2) := by decide +kernel
theorem dX4_alike_30 : decode cX4_alike 30 = .ok (.iload 5, 2) := by decide +kernel
theorem dX4_alike_32 : decode cX4_alike 32 = .ok (.aload_n 0, 1) := by decide +kernel
theorem dX4_alike_33 : decode cX4_alike 33 = .ok (.getfield 10, 3) := by decide +kernel
theorem dX4_alike_36 : decode cX4_alike 36 = .ok (.getfield 61, 3) := by decide +kernel
theorem dX4_alike_39 : decode cX4_alike 39 = .ok (.if_icmp .ge 83, 3) := by decide +kernel
theorem dX4_alike_42 : decode cX4_alike 42 = .ok (.iload 5, 2) := by decide +kernel
theorem dX4_alike_44 : decode cX4_alike 44 = .ok (.iconst 1, 1) := by decide +kernel
theorem dX4_alike_45 : decode cX4_alike 45 = .ok (.iadd, 1) := by decide +kernel
theorem dX4_alike_46 : decode cX4_alike 46 = .ok (.istore 6, 2) := by decide +kernel
theorem dX4_alike_48 : decode cX4_alike 48 = .ok (.iload 6, 2) := by decide +kernel
theorem dX4_alike_50 : decode cX4_alike 50 = .ok (.aload_n 0, 1) := by decide +kernel
theorem dX4_alike_51 : decode cX4_alike 51 = .ok (.getfield 10, 3) := by decide +kernel
theorem dX4_alike_54 : decode cX4_alike 54 = .ok (.getfield 61, 3) := by decide +kernel
theorem dX4_alike_57 : decode cX4_alike 57 = .ok (.if_icmp .ge 59, 3) := by decide +kernel
theorem dX4_alike_60 : decode cX4_alike 60 = .ok (.aload_n 0, 1) := by decide +kernel
theorem dX4_alike_61 : decode cX4_alike 61 = .ok (.getfield 10, 3) := by decide +kernel
theorem dX4_alike_64 : decode cX4_alike 64 = .ok (.getfield 83, 3) := by decide +kernel
theorem dX4_alike_67 : decode cX4_alike 67 = .ok (.iload 5, 2) := by decide +kernel
theorem dX4_alike_69 : decode cX4_alike 69 = .ok (.iaload, 1) := by decide +kernel
theorem dX4_alike_70 : decode cX4_alike 70 = .ok (.aload_n 0, 1) := by decide +kernel
theorem dX4_alike_71 : decode cX4_alike 71 = .ok (.getfield 10, 3) := by decide +kernel
theorem dX4_alike_74 : decode cX4_alike 74 = .ok (.getfield 83, 3) := by decide +kernel
theorem dX4_alike_77 : decode cX4_alike 77 = .ok (.iload 6, 2) := by decide +kernel
theorem dX4_alike_79 : decode cX4_alike 79 = .ok (.iaload, 1) := by decide +kernel
theorem dX4_alike_80 : decode cX4_alike 80 = .ok (.ixor, 1) := by decide +kernel
theorem dX4_alike_81 : decode cX4_alike 81 = .ok (.invokestatic 174, 3) := by decide +kernel
theorem dX4_alike_84 : decode cX4_alike 84 = .ok (.iload_n 1, 1) := by decide +kernel
theorem dX4_alike_85 : decode cX4_alike 85 = .ok (.if_icmp .gt 25, 3) := by decide +kernel
theorem dX4_alike_88 : decode cX4_alike 88 = .ok (.iload_n 3, 1) := by decide +kernel
theorem dX4_alike_89 : decode cX4_alike 89 = .ok (.ifCond .ne 14, 3) := by decide +kernel
theorem dX4_alike_92 : decode cX4_alike 92 = .ok (.bipush 10, 2) := by decide +kernel
theorem dX4_alike_94 : decode cX4_alike 94 = .ok (.iload 5, 2) := by decide +kernel
theorem dX4_alike_96 : decode cX4_alike 96 = .ok (.imul, 1) := by decide +kernel
theorem dX4_alike_97 : decode cX4_alike 97 = .ok (.iload 6, 2) := by decide +kernel
theorem dX4_alike_99 : decode cX4_alike 99 = .ok (.iadd, 1) := by decide +kernel
theorem dX4_alike_100 : decode cX4_alike 100 = .ok (.goto 5, 3) := by decide +kernel
theorem dX4_alike_103 : decode cX4_alike 103 = .ok (.iload 4, 2) := by decide +kernel
theorem dX4_alike_105 : decode cX4_alike 105 = .ok (.istore 4, 2) := by decide +kernel
theorem dX4_alike_107 : decode cX4_alike 107 = .ok (.iinc 3 1, 3) := by decide +kernel
theorem dX4_alike_110 : decode cX4_alike 110 = .ok (.iinc 6 1, 3) := by decide +kernel
theorem dX4_alike_113 : decode cX4_alike 113 = .ok (.goto (-65), 3) := by decide +kernel
theorem dX4_alike_116 : decode cX4_alike 116 = .ok (.iinc 5 1, 3) := by decide +kernel
theorem dX4_alike_119 : decode cX4_alike 119 = .ok (.goto (-89), 3) := by decide +kernel
theorem dX4_alike_122 : decode cX4_alike 122 = .ok (.iload_n 2, 1) := by decide +kernel
theorem dX4_alike_123 : decode cX4_alike 123 = .ok (.ifCond .ne 7, 3) := by decide +kernel
theorem dX4_alike_126 : decode cX4_alike 126 = .ok (.iload_n 3, 1) := by decide +kernel
theorem dX4_alike_127 : decode cX4_alike 127 = .ok (.goto 5, 3) := by decide +kernel
theorem dX4_alike_130 : decode cX4_alike 130 = .ok (.iload 4, 2) := by decide +kernel
theorem dX4_alike_132 : decode cX4_alike 132 = .ok (.ireturn, 1) := by decide +kernel
theorem dX4_turned_0 : decode cX4_turned 0 = .ok (.aload_n 0, 1) := by decide +kernel
theorem dX4_turned_1 : decode cX4_turned 1 = .ok (.iload_n 1, 1) := by decide +kernel
theorem dX4_turned_2 : decode cX4_turned 2 = .ok (.invokevirtual 69, 3) := by decide +kernel
theorem dX4_turned_5 : decode cX4_turned 5 = .ok (.ifCond .ne 12, 3) := by decide +kernel
theorem dX4_turned_8 : decode cX4_turned 8 = .ok (.iload_n 2, 1) := by decide +kernel
theorem dX4_turned_9 : decode cX4_turned 9 = .ok (.iconst 0, 1) := by decide +kernel
theorem dX4_turned_10 : decode cX4_turned 10 = .ok (.iconst 1, 1) := by decide +kernel
theorem dX4_turned_11 : decode cX4_turned 11 = .ok (.invokestatic 46, 3) := by decide +kernel
theorem dX4_turned_14 : decode cX4_turned 14 = .ok (.ifCond .eq 5, 3) := by decide +kernel
theorem dX4_turned_17 : decode cX4_turned 17 = .ok (.iconst (-1), 1) := by decide +kernel
theorem dX4_turned_18 : decode cX4_turned 18 = .ok (.ireturn, 1) := by decide +kernel
theorem dX4_turned_19 : decode cX4_turned 19 = .ok (.iconst 0, 1) := by decide +kernel
theorem dX4_turned_20 : decode cX4_turned 20 = .ok (.istore_n 3, 1) := by decide +kernel
theorem dX4_turned_21 : decode cX4_turned 21 = .ok (.bipush (-4), 2) := by decide +kernel
theorem dX4_turned_23 : decode cX4_turned 23 = .ok (.istore 4, 2) := by decide +kernel
theorem dX4_turned_25 : decode cX4_turned 25 = .ok (.iconst 0, 1) := by decide +kernel
theorem dX4_turned_26 : decode cX4_turned 26 = .ok (.istore 5, 2) := by decide +kernel
theorem dX4_turned_28 : decode cX4_turned 28 = .ok (.iload 5, 2) := by decide +kernel
theorem dX4_turned_30 : decode cX4_turned 30 = .ok (.aload_n 0, 1) := by decide +kernel
theorem dX4_turned_31 : decode cX4_turned 31 = .ok (.getfield 10, 3) := by decide +kernel
theorem dX4_turned_34 : decode cX4_turned 34 = .ok (.invokevirtual 57, 3) := by decide +kernel
theorem dX4_turned_37 : decode cX4_turned 37 = .ok (.if_icmp .ge 56, 3) := by decide +kernel
theorem dX4_turned_40 : decode cX4_turned 40 = .ok (.aload_n 0, 1) := by decide +kernel
theorem dX4_turned_41 : decode cX4_turned 41 = .ok (.getfield 23, 3) := by decide +kernel
theorem dX4_turned_44 : decode cX4_turned 44 = .ok (.aload_n 0, 1) := by decide +kernel
theorem dX4_turned_45 : decode cX4_turned 45 = .ok (.getfield 10, 3) := by decide +kernel
theorem dX4_turned_48 : decode cX4_turned 48 = .ok (.invokevirtual 111, 3) := by decide +kernel
theorem dX4_turned_51 : decode cX4_turned 51 = .ok (.aload_n 0, 1) := by decide +kernel
theorem dX4_turned_52 : decode cX4_turned 52 = .ok (.getfield 23, 3) := by decide +kernel
theorem dX4_turned_55 : decode cX4_turned 55 = .ok (.iload 5, 2) := by decide +kernel
theorem dX4_turned_57 : decode cX4_turned 57 = .ok (.putfield 128, 3) := by decide +kernel
theorem dX4_turned_60 : decode cX4_turned 60 = .ok (.aload_n 0, 1) := by decide +kernel
theorem dX4_turned_61 : decode cX4_turned 61 = .ok (.getfield 23, 3) := by decide +kernel
theorem dX4_turned_64 : decode cX4_turned 64 = .ok (.invokevirtual 168, 3) := by decide +kernel
theorem dX4_turned_67 : decode cX4_turned 67 = .ok (.iload_n 1, 1) := by decide +kernel
theorem dX4_turned_68 : decode cX4_turned 68 = .ok (.if_icmp .ne 19, 3) := by decide +kernel
theorem dX4_turned_71 : decode cX4_turned 71 = .ok (.iload_n 3, 1) := by decide +kernel
theorem dX4_turned_72 : decode cX4_turned 72 = .ok (.ifCond .ne 8, 3) := by decide +kernel
theorem dX4_turned_75 : decode cX4_turned 75 = .ok (.iload 5, 2) := by decide +kernel
theorem dX4_turned_77 : decode cX4_turned 77 = .ok (.goto 5, 3) := by decide +kernel
theorem dX4_turned_80 : decode cX4_turned 80 = .ok (.iload 4, 2) := by decide +kernel
theorem dX4_turned_82 : decode cX4_turned 82 = .ok (.istore 4, 2) := by decide +kernel
theorem dX4_turned_84 : decode cX4_turned 84 = .ok (.iinc 3 1, 3) := by decide +kernel
theorem dX4_turned_87 : decode cX4_turned 87 = .ok (.iinc 5 1, 3) := by decide +kernel
theorem dX4_turned_90 : decode cX4_turned 90 = .ok (.goto (-62), 3) := by decide +kernel
theorem dX4_turned_93 : decode cX4_turned 93 = .ok (.iload_n 2, 1) := by decide +kernel
theorem dX4_turned_94 : decode cX4_turned 94 = .ok (.ifCond .ne 7, 3) := by decide +kernel
theorem dX4_turned_97 : decode cX4_turned 97 = .ok (.iload_n 3, 1) := by decide +kernel
theorem dX4_turned_98 : decode cX4_turned 98 = .ok (.goto 5, 3) := by decide +kernel
theorem dX4_turned_101 : decode cX4_turned 101 = .ok (.iload 4, 2) := by decide +kernel
theorem dX4_turned_103 : decode cX4_turned 103 = .ok (.ireturn, 1) := by decide +kernel
theorem dX4_luck_0 : decode cX4_luck 0 = .ok (.aload_n 0, 1) := by decide +kernel
theorem dX4_luck_1 : decode cX4_luck 1 = .ok (.iload_n 1, 1) := by decide +kernel
theorem dX4_luck_2 : decode cX4_luck 2 = .ok (.invokevirtual 69, 3) := by decide +kernel
theorem dX4_luck_5 : decode cX4_luck 5 = .ok (.ifCond .ne 22, 3) := by decide +kernel
theorem dX4_luck_8 : decode cX4_luck 8 = .ok (.iload_n 2, 1) := by decide +kernel
theorem dX4_luck_9 : decode cX4_luck 9 = .ok (.iconst 0, 1) := by decide +kernel
theorem dX4_luck_10 : decode cX4_luck 10 = .ok (.bipush 10, 2) := by decide +kernel
theorem dX4_luck_12 : decode cX4_luck 12 = .ok (.invokestatic 46, 3) := by decide +kernel
theorem dX4_luck_15 : decode cX4_luck 15 = .ok (.ifCond .ne 12, 3) := by decide +kernel
theorem dX4_luck_18 : decode cX4_luck 18 = .ok (.iload_n 3, 1) := by decide +kernel
theorem dX4_luck_19 : decode cX4_luck 19 = .ok (.iconst 0, 1) := by decide +kernel
theorem dX4_luck_20 : decode cX4_luck 20 = .ok (.iconst 1, 1) := by decide +kernel
theorem dX4_luck_21 : decode cX4_luck 21 = .ok (.invokestatic 46, 3) := by decide +kernel
theorem dX4_luck_24 : decode cX4_luck 24 = .ok (.ifCond .eq 5, 3) := by decide +kernel
theorem dX4_luck_27 : decode cX4_luck 27 = .ok (.iconst (-1), 1) := by decide +kernel
theorem dX4_luck_28 : decode cX4_luck 28 = .ok (.ireturn, 1) := by decide +kernel
theorem dX4_luck_29 : decode cX4_luck 29 = .ok (.iconst 0, 1) := by decide +kernel
theorem dX4_luck_30 : decode cX4_luck 30 = .ok (.istore 4, 2) := by decide +kernel
theorem dX4_luck_32 : decode cX4_luck 32 = .ok (.iconst 1, 1) := by decide +kernel
theorem dX4_luck_33 : decode cX4_luck 33 = .ok (.istore 5, 2) := by decide +kernel
theorem dX4_luck_35 : decode cX4_luck 35 = .ok (.aload_n 0, 1) := by decide +kernel
theorem dX4_luck_36 : decode cX4_luck 36 = .ok (.getfield 10, 3) := by decide +kernel
theorem dX4_luck_39 : decode cX4_luck 39 = .ok (.iload_n 1, 1) := by decide +kernel
theorem dX4_luck_40 : decode cX4_luck 40 = .ok (.invokevirtual 89, 3) := by decide +kernel
theorem dX4_luck_43 : decode cX4_luck 43 = .ok (.ifCond .eq 71, 3) := by decide +kernel
theorem dX4_luck_46 : decode cX4_luck 46 = .ok (.aload_n 0, 1) := by decide +kernel
theorem dX4_luck_47 : decode cX4_luck 47 = .ok (.getfield 10, 3) := by decide +kernel
theorem dX4_luck_50 : decode cX4_luck 50 = .ok (.iload_n 1, 1) := by decide +kernel
theorem dX4_luck_51 : decode cX4_luck 51 = .ok (.invokevirtual 96, 3) := by decide +kernel
theorem dX4_luck_54 : decode cX4_luck 54 = .ok (.ifCond .le 60, 3) := by decide +kernel
theorem dX4_luck_57 : decode cX4_luck 57 = .ok (.bipush 10, 2) := by decide +kernel
theorem dX4_luck_59 : decode cX4_luck 59 = .ok (.iload_n 2, 1) := by decide +kernel
theorem dX4_luck_60 : decode cX4_luck 60 = .ok (.isub, 1) := by decide +kernel
theorem dX4_luck_61 : decode cX4_luck 61 = .ok (.istore 4, 2) := by decide +kernel
theorem dX4_luck_63 : decode cX4_luck 63 = .ok (.bipush 10, 2) := by decide +kernel
theorem dX4_luck_65 : decode cX4_luck 65 = .ok (.istore 5, 2) := by decide +kernel
theorem dX4_luck_67 : decode cX4_luck 67 = .ok (.iconst 0, 1) := by decide +kernel
theorem dX4_luck_68 : decode cX4_luck 68 = .ok (.istore 6, 2) := by decide +kernel
theorem dX4_luck_70 : decode cX4_luck 70 = .ok (.iload 6, 2) := by decide +kernel
theorem dX4_luck_72 : decode cX4_luck 72 = .ok (.aload_n 0, 1) := by decide +kernel
theorem dX4_luck_73 : decode cX4_luck 73 = .ok (.getfield 10, 3) := by decide +kernel
theorem dX4_luck_76 : decode cX4_luck 76 = .ok (.getfield 61, 3) := by decide +kernel
theorem dX4_luck_79 : decode cX4_luck 79 = .ok (.if_icmp .ge 35, 3) := by decide +kernel
theorem dX4_luck_82 : decode cX4_luck 82 = .ok (.aload_n 0, 1) := by decide +kernel
theorem dX4_luck_83 : decode cX4_luck 83 = .ok (.getfield 10, 3) := by decide +kernel
end
section
theorem dX4_luck_86 : decode cX4_luck 86 = .ok (.iload 6, 2) := by decide +kernel
theorem dX4_luck_88 : decode cX4_luck 88 = .ok (.iload_n 1, 1) := by decide +kernel
theorem dX4_luck_89 : decode cX4_luck 89 = .ok (.invokevirtual 179, 3) := by decide +kernel
theorem dX4_luck_92 : decode cX4_luck 92 = .ok (.ifCond .eq 16, 3) := by decide +kernel
theorem dX4_luck_95 : decode cX4_luck 95 = .ok (.iload 4, 2) := by decide +kernel
theorem dX4_luck_97 : decode cX4_luck 97 = .ok (.iload_n 2, 1) := by decide +kernel
theorem dX4_luck_98 : decode cX4_luck 98 = .ok (.imul, 1) := by decide +kernel
theorem dX4_luck_99 : decode cX4_luck 99 = .ok (.istore 4, 2) := by decide +kernel
theorem dX4_luck_101 : decode cX4_luck 101 = .ok (.iload 5, 2) := by decide +kernel
theorem dX4_luck_103 : decode cX4_luck 103 = .ok (.bipush 10, 2) := by decide +kernel
theorem dX4_luck_105 : decode cX4_luck 105 = .ok (.imul, 1) := by decide +kernel
theorem dX4_luck_106 : decode cX4_luck 106 = .ok (.istore 5, 2) := by decide +kernel
theorem dX4_luck_108 : decode cX4_luck 108 = .ok (.iinc 6 1, 3) := by decide +kernel
theorem dX4_luck_111 : decode cX4_luck 111 = .ok (.goto (-41), 3) := by decide +kernel
theorem dX4_luck_114 : decode cX4_luck 114 = .ok (.iload 4, 2) := by decide +kernel
theorem dX4_luck_116 : decode cX4_luck 116 = .ok (.iload 5, 2) := by decide +kernel
theorem dX4_luck_118 : decode cX4_luck 118 = .ok (.invokestatic 183, 3) := by decide +kernel
theorem dX4_luck_121 : decode cX4_luck 121 = .ok (.istore 6, 2) := by decide +kernel
theorem dX4_luck_123 : decode cX4_luck 123 = .ok (.iload 6, 2) := by decide +kernel
theorem dX4_luck_125 : decode cX4_luck 125 = .ok (.ifCond .ne 5, 3) := by decide +kernel
theorem dX4_luck_128 : decode cX4_luck 128 = .ok (.iconst (-1), 1) := by decide +kernel
theorem dX4_luck_129 : decode cX4_luck 129 = .ok (.ireturn, 1) := by decide +kernel
theorem dX4_luck_130 : decode cX4_luck 130 = .ok (.iload_n 3, 1) := by decide +kernel
theorem dX4_luck_131 : decode cX4_luck 131 = .ok (.ifCond .ne 8, 3) := by decide +kernel
theorem dX4_luck_134 : decode cX4_luck 134 = .ok (.iload 4, 2) := by decide +kernel
theorem dX4_luck_136 : decode cX4_luck 136 = .ok (.goto 5, 3) := by decide +kernel
theorem dX4_luck_139 : decode cX4_luck 139 = .ok (.iload 5, 2) := by decide +kernel
theorem dX4_luck_141 : decode cX4_luck 141 = .ok (.iload 6, 2) := by decide +kernel
theorem dX4_luck_143 : decode cX4_luck 143 = .ok (.idiv, 1) := by decide +kernel
theorem dX4_luck_144 : decode cX4_luck 144 = .ok (.ireturn, 1) := by decide +kernel
theorem dX4_image_0 : decode cX4_image 0 = .ok (.aload_n 0, 1) := by decide +kernel
theorem dX4_image_1 : decode cX4_image 1 = .ok (.getfield 26, 3) := by decide +kernel
theorem dX4_image_4 : decode cX4_image 4 = .ok (.aload_n 0, 1) := by decide +kernel
theorem dX4_image_5 : decode cX4_image 5 = .ok (.getfield 10, 3) := by decide +kernel
theorem dX4_image_8 : decode cX4_image 8 = .ok (.invokevirtual 111, 3) := by decide +kernel
theorem dX4_image_11 : decode cX4_image 11 = .ok (.aload_n 0, 1) := by decide +kernel
theorem dX4_image_12 : decode cX4_image 12 = .ok (.getfield 29, 3) := by decide +kernel
theorem dX4_image_15 : decode cX4_image 15 = .ok (.aload_n 0, 1) := by decide +kernel
theorem dX4_image_16 : decode cX4_image 16 = .ok (.getfield 19, 3) := by decide +kernel
theorem dX4_image_19 : decode cX4_image 19 = .ok (.invokevirtual 186, 3) := by decide +kernel
theorem dX4_image_22 : decode cX4_image 22 = .ok (.aload_n 0, 1) := by decide +kernel
theorem dX4_image_23 : decode cX4_image 23 = .ok (.iconst 1, 1) := by decide +kernel
theorem dX4_image_24 : decode cX4_image 24 = .ok (.putfield 190, 3) := by decide +kernel
theorem dX4_image_27 : decode cX4_image 27 = .ok (.iconst 1, 1) := by decide +kernel
theorem dX4_image_28 : decode cX4_image 28 = .ok (.ireturn, 1) := by decide +kernel
theorem dX4_restore_0 : decode cX4_restore 0 = .ok (.aload_n 0, 1) := by decide +kernel
theorem dX4_restore_1 : decode cX4_restore 1 = .ok (.getfield 190, 3) := by decide +kernel
theorem dX4_restore_4 : decode cX4_restore 4 = .ok (.ifCond .ne 6, 3) := by decide +kernel
theorem dX4_restore_7 : decode cX4_restore 7 = .ok (.bipush (-4), 2) := by decide +kernel
theorem dX4_restore_9 : decode cX4_restore 9 = .ok (.ireturn, 1) := by decide +kernel
theorem dX4_restore_10 : decode cX4_restore 10 = .ok (.aload_n 0, 1) := by decide +kernel
theorem dX4_restore_11 : decode cX4_restore 11 = .ok (.getfield 10, 3) := by decide +kernel
theorem dX4_restore_14 : decode cX4_restore 14 = .ok (.aload_n 0, 1) := by decide +kernel
theorem dX4_restore_15 : decode cX4_restore 15 = .ok (.getfield 26, 3) := by decide +kernel
theorem dX4_restore_18 : decode cX4_restore 18 = .ok (.invokevirtual 111, 3) := by decide +kernel
theorem dX4_restore_21 : decode cX4_restore 21 = .ok (.aload_n 0, 1) := by decide +kernel
theorem dX4_restore_22 : decode cX4_restore 22 = .ok (.getfield 19, 3) := by decide +kernel
theorem dX4_restore_25 : decode cX4_restore 25 = .ok (.aload_n 0, 1) := by decide +kernel
theorem dX4_restore_26 : decode cX4_restore 26 = .ok (.getfield 29, 3) := by decide +kernel
theorem dX4_restore_29 : decode cX4_restore 29 = .ok (.invokevirtual 186, 3) := by decide +kernel
theorem dX4_restore_32 : decode cX4_restore 32 = .ok (.iconst 1, 1) := by decide +kernel
theorem dX4_restore_33 : decode cX4_restore 33 = .ok (.ireturn, 1) := by decide +kernel
theorem dX4_seen_0 : decode cX4_seen 0 = .ok (.iload_n 1, 1) := by decide +kernel
theorem dX4_seen_1 : decode cX4_seen 1 = .ok (.invokestatic 194, 3) := by decide +kernel
theorem dX4_seen_4 : decode cX4_seen 4 = .ok (.ifCond .ne 33, 3) := by decide +kernel
theorem dX4_seen_7 : decode cX4_seen 7 = .ok (.iload_n 2, 1) := by decide +kernel
theorem dX4_seen_8 : decode cX4_seen 8 = .ok (.iconst 0, 1) := by decide +kernel
theorem dX4_seen_9 : decode cX4_seen 9 = .ok (.iconst 3, 1) := by decide +kernel
theorem dX4_seen_10 : decode cX4_seen 10 = .ok (.invokestatic 46, 3) := by decide +kernel
theorem dX4_seen_13 : decode cX4_seen 13 = .ok (.ifCond .ne 24, 3) := by decide +kernel
theorem dX4_seen_16 : decode cX4_seen 16 = .ok (.iload 4, 2) := by decide +kernel
theorem dX4_seen_18 : decode cX4_seen 18 = .ok (.iconst 1, 1) := by decide +kernel
theorem dX4_seen_19 : decode cX4_seen 19 = .ok (.bipush 8, 2) := by decide +kernel
theorem dX4_seen_21 : decode cX4_seen 21 = .ok (.invokestatic 46, 3) := by decide +kernel
theorem dX4_seen_24 : decode cX4_seen 24 = .ok (.ifCond .ne 13, 3) := by decide +kernel
theorem dX4_seen_27 : decode cX4_seen 27 = .ok (.iload 5, 2) := by decide +kernel
theorem dX4_seen_29 : decode cX4_seen 29 = .ok (.iconst 0, 1) := by decide +kernel
theorem dX4_seen_30 : decode cX4_seen 30 = .ok (.iconst 1, 1) := by decide +kernel
theorem dX4_seen_31 : decode cX4_seen 31 = .ok (.invokestatic 46, 3) := by decide +kernel
theorem dX4_seen_34 : decode cX4_seen 34 = .ok (.ifCond .eq 5, 3) := by decide +kernel
theorem dX4_seen_37 : decode cX4_seen 37 = .ok (.iconst (-1), 1) := by decide +kernel
theorem dX4_seen_38 : decode cX4_seen 38 = .ok (.ireturn, 1) := by decide +kernel
theorem dX4_seen_39 : decode cX4_seen 39 = .ok (.aload_n 0, 1) := by decide +kernel
theorem dX4_seen_40 : decode cX4_seen 40 = .ok (.getfield 41, 3) := by decide +kernel
theorem dX4_seen_43 : decode cX4_seen 43 = .ok (.iload_n 1, 1) := by decide +kernel
theorem dX4_seen_44 : decode cX4_seen 44 = .ok (.aaload, 1) := by decide +kernel
theorem dX4_seen_45 : decode cX4_seen 45 = .ok (.astore 6, 2) := by decide +kernel
theorem dX4_seen_47 : decode cX4_seen 47 = .ok (.aload 6, 2) := by decide +kernel
theorem dX4_seen_49 : decode cX4_seen 49 = .ok (.iload_n 2, 1) := by decide +kernel
theorem dX4_seen_50 : decode cX4_seen 50 = .ok (.iload_n 3, 1) := by decide +kernel
theorem dX4_seen_51 : decode cX4_seen 51 = .ok (.iload 4, 2) := by decide +kernel
theorem dX4_seen_53 : decode cX4_seen 53 = .ok (.invokevirtual 197, 3) := by decide +kernel
theorem dX4_seen_56 : decode cX4_seen 56 = .ok (.istore 7, 2) := by decide +kernel
theorem dX4_seen_58 : decode cX4_seen 58 = .ok (.iload 7, 2) := by decide +kernel
theorem dX4_seen_60 : decode cX4_seen 60 = .ok (.ifCond .ge 6, 3) := by decide +kernel
theorem dX4_seen_63 : decode cX4_seen 63 = .ok (.iload 7, 2) := by decide +kernel
theorem dX4_seen_65 : decode cX4_seen 65 = .ok (.ireturn, 1) := by decide +kernel
theorem dX4_seen_66 : decode cX4_seen 66 = .ok (.iconst 0, 1) := by decide +kernel
theorem dX4_seen_67 : decode cX4_seen 67 = .ok (.istore 8, 2) := by decide +kernel
theorem dX4_seen_69 : decode cX4_seen 69 = .ok (.bipush (-4), 2) := by decide +kernel
theorem dX4_seen_71 : decode cX4_seen 71 = .ok (.istore 9, 2) := by decide +kernel
theorem dX4_seen_73 : decode cX4_seen 73 = .ok (.iconst 0, 1) := by decide +kernel
theorem dX4_seen_74 : decode cX4_seen 74 = .ok (.istore 10, 2) := by decide +kernel
theorem dX4_seen_76 : decode cX4_seen 76 = .ok (.iload 10, 2) := by decide +kernel
theorem dX4_seen_78 : decode cX4_seen 78 = .ok (.aload_n 0, 1) := by decide +kernel
theorem dX4_seen_79 : decode cX4_seen 79 = .ok (.getfield 10, 3) := by decide +kernel
theorem dX4_seen_82 : decode cX4_seen 82 = .ok (.invokevirtual 57, 3) := by decide +kernel
theorem dX4_seen_85 : decode cX4_seen 85 = .ok (.if_icmp .ge 61, 3) := by decide +kernel
theorem dX4_seen_88 : decode cX4_seen 88 = .ok (.aload_n 0, 1) := by decide +kernel
theorem dX4_seen_89 : decode cX4_seen 89 = .ok (.getfield 23, 3) := by decide +kernel
theorem dX4_seen_92 : decode cX4_seen 92 = .ok (.aload_n 0, 1) := by decide +kernel
theorem dX4_seen_93 : decode cX4_seen 93 = .ok (.getfield 10, 3) := by decide +kernel
theorem dX4_seen_96 : decode cX4_seen 96 = .ok (.invokevirtual 111, 3) := by decide +kernel
theorem dX4_seen_99 : decode cX4_seen 99 = .ok (.aload_n 0, 1) := by decide +kernel
theorem dX4_seen_100 : decode cX4_seen 100 = .ok (.getfield 23, 3) := by decide +kernel
theorem dX4_seen_103 : decode cX4_seen 103 = .ok (.iload 10, 2) := by decide +kernel
theorem dX4_seen_105 : decode cX4_seen 105 = .ok (.putfield 128, 3) := by decide +kernel
theorem dX4_seen_108 : decode cX4_seen 108 = .ok (.aload 6, 2) := by decide +kernel
theorem dX4_seen_110 : decode cX4_seen 110 = .ok (.aload_n 0, 1) := by decide +kernel
theorem dX4_seen_111 : decode cX4_seen 111 = .ok (.getfield 23, 3) := by decide +kernel
theorem dX4_seen_114 : decode cX4_seen 114 = .ok (.iload_n 3, 1) := by decide +kernel
theorem dX4_seen_115 : decode cX4_seen 115 = .ok (.iload 4, 2) := by decide +kernel
theorem dX4_seen_117 : decode cX4_seen 117 = .ok (.invokevirtual 201, 3) := by decide +kernel
theorem dX4_seen_120 : decode cX4_seen 120 = .ok (.ifCond .eq 20, 3) := by decide +kernel
theorem dX4_seen_123 : decode cX4_seen 123 = .ok (.iload 8, 2) := by decide +kernel
theorem dX4_seen_125 : decode cX4_seen 125 = .ok (.ifCond .ne 8, 3) := by decide +kernel
theorem dX4_seen_128 : decode cX4_seen 128 = .ok (.iload 10, 2) := by decide +kernel
theorem dX4_seen_130 : decode cX4_seen 130 = .ok (.goto 5, 3) := by decide +kernel
theorem dX4_seen_133 : decode cX4_seen 133 = .ok (.iload 9, 2) := by decide +kernel
theorem dX4_seen_135 : decode cX4_seen 135 = .ok (.istore 9, 2) := by decide +kernel
theorem dX4_seen_137 : decode cX4_seen 137 = .ok (.iinc 8 1, 3) := by decide +kernel
theorem dX4_seen_140 : decode cX4_seen 140 = .ok (.iinc 10 1, 3) := by decide +kernel
theorem dX4_seen_143 : decode cX4_seen 143 = .ok (.goto (-67), 3) := by decide +kernel
theorem dX4_seen_146 : decode cX4_seen 146 = .ok (.iload 5, 2) := by decide +kernel
theorem dX4_seen_148 : decode cX4_seen 148 = .ok (.ifCond .ne 8, 3) := by decide +kernel
theorem dX4_seen_151 : decode cX4_seen 151 = .ok (.iload 8, 2) := by decide +kernel
theorem dX4_seen_153 : decode cX4_seen 153 = .ok (.goto 5, 3) := by decide +kernel
theorem dX4_seen_156 : decode cX4_seen 156 = .ok (.iload 9, 2) := by decide +kernel
theorem dX4_seen_158 : decode cX4_seen 158 = .ok (.ireturn, 1) := by decide +kernel
theorem dX4_film_0 : decode cX4_film 0 = .ok (.iload_n 1, 1) := by decide +kernel
theorem dX4_film_1 : decode cX4_film 1 = .ok (.iconst 1, 1) := by decide +kernel
theorem dX4_film_2 : decode cX4_film 2 = .ok (.bipush 24, 2) := by decide +kernel
theorem dX4_film_4 : decode cX4_film 4 = .ok (.invokestatic 46, 3) := by decide +kernel
theorem dX4_film_7 : decode cX4_film 7 = .ok (.ifCond .ne 19, 3) := by decide +kernel
theorem dX4_film_10 : decode cX4_film 10 = .ok (.iload_n 2, 1) := by decide +kernel
theorem dX4_film_11 : decode cX4_film 11 = .ok (.invokestatic 194, 3) := by decide +kernel
theorem dX4_film_14 : decode cX4_film 14 = .ok (.ifCond .ne 12, 3) := by decide +kernel
theorem dX4_film_17 : decode cX4_film 17 = .ok (.iload_n 3, 1) := by decide +kernel
theorem dX4_film_18 : decode cX4_film 18 = .ok (.iconst 0, 1) := by decide +kernel
theorem dX4_film_19 : decode cX4_film 19 = .ok (.iconst 3, 1) := by decide +kernel
theorem dX4_film_20 : decode cX4_film 20 = .ok (.invokestatic 46, 3) := by decide +kernel
theorem dX4_film_23 : decode cX4_film 23 = .ok (.ifCond .eq 5, 3) := by decide +kernel
theorem dX4_film_26 : decode cX4_film 26 = .ok (.iconst (-1), 1) := by decide +kernel
theorem dX4_film_27 : decode cX4_film 27 = .ok (.ireturn, 1) := by decide +kernel
theorem dX4_film_28 : decode cX4_film 28 = .ok (.aload_n 0, 1) := by decide +kernel
theorem dX4_film_29 : decode cX4_film 29 = .ok (.getfield 41, 3) := by decide +kernel
theorem dX4_film_32 : decode cX4_film 32 = .ok (.iload_n 2, 1) := by decide +kernel
theorem dX4_film_33 : decode cX4_film 33 = .ok (.aaload, 1) := by decide +kernel
theorem dX4_film_34 : decode cX4_film 34 = .ok (.astore 5, 2) := by decide +kernel
theorem dX4_film_36 : decode cX4_film 36 = .ok (.aload 5, 2) := by decide +kernel
theorem dX4_film_38 : decode cX4_film 38 = .ok (.iload_n 3, 1) := by decide +kernel
theorem dX4_film_39 : decode cX4_film 39 = .ok (.iload 4, 2) := by decide +kernel
theorem dX4_film_41 : decode cX4_film 41 = .ok (.iload_n 1, 1) := by decide +kernel
theorem dX4_film_42 : decode cX4_film 42 = .ok (.invokevirtual 197, 3) := by decide +kernel
theorem dX4_film_45 : decode cX4_film 45 = .ok (.istore 6, 2) := by decide +kernel
theorem dX4_film_47 : decode cX4_film 47 = .ok (.iload 6, 2) := by decide +kernel
theorem dX4_film_49 : decode cX4_film 49 = .ok (.ifCond .ge 6, 3) := by decide +kernel
theorem dX4_film_52 : decode cX4_film 52 = .ok (.iload 6, 2) := by decide +kernel
theorem dX4_film_54 : decode cX4_film 54 = .ok (.ireturn, 1) := by decide +kernel
theorem dX4_film_55 : decode cX4_film 55 = .ok (.aload_n 0, 1) := by decide +kernel
theorem dX4_film_56 : decode cX4_film 56 = .ok (.getfield 23, 3) := by decide +kernel
theorem dX4_film_59 : decode cX4_film 59 = .ok (.aload_n 0, 1) := by decide +kernel
theorem dX4_film_60 : decode cX4_film 60 = .ok (.getfield 10, 3) := by decide +kernel
theorem dX4_film_63 : decode cX4_film 63 = .ok (.invokevirtual 111, 3) := by decide +kernel
theorem dX4_film_66 : decode cX4_film 66 = .ok (.iconst 0, 1) := by decide +kernel
theorem dX4_film_67 : decode cX4_film 67 = .ok (.istore 7, 2) := by decide +kernel
theorem dX4_film_69 : decode cX4_film 69 = .ok (.iload 7, 2) := by decide +kernel
theorem dX4_film_71 : decode cX4_film 71 = .ok (.iload_n 1, 1) := by decide +kernel
theorem dX4_film_72 : decode cX4_film 72 = .ok (.if_icmp .ge 35, 3) := by decide +kernel
theorem dX4_film_75 : decode cX4_film 75 = .ok (.aload_n 0, 1) := by decide +kernel
theorem dX4_film_76 : decode cX4_film 76 = .ok (.getfield 23, 3) := by decide +kernel
theorem dX4_film_79 : decode cX4_film 79 = .ok (.invokevirtual 152, 3) := by decide +kernel
theorem dX4_film_82 : decode cX4_film 82 = .ok (.pop, 1) := by decide +kernel
theorem dX4_film_83 : decode cX4_film 83 = .ok (.aload 5, 2) := by decide +kernel
theorem dX4_film_85 : decode cX4_film 85 = .ok (.iload 4, 2) := by decide +kernel
theorem dX4_film_87 : decode cX4_film 87 = .ok (.iload 7, 2) := by decide +kernel
theorem dX4_film_89 : decode cX4_film 89 = .ok (.iadd, 1) := by decide +kernel
theorem dX4_film_90 : decode cX4_film 90 = .ok (.aload_n 0, 1) := by decide +kernel
theorem dX4_film_91 : decode cX4_film 91 = .ok (.getfield 23, 3) := by decide +kernel
theorem dX4_film_94 : decode cX4_film 94 = .ok (.getfield 128, 3) := by decide +kernel
theorem dX4_film_97 : decode cX4_film 97 = .ok (.i2l, 1) := by decide +kernel
theorem dX4_film_98 : decode cX4_film 98 = .ok (.invokevirtual 205, 3) := by decide +kernel
theorem dX4_film_101 : decode cX4_film 101 = .ok (.iinc 7 1, 3) := by decide +kernel
theorem dX4_film_104 : decode cX4_film 104 = .ok (.goto (-35), 3) := by decide +kernel
theorem dX4_film_107 : decode cX4_film 107 = .ok (.iload_n 1, 1) := by decide +kernel
theorem dX4_film_108 : decode cX4_film 108 = .ok (.ireturn, 1) := by decide +kernel
theorem dX4_sheet_0 : decode cX4_sheet 0 = .ok (.iload_n 1, 1) := by decide +kernel
theorem dX4_sheet_1 : decode cX4_sheet 1 = .ok (.invokestatic 194, 3) := by decide +kernel
theorem dX4_sheet_4 : decode cX4_sheet 4 = .ok (.ifCond .ne 18, 3) := by decide +kernel
theorem dX4_sheet_7 : decode cX4_sheet 7 = .ok (.iload_n 2, 1) := by decide +kernel
theorem dX4_sheet_8 : decode cX4_sheet 8 = .ok (.iconst 0, 1) := by decide +kernel
theorem dX4_sheet_9 : decode cX4_sheet 9 = .ok (.iconst 3, 1) := by decide +kernel
theorem dX4_sheet_10 : decode cX4_sheet 10 = .ok (.invokestatic 46, 3) := by decide +kernel
theorem dX4_sheet_13 : decode cX4_sheet 13 = .ok (.ifCond .ne 9, 3) := by decide +kernel
theorem dX4_sheet_16 : decode cX4_sheet 16 = .ok (.iload_n 3, 1) := by decide +kernel
theorem dX4_sheet_17 : decode cX4_sheet 17 = .ok (.bipush 24, 2) := by decide +kernel
theorem dX4_sheet_19 : decode cX4_sheet 19 = .ok (.if_icmp .le 5, 3) := by decide +kernel
theorem dX4_sheet_22 : decode cX4_sheet 22 = .ok (.iconst (-1), 1) := by decide +kernel
theorem dX4_sheet_23 : decode cX4_sheet 23 = .ok (.ireturn, 1) := by decide +kernel
theorem dX4_sheet_24 : decode cX4_sheet 24 = .ok (.iload_n 3, 1) := by decide +kernel
theorem dX4_sheet_25 : decode cX4_sheet 25 = .ok (.ifCond .ge 6, 3) := by decide +kernel
theorem dX4_sheet_28 : decode cX4_sheet 28 = .ok (.bipush (-14), 2) := by decide +kernel
theorem dX4_sheet_30 : decode cX4_sheet 30 = .ok (.ireturn, 1) := by decide +kernel
theorem dX4_sheet_31 : decode cX4_sheet 31 = .ok (.aload_n 0, 1) := by decide +kernel
theorem dX4_sheet_32 : decode cX4_sheet 32 = .ok (.getfield 41, 3) := by decide +kernel
theorem dX4_sheet_35 : decode cX4_sheet 35 = .ok (.iload_n 1, 1) := by decide +kernel
theorem dX4_sheet_36 : decode cX4_sheet 36 = .ok (.aaload, 1) := by decide +kernel
theorem dX4_sheet_37 : decode cX4_sheet 37 = .ok (.iload_n 2, 1) := by decide +kernel
theorem dX4_sheet_38 : decode cX4_sheet 38 = .ok (.iload_n 3, 1) := by decide +kernel
theorem dX4_sheet_39 : decode cX4_sheet 39 = .ok (.invokevirtual 209, 3) := by decide +kernel
theorem dX4_sheet_42 : decode cX4_sheet 42 = .ok (.iload_n 3, 1) := by decide +kernel
theorem dX4_sheet_43 : decode cX4_sheet 43 = .ok (.ireturn, 1) := by decide +kernel
theorem dX4_drop_0 : decode cX4_drop 0 = .ok (.iload_n 1, 1) := by decide +kernel
theorem dX4_drop_1 : decode cX4_drop 1 = .ok (.invokestatic 194, 3) := by decide +kernel
theorem dX4_drop_4 : decode cX4_drop 4 = .ok (.ifCond .eq 5, 3) := by decide +kernel
theorem dX4_drop_7 : decode cX4_drop 7 = .ok (.iconst (-1), 1) := by decide +kernel
theorem dX4_drop_8 : decode cX4_drop 8 = .ok (.ireturn, 1) := by decide +kernel
theorem dX4_drop_9 : decode cX4_drop 9 = .ok (.aload_n 0, 1) := by decide +kernel
theorem dX4_drop_10 : decode cX4_drop 10 = .ok (.getfield 41, 3) := by decide +kernel
theorem dX4_drop_13 : decode cX4_drop 13 = .ok (.iload_n 1, 1) := by decide +kernel
theorem dX4_drop_14 : decode cX4_drop 14 = .ok (.aaload, 1) := by decide +kernel
theorem dX4_drop_15 : decode cX4_drop 15 = .ok (.astore_n 2, 1) := by decide +kernel
theorem dX4_drop_16 : decode cX4_drop 16 = .ok (.aload_n 2, 1) := by decide +kernel
theorem dX4_drop_17 : decode cX4_drop 17 = .ok (.invokevirtual 212, 3) := by decide +kernel
theorem dX4_drop_20 : decode cX4_drop 20 = .ok (.ifCond .eq 6, 3) := by decide +kernel
theorem dX4_drop_23 : decode cX4_drop 23 = .ok (.bipush (-11), 2) := by decide +kernel
theorem dX4_drop_25 : decode cX4_drop 25 = .ok (.ireturn, 1) := by decide +kernel
theorem dX4_drop_26 : decode cX4_drop 26 = .ok (.aload_n 2, 1) := by decide +kernel
theorem dX4_drop_27 : decode cX4_drop 27 = .ok (.getfield 216, 3) := by decide +kernel
theorem dX4_drop_30 : decode cX4_drop 30 = .ok (.istore_n 3, 1) := by decide +kernel
theorem dX4_drop_31 : decode cX4_drop 31 = .ok (.aload_n 2, 1) := by decide +kernel
theorem dX4_drop_32 : decode cX4_drop 32 = .ok (.invokevirtual 217, 3) := by decide +kernel
theorem dX4_drop_35 : decode cX4_drop 35 = .ok (.iload_n 3, 1) := by decide +kernel
theorem dX4_drop_36 : decode cX4_drop 36 = .ok (.ireturn, 1) := by decide +kernel
theorem dX4_item_0 : decode cX4_item 0 = .ok (.iload_n 1, 1) := by decide +kernel
theorem dX4_item_1 : decode cX4_item 1 = .ok (.invokestatic 194, 3) := by decide +kernel
theorem dX4_item_4 : decode cX4_item 4 = .ok (.ifCond .ne 12, 3) := by decide +kernel
theorem dX4_item_7 : decode cX4_item 7 = .ok (.iload_n 2, 1) := by decide +kernel
theorem dX4_item_8 : decode cX4_item 8 = .ok (.iconst 0, 1) := by decide +kernel
theorem dX4_item_9 : decode cX4_item 9 = .ok (.iconst 3, 1) := by decide +kernel
theorem dX4_item_10 : decode cX4_item 10 = .ok (.invokestatic 46, 3) := by decide +kernel
theorem dX4_item_13 : decode cX4_item 13 = .ok (.ifCond .eq 5, 3) := by decide +kernel
theorem dX4_item_16 : decode cX4_item 16 = .ok (.iconst (-1), 1) := by decide +kernel
theorem dX4_item_17 : decode cX4_item 17 = .ok (.ireturn, 1) := by decide +kernel
theorem dX4_item_18 : decode cX4_item 18 = .ok (.aload_n 0, 1) := by decide +kernel
theorem dX4_item_19 : decode cX4_item 19 = .ok (.getfield 41, 3) := by decide +kernel
theorem dX4_item_22 : decode cX4_item 22 = .ok (.iload_n 1, 1) := by decide +kernel
theorem dX4_item_23 : decode cX4_item 23 = .ok (.aaload, 1) := by decide +kernel
theorem dX4_item_24 : decode cX4_item 24 = .ok (.iload_n 2, 1) := by decide +kernel
theorem dX4_item_25 : decode cX4_item 25 = .ok (.iload_n 3, 1) := by decide +kernel
theorem dX4_item_26 : decode cX4_item 26 = .ok (.iconst 1, 1) := by decide +kernel
theorem dX4_item_27 : decode cX4_item 27 = .ok (.invokevirtual 197, 3) := by decide +kernel
theorem dX4_item_30 : decode cX4_item 30 = .ok (.istore 6, 2) := by decide +kernel
theorem dX4_item_32 : decode cX4_item 32 = .ok (.iload 6, 2) := by decide +kernel
theorem dX4_item_34 : decode cX4_item 34 = .ok (.ifCond .ge 6, 3) := by decide +kernel
theorem dX4_item_37 : decode cX4_item 37 = .ok (.iload 6, 2) := by decide +kernel
theorem dX4_item_39 : decode cX4_item 39 = .ok (.ireturn, 1) := by decide +kernel
theorem dX4_item_40 : decode cX4_item 40 = .ok (.aload_n 0, 1) := by decide +kernel
theorem dX4_item_41 : decode cX4_item 41 = .ok (.getfield 41, 3) := by decide +kernel
theorem dX4_item_44 : decode cX4_item 44 = .ok (.iload_n 1, 1) := by decide +kernel
theorem dX4_item_45 : decode cX4_item 45 = .ok (.aaload, 1) := by decide +kernel
theorem dX4_item_46 : decode cX4_item 46 = .ok (.iload_n 3, 1) := by decide +kernel
theorem dX4_item_47 : decode cX4_item 47 = .ok (.lload 4, 2) := by decide +kernel
theorem dX4_item_49 : decode cX4_item 49 = .ok (.invokevirtual 205, 3) := by decide +kernel
theorem dX4_item_52 : decode cX4_item 52 = .ok (.iconst 1, 1) := by decide +kernel
theorem dX4_item_53 : decode cX4_item 53 = .ok (.ireturn, 1) := by decide +kernel
theorem dX4_copy_0 : decode cX4_copy 0 = .ok (.iload_n 1, 1) := by decide +kernel
theorem dX4_copy_1 : decode cX4_copy 1 = .ok (.invokestatic 194, 3) := by decide +kernel
theorem dX4_copy_4 : decode cX4_copy 4 = .ok (.ifCond .ne 10, 3) := by decide +kernel
theorem dX4_copy_7 : decode cX4_copy 7 = .ok (.iload_n 3, 1) := by decide +kernel
theorem dX4_copy_8 : decode cX4_copy 8 = .ok (.invokestatic 194, 3) := by decide +kernel
theorem dX4_copy_11 : decode cX4_copy 11 = .ok (.ifCond .eq 5, 3) := by decide +kernel
theorem dX4_copy_14 : decode cX4_copy 14 = .ok (.iconst (-1), 1) := by decide +kernel
theorem dX4_copy_15 : decode cX4_copy 15 = .ok (.ireturn, 1) := by decide +kernel
theorem dX4_copy_16 : decode cX4_copy 16 = .ok (.aload_n 0, 1) := by decide +kernel
theorem dX4_copy_17 : decode cX4_copy 17 = .ok (.getfield 41, 3) := by decide +kernel
theorem dX4_copy_20 : decode cX4_copy 20 = .ok (.iload_n 1, 1) := by decide +kernel
theorem dX4_copy_21 : decode cX4_copy 21 = .ok (.aaload, 1) := by decide +kernel
theorem dX4_copy_22 : decode cX4_copy 22 = .ok (.astore 6, 2) := by decide +kernel
theorem dX4_copy_24 : decode cX4_copy 24 = .ok (.aload_n 0, 1) := by decide +kernel
theorem dX4_copy_25 : decode cX4_copy 25 = .ok (.getfield 41, 3) := by decide +kernel
theorem dX4_copy_28 : decode cX4_copy 28 = .ok (.iload_n 3, 1) := by decide +kernel
theorem dX4_copy_29 : decode cX4_copy 29 = .ok (.aaload, 1) := by decide +kernel
theorem dX4_copy_30 : decode cX4_copy 30 = .ok (.astore 7, 2) := by decide +kernel
theorem dX4_copy_32 : decode cX4_copy 32 = .ok (.aload 6, 2) := by decide +kernel
theorem dX4_copy_34 : decode cX4_copy 34 = .ok (.invokevirtual 212, 3) := by decide +kernel
theorem dX4_copy_37 : decode cX4_copy 37 = .ok (.ifCond .ne 11, 3) := by decide +kernel
theorem dX4_copy_40 : decode cX4_copy 40 = .ok (.aload 7, 2) := by decide +kernel
theorem dX4_copy_42 : decode cX4_copy 42 = .ok (.invokevirtual 212, 3) := by decide +kernel
theorem dX4_copy_45 : decode cX4_copy 45 = .ok (.ifCond .eq 6, 3) := by decide +kernel
theorem dX4_copy_48 : decode cX4_copy 48 = .ok (.bipush (-11), 2) := by decide +kernel
theorem dX4_copy_50 : decode cX4_copy 50 = .ok (.ireturn, 1) := by decide +kernel
theorem dX4_copy_51 : decode cX4_copy 51 = .ok (.aload 6, 2) := by decide +kernel
theorem dX4_copy_53 : decode cX4_copy 53 = .ok (.getfield 220, 3) := by decide +kernel
theorem dX4_copy_56 : decode cX4_copy 56 = .ok (.aload 7, 2) := by decide +kernel
theorem dX4_copy_58 : decode cX4_copy 58 = .ok (.getfield 220, 3) := by decide +kernel
theorem dX4_copy_61 : decode cX4_copy 61 = .ok (.if_icmp .eq 6, 3) := by decide +kernel
theorem dX4_copy_64 : decode cX4_copy 64 = .ok (.bipush (-12), 2) := by decide +kernel
theorem dX4_copy_66 : decode cX4_copy 66 = .ok (.ireturn, 1) := by decide +kernel
theorem dX4_copy_67 : decode cX4_copy 67 = .ok (.aload 6, 2) := by decide +kernel
theorem dX4_copy_69 : decode cX4_copy 69 = .ok (.iload_n 2, 1) := by decide +kernel
theorem dX4_copy_70 : decode cX4_copy 70 = .ok (.iload 5, 2) := by decide +kernel
theorem dX4_copy_72 : decode cX4_copy 72 = .ok (.invokevirtual 223, 3) := by decide +kernel
theorem dX4_copy_75 : decode cX4_copy 75 = .ok (.ifCond .eq 15, 3) := by decide +kernel
theorem dX4_copy_78 : decode cX4_copy 78 = .ok (.aload 7, 2) := by decide +kernel
theorem dX4_copy_80 : decode cX4_copy 80 = .ok (.iload 4, 2) := by decide +kernel
theorem dX4_copy_82 : decode cX4_copy 82 = .ok (.iload 5, 2) := by decide +kernel
theorem dX4_copy_84 : decode cX4_copy 84 = .ok (.invokevirtual 223, 3) := by decide +kernel
theorem dX4_copy_87 : decode cX4_copy 87 = .ok (.ifCond .ne 6, 3) := by decide +kernel
theorem dX4_copy_90 : decode cX4_copy 90 = .ok (.bipush (-13), 2) := by decide +kernel
theorem dX4_copy_92 : decode cX4_copy 92 = .ok (.ireturn, 1) := by decide +kernel
theorem dX4_copy_93 : decode cX4_copy 93 = .ok (.aload 6, 2) := by decide +kernel
theorem dX4_copy_95 : decode cX4_copy 95 = .ok (.getfield 226, 3) := by decide +kernel
theorem dX4_copy_98 : decode cX4_copy 98 = .ok (.iload_n 2, 1) := by decide +kernel
theorem dX4_copy_99 : decode cX4_copy 99 = .ok (.aload 7, 2) := by decide +kernel
theorem dX4_copy_101 : decode cX4_copy 101 = .ok (.getfield 226, 3) := by decide +kernel
theorem dX4_copy_104 : decode cX4_copy 104 = .ok (.iload 4, 2) := by decide +kernel
theorem dX4_copy_106 : decode cX4_copy 106 = .ok (.iload 5, 2) := by decide +kernel
theorem dX4_copy_108 : decode cX4_copy 108 = .ok (.invokestatic 230, 3) := by decide +kernel
theorem dX4_copy_111 : decode cX4_copy 111 = .ok (.iload 5, 2) := by decide +kernel
theorem dX4_copy_113 : decode cX4_copy 113 = .ok (.ireturn, 1) := by decide +kernel
theorem dX4_isNobody_0 : decode cX4_isNobody 0 = .ok (.iload_n 1, 1) := by decide +kernel
theorem dX4_isNobody_1 : decode cX4_isNobody 1 = .ok (.ifCond .lt 14, 3) := by decide +kernel
theorem dX4_isNobody_4 : decode cX4_isNobody 4 = .ok (.iload_n 1, 1) := by decide +kernel
theorem dX4_isNobody_5 : decode cX4_isNobody 5 = .ok (.aload_n 0, 1) := by decide +kernel
theorem dX4_isNobody_6 : decode cX4_isNobody 6 = .ok (.getfield 10, 3) := by decide +kernel
theorem dX4_isNobody_9 : decode cX4_isNobody 9 = .ok (.getfield 61, 3) := by decide +kernel
theorem dX4_isNobody_12 : decode cX4_isNobody 12 = .ok (.if_icmp .lt 7, 3) := by decide +kernel
theorem dX4_isNobody_15 : decode cX4_isNobody 15 = .ok (.iconst 1, 1) := by decide +kernel
theorem dX4_isNobody_16 : decode cX4_isNobody 16 = .ok (.goto 4, 3) := by decide +kernel
theorem dX4_isNobody_19 : decode cX4_isNobody 19 = .ok (.iconst 0, 1) := by decide +kernel
theorem dX4_isNobody_20 : decode cX4_isNobody 20 = .ok (.ireturn, 1) := by decide +kernel
theorem dX4_isNoSheet_0 : decode cX4_isNoSheet 0 = .ok (.iload_n 0, 1) := by decide +kernel
theorem dX4_isNoSheet_1 : decode cX4_isNoSheet 1 = .ok (.iconst 0, 1) := by decide +kernel
theorem dX4_isNoSheet_2 : decode cX4_isNoSheet 2 = .ok (.iconst 3, 1) := by decide +kernel
theorem dX4_isNoSheet_3 : decode cX4_isNoSheet 3 = .ok (.invokestatic 46, 3) := by decide +kernel
theorem dX4_isNoSheet_6 : decode cX4_isNoSheet 6 = .ok (.ireturn, 1) := by decide +kernel
theorem dX4_outside_0 : decode cX4_outside 0 = .ok (.iload_n 0, 1) := by decide +kernel
theorem dX4_outside_1 : decode cX4_outside 1 = .ok (.iload_n 1, 1) := by decide +kernel
theorem dX4_outside_2 : decode cX4_outside 2 = .ok (.if_icmp .lt 8, 3) := by decide +kernel
theorem dX4_outside_5 : decode cX4_outside 5 = .ok (.iload_n 0, 1) := by decide +kernel
theorem dX4_outside_6 : decode cX4_outside 6 = .ok (.iload_n 2, 1) := by decide +kernel
theorem dX4_outside_7 : decode cX4_outside 7 = .ok (.if_icmp .le 7, 3) := by decide +kernel
theorem dX4_outside_10 : decode cX4_outside 10 = .ok (.iconst 1, 1) := by decide +kernel
theorem dX4_outside_11 : decode cX4_outside 11 = .ok (.goto 4, 3) := by decide +kernel
theorem dX4_outside_14 : decode cX4_outside 14 = .ok (.iconst 0, 1) := by decide +kernel
theorem dX4_outside_15 : decode cX4_outside 15 = .ok (.ireturn, 1) := by decide +kernel
theorem dX4_commonDivisor_0 : decode cX4_commonDivisor 0 = .ok (.iload_n 0, 1) := by decide +kernel
theorem dX4_commonDivisor_1 : decode cX4_commonDivisor 1 = .ok (.istore_n 2, 1) := by decide +kernel
theorem dX4_commonDivisor_2 : decode cX4_commonDivisor 2 = .ok (.iload_n 1, 1) := by decide +kernel
theorem dX4_commonDivisor_3 : decode cX4_commonDivisor 3 = .ok (.istore_n 3, 1) := by decide +kernel
theorem dX4_commonDivisor_4 : decode cX4_commonDivisor 4 = .ok (.iconst 0, 1) := by decide +kernel
theorem dX4_commonDivisor_5 : decode cX4_commonDivisor 5 = .ok (.istore 4, 2) := by decide +kernel
theorem dX4_commonDivisor_7 : decode cX4_commonDivisor 7 = .ok (.iload 4, 2) := by decide +kernel
theorem dX4_commonDivisor_9 : decode cX4_commonDivisor 9 = .ok (.bipush 64, 2) := by decide +kernel
theorem dX4_commonDivisor_11 : decode cX4_commonDivisor 11 = .ok (.if_icmp .ge 23, 3) := by decide +kernel
theorem dX4_commonDivisor_14 : decode cX4_commonDivisor 14 = .ok (.iload_n 3, 1) := by decide +kernel
theorem dX4_commonDivisor_15 : decode cX4_commonDivisor 15 = .ok (.ifCond .eq 19, 3) := by decide +kernel
theorem dX4_commonDivisor_18 : decode cX4_commonDivisor 18 = .ok (.iload_n 2, 1) := by decide +kernel
theorem dX4_commonDivisor_19 : decode cX4_commonDivisor 19 = .ok (.iload_n 3, 1) := by decide +kernel
theorem dX4_commonDivisor_20 : decode cX4_commonDivisor 20 = .ok (.irem, 1) := by decide +kernel
theorem dX4_commonDivisor_21 : decode cX4_commonDivisor 21 = .ok (.istore 5, 2) := by decide +kernel
theorem dX4_commonDivisor_23 : decode cX4_commonDivisor 23 = .ok (.iload_n 3, 1) := by decide +kernel
theorem dX4_commonDivisor_24 : decode cX4_commonDivisor 24 = .ok (.istore_n 2, 1) := by decide +kernel
theorem dX4_commonDivisor_25 : decode cX4_commonDivisor 25 = .ok (.iload 5, 2) := by decide +kernel
theorem dX4_commonDivisor_27 : decode cX4_commonDivisor 27 = .ok (.istore_n 3, 1) := by decide +kernel
theorem dX4_commonDivisor_28 : decode cX4_commonDivisor 28 = .ok (.iinc 4 1, 3) := by decide +kernel
theorem dX4_commonDivisor_31 : decode cX4_commonDivisor 31 = .ok (.goto (-24), 3) := by decide +kernel
theorem dX4_commonDivisor_34 : decode cX4_commonDivisor 34 = .ok (.iload_n 2, 1) := by decide +kernel
theorem dX4_commonDivisor_35 : decode cX4_commonDivisor 35 = .ok (.ireturn, 1) := by decide +kernel
theorem dX5_in_0 : decode cX5_in 0 = .ok (.lload_n 0, 1) := by decide +kernel
theorem dX5_in_1 : decode cX5_in 1 = .ok (.lload_n 2, 1) := by decide +kernel
theorem dX5_in_2 : decode cX5_in 2 = .ok (.lcmp, 1) := by decide +kernel
theorem dX5_in_3 : decode cX5_in 3 = .ok (.ifCond .lt 14, 3) := by decide +kernel
theorem dX5_in_6 : decode cX5_in 6 = .ok (.lload_n 0, 1) := by decide +kernel
theorem dX5_in_7 : decode cX5_in 7 = .ok (.lload 4, 2) := by decide +kernel
theorem dX5_in_9 : decode cX5_in 9 = .ok (.lcmp, 1) := by decide +kernel
theorem dX5_in_10 : decode cX5_in 10 = .ok (.ifCond .gt 7, 3) := by decide +kernel
theorem dX5_in_13 : decode cX5_in 13 = .ok (.iconst 1, 1) := by decide +kernel
theorem dX5_in_14 : decode cX5_in 14 = .ok (.goto 4, 3) := by decide +kernel
theorem dX5_in_17 : decode cX5_in 17 = .ok (.iconst 0, 1) := by decide +kernel
theorem dX5_in_18 : decode cX5_in 18 = .ok (.ireturn, 1) := by decide +kernel
theorem dX5_init_0 : decode cX5_init 0 = .ok (.aload_n 0, 1) := by decide +kernel
theorem dX5_init_1 : decode cX5_init 1 = .ok (.invokespecial 1, 3) := by decide +kernel
theorem dX5_init_4 : decode cX5_init 4 = .ok (.aload_n 0, 1) := by decide +kernel
theorem dX5_init_5 : decode cX5_init 5 = .ok (.bipush 39, 2) := by decide +kernel
theorem dX5_init_7 : decode cX5_init 7 = .ok (.newarray .int, 2) := by decide +kernel
theorem dX5_init_9 : decode cX5_init 9 = .ok (.putfield 7, 3) := by decide +kernel
theorem dX5_init_12 : decode cX5_init 12 = .ok (.aload_n 0, 1) := by decide +kernel
theorem dX5_init_13 : decode cX5_init 13 = .ok (.bipush 90, 2) := by decide +kernel
theorem dX5_init_15 : decode cX5_init 15 = .ok (.newarray .int, 2) := by decide +kernel
theorem dX5_init_17 : decode cX5_init 17 = .ok (.putfield 13, 3) := by decide +kernel
theorem dX5_init_20 : decode cX5_init 20 = .ok (.aload_n 0, 1) := by decide +kernel
theorem dX5_init_21 : decode cX5_init 21 = .ok (.bipush 24, 2) := by decide +kernel
theorem dX5_init_23 : decode cX5_init 23 = .ok (.newarray .int, 2) := by decide +kernel
theorem dX5_init_25 : decode cX5_init 25 = .ok (.putfield 16, 3) := by decide +kernel
theorem dX5_init_28 : decode cX5_init 28 = .ok (.aload_n 0, 1) := by decide +kernel
theorem dX5_init_29 : decode cX5_init 29 = .ok (.bipush 96, 2) := by decide +kernel
theorem dX5_init_31 : decode cX5_init 31 = .ok (.newarray .int, 2) := by decide +kernel
theorem dX5_init_33 : decode cX5_init 33 = .ok (.putfield 19, 3) := by decide +kernel
theorem dX5_init_36 : decode cX5_init 36 = .ok (.aload_n 0, 1) := by decide +kernel
theorem dX5_init_37 : decode cX5_init 37 = .ok (.bipush 39, 2) := by decide +kernel
theorem dX5_init_39 : decode cX5_init 39 = .ok (.newarray .int, 2) := by decide +kernel
theorem dX5_init_41 : decode cX5_init 41 = .ok (.putfield 22, 3) := by decide +kernel
theorem dX5_init_44 : decode cX5_init 44 = .ok (.aload_n 0, 1) := by decide +kernel
theorem dX5_init_45 : decode cX5_init 45 = .ok (.sipush 135, 3) := by decide +kernel
theorem dX5_init_48 : decode cX5_init 48 = .ok (.newarray .int, 2) := by decide +kernel
theorem dX5_init_50 : decode cX5_init 50 = .ok (.putfield 25, 3) := by decide +kernel
theorem dX5_init_53 : decode cX5_init 53 = .ok (.aload_n 0, 1) := by decide +kernel
theorem dX5_init_54 : decode cX5_init 54 = .ok (.iconst 4, 1) := by decide +kernel
theorem dX5_init_55 : decode cX5_init 55 = .ok (.newarray .int, 2) := by decide +kernel
theorem dX5_init_57 : decode cX5_init 57 = .ok (.putfield 28, 3) := by decide +kernel
theorem dX5_init_60 : decode cX5_init 60 = .ok (.aload_n 0, 1) := by decide +kernel
theorem dX5_init_61 : decode cX5_init 61 = .ok (.iconst 4, 1) := by decide +kernel
theorem dX5_init_62 : decode cX5_init 62 = .ok (.newarray .int, 2) := by decide +kernel
theorem dX5_init_64 : decode cX5_init 64 = .ok (.putfield 31, 3) := by decide +kernel
theorem dX5_init_67 : decode cX5_init 67 = .ok (.aload_n 0, 1) := by decide +kernel
theorem dX5_init_68 : decode cX5_init 68 = .ok (.bipush 96, 2) := by decide +kernel
theorem dX5_init_70 : decode cX5_init 70 = .ok (.newarray .long, 2) := by decide +kernel
theorem dX5_init_72 : decode cX5_init 72 = .ok (.putfield 34, 3) := by decide +kernel
theorem dX5_init_75 : decode cX5_init 75 = .ok (.aload_n 0, 1) := by decide +kernel
theorem dX5_init_76 : decode cX5_init 76 = .ok (.bipush 24, 2) := by decide +kernel
theorem dX5_init_78 : decode cX5_init 78 = .ok (.newarray .long, 2) := by decide +kernel
theorem dX5_init_80 : decode cX5_init 80 = .ok (.putfield 38, 3) := by decide +kernel
theorem dX5_init_83 : decode cX5_init 83 = .ok (.aload_n 0, 1) := by decide +kernel
theorem dX5_init_84 : decode cX5_init 84 = .ok (.iconst 4, 1) := by decide +kernel
theorem dX5_init_85 : decode cX5_init 85 = .ok (.iconst 5, 1) := by decide +kernel
theorem dX5_init_86 : decode cX5_init 86 = .ok (.invokevirtual 41, 3) := by decide +kernel
theorem dX5_init_89 : decode cX5_init 89 = .ok (.aload_n 0, 1) := by decide +kernel
theorem dX5_init_90 : decode cX5_init 90 = .ok (.getfield 7, 3) := by decide +kernel
theorem dX5_init_93 : decode cX5_init 93 = .ok (.bipush 8, 2) := by decide +kernel
theorem dX5_init_95 : decode cX5_init 95 = .ok (.iconst 1, 1) := by decide +kernel
theorem dX5_init_96 : decode cX5_init 96 = .ok (.iastore, 1) := by decide +kernel
theorem dX5_init_97 : decode cX5_init 97 = .ok (.iconst 0, 1) := by decide +kernel
theorem dX5_init_98 : decode cX5_init 98 = .ok (.istore_n 1, 1) := by decide +kernel
theorem dX5_init_99 : decode cX5_init 99 = .ok (.iload_n 1, 1) := by decide +kernel
theorem dX5_init_100 : decode cX5_init 100 = .ok (.iconst 4, 1) := by decide +kernel
theorem dX5_init_101 : decode cX5_init 101 = .ok (.if_icmp .ge 16, 3) := by decide +kernel
theorem dX5_init_104 : decode cX5_init 104 = .ok (.aload_n 0, 1) := by decide +kernel
theorem dX5_init_105 : decode cX5_init 105 = .ok (.getfield 28, 3) := by decide +kernel
theorem dX5_init_108 : decode cX5_init 108 = .ok (.iload_n 1, 1) := by decide +kernel
theorem dX5_init_109 : decode cX5_init 109 = .ok (.iconst (-1), 1) := by decide +kernel
theorem dX5_init_110 : decode cX5_init 110 = .ok (.iastore, 1) := by decide +kernel
theorem dX5_init_111 : decode cX5_init 111 = .ok (.iinc 1 1, 3) := by decide +kernel
theorem dX5_init_114 : decode cX5_init 114 = .ok (.goto (-15), 3) := by decide +kernel
theorem dX5_init_117 : decode cX5_init 117 = .ok (.return_, 1) := by decide +kernel
theorem dX5_fresh_0 : decode cX5_fresh 0 = .ok (.aload_n 0, 1) := by decide +kernel
theorem dX5_fresh_1 : decode cX5_fresh 1 = .ok (.getfield 7, 3) := by decide +kernel
theorem dX5_fresh_4 : decode cX5_fresh 4 = .ok (.iconst 0, 1) := by decide +kernel
theorem dX5_fresh_5 : decode cX5_fresh 5 = .ok (.iload_n 1, 1) := by decide +kernel
theorem dX5_fresh_6 : decode cX5_fresh 6 = .ok (.iastore, 1) := by decide +kernel
theorem dX5_fresh_7 : decode cX5_fresh 7 = .ok (.aload_n 0, 1) := by decide +kernel
theorem dX5_fresh_8 : decode cX5_fresh 8 = .ok (.getfield 7, 3) := by decide +kernel
theorem dX5_fresh_11 : decode cX5_fresh 11 = .ok (.iconst 1, 1) := by decide +kernel
theorem dX5_fresh_12 : decode cX5_fresh 12 = .ok (.iload_n 2, 1) := by decide +kernel
theorem dX5_fresh_13 : decode cX5_fresh 13 = .ok (.iastore, 1) := by decide +kernel
theorem dX5_fresh_14 : decode cX5_fresh 14 = .ok (.iconst 2, 1) := by decide +kernel
theorem dX5_fresh_15 : decode cX5_fresh 15 = .ok (.istore_n 3, 1) := by decide +kernel
theorem dX5_fresh_16 : decode cX5_fresh 16 = .ok (.iload_n 3, 1) := by decide +kernel
theorem dX5_fresh_17 : decode cX5_fresh 17 = .ok (.bipush 8, 2) := by decide +kernel
theorem dX5_fresh_19 : decode cX5_fresh 19 = .ok (.if_icmp .ge 16, 3) := by decide +kernel
theorem dX5_fresh_22 : decode cX5_fresh 22 = .ok (.aload_n 0, 1) := by decide +kernel
theorem dX5_fresh_23 : decode cX5_fresh 23 = .ok (.getfield 7, 3) := by decide +kernel
theorem dX5_fresh_26 : decode cX5_fresh 26 = .ok (.iload_n 3, 1) := by decide +kernel
theorem dX5_fresh_27 : decode cX5_fresh 27 = .ok (.iconst 0, 1) := by decide +kernel
theorem dX5_fresh_28 : decode cX5_fresh 28 = .ok (.iastore, 1) := by decide +kernel
theorem dX5_fresh_29 : decode cX5_fresh 29 = .ok (.iinc 3 1, 3) := by decide +kernel
theorem dX5_fresh_32 : decode cX5_fresh 32 = .ok (.goto (-16), 3) := by decide +kernel
theorem dX5_fresh_35 : decode cX5_fresh 35 = .ok (.aload_n 0, 1) := by decide +kernel
theorem dX5_fresh_36 : decode cX5_fresh 36 = .ok (.iconst 0, 1) := by decide +kernel
theorem dX5_fresh_37 : decode cX5_fresh 37 = .ok (.putfield 45, 3) := by decide +kernel
theorem dX5_fresh_40 : decode cX5_fresh 40 = .ok (.return_, 1) := by decide +kernel
theorem dX5_cells_0 : decode cX5_cells 0 = .ok (.aload_n 0, 1) := by decide +kernel
theorem dX5_cells_1 : decode cX5_cells 1 = .ok (.getfield 7, 3) := by decide +kernel
theorem dX5_cells_4 : decode cX5_cells 4 = .ok (.iconst 0, 1) := by decide +kernel
theorem dX5_cells_5 : decode cX5_cells 5 = .ok (.iaload, 1) := by decide +kernel
theorem dX5_cells_6 : decode cX5_cells 6 = .ok (.aload_n 0, 1) := by decide +kernel
theorem dX5_cells_7 : decode cX5_cells 7 = .ok (.getfield 7, 3) := by decide +kernel
theorem dX5_cells_10 : decode cX5_cells 10 = .ok (.iconst 1, 1) := by decide +kernel
theorem dX5_cells_11 : decode cX5_cells 11 = .ok (.iaload, 1) := by decide +kernel
theorem dX5_cells_12 : decode cX5_cells 12 = .ok (.imul, 1) := by decide +kernel
theorem dX5_cells_13 : decode cX5_cells 13 = .ok (.ireturn, 1) := by decide +kernel
theorem dX5_isPerson_0 : decode cX5_isPerson 0 = .ok (.iload_n 1, 1) := by decide +kernel
theorem dX5_isPerson_1 : decode cX5_isPerson 1 = .ok (.i2l, 1) := by decide +kernel
theorem dX5_isPerson_2 : decode cX5_isPerson 2 = .ok (.lconst 0, 1) := by decide +kernel
theorem dX5_isPerson_3 : decode cX5_isPerson 3 = .ok (.aload_n 0, 1) := by decide +kernel
theorem dX5_isPerson_4 : decode cX5_isPerson 4 = .ok (.getfield 7, 3) := by decide +kernel
theorem dX5_isPerson_7 : decode cX5_isPerson 7 = .ok (.iconst 2, 1) := by decide +kernel
theorem dX5_isPerson_8 : decode cX5_isPerson 8 = .ok (.iaload, 1) := by decide +kernel
theorem dX5_isPerson_9 : decode cX5_isPerson 9 = .ok (.iconst 1, 1) := by decide +kernel
theorem dX5_isPerson_10 : decode cX5_isPerson 10 = .ok (.isub, 1) := by decide +kernel
theorem dX5_isPerson_11 : decode cX5_isPerson 11 = .ok (.i2l, 1) := by decide +kernel
theorem dX5_isPerson_12 : decode cX5_isPerson 12 = .ok (.invokestatic 49, 3) := by decide +kernel
theorem dX5_isPerson_15 : decode cX5_isPerson 15 = .ok (.ireturn, 1) := by decide +kernel
theorem dX5_told_0 : decode cX5_told 0 = .ok (.aload_n 0, 1) := by decide +kernel
theorem dX5_told_1 : decode cX5_told 1 = .ok (.getfield 7, 3) := by decide +kernel
theorem dX5_told_4 : decode cX5_told 4 = .ok (.bipush 9, 2) := by decide +kernel
theorem dX5_told_6 : decode cX5_told 6 = .ok (.iconst 5, 1) := by decide +kernel
theorem dX5_told_7 : decode cX5_told 7 = .ok (.iload_n 1, 1) := by decide +kernel
theorem dX5_told_8 : decode cX5_told 8 = .ok (.imul, 1) := by decide +kernel
theorem dX5_told_9 : decode cX5_told 9 = .ok (.iadd, 1) := by decide +kernel
theorem dX5_told_10 : decode cX5_told 10 = .ok (.iload_n 2, 1) := by decide +kernel
theorem dX5_told_11 : decode cX5_told 11 = .ok (.iadd, 1) := by decide +kernel
theorem dX5_told_12 : decode cX5_told 12 = .ok (.iaload, 1) := by decide +kernel
theorem dX5_told_13 : decode cX5_told 13 = .ok (.ireturn, 1) := by decide +kernel
theorem dX5_isFree_0 : decode cX5_isFree 0 = .ok (.aload_n 0, 1) := by decide +kernel
theorem dX5_isFree_1 : decode cX5_isFree 1 = .ok (.getfield 7, 3) := by decide +kernel
theorem dX5_isFree_4 : decode cX5_isFree 4 = .ok (.iconst 5, 1) := by decide +kernel
theorem dX5_isFree_5 : decode cX5_isFree 5 = .ok (.iaload, 1) := by decide +kernel
theorem dX5_isFree_6 : decode cX5_isFree 6 = .ok (.iload_n 1, 1) := by decide +kernel
theorem dX5_isFree_7 : decode cX5_isFree 7 = .ok (.ishr, 1) := by decide +kernel
theorem dX5_isFree_8 : decode cX5_isFree 8 = .ok (.iconst 1, 1) := by decide +kernel
theorem dX5_isFree_9 : decode cX5_isFree 9 = .ok (.iand, 1) := by decide +kernel
theorem dX5_isFree_10 : decode cX5_isFree 10 = .ok (.ifCond .ne 7, 3) := by decide +kernel
theorem dX5_isFree_13 : decode cX5_isFree 13 = .ok (.iconst 1, 1) := by decide +kernel
theorem dX5_isFree_14 : decode cX5_isFree 14 = .ok (.goto 4, 3) := by decide +kernel
theorem dX5_isFree_17 : decode cX5_isFree 17 = .ok (.iconst 0, 1) := by decide +kernel
theorem dX5_isFree_18 : decode cX5_isFree 18 = .ok (.ireturn, 1) := by decide +kernel
theorem dX5_apart_0 : decode cX5_apart 0 = .ok (.iload_n 0, 1) := by decide +kernel
theorem dX5_apart_1 : decode cX5_apart 1 = .ok (.iload_n 1, 1) := by decide +kernel
theorem dX5_apart_2 : decode cX5_apart 2 = .ok (.if_icmp .ge 9, 3) := by decide +kernel
theorem dX5_apart_5 : decode cX5_apart 5 = .ok (.iload_n 1, 1) := by decide +kernel
theorem dX5_apart_6 : decode cX5_apart 6 = .ok (.iload_n 0, 1) := by decide +kernel
theorem dX5_apart_7 : decode cX5_apart 7 = .ok (.isub, 1) := by decide +kernel
theorem dX5_apart_8 : decode cX5_apart 8 = .ok (.goto 6, 3) := by decide +kernel
theorem dX5_apart_11 : decode cX5_apart 11 = .ok (.iload_n 0, 1) := by decide +kernel
theorem dX5_apart_12 : decode cX5_apart 12 = .ok (.iload_n 1, 1) := by decide +kernel
theorem dX5_apart_13 : decode cX5_apart 13 = .ok (.isub, 1) := by decide +kernel
theorem dX5_apart_14 : decode cX5_apart 14 = .ok (.ireturn, 1) := by decide +kernel
theorem dX5_far_0 : decode cX5_far 0 = .ok (.aload_n 0, 1) := by decide +kernel
theorem dX5_far_1 : decode cX5_far 1 = .ok (.iload_n 1, 1) := by decide +kernel
theorem dX5_far_2 : decode cX5_far 2 = .ok (.iconst 1, 1) := by decide +kernel
theorem dX5_far_3 : decode cX5_far 3 = .ok (.invokevirtual 53, 3) := by decide +kernel
theorem dX5_far_6 : decode cX5_far 6 = .ok (.istore_n 2, 1) := by decide +kernel
theorem dX5_far_7 : decode cX5_far 7 = .ok (.aload_n 0, 1) := by decide +kernel
theorem dX5_far_8 : decode cX5_far 8 = .ok (.getfield 7, 3) := by decide +kernel
theorem dX5_far_11 : decode cX5_far 11 = .ok (.iconst 3, 1) := by decide +kernel
theorem dX5_far_12 : decode cX5_far 12 = .ok (.iaload, 1) := by decide +kernel
theorem dX5_far_13 : decode cX5_far 13 = .ok (.istore_n 3, 1) := by decide +kernel
theorem dX5_far_14 : decode cX5_far 14 = .ok (.iload_n 2, 1) := by decide +kernel
theorem dX5_far_15 : decode cX5_far 15 = .ok (.aload_n 0, 1) := by decide +kernel
theorem dX5_far_16 : decode cX5_far 16 = .ok (.getfield 7, 3) := by decide +kernel
theorem dX5_far_19 : decode cX5_far 19 = .ok (.iconst 1, 1) := by decide +kernel
theorem dX5_far_20 : decode cX5_far 20 = .ok (.iaload, 1) := by decide +kernel
theorem dX5_far_21 : decode cX5_far 21 = .ok (.idiv, 1) := by decide +kernel
theorem dX5_far_22 : decode cX5_far 22 = .ok (.iload_n 3, 1) := by decide +kernel
theorem dX5_far_23 : decode cX5_far 23 = .ok (.aload_n 0, 1) := by decide +kernel
theorem dX5_far_24 : decode cX5_far 24 = .ok (.getfield 7, 3) := by decide +kernel
theorem dX5_far_27 : decode cX5_far 27 = .ok (.iconst 1, 1) := by decide +kernel
theorem dX5_far_28 : decode cX5_far 28 = .ok (.iaload, 1) := by decide +kernel
theorem dX5_far_29 : decode cX5_far 29 = .ok (.idiv, 1) := by decide +kernel
theorem dX5_far_30 : decode cX5_far 30 = .ok (.invokestatic 57, 3) := by decide +kernel
theorem dX5_far_33 : decode cX5_far 33 = .ok (.iload_n 2, 1) := by decide +kernel
theorem dX5_far_34 : decode cX5_far 34 = .ok (.aload_n 0, 1) := by decide +kernel
theorem dX5_far_35 : decode cX5_far 35 = .ok (.getfield 7, 3) := by decide +kernel
theorem dX5_far_38 : decode cX5_far 38 = .ok (.iconst 1, 1) := by decide +kernel
theorem dX5_far_39 : decode cX5_far 39 = .ok (.iaload, 1) := by decide +kernel
theorem dX5_far_40 : decode cX5_far 40 = .ok (.irem, 1) := by decide +kernel
theorem dX5_far_41 : decode cX5_far 41 = .ok (.iload_n 3, 1) := by decide +kernel
theorem dX5_far_42 : decode cX5_far 42 = .ok (.aload_n 0, 1) := by decide +kernel
theorem dX5_far_43 : decode cX5_far 43 = .ok (.getfield 7, 3) := by decide +kernel
theorem dX5_far_46 : decode cX5_far 46 = .ok (.iconst 1, 1) := by decide +kernel
theorem dX5_far_47 : decode cX5_far 47 = .ok (.iaload, 1) := by decide +kernel
theorem dX5_far_48 : decode cX5_far 48 = .ok (.irem, 1) := by decide +kernel
theorem dX5_far_49 : decode cX5_far 49 = .ok (.invokestatic 57, 3) := by decide +kernel
theorem dX5_far_52 : decode cX5_far 52 = .ok (.iadd, 1) := by decide +kernel
theorem dX5_far_53 : decode cX5_far 53 = .ok (.ireturn, 1) := by decide +kernel
theorem dX5_loud_0 : decode cX5_loud 0 = .ok (.aload_n 0, 1) := by decide +kernel
theorem dX5_loud_1 : decode cX5_loud 1 = .ok (.iload_n 1, 1) := by decide +kernel
theorem dX5_loud_2 : decode cX5_loud 2 = .ok (.invokevirtual 60, 3) := by decide +kernel
theorem dX5_loud_5 : decode cX5_loud 5 = .ok (.istore_n 2, 1) := by decide +kernel
theorem dX5_loud_6 : decode cX5_loud 6 = .ok (.aload_n 0, 1) := by decide +kernel
theorem dX5_loud_7 : decode cX5_loud 7 = .ok (.iload_n 1, 1) := by decide +kernel
theorem dX5_loud_8 : decode cX5_loud 8 = .ok (.iconst 2, 1) := by decide +kernel
theorem dX5_loud_9 : decode cX5_loud 9 = .ok (.invokevirtual 53, 3) := by decide +kernel
theorem dX5_loud_12 : decode cX5_loud 12 = .ok (.iload_n 2, 1) := by decide +kernel
theorem dX5_loud_13 : decode cX5_loud 13 = .ok (.if_icmp .le 14, 3) := by decide +kernel
theorem dX5_loud_16 : decode cX5_loud 16 = .ok (.aload_n 0, 1) := by decide +kernel
theorem dX5_loud_17 : decode cX5_loud 17 = .ok (.iload_n 1, 1) := by decide +kernel
theorem dX5_loud_18 : decode cX5_loud 18 = .ok (.iconst 2, 1) := by decide +kernel
theorem dX5_loud_19 : decode cX5_loud 19 = .ok (.invokevirtual 53, 3) := by decide +kernel
theorem dX5_loud_22 : decode cX5_loud 22 = .ok (.iload_n 2, 1) := by decide +kernel
theorem dX5_loud_23 : decode cX5_loud 23 = .ok (.isub, 1) := by decide +kernel
theorem dX5_loud_24 : decode cX5_loud 24 = .ok (.goto 4, 3) := by decide +kernel
theorem dX5_loud_27 : decode cX5_loud 27 = .ok (.iconst 0, 1) := by decide +kernel
theorem dX5_loud_28 : decode cX5_loud 28 = .ok (.istore_n 3, 1) := by decide +kernel
theorem dX5_loud_29 : decode cX5_loud 29 = .ok (.aload_n 0, 1) := by decide +kernel
theorem dX5_loud_30 : decode cX5_loud 30 = .ok (.iload_n 1, 1) := by decide +kernel
theorem dX5_loud_31 : decode cX5_loud 31 = .ok (.iconst 0, 1) := by decide +kernel
theorem dX5_loud_32 : decode cX5_loud 32 = .ok (.invokevirtual 53, 3) := by decide +kernel
theorem dX5_loud_35 : decode cX5_loud 35 = .ok (.tableswitch 58 0 3 #[29, 31, 35, 39], 29) := by decide +kernel
theorem dX5_loud_64 : decode cX5_loud 64 = .ok (.iload_n 3, 1) := by decide +kernel
theorem dX5_loud_65 : decode cX5_loud 65 = .ok (.ireturn, 1) := by decide +kernel
theorem dX5_loud_66 : decode cX5_loud 66 = .ok (.iload_n 3, 1) := by decide +kernel
theorem dX5_loud_67 : decode cX5_loud 67 = .ok (.iconst 2, 1) := by decide +kernel
theorem dX5_loud_68 : decode cX5_loud 68 = .ok (.idiv, 1) := by decide +kernel
theorem dX5_loud_69 : decode cX5_loud 69 = .ok (.ireturn, 1) := by decide +kernel
theorem dX5_loud_70 : decode cX5_loud 70 = .ok (.iload_n 3, 1) := by decide +kernel
theorem dX5_loud_71 : decode cX5_loud 71 = .ok (.iconst 4, 1) := by decide +kernel
theorem dX5_loud_72 : decode cX5_loud 72 = .ok (.iadd, 1) := by decide +kernel
theorem dX5_loud_73 : decode cX5_loud 73 = .ok (.ireturn, 1) := by decide +kernel
theorem dX5_loud_74 : decode cX5_loud 74 = .ok (.aload_n 0, 1) := by decide +kernel
theorem dX5_loud_75 : decode cX5_loud 75 = .ok (.getfield 7, 3) := by decide +kernel
theorem dX5_loud_78 : decode cX5_loud 78 = .ok (.iconst 4, 1) := by decide +kernel
theorem dX5_loud_79 : decode cX5_loud 79 = .ok (.iaload, 1) := by decide +kernel
theorem dX5_loud_80 : decode cX5_loud 80 = .ok (.iconst 2, 1) := by decide +kernel
theorem dX5_loud_81 : decode cX5_loud 81 = .ok (.irem, 1) := by decide +kernel
theorem dX5_loud_82 : decode cX5_loud 82 = .ok (.ifCond .ne 7, 3) := by decide +kernel
theorem dX5_loud_85 : decode cX5_loud 85 = .ok (.iconst 0, 1) := by decide +kernel
theorem dX5_loud_86 : decode cX5_loud 86 = .ok (.goto 6, 3) := by decide +kernel
theorem dX5_loud_89 : decode cX5_loud 89 = .ok (.iload_n 3, 1) := by decide +kernel
theorem dX5_loud_90 : decode cX5_loud 90 = .ok (.iconst 2, 1) := by decide +kernel
theorem dX5_loud_91 : decode cX5_loud 91 = .ok (.idiv, 1) := by decide +kernel
theorem dX5_loud_92 : decode cX5_loud 92 = .ok (.ireturn, 1) := by decide +kernel
theorem dX5_loud_93 : decode cX5_loud 93 = .ok (.iload_n 2, 1) := by decide +kernel
theorem dX5_loud_94 : decode cX5_loud 94 = .ok (.iconst 2, 1) := by decide +kernel
theorem dX5_loud_95 : decode cX5_loud 95 = .ok (.if_icmp .gt 11, 3) := by decide +kernel
theorem dX5_loud_98 : decode cX5_loud 98 = .ok (.iconst 2, 1) := by decide +kernel
theorem dX5_loud_99 : decode cX5_loud 99 = .ok (.iload_n 3, 1) := by decide +kernel
theorem dX5_loud_100 : decode cX5_loud 100 = .ok (.iconst 4, 1) := by decide +kernel
theorem dX5_loud_101 : decode cX5_loud 101 = .ok (.iadd, 1) := by decide +kernel
theorem dX5_loud_102 : decode cX5_loud 102 = .ok (.imul, 1) := by decide +kernel
theorem dX5_loud_103 : decode cX5_loud 103 = .ok (.goto 6, 3) := by decide +kernel
theorem dX5_loud_106 : decode cX5_loud 106 = .ok (.iload_n 3, 1) := by decide +kernel
theorem dX5_loud_107 : decode cX5_loud 107 = .ok (.iconst 4, 1) := by decide +kernel
theorem dX5_loud_108 : decode cX5_loud 108 = .ok (.iadd, 1) := by decide +kernel
theorem dX5_loud_109 : decode cX5_loud 109 = .ok (.ireturn, 1) := by decide +kernel
theorem dX5_many_0 : decode cX5_many 0 = .ok (.iconst 0, 1) := by decide +kernel
theorem dX5_many_1 : decode cX5_many 1 = .ok (.istore_n 1, 1) := by decide +kernel
theorem dX5_many_2 : decode cX5_many 2 = .ok (.iload_n 0, 1) := by decide +kernel
theorem dX5_many_3 : decode cX5_many 3 = .ok (.istore_n 2, 1) := by decide +kernel
theorem dX5_many_4 : decode cX5_many 4 = .ok (.iload_n 2, 1) := by decide +kernel
theorem dX5_many_5 : decode cX5_many 5 = .ok (.ifCond .eq 15, 3) := by decide +kernel
theorem dX5_many_8 : decode cX5_many 8 = .ok (.iinc 1 1, 3) := by decide +kernel
theorem dX5_many_11 : decode cX5_many 11 = .ok (.iload_n 2, 1) := by decide +kernel
theorem dX5_many_12 : decode cX5_many 12 = .ok (.iload_n 2, 1) := by decide +kernel
theorem dX5_many_13 : decode cX5_many 13 = .ok (.iconst 1, 1) := by decide +kernel
theorem dX5_many_14 : decode cX5_many 14 = .ok (.isub, 1) := by decide +kernel
theorem dX5_many_15 : decode cX5_many 15 = .ok (.iand, 1) := by decide +kernel
theorem dX5_many_16 : decode cX5_many 16 = .ok (.istore_n 2, 1) := by decide +kernel
theorem dX5_many_17 : decode cX5_many 17 = .ok (.goto (-13), 3) := by decide +kernel
theorem dX5_many_20 : decode cX5_many 20 = .ok (.iload_n 1, 1) := by decide +kernel
theorem dX5_many_21 : decode cX5_many 21 = .ok (.ireturn, 1) := by decide +kernel
theorem dX5_named_0 : decode cX5_named 0 = .ok (.iconst 0, 1) := by decide +kernel
theorem dX5_named_1 : decode cX5_named 1 = .ok (.istore_n 3, 1) := by decide +kernel
theorem dX5_named_2 : decode cX5_named 2 = .ok (.iconst 1, 1) := by decide +kernel
theorem dX5_named_3 : decode cX5_named 3 = .ok (.istore 4, 2) := by decide +kernel
theorem dX5_named_5 : decode cX5_named 5 = .ok (.iload 4, 2) := by decide +kernel
theorem dX5_named_7 : decode cX5_named 7 = .ok (.aload_n 0, 1) := by decide +kernel
theorem dX5_named_8 : decode cX5_named 8 = .ok (.getfield 7, 3) := by decide +kernel
theorem dX5_named_11 : decode cX5_named 11 = .ok (.iconst 2, 1) := by decide +kernel
theorem dX5_named_12 : decode cX5_named 12 = .ok (.iaload, 1) := by decide +kernel
theorem dX5_named_13 : decode cX5_named 13 = .ok (.if_icmp .ge 54, 3) := by decide +kernel
theorem dX5_named_16 : decode cX5_named 16 = .ok (.aload_n 0, 1) := by decide +kernel
theorem dX5_named_17 : decode cX5_named 17 = .ok (.iload_n 1, 1) := by decide +kernel
theorem dX5_named_18 : decode cX5_named 18 = .ok (.iconst 3, 1) := by decide +kernel
theorem dX5_named_19 : decode cX5_named 19 = .ok (.invokevirtual 53, 3) := by decide +kernel
theorem dX5_named_22 : decode cX5_named 22 = .ok (.iload_n 2, 1) := by decide +kernel
theorem dX5_named_23 : decode cX5_named 23 = .ok (.ixor, 1) := by decide +kernel
theorem dX5_named_24 : decode cX5_named 24 = .ok (.istore 5, 2) := by decide +kernel
theorem dX5_named_26 : decode cX5_named 26 = .ok (.aload_n 0, 1) := by decide +kernel
theorem dX5_named_27 : decode cX5_named 27 = .ok (.iload 4, 2) := by decide +kernel
theorem dX5_named_29 : decode cX5_named 29 = .ok (.iconst 3, 1) := by decide +kernel
theorem dX5_named_30 : decode cX5_named 30 = .ok (.invokevirtual 53, 3) := by decide +kernel
theorem dX5_named_33 : decode cX5_named 33 = .ok (.iload 5, 2) := by decide +kernel
theorem dX5_named_35 : decode cX5_named 35 = .ok (.ixor, 1) := by decide +kernel
theorem dX5_named_36 : decode cX5_named 36 = .ok (.invokestatic 64, 3) := by decide +kernel
theorem dX5_named_39 : decode cX5_named 39 = .ok (.aload_n 0, 1) := by decide +kernel
theorem dX5_named_40 : decode cX5_named 40 = .ok (.iload_n 3, 1) := by decide +kernel
theorem dX5_named_41 : decode cX5_named 41 = .ok (.iconst 3, 1) := by decide +kernel
theorem dX5_named_42 : decode cX5_named 42 = .ok (.invokevirtual 53, 3) := by decide +kernel
theorem dX5_named_45 : decode cX5_named 45 = .ok (.iload 5, 2) := by decide +kernel
theorem dX5_named_47 : decode cX5_named 47 = .ok (.ixor, 1) := by decide +kernel
theorem dX5_named_48 : decode cX5_named 48 = .ok (.invokestatic 64, 3) := by decide +kernel
theorem dX5_named_51 : decode cX5_named 51 = .ok (.if_icmp .ge 8, 3) := by decide +kernel
theorem dX5_named_54 : decode cX5_named 54 = .ok (.iload 4, 2) := by decide +kernel
theorem dX5_named_56 : decode cX5_named 56 = .ok (.goto 4, 3) := by decide +kernel
theorem dX5_named_59 : decode cX5_named 59 = .ok (.iload_n 3, 1) := by decide +kernel
theorem dX5_named_60 : decode cX5_named 60 = .ok (.istore_n 3, 1) := by decide +kernel
theorem dX5_named_61 : decode cX5_named 61 = .ok (.iinc 4 1, 3) := by decide +kernel
theorem dX5_named_64 : decode cX5_named 64 = .ok (.goto (-59), 3) := by decide +kernel
theorem dX5_named_67 : decode cX5_named 67 = .ok (.iload_n 3, 1) := by decide +kernel
theorem dX5_named_68 : decode cX5_named 68 = .ok (.ireturn, 1) := by decide +kernel
theorem dX5_follows_0 : decode cX5_follows 0 = .ok (.bipush (-4), 2) := by decide +kernel
theorem dX5_follows_2 : decode cX5_follows 2 = .ok (.istore_n 2, 1) := by decide +kernel
theorem dX5_follows_3 : decode cX5_follows 3 = .ok (.iconst 0, 1) := by decide +kernel
theorem dX5_follows_4 : decode cX5_follows 4 = .ok (.istore_n 3, 1) := by decide +kernel
theorem dX5_follows_5 : decode cX5_follows 5 = .ok (.iconst 0, 1) := by decide +kernel
theorem dX5_follows_6 : decode cX5_follows 6 = .ok (.istore 4, 2) := by decide +kernel
theorem dX5_follows_8 : decode cX5_follows 8 = .ok (.iload 4, 2) := by decide +kernel
theorem dX5_follows_10 : decode cX5_follows 10 = .ok (.aload_n 0, 1) := by decide +kernel
theorem dX5_follows_11 : decode cX5_follows 11 = .ok (.getfield 7, 3) := by decide +kernel
theorem dX5_follows_14 : decode cX5_follows 14 = .ok (.iconst 2, 1) := by decide +kernel
theorem dX5_follows_15 : decode cX5_follows 15 = .ok (.iaload, 1) := by decide +kernel
theorem dX5_follows_16 : decode cX5_follows 16 = .ok (.if_icmp .ge 72, 3) := by decide +kernel
theorem dX5_follows_19 : decode cX5_follows 19 = .ok (.aload_n 0, 1) := by decide +kernel
theorem dX5_follows_20 : decode cX5_follows 20 = .ok (.iload 4, 2) := by decide +kernel
theorem dX5_follows_22 : decode cX5_follows 22 = .ok (.invokevirtual 67, 3) := by decide +kernel
theorem dX5_follows_25 : decode cX5_follows 25 = .ok (.ifCond .eq 26, 3) := by decide +kernel
theorem dX5_follows_28 : decode cX5_follows 28 = .ok (.iload_n 1, 1) := by decide +kernel
theorem dX5_follows_29 : decode cX5_follows 29 = .ok (.iload 4, 2) := by decide +kernel
theorem dX5_follows_31 : decode cX5_follows 31 = .ok (.ishr, 1) := by decide +kernel
theorem dX5_follows_32 : decode cX5_follows 32 = .ok (.iconst 1, 1) := by decide +kernel
theorem dX5_follows_33 : decode cX5_follows 33 = .ok (.iand, 1) := by decide +kernel
theorem dX5_follows_34 : decode cX5_follows 34 = .ok (.ifCond .ne 17, 3) := by decide +kernel
theorem dX5_follows_37 : decode cX5_follows 37 = .ok (.aload_n 0, 1) := by decide +kernel
theorem dX5_follows_38 : decode cX5_follows 38 = .ok (.iload 4, 2) := by decide +kernel
theorem dX5_follows_40 : decode cX5_follows 40 = .ok (.invokevirtual 71, 3) := by decide +kernel
theorem dX5_follows_43 : decode cX5_follows 43 = .ok (.iload_n 3, 1) := by decide +kernel
theorem dX5_follows_44 : decode cX5_follows 44 = .ok (.if_icmp .le 7, 3) := by decide +kernel
theorem dX5_follows_47 : decode cX5_follows 47 = .ok (.iconst 1, 1) := by decide +kernel
theorem dX5_follows_48 : decode cX5_follows 48 = .ok (.goto 4, 3) := by decide +kernel
theorem dX5_follows_51 : decode cX5_follows 51 = .ok (.iconst 0, 1) := by decide +kernel
theorem dX5_follows_52 : decode cX5_follows 52 = .ok (.istore 5, 2) := by decide +kernel
theorem dX5_follows_54 : decode cX5_follows 54 = .ok (.iload 5, 2) := by decide +kernel
theorem dX5_follows_56 : decode cX5_follows 56 = .ok (.ifCond .eq 8, 3) := by decide +kernel
theorem dX5_follows_59 : decode cX5_follows 59 = .ok (.iload 4, 2) := by decide +kernel
theorem dX5_follows_61 : decode cX5_follows 61 = .ok (.goto 4, 3) := by decide +kernel
theorem dX5_follows_64 : decode cX5_follows 64 = .ok (.iload_n 2, 1) := by decide +kernel
theorem dX5_follows_65 : decode cX5_follows 65 = .ok (.istore_n 2, 1) := by decide +kernel
theorem dX5_follows_66 : decode cX5_follows 66 = .ok (.iload 5, 2) := by decide +kernel
theorem dX5_follows_68 : decode cX5_follows 68 = .ok (.ifCond .eq 12, 3) := by decide +kernel
theorem dX5_follows_71 : decode cX5_follows 71 = .ok (.aload_n 0, 1) := by decide +kernel
theorem dX5_follows_72 : decode cX5_follows 72 = .ok (.iload 4, 2) := by decide +kernel
theorem dX5_follows_74 : decode cX5_follows 74 = .ok (.invokevirtual 71, 3) := by decide +kernel
theorem dX5_follows_77 : decode cX5_follows 77 = .ok (.goto 4, 3) := by decide +kernel
theorem dX5_follows_80 : decode cX5_follows 80 = .ok (.iload_n 3, 1) := by decide +kernel
theorem dX5_follows_81 : decode cX5_follows 81 = .ok (.istore_n 3, 1) := by decide +kernel
theorem dX5_follows_82 : decode cX5_follows 82 = .ok (.iinc 4 1, 3) := by decide +kernel
theorem dX5_follows_85 : decode cX5_follows 85 = .ok (.goto (-77), 3) := by decide +kernel
theorem dX5_follows_88 : decode cX5_follows 88 = .ok (.iload_n 2, 1) := by decide +kernel
theorem dX5_follows_89 : decode cX5_follows 89 = .ok (.ireturn, 1) := by decide +kernel
theorem dX5_nearer_0 : decode cX5_nearer 0 = .ok (.iload_n 0, 1) := by decide +kernel
theorem dX5_nearer_1 : decode cX5_nearer 1 = .ok (.iload_n 1, 1) := by decide +kernel
theorem dX5_nearer_2 : decode cX5_nearer 2 = .ok (.if_icmp .ge 7, 3) := by decide +kernel
theorem dX5_nearer_5 : decode cX5_nearer 5 = .ok (.iconst 1, 1) := by decide +kernel
theorem dX5_nearer_6 : decode cX5_nearer 6 = .ok (.goto 13, 3) := by decide +kernel
theorem dX5_nearer_9 : decode cX5_nearer 9 = .ok (.iload_n 0, 1) := by decide +kernel
theorem dX5_nearer_10 : decode cX5_nearer 10 = .ok (.iload_n 1, 1) := by decide +kernel
theorem dX5_nearer_11 : decode cX5_nearer 11 = .ok (.if_icmp .le 7, 3) := by decide +kernel
theorem dX5_nearer_14 : decode cX5_nearer 14 = .ok (.iconst (-1), 1) := by decide +kernel
theorem dX5_nearer_15 : decode cX5_nearer 15 = .ok (.goto 4, 3) := by decide +kernel
theorem dX5_nearer_18 : decode cX5_nearer 18 = .ok (.iconst 0, 1) := by decide +kernel
theorem dX5_nearer_19 : decode cX5_nearer 19 = .ok (.ireturn, 1) := by decide +kernel
theorem dX5_goesBy_0 : decode cX5_goesBy 0 = .ok (.aload_n 0, 1) := by decide +kernel
theorem dX5_goesBy_1 : decode cX5_goesBy 1 = .ok (.iconst 0, 1) := by decide +kernel
theorem dX5_goesBy_2 : decode cX5_goesBy 2 = .ok (.invokevirtual 74, 3) := by decide +kernel
theorem dX5_goesBy_5 : decode cX5_goesBy 5 = .ok (.istore_n 1, 1) := by decide +kernel
theorem dX5_goesBy_6 : decode cX5_goesBy 6 = .ok (.iload_n 1, 1) := by decide +kernel
theorem dX5_goesBy_7 : decode cX5_goesBy 7 = .ok (.bipush (-4), 2) := by decide +kernel
theorem dX5_goesBy_9 : decode cX5_goesBy 9 = .ok (.if_icmp .eq 68, 3) := by decide +kernel
theorem dX5_goesBy_12 : decode cX5_goesBy 12 = .ok (.aload_n 0, 1) := by decide +kernel
theorem dX5_goesBy_13 : decode cX5_goesBy 13 = .ok (.getfield 7, 3) := by decide +kernel
theorem dX5_goesBy_16 : decode cX5_goesBy 16 = .ok (.iconst 1, 1) := by decide +kernel
theorem dX5_goesBy_17 : decode cX5_goesBy 17 = .ok (.iaload, 1) := by decide +kernel
theorem dX5_goesBy_18 : decode cX5_goesBy 18 = .ok (.istore_n 2, 1) := by decide +kernel
theorem dX5_goesBy_19 : decode cX5_goesBy 19 = .ok (.aload_n 0, 1) := by decide +kernel
theorem dX5_goesBy_20 : decode cX5_goesBy 20 = .ok (.iload_n 1, 1) := by decide +kernel
theorem dX5_goesBy_21 : decode cX5_goesBy 21 = .ok (.iconst 1, 1) := by decide +kernel
theorem dX5_goesBy_22 : decode cX5_goesBy 22 = .ok (.invokevirtual 53, 3) := by decide +kernel
theorem dX5_goesBy_25 : decode cX5_goesBy 25 = .ok (.istore_n 3, 1) := by decide +kernel
theorem dX5_goesBy_26 : decode cX5_goesBy 26 = .ok (.aload_n 0, 1) := by decide +kernel
theorem dX5_goesBy_27 : decode cX5_goesBy 27 = .ok (.getfield 7, 3) := by decide +kernel
theorem dX5_goesBy_30 : decode cX5_goesBy 30 = .ok (.iconst 3, 1) := by decide +kernel
theorem dX5_goesBy_31 : decode cX5_goesBy 31 = .ok (.iaload, 1) := by decide +kernel
theorem dX5_goesBy_32 : decode cX5_goesBy 32 = .ok (.iload_n 2, 1) := by decide +kernel
theorem dX5_goesBy_33 : decode cX5_goesBy 33 = .ok (.idiv, 1) := by decide +kernel
theorem dX5_goesBy_34 : decode cX5_goesBy 34 = .ok (.iload_n 3, 1) := by decide +kernel
theorem dX5_goesBy_35 : decode cX5_goesBy 35 = .ok (.iload_n 2, 1) := by decide +kernel
theorem dX5_goesBy_36 : decode cX5_goesBy 36 = .ok (.idiv, 1) := by decide +kernel
theorem dX5_goesBy_37 : decode cX5_goesBy 37 = .ok (.invokestatic 77, 3) := by decide +kernel
theorem dX5_goesBy_40 : decode cX5_goesBy 40 = .ok (.istore 4, 2) := by decide +kernel
theorem dX5_goesBy_42 : decode cX5_goesBy 42 = .ok (.aload_n 0, 1) := by decide +kernel
theorem dX5_goesBy_43 : decode cX5_goesBy 43 = .ok (.getfield 7, 3) := by decide +kernel
theorem dX5_goesBy_46 : decode cX5_goesBy 46 = .ok (.iconst 3, 1) := by decide +kernel
theorem dX5_goesBy_47 : decode cX5_goesBy 47 = .ok (.dup2, 1) := by decide +kernel
theorem dX5_goesBy_48 : decode cX5_goesBy 48 = .ok (.iaload, 1) := by decide +kernel
theorem dX5_goesBy_49 : decode cX5_goesBy 49 = .ok (.iload 4, 2) := by decide +kernel
theorem dX5_goesBy_51 : decode cX5_goesBy 51 = .ok (.ifCond .eq 10, 3) := by decide +kernel
theorem dX5_goesBy_54 : decode cX5_goesBy 54 = .ok (.iload 4, 2) := by decide +kernel
theorem dX5_goesBy_56 : decode cX5_goesBy 56 = .ok (.iload_n 2, 1) := by decide +kernel
theorem dX5_goesBy_57 : decode cX5_goesBy 57 = .ok (.imul, 1) := by decide +kernel
theorem dX5_goesBy_58 : decode cX5_goesBy 58 = .ok (.goto 17, 3) := by decide +kernel
theorem dX5_goesBy_61 : decode cX5_goesBy 61 = .ok (.aload_n 0, 1) := by decide +kernel
theorem dX5_goesBy_62 : decode cX5_goesBy 62 = .ok (.getfield 7, 3) := by decide +kernel
theorem dX5_goesBy_65 : decode cX5_goesBy 65 = .ok (.iconst 3, 1) := by decide +kernel
theorem dX5_goesBy_66 : decode cX5_goesBy 66 = .ok (.iaload, 1) := by decide +kernel
theorem dX5_goesBy_67 : decode cX5_goesBy 67 = .ok (.iload_n 2, 1) := by decide +kernel
theorem dX5_goesBy_68 : decode cX5_goesBy 68 = .ok (.irem, 1) := by decide +kernel
theorem dX5_goesBy_69 : decode cX5_goesBy 69 = .ok (.iload_n 3, 1) := by decide +kernel
theorem dX5_goesBy_70 : decode cX5_goesBy 70 = .ok (.iload_n 2, 1) := by decide +kernel
theorem dX5_goesBy_71 : decode cX5_goesBy 71 = .ok (.irem, 1) := by decide +kernel
theorem dX5_goesBy_72 : decode cX5_goesBy 72 = .ok (.invokestatic 77, 3) := by decide +kernel
theorem dX5_goesBy_75 : decode cX5_goesBy 75 = .ok (.iadd, 1) := by decide +kernel
theorem dX5_goesBy_76 : decode cX5_goesBy 76 = .ok (.iastore, 1) := by decide +kernel
theorem dX5_goesBy_77 : decode cX5_goesBy 77 = .ok (.aload_n 0, 1) := by decide +kernel
theorem dX5_goesBy_78 : decode cX5_goesBy 78 = .ok (.bipush (-4), 2) := by decide +kernel
theorem dX5_goesBy_80 : decode cX5_goesBy 80 = .ok (.putfield 80, 3) := by decide +kernel
theorem dX5_goesBy_83 : decode cX5_goesBy 83 = .ok (.aload_n 0, 1) := by decide +kernel
theorem dX5_goesBy_84 : decode cX5_goesBy 84 = .ok (.getfield 7, 3) := by decide +kernel
theorem dX5_goesBy_87 : decode cX5_goesBy 87 = .ok (.iconst 2, 1) := by decide +kernel
theorem dX5_goesBy_88 : decode cX5_goesBy 88 = .ok (.iaload, 1) := by decide +kernel
theorem dX5_goesBy_89 : decode cX5_goesBy 89 = .ok (.iconst 1, 1) := by decide +kernel
theorem dX5_goesBy_90 : decode cX5_goesBy 90 = .ok (.isub, 1) := by decide +kernel
theorem dX5_goesBy_91 : decode cX5_goesBy 91 = .ok (.istore_n 2, 1) := by decide +kernel
theorem dX5_goesBy_92 : decode cX5_goesBy 92 = .ok (.iload_n 2, 1) := by decide +kernel
theorem dX5_goesBy_93 : decode cX5_goesBy 93 = .ok (.ifCond .lt 44, 3) := by decide +kernel
theorem dX5_goesBy_96 : decode cX5_goesBy 96 = .ok (.aload_n 0, 1) := by decide +kernel
theorem dX5_goesBy_97 : decode cX5_goesBy 97 = .ok (.aload_n 0, 1) := by decide +kernel
theorem dX5_goesBy_98 : decode cX5_goesBy 98 = .ok (.iload_n 2, 1) := by decide +kernel
theorem dX5_goesBy_99 : decode cX5_goesBy 99 = .ok (.invokevirtual 67, 3) := by decide +kernel
theorem dX5_goesBy_102 : decode cX5_goesBy 102 = .ok (.ifCond .eq 22, 3) := by decide +kernel
theorem dX5_goesBy_105 : decode cX5_goesBy 105 = .ok (.aload_n 0, 1) := by decide +kernel
theorem dX5_goesBy_106 : decode cX5_goesBy 106 = .ok (.iload_n 2, 1) := by decide +kernel
theorem dX5_goesBy_107 : decode cX5_goesBy 107 = .ok (.iconst 1, 1) := by decide +kernel
theorem dX5_goesBy_108 : decode cX5_goesBy 108 = .ok (.invokevirtual 53, 3) := by decide +kernel
theorem dX5_goesBy_111 : decode cX5_goesBy 111 = .ok (.aload_n 0, 1) := by decide +kernel
theorem dX5_goesBy_112 : decode cX5_goesBy 112 = .ok (.getfield 7, 3) := by decide +kernel
theorem dX5_goesBy_115 : decode cX5_goesBy 115 = .ok (.iconst 3, 1) := by decide +kernel
theorem dX5_goesBy_116 : decode cX5_goesBy 116 = .ok (.iaload, 1) := by decide +kernel
theorem dX5_goesBy_117 : decode cX5_goesBy 117 = .ok (.if_icmp .ne 7, 3) := by decide +kernel
theorem dX5_goesBy_120 : decode cX5_goesBy 120 = .ok (.iload_n 2, 1) := by decide +kernel
theorem dX5_goesBy_121 : decode cX5_goesBy 121 = .ok (.goto 7, 3) := by decide +kernel
theorem dX5_goesBy_124 : decode cX5_goesBy 124 = .ok (.aload_n 0, 1) := by decide +kernel
theorem dX5_goesBy_125 : decode cX5_goesBy 125 = .ok (.getfield 80, 3) := by decide +kernel
theorem dX5_goesBy_128 : decode cX5_goesBy 128 = .ok (.putfield 80, 3) := by decide +kernel
theorem dX5_goesBy_131 : decode cX5_goesBy 131 = .ok (.iinc 2 (-1), 3) := by decide +kernel
theorem dX5_goesBy_134 : decode cX5_goesBy 134 = .ok (.goto (-42), 3) := by decide +kernel
theorem dX5_goesBy_137 : decode cX5_goesBy 137 = .ok (.aload_n 0, 1) := by decide +kernel
theorem dX5_goesBy_138 : decode cX5_goesBy 138 = .ok (.getfield 7, 3) := by decide +kernel
theorem dX5_goesBy_141 : decode cX5_goesBy 141 = .ok (.iconst 4, 1) := by decide +kernel
theorem dX5_goesBy_142 : decode cX5_goesBy 142 = .ok (.dup2, 1) := by decide +kernel
theorem dX5_goesBy_143 : decode cX5_goesBy 143 = .ok (.iaload, 1) := by decide +kernel
theorem dX5_goesBy_144 : decode cX5_goesBy 144 = .ok (.iconst 1, 1) := by decide +kernel
theorem dX5_goesBy_145 : decode cX5_goesBy 145 = .ok (.iadd, 1) := by decide +kernel
theorem dX5_goesBy_146 : decode cX5_goesBy 146 = .ok (.iastore, 1) := by decide +kernel
theorem dX5_goesBy_147 : decode cX5_goesBy 147 = .ok (.aload_n 0, 1) := by decide +kernel
theorem dX5_goesBy_148 : decode cX5_goesBy 148 = .ok (.getfield 80, 3) := by decide +kernel
theorem dX5_goesBy_151 : decode cX5_goesBy 151 = .ok (.bipush (-4), 2) := by decide +kernel
theorem dX5_goesBy_153 : decode cX5_goesBy 153 = .ok (.if_icmp .ne 5, 3) := by decide +kernel
theorem dX5_goesBy_156 : decode cX5_goesBy 156 = .ok (.iconst 0, 1) := by decide +kernel
theorem dX5_goesBy_157 : decode cX5_goesBy 157 = .ok (.ireturn, 1) := by decide +kernel
theorem dX5_goesBy_158 : decode cX5_goesBy 158 = .ok (.aload_n 0, 1) := by decide +kernel
theorem dX5_goesBy_159 : decode cX5_goesBy 159 = .ok (.aload_n 0, 1) := by decide +kernel
theorem dX5_goesBy_160 : decode cX5_goesBy 160 = .ok (.aload_n 0, 1) := by decide +kernel
theorem dX5_goesBy_161 : decode cX5_goesBy 161 = .ok (.getfield 80, 3) := by decide +kernel
theorem dX5_goesBy_164 : decode cX5_goesBy 164 = .ok (.aload_n 0, 1) := by decide +kernel
theorem dX5_goesBy_165 : decode cX5_goesBy 165 = .ok (.aload_n 0, 1) := by decide +kernel
theorem dX5_goesBy_166 : decode cX5_goesBy 166 = .ok (.getfield 80, 3) := by decide +kernel
theorem dX5_goesBy_169 : decode cX5_goesBy 169 = .ok (.iconst 4, 1) := by decide +kernel
theorem dX5_goesBy_170 : decode cX5_goesBy 170 = .ok (.invokevirtual 53, 3) := by decide +kernel
theorem dX5_goesBy_173 : decode cX5_goesBy 173 = .ok (.invokevirtual 83, 3) := by decide +kernel
theorem dX5_goesBy_176 : decode cX5_goesBy 176 = .ok (.putfield 86, 3) := by decide +kernel
theorem dX5_goesBy_179 : decode cX5_goesBy 179 = .ok (.aload_n 0, 1) := by decide +kernel
theorem dX5_goesBy_180 : decode cX5_goesBy 180 = .ok (.getfield 7, 3) := by decide +kernel
theorem dX5_goesBy_183 : decode cX5_goesBy 183 = .ok (.iconst 5, 1) := by decide +kernel
theorem dX5_goesBy_184 : decode cX5_goesBy 184 = .ok (.dup2, 1) := by decide +kernel
theorem dX5_goesBy_185 : decode cX5_goesBy 185 = .ok (.iaload, 1) := by decide +kernel
theorem dX5_goesBy_186 : decode cX5_goesBy 186 = .ok (.iconst 1, 1) := by decide +kernel
theorem dX5_goesBy_187 : decode cX5_goesBy 187 = .ok (.aload_n 0, 1) := by decide +kernel
theorem dX5_goesBy_188 : decode cX5_goesBy 188 = .ok (.getfield 80, 3) := by decide +kernel
theorem dX5_goesBy_191 : decode cX5_goesBy 191 = .ok (.ishl, 1) := by decide +kernel
theorem dX5_goesBy_192 : decode cX5_goesBy 192 = .ok (.ior, 1) := by decide +kernel
theorem dX5_goesBy_193 : decode cX5_goesBy 193 = .ok (.iastore, 1) := by decide +kernel
theorem dX5_goesBy_194 : decode cX5_goesBy 194 = .ok (.aload_n 0, 1) := by decide +kernel
theorem dX5_goesBy_195 : decode cX5_goesBy 195 = .ok (.getfield 7, 3) := by decide +kernel
theorem dX5_goesBy_198 : decode cX5_goesBy 198 = .ok (.aload_n 0, 1) := by decide +kernel
theorem dX5_goesBy_199 : decode cX5_goesBy 199 = .ok (.getfield 86, 3) := by decide +kernel
theorem dX5_goesBy_202 : decode cX5_goesBy 202 = .ok (.aload_n 0, 1) := by decide +kernel
theorem dX5_goesBy_203 : decode cX5_goesBy 203 = .ok (.getfield 80, 3) := by decide +kernel
theorem dX5_goesBy_206 : decode cX5_goesBy 206 = .ok (.if_icmp .ne 8, 3) := by decide +kernel
theorem dX5_goesBy_209 : decode cX5_goesBy 209 = .ok (.bipush 6, 2) := by decide +kernel
theorem dX5_goesBy_211 : decode cX5_goesBy 211 = .ok (.goto 5, 3) := by decide +kernel
theorem dX5_goesBy_214 : decode cX5_goesBy 214 = .ok (.bipush 7, 2) := by decide +kernel
theorem dX5_goesBy_216 : decode cX5_goesBy 216 = .ok (.dup2, 1) := by decide +kernel
theorem dX5_goesBy_217 : decode cX5_goesBy 217 = .ok (.iaload, 1) := by decide +kernel
theorem dX5_goesBy_218 : decode cX5_goesBy 218 = .ok (.iconst 1, 1) := by decide +kernel
theorem dX5_goesBy_219 : decode cX5_goesBy 219 = .ok (.iadd, 1) := by decide +kernel
theorem dX5_goesBy_220 : decode cX5_goesBy 220 = .ok (.iastore, 1) := by decide +kernel
theorem dX5_goesBy_221 : decode cX5_goesBy 221 = .ok (.iconst 1, 1) := by decide +kernel
theorem dX5_goesBy_222 : decode cX5_goesBy 222 = .ok (.ireturn, 1) := by decide +kernel
theorem dX5_streets_0 : decode cX5_streets 0 = .ok (.iload_n 1, 1) := by decide +kernel
theorem dX5_streets_1 : decode cX5_streets 1 = .ok (.i2l, 1) := by decide +kernel
theorem dX5_streets_2 : decode cX5_streets 2 = .ok (.ldc2_w 89, 3) := by decide +kernel
theorem dX5_streets_5 : decode cX5_streets 5 = .ok (.ldc2_w 91, 3) := by decide +kernel
theorem dX5_streets_8 : decode cX5_streets 8 = .ok (.invokestatic 49, 3) := by decide +kernel
theorem dX5_streets_11 : decode cX5_streets 11 = .ok (.ifCond .eq 17, 3) := by decide +kernel
theorem dX5_streets_14 : decode cX5_streets 14 = .ok (.iload_n 2, 1) := by decide +kernel
theorem dX5_streets_15 : decode cX5_streets 15 = .ok (.i2l, 1) := by decide +kernel
theorem dX5_streets_16 : decode cX5_streets 16 = .ok (.ldc2_w 89, 3) := by decide +kernel
theorem dX5_streets_19 : decode cX5_streets 19 = .ok (.ldc2_w 91, 3) := by decide +kernel
theorem dX5_streets_22 : decode cX5_streets 22 = .ok (.invokestatic 49, 3) := by decide +kernel
theorem dX5_streets_25 : decode cX5_streets 25 = .ok (.ifCond .ne 5, 3) := by decide +kernel
theorem dX5_streets_28 : decode cX5_streets 28 = .ok (.iconst (-1), 1) := by decide +kernel
theorem dX5_streets_29 : decode cX5_streets 29 = .ok (.ireturn, 1) := by decide +kernel
theorem dX5_streets_30 : decode cX5_streets 30 = .ok (.aload_n 0, 1) := by decide +kernel
theorem dX5_streets_31 : decode cX5_streets 31 = .ok (.iload_n 1, 1) := by decide +kernel
theorem dX5_streets_32 : decode cX5_streets 32 = .ok (.iload_n 2, 1) := by decide +kernel
theorem dX5_streets_33 : decode cX5_streets 33 = .ok (.invokevirtual 41, 3) := by decide +kernel
theorem dX5_streets_36 : decode cX5_streets 36 = .ok (.aload_n 0, 1) := by decide +kernel
theorem dX5_streets_37 : decode cX5_streets 37 = .ok (.invokevirtual 93, 3) := by decide +kernel
theorem dX5_streets_40 : decode cX5_streets 40 = .ok (.ireturn, 1) := by decide +kernel
theorem dX5_comes_0 : decode cX5_comes 0 = .ok (.bipush 9, 2) := by decide +kernel
theorem dX5_comes_2 : decode cX5_comes 2 = .ok (.iconst 5, 1) := by decide +kernel
theorem dX5_comes_3 : decode cX5_comes 3 = .ok (.aload_n 0, 1) := by decide +kernel
theorem dX5_comes_4 : decode cX5_comes 4 = .ok (.getfield 7, 3) := by decide +kernel
theorem dX5_comes_7 : decode cX5_comes 7 = .ok (.iconst 2, 1) := by decide +kernel
theorem dX5_comes_8 : decode cX5_comes 8 = .ok (.iaload, 1) := by decide +kernel
theorem dX5_comes_9 : decode cX5_comes 9 = .ok (.imul, 1) := by decide +kernel
theorem dX5_comes_10 : decode cX5_comes 10 = .ok (.iadd, 1) := by decide +kernel
theorem dX5_comes_11 : decode cX5_comes 11 = .ok (.istore 5, 2) := by decide +kernel
theorem dX5_comes_13 : decode cX5_comes 13 = .ok (.aload_n 0, 1) := by decide +kernel
theorem dX5_comes_14 : decode cX5_comes 14 = .ok (.getfield 7, 3) := by decide +kernel
theorem dX5_comes_17 : decode cX5_comes 17 = .ok (.iload 5, 2) := by decide +kernel
theorem dX5_comes_19 : decode cX5_comes 19 = .ok (.iload_n 1, 1) := by decide +kernel
theorem dX5_comes_20 : decode cX5_comes 20 = .ok (.iastore, 1) := by decide +kernel
theorem dX5_comes_21 : decode cX5_comes 21 = .ok (.aload_n 0, 1) := by decide +kernel
theorem dX5_comes_22 : decode cX5_comes 22 = .ok (.getfield 7, 3) := by decide +kernel
theorem dX5_comes_25 : decode cX5_comes 25 = .ok (.iload 5, 2) := by decide +kernel
theorem dX5_comes_27 : decode cX5_comes 27 = .ok (.iconst 1, 1) := by decide +kernel
theorem dX5_comes_28 : decode cX5_comes 28 = .ok (.iadd, 1) := by decide +kernel
theorem dX5_comes_29 : decode cX5_comes 29 = .ok (.iload_n 2, 1) := by decide +kernel
theorem dX5_comes_30 : decode cX5_comes 30 = .ok (.iastore, 1) := by decide +kernel
theorem dX5_comes_31 : decode cX5_comes 31 = .ok (.aload_n 0, 1) := by decide +kernel
theorem dX5_comes_32 : decode cX5_comes 32 = .ok (.getfield 7, 3) := by decide +kernel
theorem dX5_comes_35 : decode cX5_comes 35 = .ok (.iload 5, 2) := by decide +kernel
theorem dX5_comes_37 : decode cX5_comes 37 = .ok (.iconst 2, 1) := by decide +kernel
theorem dX5_comes_38 : decode cX5_comes 38 = .ok (.iadd, 1) := by decide +kernel
theorem dX5_comes_39 : decode cX5_comes 39 = .ok (.iload_n 3, 1) := by decide +kernel
theorem dX5_comes_40 : decode cX5_comes 40 = .ok (.iastore, 1) := by decide +kernel
theorem dX5_comes_41 : decode cX5_comes 41 = .ok (.aload_n 0, 1) := by decide +kernel
theorem dX5_comes_42 : decode cX5_comes 42 = .ok (.getfield 7, 3) := by decide +kernel
theorem dX5_comes_45 : decode cX5_comes 45 = .ok (.iload 5, 2) := by decide +kernel
theorem dX5_comes_47 : decode cX5_comes 47 = .ok (.iconst 3, 1) := by decide +kernel
theorem dX5_comes_48 : decode cX5_comes 48 = .ok (.iadd, 1) := by decide +kernel
theorem dX5_comes_49 : decode cX5_comes 49 = .ok (.iload 4, 2) := by decide +kernel
theorem dX5_comes_51 : decode cX5_comes 51 = .ok (.iastore, 1) := by decide +kernel
theorem dX5_comes_52 : decode cX5_comes 52 = .ok (.aload_n 0, 1) := by decide +kernel
theorem dX5_comes_53 : decode cX5_comes 53 = .ok (.getfield 7, 3) := by decide +kernel
theorem dX5_comes_56 : decode cX5_comes 56 = .ok (.iload 5, 2) := by decide +kernel
theorem dX5_comes_58 : decode cX5_comes 58 = .ok (.iconst 4, 1) := by decide +kernel
theorem dX5_comes_59 : decode cX5_comes 59 = .ok (.iadd, 1) := by decide +kernel
theorem dX5_comes_60 : decode cX5_comes 60 = .ok (.iconst 0, 1) := by decide +kernel
theorem dX5_comes_61 : decode cX5_comes 61 = .ok (.iastore, 1) := by decide +kernel
theorem dX5_comes_62 : decode cX5_comes 62 = .ok (.aload_n 0, 1) := by decide +kernel
theorem dX5_comes_63 : decode cX5_comes 63 = .ok (.getfield 7, 3) := by decide +kernel
theorem dX5_comes_66 : decode cX5_comes 66 = .ok (.iconst 2, 1) := by decide +kernel
theorem dX5_comes_67 : decode cX5_comes 67 = .ok (.dup2, 1) := by decide +kernel
theorem dX5_comes_68 : decode cX5_comes 68 = .ok (.iaload, 1) := by decide +kernel
theorem dX5_comes_69 : decode cX5_comes 69 = .ok (.iconst 1, 1) := by decide +kernel
theorem dX5_comes_70 : decode cX5_comes 70 = .ok (.iadd, 1) := by decide +kernel
theorem dX5_comes_71 : decode cX5_comes 71 = .ok (.iastore, 1) := by decide +kernel
theorem dX5_comes_72 : decode cX5_comes 72 = .ok (.aload_n 0, 1) := by decide +kernel
theorem dX5_comes_73 : decode cX5_comes 73 = .ok (.iconst 0, 1) := by decide +kernel
theorem dX5_comes_74 : decode cX5_comes 74 = .ok (.putfield 45, 3) := by decide +kernel
theorem dX5_comes_77 : decode cX5_comes 77 = .ok (.return_, 1) := by decide +kernel
theorem dX5_person_0 : decode cX5_person 0 = .ok (.iload_n 1, 1) := by decide +kernel
theorem dX5_person_1 : decode cX5_person 1 = .ok (.i2l, 1) := by decide +kernel
theorem dX5_person_2 : decode cX5_person 2 = .ok (.lconst 0, 1) := by decide +kernel
theorem dX5_person_3 : decode cX5_person 3 = .ok (.ldc2_w 97, 3) := by decide +kernel
theorem dX5_person_6 : decode cX5_person 6 = .ok (.invokestatic 49, 3) := by decide +kernel
theorem dX5_person_9 : decode cX5_person 9 = .ok (.ifCond .eq 44, 3) := by decide +kernel
theorem dX5_person_12 : decode cX5_person 12 = .ok (.iload_n 2, 1) := by decide +kernel
theorem dX5_person_13 : decode cX5_person 13 = .ok (.i2l, 1) := by decide +kernel
theorem dX5_person_14 : decode cX5_person 14 = .ok (.lconst 0, 1) := by decide +kernel
theorem dX5_person_15 : decode cX5_person 15 = .ok (.aload_n 0, 1) := by decide +kernel
theorem dX5_person_16 : decode cX5_person 16 = .ok (.invokevirtual 93, 3) := by decide +kernel
theorem dX5_person_19 : decode cX5_person 19 = .ok (.iconst 1, 1) := by decide +kernel
theorem dX5_person_20 : decode cX5_person 20 = .ok (.isub, 1) := by decide +kernel
theorem dX5_person_21 : decode cX5_person 21 = .ok (.i2l, 1) := by decide +kernel
theorem dX5_person_22 : decode cX5_person 22 = .ok (.invokestatic 49, 3) := by decide +kernel
theorem dX5_person_25 : decode cX5_person 25 = .ok (.ifCond .eq 28, 3) := by decide +kernel
theorem dX5_person_28 : decode cX5_person 28 = .ok (.iload_n 3, 1) := by decide +kernel
theorem dX5_person_29 : decode cX5_person 29 = .ok (.i2l, 1) := by decide +kernel
theorem dX5_person_30 : decode cX5_person 30 = .ok (.lconst 0, 1) := by decide +kernel
theorem dX5_person_31 : decode cX5_person 31 = .ok (.ldc2_w 99, 3) := by decide +kernel
theorem dX5_person_34 : decode cX5_person 34 = .ok (.invokestatic 49, 3) := by decide +kernel
theorem dX5_person_37 : decode cX5_person 37 = .ok (.ifCond .eq 16, 3) := by decide +kernel
theorem dX5_person_40 : decode cX5_person 40 = .ok (.iload 4, 2) := by decide +kernel
theorem dX5_person_42 : decode cX5_person 42 = .ok (.i2l, 1) := by decide +kernel
theorem dX5_person_43 : decode cX5_person 43 = .ok (.lconst 0, 1) := by decide +kernel
theorem dX5_person_44 : decode cX5_person 44 = .ok (.ldc2_w 101, 3) := by decide +kernel
theorem dX5_person_47 : decode cX5_person 47 = .ok (.invokestatic 49, 3) := by decide +kernel
theorem dX5_person_50 : decode cX5_person 50 = .ok (.ifCond .ne 5, 3) := by decide +kernel
theorem dX5_person_53 : decode cX5_person 53 = .ok (.iconst (-1), 1) := by decide +kernel
theorem dX5_person_54 : decode cX5_person 54 = .ok (.ireturn, 1) := by decide +kernel
theorem dX5_person_55 : decode cX5_person 55 = .ok (.aload_n 0, 1) := by decide +kernel
theorem dX5_person_56 : decode cX5_person 56 = .ok (.getfield 7, 3) := by decide +kernel
theorem dX5_person_59 : decode cX5_person 59 = .ok (.iconst 2, 1) := by decide +kernel
theorem dX5_person_60 : decode cX5_person 60 = .ok (.iaload, 1) := by decide +kernel
theorem dX5_person_61 : decode cX5_person 61 = .ok (.bipush 6, 2) := by decide +kernel
theorem dX5_person_63 : decode cX5_person 63 = .ok (.if_icmp .ne 6, 3) := by decide +kernel
theorem dX5_person_66 : decode cX5_person 66 = .ok (.bipush (-3), 2) := by decide +kernel
theorem dX5_person_68 : decode cX5_person 68 = .ok (.ireturn, 1) := by decide +kernel
theorem dX5_person_69 : decode cX5_person 69 = .ok (.aload_n 0, 1) := by decide +kernel
theorem dX5_person_70 : decode cX5_person 70 = .ok (.iload_n 1, 1) := by decide +kernel
theorem dX5_person_71 : decode cX5_person 71 = .ok (.iload_n 2, 1) := by decide +kernel
theorem dX5_person_72 : decode cX5_person 72 = .ok (.iload_n 3, 1) := by decide +kernel
theorem dX5_person_73 : decode cX5_person 73 = .ok (.iload 4, 2) := by decide +kernel
theorem dX5_person_75 : decode cX5_person 75 = .ok (.invokevirtual 103, 3) := by decide +kernel
theorem dX5_person_78 : decode cX5_person 78 = .ok (.aload_n 0, 1) := by decide +kernel
theorem dX5_person_79 : decode cX5_person 79 = .ok (.getfield 7, 3) := by decide +kernel
theorem dX5_person_82 : decode cX5_person 82 = .ok (.iconst 2, 1) := by decide +kernel
theorem dX5_person_83 : decode cX5_person 83 = .ok (.iaload, 1) := by decide +kernel
theorem dX5_person_84 : decode cX5_person 84 = .ok (.iconst 1, 1) := by decide +kernel
theorem dX5_person_85 : decode cX5_person 85 = .ok (.isub, 1) := by decide +kernel
theorem dX5_person_86 : decode cX5_person 86 = .ok (.ireturn, 1) := by decide +kernel
theorem dX5_of_0 : decode cX5_of 0 = .ok (.aload_n 0, 1) := by decide +kernel
theorem dX5_of_1 : decode cX5_of 1 = .ok (.iload_n 1, 1) := by decide +kernel
theorem dX5_of_2 : decode cX5_of 2 = .ok (.invokevirtual 107, 3) := by decide +kernel
theorem dX5_of_5 : decode cX5_of 5 = .ok (.ifCond .eq 15, 3) := by decide +kernel
theorem dX5_of_8 : decode cX5_of 8 = .ok (.iload_n 2, 1) := by decide +kernel
theorem dX5_of_9 : decode cX5_of 9 = .ok (.i2l, 1) := by decide +kernel
theorem dX5_of_10 : decode cX5_of 10 = .ok (.lconst 0, 1) := by decide +kernel
theorem dX5_of_11 : decode cX5_of 11 = .ok (.ldc2_w 110, 3) := by decide +kernel
theorem dX5_of_14 : decode cX5_of 14 = .ok (.invokestatic 49, 3) := by decide +kernel
theorem dX5_of_17 : decode cX5_of 17 = .ok (.ifCond .ne 5, 3) := by decide +kernel
theorem dX5_of_20 : decode cX5_of 20 = .ok (.iconst (-1), 1) := by decide +kernel
theorem dX5_of_21 : decode cX5_of 21 = .ok (.ireturn, 1) := by decide +kernel
theorem dX5_of_22 : decode cX5_of 22 = .ok (.iload_n 2, 1) := by decide +kernel
theorem dX5_of_23 : decode cX5_of 23 = .ok (.tableswitch 67 5 8 #[29, 43, 49, 55], 29) := by decide +kernel
theorem dX5_of_52 : decode cX5_of 52 = .ok (.aload_n 0, 1) := by decide +kernel
theorem dX5_of_53 : decode cX5_of 53 = .ok (.iload_n 1, 1) := by decide +kernel
theorem dX5_of_54 : decode cX5_of 54 = .ok (.invokevirtual 67, 3) := by decide +kernel
theorem dX5_of_57 : decode cX5_of 57 = .ok (.ifCond .eq 7, 3) := by decide +kernel
theorem dX5_of_60 : decode cX5_of 60 = .ok (.iconst 0, 1) := by decide +kernel
theorem dX5_of_61 : decode cX5_of 61 = .ok (.goto 4, 3) := by decide +kernel
theorem dX5_of_64 : decode cX5_of 64 = .ok (.iconst 1, 1) := by decide +kernel
theorem dX5_of_65 : decode cX5_of 65 = .ok (.ireturn, 1) := by decide +kernel
theorem dX5_of_66 : decode cX5_of 66 = .ok (.aload_n 0, 1) := by decide +kernel
theorem dX5_of_67 : decode cX5_of 67 = .ok (.iload_n 1, 1) := by decide +kernel
theorem dX5_of_68 : decode cX5_of 68 = .ok (.invokevirtual 60, 3) := by decide +kernel
theorem dX5_of_71 : decode cX5_of 71 = .ok (.ireturn, 1) := by decide +kernel
theorem dX5_of_72 : decode cX5_of 72 = .ok (.aload_n 0, 1) := by decide +kernel
theorem dX5_of_73 : decode cX5_of 73 = .ok (.iload_n 1, 1) := by decide +kernel
theorem dX5_of_74 : decode cX5_of 74 = .ok (.invokevirtual 71, 3) := by decide +kernel
theorem dX5_of_77 : decode cX5_of 77 = .ok (.ireturn, 1) := by decide +kernel
theorem dX5_of_78 : decode cX5_of 78 = .ok (.aload_n 0, 1) := by decide +kernel
theorem dX5_of_79 : decode cX5_of 79 = .ok (.iload_n 1, 1) := by decide +kernel
theorem dX5_of_80 : decode cX5_of 80 = .ok (.aload_n 0, 1) := by decide +kernel
theorem dX5_of_81 : decode cX5_of 81 = .ok (.iload_n 1, 1) := by decide +kernel
theorem dX5_of_82 : decode cX5_of 82 = .ok (.iconst 4, 1) := by decide +kernel
theorem dX5_of_83 : decode cX5_of 83 = .ok (.invokevirtual 53, 3) := by decide +kernel
theorem dX5_of_86 : decode cX5_of 86 = .ok (.invokevirtual 83, 3) := by decide +kernel
theorem dX5_of_89 : decode cX5_of 89 = .ok (.ireturn, 1) := by decide +kernel
theorem dX5_of_90 : decode cX5_of 90 = .ok (.aload_n 0, 1) := by decide +kernel
theorem dX5_of_91 : decode cX5_of 91 = .ok (.iload_n 1, 1) := by decide +kernel
theorem dX5_of_92 : decode cX5_of 92 = .ok (.iload_n 2, 1) := by decide +kernel
theorem dX5_of_93 : decode cX5_of 93 = .ok (.invokevirtual 53, 3) := by decide +kernel
theorem dX5_of_96 : decode cX5_of 96 = .ok (.ireturn, 1) := by decide +kernel
theorem dX5_rule_0 : decode cX5_rule 0 = .ok (.aload_n 0, 1) := by decide +kernel
theorem dX5_rule_1 : decode cX5_rule 1 = .ok (.iload_n 1, 1) := by decide +kernel
theorem dX5_rule_2 : decode cX5_rule 2 = .ok (.invokevirtual 107, 3) := by decide +kernel
theorem dX5_rule_5 : decode cX5_rule 5 = .ok (.ifCond .eq 35, 3) := by decide +kernel
theorem dX5_rule_8 : decode cX5_rule 8 = .ok (.iload_n 2, 1) := by decide +kernel
theorem dX5_rule_9 : decode cX5_rule 9 = .ok (.i2l, 1) := by decide +kernel
theorem dX5_rule_10 : decode cX5_rule 10 = .ok (.lconst 0, 1) := by decide +kernel
theorem dX5_rule_11 : decode cX5_rule 11 = .ok (.lconst 1, 1) := by decide +kernel
theorem dX5_rule_12 : decode cX5_rule 12 = .ok (.invokestatic 49, 3) := by decide +kernel
theorem dX5_rule_15 : decode cX5_rule 15 = .ok (.ifCond .eq 25, 3) := by decide +kernel
theorem dX5_rule_18 : decode cX5_rule 18 = .ok (.iload_n 3, 1) := by decide +kernel
theorem dX5_rule_19 : decode cX5_rule 19 = .ok (.i2l, 1) := by decide +kernel
theorem dX5_rule_20 : decode cX5_rule 20 = .ok (.lconst 0, 1) := by decide +kernel
theorem dX5_rule_21 : decode cX5_rule 21 = .ok (.iload_n 2, 1) := by decide +kernel
theorem dX5_rule_22 : decode cX5_rule 22 = .ok (.ifCond .ne 9, 3) := by decide +kernel
theorem dX5_rule_25 : decode cX5_rule 25 = .ok (.ldc2_w 99, 3) := by decide +kernel
theorem dX5_rule_28 : decode cX5_rule 28 = .ok (.goto 6, 3) := by decide +kernel
theorem dX5_rule_31 : decode cX5_rule 31 = .ok (.ldc2_w 101, 3) := by decide +kernel
theorem dX5_rule_34 : decode cX5_rule 34 = .ok (.invokestatic 49, 3) := by decide +kernel
theorem dX5_rule_37 : decode cX5_rule 37 = .ok (.ifCond .ne 5, 3) := by decide +kernel
theorem dX5_rule_40 : decode cX5_rule 40 = .ok (.iconst (-1), 1) := by decide +kernel
theorem dX5_rule_41 : decode cX5_rule 41 = .ok (.ireturn, 1) := by decide +kernel
theorem dX5_rule_42 : decode cX5_rule 42 = .ok (.bipush 9, 2) := by decide +kernel
theorem dX5_rule_44 : decode cX5_rule 44 = .ok (.iconst 5, 1) := by decide +kernel
theorem dX5_rule_45 : decode cX5_rule 45 = .ok (.iload_n 1, 1) := by decide +kernel
theorem dX5_rule_46 : decode cX5_rule 46 = .ok (.imul, 1) := by decide +kernel
theorem dX5_rule_47 : decode cX5_rule 47 = .ok (.iadd, 1) := by decide +kernel
theorem dX5_rule_48 : decode cX5_rule 48 = .ok (.iload_n 2, 1) := by decide +kernel
theorem dX5_rule_49 : decode cX5_rule 49 = .ok (.ifCond .ne 7, 3) := by decide +kernel
theorem dX5_rule_52 : decode cX5_rule 52 = .ok (.iconst 2, 1) := by decide +kernel
theorem dX5_rule_53 : decode cX5_rule 53 = .ok (.goto 4, 3) := by decide +kernel
theorem dX5_rule_56 : decode cX5_rule 56 = .ok (.iconst 4, 1) := by decide +kernel
theorem dX5_rule_57 : decode cX5_rule 57 = .ok (.iadd, 1) := by decide +kernel
theorem dX5_rule_58 : decode cX5_rule 58 = .ok (.istore 4, 2) := by decide +kernel
theorem dX5_rule_60 : decode cX5_rule 60 = .ok (.aload_n 0, 1) := by decide +kernel
theorem dX5_rule_61 : decode cX5_rule 61 = .ok (.getfield 7, 3) := by decide +kernel
theorem dX5_rule_64 : decode cX5_rule 64 = .ok (.iload 4, 2) := by decide +kernel
theorem dX5_rule_66 : decode cX5_rule 66 = .ok (.iaload, 1) := by decide +kernel
theorem dX5_rule_67 : decode cX5_rule 67 = .ok (.istore 5, 2) := by decide +kernel
theorem dX5_rule_69 : decode cX5_rule 69 = .ok (.aload_n 0, 1) := by decide +kernel
theorem dX5_rule_70 : decode cX5_rule 70 = .ok (.getfield 7, 3) := by decide +kernel
theorem dX5_rule_73 : decode cX5_rule 73 = .ok (.iload 4, 2) := by decide +kernel
theorem dX5_rule_75 : decode cX5_rule 75 = .ok (.iload_n 3, 1) := by decide +kernel
theorem dX5_rule_76 : decode cX5_rule 76 = .ok (.iastore, 1) := by decide +kernel
theorem dX5_rule_77 : decode cX5_rule 77 = .ok (.iload 5, 2) := by decide +kernel
theorem dX5_rule_79 : decode cX5_rule 79 = .ok (.ireturn, 1) := by decide +kernel
theorem dX5_count_0 : decode cX5_count 0 = .ok (.iload_n 1, 1) := by decide +kernel
theorem dX5_count_1 : decode cX5_count 1 = .ok (.i2l, 1) := by decide +kernel
theorem dX5_count_2 : decode cX5_count 2 = .ok (.lconst 0, 1) := by decide +kernel
theorem dX5_count_3 : decode cX5_count 3 = .ok (.ldc2_w 112, 3) := by decide +kernel
theorem dX5_count_6 : decode cX5_count 6 = .ok (.invokestatic 49, 3) := by decide +kernel
theorem dX5_count_9 : decode cX5_count 9 = .ok (.ifCond .eq 12, 3) := by decide +kernel
theorem dX5_count_12 : decode cX5_count 12 = .ok (.aload_n 0, 1) := by decide +kernel
theorem dX5_count_13 : decode cX5_count 13 = .ok (.getfield 7, 3) := by decide +kernel
theorem dX5_count_16 : decode cX5_count 16 = .ok (.iload_n 1, 1) := by decide +kernel
theorem dX5_count_17 : decode cX5_count 17 = .ok (.iaload, 1) := by decide +kernel
theorem dX5_count_18 : decode cX5_count 18 = .ok (.goto 31, 3) := by decide +kernel
theorem dX5_count_21 : decode cX5_count 21 = .ok (.iload_n 1, 1) := by decide +kernel
theorem dX5_count_22 : decode cX5_count 22 = .ok (.bipush 8, 2) := by decide +kernel
theorem dX5_count_24 : decode cX5_count 24 = .ok (.if_icmp .ne 11, 3) := by decide +kernel
theorem dX5_count_27 : decode cX5_count 27 = .ok (.aload_n 0, 1) := by decide +kernel
theorem dX5_count_28 : decode cX5_count 28 = .ok (.iconst 0, 1) := by decide +kernel
theorem dX5_count_29 : decode cX5_count 29 = .ok (.invokevirtual 74, 3) := by decide +kernel
theorem dX5_count_32 : decode cX5_count 32 = .ok (.goto 17, 3) := by decide +kernel
theorem dX5_count_35 : decode cX5_count 35 = .ok (.iload_n 1, 1) := by decide +kernel
theorem dX5_count_36 : decode cX5_count 36 = .ok (.bipush 9, 2) := by decide +kernel
theorem dX5_count_38 : decode cX5_count 38 = .ok (.if_icmp .ne 10, 3) := by decide +kernel
theorem dX5_count_41 : decode cX5_count 41 = .ok (.aload_n 0, 1) := by decide +kernel
theorem dX5_count_42 : decode cX5_count 42 = .ok (.getfield 45, 3) := by decide +kernel
theorem dX5_count_45 : decode cX5_count 45 = .ok (.goto 4, 3) := by decide +kernel
theorem dX5_count_48 : decode cX5_count 48 = .ok (.iconst (-1), 1) := by decide +kernel
theorem dX5_count_49 : decode cX5_count 49 = .ok (.ireturn, 1) := by decide +kernel
theorem dX5_type_0 : decode cX5_type 0 = .ok (.iload_n 1, 1) := by decide +kernel
theorem dX5_type_1 : decode cX5_type 1 = .ok (.i2l, 1) := by decide +kernel
theorem dX5_type_2 : decode cX5_type 2 = .ok (.ldc2_w 114, 3) := by decide +kernel
theorem dX5_type_5 : decode cX5_type 5 = .ok (.ldc2_w 116, 3) := by decide +kernel
theorem dX5_type_8 : decode cX5_type 8 = .ok (.invokestatic 49, 3) := by decide +kernel
theorem dX5_type_11 : decode cX5_type 11 = .ok (.ifCond .ne 5, 3) := by decide +kernel
theorem dX5_type_14 : decode cX5_type 14 = .ok (.iconst (-1), 1) := by decide +kernel
theorem dX5_type_15 : decode cX5_type 15 = .ok (.ireturn, 1) := by decide +kernel
theorem dX5_type_16 : decode cX5_type 16 = .ok (.aload_n 0, 1) := by decide +kernel
theorem dX5_type_17 : decode cX5_type 17 = .ok (.getfield 118, 3) := by decide +kernel
theorem dX5_type_20 : decode cX5_type 20 = .ok (.bipush 90, 2) := by decide +kernel
theorem dX5_type_22 : decode cX5_type 22 = .ok (.if_icmp .ne 6, 3) := by decide +kernel
theorem dX5_type_25 : decode cX5_type 25 = .ok (.bipush (-3), 2) := by decide +kernel
theorem dX5_type_27 : decode cX5_type 27 = .ok (.ireturn, 1) := by decide +kernel
theorem dX5_type_28 : decode cX5_type 28 = .ok (.aload_n 0, 1) := by decide +kernel
theorem dX5_type_29 : decode cX5_type 29 = .ok (.getfield 13, 3) := by decide +kernel
theorem dX5_type_32 : decode cX5_type 32 = .ok (.aload_n 0, 1) := by decide +kernel
theorem dX5_type_33 : decode cX5_type 33 = .ok (.getfield 118, 3) := by decide +kernel
theorem dX5_type_36 : decode cX5_type 36 = .ok (.iload_n 1, 1) := by decide +kernel
theorem dX5_type_37 : decode cX5_type 37 = .ok (.iastore, 1) := by decide +kernel
theorem dX5_type_38 : decode cX5_type 38 = .ok (.aload_n 0, 1) := by decide +kernel
theorem dX5_type_39 : decode cX5_type 39 = .ok (.dup, 1) := by decide +kernel
theorem dX5_type_40 : decode cX5_type 40 = .ok (.getfield 118, 3) := by decide +kernel
theorem dX5_type_43 : decode cX5_type 43 = .ok (.iconst 1, 1) := by decide +kernel
theorem dX5_type_44 : decode cX5_type 44 = .ok (.iadd, 1) := by decide +kernel
theorem dX5_type_45 : decode cX5_type 45 = .ok (.putfield 118, 3) := by decide +kernel
theorem dX5_type_48 : decode cX5_type 48 = .ok (.aload_n 0, 1) := by decide +kernel
theorem dX5_type_49 : decode cX5_type 49 = .ok (.getfield 118, 3) := by decide +kernel
theorem dX5_type_52 : decode cX5_type 52 = .ok (.ireturn, 1) := by decide +kernel
theorem dX5_here_0 : decode cX5_here 0 = .ok (.aload_n 0, 1) := by decide +kernel
theorem dX5_here_1 : decode cX5_here 1 = .ok (.getfield 121, 3) := by decide +kernel
theorem dX5_here_4 : decode cX5_here 4 = .ok (.aload_n 0, 1) := by decide +kernel
theorem dX5_here_5 : decode cX5_here 5 = .ok (.getfield 118, 3) := by decide +kernel
theorem dX5_here_8 : decode cX5_here 8 = .ok (.if_icmp .ge 30, 3) := by decide +kernel
theorem dX5_here_11 : decode cX5_here 11 = .ok (.aload_n 0, 1) := by decide +kernel
theorem dX5_here_12 : decode cX5_here 12 = .ok (.getfield 13, 3) := by decide +kernel
theorem dX5_here_15 : decode cX5_here 15 = .ok (.aload_n 0, 1) := by decide +kernel
theorem dX5_here_16 : decode cX5_here 16 = .ok (.getfield 121, 3) := by decide +kernel
theorem dX5_here_19 : decode cX5_here 19 = .ok (.iaload, 1) := by decide +kernel
theorem dX5_here_20 : decode cX5_here 20 = .ok (.bipush 32, 2) := by decide +kernel
theorem dX5_here_22 : decode cX5_here 22 = .ok (.if_icmp .ne 16, 3) := by decide +kernel
theorem dX5_here_25 : decode cX5_here 25 = .ok (.aload_n 0, 1) := by decide +kernel
theorem dX5_here_26 : decode cX5_here 26 = .ok (.dup, 1) := by decide +kernel
theorem dX5_here_27 : decode cX5_here 27 = .ok (.getfield 121, 3) := by decide +kernel
theorem dX5_here_30 : decode cX5_here 30 = .ok (.iconst 1, 1) := by decide +kernel
theorem dX5_here_31 : decode cX5_here 31 = .ok (.iadd, 1) := by decide +kernel
theorem dX5_here_32 : decode cX5_here 32 = .ok (.putfield 121, 3) := by decide +kernel
theorem dX5_here_35 : decode cX5_here 35 = .ok (.goto (-35), 3) := by decide +kernel
theorem dX5_here_38 : decode cX5_here 38 = .ok (.aload_n 0, 1) := by decide +kernel
theorem dX5_here_39 : decode cX5_here 39 = .ok (.getfield 121, 3) := by decide +kernel
theorem dX5_here_42 : decode cX5_here 42 = .ok (.aload_n 0, 1) := by decide +kernel
theorem dX5_here_43 : decode cX5_here 43 = .ok (.getfield 118, 3) := by decide +kernel
theorem dX5_here_46 : decode cX5_here 46 = .ok (.if_icmp .ge 15, 3) := by decide +kernel
theorem dX5_here_49 : decode cX5_here 49 = .ok (.aload_n 0, 1) := by decide +kernel
theorem dX5_here_50 : decode cX5_here 50 = .ok (.getfield 13, 3) := by decide +kernel
theorem dX5_here_53 : decode cX5_here 53 = .ok (.aload_n 0, 1) := by decide +kernel
theorem dX5_here_54 : decode cX5_here 54 = .ok (.getfield 121, 3) := by decide +kernel
theorem dX5_here_57 : decode cX5_here 57 = .ok (.iaload, 1) := by decide +kernel
theorem dX5_here_58 : decode cX5_here 58 = .ok (.goto 4, 3) := by decide +kernel
theorem dX5_here_61 : decode cX5_here 61 = .ok (.iconst 0, 1) := by decide +kernel
theorem dX5_here_62 : decode cX5_here 62 = .ok (.ireturn, 1) := by decide +kernel
theorem dX5_must_0 : decode cX5_must 0 = .ok (.aload_n 0, 1) := by decide +kernel
theorem dX5_must_1 : decode cX5_must 1 = .ok (.aload_n 0, 1) := by decide +kernel
theorem dX5_must_2 : decode cX5_must 2 = .ok (.getfield 124, 3) := by decide +kernel
theorem dX5_must_5 : decode cX5_must 5 = .ok (.ifCond .ne 7, 3) := by decide +kernel
theorem dX5_must_8 : decode cX5_must 8 = .ok (.iload_n 1, 1) := by decide +kernel
theorem dX5_must_9 : decode cX5_must 9 = .ok (.ifCond .ne 7, 3) := by decide +kernel
theorem dX5_must_12 : decode cX5_must 12 = .ok (.iconst 1, 1) := by decide +kernel
theorem dX5_must_13 : decode cX5_must 13 = .ok (.goto 4, 3) := by decide +kernel
theorem dX5_must_16 : decode cX5_must 16 = .ok (.iconst 0, 1) := by decide +kernel
theorem dX5_must_17 : decode cX5_must 17 = .ok (.putfield 124, 3) := by decide +kernel
theorem dX5_must_20 : decode cX5_must 20 = .ok (.aload_n 0, 1) := by decide +kernel
theorem dX5_must_21 : decode cX5_must 21 = .ok (.dup, 1) := by decide +kernel
theorem dX5_must_22 : decode cX5_must 22 = .ok (.getfield 121, 3) := by decide +kernel
theorem dX5_must_25 : decode cX5_must 25 = .ok (.aload_n 0, 1) := by decide +kernel
theorem dX5_must_26 : decode cX5_must 26 = .ok (.getfield 124, 3) := by decide +kernel
theorem dX5_must_29 : decode cX5_must 29 = .ok (.ifCond .eq 7, 3) := by decide +kernel
theorem dX5_must_32 : decode cX5_must 32 = .ok (.iconst 0, 1) := by decide +kernel
theorem dX5_must_33 : decode cX5_must 33 = .ok (.goto 4, 3) := by decide +kernel
theorem dX5_must_36 : decode cX5_must 36 = .ok (.iconst 1, 1) := by decide +kernel
theorem dX5_must_37 : decode cX5_must 37 = .ok (.iadd, 1) := by decide +kernel
theorem dX5_must_38 : decode cX5_must 38 = .ok (.putfield 121, 3) := by decide +kernel
theorem dX5_must_41 : decode cX5_must 41 = .ok (.return_, 1) := by decide +kernel
theorem dX5_digit_0 : decode cX5_digit 0 = .ok (.aload_n 0, 1) := by decide +kernel
theorem dX5_digit_1 : decode cX5_digit 1 = .ok (.getfield 124, 3) := by decide +kernel
theorem dX5_digit_4 : decode cX5_digit 4 = .ok (.ifCond .eq 7, 3) := by decide +kernel
theorem dX5_digit_7 : decode cX5_digit 7 = .ok (.iconst (-1), 1) := by decide +kernel
theorem dX5_digit_8 : decode cX5_digit 8 = .ok (.goto 10, 3) := by decide +kernel
theorem dX5_digit_11 : decode cX5_digit 11 = .ok (.aload_n 0, 1) := by decide +kernel
theorem dX5_digit_12 : decode cX5_digit 12 = .ok (.invokevirtual 128, 3) := by decide +kernel
theorem dX5_digit_15 : decode cX5_digit 15 = .ok (.bipush 48, 2) := by decide +kernel
theorem dX5_digit_17 : decode cX5_digit 17 = .ok (.isub, 1) := by decide +kernel
theorem dX5_digit_18 : decode cX5_digit 18 = .ok (.istore_n 3, 1) := by decide +kernel
theorem dX5_digit_19 : decode cX5_digit 19 = .ok (.aload_n 0, 1) := by decide +kernel
theorem dX5_digit_20 : decode cX5_digit 20 = .ok (.iload_n 3, 1) := by decide +kernel
theorem dX5_digit_21 : decode cX5_digit 21 = .ok (.i2l, 1) := by decide +kernel
theorem dX5_digit_22 : decode cX5_digit 22 = .ok (.iload_n 1, 1) := by decide +kernel
theorem dX5_digit_23 : decode cX5_digit 23 = .ok (.i2l, 1) := by decide +kernel
theorem dX5_digit_24 : decode cX5_digit 24 = .ok (.iload_n 2, 1) := by decide +kernel
theorem dX5_digit_25 : decode cX5_digit 25 = .ok (.i2l, 1) := by decide +kernel
theorem dX5_digit_26 : decode cX5_digit 26 = .ok (.invokestatic 49, 3) := by decide +kernel
theorem dX5_digit_29 : decode cX5_digit 29 = .ok (.invokevirtual 131, 3) := by decide +kernel
theorem dX5_digit_32 : decode cX5_digit 32 = .ok (.iload_n 3, 1) := by decide +kernel
theorem dX5_digit_33 : decode cX5_digit 33 = .ok (.ireturn, 1) := by decide +kernel
theorem dX5_sign_0 : decode cX5_sign 0 = .ok (.aload_n 0, 1) := by decide +kernel
theorem dX5_sign_1 : decode cX5_sign 1 = .ok (.aload_n 0, 1) := by decide +kernel
theorem dX5_sign_2 : decode cX5_sign 2 = .ok (.getfield 124, 3) := by decide +kernel
theorem dX5_sign_5 : decode cX5_sign 5 = .ok (.ifCond .ne 15, 3) := by decide +kernel
theorem dX5_sign_8 : decode cX5_sign 8 = .ok (.aload_n 0, 1) := by decide +kernel
theorem dX5_sign_9 : decode cX5_sign 9 = .ok (.invokevirtual 128, 3) := by decide +kernel
theorem dX5_sign_12 : decode cX5_sign 12 = .ok (.iload_n 1, 1) := by decide +kernel
theorem dX5_sign_13 : decode cX5_sign 13 = .ok (.if_icmp .ne 7, 3) := by decide +kernel
theorem dX5_sign_16 : decode cX5_sign 16 = .ok (.iconst 1, 1) := by decide +kernel
theorem dX5_sign_17 : decode cX5_sign 17 = .ok (.goto 4, 3) := by decide +kernel
theorem dX5_sign_20 : decode cX5_sign 20 = .ok (.iconst 0, 1) := by decide +kernel
theorem dX5_sign_21 : decode cX5_sign 21 = .ok (.invokevirtual 131, 3) := by decide +kernel
theorem dX5_sign_24 : decode cX5_sign 24 = .ok (.return_, 1) := by decide +kernel
theorem dX5_readFace_0 : decode cX5_readFace 0 = .ok (.iconst 0, 1) := by decide +kernel
theorem dX5_readFace_1 : decode cX5_readFace 1 = .ok (.istore_n 1, 1) := by decide +kernel
theorem dX5_readFace_2 : decode cX5_readFace 2 = .ok (.aload_n 0, 1) := by decide +kernel
theorem dX5_readFace_3 : decode cX5_readFace 3 = .ok (.getfield 124, 3) := by decide +kernel
theorem dX5_readFace_6 : decode cX5_readFace 6 = .ok (.ifCond .eq 7, 3) := by decide +kernel
theorem dX5_readFace_9 : decode cX5_readFace 9 = .ok (.iconst (-1), 1) := by decide +kernel
theorem dX5_readFace_10 : decode cX5_readFace 10 = .ok (.goto 10, 3) := by decide +kernel
theorem dX5_readFace_13 : decode cX5_readFace 13 = .ok (.aload_n 0, 1) := by decide +kernel
theorem dX5_readFace_14 : decode cX5_readFace 14 = .ok (.invokevirtual 128, 3) := by decide +kernel
theorem dX5_readFace_17 : decode cX5_readFace 17 = .ok (.bipush 97, 2) := by decide +kernel
theorem dX5_readFace_19 : decode cX5_readFace 19 = .ok (.isub, 1) := by decide +kernel
theorem dX5_readFace_20 : decode cX5_readFace 20 = .ok (.istore_n 2, 1) := by decide +kernel
theorem dX5_readFace_21 : decode cX5_readFace 21 = .ok (.iload_n 2, 1) := by decide +kernel
theorem dX5_readFace_22 : decode cX5_readFace 22 = .ok (.i2l, 1) := by decide +kernel
theorem dX5_readFace_23 : decode cX5_readFace 23 = .ok (.lconst 0, 1) := by decide +kernel
theorem dX5_readFace_24 : decode cX5_readFace 24 = .ok (.ldc2_w 135, 3) := by decide +kernel
theorem dX5_readFace_27 : decode cX5_readFace 27 = .ok (.invokestatic 49, 3) := by decide +kernel
theorem dX5_readFace_30 : decode cX5_readFace 30 = .ok (.ifCond .eq 37, 3) := by decide +kernel
theorem dX5_readFace_33 : decode cX5_readFace 33 = .ok (.iconst 1, 1) := by decide +kernel
theorem dX5_readFace_34 : decode cX5_readFace 34 = .ok (.iload_n 2, 1) := by decide +kernel
theorem dX5_readFace_35 : decode cX5_readFace 35 = .ok (.ishl, 1) := by decide +kernel
theorem dX5_readFace_36 : decode cX5_readFace 36 = .ok (.iload_n 1, 1) := by decide +kernel
theorem dX5_readFace_37 : decode cX5_readFace 37 = .ok (.if_icmp .le 30, 3) := by decide +kernel
theorem dX5_readFace_40 : decode cX5_readFace 40 = .ok (.iload_n 1, 1) := by decide +kernel
theorem dX5_readFace_41 : decode cX5_readFace 41 = .ok (.iconst 1, 1) := by decide +kernel
theorem dX5_readFace_42 : decode cX5_readFace 42 = .ok (.iload_n 2, 1) := by decide +kernel
theorem dX5_readFace_43 : decode cX5_readFace 43 = .ok (.ishl, 1) := by decide +kernel
theorem dX5_readFace_44 : decode cX5_readFace 44 = .ok (.ior, 1) := by decide +kernel
theorem dX5_readFace_45 : decode cX5_readFace 45 = .ok (.istore_n 1, 1) := by decide +kernel
theorem dX5_readFace_46 : decode cX5_readFace 46 = .ok (.aload_n 0, 1) := by decide +kernel
theorem dX5_readFace_47 : decode cX5_readFace 47 = .ok (.dup, 1) := by decide +kernel
theorem dX5_readFace_48 : decode cX5_readFace 48 = .ok (.getfield 121, 3) := by decide +kernel
theorem dX5_readFace_51 : decode cX5_readFace 51 = .ok (.iconst 1, 1) := by decide +kernel
theorem dX5_readFace_52 : decode cX5_readFace 52 = .ok (.iadd, 1) := by decide +kernel
theorem dX5_readFace_53 : decode cX5_readFace 53 = .ok (.putfield 121, 3) := by decide +kernel
theorem dX5_readFace_56 : decode cX5_readFace 56 = .ok (.aload_n 0, 1) := by decide +kernel
theorem dX5_readFace_57 : decode cX5_readFace 57 = .ok (.invokevirtual 128, 3) := by decide +kernel
theorem dX5_readFace_60 : decode cX5_readFace 60 = .ok (.bipush 97, 2) := by decide +kernel
theorem dX5_readFace_62 : decode cX5_readFace 62 = .ok (.isub, 1) := by decide +kernel
theorem dX5_readFace_63 : decode cX5_readFace 63 = .ok (.istore_n 2, 1) := by decide +kernel
theorem dX5_readFace_64 : decode cX5_readFace 64 = .ok (.goto (-43), 3) := by decide +kernel
theorem dX5_readFace_67 : decode cX5_readFace 67 = .ok (.iload_n 1, 1) := by decide +kernel
theorem dX5_readFace_68 : decode cX5_readFace 68 = .ok (.ireturn, 1) := by decide +kernel
theorem dX5_readPeople_0 : decode cX5_readPeople 0 = .ok (.iconst 0, 1) := by decide +kernel
theorem dX5_readPeople_1 : decode cX5_readPeople 1 = .ok (.istore_n 3, 1) := by decide +kernel
theorem dX5_readPeople_2 : decode cX5_readPeople 2 = .ok (.aload_n 0, 1) := by decide +kernel
theorem dX5_readPeople_3 : decode cX5_readPeople 3 = .ok (.getfield 124, 3) := by decide +kernel
theorem dX5_readPeople_6 : decode cX5_readPeople 6 = .ok (.ifCond .ne 223, 3) := by decide +kernel
theorem dX5_readPeople_9 : decode cX5_readPeople 9 = .ok (.iload_n 3, 1) := by decide +kernel
theorem dX5_readPeople_10 : decode cX5_readPeople 10 = .ok (.ifCond .eq 12, 3) := by decide +kernel
theorem dX5_readPeople_13 : decode cX5_readPeople 13 = .ok (.aload_n 0, 1) := by decide +kernel
theorem dX5_readPeople_14 : decode cX5_readPeople 14 = .ok (.invokevirtual 128, 3) := by decide +kernel
theorem dX5_readPeople_17 : decode cX5_readPeople 17 = .ok (.bipush 44, 2) := by decide +kernel
theorem dX5_readPeople_19 : decode cX5_readPeople 19 = .ok (.if_icmp .ne 210, 3) := by decide +kernel
theorem dX5_readPeople_22 : decode cX5_readPeople 22 = .ok (.iload_n 3, 1) := by decide +kernel
theorem dX5_readPeople_23 : decode cX5_readPeople 23 = .ok (.ifCond .le 18, 3) := by decide +kernel
theorem dX5_readPeople_26 : decode cX5_readPeople 26 = .ok (.aload_n 0, 1) := by decide +kernel
theorem dX5_readPeople_27 : decode cX5_readPeople 27 = .ok (.iload_n 3, 1) := by decide +kernel
theorem dX5_readPeople_28 : decode cX5_readPeople 28 = .ok (.bipush 6, 2) := by decide +kernel
theorem dX5_readPeople_30 : decode cX5_readPeople 30 = .ok (.if_icmp .ge 7, 3) := by decide +kernel
theorem dX5_readPeople_33 : decode cX5_readPeople 33 = .ok (.iconst 1, 1) := by decide +kernel
theorem dX5_readPeople_34 : decode cX5_readPeople 34 = .ok (.goto 4, 3) := by decide +kernel
theorem dX5_readPeople_37 : decode cX5_readPeople 37 = .ok (.iconst 0, 1) := by decide +kernel
theorem dX5_readPeople_38 : decode cX5_readPeople 38 = .ok (.invokevirtual 131, 3) := by decide +kernel
theorem dX5_readPeople_41 : decode cX5_readPeople 41 = .ok (.aload_n 0, 1) := by decide +kernel
theorem dX5_readPeople_42 : decode cX5_readPeople 42 = .ok (.getfield 124, 3) := by decide +kernel
theorem dX5_readPeople_45 : decode cX5_readPeople 45 = .ok (.ifCond .eq 7, 3) := by decide +kernel
theorem dX5_readPeople_48 : decode cX5_readPeople 48 = .ok (.iconst 0, 1) := by decide +kernel
theorem dX5_readPeople_49 : decode cX5_readPeople 49 = .ok (.goto 7, 3) := by decide +kernel
theorem dX5_readPeople_52 : decode cX5_readPeople 52 = .ok (.aload_n 0, 1) := by decide +kernel
theorem dX5_readPeople_53 : decode cX5_readPeople 53 = .ok (.invokevirtual 128, 3) := by decide +kernel
theorem dX5_readPeople_56 : decode cX5_readPeople 56 = .ok (.istore 4, 2) := by decide +kernel
theorem dX5_readPeople_58 : decode cX5_readPeople 58 = .ok (.iload 4, 2) := by decide +kernel
theorem dX5_readPeople_60 : decode cX5_readPeople 60 = .ok (.bipush 112, 2) := by decide +kernel
theorem dX5_readPeople_62 : decode cX5_readPeople 62 = .ok (.if_icmp .ne 7, 3) := by decide +kernel
theorem dX5_readPeople_65 : decode cX5_readPeople 65 = .ok (.iconst 0, 1) := by decide +kernel
theorem dX5_readPeople_66 : decode cX5_readPeople 66 = .ok (.goto 48, 3) := by decide +kernel
theorem dX5_readPeople_69 : decode cX5_readPeople 69 = .ok (.iload 4, 2) := by decide +kernel
theorem dX5_readPeople_71 : decode cX5_readPeople 71 = .ok (.bipush 115, 2) := by decide +kernel
theorem dX5_readPeople_73 : decode cX5_readPeople 73 = .ok (.if_icmp .ne 7, 3) := by decide +kernel
theorem dX5_readPeople_76 : decode cX5_readPeople 76 = .ok (.iconst 1, 1) := by decide +kernel
theorem dX5_readPeople_77 : decode cX5_readPeople 77 = .ok (.goto 37, 3) := by decide +kernel
theorem dX5_readPeople_80 : decode cX5_readPeople 80 = .ok (.iload 4, 2) := by decide +kernel
theorem dX5_readPeople_82 : decode cX5_readPeople 82 = .ok (.bipush 98, 2) := by decide +kernel
theorem dX5_readPeople_84 : decode cX5_readPeople 84 = .ok (.if_icmp .ne 7, 3) := by decide +kernel
theorem dX5_readPeople_87 : decode cX5_readPeople 87 = .ok (.iconst 2, 1) := by decide +kernel
theorem dX5_readPeople_88 : decode cX5_readPeople 88 = .ok (.goto 26, 3) := by decide +kernel
theorem dX5_readPeople_91 : decode cX5_readPeople 91 = .ok (.iload 4, 2) := by decide +kernel
theorem dX5_readPeople_93 : decode cX5_readPeople 93 = .ok (.bipush 104, 2) := by decide +kernel
theorem dX5_readPeople_95 : decode cX5_readPeople 95 = .ok (.if_icmp .ne 7, 3) := by decide +kernel
theorem dX5_readPeople_98 : decode cX5_readPeople 98 = .ok (.iconst 3, 1) := by decide +kernel
theorem dX5_readPeople_99 : decode cX5_readPeople 99 = .ok (.goto 15, 3) := by decide +kernel
theorem dX5_readPeople_102 : decode cX5_readPeople 102 = .ok (.iload 4, 2) := by decide +kernel
theorem dX5_readPeople_104 : decode cX5_readPeople 104 = .ok (.bipush 108, 2) := by decide +kernel
theorem dX5_readPeople_106 : decode cX5_readPeople 106 = .ok (.if_icmp .ne 7, 3) := by decide +kernel
theorem dX5_readPeople_109 : decode cX5_readPeople 109 = .ok (.iconst 4, 1) := by decide +kernel
theorem dX5_readPeople_110 : decode cX5_readPeople 110 = .ok (.goto 4, 3) := by decide +kernel
theorem dX5_readPeople_113 : decode cX5_readPeople 113 = .ok (.iconst (-1), 1) := by decide +kernel
theorem dX5_readPeople_114 : decode cX5_readPeople 114 = .ok (.istore 5, 2) := by decide +kernel
theorem dX5_readPeople_116 : decode cX5_readPeople 116 = .ok (.aload_n 0, 1) := by decide +kernel
theorem dX5_readPeople_117 : decode cX5_readPeople 117 = .ok (.iload 5, 2) := by decide +kernel
theorem dX5_readPeople_119 : decode cX5_readPeople 119 = .ok (.ifCond .lt 7, 3) := by decide +kernel
theorem dX5_readPeople_122 : decode cX5_readPeople 122 = .ok (.iconst 1, 1) := by decide +kernel
theorem dX5_readPeople_123 : decode cX5_readPeople 123 = .ok (.goto 4, 3) := by decide +kernel
theorem dX5_readPeople_126 : decode cX5_readPeople 126 = .ok (.iconst 0, 1) := by decide +kernel
theorem dX5_readPeople_127 : decode cX5_readPeople 127 = .ok (.invokevirtual 131, 3) := by decide +kernel
theorem dX5_readPeople_130 : decode cX5_readPeople 130 = .ok (.aload_n 0, 1) := by decide +kernel
theorem dX5_readPeople_131 : decode cX5_readPeople 131 = .ok (.iconst 0, 1) := by decide +kernel
theorem dX5_readPeople_132 : decode cX5_readPeople 132 = .ok (.iload_n 1, 1) := by decide +kernel
theorem dX5_readPeople_133 : decode cX5_readPeople 133 = .ok (.iconst 1, 1) := by decide +kernel
theorem dX5_readPeople_134 : decode cX5_readPeople 134 = .ok (.isub, 1) := by decide +kernel
theorem dX5_readPeople_135 : decode cX5_readPeople 135 = .ok (.invokevirtual 137, 3) := by decide +kernel
theorem dX5_readPeople_138 : decode cX5_readPeople 138 = .ok (.istore 6, 2) := by decide +kernel
theorem dX5_readPeople_140 : decode cX5_readPeople 140 = .ok (.aload_n 0, 1) := by decide +kernel
theorem dX5_readPeople_141 : decode cX5_readPeople 141 = .ok (.iconst 0, 1) := by decide +kernel
theorem dX5_readPeople_142 : decode cX5_readPeople 142 = .ok (.iload_n 2, 1) := by decide +kernel
theorem dX5_readPeople_143 : decode cX5_readPeople 143 = .ok (.iconst 1, 1) := by decide +kernel
theorem dX5_readPeople_144 : decode cX5_readPeople 144 = .ok (.isub, 1) := by decide +kernel
theorem dX5_readPeople_145 : decode cX5_readPeople 145 = .ok (.invokevirtual 137, 3) := by decide +kernel
theorem dX5_readPeople_148 : decode cX5_readPeople 148 = .ok (.istore 7, 2) := by decide +kernel
theorem dX5_readPeople_150 : decode cX5_readPeople 150 = .ok (.aload_n 0, 1) := by decide +kernel
theorem dX5_readPeople_151 : decode cX5_readPeople 151 = .ok (.iconst 0, 1) := by decide +kernel
theorem dX5_readPeople_152 : decode cX5_readPeople 152 = .ok (.bipush 9, 2) := by decide +kernel
theorem dX5_readPeople_154 : decode cX5_readPeople 154 = .ok (.invokevirtual 137, 3) := by decide +kernel
theorem dX5_readPeople_157 : decode cX5_readPeople 157 = .ok (.istore 8, 2) := by decide +kernel
theorem dX5_readPeople_159 : decode cX5_readPeople 159 = .ok (.aload_n 0, 1) := by decide +kernel
theorem dX5_readPeople_160 : decode cX5_readPeople 160 = .ok (.invokevirtual 140, 3) := by decide +kernel
theorem dX5_readPeople_163 : decode cX5_readPeople 163 = .ok (.istore 9, 2) := by decide +kernel
theorem dX5_readPeople_165 : decode cX5_readPeople 165 = .ok (.aload_n 0, 1) := by decide +kernel
theorem dX5_readPeople_166 : decode cX5_readPeople 166 = .ok (.getfield 124, 3) := by decide +kernel
theorem dX5_readPeople_169 : decode cX5_readPeople 169 = .ok (.ifCond .ne 54, 3) := by decide +kernel
theorem dX5_readPeople_172 : decode cX5_readPeople 172 = .ok (.aload_n 0, 1) := by decide +kernel
theorem dX5_readPeople_173 : decode cX5_readPeople 173 = .ok (.getfield 16, 3) := by decide +kernel
theorem dX5_readPeople_176 : decode cX5_readPeople 176 = .ok (.iconst 4, 1) := by decide +kernel
theorem dX5_readPeople_177 : decode cX5_readPeople 177 = .ok (.iload_n 3, 1) := by decide +kernel
theorem dX5_readPeople_178 : decode cX5_readPeople 178 = .ok (.imul, 1) := by decide +kernel
theorem dX5_readPeople_179 : decode cX5_readPeople 179 = .ok (.iload 5, 2) := by decide +kernel
theorem dX5_readPeople_181 : decode cX5_readPeople 181 = .ok (.iastore, 1) := by decide +kernel
theorem dX5_readPeople_182 : decode cX5_readPeople 182 = .ok (.aload_n 0, 1) := by decide +kernel
theorem dX5_readPeople_183 : decode cX5_readPeople 183 = .ok (.getfield 16, 3) := by decide +kernel
theorem dX5_readPeople_186 : decode cX5_readPeople 186 = .ok (.iconst 4, 1) := by decide +kernel
theorem dX5_readPeople_187 : decode cX5_readPeople 187 = .ok (.iload_n 3, 1) := by decide +kernel
theorem dX5_readPeople_188 : decode cX5_readPeople 188 = .ok (.imul, 1) := by decide +kernel
theorem dX5_readPeople_189 : decode cX5_readPeople 189 = .ok (.iconst 1, 1) := by decide +kernel
theorem dX5_readPeople_190 : decode cX5_readPeople 190 = .ok (.iadd, 1) := by decide +kernel
theorem dX5_readPeople_191 : decode cX5_readPeople 191 = .ok (.iload 6, 2) := by decide +kernel
theorem dX5_readPeople_193 : decode cX5_readPeople 193 = .ok (.iload_n 2, 1) := by decide +kernel
theorem dX5_readPeople_194 : decode cX5_readPeople 194 = .ok (.imul, 1) := by decide +kernel
theorem dX5_readPeople_195 : decode cX5_readPeople 195 = .ok (.iload 7, 2) := by decide +kernel
theorem dX5_readPeople_197 : decode cX5_readPeople 197 = .ok (.iadd, 1) := by decide +kernel
theorem dX5_readPeople_198 : decode cX5_readPeople 198 = .ok (.iastore, 1) := by decide +kernel
theorem dX5_readPeople_199 : decode cX5_readPeople 199 = .ok (.aload_n 0, 1) := by decide +kernel
theorem dX5_readPeople_200 : decode cX5_readPeople 200 = .ok (.getfield 16, 3) := by decide +kernel
theorem dX5_readPeople_203 : decode cX5_readPeople 203 = .ok (.iconst 4, 1) := by decide +kernel
theorem dX5_readPeople_204 : decode cX5_readPeople 204 = .ok (.iload_n 3, 1) := by decide +kernel
theorem dX5_readPeople_205 : decode cX5_readPeople 205 = .ok (.imul, 1) := by decide +kernel
theorem dX5_readPeople_206 : decode cX5_readPeople 206 = .ok (.iconst 2, 1) := by decide +kernel
theorem dX5_readPeople_207 : decode cX5_readPeople 207 = .ok (.iadd, 1) := by decide +kernel
theorem dX5_readPeople_208 : decode cX5_readPeople 208 = .ok (.iload 8, 2) := by decide +kernel
theorem dX5_readPeople_210 : decode cX5_readPeople 210 = .ok (.iastore, 1) := by decide +kernel
theorem dX5_readPeople_211 : decode cX5_readPeople 211 = .ok (.aload_n 0, 1) := by decide +kernel
theorem dX5_readPeople_212 : decode cX5_readPeople 212 = .ok (.getfield 16, 3) := by decide +kernel
theorem dX5_readPeople_215 : decode cX5_readPeople 215 = .ok (.iconst 4, 1) := by decide +kernel
theorem dX5_readPeople_216 : decode cX5_readPeople 216 = .ok (.iload_n 3, 1) := by decide +kernel
theorem dX5_readPeople_217 : decode cX5_readPeople 217 = .ok (.imul, 1) := by decide +kernel
theorem dX5_readPeople_218 : decode cX5_readPeople 218 = .ok (.iconst 3, 1) := by decide +kernel
theorem dX5_readPeople_219 : decode cX5_readPeople 219 = .ok (.iadd, 1) := by decide +kernel
theorem dX5_readPeople_220 : decode cX5_readPeople 220 = .ok (.iload 9, 2) := by decide +kernel
theorem dX5_readPeople_222 : decode cX5_readPeople 222 = .ok (.iastore, 1) := by decide +kernel
theorem dX5_readPeople_223 : decode cX5_readPeople 223 = .ok (.iinc 3 1, 3) := by decide +kernel
theorem dX5_readPeople_226 : decode cX5_readPeople 226 = .ok (.goto (-224), 3) := by decide +kernel
theorem dX5_readPeople_229 : decode cX5_readPeople 229 = .ok (.iload_n 3, 1) := by decide +kernel
theorem dX5_readPeople_230 : decode cX5_readPeople 230 = .ok (.ireturn, 1) := by decide +kernel
theorem dX5_city_0 : decode cX5_city 0 = .ok (.aload_n 0, 1) := by decide +kernel
theorem dX5_city_1 : decode cX5_city 1 = .ok (.iconst 0, 1) := by decide +kernel
theorem dX5_city_2 : decode cX5_city 2 = .ok (.putfield 121, 3) := by decide +kernel
theorem dX5_city_5 : decode cX5_city 5 = .ok (.aload_n 0, 1) := by decide +kernel
theorem dX5_city_6 : decode cX5_city 6 = .ok (.iconst 0, 1) := by decide +kernel
theorem dX5_city_7 : decode cX5_city 7 = .ok (.putfield 124, 3) := by decide +kernel
theorem dX5_city_10 : decode cX5_city 10 = .ok (.aload_n 0, 1) := by decide +kernel
theorem dX5_city_11 : decode cX5_city 11 = .ok (.iconst 2, 1) := by decide +kernel
theorem dX5_city_12 : decode cX5_city 12 = .ok (.bipush 6, 2) := by decide +kernel
theorem dX5_city_14 : decode cX5_city 14 = .ok (.invokevirtual 137, 3) := by decide +kernel
theorem dX5_city_17 : decode cX5_city 17 = .ok (.istore_n 1, 1) := by decide +kernel
theorem dX5_city_18 : decode cX5_city 18 = .ok (.aload_n 0, 1) := by decide +kernel
theorem dX5_city_19 : decode cX5_city 19 = .ok (.bipush 120, 2) := by decide +kernel
theorem dX5_city_21 : decode cX5_city 21 = .ok (.invokevirtual 143, 3) := by decide +kernel
theorem dX5_city_24 : decode cX5_city 24 = .ok (.aload_n 0, 1) := by decide +kernel
theorem dX5_city_25 : decode cX5_city 25 = .ok (.iconst 2, 1) := by decide +kernel
theorem dX5_city_26 : decode cX5_city 26 = .ok (.bipush 6, 2) := by decide +kernel
theorem dX5_city_28 : decode cX5_city 28 = .ok (.invokevirtual 137, 3) := by decide +kernel
theorem dX5_city_31 : decode cX5_city 31 = .ok (.istore_n 2, 1) := by decide +kernel
theorem dX5_city_32 : decode cX5_city 32 = .ok (.aload_n 0, 1) := by decide +kernel
theorem dX5_city_33 : decode cX5_city 33 = .ok (.bipush 64, 2) := by decide +kernel
theorem dX5_city_35 : decode cX5_city 35 = .ok (.invokevirtual 143, 3) := by decide +kernel
theorem dX5_city_38 : decode cX5_city 38 = .ok (.aload_n 0, 1) := by decide +kernel
theorem dX5_city_39 : decode cX5_city 39 = .ok (.iconst 0, 1) := by decide +kernel
theorem dX5_city_40 : decode cX5_city 40 = .ok (.iload_n 1, 1) := by decide +kernel
theorem dX5_city_41 : decode cX5_city 41 = .ok (.iconst 1, 1) := by decide +kernel
theorem dX5_city_42 : decode cX5_city 42 = .ok (.isub, 1) := by decide +kernel
theorem dX5_city_43 : decode cX5_city 43 = .ok (.invokevirtual 137, 3) := by decide +kernel
theorem dX5_city_46 : decode cX5_city 46 = .ok (.istore_n 3, 1) := by decide +kernel
theorem dX5_city_47 : decode cX5_city 47 = .ok (.aload_n 0, 1) := by decide +kernel
theorem dX5_city_48 : decode cX5_city 48 = .ok (.iconst 0, 1) := by decide +kernel
theorem dX5_city_49 : decode cX5_city 49 = .ok (.iload_n 2, 1) := by decide +kernel
theorem dX5_city_50 : decode cX5_city 50 = .ok (.iconst 1, 1) := by decide +kernel
theorem dX5_city_51 : decode cX5_city 51 = .ok (.isub, 1) := by decide +kernel
theorem dX5_city_52 : decode cX5_city 52 = .ok (.invokevirtual 137, 3) := by decide +kernel
theorem dX5_city_55 : decode cX5_city 55 = .ok (.istore 4, 2) := by decide +kernel
theorem dX5_city_57 : decode cX5_city 57 = .ok (.aload_n 0, 1) := by decide +kernel
theorem dX5_city_58 : decode cX5_city 58 = .ok (.bipush 59, 2) := by decide +kernel
theorem dX5_city_60 : decode cX5_city 60 = .ok (.invokevirtual 143, 3) := by decide +kernel
theorem dX5_city_63 : decode cX5_city 63 = .ok (.aload_n 0, 1) := by decide +kernel
theorem dX5_city_64 : decode cX5_city 64 = .ok (.iload_n 1, 1) := by decide +kernel
theorem dX5_city_65 : decode cX5_city 65 = .ok (.iload_n 2, 1) := by decide +kernel
theorem dX5_city_66 : decode cX5_city 66 = .ok (.invokevirtual 147, 3) := by decide +kernel
theorem dX5_city_69 : decode cX5_city 69 = .ok (.istore 5, 2) := by decide +kernel
theorem dX5_city_71 : decode cX5_city 71 = .ok (.aload_n 0, 1) := by decide +kernel
theorem dX5_city_72 : decode cX5_city 72 = .ok (.aload_n 0, 1) := by decide +kernel
theorem dX5_city_73 : decode cX5_city 73 = .ok (.getfield 124, 3) := by decide +kernel
theorem dX5_city_76 : decode cX5_city 76 = .ok (.ifCond .ne 10, 3) := by decide +kernel
theorem dX5_city_79 : decode cX5_city 79 = .ok (.aload_n 0, 1) := by decide +kernel
theorem dX5_city_80 : decode cX5_city 80 = .ok (.invokevirtual 128, 3) := by decide +kernel
theorem dX5_city_83 : decode cX5_city 83 = .ok (.ifCond .eq 7, 3) := by decide +kernel
theorem dX5_city_86 : decode cX5_city 86 = .ok (.iconst 1, 1) := by decide +kernel
theorem dX5_city_87 : decode cX5_city 87 = .ok (.goto 4, 3) := by decide +kernel
theorem dX5_city_90 : decode cX5_city 90 = .ok (.iconst 0, 1) := by decide +kernel
theorem dX5_city_91 : decode cX5_city 91 = .ok (.putfield 124, 3) := by decide +kernel
theorem dX5_city_94 : decode cX5_city 94 = .ok (.aload_n 0, 1) := by decide +kernel
theorem dX5_city_95 : decode cX5_city 95 = .ok (.iconst 0, 1) := by decide +kernel
theorem dX5_city_96 : decode cX5_city 96 = .ok (.putfield 118, 3) := by decide +kernel
theorem dX5_city_99 : decode cX5_city 99 = .ok (.aload_n 0, 1) := by decide +kernel
theorem dX5_city_100 : decode cX5_city 100 = .ok (.getfield 124, 3) := by decide +kernel
theorem dX5_city_103 : decode cX5_city 103 = .ok (.ifCond .eq 11, 3) := by decide +kernel
theorem dX5_city_106 : decode cX5_city 106 = .ok (.bipush (-20), 2) := by decide +kernel
theorem dX5_city_108 : decode cX5_city 108 = .ok (.aload_n 0, 1) := by decide +kernel
theorem dX5_city_109 : decode cX5_city 109 = .ok (.getfield 121, 3) := by decide +kernel
theorem dX5_city_112 : decode cX5_city 112 = .ok (.isub, 1) := by decide +kernel
theorem dX5_city_113 : decode cX5_city 113 = .ok (.ireturn, 1) := by decide +kernel
theorem dX5_city_114 : decode cX5_city 114 = .ok (.aload_n 0, 1) := by decide +kernel
theorem dX5_city_115 : decode cX5_city 115 = .ok (.iload_n 1, 1) := by decide +kernel
theorem dX5_city_116 : decode cX5_city 116 = .ok (.iload_n 2, 1) := by decide +kernel
theorem dX5_city_117 : decode cX5_city 117 = .ok (.invokevirtual 41, 3) := by decide +kernel
theorem dX5_city_120 : decode cX5_city 120 = .ok (.aload_n 0, 1) := by decide +kernel
theorem dX5_city_121 : decode cX5_city 121 = .ok (.getfield 7, 3) := by decide +kernel
theorem dX5_city_124 : decode cX5_city 124 = .ok (.iconst 3, 1) := by decide +kernel
theorem dX5_city_125 : decode cX5_city 125 = .ok (.iload_n 3, 1) := by decide +kernel
theorem dX5_city_126 : decode cX5_city 126 = .ok (.iload_n 2, 1) := by decide +kernel
theorem dX5_city_127 : decode cX5_city 127 = .ok (.imul, 1) := by decide +kernel
theorem dX5_city_128 : decode cX5_city 128 = .ok (.iload 4, 2) := by decide +kernel
theorem dX5_city_130 : decode cX5_city 130 = .ok (.iadd, 1) := by decide +kernel
theorem dX5_city_131 : decode cX5_city 131 = .ok (.iastore, 1) := by decide +kernel
theorem dX5_city_132 : decode cX5_city 132 = .ok (.iconst 0, 1) := by decide +kernel
theorem dX5_city_133 : decode cX5_city 133 = .ok (.istore 6, 2) := by decide +kernel
theorem dX5_city_135 : decode cX5_city 135 = .ok (.iload 6, 2) := by decide +kernel
theorem dX5_city_137 : decode cX5_city 137 = .ok (.iload 5, 2) := by decide +kernel
theorem dX5_city_139 : decode cX5_city 139 = .ok (.if_icmp .ge 55, 3) := by decide +kernel
theorem dX5_city_142 : decode cX5_city 142 = .ok (.aload_n 0, 1) := by decide +kernel
theorem dX5_city_143 : decode cX5_city 143 = .ok (.aload_n 0, 1) := by decide +kernel
theorem dX5_city_144 : decode cX5_city 144 = .ok (.getfield 16, 3) := by decide +kernel
theorem dX5_city_147 : decode cX5_city 147 = .ok (.iconst 4, 1) := by decide +kernel
theorem dX5_city_148 : decode cX5_city 148 = .ok (.iload 6, 2) := by decide +kernel
theorem dX5_city_150 : decode cX5_city 150 = .ok (.imul, 1) := by decide +kernel
theorem dX5_city_151 : decode cX5_city 151 = .ok (.iaload, 1) := by decide +kernel
theorem dX5_city_152 : decode cX5_city 152 = .ok (.aload_n 0, 1) := by decide +kernel
theorem dX5_city_153 : decode cX5_city 153 = .ok (.getfield 16, 3) := by decide +kernel
theorem dX5_city_156 : decode cX5_city 156 = .ok (.iconst 4, 1) := by decide +kernel
theorem dX5_city_157 : decode cX5_city 157 = .ok (.iload 6, 2) := by decide +kernel
theorem dX5_city_159 : decode cX5_city 159 = .ok (.imul, 1) := by decide +kernel
theorem dX5_city_160 : decode cX5_city 160 = .ok (.iconst 1, 1) := by decide +kernel
theorem dX5_city_161 : decode cX5_city 161 = .ok (.iadd, 1) := by decide +kernel
theorem dX5_city_162 : decode cX5_city 162 = .ok (.iaload, 1) := by decide +kernel
theorem dX5_city_163 : decode cX5_city 163 = .ok (.aload_n 0, 1) := by decide +kernel
theorem dX5_city_164 : decode cX5_city 164 = .ok (.getfield 16, 3) := by decide +kernel
theorem dX5_city_167 : decode cX5_city 167 = .ok (.iconst 4, 1) := by decide +kernel
theorem dX5_city_168 : decode cX5_city 168 = .ok (.iload 6, 2) := by decide +kernel
theorem dX5_city_170 : decode cX5_city 170 = .ok (.imul, 1) := by decide +kernel
theorem dX5_city_171 : decode cX5_city 171 = .ok (.iconst 2, 1) := by decide +kernel
theorem dX5_city_172 : decode cX5_city 172 = .ok (.iadd, 1) := by decide +kernel
theorem dX5_city_173 : decode cX5_city 173 = .ok (.iaload, 1) := by decide +kernel
theorem dX5_city_174 : decode cX5_city 174 = .ok (.aload_n 0, 1) := by decide +kernel
theorem dX5_city_175 : decode cX5_city 175 = .ok (.getfield 16, 3) := by decide +kernel
theorem dX5_city_178 : decode cX5_city 178 = .ok (.iconst 4, 1) := by decide +kernel
theorem dX5_city_179 : decode cX5_city 179 = .ok (.iload 6, 2) := by decide +kernel
theorem dX5_city_181 : decode cX5_city 181 = .ok (.imul, 1) := by decide +kernel
theorem dX5_city_182 : decode cX5_city 182 = .ok (.iconst 3, 1) := by decide +kernel
theorem dX5_city_183 : decode cX5_city 183 = .ok (.iadd, 1) := by decide +kernel
theorem dX5_city_184 : decode cX5_city 184 = .ok (.iaload, 1) := by decide +kernel
theorem dX5_city_185 : decode cX5_city 185 = .ok (.invokevirtual 103, 3) := by decide +kernel
theorem dX5_city_188 : decode cX5_city 188 = .ok (.iinc 6 1, 3) := by decide +kernel
theorem dX5_city_191 : decode cX5_city 191 = .ok (.goto (-56), 3) := by decide +kernel
theorem dX5_city_194 : decode cX5_city 194 = .ok (.iload 5, 2) := by decide +kernel
theorem dX5_city_196 : decode cX5_city 196 = .ok (.ireturn, 1) := by decide +kernel
theorem dX5_notes_0 : decode cX5_notes 0 = .ok (.aload_n 0, 1) := by decide +kernel
theorem dX5_notes_1 : decode cX5_notes 1 = .ok (.getfield 45, 3) := by decide +kernel
theorem dX5_notes_4 : decode cX5_notes 4 = .ok (.bipush 8, 2) := by decide +kernel
theorem dX5_notes_6 : decode cX5_notes 6 = .ok (.if_icmp .ne 39, 3) := by decide +kernel
theorem dX5_notes_9 : decode cX5_notes 9 = .ok (.bipush 12, 2) := by decide +kernel
theorem dX5_notes_11 : decode cX5_notes 11 = .ok (.istore_n 1, 1) := by decide +kernel
theorem dX5_notes_12 : decode cX5_notes 12 = .ok (.iload_n 1, 1) := by decide +kernel
theorem dX5_notes_13 : decode cX5_notes 13 = .ok (.bipush 96, 2) := by decide +kernel
theorem dX5_notes_15 : decode cX5_notes 15 = .ok (.if_icmp .ge 24, 3) := by decide +kernel
theorem dX5_notes_18 : decode cX5_notes 18 = .ok (.aload_n 0, 1) := by decide +kernel
theorem dX5_notes_19 : decode cX5_notes 19 = .ok (.getfield 19, 3) := by decide +kernel
theorem dX5_notes_22 : decode cX5_notes 22 = .ok (.iload_n 1, 1) := by decide +kernel
theorem dX5_notes_23 : decode cX5_notes 23 = .ok (.bipush 12, 2) := by decide +kernel
theorem dX5_notes_25 : decode cX5_notes 25 = .ok (.isub, 1) := by decide +kernel
theorem dX5_notes_26 : decode cX5_notes 26 = .ok (.aload_n 0, 1) := by decide +kernel
theorem dX5_notes_27 : decode cX5_notes 27 = .ok (.getfield 19, 3) := by decide +kernel
theorem dX5_notes_30 : decode cX5_notes 30 = .ok (.iload_n 1, 1) := by decide +kernel
theorem dX5_notes_31 : decode cX5_notes 31 = .ok (.iaload, 1) := by decide +kernel
theorem dX5_notes_32 : decode cX5_notes 32 = .ok (.iastore, 1) := by decide +kernel
theorem dX5_notes_33 : decode cX5_notes 33 = .ok (.iinc 1 1, 3) := by decide +kernel
theorem dX5_notes_36 : decode cX5_notes 36 = .ok (.goto (-24), 3) := by decide +kernel
theorem dX5_notes_39 : decode cX5_notes 39 = .ok (.aload_n 0, 1) := by decide +kernel
theorem dX5_notes_40 : decode cX5_notes 40 = .ok (.bipush 7, 2) := by decide +kernel
theorem dX5_notes_42 : decode cX5_notes 42 = .ok (.putfield 45, 3) := by decide +kernel
theorem dX5_notes_45 : decode cX5_notes 45 = .ok (.bipush 12, 2) := by decide +kernel
theorem dX5_notes_47 : decode cX5_notes 47 = .ok (.aload_n 0, 1) := by decide +kernel
theorem dX5_notes_48 : decode cX5_notes 48 = .ok (.getfield 45, 3) := by decide +kernel
theorem dX5_notes_51 : decode cX5_notes 51 = .ok (.imul, 1) := by decide +kernel
theorem dX5_notes_52 : decode cX5_notes 52 = .ok (.istore_n 1, 1) := by decide +kernel
theorem dX5_notes_53 : decode cX5_notes 53 = .ok (.iconst 0, 1) := by decide +kernel
theorem dX5_notes_54 : decode cX5_notes 54 = .ok (.istore_n 2, 1) := by decide +kernel
theorem dX5_notes_55 : decode cX5_notes 55 = .ok (.iload_n 2, 1) := by decide +kernel
theorem dX5_notes_56 : decode cX5_notes 56 = .ok (.bipush 6, 2) := by decide +kernel
theorem dX5_notes_58 : decode cX5_notes 58 = .ok (.if_icmp .ge 42, 3) := by decide +kernel
theorem dX5_notes_61 : decode cX5_notes 61 = .ok (.aload_n 0, 1) := by decide +kernel
theorem dX5_notes_62 : decode cX5_notes 62 = .ok (.getfield 19, 3) := by decide +kernel
theorem dX5_notes_65 : decode cX5_notes 65 = .ok (.iload_n 1, 1) := by decide +kernel
theorem dX5_notes_66 : decode cX5_notes 66 = .ok (.iload_n 2, 1) := by decide +kernel
theorem dX5_notes_67 : decode cX5_notes 67 = .ok (.iadd, 1) := by decide +kernel
theorem dX5_notes_68 : decode cX5_notes 68 = .ok (.aload_n 0, 1) := by decide +kernel
theorem dX5_notes_69 : decode cX5_notes 69 = .ok (.getfield 7, 3) := by decide +kernel
theorem dX5_notes_72 : decode cX5_notes 72 = .ok (.iconst 3, 1) := by decide +kernel
theorem dX5_notes_73 : decode cX5_notes 73 = .ok (.iload_n 2, 1) := by decide +kernel
theorem dX5_notes_74 : decode cX5_notes 74 = .ok (.iadd, 1) := by decide +kernel
theorem dX5_notes_75 : decode cX5_notes 75 = .ok (.iaload, 1) := by decide +kernel
theorem dX5_notes_76 : decode cX5_notes 76 = .ok (.iastore, 1) := by decide +kernel
theorem dX5_notes_77 : decode cX5_notes 77 = .ok (.aload_n 0, 1) := by decide +kernel
theorem dX5_notes_78 : decode cX5_notes 78 = .ok (.getfield 19, 3) := by decide +kernel
theorem dX5_notes_81 : decode cX5_notes 81 = .ok (.iload_n 1, 1) := by decide +kernel
theorem dX5_notes_82 : decode cX5_notes 82 = .ok (.bipush 6, 2) := by decide +kernel
theorem dX5_notes_84 : decode cX5_notes 84 = .ok (.iadd, 1) := by decide +kernel
theorem dX5_notes_85 : decode cX5_notes 85 = .ok (.iload_n 2, 1) := by decide +kernel
theorem dX5_notes_86 : decode cX5_notes 86 = .ok (.iadd, 1) := by decide +kernel
theorem dX5_notes_87 : decode cX5_notes 87 = .ok (.aload_n 0, 1) := by decide +kernel
theorem dX5_notes_88 : decode cX5_notes 88 = .ok (.iload_n 2, 1) := by decide +kernel
theorem dX5_notes_89 : decode cX5_notes 89 = .ok (.iconst 1, 1) := by decide +kernel
theorem dX5_notes_90 : decode cX5_notes 90 = .ok (.invokevirtual 53, 3) := by decide +kernel
theorem dX5_notes_93 : decode cX5_notes 93 = .ok (.iastore, 1) := by decide +kernel
theorem dX5_notes_94 : decode cX5_notes 94 = .ok (.iinc 2 1, 3) := by decide +kernel
theorem dX5_notes_97 : decode cX5_notes 97 = .ok (.goto (-42), 3) := by decide +kernel
theorem dX5_notes_100 : decode cX5_notes 100 = .ok (.aload_n 0, 1) := by decide +kernel
theorem dX5_notes_101 : decode cX5_notes 101 = .ok (.dup, 1) := by decide +kernel
theorem dX5_notes_102 : decode cX5_notes 102 = .ok (.getfield 45, 3) := by decide +kernel
theorem dX5_notes_105 : decode cX5_notes 105 = .ok (.iconst 1, 1) := by decide +kernel
theorem dX5_notes_106 : decode cX5_notes 106 = .ok (.iadd, 1) := by decide +kernel
theorem dX5_notes_107 : decode cX5_notes 107 = .ok (.putfield 45, 3) := by decide +kernel
theorem dX5_notes_110 : decode cX5_notes 110 = .ok (.return_, 1) := by decide +kernel
theorem dX5_minutes_0 : decode cX5_minutes 0 = .ok (.iload_n 1, 1) := by decide +kernel
theorem dX5_minutes_1 : decode cX5_minutes 1 = .ok (.i2l, 1) := by decide +kernel
theorem dX5_minutes_2 : decode cX5_minutes 2 = .ok (.lconst 1, 1) := by decide +kernel
theorem dX5_minutes_3 : decode cX5_minutes 3 = .ok (.ldc2_w 150, 3) := by decide +kernel
theorem dX5_minutes_6 : decode cX5_minutes 6 = .ok (.invokestatic 49, 3) := by decide +kernel
theorem dX5_minutes_9 : decode cX5_minutes 9 = .ok (.ifCond .ne 5, 3) := by decide +kernel
theorem dX5_minutes_12 : decode cX5_minutes 12 = .ok (.iconst (-1), 1) := by decide +kernel
theorem dX5_minutes_13 : decode cX5_minutes 13 = .ok (.ireturn, 1) := by decide +kernel
theorem dX5_minutes_14 : decode cX5_minutes 14 = .ok (.aload_n 0, 1) := by decide +kernel
theorem dX5_minutes_15 : decode cX5_minutes 15 = .ok (.getfield 7, 3) := by decide +kernel
theorem dX5_minutes_18 : decode cX5_minutes 18 = .ok (.iconst 4, 1) := by decide +kernel
theorem dX5_minutes_19 : decode cX5_minutes 19 = .ok (.iaload, 1) := by decide +kernel
theorem dX5_minutes_20 : decode cX5_minutes 20 = .ok (.iload_n 1, 1) := by decide +kernel
theorem dX5_minutes_21 : decode cX5_minutes 21 = .ok (.iadd, 1) := by decide +kernel
theorem dX5_minutes_22 : decode cX5_minutes 22 = .ok (.sipush 9999, 3) := by decide +kernel
theorem dX5_minutes_25 : decode cX5_minutes 25 = .ok (.if_icmp .le 6, 3) := by decide +kernel
theorem dX5_minutes_28 : decode cX5_minutes 28 = .ok (.bipush (-3), 2) := by decide +kernel
theorem dX5_minutes_30 : decode cX5_minutes 30 = .ok (.ireturn, 1) := by decide +kernel
theorem dX5_minutes_31 : decode cX5_minutes 31 = .ok (.iconst 0, 1) := by decide +kernel
theorem dX5_minutes_32 : decode cX5_minutes 32 = .ok (.istore_n 2, 1) := by decide +kernel
theorem dX5_minutes_33 : decode cX5_minutes 33 = .ok (.iload_n 2, 1) := by decide +kernel
theorem dX5_minutes_34 : decode cX5_minutes 34 = .ok (.iload_n 1, 1) := by decide +kernel
theorem dX5_minutes_35 : decode cX5_minutes 35 = .ok (.if_icmp .ge 18, 3) := by decide +kernel
theorem dX5_minutes_38 : decode cX5_minutes 38 = .ok (.aload_n 0, 1) := by decide +kernel
theorem dX5_minutes_39 : decode cX5_minutes 39 = .ok (.invokevirtual 152, 3) := by decide +kernel
theorem dX5_minutes_42 : decode cX5_minutes 42 = .ok (.aload_n 0, 1) := by decide +kernel
theorem dX5_minutes_43 : decode cX5_minutes 43 = .ok (.invokevirtual 155, 3) := by decide +kernel
theorem dX5_minutes_46 : decode cX5_minutes 46 = .ok (.pop, 1) := by decide +kernel
theorem dX5_minutes_47 : decode cX5_minutes 47 = .ok (.iinc 2 1, 3) := by decide +kernel
theorem dX5_minutes_50 : decode cX5_minutes 50 = .ok (.goto (-17), 3) := by decide +kernel
theorem dX5_minutes_53 : decode cX5_minutes 53 = .ok (.aload_n 0, 1) := by decide +kernel
theorem dX5_minutes_54 : decode cX5_minutes 54 = .ok (.getfield 7, 3) := by decide +kernel
theorem dX5_minutes_57 : decode cX5_minutes 57 = .ok (.iconst 5, 1) := by decide +kernel
theorem dX5_minutes_58 : decode cX5_minutes 58 = .ok (.iaload, 1) := by decide +kernel
theorem dX5_minutes_59 : decode cX5_minutes 59 = .ok (.ireturn, 1) := by decide +kernel
theorem dX5_beside_0 : decode cX5_beside 0 = .ok (.aload_n 0, 1) := by decide +kernel
theorem dX5_beside_1 : decode cX5_beside 1 = .ok (.getfield 7, 3) := by decide +kernel
theorem dX5_beside_4 : decode cX5_beside 4 = .ok (.iconst 1, 1) := by decide +kernel
theorem dX5_beside_5 : decode cX5_beside 5 = .ok (.iaload, 1) := by decide +kernel
theorem dX5_beside_6 : decode cX5_beside 6 = .ok (.istore_n 3, 1) := by decide +kernel
theorem dX5_beside_7 : decode cX5_beside 7 = .ok (.iload_n 1, 1) := by decide +kernel
theorem dX5_beside_8 : decode cX5_beside 8 = .ok (.iload_n 3, 1) := by decide +kernel
theorem dX5_beside_9 : decode cX5_beside 9 = .ok (.idiv, 1) := by decide +kernel
theorem dX5_beside_10 : decode cX5_beside 10 = .ok (.iload_n 2, 1) := by decide +kernel
theorem dX5_beside_11 : decode cX5_beside 11 = .ok (.ifCond .ne 7, 3) := by decide +kernel
theorem dX5_beside_14 : decode cX5_beside 14 = .ok (.iconst (-1), 1) := by decide +kernel
theorem dX5_beside_15 : decode cX5_beside 15 = .ok (.goto 13, 3) := by decide +kernel
theorem dX5_beside_18 : decode cX5_beside 18 = .ok (.iload_n 2, 1) := by decide +kernel
theorem dX5_beside_19 : decode cX5_beside 19 = .ok (.iconst 1, 1) := by decide +kernel
theorem dX5_beside_20 : decode cX5_beside 20 = .ok (.if_icmp .ne 7, 3) := by decide +kernel
theorem dX5_beside_23 : decode cX5_beside 23 = .ok (.iconst 1, 1) := by decide +kernel
theorem dX5_beside_24 : decode cX5_beside 24 = .ok (.goto 4, 3) := by decide +kernel
theorem dX5_beside_27 : decode cX5_beside 27 = .ok (.iconst 0, 1) := by decide +kernel
theorem dX5_beside_28 : decode cX5_beside 28 = .ok (.iadd, 1) := by decide +kernel
theorem dX5_beside_29 : decode cX5_beside 29 = .ok (.istore 4, 2) := by decide +kernel
theorem dX5_beside_31 : decode cX5_beside 31 = .ok (.iload_n 1, 1) := by decide +kernel
theorem dX5_beside_32 : decode cX5_beside 32 = .ok (.iload_n 3, 1) := by decide +kernel
theorem dX5_beside_33 : decode cX5_beside 33 = .ok (.irem, 1) := by decide +kernel
theorem dX5_beside_34 : decode cX5_beside 34 = .ok (.iload_n 2, 1) := by decide +kernel
theorem dX5_beside_35 : decode cX5_beside 35 = .ok (.iconst 2, 1) := by decide +kernel
theorem dX5_beside_36 : decode cX5_beside 36 = .ok (.if_icmp .ne 7, 3) := by decide +kernel
theorem dX5_beside_39 : decode cX5_beside 39 = .ok (.iconst (-1), 1) := by decide +kernel
theorem dX5_beside_40 : decode cX5_beside 40 = .ok (.goto 13, 3) := by decide +kernel
theorem dX5_beside_43 : decode cX5_beside 43 = .ok (.iload_n 2, 1) := by decide +kernel
theorem dX5_beside_44 : decode cX5_beside 44 = .ok (.iconst 3, 1) := by decide +kernel
theorem dX5_beside_45 : decode cX5_beside 45 = .ok (.if_icmp .ne 7, 3) := by decide +kernel
theorem dX5_beside_48 : decode cX5_beside 48 = .ok (.iconst 1, 1) := by decide +kernel
theorem dX5_beside_49 : decode cX5_beside 49 = .ok (.goto 4, 3) := by decide +kernel
theorem dX5_beside_52 : decode cX5_beside 52 = .ok (.iconst 0, 1) := by decide +kernel
theorem dX5_beside_53 : decode cX5_beside 53 = .ok (.iadd, 1) := by decide +kernel
theorem dX5_beside_54 : decode cX5_beside 54 = .ok (.istore 5, 2) := by decide +kernel
theorem dX5_beside_56 : decode cX5_beside 56 = .ok (.iload 4, 2) := by decide +kernel
theorem dX5_beside_58 : decode cX5_beside 58 = .ok (.i2l, 1) := by decide +kernel
theorem dX5_beside_59 : decode cX5_beside 59 = .ok (.lconst 0, 1) := by decide +kernel
theorem dX5_beside_60 : decode cX5_beside 60 = .ok (.aload_n 0, 1) := by decide +kernel
theorem dX5_beside_61 : decode cX5_beside 61 = .ok (.getfield 7, 3) := by decide +kernel
theorem dX5_beside_64 : decode cX5_beside 64 = .ok (.iconst 0, 1) := by decide +kernel
theorem dX5_beside_65 : decode cX5_beside 65 = .ok (.iaload, 1) := by decide +kernel
theorem dX5_beside_66 : decode cX5_beside 66 = .ok (.iconst 1, 1) := by decide +kernel
theorem dX5_beside_67 : decode cX5_beside 67 = .ok (.isub, 1) := by decide +kernel
theorem dX5_beside_68 : decode cX5_beside 68 = .ok (.i2l, 1) := by decide +kernel
theorem dX5_beside_69 : decode cX5_beside 69 = .ok (.invokestatic 49, 3) := by decide +kernel
theorem dX5_beside_72 : decode cX5_beside 72 = .ok (.ifCond .eq 27, 3) := by decide +kernel
theorem dX5_beside_75 : decode cX5_beside 75 = .ok (.iload 5, 2) := by decide +kernel
theorem dX5_beside_77 : decode cX5_beside 77 = .ok (.i2l, 1) := by decide +kernel
theorem dX5_beside_78 : decode cX5_beside 78 = .ok (.lconst 0, 1) := by decide +kernel
theorem dX5_beside_79 : decode cX5_beside 79 = .ok (.iload_n 3, 1) := by decide +kernel
theorem dX5_beside_80 : decode cX5_beside 80 = .ok (.iconst 1, 1) := by decide +kernel
theorem dX5_beside_81 : decode cX5_beside 81 = .ok (.isub, 1) := by decide +kernel
theorem dX5_beside_82 : decode cX5_beside 82 = .ok (.i2l, 1) := by decide +kernel
theorem dX5_beside_83 : decode cX5_beside 83 = .ok (.invokestatic 49, 3) := by decide +kernel
theorem dX5_beside_86 : decode cX5_beside 86 = .ok (.ifCond .eq 13, 3) := by decide +kernel
theorem dX5_beside_89 : decode cX5_beside 89 = .ok (.iload 4, 2) := by decide +kernel
theorem dX5_beside_91 : decode cX5_beside 91 = .ok (.iload_n 3, 1) := by decide +kernel
theorem dX5_beside_92 : decode cX5_beside 92 = .ok (.imul, 1) := by decide +kernel
theorem dX5_beside_93 : decode cX5_beside 93 = .ok (.iload 5, 2) := by decide +kernel
theorem dX5_beside_95 : decode cX5_beside 95 = .ok (.iadd, 1) := by decide +kernel
theorem dX5_beside_96 : decode cX5_beside 96 = .ok (.goto 5, 3) := by decide +kernel
theorem dX5_beside_99 : decode cX5_beside 99 = .ok (.bipush (-4), 2) := by decide +kernel
theorem dX5_beside_101 : decode cX5_beside 101 = .ok (.ireturn, 1) := by decide +kernel
theorem dX5_walk_0 : decode cX5_walk 0 = .ok (.aload_n 0, 1) := by decide +kernel
theorem dX5_walk_1 : decode cX5_walk 1 = .ok (.iload_n 1, 1) := by decide +kernel
theorem dX5_walk_2 : decode cX5_walk 2 = .ok (.invokevirtual 107, 3) := by decide +kernel
theorem dX5_walk_5 : decode cX5_walk 5 = .ok (.ifCond .eq 15, 3) := by decide +kernel
theorem dX5_walk_8 : decode cX5_walk 8 = .ok (.iload_n 2, 1) := by decide +kernel
theorem dX5_walk_9 : decode cX5_walk 9 = .ok (.i2l, 1) := by decide +kernel
theorem dX5_walk_10 : decode cX5_walk 10 = .ok (.lconst 0, 1) := by decide +kernel
theorem dX5_walk_11 : decode cX5_walk 11 = .ok (.ldc2_w 159, 3) := by decide +kernel
theorem dX5_walk_14 : decode cX5_walk 14 = .ok (.invokestatic 49, 3) := by decide +kernel
theorem dX5_walk_17 : decode cX5_walk 17 = .ok (.ifCond .ne 5, 3) := by decide +kernel
theorem dX5_walk_20 : decode cX5_walk 20 = .ok (.iconst (-1), 1) := by decide +kernel
theorem dX5_walk_21 : decode cX5_walk 21 = .ok (.ireturn, 1) := by decide +kernel
theorem dX5_walk_22 : decode cX5_walk 22 = .ok (.aload_n 0, 1) := by decide +kernel
theorem dX5_walk_23 : decode cX5_walk 23 = .ok (.aload_n 0, 1) := by decide +kernel
theorem dX5_walk_24 : decode cX5_walk 24 = .ok (.iload_n 1, 1) := by decide +kernel
theorem dX5_walk_25 : decode cX5_walk 25 = .ok (.iconst 1, 1) := by decide +kernel
theorem dX5_walk_26 : decode cX5_walk 26 = .ok (.invokevirtual 53, 3) := by decide +kernel
theorem dX5_walk_29 : decode cX5_walk 29 = .ok (.iload_n 2, 1) := by decide +kernel
theorem dX5_walk_30 : decode cX5_walk 30 = .ok (.invokevirtual 161, 3) := by decide +kernel
theorem dX5_walk_33 : decode cX5_walk 33 = .ok (.istore_n 3, 1) := by decide +kernel
theorem dX5_walk_34 : decode cX5_walk 34 = .ok (.aload_n 0, 1) := by decide +kernel
theorem dX5_walk_35 : decode cX5_walk 35 = .ok (.iload_n 1, 1) := by decide +kernel
theorem dX5_walk_36 : decode cX5_walk 36 = .ok (.invokevirtual 67, 3) := by decide +kernel
theorem dX5_walk_39 : decode cX5_walk 39 = .ok (.ifCond .eq 9, 3) := by decide +kernel
theorem dX5_walk_42 : decode cX5_walk 42 = .ok (.iload_n 3, 1) := by decide +kernel
theorem dX5_walk_43 : decode cX5_walk 43 = .ok (.bipush (-4), 2) := by decide +kernel
theorem dX5_walk_45 : decode cX5_walk 45 = .ok (.if_icmp .ne 6, 3) := by decide +kernel
theorem dX5_walk_48 : decode cX5_walk 48 = .ok (.bipush (-2), 2) := by decide +kernel
theorem dX5_walk_50 : decode cX5_walk 50 = .ok (.ireturn, 1) := by decide +kernel
theorem dX5_walk_51 : decode cX5_walk 51 = .ok (.aload_n 0, 1) := by decide +kernel
theorem dX5_walk_52 : decode cX5_walk 52 = .ok (.invokevirtual 152, 3) := by decide +kernel
theorem dX5_walk_55 : decode cX5_walk 55 = .ok (.aload_n 0, 1) := by decide +kernel
theorem dX5_walk_56 : decode cX5_walk 56 = .ok (.getfield 7, 3) := by decide +kernel
theorem dX5_walk_59 : decode cX5_walk 59 = .ok (.bipush 9, 2) := by decide +kernel
theorem dX5_walk_61 : decode cX5_walk 61 = .ok (.iconst 5, 1) := by decide +kernel
theorem dX5_walk_62 : decode cX5_walk 62 = .ok (.iload_n 1, 1) := by decide +kernel
theorem dX5_walk_63 : decode cX5_walk 63 = .ok (.imul, 1) := by decide +kernel
theorem dX5_walk_64 : decode cX5_walk 64 = .ok (.iadd, 1) := by decide +kernel
theorem dX5_walk_65 : decode cX5_walk 65 = .ok (.iconst 1, 1) := by decide +kernel
theorem dX5_walk_66 : decode cX5_walk 66 = .ok (.iadd, 1) := by decide +kernel
theorem dX5_walk_67 : decode cX5_walk 67 = .ok (.iload_n 3, 1) := by decide +kernel
theorem dX5_walk_68 : decode cX5_walk 68 = .ok (.iastore, 1) := by decide +kernel
theorem dX5_walk_69 : decode cX5_walk 69 = .ok (.iload_n 3, 1) := by decide +kernel
theorem dX5_walk_70 : decode cX5_walk 70 = .ok (.ireturn, 1) := by decide +kernel
theorem dX5_free_0 : decode cX5_free 0 = .ok (.aload_n 0, 1) := by decide +kernel
theorem dX5_free_1 : decode cX5_free 1 = .ok (.iload_n 1, 1) := by decide +kernel
theorem dX5_free_2 : decode cX5_free 2 = .ok (.invokevirtual 107, 3) := by decide +kernel
theorem dX5_free_5 : decode cX5_free 5 = .ok (.ifCond .ne 5, 3) := by decide +kernel
theorem dX5_free_8 : decode cX5_free 8 = .ok (.iconst (-1), 1) := by decide +kernel
theorem dX5_free_9 : decode cX5_free 9 = .ok (.ireturn, 1) := by decide +kernel
theorem dX5_free_10 : decode cX5_free 10 = .ok (.aload_n 0, 1) := by decide +kernel
theorem dX5_free_11 : decode cX5_free 11 = .ok (.iload_n 1, 1) := by decide +kernel
theorem dX5_free_12 : decode cX5_free 12 = .ok (.invokevirtual 67, 3) := by decide +kernel
theorem dX5_free_15 : decode cX5_free 15 = .ok (.ifCond .eq 6, 3) := by decide +kernel
theorem dX5_free_18 : decode cX5_free 18 = .ok (.bipush (-2), 2) := by decide +kernel
theorem dX5_free_20 : decode cX5_free 20 = .ok (.ireturn, 1) := by decide +kernel
theorem dX5_free_21 : decode cX5_free 21 = .ok (.aload_n 0, 1) := by decide +kernel
theorem dX5_free_22 : decode cX5_free 22 = .ok (.invokevirtual 152, 3) := by decide +kernel
theorem dX5_free_25 : decode cX5_free 25 = .ok (.aload_n 0, 1) := by decide +kernel
theorem dX5_free_26 : decode cX5_free 26 = .ok (.getfield 7, 3) := by decide +kernel
theorem dX5_free_29 : decode cX5_free 29 = .ok (.iconst 5, 1) := by decide +kernel
theorem dX5_free_30 : decode cX5_free 30 = .ok (.dup2, 1) := by decide +kernel
theorem dX5_free_31 : decode cX5_free 31 = .ok (.iaload, 1) := by decide +kernel
theorem dX5_free_32 : decode cX5_free 32 = .ok (.iconst 1, 1) := by decide +kernel
theorem dX5_free_33 : decode cX5_free 33 = .ok (.iload_n 1, 1) := by decide +kernel
theorem dX5_free_34 : decode cX5_free 34 = .ok (.ishl, 1) := by decide +kernel
theorem dX5_free_35 : decode cX5_free 35 = .ok (.iconst (-1), 1) := by decide +kernel
theorem dX5_free_36 : decode cX5_free 36 = .ok (.ixor, 1) := by decide +kernel
theorem dX5_free_37 : decode cX5_free 37 = .ok (.iand, 1) := by decide +kernel
theorem dX5_free_38 : decode cX5_free 38 = .ok (.iastore, 1) := by decide +kernel
theorem dX5_free_39 : decode cX5_free 39 = .ok (.aload_n 0, 1) := by decide +kernel
theorem dX5_free_40 : decode cX5_free 40 = .ok (.getfield 7, 3) := by decide +kernel
theorem dX5_free_43 : decode cX5_free 43 = .ok (.iconst 5, 1) := by decide +kernel
theorem dX5_free_44 : decode cX5_free 44 = .ok (.iaload, 1) := by decide +kernel
theorem dX5_free_45 : decode cX5_free 45 = .ok (.ireturn, 1) := by decide +kernel
theorem dX5_drift_0 : decode cX5_drift 0 = .ok (.iload_n 1, 1) := by decide +kernel
theorem dX5_drift_1 : decode cX5_drift 1 = .ok (.i2l, 1) := by decide +kernel
theorem dX5_drift_2 : decode cX5_drift 2 = .ok (.lconst 1, 1) := by decide +kernel
theorem dX5_drift_3 : decode cX5_drift 3 = .ok (.ldc2_w 150, 3) := by decide +kernel
theorem dX5_drift_6 : decode cX5_drift 6 = .ok (.invokestatic 49, 3) := by decide +kernel
theorem dX5_drift_9 : decode cX5_drift 9 = .ok (.ifCond .ne 5, 3) := by decide +kernel
theorem dX5_drift_12 : decode cX5_drift 12 = .ok (.iconst (-1), 1) := by decide +kernel
theorem dX5_drift_13 : decode cX5_drift 13 = .ok (.ireturn, 1) := by decide +kernel
theorem dX5_drift_14 : decode cX5_drift 14 = .ok (.aload_n 0, 1) := by decide +kernel
theorem dX5_drift_15 : decode cX5_drift 15 = .ok (.getfield 7, 3) := by decide +kernel
theorem dX5_drift_18 : decode cX5_drift 18 = .ok (.iconst 2, 1) := by decide +kernel
theorem dX5_drift_19 : decode cX5_drift 19 = .ok (.iaload, 1) := by decide +kernel
theorem dX5_drift_20 : decode cX5_drift 20 = .ok (.ifCond .ne 6, 3) := by decide +kernel
theorem dX5_drift_23 : decode cX5_drift 23 = .ok (.bipush (-2), 2) := by decide +kernel
theorem dX5_drift_25 : decode cX5_drift 25 = .ok (.ireturn, 1) := by decide +kernel
theorem dX5_drift_26 : decode cX5_drift 26 = .ok (.aload_n 0, 1) := by decide +kernel
theorem dX5_drift_27 : decode cX5_drift 27 = .ok (.getfield 7, 3) := by decide +kernel
theorem dX5_drift_30 : decode cX5_drift 30 = .ok (.iconst 4, 1) := by decide +kernel
theorem dX5_drift_31 : decode cX5_drift 31 = .ok (.iaload, 1) := by decide +kernel
theorem dX5_drift_32 : decode cX5_drift 32 = .ok (.iload_n 1, 1) := by decide +kernel
theorem dX5_drift_33 : decode cX5_drift 33 = .ok (.iadd, 1) := by decide +kernel
theorem dX5_drift_34 : decode cX5_drift 34 = .ok (.sipush 9999, 3) := by decide +kernel
theorem dX5_drift_37 : decode cX5_drift 37 = .ok (.if_icmp .le 6, 3) := by decide +kernel
theorem dX5_drift_40 : decode cX5_drift 40 = .ok (.bipush (-3), 2) := by decide +kernel
theorem dX5_drift_42 : decode cX5_drift 42 = .ok (.ireturn, 1) := by decide +kernel
theorem dX5_drift_43 : decode cX5_drift 43 = .ok (.iconst 0, 1) := by decide +kernel
theorem dX5_drift_44 : decode cX5_drift 44 = .ok (.istore_n 2, 1) := by decide +kernel
theorem dX5_drift_45 : decode cX5_drift 45 = .ok (.iload_n 2, 1) := by decide +kernel
theorem dX5_drift_46 : decode cX5_drift 46 = .ok (.iload_n 1, 1) := by decide +kernel
theorem dX5_drift_47 : decode cX5_drift 47 = .ok (.if_icmp .ge 128, 3) := by decide +kernel
theorem dX5_drift_50 : decode cX5_drift 50 = .ok (.aload_n 0, 1) := by decide +kernel
theorem dX5_drift_51 : decode cX5_drift 51 = .ok (.invokevirtual 152, 3) := by decide +kernel
theorem dX5_drift_54 : decode cX5_drift 54 = .ok (.aload_n 0, 1) := by decide +kernel
theorem dX5_drift_55 : decode cX5_drift 55 = .ok (.getfield 7, 3) := by decide +kernel
theorem dX5_drift_58 : decode cX5_drift 58 = .ok (.bipush 8, 2) := by decide +kernel
theorem dX5_drift_60 : decode cX5_drift 60 = .ok (.aload_n 0, 1) := by decide +kernel
theorem dX5_drift_61 : decode cX5_drift 61 = .ok (.getfield 7, 3) := by decide +kernel
theorem dX5_drift_64 : decode cX5_drift 64 = .ok (.bipush 8, 2) := by decide +kernel
theorem dX5_drift_66 : decode cX5_drift 66 = .ok (.iaload, 1) := by decide +kernel
theorem dX5_drift_67 : decode cX5_drift 67 = .ok (.i2l, 1) := by decide +kernel
theorem dX5_drift_68 : decode cX5_drift 68 = .ok (.ldc2_w 164, 3) := by decide +kernel
theorem dX5_drift_71 : decode cX5_drift 71 = .ok (.lmul, 1) := by decide +kernel
theorem dX5_drift_72 : decode cX5_drift 72 = .ok (.ldc2_w 166, 3) := by decide +kernel
theorem dX5_drift_75 : decode cX5_drift 75 = .ok (.ladd, 1) := by decide +kernel
theorem dX5_drift_76 : decode cX5_drift 76 = .ok (.ldc2_w 168, 3) := by decide +kernel
theorem dX5_drift_79 : decode cX5_drift 79 = .ok (.land, 1) := by decide +kernel
theorem dX5_drift_80 : decode cX5_drift 80 = .ok (.l2i, 1) := by decide +kernel
theorem dX5_drift_81 : decode cX5_drift 81 = .ok (.iastore, 1) := by decide +kernel
theorem dX5_drift_82 : decode cX5_drift 82 = .ok (.aload_n 0, 1) := by decide +kernel
theorem dX5_drift_83 : decode cX5_drift 83 = .ok (.getfield 7, 3) := by decide +kernel
theorem dX5_drift_86 : decode cX5_drift 86 = .ok (.bipush 8, 2) := by decide +kernel
theorem dX5_drift_88 : decode cX5_drift 88 = .ok (.iaload, 1) := by decide +kernel
theorem dX5_drift_89 : decode cX5_drift 89 = .ok (.ldc 170, 2) := by decide +kernel
theorem dX5_drift_91 : decode cX5_drift 91 = .ok (.idiv, 1) := by decide +kernel
theorem dX5_drift_92 : decode cX5_drift 92 = .ok (.aload_n 0, 1) := by decide +kernel
theorem dX5_drift_93 : decode cX5_drift 93 = .ok (.getfield 7, 3) := by decide +kernel
theorem dX5_drift_96 : decode cX5_drift 96 = .ok (.iconst 2, 1) := by decide +kernel
theorem dX5_drift_97 : decode cX5_drift 97 = .ok (.iaload, 1) := by decide +kernel
theorem dX5_drift_98 : decode cX5_drift 98 = .ok (.irem, 1) := by decide +kernel
theorem dX5_drift_99 : decode cX5_drift 99 = .ok (.istore_n 3, 1) := by decide +kernel
theorem dX5_drift_100 : decode cX5_drift 100 = .ok (.aload_n 0, 1) := by decide +kernel
theorem dX5_drift_101 : decode cX5_drift 101 = .ok (.aload_n 0, 1) := by decide +kernel
theorem dX5_drift_102 : decode cX5_drift 102 = .ok (.iload_n 3, 1) := by decide +kernel
theorem dX5_drift_103 : decode cX5_drift 103 = .ok (.iconst 1, 1) := by decide +kernel
theorem dX5_drift_104 : decode cX5_drift 104 = .ok (.invokevirtual 53, 3) := by decide +kernel
theorem dX5_drift_107 : decode cX5_drift 107 = .ok (.aload_n 0, 1) := by decide +kernel
theorem dX5_drift_108 : decode cX5_drift 108 = .ok (.getfield 7, 3) := by decide +kernel
theorem dX5_drift_111 : decode cX5_drift 111 = .ok (.bipush 8, 2) := by decide +kernel
theorem dX5_drift_113 : decode cX5_drift 113 = .ok (.iaload, 1) := by decide +kernel
theorem dX5_drift_114 : decode cX5_drift 114 = .ok (.sipush 128, 3) := by decide +kernel
theorem dX5_drift_117 : decode cX5_drift 117 = .ok (.idiv, 1) := by decide +kernel
theorem dX5_drift_118 : decode cX5_drift 118 = .ok (.iconst 4, 1) := by decide +kernel
theorem dX5_drift_119 : decode cX5_drift 119 = .ok (.irem, 1) := by decide +kernel
theorem dX5_drift_120 : decode cX5_drift 120 = .ok (.invokevirtual 161, 3) := by decide +kernel
theorem dX5_drift_123 : decode cX5_drift 123 = .ok (.istore 4, 2) := by decide +kernel
theorem dX5_drift_125 : decode cX5_drift 125 = .ok (.aload_n 0, 1) := by decide +kernel
theorem dX5_drift_126 : decode cX5_drift 126 = .ok (.getfield 7, 3) := by decide +kernel
theorem dX5_drift_129 : decode cX5_drift 129 = .ok (.bipush 9, 2) := by decide +kernel
theorem dX5_drift_131 : decode cX5_drift 131 = .ok (.iconst 5, 1) := by decide +kernel
theorem dX5_drift_132 : decode cX5_drift 132 = .ok (.iload_n 3, 1) := by decide +kernel
theorem dX5_drift_133 : decode cX5_drift 133 = .ok (.imul, 1) := by decide +kernel
theorem dX5_drift_134 : decode cX5_drift 134 = .ok (.iadd, 1) := by decide +kernel
theorem dX5_drift_135 : decode cX5_drift 135 = .ok (.iconst 1, 1) := by decide +kernel
theorem dX5_drift_136 : decode cX5_drift 136 = .ok (.iadd, 1) := by decide +kernel
theorem dX5_drift_137 : decode cX5_drift 137 = .ok (.aload_n 0, 1) := by decide +kernel
theorem dX5_drift_138 : decode cX5_drift 138 = .ok (.iload_n 3, 1) := by decide +kernel
theorem dX5_drift_139 : decode cX5_drift 139 = .ok (.invokevirtual 67, 3) := by decide +kernel
theorem dX5_drift_142 : decode cX5_drift 142 = .ok (.ifCond .eq 15, 3) := by decide +kernel
theorem dX5_drift_145 : decode cX5_drift 145 = .ok (.iload 4, 2) := by decide +kernel
theorem dX5_drift_147 : decode cX5_drift 147 = .ok (.bipush (-4), 2) := by decide +kernel
theorem dX5_drift_149 : decode cX5_drift 149 = .ok (.if_icmp .eq 8, 3) := by decide +kernel
theorem dX5_drift_152 : decode cX5_drift 152 = .ok (.iload 4, 2) := by decide +kernel
theorem dX5_drift_154 : decode cX5_drift 154 = .ok (.goto 9, 3) := by decide +kernel
theorem dX5_drift_157 : decode cX5_drift 157 = .ok (.aload_n 0, 1) := by decide +kernel
theorem dX5_drift_158 : decode cX5_drift 158 = .ok (.iload_n 3, 1) := by decide +kernel
theorem dX5_drift_159 : decode cX5_drift 159 = .ok (.iconst 1, 1) := by decide +kernel
theorem dX5_drift_160 : decode cX5_drift 160 = .ok (.invokevirtual 53, 3) := by decide +kernel
theorem dX5_drift_163 : decode cX5_drift 163 = .ok (.iastore, 1) := by decide +kernel
theorem dX5_drift_164 : decode cX5_drift 164 = .ok (.aload_n 0, 1) := by decide +kernel
theorem dX5_drift_165 : decode cX5_drift 165 = .ok (.invokevirtual 155, 3) := by decide +kernel
theorem dX5_drift_168 : decode cX5_drift 168 = .ok (.pop, 1) := by decide +kernel
theorem dX5_drift_169 : decode cX5_drift 169 = .ok (.iinc 2 1, 3) := by decide +kernel
theorem dX5_drift_172 : decode cX5_drift 172 = .ok (.goto (-127), 3) := by decide +kernel
theorem dX5_drift_175 : decode cX5_drift 175 = .ok (.aload_n 0, 1) := by decide +kernel
theorem dX5_drift_176 : decode cX5_drift 176 = .ok (.getfield 7, 3) := by decide +kernel
theorem dX5_drift_179 : decode cX5_drift 179 = .ok (.iconst 5, 1) := by decide +kernel
theorem dX5_drift_180 : decode cX5_drift 180 = .ok (.iaload, 1) := by decide +kernel
theorem dX5_drift_181 : decode cX5_drift 181 = .ok (.ireturn, 1) := by decide +kernel
theorem dX5_undo_0 : decode cX5_undo 0 = .ok (.aload_n 0, 1) := by decide +kernel
theorem dX5_undo_1 : decode cX5_undo 1 = .ok (.getfield 45, 3) := by decide +kernel
theorem dX5_undo_4 : decode cX5_undo 4 = .ok (.ifCond .ne 6, 3) := by decide +kernel
theorem dX5_undo_7 : decode cX5_undo 7 = .ok (.bipush (-4), 2) := by decide +kernel
theorem dX5_undo_9 : decode cX5_undo 9 = .ok (.ireturn, 1) := by decide +kernel
theorem dX5_undo_10 : decode cX5_undo 10 = .ok (.aload_n 0, 1) := by decide +kernel
theorem dX5_undo_11 : decode cX5_undo 11 = .ok (.dup, 1) := by decide +kernel
theorem dX5_undo_12 : decode cX5_undo 12 = .ok (.getfield 45, 3) := by decide +kernel
theorem dX5_undo_15 : decode cX5_undo 15 = .ok (.iconst 1, 1) := by decide +kernel
theorem dX5_undo_16 : decode cX5_undo 16 = .ok (.isub, 1) := by decide +kernel
theorem dX5_undo_17 : decode cX5_undo 17 = .ok (.putfield 45, 3) := by decide +kernel
theorem dX5_undo_20 : decode cX5_undo 20 = .ok (.bipush 12, 2) := by decide +kernel
theorem dX5_undo_22 : decode cX5_undo 22 = .ok (.aload_n 0, 1) := by decide +kernel
theorem dX5_undo_23 : decode cX5_undo 23 = .ok (.getfield 45, 3) := by decide +kernel
theorem dX5_undo_26 : decode cX5_undo 26 = .ok (.imul, 1) := by decide +kernel
theorem dX5_undo_27 : decode cX5_undo 27 = .ok (.istore_n 1, 1) := by decide +kernel
theorem dX5_undo_28 : decode cX5_undo 28 = .ok (.iconst 0, 1) := by decide +kernel
theorem dX5_undo_29 : decode cX5_undo 29 = .ok (.istore_n 2, 1) := by decide +kernel
theorem dX5_undo_30 : decode cX5_undo 30 = .ok (.iload_n 2, 1) := by decide +kernel
theorem dX5_undo_31 : decode cX5_undo 31 = .ok (.bipush 6, 2) := by decide +kernel
theorem dX5_undo_33 : decode cX5_undo 33 = .ok (.if_icmp .ge 49, 3) := by decide +kernel
theorem dX5_undo_36 : decode cX5_undo 36 = .ok (.aload_n 0, 1) := by decide +kernel
theorem dX5_undo_37 : decode cX5_undo 37 = .ok (.getfield 7, 3) := by decide +kernel
theorem dX5_undo_40 : decode cX5_undo 40 = .ok (.iconst 3, 1) := by decide +kernel
theorem dX5_undo_41 : decode cX5_undo 41 = .ok (.iload_n 2, 1) := by decide +kernel
theorem dX5_undo_42 : decode cX5_undo 42 = .ok (.iadd, 1) := by decide +kernel
theorem dX5_undo_43 : decode cX5_undo 43 = .ok (.aload_n 0, 1) := by decide +kernel
theorem dX5_undo_44 : decode cX5_undo 44 = .ok (.getfield 19, 3) := by decide +kernel
theorem dX5_undo_47 : decode cX5_undo 47 = .ok (.iload_n 1, 1) := by decide +kernel
theorem dX5_undo_48 : decode cX5_undo 48 = .ok (.iload_n 2, 1) := by decide +kernel
theorem dX5_undo_49 : decode cX5_undo 49 = .ok (.iadd, 1) := by decide +kernel
theorem dX5_undo_50 : decode cX5_undo 50 = .ok (.iaload, 1) := by decide +kernel
theorem dX5_undo_51 : decode cX5_undo 51 = .ok (.iastore, 1) := by decide +kernel
theorem dX5_undo_52 : decode cX5_undo 52 = .ok (.aload_n 0, 1) := by decide +kernel
theorem dX5_undo_53 : decode cX5_undo 53 = .ok (.getfield 7, 3) := by decide +kernel
theorem dX5_undo_56 : decode cX5_undo 56 = .ok (.bipush 9, 2) := by decide +kernel
theorem dX5_undo_58 : decode cX5_undo 58 = .ok (.iconst 5, 1) := by decide +kernel
theorem dX5_undo_59 : decode cX5_undo 59 = .ok (.iload_n 2, 1) := by decide +kernel
theorem dX5_undo_60 : decode cX5_undo 60 = .ok (.imul, 1) := by decide +kernel
theorem dX5_undo_61 : decode cX5_undo 61 = .ok (.iadd, 1) := by decide +kernel
theorem dX5_undo_62 : decode cX5_undo 62 = .ok (.iconst 1, 1) := by decide +kernel
theorem dX5_undo_63 : decode cX5_undo 63 = .ok (.iadd, 1) := by decide +kernel
theorem dX5_undo_64 : decode cX5_undo 64 = .ok (.aload_n 0, 1) := by decide +kernel
theorem dX5_undo_65 : decode cX5_undo 65 = .ok (.getfield 19, 3) := by decide +kernel
theorem dX5_undo_68 : decode cX5_undo 68 = .ok (.iload_n 1, 1) := by decide +kernel
theorem dX5_undo_69 : decode cX5_undo 69 = .ok (.bipush 6, 2) := by decide +kernel
theorem dX5_undo_71 : decode cX5_undo 71 = .ok (.iadd, 1) := by decide +kernel
theorem dX5_undo_72 : decode cX5_undo 72 = .ok (.iload_n 2, 1) := by decide +kernel
theorem dX5_undo_73 : decode cX5_undo 73 = .ok (.iadd, 1) := by decide +kernel
theorem dX5_undo_74 : decode cX5_undo 74 = .ok (.iaload, 1) := by decide +kernel
theorem dX5_undo_75 : decode cX5_undo 75 = .ok (.iastore, 1) := by decide +kernel
theorem dX5_undo_76 : decode cX5_undo 76 = .ok (.iinc 2 1, 3) := by decide +kernel
theorem dX5_undo_79 : decode cX5_undo 79 = .ok (.goto (-49), 3) := by decide +kernel
theorem dX5_undo_82 : decode cX5_undo 82 = .ok (.aload_n 0, 1) := by decide +kernel
theorem dX5_undo_83 : decode cX5_undo 83 = .ok (.getfield 45, 3) := by decide +kernel
theorem dX5_undo_86 : decode cX5_undo 86 = .ok (.ireturn, 1) := by decide +kernel
theorem dX5_seed_0 : decode cX5_seed 0 = .ok (.iload_n 1, 1) := by decide +kernel
theorem dX5_seed_1 : decode cX5_seed 1 = .ok (.ifCond .ge 5, 3) := by decide +kernel
theorem dX5_seed_4 : decode cX5_seed 4 = .ok (.iconst (-1), 1) := by decide +kernel
theorem dX5_seed_5 : decode cX5_seed 5 = .ok (.ireturn, 1) := by decide +kernel
theorem dX5_seed_6 : decode cX5_seed 6 = .ok (.aload_n 0, 1) := by decide +kernel
theorem dX5_seed_7 : decode cX5_seed 7 = .ok (.getfield 7, 3) := by decide +kernel
theorem dX5_seed_10 : decode cX5_seed 10 = .ok (.bipush 8, 2) := by decide +kernel
theorem dX5_seed_12 : decode cX5_seed 12 = .ok (.iaload, 1) := by decide +kernel
theorem dX5_seed_13 : decode cX5_seed 13 = .ok (.istore_n 2, 1) := by decide +kernel
theorem dX5_seed_14 : decode cX5_seed 14 = .ok (.aload_n 0, 1) := by decide +kernel
theorem dX5_seed_15 : decode cX5_seed 15 = .ok (.getfield 7, 3) := by decide +kernel
theorem dX5_seed_18 : decode cX5_seed 18 = .ok (.bipush 8, 2) := by decide +kernel
theorem dX5_seed_20 : decode cX5_seed 20 = .ok (.iload_n 1, 1) := by decide +kernel
theorem dX5_seed_21 : decode cX5_seed 21 = .ok (.iastore, 1) := by decide +kernel
theorem dX5_seed_22 : decode cX5_seed 22 = .ok (.iload_n 2, 1) := by decide +kernel
theorem dX5_seed_23 : decode cX5_seed 23 = .ok (.ireturn, 1) := by decide +kernel
theorem dX5_asides_0 : decode cX5_asides 0 = .ok (.iconst 0, 1) := by decide +kernel
theorem dX5_asides_1 : decode cX5_asides 1 = .ok (.istore_n 1, 1) := by decide +kernel
theorem dX5_asides_2 : decode cX5_asides 2 = .ok (.iload_n 1, 1) := by decide +kernel
theorem dX5_asides_3 : decode cX5_asides 3 = .ok (.bipush 39, 2) := by decide +kernel
theorem dX5_asides_5 : decode cX5_asides 5 = .ok (.if_icmp .ge 21, 3) := by decide +kernel
theorem dX5_asides_8 : decode cX5_asides 8 = .ok (.aload_n 0, 1) := by decide +kernel
theorem dX5_asides_9 : decode cX5_asides 9 = .ok (.getfield 22, 3) := by decide +kernel
theorem dX5_asides_12 : decode cX5_asides 12 = .ok (.iload_n 1, 1) := by decide +kernel
theorem dX5_asides_13 : decode cX5_asides 13 = .ok (.aload_n 0, 1) := by decide +kernel
theorem dX5_asides_14 : decode cX5_asides 14 = .ok (.getfield 7, 3) := by decide +kernel
theorem dX5_asides_17 : decode cX5_asides 17 = .ok (.iload_n 1, 1) := by decide +kernel
theorem dX5_asides_18 : decode cX5_asides 18 = .ok (.iaload, 1) := by decide +kernel
theorem dX5_asides_19 : decode cX5_asides 19 = .ok (.iastore, 1) := by decide +kernel
theorem dX5_asides_20 : decode cX5_asides 20 = .ok (.iinc 1 1, 3) := by decide +kernel
theorem dX5_asides_23 : decode cX5_asides 23 = .ok (.goto (-21), 3) := by decide +kernel
theorem dX5_asides_26 : decode cX5_asides 26 = .ok (.return_, 1) := by decide +kernel
theorem dX5_backs_0 : decode cX5_backs 0 = .ok (.iconst 0, 1) := by decide +kernel
theorem dX5_backs_1 : decode cX5_backs 1 = .ok (.istore_n 1, 1) := by decide +kernel
theorem dX5_backs_2 : decode cX5_backs 2 = .ok (.iload_n 1, 1) := by decide +kernel
theorem dX5_backs_3 : decode cX5_backs 3 = .ok (.bipush 39, 2) := by decide +kernel
theorem dX5_backs_5 : decode cX5_backs 5 = .ok (.if_icmp .ge 21, 3) := by decide +kernel
theorem dX5_backs_8 : decode cX5_backs 8 = .ok (.aload_n 0, 1) := by decide +kernel
theorem dX5_backs_9 : decode cX5_backs 9 = .ok (.getfield 7, 3) := by decide +kernel
theorem dX5_backs_12 : decode cX5_backs 12 = .ok (.iload_n 1, 1) := by decide +kernel
theorem dX5_backs_13 : decode cX5_backs 13 = .ok (.aload_n 0, 1) := by decide +kernel
theorem dX5_backs_14 : decode cX5_backs 14 = .ok (.getfield 22, 3) := by decide +kernel
theorem dX5_backs_17 : decode cX5_backs 17 = .ok (.iload_n 1, 1) := by decide +kernel
theorem dX5_backs_18 : decode cX5_backs 18 = .ok (.iaload, 1) := by decide +kernel
theorem dX5_backs_19 : decode cX5_backs 19 = .ok (.iastore, 1) := by decide +kernel
theorem dX5_backs_20 : decode cX5_backs 20 = .ok (.iinc 1 1, 3) := by decide +kernel
theorem dX5_backs_23 : decode cX5_backs 23 = .ok (.goto (-21), 3) := by decide +kernel
theorem dX5_backs_26 : decode cX5_backs 26 = .ok (.return_, 1) := by decide +kernel
theorem dX5_ahead_0 : decode cX5_ahead 0 = .ok (.iload_n 1, 1) := by decide +kernel
theorem dX5_ahead_1 : decode cX5_ahead 1 = .ok (.i2l, 1) := by decide +kernel
theorem dX5_ahead_2 : decode cX5_ahead 2 = .ok (.lconst 0, 1) := by decide +kernel
theorem dX5_ahead_3 : decode cX5_ahead 3 = .ok (.ldc2_w 171, 3) := by decide +kernel
theorem dX5_ahead_6 : decode cX5_ahead 6 = .ok (.invokestatic 49, 3) := by decide +kernel
theorem dX5_ahead_9 : decode cX5_ahead 9 = .ok (.ifCond .eq 15, 3) := by decide +kernel
theorem dX5_ahead_12 : decode cX5_ahead 12 = .ok (.iload_n 2, 1) := by decide +kernel
theorem dX5_ahead_13 : decode cX5_ahead 13 = .ok (.i2l, 1) := by decide +kernel
theorem dX5_ahead_14 : decode cX5_ahead 14 = .ok (.lconst 0, 1) := by decide +kernel
theorem dX5_ahead_15 : decode cX5_ahead 15 = .ok (.ldc2_w 159, 3) := by decide +kernel
theorem dX5_ahead_18 : decode cX5_ahead 18 = .ok (.invokestatic 49, 3) := by decide +kernel
theorem dX5_ahead_21 : decode cX5_ahead 21 = .ok (.ifCond .ne 5, 3) := by decide +kernel
theorem dX5_ahead_24 : decode cX5_ahead 24 = .ok (.iconst (-1), 1) := by decide +kernel
theorem dX5_ahead_25 : decode cX5_ahead 25 = .ok (.ireturn, 1) := by decide +kernel
theorem dX5_ahead_26 : decode cX5_ahead 26 = .ok (.aload_n 0, 1) := by decide +kernel
theorem dX5_ahead_27 : decode cX5_ahead 27 = .ok (.invokevirtual 173, 3) := by decide +kernel
theorem dX5_ahead_30 : decode cX5_ahead 30 = .ok (.iconst 0, 1) := by decide +kernel
theorem dX5_ahead_31 : decode cX5_ahead 31 = .ok (.istore_n 3, 1) := by decide +kernel
theorem dX5_ahead_32 : decode cX5_ahead 32 = .ok (.iload_n 3, 1) := by decide +kernel
theorem dX5_ahead_33 : decode cX5_ahead 33 = .ok (.iload_n 1, 1) := by decide +kernel
theorem dX5_ahead_34 : decode cX5_ahead 34 = .ok (.if_icmp .ge 14, 3) := by decide +kernel
theorem dX5_ahead_37 : decode cX5_ahead 37 = .ok (.aload_n 0, 1) := by decide +kernel
theorem dX5_ahead_38 : decode cX5_ahead 38 = .ok (.invokevirtual 155, 3) := by decide +kernel
theorem dX5_ahead_41 : decode cX5_ahead 41 = .ok (.pop, 1) := by decide +kernel
theorem dX5_ahead_42 : decode cX5_ahead 42 = .ok (.iinc 3 1, 3) := by decide +kernel
theorem dX5_ahead_45 : decode cX5_ahead 45 = .ok (.goto (-13), 3) := by decide +kernel
theorem dX5_ahead_48 : decode cX5_ahead 48 = .ok (.iload_n 2, 1) := by decide +kernel
theorem dX5_ahead_49 : decode cX5_ahead 49 = .ok (.ifCond .ne 12, 3) := by decide +kernel
theorem dX5_ahead_52 : decode cX5_ahead 52 = .ok (.aload_n 0, 1) := by decide +kernel
theorem dX5_ahead_53 : decode cX5_ahead 53 = .ok (.getfield 7, 3) := by decide +kernel
theorem dX5_ahead_56 : decode cX5_ahead 56 = .ok (.iconst 3, 1) := by decide +kernel
theorem dX5_ahead_57 : decode cX5_ahead 57 = .ok (.iaload, 1) := by decide +kernel
theorem dX5_ahead_58 : decode cX5_ahead 58 = .ok (.goto 13, 3) := by decide +kernel
theorem dX5_ahead_61 : decode cX5_ahead 61 = .ok (.aload_n 0, 1) := by decide +kernel
theorem dX5_ahead_62 : decode cX5_ahead 62 = .ok (.getfield 7, 3) := by decide +kernel
theorem dX5_ahead_65 : decode cX5_ahead 65 = .ok (.iconst 5, 1) := by decide +kernel
theorem dX5_ahead_66 : decode cX5_ahead 66 = .ok (.iload_n 2, 1) := by decide +kernel
theorem dX5_ahead_67 : decode cX5_ahead 67 = .ok (.iadd, 1) := by decide +kernel
theorem dX5_ahead_68 : decode cX5_ahead 68 = .ok (.iconst 1, 1) := by decide +kernel
theorem dX5_ahead_69 : decode cX5_ahead 69 = .ok (.isub, 1) := by decide +kernel
theorem dX5_ahead_70 : decode cX5_ahead 70 = .ok (.iaload, 1) := by decide +kernel
theorem dX5_ahead_71 : decode cX5_ahead 71 = .ok (.istore_n 3, 1) := by decide +kernel
theorem dX5_ahead_72 : decode cX5_ahead 72 = .ok (.aload_n 0, 1) := by decide +kernel
theorem dX5_ahead_73 : decode cX5_ahead 73 = .ok (.invokevirtual 176, 3) := by decide +kernel
theorem dX5_ahead_76 : decode cX5_ahead 76 = .ok (.iload_n 3, 1) := by decide +kernel
theorem dX5_ahead_77 : decode cX5_ahead 77 = .ok (.ireturn, 1) := by decide +kernel
theorem dX5_nextBehind_0 : decode cX5_nextBehind 0 = .ok (.iconst 0, 1) := by decide +kernel
theorem dX5_nextBehind_1 : decode cX5_nextBehind 1 = .ok (.istore_n 1, 1) := by decide +kernel
theorem dX5_nextBehind_2 : decode cX5_nextBehind 2 = .ok (.iconst 0, 1) := by decide +kernel
theorem dX5_nextBehind_3 : decode cX5_nextBehind 3 = .ok (.istore_n 2, 1) := by decide +kernel
theorem dX5_nextBehind_4 : decode cX5_nextBehind 4 = .ok (.iload_n 1, 1) := by decide +kernel
theorem dX5_nextBehind_5 : decode cX5_nextBehind 5 = .ok (.bipush 60, 2) := by decide +kernel
theorem dX5_nextBehind_7 : decode cX5_nextBehind 7 = .ok (.if_icmp .ge 18, 3) := by decide +kernel
theorem dX5_nextBehind_10 : decode cX5_nextBehind 10 = .ok (.iload_n 2, 1) := by decide +kernel
theorem dX5_nextBehind_11 : decode cX5_nextBehind 11 = .ok (.ifCond .ne 14, 3) := by decide +kernel
theorem dX5_nextBehind_14 : decode cX5_nextBehind 14 = .ok (.aload_n 0, 1) := by decide +kernel
theorem dX5_nextBehind_15 : decode cX5_nextBehind 15 = .ok (.invokevirtual 155, 3) := by decide +kernel
theorem dX5_nextBehind_18 : decode cX5_nextBehind 18 = .ok (.istore_n 2, 1) := by decide +kernel
theorem dX5_nextBehind_19 : decode cX5_nextBehind 19 = .ok (.iinc 1 1, 3) := by decide +kernel
theorem dX5_nextBehind_22 : decode cX5_nextBehind 22 = .ok (.goto (-18), 3) := by decide +kernel
theorem dX5_nextBehind_25 : decode cX5_nextBehind 25 = .ok (.aload_n 0, 1) := by decide +kernel
theorem dX5_nextBehind_26 : decode cX5_nextBehind 26 = .ok (.invokevirtual 176, 3) := by decide +kernel
theorem dX5_nextBehind_29 : decode cX5_nextBehind 29 = .ok (.iload_n 2, 1) := by decide +kernel
theorem dX5_nextBehind_30 : decode cX5_nextBehind 30 = .ok (.ifCond .eq 7, 3) := by decide +kernel
theorem dX5_nextBehind_33 : decode cX5_nextBehind 33 = .ok (.iload_n 1, 1) := by decide +kernel
theorem dX5_nextBehind_34 : decode cX5_nextBehind 34 = .ok (.goto 5, 3) := by decide +kernel
theorem dX5_nextBehind_37 : decode cX5_nextBehind 37 = .ok (.bipush 61, 2) := by decide +kernel
theorem dX5_nextBehind_39 : decode cX5_nextBehind 39 = .ok (.ireturn, 1) := by decide +kernel
theorem dX5_next_0 : decode cX5_next 0 = .ok (.iload_n 1, 1) := by decide +kernel
theorem dX5_next_1 : decode cX5_next 1 = .ok (.i2l, 1) := by decide +kernel
theorem dX5_next_2 : decode cX5_next 2 = .ok (.lconst 0, 1) := by decide +kernel
theorem dX5_next_3 : decode cX5_next 3 = .ok (.ldc2_w 89, 3) := by decide +kernel
theorem dX5_next_6 : decode cX5_next 6 = .ok (.invokestatic 49, 3) := by decide +kernel
theorem dX5_next_9 : decode cX5_next 9 = .ok (.ifCond .ne 5, 3) := by decide +kernel
theorem dX5_next_12 : decode cX5_next 12 = .ok (.iconst (-1), 1) := by decide +kernel
theorem dX5_next_13 : decode cX5_next 13 = .ok (.ireturn, 1) := by decide +kernel
theorem dX5_next_14 : decode cX5_next 14 = .ok (.aload_n 0, 1) := by decide +kernel
theorem dX5_next_15 : decode cX5_next 15 = .ok (.invokevirtual 173, 3) := by decide +kernel
theorem dX5_next_18 : decode cX5_next 18 = .ok (.aload_n 0, 1) := by decide +kernel
theorem dX5_next_19 : decode cX5_next 19 = .ok (.invokevirtual 179, 3) := by decide +kernel
theorem dX5_next_22 : decode cX5_next 22 = .ok (.istore_n 2, 1) := by decide +kernel
theorem dX5_next_23 : decode cX5_next 23 = .ok (.iload_n 2, 1) := by decide +kernel
theorem dX5_next_24 : decode cX5_next 24 = .ok (.bipush 61, 2) := by decide +kernel
theorem dX5_next_26 : decode cX5_next 26 = .ok (.if_icmp .ne 8, 3) := by decide +kernel
theorem dX5_next_29 : decode cX5_next 29 = .ok (.bipush (-4), 2) := by decide +kernel
theorem dX5_next_31 : decode cX5_next 31 = .ok (.goto 27, 3) := by decide +kernel
theorem dX5_next_34 : decode cX5_next 34 = .ok (.iload_n 1, 1) := by decide +kernel
theorem dX5_next_35 : decode cX5_next 35 = .ok (.ifCond .ne 10, 3) := by decide +kernel
theorem dX5_next_38 : decode cX5_next 38 = .ok (.aload_n 0, 1) := by decide +kernel
theorem dX5_next_39 : decode cX5_next 39 = .ok (.getfield 80, 3) := by decide +kernel
theorem dX5_next_42 : decode cX5_next 42 = .ok (.goto 16, 3) := by decide +kernel
theorem dX5_next_45 : decode cX5_next 45 = .ok (.iload_n 1, 1) := by decide +kernel
theorem dX5_next_46 : decode cX5_next 46 = .ok (.iconst 1, 1) := by decide +kernel
theorem dX5_next_47 : decode cX5_next 47 = .ok (.if_icmp .ne 7, 3) := by decide +kernel
theorem dX5_next_50 : decode cX5_next 50 = .ok (.iload_n 2, 1) := by decide +kernel
theorem dX5_next_51 : decode cX5_next 51 = .ok (.goto 7, 3) := by decide +kernel
theorem dX5_next_54 : decode cX5_next 54 = .ok (.aload_n 0, 1) := by decide +kernel
theorem dX5_next_55 : decode cX5_next 55 = .ok (.getfield 86, 3) := by decide +kernel
theorem dX5_next_58 : decode cX5_next 58 = .ok (.ireturn, 1) := by decide +kernel
theorem dX5_caughtBehind_0 : decode cX5_caughtBehind 0 = .ok (.iconst 0, 1) := by decide +kernel
theorem dX5_caughtBehind_1 : decode cX5_caughtBehind 1 = .ok (.istore_n 3, 1) := by decide +kernel
theorem dX5_caughtBehind_2 : decode cX5_caughtBehind 2 = .ok (.iload_n 3, 1) := by decide +kernel
theorem dX5_caughtBehind_3 : decode cX5_caughtBehind 3 = .ok (.iload_n 2, 1) := by decide +kernel
theorem dX5_caughtBehind_4 : decode cX5_caughtBehind 4 = .ok (.if_icmp .ge 22, 3) := by decide +kernel
theorem dX5_caughtBehind_7 : decode cX5_caughtBehind 7 = .ok (.aload_n 0, 1) := by decide +kernel
theorem dX5_caughtBehind_8 : decode cX5_caughtBehind 8 = .ok (.iload_n 1, 1) := by decide +kernel
theorem dX5_caughtBehind_9 : decode cX5_caughtBehind 9 = .ok (.invokevirtual 67, 3) := by decide +kernel
theorem dX5_caughtBehind_12 : decode cX5_caughtBehind 12 = .ok (.ifCond .eq 14, 3) := by decide +kernel
theorem dX5_caughtBehind_15 : decode cX5_caughtBehind 15 = .ok (.aload_n 0, 1) := by decide +kernel
theorem dX5_caughtBehind_16 : decode cX5_caughtBehind 16 = .ok (.invokevirtual 155, 3) := by decide +kernel
theorem dX5_caughtBehind_19 : decode cX5_caughtBehind 19 = .ok (.pop, 1) := by decide +kernel
theorem dX5_caughtBehind_20 : decode cX5_caughtBehind 20 = .ok (.iinc 3 1, 3) := by decide +kernel
theorem dX5_caughtBehind_23 : decode cX5_caughtBehind 23 = .ok (.goto (-21), 3) := by decide +kernel
theorem dX5_caughtBehind_26 : decode cX5_caughtBehind 26 = .ok (.aload_n 0, 1) := by decide +kernel
theorem dX5_caughtBehind_27 : decode cX5_caughtBehind 27 = .ok (.iload_n 1, 1) := by decide +kernel
theorem dX5_caughtBehind_28 : decode cX5_caughtBehind 28 = .ok (.invokevirtual 67, 3) := by decide +kernel
theorem dX5_caughtBehind_31 : decode cX5_caughtBehind 31 = .ok (.ifCond .eq 8, 3) := by decide +kernel
theorem dX5_caughtBehind_34 : decode cX5_caughtBehind 34 = .ok (.bipush 61, 2) := by decide +kernel
theorem dX5_caughtBehind_36 : decode cX5_caughtBehind 36 = .ok (.goto 4, 3) := by decide +kernel
theorem dX5_caughtBehind_39 : decode cX5_caughtBehind 39 = .ok (.iload_n 3, 1) := by decide +kernel
theorem dX5_caughtBehind_40 : decode cX5_caughtBehind 40 = .ok (.istore 4, 2) := by decide +kernel
theorem dX5_caughtBehind_42 : decode cX5_caughtBehind 42 = .ok (.aload_n 0, 1) := by decide +kernel
theorem dX5_caughtBehind_43 : decode cX5_caughtBehind 43 = .ok (.invokevirtual 176, 3) := by decide +kernel
theorem dX5_caughtBehind_46 : decode cX5_caughtBehind 46 = .ok (.iload 4, 2) := by decide +kernel
theorem dX5_caughtBehind_48 : decode cX5_caughtBehind 48 = .ok (.ireturn, 1) := by decide +kernel
theorem dX5_stand_0 : decode cX5_stand 0 = .ok (.aload_n 0, 1) := by decide +kernel
theorem dX5_stand_1 : decode cX5_stand 1 = .ok (.iload_n 1, 1) := by decide +kernel
theorem dX5_stand_2 : decode cX5_stand 2 = .ok (.invokevirtual 107, 3) := by decide +kernel
theorem dX5_stand_5 : decode cX5_stand 5 = .ok (.ifCond .eq 13, 3) := by decide +kernel
theorem dX5_stand_8 : decode cX5_stand 8 = .ok (.iload_n 2, 1) := by decide +kernel
theorem dX5_stand_9 : decode cX5_stand 9 = .ok (.i2l, 1) := by decide +kernel
theorem dX5_stand_10 : decode cX5_stand 10 = .ok (.lconst 0, 1) := by decide +kernel
theorem dX5_stand_11 : decode cX5_stand 11 = .ok (.lconst 1, 1) := by decide +kernel
theorem dX5_stand_12 : decode cX5_stand 12 = .ok (.invokestatic 49, 3) := by decide +kernel
theorem dX5_stand_15 : decode cX5_stand 15 = .ok (.ifCond .ne 5, 3) := by decide +kernel
theorem dX5_stand_18 : decode cX5_stand 18 = .ok (.iconst (-1), 1) := by decide +kernel
theorem dX5_stand_19 : decode cX5_stand 19 = .ok (.ireturn, 1) := by decide +kernel
theorem dX5_stand_20 : decode cX5_stand 20 = .ok (.aload_n 0, 1) := by decide +kernel
theorem dX5_stand_21 : decode cX5_stand 21 = .ok (.iload_n 1, 1) := by decide +kernel
theorem dX5_stand_22 : decode cX5_stand 22 = .ok (.invokevirtual 67, 3) := by decide +kernel
theorem dX5_stand_25 : decode cX5_stand 25 = .ok (.ifCond .ne 6, 3) := by decide +kernel
theorem dX5_stand_28 : decode cX5_stand 28 = .ok (.bipush (-2), 2) := by decide +kernel
theorem dX5_stand_30 : decode cX5_stand 30 = .ok (.ireturn, 1) := by decide +kernel
theorem dX5_stand_31 : decode cX5_stand 31 = .ok (.bipush (-4), 2) := by decide +kernel
theorem dX5_stand_33 : decode cX5_stand 33 = .ok (.istore_n 3, 1) := by decide +kernel
theorem dX5_stand_34 : decode cX5_stand 34 = .ok (.iconst 0, 1) := by decide +kernel
theorem dX5_stand_35 : decode cX5_stand 35 = .ok (.istore 4, 2) := by decide +kernel
theorem dX5_stand_37 : decode cX5_stand 37 = .ok (.aload_n 0, 1) := by decide +kernel
theorem dX5_stand_38 : decode cX5_stand 38 = .ok (.invokevirtual 173, 3) := by decide +kernel
theorem dX5_stand_41 : decode cX5_stand 41 = .ok (.iconst 0, 1) := by decide +kernel
theorem dX5_stand_42 : decode cX5_stand 42 = .ok (.istore 5, 2) := by decide +kernel
theorem dX5_stand_44 : decode cX5_stand 44 = .ok (.iload 5, 2) := by decide +kernel
theorem dX5_stand_46 : decode cX5_stand 46 = .ok (.aload_n 0, 1) := by decide +kernel
theorem dX5_stand_47 : decode cX5_stand 47 = .ok (.invokevirtual 93, 3) := by decide +kernel
theorem dX5_stand_50 : decode cX5_stand 50 = .ok (.if_icmp .ge 63, 3) := by decide +kernel
theorem dX5_stand_53 : decode cX5_stand 53 = .ok (.aload_n 0, 1) := by decide +kernel
theorem dX5_stand_54 : decode cX5_stand 54 = .ok (.getfield 7, 3) := by decide +kernel
theorem dX5_stand_57 : decode cX5_stand 57 = .ok (.bipush 9, 2) := by decide +kernel
theorem dX5_stand_59 : decode cX5_stand 59 = .ok (.iconst 5, 1) := by decide +kernel
theorem dX5_stand_60 : decode cX5_stand 60 = .ok (.iload_n 1, 1) := by decide +kernel
theorem dX5_stand_61 : decode cX5_stand 61 = .ok (.imul, 1) := by decide +kernel
theorem dX5_stand_62 : decode cX5_stand 62 = .ok (.iadd, 1) := by decide +kernel
theorem dX5_stand_63 : decode cX5_stand 63 = .ok (.iconst 1, 1) := by decide +kernel
theorem dX5_stand_64 : decode cX5_stand 64 = .ok (.iadd, 1) := by decide +kernel
theorem dX5_stand_65 : decode cX5_stand 65 = .ok (.iload 5, 2) := by decide +kernel
theorem dX5_stand_67 : decode cX5_stand 67 = .ok (.iastore, 1) := by decide +kernel
theorem dX5_stand_68 : decode cX5_stand 68 = .ok (.aload_n 0, 1) := by decide +kernel
theorem dX5_stand_69 : decode cX5_stand 69 = .ok (.iload_n 1, 1) := by decide +kernel
theorem dX5_stand_70 : decode cX5_stand 70 = .ok (.bipush 60, 2) := by decide +kernel
theorem dX5_stand_72 : decode cX5_stand 72 = .ok (.invokevirtual 182, 3) := by decide +kernel
theorem dX5_stand_75 : decode cX5_stand 75 = .ok (.istore 6, 2) := by decide +kernel
theorem dX5_stand_77 : decode cX5_stand 77 = .ok (.iload 6, 2) := by decide +kernel
theorem dX5_stand_79 : decode cX5_stand 79 = .ok (.iload 4, 2) := by decide +kernel
theorem dX5_stand_81 : decode cX5_stand 81 = .ok (.if_icmp .le 8, 3) := by decide +kernel
theorem dX5_stand_84 : decode cX5_stand 84 = .ok (.iload 5, 2) := by decide +kernel
theorem dX5_stand_86 : decode cX5_stand 86 = .ok (.goto 4, 3) := by decide +kernel
theorem dX5_stand_89 : decode cX5_stand 89 = .ok (.iload_n 3, 1) := by decide +kernel
theorem dX5_stand_90 : decode cX5_stand 90 = .ok (.istore_n 3, 1) := by decide +kernel
theorem dX5_stand_91 : decode cX5_stand 91 = .ok (.iload 6, 2) := by decide +kernel
theorem dX5_stand_93 : decode cX5_stand 93 = .ok (.iload 4, 2) := by decide +kernel
theorem dX5_stand_95 : decode cX5_stand 95 = .ok (.if_icmp .le 8, 3) := by decide +kernel
theorem dX5_stand_98 : decode cX5_stand 98 = .ok (.iload 6, 2) := by decide +kernel
theorem dX5_stand_100 : decode cX5_stand 100 = .ok (.goto 5, 3) := by decide +kernel
theorem dX5_stand_103 : decode cX5_stand 103 = .ok (.iload 4, 2) := by decide +kernel
theorem dX5_stand_105 : decode cX5_stand 105 = .ok (.istore 4, 2) := by decide +kernel
theorem dX5_stand_107 : decode cX5_stand 107 = .ok (.iinc 5 1, 3) := by decide +kernel
theorem dX5_stand_110 : decode cX5_stand 110 = .ok (.goto (-66), 3) := by decide +kernel
theorem dX5_stand_113 : decode cX5_stand 113 = .ok (.iload_n 2, 1) := by decide +kernel
theorem dX5_stand_114 : decode cX5_stand 114 = .ok (.ifCond .ne 7, 3) := by decide +kernel
theorem dX5_stand_117 : decode cX5_stand 117 = .ok (.iload_n 3, 1) := by decide +kernel
theorem dX5_stand_118 : decode cX5_stand 118 = .ok (.goto 5, 3) := by decide +kernel
theorem dX5_stand_121 : decode cX5_stand 121 = .ok (.iload 4, 2) := by decide +kernel
theorem dX5_stand_123 : decode cX5_stand 123 = .ok (.ireturn, 1) := by decide +kernel
theorem dX5_hush_0 : decode cX5_hush 0 = .ok (.aload_n 0, 1) := by decide +kernel
theorem dX5_hush_1 : decode cX5_hush 1 = .ok (.iload_n 1, 1) := by decide +kernel
theorem dX5_hush_2 : decode cX5_hush 2 = .ok (.invokevirtual 107, 3) := by decide +kernel
theorem dX5_hush_5 : decode cX5_hush 5 = .ok (.ifCond .eq 15, 3) := by decide +kernel
theorem dX5_hush_8 : decode cX5_hush 8 = .ok (.iload_n 2, 1) := by decide +kernel
theorem dX5_hush_9 : decode cX5_hush 9 = .ok (.i2l, 1) := by decide +kernel
theorem dX5_hush_10 : decode cX5_hush 10 = .ok (.lconst 1, 1) := by decide +kernel
theorem dX5_hush_11 : decode cX5_hush 11 = .ok (.ldc2_w 171, 3) := by decide +kernel
theorem dX5_hush_14 : decode cX5_hush 14 = .ok (.invokestatic 49, 3) := by decide +kernel
theorem dX5_hush_17 : decode cX5_hush 17 = .ok (.ifCond .ne 5, 3) := by decide +kernel
theorem dX5_hush_20 : decode cX5_hush 20 = .ok (.iconst (-1), 1) := by decide +kernel
end
section
theorem dX5_hush_21 : decode cX5_hush 21 = .ok (.ireturn, 1) := by decide +kernel
theorem dX5_hush_22 : decode cX5_hush 22 = .ok (.aload_n 0, 1) := by decide +kernel
theorem dX5_hush_23 : decode cX5_hush 23 = .ok (.iload_n 1, 1) := by decide +kernel
theorem dX5_hush_24 : decode cX5_hush 24 = .ok (.invokevirtual 67, 3) := by decide +kernel
theorem dX5_hush_27 : decode cX5_hush 27 = .ok (.ifCond .ne 6, 3) := by decide +kernel
theorem dX5_hush_30 : decode cX5_hush 30 = .ok (.bipush (-2), 2) := by decide +kernel
theorem dX5_hush_32 : decode cX5_hush 32 = .ok (.ireturn, 1) := by decide +kernel
theorem dX5_hush_33 : decode cX5_hush 33 = .ok (.aload_n 0, 1) := by decide +kernel
theorem dX5_hush_34 : decode cX5_hush 34 = .ok (.invokevirtual 173, 3) := by decide +kernel
theorem dX5_hush_37 : decode cX5_hush 37 = .ok (.iconst 0, 1) := by decide +kernel
theorem dX5_hush_38 : decode cX5_hush 38 = .ok (.istore_n 3, 1) := by decide +kernel
theorem dX5_hush_39 : decode cX5_hush 39 = .ok (.iload_n 3, 1) := by decide +kernel
theorem dX5_hush_40 : decode cX5_hush 40 = .ok (.aload_n 0, 1) := by decide +kernel
theorem dX5_hush_41 : decode cX5_hush 41 = .ok (.iload_n 1, 1) := by decide +kernel
theorem dX5_hush_42 : decode cX5_hush 42 = .ok (.iconst 2, 1) := by decide +kernel
theorem dX5_hush_43 : decode cX5_hush 43 = .ok (.invokevirtual 53, 3) := by decide +kernel
theorem dX5_hush_46 : decode cX5_hush 46 = .ok (.if_icmp .gt 39, 3) := by decide +kernel
theorem dX5_hush_49 : decode cX5_hush 49 = .ok (.aload_n 0, 1) := by decide +kernel
theorem dX5_hush_50 : decode cX5_hush 50 = .ok (.getfield 7, 3) := by decide +kernel
theorem dX5_hush_53 : decode cX5_hush 53 = .ok (.bipush 9, 2) := by decide +kernel
theorem dX5_hush_55 : decode cX5_hush 55 = .ok (.iconst 5, 1) := by decide +kernel
theorem dX5_hush_56 : decode cX5_hush 56 = .ok (.iload_n 1, 1) := by decide +kernel
theorem dX5_hush_57 : decode cX5_hush 57 = .ok (.imul, 1) := by decide +kernel
theorem dX5_hush_58 : decode cX5_hush 58 = .ok (.iadd, 1) := by decide +kernel
theorem dX5_hush_59 : decode cX5_hush 59 = .ok (.iconst 2, 1) := by decide +kernel
theorem dX5_hush_60 : decode cX5_hush 60 = .ok (.iadd, 1) := by decide +kernel
theorem dX5_hush_61 : decode cX5_hush 61 = .ok (.dup2, 1) := by decide +kernel
theorem dX5_hush_62 : decode cX5_hush 62 = .ok (.iaload, 1) := by decide +kernel
theorem dX5_hush_63 : decode cX5_hush 63 = .ok (.iload_n 3, 1) := by decide +kernel
theorem dX5_hush_64 : decode cX5_hush 64 = .ok (.isub, 1) := by decide +kernel
theorem dX5_hush_65 : decode cX5_hush 65 = .ok (.iastore, 1) := by decide +kernel
theorem dX5_hush_66 : decode cX5_hush 66 = .ok (.aload_n 0, 1) := by decide +kernel
theorem dX5_hush_67 : decode cX5_hush 67 = .ok (.iload_n 1, 1) := by decide +kernel
theorem dX5_hush_68 : decode cX5_hush 68 = .ok (.iload_n 2, 1) := by decide +kernel
theorem dX5_hush_69 : decode cX5_hush 69 = .ok (.invokevirtual 182, 3) := by decide +kernel
theorem dX5_hush_72 : decode cX5_hush 72 = .ok (.bipush 61, 2) := by decide +kernel
theorem dX5_hush_74 : decode cX5_hush 74 = .ok (.if_icmp .ne 5, 3) := by decide +kernel
theorem dX5_hush_77 : decode cX5_hush 77 = .ok (.iload_n 3, 1) := by decide +kernel
theorem dX5_hush_78 : decode cX5_hush 78 = .ok (.ireturn, 1) := by decide +kernel
theorem dX5_hush_79 : decode cX5_hush 79 = .ok (.iinc 3 1, 3) := by decide +kernel
theorem dX5_hush_82 : decode cX5_hush 82 = .ok (.goto (-43), 3) := by decide +kernel
theorem dX5_hush_85 : decode cX5_hush 85 = .ok (.bipush (-4), 2) := by decide +kernel
theorem dX5_hush_87 : decode cX5_hush 87 = .ok (.ireturn, 1) := by decide +kernel
theorem dX5_mask_0 : decode cX5_mask 0 = .ok (.aload_n 0, 1) := by decide +kernel
theorem dX5_mask_1 : decode cX5_mask 1 = .ok (.iload_n 1, 1) := by decide +kernel
theorem dX5_mask_2 : decode cX5_mask 2 = .ok (.invokevirtual 107, 3) := by decide +kernel
theorem dX5_mask_5 : decode cX5_mask 5 = .ok (.ifCond .eq 13, 3) := by decide +kernel
theorem dX5_mask_8 : decode cX5_mask 8 = .ok (.iload_n 2, 1) := by decide +kernel
theorem dX5_mask_9 : decode cX5_mask 9 = .ok (.i2l, 1) := by decide +kernel
theorem dX5_mask_10 : decode cX5_mask 10 = .ok (.lconst 0, 1) := by decide +kernel
theorem dX5_mask_11 : decode cX5_mask 11 = .ok (.lconst 1, 1) := by decide +kernel
theorem dX5_mask_12 : decode cX5_mask 12 = .ok (.invokestatic 49, 3) := by decide +kernel
theorem dX5_mask_15 : decode cX5_mask 15 = .ok (.ifCond .ne 5, 3) := by decide +kernel
theorem dX5_mask_18 : decode cX5_mask 18 = .ok (.iconst (-1), 1) := by decide +kernel
theorem dX5_mask_19 : decode cX5_mask 19 = .ok (.ireturn, 1) := by decide +kernel
theorem dX5_mask_20 : decode cX5_mask 20 = .ok (.bipush (-4), 2) := by decide +kernel
theorem dX5_mask_22 : decode cX5_mask 22 = .ok (.istore_n 3, 1) := by decide +kernel
theorem dX5_mask_23 : decode cX5_mask 23 = .ok (.iconst 0, 1) := by decide +kernel
theorem dX5_mask_24 : decode cX5_mask 24 = .ok (.istore 4, 2) := by decide +kernel
theorem dX5_mask_26 : decode cX5_mask 26 = .ok (.iload 4, 2) := by decide +kernel
theorem dX5_mask_28 : decode cX5_mask 28 = .ok (.bipush 64, 2) := by decide +kernel
theorem dX5_mask_30 : decode cX5_mask 30 = .ok (.if_icmp .ge 64, 3) := by decide +kernel
theorem dX5_mask_33 : decode cX5_mask 33 = .ok (.iload_n 3, 1) := by decide +kernel
theorem dX5_mask_34 : decode cX5_mask 34 = .ok (.bipush (-4), 2) := by decide +kernel
theorem dX5_mask_36 : decode cX5_mask 36 = .ok (.if_icmp .eq 15, 3) := by decide +kernel
theorem dX5_mask_39 : decode cX5_mask 39 = .ok (.iload 4, 2) := by decide +kernel
theorem dX5_mask_41 : decode cX5_mask 41 = .ok (.invokestatic 64, 3) := by decide +kernel
theorem dX5_mask_44 : decode cX5_mask 44 = .ok (.iload_n 3, 1) := by decide +kernel
theorem dX5_mask_45 : decode cX5_mask 45 = .ok (.invokestatic 64, 3) := by decide +kernel
theorem dX5_mask_48 : decode cX5_mask 48 = .ok (.if_icmp .ge 25, 3) := by decide +kernel
theorem dX5_mask_51 : decode cX5_mask 51 = .ok (.aload_n 0, 1) := by decide +kernel
theorem dX5_mask_52 : decode cX5_mask 52 = .ok (.iload_n 1, 1) := by decide +kernel
theorem dX5_mask_53 : decode cX5_mask 53 = .ok (.aload_n 0, 1) := by decide +kernel
theorem dX5_mask_54 : decode cX5_mask 54 = .ok (.iload_n 1, 1) := by decide +kernel
theorem dX5_mask_55 : decode cX5_mask 55 = .ok (.iconst 4, 1) := by decide +kernel
theorem dX5_mask_56 : decode cX5_mask 56 = .ok (.invokevirtual 53, 3) := by decide +kernel
theorem dX5_mask_59 : decode cX5_mask 59 = .ok (.iload 4, 2) := by decide +kernel
theorem dX5_mask_61 : decode cX5_mask 61 = .ok (.ixor, 1) := by decide +kernel
theorem dX5_mask_62 : decode cX5_mask 62 = .ok (.invokevirtual 83, 3) := by decide +kernel
theorem dX5_mask_65 : decode cX5_mask 65 = .ok (.iload_n 1, 1) := by decide +kernel
theorem dX5_mask_66 : decode cX5_mask 66 = .ok (.if_icmp .eq 7, 3) := by decide +kernel
theorem dX5_mask_69 : decode cX5_mask 69 = .ok (.iconst 1, 1) := by decide +kernel
theorem dX5_mask_70 : decode cX5_mask 70 = .ok (.goto 4, 3) := by decide +kernel
theorem dX5_mask_73 : decode cX5_mask 73 = .ok (.iconst 0, 1) := by decide +kernel
theorem dX5_mask_74 : decode cX5_mask 74 = .ok (.istore 5, 2) := by decide +kernel
theorem dX5_mask_76 : decode cX5_mask 76 = .ok (.iload 5, 2) := by decide +kernel
theorem dX5_mask_78 : decode cX5_mask 78 = .ok (.ifCond .eq 8, 3) := by decide +kernel
theorem dX5_mask_81 : decode cX5_mask 81 = .ok (.iload 4, 2) := by decide +kernel
theorem dX5_mask_83 : decode cX5_mask 83 = .ok (.goto 4, 3) := by decide +kernel
theorem dX5_mask_86 : decode cX5_mask 86 = .ok (.iload_n 3, 1) := by decide +kernel
theorem dX5_mask_87 : decode cX5_mask 87 = .ok (.istore_n 3, 1) := by decide +kernel
theorem dX5_mask_88 : decode cX5_mask 88 = .ok (.iinc 4 1, 3) := by decide +kernel
theorem dX5_mask_91 : decode cX5_mask 91 = .ok (.goto (-65), 3) := by decide +kernel
theorem dX5_mask_94 : decode cX5_mask 94 = .ok (.iload_n 2, 1) := by decide +kernel
theorem dX5_mask_95 : decode cX5_mask 95 = .ok (.iconst 1, 1) := by decide +kernel
theorem dX5_mask_96 : decode cX5_mask 96 = .ok (.if_icmp .eq 9, 3) := by decide +kernel
theorem dX5_mask_99 : decode cX5_mask 99 = .ok (.iload_n 3, 1) := by decide +kernel
theorem dX5_mask_100 : decode cX5_mask 100 = .ok (.bipush (-4), 2) := by decide +kernel
theorem dX5_mask_102 : decode cX5_mask 102 = .ok (.if_icmp .ne 7, 3) := by decide +kernel
theorem dX5_mask_105 : decode cX5_mask 105 = .ok (.iload_n 3, 1) := by decide +kernel
theorem dX5_mask_106 : decode cX5_mask 106 = .ok (.goto 7, 3) := by decide +kernel
theorem dX5_mask_109 : decode cX5_mask 109 = .ok (.iload_n 3, 1) := by decide +kernel
theorem dX5_mask_110 : decode cX5_mask 110 = .ok (.invokestatic 64, 3) := by decide +kernel
theorem dX5_mask_113 : decode cX5_mask 113 = .ok (.ireturn, 1) := by decide +kernel
theorem dX5_alike_0 : decode cX5_alike 0 = .ok (.iload_n 1, 1) := by decide +kernel
theorem dX5_alike_1 : decode cX5_alike 1 = .ok (.i2l, 1) := by decide +kernel
theorem dX5_alike_2 : decode cX5_alike 2 = .ok (.lconst 0, 1) := by decide +kernel
theorem dX5_alike_3 : decode cX5_alike 3 = .ok (.ldc2_w 91, 3) := by decide +kernel
theorem dX5_alike_6 : decode cX5_alike 6 = .ok (.invokestatic 49, 3) := by decide +kernel
theorem dX5_alike_9 : decode cX5_alike 9 = .ok (.ifCond .eq 13, 3) := by decide +kernel
theorem dX5_alike_12 : decode cX5_alike 12 = .ok (.iload_n 2, 1) := by decide +kernel
theorem dX5_alike_13 : decode cX5_alike 13 = .ok (.i2l, 1) := by decide +kernel
theorem dX5_alike_14 : decode cX5_alike 14 = .ok (.lconst 0, 1) := by decide +kernel
theorem dX5_alike_15 : decode cX5_alike 15 = .ok (.lconst 1, 1) := by decide +kernel
theorem dX5_alike_16 : decode cX5_alike 16 = .ok (.invokestatic 49, 3) := by decide +kernel
theorem dX5_alike_19 : decode cX5_alike 19 = .ok (.ifCond .ne 5, 3) := by decide +kernel
theorem dX5_alike_22 : decode cX5_alike 22 = .ok (.iconst (-1), 1) := by decide +kernel
theorem dX5_alike_23 : decode cX5_alike 23 = .ok (.ireturn, 1) := by decide +kernel
theorem dX5_alike_24 : decode cX5_alike 24 = .ok (.iconst 0, 1) := by decide +kernel
theorem dX5_alike_25 : decode cX5_alike 25 = .ok (.istore_n 3, 1) := by decide +kernel
theorem dX5_alike_26 : decode cX5_alike 26 = .ok (.bipush (-4), 2) := by decide +kernel
theorem dX5_alike_28 : decode cX5_alike 28 = .ok (.istore 4, 2) := by decide +kernel
theorem dX5_alike_30 : decode cX5_alike 30 = .ok (.iconst 0, 1) := by decide +kernel
theorem dX5_alike_31 : decode cX5_alike 31 = .ok (.istore 5, 2) := by decide +kernel
theorem dX5_alike_33 : decode cX5_alike 33 = .ok (.iload 5, 2) := by decide +kernel
theorem dX5_alike_35 : decode cX5_alike 35 = .ok (.aload_n 0, 1) := by decide +kernel
theorem dX5_alike_36 : decode cX5_alike 36 = .ok (.getfield 7, 3) := by decide +kernel
theorem dX5_alike_39 : decode cX5_alike 39 = .ok (.iconst 2, 1) := by decide +kernel
theorem dX5_alike_40 : decode cX5_alike 40 = .ok (.iaload, 1) := by decide +kernel
theorem dX5_alike_41 : decode cX5_alike 41 = .ok (.if_icmp .ge 98, 3) := by decide +kernel
theorem dX5_alike_44 : decode cX5_alike 44 = .ok (.iload 5, 2) := by decide +kernel
theorem dX5_alike_46 : decode cX5_alike 46 = .ok (.iconst 1, 1) := by decide +kernel
theorem dX5_alike_47 : decode cX5_alike 47 = .ok (.iadd, 1) := by decide +kernel
theorem dX5_alike_48 : decode cX5_alike 48 = .ok (.istore 6, 2) := by decide +kernel
theorem dX5_alike_50 : decode cX5_alike 50 = .ok (.iload 6, 2) := by decide +kernel
theorem dX5_alike_52 : decode cX5_alike 52 = .ok (.aload_n 0, 1) := by decide +kernel
theorem dX5_alike_53 : decode cX5_alike 53 = .ok (.getfield 7, 3) := by decide +kernel
theorem dX5_alike_56 : decode cX5_alike 56 = .ok (.iconst 2, 1) := by decide +kernel
theorem dX5_alike_57 : decode cX5_alike 57 = .ok (.iaload, 1) := by decide +kernel
theorem dX5_alike_58 : decode cX5_alike 58 = .ok (.if_icmp .ge 75, 3) := by decide +kernel
theorem dX5_alike_61 : decode cX5_alike 61 = .ok (.aload_n 0, 1) := by decide +kernel
theorem dX5_alike_62 : decode cX5_alike 62 = .ok (.iload 5, 2) := by decide +kernel
theorem dX5_alike_64 : decode cX5_alike 64 = .ok (.iconst 3, 1) := by decide +kernel
theorem dX5_alike_65 : decode cX5_alike 65 = .ok (.invokevirtual 53, 3) := by decide +kernel
theorem dX5_alike_68 : decode cX5_alike 68 = .ok (.aload_n 0, 1) := by decide +kernel
theorem dX5_alike_69 : decode cX5_alike 69 = .ok (.iload 6, 2) := by decide +kernel
theorem dX5_alike_71 : decode cX5_alike 71 = .ok (.iconst 3, 1) := by decide +kernel
theorem dX5_alike_72 : decode cX5_alike 72 = .ok (.invokevirtual 53, 3) := by decide +kernel
theorem dX5_alike_75 : decode cX5_alike 75 = .ok (.ixor, 1) := by decide +kernel
theorem dX5_alike_76 : decode cX5_alike 76 = .ok (.invokestatic 64, 3) := by decide +kernel
theorem dX5_alike_79 : decode cX5_alike 79 = .ok (.iload_n 1, 1) := by decide +kernel
theorem dX5_alike_80 : decode cX5_alike 80 = .ok (.if_icmp .gt 7, 3) := by decide +kernel
theorem dX5_alike_83 : decode cX5_alike 83 = .ok (.iconst 1, 1) := by decide +kernel
theorem dX5_alike_84 : decode cX5_alike 84 = .ok (.goto 4, 3) := by decide +kernel
theorem dX5_alike_87 : decode cX5_alike 87 = .ok (.iconst 0, 1) := by decide +kernel
theorem dX5_alike_88 : decode cX5_alike 88 = .ok (.istore 7, 2) := by decide +kernel
theorem dX5_alike_90 : decode cX5_alike 90 = .ok (.iload 7, 2) := by decide +kernel
theorem dX5_alike_92 : decode cX5_alike 92 = .ok (.ifCond .eq 18, 3) := by decide +kernel
theorem dX5_alike_95 : decode cX5_alike 95 = .ok (.iload_n 3, 1) := by decide +kernel
theorem dX5_alike_96 : decode cX5_alike 96 = .ok (.ifCond .ne 14, 3) := by decide +kernel
theorem dX5_alike_99 : decode cX5_alike 99 = .ok (.bipush 10, 2) := by decide +kernel
theorem dX5_alike_101 : decode cX5_alike 101 = .ok (.iload 5, 2) := by decide +kernel
theorem dX5_alike_103 : decode cX5_alike 103 = .ok (.imul, 1) := by decide +kernel
theorem dX5_alike_104 : decode cX5_alike 104 = .ok (.iload 6, 2) := by decide +kernel
theorem dX5_alike_106 : decode cX5_alike 106 = .ok (.iadd, 1) := by decide +kernel
theorem dX5_alike_107 : decode cX5_alike 107 = .ok (.goto 5, 3) := by decide +kernel
theorem dX5_alike_110 : decode cX5_alike 110 = .ok (.iload 4, 2) := by decide +kernel
theorem dX5_alike_112 : decode cX5_alike 112 = .ok (.istore 4, 2) := by decide +kernel
theorem dX5_alike_114 : decode cX5_alike 114 = .ok (.iload_n 3, 1) := by decide +kernel
theorem dX5_alike_115 : decode cX5_alike 115 = .ok (.iload 7, 2) := by decide +kernel
theorem dX5_alike_117 : decode cX5_alike 117 = .ok (.ifCond .eq 7, 3) := by decide +kernel
theorem dX5_alike_120 : decode cX5_alike 120 = .ok (.iconst 1, 1) := by decide +kernel
theorem dX5_alike_121 : decode cX5_alike 121 = .ok (.goto 4, 3) := by decide +kernel
theorem dX5_alike_124 : decode cX5_alike 124 = .ok (.iconst 0, 1) := by decide +kernel
theorem dX5_alike_125 : decode cX5_alike 125 = .ok (.iadd, 1) := by decide +kernel
theorem dX5_alike_126 : decode cX5_alike 126 = .ok (.istore_n 3, 1) := by decide +kernel
theorem dX5_alike_127 : decode cX5_alike 127 = .ok (.iinc 6 1, 3) := by decide +kernel
theorem dX5_alike_130 : decode cX5_alike 130 = .ok (.goto (-80), 3) := by decide +kernel
theorem dX5_alike_133 : decode cX5_alike 133 = .ok (.iinc 5 1, 3) := by decide +kernel
theorem dX5_alike_136 : decode cX5_alike 136 = .ok (.goto (-103), 3) := by decide +kernel
theorem dX5_alike_139 : decode cX5_alike 139 = .ok (.iload_n 2, 1) := by decide +kernel
theorem dX5_alike_140 : decode cX5_alike 140 = .ok (.ifCond .ne 7, 3) := by decide +kernel
theorem dX5_alike_143 : decode cX5_alike 143 = .ok (.iload_n 3, 1) := by decide +kernel
theorem dX5_alike_144 : decode cX5_alike 144 = .ok (.goto 5, 3) := by decide +kernel
theorem dX5_alike_147 : decode cX5_alike 147 = .ok (.iload 4, 2) := by decide +kernel
theorem dX5_alike_149 : decode cX5_alike 149 = .ok (.ireturn, 1) := by decide +kernel
theorem dX5_turned_0 : decode cX5_turned 0 = .ok (.aload_n 0, 1) := by decide +kernel
theorem dX5_turned_1 : decode cX5_turned 1 = .ok (.iload_n 1, 1) := by decide +kernel
theorem dX5_turned_2 : decode cX5_turned 2 = .ok (.invokevirtual 107, 3) := by decide +kernel
theorem dX5_turned_5 : decode cX5_turned 5 = .ok (.ifCond .eq 13, 3) := by decide +kernel
theorem dX5_turned_8 : decode cX5_turned 8 = .ok (.iload_n 2, 1) := by decide +kernel
theorem dX5_turned_9 : decode cX5_turned 9 = .ok (.i2l, 1) := by decide +kernel
theorem dX5_turned_10 : decode cX5_turned 10 = .ok (.lconst 0, 1) := by decide +kernel
theorem dX5_turned_11 : decode cX5_turned 11 = .ok (.lconst 1, 1) := by decide +kernel
theorem dX5_turned_12 : decode cX5_turned 12 = .ok (.invokestatic 49, 3) := by decide +kernel
theorem dX5_turned_15 : decode cX5_turned 15 = .ok (.ifCond .ne 5, 3) := by decide +kernel
theorem dX5_turned_18 : decode cX5_turned 18 = .ok (.iconst (-1), 1) := by decide +kernel
theorem dX5_turned_19 : decode cX5_turned 19 = .ok (.ireturn, 1) := by decide +kernel
theorem dX5_turned_20 : decode cX5_turned 20 = .ok (.iconst 0, 1) := by decide +kernel
theorem dX5_turned_21 : decode cX5_turned 21 = .ok (.istore_n 3, 1) := by decide +kernel
theorem dX5_turned_22 : decode cX5_turned 22 = .ok (.bipush (-4), 2) := by decide +kernel
theorem dX5_turned_24 : decode cX5_turned 24 = .ok (.istore 4, 2) := by decide +kernel
theorem dX5_turned_26 : decode cX5_turned 26 = .ok (.aload_n 0, 1) := by decide +kernel
theorem dX5_turned_27 : decode cX5_turned 27 = .ok (.invokevirtual 173, 3) := by decide +kernel
theorem dX5_turned_30 : decode cX5_turned 30 = .ok (.iconst 0, 1) := by decide +kernel
theorem dX5_turned_31 : decode cX5_turned 31 = .ok (.istore 5, 2) := by decide +kernel
theorem dX5_turned_33 : decode cX5_turned 33 = .ok (.iload 5, 2) := by decide +kernel
theorem dX5_turned_35 : decode cX5_turned 35 = .ok (.aload_n 0, 1) := by decide +kernel
theorem dX5_turned_36 : decode cX5_turned 36 = .ok (.invokevirtual 93, 3) := by decide +kernel
theorem dX5_turned_39 : decode cX5_turned 39 = .ok (.if_icmp .ge 72, 3) := by decide +kernel
theorem dX5_turned_42 : decode cX5_turned 42 = .ok (.aload_n 0, 1) := by decide +kernel
theorem dX5_turned_43 : decode cX5_turned 43 = .ok (.getfield 7, 3) := by decide +kernel
theorem dX5_turned_46 : decode cX5_turned 46 = .ok (.iconst 3, 1) := by decide +kernel
theorem dX5_turned_47 : decode cX5_turned 47 = .ok (.iload 5, 2) := by decide +kernel
theorem dX5_turned_49 : decode cX5_turned 49 = .ok (.iastore, 1) := by decide +kernel
theorem dX5_turned_50 : decode cX5_turned 50 = .ok (.aload_n 0, 1) := by decide +kernel
theorem dX5_turned_51 : decode cX5_turned 51 = .ok (.invokevirtual 179, 3) := by decide +kernel
theorem dX5_turned_54 : decode cX5_turned 54 = .ok (.bipush 61, 2) := by decide +kernel
theorem dX5_turned_56 : decode cX5_turned 56 = .ok (.if_icmp .ge 15, 3) := by decide +kernel
theorem dX5_turned_59 : decode cX5_turned 59 = .ok (.aload_n 0, 1) := by decide +kernel
theorem dX5_turned_60 : decode cX5_turned 60 = .ok (.getfield 80, 3) := by decide +kernel
theorem dX5_turned_63 : decode cX5_turned 63 = .ok (.iload_n 1, 1) := by decide +kernel
theorem dX5_turned_64 : decode cX5_turned 64 = .ok (.if_icmp .ne 7, 3) := by decide +kernel
theorem dX5_turned_67 : decode cX5_turned 67 = .ok (.iconst 1, 1) := by decide +kernel
theorem dX5_turned_68 : decode cX5_turned 68 = .ok (.goto 4, 3) := by decide +kernel
theorem dX5_turned_71 : decode cX5_turned 71 = .ok (.iconst 0, 1) := by decide +kernel
theorem dX5_turned_72 : decode cX5_turned 72 = .ok (.istore 6, 2) := by decide +kernel
theorem dX5_turned_74 : decode cX5_turned 74 = .ok (.iload 6, 2) := by decide +kernel
theorem dX5_turned_76 : decode cX5_turned 76 = .ok (.ifCond .eq 12, 3) := by decide +kernel
theorem dX5_turned_79 : decode cX5_turned 79 = .ok (.iload_n 3, 1) := by decide +kernel
theorem dX5_turned_80 : decode cX5_turned 80 = .ok (.ifCond .ne 8, 3) := by decide +kernel
theorem dX5_turned_83 : decode cX5_turned 83 = .ok (.iload 5, 2) := by decide +kernel
theorem dX5_turned_85 : decode cX5_turned 85 = .ok (.goto 5, 3) := by decide +kernel
theorem dX5_turned_88 : decode cX5_turned 88 = .ok (.iload 4, 2) := by decide +kernel
theorem dX5_turned_90 : decode cX5_turned 90 = .ok (.istore 4, 2) := by decide +kernel
theorem dX5_turned_92 : decode cX5_turned 92 = .ok (.iload_n 3, 1) := by decide +kernel
theorem dX5_turned_93 : decode cX5_turned 93 = .ok (.iload 6, 2) := by decide +kernel
theorem dX5_turned_95 : decode cX5_turned 95 = .ok (.ifCond .eq 7, 3) := by decide +kernel
theorem dX5_turned_98 : decode cX5_turned 98 = .ok (.iconst 1, 1) := by decide +kernel
theorem dX5_turned_99 : decode cX5_turned 99 = .ok (.goto 4, 3) := by decide +kernel
theorem dX5_turned_102 : decode cX5_turned 102 = .ok (.iconst 0, 1) := by decide +kernel
theorem dX5_turned_103 : decode cX5_turned 103 = .ok (.iadd, 1) := by decide +kernel
theorem dX5_turned_104 : decode cX5_turned 104 = .ok (.istore_n 3, 1) := by decide +kernel
theorem dX5_turned_105 : decode cX5_turned 105 = .ok (.iinc 5 1, 3) := by decide +kernel
theorem dX5_turned_108 : decode cX5_turned 108 = .ok (.goto (-75), 3) := by decide +kernel
theorem dX5_turned_111 : decode cX5_turned 111 = .ok (.iload_n 2, 1) := by decide +kernel
theorem dX5_turned_112 : decode cX5_turned 112 = .ok (.ifCond .ne 7, 3) := by decide +kernel
theorem dX5_turned_115 : decode cX5_turned 115 = .ok (.iload_n 3, 1) := by decide +kernel
theorem dX5_turned_116 : decode cX5_turned 116 = .ok (.goto 5, 3) := by decide +kernel
theorem dX5_turned_119 : decode cX5_turned 119 = .ok (.iload 4, 2) := by decide +kernel
theorem dX5_turned_121 : decode cX5_turned 121 = .ok (.ireturn, 1) := by decide +kernel
theorem dX5_luck_0 : decode cX5_luck 0 = .ok (.aload_n 0, 1) := by decide +kernel
theorem dX5_luck_1 : decode cX5_luck 1 = .ok (.iload_n 1, 1) := by decide +kernel
theorem dX5_luck_2 : decode cX5_luck 2 = .ok (.invokevirtual 107, 3) := by decide +kernel
theorem dX5_luck_5 : decode cX5_luck 5 = .ok (.ifCond .eq 25, 3) := by decide +kernel
theorem dX5_luck_8 : decode cX5_luck 8 = .ok (.iload_n 2, 1) := by decide +kernel
theorem dX5_luck_9 : decode cX5_luck 9 = .ok (.i2l, 1) := by decide +kernel
theorem dX5_luck_10 : decode cX5_luck 10 = .ok (.lconst 0, 1) := by decide +kernel
theorem dX5_luck_11 : decode cX5_luck 11 = .ok (.ldc2_w 185, 3) := by decide +kernel
theorem dX5_luck_14 : decode cX5_luck 14 = .ok (.invokestatic 49, 3) := by decide +kernel
theorem dX5_luck_17 : decode cX5_luck 17 = .ok (.ifCond .eq 13, 3) := by decide +kernel
theorem dX5_luck_20 : decode cX5_luck 20 = .ok (.iload_n 3, 1) := by decide +kernel
theorem dX5_luck_21 : decode cX5_luck 21 = .ok (.i2l, 1) := by decide +kernel
theorem dX5_luck_22 : decode cX5_luck 22 = .ok (.lconst 0, 1) := by decide +kernel
theorem dX5_luck_23 : decode cX5_luck 23 = .ok (.lconst 1, 1) := by decide +kernel
theorem dX5_luck_24 : decode cX5_luck 24 = .ok (.invokestatic 49, 3) := by decide +kernel
theorem dX5_luck_27 : decode cX5_luck 27 = .ok (.ifCond .ne 5, 3) := by decide +kernel
theorem dX5_luck_30 : decode cX5_luck 30 = .ok (.iconst (-1), 1) := by decide +kernel
theorem dX5_luck_31 : decode cX5_luck 31 = .ok (.ireturn, 1) := by decide +kernel
theorem dX5_luck_32 : decode cX5_luck 32 = .ok (.iconst 0, 1) := by decide +kernel
theorem dX5_luck_33 : decode cX5_luck 33 = .ok (.istore 4, 2) := by decide +kernel
theorem dX5_luck_35 : decode cX5_luck 35 = .ok (.iconst 0, 1) := by decide +kernel
theorem dX5_luck_36 : decode cX5_luck 36 = .ok (.istore 5, 2) := by decide +kernel
theorem dX5_luck_38 : decode cX5_luck 38 = .ok (.iconst 0, 1) := by decide +kernel
theorem dX5_luck_39 : decode cX5_luck 39 = .ok (.istore 6, 2) := by decide +kernel
theorem dX5_luck_41 : decode cX5_luck 41 = .ok (.iload 6, 2) := by decide +kernel
theorem dX5_luck_43 : decode cX5_luck 43 = .ok (.iconst 1, 1) := by decide +kernel
theorem dX5_luck_44 : decode cX5_luck 44 = .ok (.aload_n 0, 1) := by decide +kernel
theorem dX5_luck_45 : decode cX5_luck 45 = .ok (.getfield 7, 3) := by decide +kernel
theorem dX5_luck_48 : decode cX5_luck 48 = .ok (.iconst 2, 1) := by decide +kernel
theorem dX5_luck_49 : decode cX5_luck 49 = .ok (.iaload, 1) := by decide +kernel
theorem dX5_luck_50 : decode cX5_luck 50 = .ok (.ishl, 1) := by decide +kernel
theorem dX5_luck_51 : decode cX5_luck 51 = .ok (.if_icmp .ge 84, 3) := by decide +kernel
theorem dX5_luck_54 : decode cX5_luck 54 = .ok (.iconst 1, 1) := by decide +kernel
theorem dX5_luck_55 : decode cX5_luck 55 = .ok (.istore 7, 2) := by decide +kernel
theorem dX5_luck_57 : decode cX5_luck 57 = .ok (.iconst 0, 1) := by decide +kernel
theorem dX5_luck_58 : decode cX5_luck 58 = .ok (.istore 8, 2) := by decide +kernel
theorem dX5_luck_60 : decode cX5_luck 60 = .ok (.iload 8, 2) := by decide +kernel
theorem dX5_luck_62 : decode cX5_luck 62 = .ok (.aload_n 0, 1) := by decide +kernel
theorem dX5_luck_63 : decode cX5_luck 63 = .ok (.getfield 7, 3) := by decide +kernel
theorem dX5_luck_66 : decode cX5_luck 66 = .ok (.iconst 2, 1) := by decide +kernel
theorem dX5_luck_67 : decode cX5_luck 67 = .ok (.iaload, 1) := by decide +kernel
theorem dX5_luck_68 : decode cX5_luck 68 = .ok (.if_icmp .ge 33, 3) := by decide +kernel
theorem dX5_luck_71 : decode cX5_luck 71 = .ok (.iload 7, 2) := by decide +kernel
theorem dX5_luck_73 : decode cX5_luck 73 = .ok (.iload 6, 2) := by decide +kernel
theorem dX5_luck_75 : decode cX5_luck 75 = .ok (.iload 8, 2) := by decide +kernel
theorem dX5_luck_77 : decode cX5_luck 77 = .ok (.ishr, 1) := by decide +kernel
theorem dX5_luck_78 : decode cX5_luck 78 = .ok (.iconst 1, 1) := by decide +kernel
theorem dX5_luck_79 : decode cX5_luck 79 = .ok (.iand, 1) := by decide +kernel
theorem dX5_luck_80 : decode cX5_luck 80 = .ok (.iconst 1, 1) := by decide +kernel
theorem dX5_luck_81 : decode cX5_luck 81 = .ok (.if_icmp .ne 7, 3) := by decide +kernel
theorem dX5_luck_84 : decode cX5_luck 84 = .ok (.iload_n 2, 1) := by decide +kernel
theorem dX5_luck_85 : decode cX5_luck 85 = .ok (.goto 7, 3) := by decide +kernel
theorem dX5_luck_88 : decode cX5_luck 88 = .ok (.bipush 10, 2) := by decide +kernel
theorem dX5_luck_90 : decode cX5_luck 90 = .ok (.iload_n 2, 1) := by decide +kernel
theorem dX5_luck_91 : decode cX5_luck 91 = .ok (.isub, 1) := by decide +kernel
theorem dX5_luck_92 : decode cX5_luck 92 = .ok (.imul, 1) := by decide +kernel
theorem dX5_luck_93 : decode cX5_luck 93 = .ok (.istore 7, 2) := by decide +kernel
theorem dX5_luck_95 : decode cX5_luck 95 = .ok (.iinc 8 1, 3) := by decide +kernel
theorem dX5_luck_98 : decode cX5_luck 98 = .ok (.goto (-38), 3) := by decide +kernel
theorem dX5_luck_101 : decode cX5_luck 101 = .ok (.iload 5, 2) := by decide +kernel
theorem dX5_luck_103 : decode cX5_luck 103 = .ok (.iload 7, 2) := by decide +kernel
theorem dX5_luck_105 : decode cX5_luck 105 = .ok (.iadd, 1) := by decide +kernel
theorem dX5_luck_106 : decode cX5_luck 106 = .ok (.istore 5, 2) := by decide +kernel
theorem dX5_luck_108 : decode cX5_luck 108 = .ok (.iload 4, 2) := by decide +kernel
theorem dX5_luck_110 : decode cX5_luck 110 = .ok (.aload_n 0, 1) := by decide +kernel
theorem dX5_luck_111 : decode cX5_luck 111 = .ok (.iload 6, 2) := by decide +kernel
theorem dX5_luck_113 : decode cX5_luck 113 = .ok (.invokevirtual 74, 3) := by decide +kernel
theorem dX5_luck_116 : decode cX5_luck 116 = .ok (.iload_n 1, 1) := by decide +kernel
theorem dX5_luck_117 : decode cX5_luck 117 = .ok (.if_icmp .ne 8, 3) := by decide +kernel
theorem dX5_luck_120 : decode cX5_luck 120 = .ok (.iload 7, 2) := by decide +kernel
theorem dX5_luck_122 : decode cX5_luck 122 = .ok (.goto 4, 3) := by decide +kernel
theorem dX5_luck_125 : decode cX5_luck 125 = .ok (.iconst 0, 1) := by decide +kernel
theorem dX5_luck_126 : decode cX5_luck 126 = .ok (.iadd, 1) := by decide +kernel
theorem dX5_luck_127 : decode cX5_luck 127 = .ok (.istore 4, 2) := by decide +kernel
theorem dX5_luck_129 : decode cX5_luck 129 = .ok (.iinc 6 1, 3) := by decide +kernel
theorem dX5_luck_132 : decode cX5_luck 132 = .ok (.goto (-91), 3) := by decide +kernel
theorem dX5_luck_135 : decode cX5_luck 135 = .ok (.iload 4, 2) := by decide +kernel
theorem dX5_luck_137 : decode cX5_luck 137 = .ok (.istore 6, 2) := by decide +kernel
theorem dX5_luck_139 : decode cX5_luck 139 = .ok (.iload 5, 2) := by decide +kernel
theorem dX5_luck_141 : decode cX5_luck 141 = .ok (.istore 7, 2) := by decide +kernel
theorem dX5_luck_143 : decode cX5_luck 143 = .ok (.iload 7, 2) := by decide +kernel
theorem dX5_luck_145 : decode cX5_luck 145 = .ok (.ifCond .eq 21, 3) := by decide +kernel
theorem dX5_luck_148 : decode cX5_luck 148 = .ok (.iload 6, 2) := by decide +kernel
theorem dX5_luck_150 : decode cX5_luck 150 = .ok (.iload 7, 2) := by decide +kernel
theorem dX5_luck_152 : decode cX5_luck 152 = .ok (.irem, 1) := by decide +kernel
theorem dX5_luck_153 : decode cX5_luck 153 = .ok (.istore 8, 2) := by decide +kernel
theorem dX5_luck_155 : decode cX5_luck 155 = .ok (.iload 7, 2) := by decide +kernel
theorem dX5_luck_157 : decode cX5_luck 157 = .ok (.istore 6, 2) := by decide +kernel
theorem dX5_luck_159 : decode cX5_luck 159 = .ok (.iload 8, 2) := by decide +kernel
theorem dX5_luck_161 : decode cX5_luck 161 = .ok (.istore 7, 2) := by decide +kernel
theorem dX5_luck_163 : decode cX5_luck 163 = .ok (.goto (-20), 3) := by decide +kernel
theorem dX5_luck_166 : decode cX5_luck 166 = .ok (.iload_n 3, 1) := by decide +kernel
theorem dX5_luck_167 : decode cX5_luck 167 = .ok (.ifCond .ne 11, 3) := by decide +kernel
theorem dX5_luck_170 : decode cX5_luck 170 = .ok (.iload 4, 2) := by decide +kernel
theorem dX5_luck_172 : decode cX5_luck 172 = .ok (.iload 6, 2) := by decide +kernel
theorem dX5_luck_174 : decode cX5_luck 174 = .ok (.idiv, 1) := by decide +kernel
theorem dX5_luck_175 : decode cX5_luck 175 = .ok (.goto 8, 3) := by decide +kernel
theorem dX5_luck_178 : decode cX5_luck 178 = .ok (.iload 5, 2) := by decide +kernel
theorem dX5_luck_180 : decode cX5_luck 180 = .ok (.iload 6, 2) := by decide +kernel
theorem dX5_luck_182 : decode cX5_luck 182 = .ok (.idiv, 1) := by decide +kernel
theorem dX5_luck_183 : decode cX5_luck 183 = .ok (.ireturn, 1) := by decide +kernel
theorem dX5_image_0 : decode cX5_image 0 = .ok (.iconst 0, 1) := by decide +kernel
theorem dX5_image_1 : decode cX5_image 1 = .ok (.istore_n 1, 1) := by decide +kernel
theorem dX5_image_2 : decode cX5_image 2 = .ok (.iload_n 1, 1) := by decide +kernel
theorem dX5_image_3 : decode cX5_image 3 = .ok (.bipush 39, 2) := by decide +kernel
theorem dX5_image_5 : decode cX5_image 5 = .ok (.if_icmp .ge 21, 3) := by decide +kernel
theorem dX5_image_8 : decode cX5_image 8 = .ok (.aload_n 0, 1) := by decide +kernel
theorem dX5_image_9 : decode cX5_image 9 = .ok (.getfield 25, 3) := by decide +kernel
theorem dX5_image_12 : decode cX5_image 12 = .ok (.iload_n 1, 1) := by decide +kernel
theorem dX5_image_13 : decode cX5_image 13 = .ok (.aload_n 0, 1) := by decide +kernel
theorem dX5_image_14 : decode cX5_image 14 = .ok (.getfield 7, 3) := by decide +kernel
theorem dX5_image_17 : decode cX5_image 17 = .ok (.iload_n 1, 1) := by decide +kernel
theorem dX5_image_18 : decode cX5_image 18 = .ok (.iaload, 1) := by decide +kernel
theorem dX5_image_19 : decode cX5_image 19 = .ok (.iastore, 1) := by decide +kernel
theorem dX5_image_20 : decode cX5_image 20 = .ok (.iinc 1 1, 3) := by decide +kernel
theorem dX5_image_23 : decode cX5_image 23 = .ok (.goto (-21), 3) := by decide +kernel
theorem dX5_image_26 : decode cX5_image 26 = .ok (.iconst 0, 1) := by decide +kernel
theorem dX5_image_27 : decode cX5_image 27 = .ok (.istore_n 1, 1) := by decide +kernel
theorem dX5_image_28 : decode cX5_image 28 = .ok (.iload_n 1, 1) := by decide +kernel
theorem dX5_image_29 : decode cX5_image 29 = .ok (.bipush 96, 2) := by decide +kernel
theorem dX5_image_31 : decode cX5_image 31 = .ok (.if_icmp .ge 24, 3) := by decide +kernel
theorem dX5_image_34 : decode cX5_image 34 = .ok (.aload_n 0, 1) := by decide +kernel
theorem dX5_image_35 : decode cX5_image 35 = .ok (.getfield 25, 3) := by decide +kernel
theorem dX5_image_38 : decode cX5_image 38 = .ok (.bipush 39, 2) := by decide +kernel
theorem dX5_image_40 : decode cX5_image 40 = .ok (.iload_n 1, 1) := by decide +kernel
theorem dX5_image_41 : decode cX5_image 41 = .ok (.iadd, 1) := by decide +kernel
theorem dX5_image_42 : decode cX5_image 42 = .ok (.aload_n 0, 1) := by decide +kernel
theorem dX5_image_43 : decode cX5_image 43 = .ok (.getfield 19, 3) := by decide +kernel
theorem dX5_image_46 : decode cX5_image 46 = .ok (.iload_n 1, 1) := by decide +kernel
theorem dX5_image_47 : decode cX5_image 47 = .ok (.iaload, 1) := by decide +kernel
theorem dX5_image_48 : decode cX5_image 48 = .ok (.iastore, 1) := by decide +kernel
theorem dX5_image_49 : decode cX5_image 49 = .ok (.iinc 1 1, 3) := by decide +kernel
theorem dX5_image_52 : decode cX5_image 52 = .ok (.goto (-24), 3) := by decide +kernel
theorem dX5_image_55 : decode cX5_image 55 = .ok (.aload_n 0, 1) := by decide +kernel
theorem dX5_image_56 : decode cX5_image 56 = .ok (.aload_n 0, 1) := by decide +kernel
theorem dX5_image_57 : decode cX5_image 57 = .ok (.getfield 45, 3) := by decide +kernel
theorem dX5_image_60 : decode cX5_image 60 = .ok (.putfield 187, 3) := by decide +kernel
theorem dX5_image_63 : decode cX5_image 63 = .ok (.aload_n 0, 1) := by decide +kernel
theorem dX5_image_64 : decode cX5_image 64 = .ok (.iconst 1, 1) := by decide +kernel
theorem dX5_image_65 : decode cX5_image 65 = .ok (.putfield 190, 3) := by decide +kernel
theorem dX5_image_68 : decode cX5_image 68 = .ok (.iconst 1, 1) := by decide +kernel
theorem dX5_image_69 : decode cX5_image 69 = .ok (.ireturn, 1) := by decide +kernel
theorem dX5_restore_0 : decode cX5_restore 0 = .ok (.aload_n 0, 1) := by decide +kernel
theorem dX5_restore_1 : decode cX5_restore 1 = .ok (.getfield 190, 3) := by decide +kernel
theorem dX5_restore_4 : decode cX5_restore 4 = .ok (.ifCond .ne 6, 3) := by decide +kernel
theorem dX5_restore_7 : decode cX5_restore 7 = .ok (.bipush (-4), 2) := by decide +kernel
theorem dX5_restore_9 : decode cX5_restore 9 = .ok (.ireturn, 1) := by decide +kernel
theorem dX5_restore_10 : decode cX5_restore 10 = .ok (.iconst 0, 1) := by decide +kernel
theorem dX5_restore_11 : decode cX5_restore 11 = .ok (.istore_n 1, 1) := by decide +kernel
theorem dX5_restore_12 : decode cX5_restore 12 = .ok (.iload_n 1, 1) := by decide +kernel
theorem dX5_restore_13 : decode cX5_restore 13 = .ok (.bipush 39, 2) := by decide +kernel
theorem dX5_restore_15 : decode cX5_restore 15 = .ok (.if_icmp .ge 21, 3) := by decide +kernel
theorem dX5_restore_18 : decode cX5_restore 18 = .ok (.aload_n 0, 1) := by decide +kernel
theorem dX5_restore_19 : decode cX5_restore 19 = .ok (.getfield 7, 3) := by decide +kernel
theorem dX5_restore_22 : decode cX5_restore 22 = .ok (.iload_n 1, 1) := by decide +kernel
theorem dX5_restore_23 : decode cX5_restore 23 = .ok (.aload_n 0, 1) := by decide +kernel
theorem dX5_restore_24 : decode cX5_restore 24 = .ok (.getfield 25, 3) := by decide +kernel
theorem dX5_restore_27 : decode cX5_restore 27 = .ok (.iload_n 1, 1) := by decide +kernel
theorem dX5_restore_28 : decode cX5_restore 28 = .ok (.iaload, 1) := by decide +kernel
theorem dX5_restore_29 : decode cX5_restore 29 = .ok (.iastore, 1) := by decide +kernel
theorem dX5_restore_30 : decode cX5_restore 30 = .ok (.iinc 1 1, 3) := by decide +kernel
theorem dX5_restore_33 : decode cX5_restore 33 = .ok (.goto (-21), 3) := by decide +kernel
theorem dX5_restore_36 : decode cX5_restore 36 = .ok (.iconst 0, 1) := by decide +kernel
theorem dX5_restore_37 : decode cX5_restore 37 = .ok (.istore_n 1, 1) := by decide +kernel
theorem dX5_restore_38 : decode cX5_restore 38 = .ok (.iload_n 1, 1) := by decide +kernel
theorem dX5_restore_39 : decode cX5_restore 39 = .ok (.bipush 96, 2) := by decide +kernel
theorem dX5_restore_41 : decode cX5_restore 41 = .ok (.if_icmp .ge 24, 3) := by decide +kernel
theorem dX5_restore_44 : decode cX5_restore 44 = .ok (.aload_n 0, 1) := by decide +kernel
theorem dX5_restore_45 : decode cX5_restore 45 = .ok (.getfield 19, 3) := by decide +kernel
theorem dX5_restore_48 : decode cX5_restore 48 = .ok (.iload_n 1, 1) := by decide +kernel
theorem dX5_restore_49 : decode cX5_restore 49 = .ok (.aload_n 0, 1) := by decide +kernel
theorem dX5_restore_50 : decode cX5_restore 50 = .ok (.getfield 25, 3) := by decide +kernel
theorem dX5_restore_53 : decode cX5_restore 53 = .ok (.bipush 39, 2) := by decide +kernel
theorem dX5_restore_55 : decode cX5_restore 55 = .ok (.iload_n 1, 1) := by decide +kernel
theorem dX5_restore_56 : decode cX5_restore 56 = .ok (.iadd, 1) := by decide +kernel
theorem dX5_restore_57 : decode cX5_restore 57 = .ok (.iaload, 1) := by decide +kernel
theorem dX5_restore_58 : decode cX5_restore 58 = .ok (.iastore, 1) := by decide +kernel
theorem dX5_restore_59 : decode cX5_restore 59 = .ok (.iinc 1 1, 3) := by decide +kernel
theorem dX5_restore_62 : decode cX5_restore 62 = .ok (.goto (-24), 3) := by decide +kernel
theorem dX5_restore_65 : decode cX5_restore 65 = .ok (.aload_n 0, 1) := by decide +kernel
theorem dX5_restore_66 : decode cX5_restore 66 = .ok (.aload_n 0, 1) := by decide +kernel
theorem dX5_restore_67 : decode cX5_restore 67 = .ok (.getfield 187, 3) := by decide +kernel
theorem dX5_restore_70 : decode cX5_restore 70 = .ok (.putfield 45, 3) := by decide +kernel
theorem dX5_restore_73 : decode cX5_restore 73 = .ok (.iconst 1, 1) := by decide +kernel
theorem dX5_restore_74 : decode cX5_restore 74 = .ok (.ireturn, 1) := by decide +kernel
theorem dX5_isSheet_0 : decode cX5_isSheet 0 = .ok (.iload_n 0, 1) := by decide +kernel
theorem dX5_isSheet_1 : decode cX5_isSheet 1 = .ok (.i2l, 1) := by decide +kernel
theorem dX5_isSheet_2 : decode cX5_isSheet 2 = .ok (.lconst 0, 1) := by decide +kernel
theorem dX5_isSheet_3 : decode cX5_isSheet 3 = .ok (.ldc2_w 159, 3) := by decide +kernel
theorem dX5_isSheet_6 : decode cX5_isSheet 6 = .ok (.invokestatic 49, 3) := by decide +kernel
theorem dX5_isSheet_9 : decode cX5_isSheet 9 = .ok (.ireturn, 1) := by decide +kernel
theorem dX5_isLane_0 : decode cX5_isLane 0 = .ok (.iload_n 0, 1) := by decide +kernel
theorem dX5_isLane_1 : decode cX5_isLane 1 = .ok (.i2l, 1) := by decide +kernel
theorem dX5_isLane_2 : decode cX5_isLane 2 = .ok (.lconst 0, 1) := by decide +kernel
theorem dX5_isLane_3 : decode cX5_isLane 3 = .ok (.ldc2_w 159, 3) := by decide +kernel
theorem dX5_isLane_6 : decode cX5_isLane 6 = .ok (.invokestatic 49, 3) := by decide +kernel
theorem dX5_isLane_9 : decode cX5_isLane 9 = .ok (.ireturn, 1) := by decide +kernel
theorem dX5_why_0 : decode cX5_why 0 = .ok (.aload_n 0, 1) := by decide +kernel
theorem dX5_why_1 : decode cX5_why 1 = .ok (.getfield 28, 3) := by decide +kernel
theorem dX5_why_4 : decode cX5_why 4 = .ok (.iload_n 1, 1) := by decide +kernel
theorem dX5_why_5 : decode cX5_why 5 = .ok (.iaload, 1) := by decide +kernel
theorem dX5_why_6 : decode cX5_why 6 = .ok (.ifCond .ge 6, 3) := by decide +kernel
theorem dX5_why_9 : decode cX5_why 9 = .ok (.bipush (-11), 2) := by decide +kernel
theorem dX5_why_11 : decode cX5_why 11 = .ok (.ireturn, 1) := by decide +kernel
theorem dX5_why_12 : decode cX5_why 12 = .ok (.aload_n 0, 1) := by decide +kernel
theorem dX5_why_13 : decode cX5_why 13 = .ok (.getfield 28, 3) := by decide +kernel
theorem dX5_why_16 : decode cX5_why 16 = .ok (.iload_n 1, 1) := by decide +kernel
theorem dX5_why_17 : decode cX5_why 17 = .ok (.iaload, 1) := by decide +kernel
theorem dX5_why_18 : decode cX5_why 18 = .ok (.iload_n 2, 1) := by decide +kernel
theorem dX5_why_19 : decode cX5_why 19 = .ok (.if_icmp .eq 6, 3) := by decide +kernel
theorem dX5_why_22 : decode cX5_why 22 = .ok (.bipush (-12), 2) := by decide +kernel
theorem dX5_why_24 : decode cX5_why 24 = .ok (.ireturn, 1) := by decide +kernel
theorem dX5_why_25 : decode cX5_why 25 = .ok (.iload_n 3, 1) := by decide +kernel
theorem dX5_why_26 : decode cX5_why 26 = .ok (.ifCond .lt 25, 3) := by decide +kernel
theorem dX5_why_29 : decode cX5_why 29 = .ok (.iload 4, 2) := by decide +kernel
theorem dX5_why_31 : decode cX5_why 31 = .ok (.ifCond .lt 20, 3) := by decide +kernel
theorem dX5_why_34 : decode cX5_why 34 = .ok (.iload_n 3, 1) := by decide +kernel
theorem dX5_why_35 : decode cX5_why 35 = .ok (.i2l, 1) := by decide +kernel
theorem dX5_why_36 : decode cX5_why 36 = .ok (.iload 4, 2) := by decide +kernel
theorem dX5_why_38 : decode cX5_why 38 = .ok (.i2l, 1) := by decide +kernel
theorem dX5_why_39 : decode cX5_why 39 = .ok (.ladd, 1) := by decide +kernel
theorem dX5_why_40 : decode cX5_why 40 = .ok (.aload_n 0, 1) := by decide +kernel
theorem dX5_why_41 : decode cX5_why 41 = .ok (.getfield 31, 3) := by decide +kernel
theorem dX5_why_44 : decode cX5_why 44 = .ok (.iload_n 1, 1) := by decide +kernel
theorem dX5_why_45 : decode cX5_why 45 = .ok (.iaload, 1) := by decide +kernel
theorem dX5_why_46 : decode cX5_why 46 = .ok (.i2l, 1) := by decide +kernel
theorem dX5_why_47 : decode cX5_why 47 = .ok (.lcmp, 1) := by decide +kernel
theorem dX5_why_48 : decode cX5_why 48 = .ok (.ifCond .le 8, 3) := by decide +kernel
theorem dX5_why_51 : decode cX5_why 51 = .ok (.bipush (-13), 2) := by decide +kernel
theorem dX5_why_53 : decode cX5_why 53 = .ok (.goto 4, 3) := by decide +kernel
theorem dX5_why_56 : decode cX5_why 56 = .ok (.iconst 0, 1) := by decide +kernel
theorem dX5_why_57 : decode cX5_why 57 = .ok (.ireturn, 1) := by decide +kernel
theorem dX5_seen_0 : decode cX5_seen 0 = .ok (.iload_n 1, 1) := by decide +kernel
theorem dX5_seen_1 : decode cX5_seen 1 = .ok (.invokestatic 193, 3) := by decide +kernel
theorem dX5_seen_4 : decode cX5_seen 4 = .ok (.ifCond .eq 34, 3) := by decide +kernel
theorem dX5_seen_7 : decode cX5_seen 7 = .ok (.iload_n 2, 1) := by decide +kernel
theorem dX5_seen_8 : decode cX5_seen 8 = .ok (.invokestatic 196, 3) := by decide +kernel
theorem dX5_seen_11 : decode cX5_seen 11 = .ok (.ifCond .eq 27, 3) := by decide +kernel
theorem dX5_seen_14 : decode cX5_seen 14 = .ok (.iload 4, 2) := by decide +kernel
theorem dX5_seen_16 : decode cX5_seen 16 = .ok (.i2l, 1) := by decide +kernel
theorem dX5_seen_17 : decode cX5_seen 17 = .ok (.lconst 1, 1) := by decide +kernel
theorem dX5_seen_18 : decode cX5_seen 18 = .ok (.ldc2_w 110, 3) := by decide +kernel
theorem dX5_seen_21 : decode cX5_seen 21 = .ok (.invokestatic 49, 3) := by decide +kernel
theorem dX5_seen_24 : decode cX5_seen 24 = .ok (.ifCond .eq 14, 3) := by decide +kernel
theorem dX5_seen_27 : decode cX5_seen 27 = .ok (.iload 5, 2) := by decide +kernel
theorem dX5_seen_29 : decode cX5_seen 29 = .ok (.i2l, 1) := by decide +kernel
theorem dX5_seen_30 : decode cX5_seen 30 = .ok (.lconst 0, 1) := by decide +kernel
theorem dX5_seen_31 : decode cX5_seen 31 = .ok (.lconst 1, 1) := by decide +kernel
theorem dX5_seen_32 : decode cX5_seen 32 = .ok (.invokestatic 49, 3) := by decide +kernel
theorem dX5_seen_35 : decode cX5_seen 35 = .ok (.ifCond .ne 5, 3) := by decide +kernel
theorem dX5_seen_38 : decode cX5_seen 38 = .ok (.iconst (-1), 1) := by decide +kernel
theorem dX5_seen_39 : decode cX5_seen 39 = .ok (.ireturn, 1) := by decide +kernel
theorem dX5_seen_40 : decode cX5_seen 40 = .ok (.aload_n 0, 1) := by decide +kernel
theorem dX5_seen_41 : decode cX5_seen 41 = .ok (.iload_n 1, 1) := by decide +kernel
theorem dX5_seen_42 : decode cX5_seen 42 = .ok (.iload_n 2, 1) := by decide +kernel
theorem dX5_seen_43 : decode cX5_seen 43 = .ok (.iload_n 3, 1) := by decide +kernel
theorem dX5_seen_44 : decode cX5_seen 44 = .ok (.iload 4, 2) := by decide +kernel
theorem dX5_seen_46 : decode cX5_seen 46 = .ok (.invokevirtual 199, 3) := by decide +kernel
theorem dX5_seen_49 : decode cX5_seen 49 = .ok (.istore 6, 2) := by decide +kernel
theorem dX5_seen_51 : decode cX5_seen 51 = .ok (.iload 6, 2) := by decide +kernel
theorem dX5_seen_53 : decode cX5_seen 53 = .ok (.ifCond .ge 6, 3) := by decide +kernel
theorem dX5_seen_56 : decode cX5_seen 56 = .ok (.iload 6, 2) := by decide +kernel
theorem dX5_seen_58 : decode cX5_seen 58 = .ok (.ireturn, 1) := by decide +kernel
theorem dX5_seen_59 : decode cX5_seen 59 = .ok (.iconst 0, 1) := by decide +kernel
theorem dX5_seen_60 : decode cX5_seen 60 = .ok (.istore 7, 2) := by decide +kernel
theorem dX5_seen_62 : decode cX5_seen 62 = .ok (.bipush (-4), 2) := by decide +kernel
theorem dX5_seen_64 : decode cX5_seen 64 = .ok (.istore 8, 2) := by decide +kernel
theorem dX5_seen_66 : decode cX5_seen 66 = .ok (.aload_n 0, 1) := by decide +kernel
theorem dX5_seen_67 : decode cX5_seen 67 = .ok (.invokevirtual 173, 3) := by decide +kernel
theorem dX5_seen_70 : decode cX5_seen 70 = .ok (.iconst 0, 1) := by decide +kernel
theorem dX5_seen_71 : decode cX5_seen 71 = .ok (.istore 9, 2) := by decide +kernel
theorem dX5_seen_73 : decode cX5_seen 73 = .ok (.iload 9, 2) := by decide +kernel
theorem dX5_seen_75 : decode cX5_seen 75 = .ok (.aload_n 0, 1) := by decide +kernel
theorem dX5_seen_76 : decode cX5_seen 76 = .ok (.invokevirtual 93, 3) := by decide +kernel
theorem dX5_seen_79 : decode cX5_seen 79 = .ok (.if_icmp .ge 116, 3) := by decide +kernel
theorem dX5_seen_82 : decode cX5_seen 82 = .ok (.aload_n 0, 1) := by decide +kernel
theorem dX5_seen_83 : decode cX5_seen 83 = .ok (.getfield 7, 3) := by decide +kernel
theorem dX5_seen_86 : decode cX5_seen 86 = .ok (.iconst 3, 1) := by decide +kernel
theorem dX5_seen_87 : decode cX5_seen 87 = .ok (.iload 9, 2) := by decide +kernel
theorem dX5_seen_89 : decode cX5_seen 89 = .ok (.iastore, 1) := by decide +kernel
theorem dX5_seen_90 : decode cX5_seen 90 = .ok (.iconst 1, 1) := by decide +kernel
theorem dX5_seen_91 : decode cX5_seen 91 = .ok (.istore 10, 2) := by decide +kernel
theorem dX5_seen_93 : decode cX5_seen 93 = .ok (.iconst 0, 1) := by decide +kernel
theorem dX5_seen_94 : decode cX5_seen 94 = .ok (.istore 11, 2) := by decide +kernel
theorem dX5_seen_96 : decode cX5_seen 96 = .ok (.iload 11, 2) := by decide +kernel
theorem dX5_seen_98 : decode cX5_seen 98 = .ok (.iload 4, 2) := by decide +kernel
theorem dX5_seen_100 : decode cX5_seen 100 = .ok (.if_icmp .ge 51, 3) := by decide +kernel
theorem dX5_seen_103 : decode cX5_seen 103 = .ok (.aload_n 0, 1) := by decide +kernel
theorem dX5_seen_104 : decode cX5_seen 104 = .ok (.invokevirtual 155, 3) := by decide +kernel
theorem dX5_seen_107 : decode cX5_seen 107 = .ok (.pop, 1) := by decide +kernel
theorem dX5_seen_108 : decode cX5_seen 108 = .ok (.iload 10, 2) := by decide +kernel
theorem dX5_seen_110 : decode cX5_seen 110 = .ok (.ifCond .eq 32, 3) := by decide +kernel
theorem dX5_seen_113 : decode cX5_seen 113 = .ok (.aload_n 0, 1) := by decide +kernel
theorem dX5_seen_114 : decode cX5_seen 114 = .ok (.getfield 7, 3) := by decide +kernel
theorem dX5_seen_117 : decode cX5_seen 117 = .ok (.iconst 3, 1) := by decide +kernel
theorem dX5_seen_118 : decode cX5_seen 118 = .ok (.iaload, 1) := by decide +kernel
theorem dX5_seen_119 : decode cX5_seen 119 = .ok (.i2l, 1) := by decide +kernel
theorem dX5_seen_120 : decode cX5_seen 120 = .ok (.aload_n 0, 1) := by decide +kernel
theorem dX5_seen_121 : decode cX5_seen 121 = .ok (.getfield 34, 3) := by decide +kernel
theorem dX5_seen_124 : decode cX5_seen 124 = .ok (.bipush 24, 2) := by decide +kernel
theorem dX5_seen_126 : decode cX5_seen 126 = .ok (.iload_n 1, 1) := by decide +kernel
theorem dX5_seen_127 : decode cX5_seen 127 = .ok (.imul, 1) := by decide +kernel
theorem dX5_seen_128 : decode cX5_seen 128 = .ok (.iload_n 3, 1) := by decide +kernel
theorem dX5_seen_129 : decode cX5_seen 129 = .ok (.iadd, 1) := by decide +kernel
theorem dX5_seen_130 : decode cX5_seen 130 = .ok (.iload 11, 2) := by decide +kernel
theorem dX5_seen_132 : decode cX5_seen 132 = .ok (.iadd, 1) := by decide +kernel
theorem dX5_seen_133 : decode cX5_seen 133 = .ok (.laload, 1) := by decide +kernel
theorem dX5_seen_134 : decode cX5_seen 134 = .ok (.lcmp, 1) := by decide +kernel
theorem dX5_seen_135 : decode cX5_seen 135 = .ok (.ifCond .ne 7, 3) := by decide +kernel
theorem dX5_seen_138 : decode cX5_seen 138 = .ok (.iconst 1, 1) := by decide +kernel
theorem dX5_seen_139 : decode cX5_seen 139 = .ok (.goto 4, 3) := by decide +kernel
theorem dX5_seen_142 : decode cX5_seen 142 = .ok (.iconst 0, 1) := by decide +kernel
theorem dX5_seen_143 : decode cX5_seen 143 = .ok (.istore 10, 2) := by decide +kernel
theorem dX5_seen_145 : decode cX5_seen 145 = .ok (.iinc 11 1, 3) := by decide +kernel
theorem dX5_seen_148 : decode cX5_seen 148 = .ok (.goto (-52), 3) := by decide +kernel
theorem dX5_seen_151 : decode cX5_seen 151 = .ok (.iload 10, 2) := by decide +kernel
theorem dX5_seen_153 : decode cX5_seen 153 = .ok (.ifCond .eq 13, 3) := by decide +kernel
theorem dX5_seen_156 : decode cX5_seen 156 = .ok (.iload 7, 2) := by decide +kernel
theorem dX5_seen_158 : decode cX5_seen 158 = .ok (.ifCond .ne 8, 3) := by decide +kernel
theorem dX5_seen_161 : decode cX5_seen 161 = .ok (.iload 9, 2) := by decide +kernel
theorem dX5_seen_163 : decode cX5_seen 163 = .ok (.goto 5, 3) := by decide +kernel
theorem dX5_seen_166 : decode cX5_seen 166 = .ok (.iload 8, 2) := by decide +kernel
theorem dX5_seen_168 : decode cX5_seen 168 = .ok (.istore 8, 2) := by decide +kernel
theorem dX5_seen_170 : decode cX5_seen 170 = .ok (.iload 7, 2) := by decide +kernel
theorem dX5_seen_172 : decode cX5_seen 172 = .ok (.iload 10, 2) := by decide +kernel
theorem dX5_seen_174 : decode cX5_seen 174 = .ok (.ifCond .eq 7, 3) := by decide +kernel
theorem dX5_seen_177 : decode cX5_seen 177 = .ok (.iconst 1, 1) := by decide +kernel
theorem dX5_seen_178 : decode cX5_seen 178 = .ok (.goto 4, 3) := by decide +kernel
theorem dX5_seen_181 : decode cX5_seen 181 = .ok (.iconst 0, 1) := by decide +kernel
theorem dX5_seen_182 : decode cX5_seen 182 = .ok (.iadd, 1) := by decide +kernel
theorem dX5_seen_183 : decode cX5_seen 183 = .ok (.istore 7, 2) := by decide +kernel
theorem dX5_seen_185 : decode cX5_seen 185 = .ok (.aload_n 0, 1) := by decide +kernel
theorem dX5_seen_186 : decode cX5_seen 186 = .ok (.invokevirtual 176, 3) := by decide +kernel
theorem dX5_seen_189 : decode cX5_seen 189 = .ok (.iinc 9 1, 3) := by decide +kernel
theorem dX5_seen_192 : decode cX5_seen 192 = .ok (.goto (-119), 3) := by decide +kernel
theorem dX5_seen_195 : decode cX5_seen 195 = .ok (.iload 5, 2) := by decide +kernel
theorem dX5_seen_197 : decode cX5_seen 197 = .ok (.ifCond .ne 8, 3) := by decide +kernel
theorem dX5_seen_200 : decode cX5_seen 200 = .ok (.iload 7, 2) := by decide +kernel
theorem dX5_seen_202 : decode cX5_seen 202 = .ok (.goto 5, 3) := by decide +kernel
theorem dX5_seen_205 : decode cX5_seen 205 = .ok (.iload 8, 2) := by decide +kernel
theorem dX5_seen_207 : decode cX5_seen 207 = .ok (.ireturn, 1) := by decide +kernel
theorem dX5_film_0 : decode cX5_film 0 = .ok (.iload_n 1, 1) := by decide +kernel
theorem dX5_film_1 : decode cX5_film 1 = .ok (.i2l, 1) := by decide +kernel
theorem dX5_film_2 : decode cX5_film 2 = .ok (.lconst 1, 1) := by decide +kernel
theorem dX5_film_3 : decode cX5_film 3 = .ok (.ldc2_w 203, 3) := by decide +kernel
theorem dX5_film_6 : decode cX5_film 6 = .ok (.invokestatic 49, 3) := by decide +kernel
theorem dX5_film_9 : decode cX5_film 9 = .ok (.ifCond .eq 17, 3) := by decide +kernel
theorem dX5_film_12 : decode cX5_film 12 = .ok (.iload_n 2, 1) := by decide +kernel
theorem dX5_film_13 : decode cX5_film 13 = .ok (.invokestatic 193, 3) := by decide +kernel
theorem dX5_film_16 : decode cX5_film 16 = .ok (.ifCond .eq 10, 3) := by decide +kernel
theorem dX5_film_19 : decode cX5_film 19 = .ok (.iload_n 3, 1) := by decide +kernel
theorem dX5_film_20 : decode cX5_film 20 = .ok (.invokestatic 196, 3) := by decide +kernel
theorem dX5_film_23 : decode cX5_film 23 = .ok (.ifCond .ne 5, 3) := by decide +kernel
theorem dX5_film_26 : decode cX5_film 26 = .ok (.iconst (-1), 1) := by decide +kernel
theorem dX5_film_27 : decode cX5_film 27 = .ok (.ireturn, 1) := by decide +kernel
theorem dX5_film_28 : decode cX5_film 28 = .ok (.aload_n 0, 1) := by decide +kernel
theorem dX5_film_29 : decode cX5_film 29 = .ok (.iload_n 2, 1) := by decide +kernel
theorem dX5_film_30 : decode cX5_film 30 = .ok (.iload_n 3, 1) := by decide +kernel
theorem dX5_film_31 : decode cX5_film 31 = .ok (.iload 4, 2) := by decide +kernel
theorem dX5_film_33 : decode cX5_film 33 = .ok (.iload_n 1, 1) := by decide +kernel
theorem dX5_film_34 : decode cX5_film 34 = .ok (.invokevirtual 199, 3) := by decide +kernel
theorem dX5_film_37 : decode cX5_film 37 = .ok (.istore 5, 2) := by decide +kernel
theorem dX5_film_39 : decode cX5_film 39 = .ok (.iload 5, 2) := by decide +kernel
theorem dX5_film_41 : decode cX5_film 41 = .ok (.ifCond .ge 6, 3) := by decide +kernel
theorem dX5_film_44 : decode cX5_film 44 = .ok (.iload 5, 2) := by decide +kernel
theorem dX5_film_46 : decode cX5_film 46 = .ok (.ireturn, 1) := by decide +kernel
theorem dX5_film_47 : decode cX5_film 47 = .ok (.aload_n 0, 1) := by decide +kernel
theorem dX5_film_48 : decode cX5_film 48 = .ok (.invokevirtual 173, 3) := by decide +kernel
theorem dX5_film_51 : decode cX5_film 51 = .ok (.iconst 0, 1) := by decide +kernel
theorem dX5_film_52 : decode cX5_film 52 = .ok (.istore 6, 2) := by decide +kernel
theorem dX5_film_54 : decode cX5_film 54 = .ok (.iload 6, 2) := by decide +kernel
theorem dX5_film_56 : decode cX5_film 56 = .ok (.iload_n 1, 1) := by decide +kernel
theorem dX5_film_57 : decode cX5_film 57 = .ok (.if_icmp .ge 36, 3) := by decide +kernel
theorem dX5_film_60 : decode cX5_film 60 = .ok (.aload_n 0, 1) := by decide +kernel
theorem dX5_film_61 : decode cX5_film 61 = .ok (.invokevirtual 155, 3) := by decide +kernel
theorem dX5_film_64 : decode cX5_film 64 = .ok (.pop, 1) := by decide +kernel
theorem dX5_film_65 : decode cX5_film 65 = .ok (.aload_n 0, 1) := by decide +kernel
theorem dX5_film_66 : decode cX5_film 66 = .ok (.getfield 34, 3) := by decide +kernel
theorem dX5_film_69 : decode cX5_film 69 = .ok (.bipush 24, 2) := by decide +kernel
theorem dX5_film_71 : decode cX5_film 71 = .ok (.iload_n 2, 1) := by decide +kernel
theorem dX5_film_72 : decode cX5_film 72 = .ok (.imul, 1) := by decide +kernel
theorem dX5_film_73 : decode cX5_film 73 = .ok (.iload 4, 2) := by decide +kernel
theorem dX5_film_75 : decode cX5_film 75 = .ok (.iadd, 1) := by decide +kernel
theorem dX5_film_76 : decode cX5_film 76 = .ok (.iload 6, 2) := by decide +kernel
theorem dX5_film_78 : decode cX5_film 78 = .ok (.iadd, 1) := by decide +kernel
theorem dX5_film_79 : decode cX5_film 79 = .ok (.aload_n 0, 1) := by decide +kernel
theorem dX5_film_80 : decode cX5_film 80 = .ok (.getfield 7, 3) := by decide +kernel
theorem dX5_film_83 : decode cX5_film 83 = .ok (.iconst 3, 1) := by decide +kernel
theorem dX5_film_84 : decode cX5_film 84 = .ok (.iaload, 1) := by decide +kernel
theorem dX5_film_85 : decode cX5_film 85 = .ok (.i2l, 1) := by decide +kernel
theorem dX5_film_86 : decode cX5_film 86 = .ok (.lastore, 1) := by decide +kernel
theorem dX5_film_87 : decode cX5_film 87 = .ok (.iinc 6 1, 3) := by decide +kernel
theorem dX5_film_90 : decode cX5_film 90 = .ok (.goto (-36), 3) := by decide +kernel
theorem dX5_film_93 : decode cX5_film 93 = .ok (.aload_n 0, 1) := by decide +kernel
theorem dX5_film_94 : decode cX5_film 94 = .ok (.invokevirtual 176, 3) := by decide +kernel
theorem dX5_film_97 : decode cX5_film 97 = .ok (.iload_n 1, 1) := by decide +kernel
theorem dX5_film_98 : decode cX5_film 98 = .ok (.ireturn, 1) := by decide +kernel
theorem dX5_sheet_0 : decode cX5_sheet 0 = .ok (.iload_n 1, 1) := by decide +kernel
theorem dX5_sheet_1 : decode cX5_sheet 1 = .ok (.invokestatic 193, 3) := by decide +kernel
theorem dX5_sheet_4 : decode cX5_sheet 4 = .ok (.ifCond .eq 16, 3) := by decide +kernel
theorem dX5_sheet_7 : decode cX5_sheet 7 = .ok (.iload_n 2, 1) := by decide +kernel
theorem dX5_sheet_8 : decode cX5_sheet 8 = .ok (.invokestatic 196, 3) := by decide +kernel
theorem dX5_sheet_11 : decode cX5_sheet 11 = .ok (.ifCond .eq 9, 3) := by decide +kernel
theorem dX5_sheet_14 : decode cX5_sheet 14 = .ok (.iload_n 3, 1) := by decide +kernel
theorem dX5_sheet_15 : decode cX5_sheet 15 = .ok (.bipush 24, 2) := by decide +kernel
theorem dX5_sheet_17 : decode cX5_sheet 17 = .ok (.if_icmp .le 5, 3) := by decide +kernel
theorem dX5_sheet_20 : decode cX5_sheet 20 = .ok (.iconst (-1), 1) := by decide +kernel
theorem dX5_sheet_21 : decode cX5_sheet 21 = .ok (.ireturn, 1) := by decide +kernel
theorem dX5_sheet_22 : decode cX5_sheet 22 = .ok (.iload_n 3, 1) := by decide +kernel
theorem dX5_sheet_23 : decode cX5_sheet 23 = .ok (.ifCond .ge 6, 3) := by decide +kernel
theorem dX5_sheet_26 : decode cX5_sheet 26 = .ok (.bipush (-14), 2) := by decide +kernel
theorem dX5_sheet_28 : decode cX5_sheet 28 = .ok (.ireturn, 1) := by decide +kernel
theorem dX5_sheet_29 : decode cX5_sheet 29 = .ok (.aload_n 0, 1) := by decide +kernel
theorem dX5_sheet_30 : decode cX5_sheet 30 = .ok (.getfield 28, 3) := by decide +kernel
theorem dX5_sheet_33 : decode cX5_sheet 33 = .ok (.iload_n 1, 1) := by decide +kernel
theorem dX5_sheet_34 : decode cX5_sheet 34 = .ok (.iload_n 2, 1) := by decide +kernel
theorem dX5_sheet_35 : decode cX5_sheet 35 = .ok (.iastore, 1) := by decide +kernel
theorem dX5_sheet_36 : decode cX5_sheet 36 = .ok (.aload_n 0, 1) := by decide +kernel
theorem dX5_sheet_37 : decode cX5_sheet 37 = .ok (.getfield 31, 3) := by decide +kernel
theorem dX5_sheet_40 : decode cX5_sheet 40 = .ok (.iload_n 1, 1) := by decide +kernel
theorem dX5_sheet_41 : decode cX5_sheet 41 = .ok (.iload_n 3, 1) := by decide +kernel
theorem dX5_sheet_42 : decode cX5_sheet 42 = .ok (.iastore, 1) := by decide +kernel
theorem dX5_sheet_43 : decode cX5_sheet 43 = .ok (.iconst 0, 1) := by decide +kernel
theorem dX5_sheet_44 : decode cX5_sheet 44 = .ok (.istore 4, 2) := by decide +kernel
theorem dX5_sheet_46 : decode cX5_sheet 46 = .ok (.iload 4, 2) := by decide +kernel
theorem dX5_sheet_48 : decode cX5_sheet 48 = .ok (.bipush 24, 2) := by decide +kernel
theorem dX5_sheet_50 : decode cX5_sheet 50 = .ok (.if_icmp .ge 22, 3) := by decide +kernel
theorem dX5_sheet_53 : decode cX5_sheet 53 = .ok (.aload_n 0, 1) := by decide +kernel
theorem dX5_sheet_54 : decode cX5_sheet 54 = .ok (.getfield 34, 3) := by decide +kernel
theorem dX5_sheet_57 : decode cX5_sheet 57 = .ok (.bipush 24, 2) := by decide +kernel
theorem dX5_sheet_59 : decode cX5_sheet 59 = .ok (.iload_n 1, 1) := by decide +kernel
theorem dX5_sheet_60 : decode cX5_sheet 60 = .ok (.imul, 1) := by decide +kernel
theorem dX5_sheet_61 : decode cX5_sheet 61 = .ok (.iload 4, 2) := by decide +kernel
theorem dX5_sheet_63 : decode cX5_sheet 63 = .ok (.iadd, 1) := by decide +kernel
theorem dX5_sheet_64 : decode cX5_sheet 64 = .ok (.lconst 0, 1) := by decide +kernel
theorem dX5_sheet_65 : decode cX5_sheet 65 = .ok (.lastore, 1) := by decide +kernel
theorem dX5_sheet_66 : decode cX5_sheet 66 = .ok (.iinc 4 1, 3) := by decide +kernel
theorem dX5_sheet_69 : decode cX5_sheet 69 = .ok (.goto (-23), 3) := by decide +kernel
theorem dX5_sheet_72 : decode cX5_sheet 72 = .ok (.iload_n 3, 1) := by decide +kernel
theorem dX5_sheet_73 : decode cX5_sheet 73 = .ok (.ireturn, 1) := by decide +kernel
theorem dX5_drop_0 : decode cX5_drop 0 = .ok (.iload_n 1, 1) := by decide +kernel
theorem dX5_drop_1 : decode cX5_drop 1 = .ok (.invokestatic 193, 3) := by decide +kernel
theorem dX5_drop_4 : decode cX5_drop 4 = .ok (.ifCond .ne 5, 3) := by decide +kernel
theorem dX5_drop_7 : decode cX5_drop 7 = .ok (.iconst (-1), 1) := by decide +kernel
theorem dX5_drop_8 : decode cX5_drop 8 = .ok (.ireturn, 1) := by decide +kernel
theorem dX5_drop_9 : decode cX5_drop 9 = .ok (.aload_n 0, 1) := by decide +kernel
theorem dX5_drop_10 : decode cX5_drop 10 = .ok (.getfield 28, 3) := by decide +kernel
theorem dX5_drop_13 : decode cX5_drop 13 = .ok (.iload_n 1, 1) := by decide +kernel
theorem dX5_drop_14 : decode cX5_drop 14 = .ok (.iaload, 1) := by decide +kernel
theorem dX5_drop_15 : decode cX5_drop 15 = .ok (.ifCond .ge 6, 3) := by decide +kernel
theorem dX5_drop_18 : decode cX5_drop 18 = .ok (.bipush (-11), 2) := by decide +kernel
theorem dX5_drop_20 : decode cX5_drop 20 = .ok (.ireturn, 1) := by decide +kernel
theorem dX5_drop_21 : decode cX5_drop 21 = .ok (.aload_n 0, 1) := by decide +kernel
theorem dX5_drop_22 : decode cX5_drop 22 = .ok (.getfield 28, 3) := by decide +kernel
theorem dX5_drop_25 : decode cX5_drop 25 = .ok (.iload_n 1, 1) := by decide +kernel
theorem dX5_drop_26 : decode cX5_drop 26 = .ok (.iconst (-1), 1) := by decide +kernel
theorem dX5_drop_27 : decode cX5_drop 27 = .ok (.iastore, 1) := by decide +kernel
theorem dX5_drop_28 : decode cX5_drop 28 = .ok (.aload_n 0, 1) := by decide +kernel
theorem dX5_drop_29 : decode cX5_drop 29 = .ok (.getfield 31, 3) := by decide +kernel
theorem dX5_drop_32 : decode cX5_drop 32 = .ok (.iload_n 1, 1) := by decide +kernel
theorem dX5_drop_33 : decode cX5_drop 33 = .ok (.iaload, 1) := by decide +kernel
theorem dX5_drop_34 : decode cX5_drop 34 = .ok (.ireturn, 1) := by decide +kernel
theorem dX5_item_0 : decode cX5_item 0 = .ok (.iload_n 1, 1) := by decide +kernel
theorem dX5_item_1 : decode cX5_item 1 = .ok (.invokestatic 193, 3) := by decide +kernel
theorem dX5_item_4 : decode cX5_item 4 = .ok (.ifCond .eq 10, 3) := by decide +kernel
theorem dX5_item_7 : decode cX5_item 7 = .ok (.iload_n 2, 1) := by decide +kernel
theorem dX5_item_8 : decode cX5_item 8 = .ok (.invokestatic 196, 3) := by decide +kernel
theorem dX5_item_11 : decode cX5_item 11 = .ok (.ifCond .ne 5, 3) := by decide +kernel
theorem dX5_item_14 : decode cX5_item 14 = .ok (.iconst (-1), 1) := by decide +kernel
theorem dX5_item_15 : decode cX5_item 15 = .ok (.ireturn, 1) := by decide +kernel
theorem dX5_item_16 : decode cX5_item 16 = .ok (.aload_n 0, 1) := by decide +kernel
theorem dX5_item_17 : decode cX5_item 17 = .ok (.iload_n 1, 1) := by decide +kernel
theorem dX5_item_18 : decode cX5_item 18 = .ok (.iload_n 2, 1) := by decide +kernel
theorem dX5_item_19 : decode cX5_item 19 = .ok (.iload_n 3, 1) := by decide +kernel
theorem dX5_item_20 : decode cX5_item 20 = .ok (.iconst 1, 1) := by decide +kernel
theorem dX5_item_21 : decode cX5_item 21 = .ok (.invokevirtual 199, 3) := by decide +kernel
theorem dX5_item_24 : decode cX5_item 24 = .ok (.istore 6, 2) := by decide +kernel
theorem dX5_item_26 : decode cX5_item 26 = .ok (.iload 6, 2) := by decide +kernel
theorem dX5_item_28 : decode cX5_item 28 = .ok (.ifCond .ge 6, 3) := by decide +kernel
theorem dX5_item_31 : decode cX5_item 31 = .ok (.iload 6, 2) := by decide +kernel
theorem dX5_item_33 : decode cX5_item 33 = .ok (.ireturn, 1) := by decide +kernel
theorem dX5_item_34 : decode cX5_item 34 = .ok (.aload_n 0, 1) := by decide +kernel
theorem dX5_item_35 : decode cX5_item 35 = .ok (.getfield 34, 3) := by decide +kernel
theorem dX5_item_38 : decode cX5_item 38 = .ok (.bipush 24, 2) := by decide +kernel
theorem dX5_item_40 : decode cX5_item 40 = .ok (.iload_n 1, 1) := by decide +kernel
theorem dX5_item_41 : decode cX5_item 41 = .ok (.imul, 1) := by decide +kernel
theorem dX5_item_42 : decode cX5_item 42 = .ok (.iload_n 3, 1) := by decide +kernel
theorem dX5_item_43 : decode cX5_item 43 = .ok (.iadd, 1) := by decide +kernel
theorem dX5_item_44 : decode cX5_item 44 = .ok (.iload_n 2, 1) := by decide +kernel
theorem dX5_item_45 : decode cX5_item 45 = .ok (.ifCond .ne 11, 3) := by decide +kernel
theorem dX5_item_48 : decode cX5_item 48 = .ok (.lload 4, 2) := by decide +kernel
theorem dX5_item_50 : decode cX5_item 50 = .ok (.l2i, 1) := by decide +kernel
theorem dX5_item_51 : decode cX5_item 51 = .ok (.i2b, 1) := by decide +kernel
theorem dX5_item_52 : decode cX5_item 52 = .ok (.i2l, 1) := by decide +kernel
theorem dX5_item_53 : decode cX5_item 53 = .ok (.goto 30, 3) := by decide +kernel
theorem dX5_item_56 : decode cX5_item 56 = .ok (.iload_n 2, 1) := by decide +kernel
theorem dX5_item_57 : decode cX5_item 57 = .ok (.iconst 1, 1) := by decide +kernel
theorem dX5_item_58 : decode cX5_item 58 = .ok (.if_icmp .ne 11, 3) := by decide +kernel
theorem dX5_item_61 : decode cX5_item 61 = .ok (.lload 4, 2) := by decide +kernel
theorem dX5_item_63 : decode cX5_item 63 = .ok (.l2i, 1) := by decide +kernel
theorem dX5_item_64 : decode cX5_item 64 = .ok (.i2s, 1) := by decide +kernel
theorem dX5_item_65 : decode cX5_item 65 = .ok (.i2l, 1) := by decide +kernel
theorem dX5_item_66 : decode cX5_item 66 = .ok (.goto 17, 3) := by decide +kernel
theorem dX5_item_69 : decode cX5_item 69 = .ok (.iload_n 2, 1) := by decide +kernel
theorem dX5_item_70 : decode cX5_item 70 = .ok (.iconst 2, 1) := by decide +kernel
theorem dX5_item_71 : decode cX5_item 71 = .ok (.if_icmp .ne 10, 3) := by decide +kernel
theorem dX5_item_74 : decode cX5_item 74 = .ok (.lload 4, 2) := by decide +kernel
theorem dX5_item_76 : decode cX5_item 76 = .ok (.l2i, 1) := by decide +kernel
theorem dX5_item_77 : decode cX5_item 77 = .ok (.i2l, 1) := by decide +kernel
theorem dX5_item_78 : decode cX5_item 78 = .ok (.goto 5, 3) := by decide +kernel
theorem dX5_item_81 : decode cX5_item 81 = .ok (.lload 4, 2) := by decide +kernel
theorem dX5_item_83 : decode cX5_item 83 = .ok (.lastore, 1) := by decide +kernel
theorem dX5_item_84 : decode cX5_item 84 = .ok (.iconst 1, 1) := by decide +kernel
theorem dX5_item_85 : decode cX5_item 85 = .ok (.ireturn, 1) := by decide +kernel
theorem dX5_copy_0 : decode cX5_copy 0 = .ok (.iload_n 1, 1) := by decide +kernel
theorem dX5_copy_1 : decode cX5_copy 1 = .ok (.invokestatic 193, 3) := by decide +kernel
theorem dX5_copy_4 : decode cX5_copy 4 = .ok (.ifCond .eq 10, 3) := by decide +kernel
theorem dX5_copy_7 : decode cX5_copy 7 = .ok (.iload_n 3, 1) := by decide +kernel
theorem dX5_copy_8 : decode cX5_copy 8 = .ok (.invokestatic 193, 3) := by decide +kernel
theorem dX5_copy_11 : decode cX5_copy 11 = .ok (.ifCond .ne 5, 3) := by decide +kernel
theorem dX5_copy_14 : decode cX5_copy 14 = .ok (.iconst (-1), 1) := by decide +kernel
theorem dX5_copy_15 : decode cX5_copy 15 = .ok (.ireturn, 1) := by decide +kernel
theorem dX5_copy_16 : decode cX5_copy 16 = .ok (.aload_n 0, 1) := by decide +kernel
theorem dX5_copy_17 : decode cX5_copy 17 = .ok (.getfield 28, 3) := by decide +kernel
theorem dX5_copy_20 : decode cX5_copy 20 = .ok (.iload_n 1, 1) := by decide +kernel
theorem dX5_copy_21 : decode cX5_copy 21 = .ok (.iaload, 1) := by decide +kernel
theorem dX5_copy_22 : decode cX5_copy 22 = .ok (.ifCond .lt 12, 3) := by decide +kernel
theorem dX5_copy_25 : decode cX5_copy 25 = .ok (.aload_n 0, 1) := by decide +kernel
theorem dX5_copy_26 : decode cX5_copy 26 = .ok (.getfield 28, 3) := by decide +kernel
theorem dX5_copy_29 : decode cX5_copy 29 = .ok (.iload_n 3, 1) := by decide +kernel
theorem dX5_copy_30 : decode cX5_copy 30 = .ok (.iaload, 1) := by decide +kernel
theorem dX5_copy_31 : decode cX5_copy 31 = .ok (.ifCond .ge 6, 3) := by decide +kernel
theorem dX5_copy_34 : decode cX5_copy 34 = .ok (.bipush (-11), 2) := by decide +kernel
theorem dX5_copy_36 : decode cX5_copy 36 = .ok (.ireturn, 1) := by decide +kernel
theorem dX5_copy_37 : decode cX5_copy 37 = .ok (.aload_n 0, 1) := by decide +kernel
theorem dX5_copy_38 : decode cX5_copy 38 = .ok (.iload_n 3, 1) := by decide +kernel
theorem dX5_copy_39 : decode cX5_copy 39 = .ok (.aload_n 0, 1) := by decide +kernel
theorem dX5_copy_40 : decode cX5_copy 40 = .ok (.getfield 28, 3) := by decide +kernel
theorem dX5_copy_43 : decode cX5_copy 43 = .ok (.iload_n 1, 1) := by decide +kernel
theorem dX5_copy_44 : decode cX5_copy 44 = .ok (.iaload, 1) := by decide +kernel
theorem dX5_copy_45 : decode cX5_copy 45 = .ok (.iload 4, 2) := by decide +kernel
theorem dX5_copy_47 : decode cX5_copy 47 = .ok (.iload 5, 2) := by decide +kernel
theorem dX5_copy_49 : decode cX5_copy 49 = .ok (.invokevirtual 199, 3) := by decide +kernel
theorem dX5_copy_52 : decode cX5_copy 52 = .ok (.istore 6, 2) := by decide +kernel
theorem dX5_copy_54 : decode cX5_copy 54 = .ok (.iload 6, 2) := by decide +kernel
theorem dX5_copy_56 : decode cX5_copy 56 = .ok (.ifCond .ne 20, 3) := by decide +kernel
theorem dX5_copy_59 : decode cX5_copy 59 = .ok (.aload_n 0, 1) := by decide +kernel
theorem dX5_copy_60 : decode cX5_copy 60 = .ok (.iload_n 1, 1) := by decide +kernel
theorem dX5_copy_61 : decode cX5_copy 61 = .ok (.aload_n 0, 1) := by decide +kernel
theorem dX5_copy_62 : decode cX5_copy 62 = .ok (.getfield 28, 3) := by decide +kernel
theorem dX5_copy_65 : decode cX5_copy 65 = .ok (.iload_n 1, 1) := by decide +kernel
theorem dX5_copy_66 : decode cX5_copy 66 = .ok (.iaload, 1) := by decide +kernel
theorem dX5_copy_67 : decode cX5_copy 67 = .ok (.iload_n 2, 1) := by decide +kernel
theorem dX5_copy_68 : decode cX5_copy 68 = .ok (.iload 5, 2) := by decide +kernel
theorem dX5_copy_70 : decode cX5_copy 70 = .ok (.invokevirtual 199, 3) := by decide +kernel
theorem dX5_copy_73 : decode cX5_copy 73 = .ok (.goto 5, 3) := by decide +kernel
theorem dX5_copy_76 : decode cX5_copy 76 = .ok (.iload 6, 2) := by decide +kernel
theorem dX5_copy_78 : decode cX5_copy 78 = .ok (.istore 6, 2) := by decide +kernel
theorem dX5_copy_80 : decode cX5_copy 80 = .ok (.iload 6, 2) := by decide +kernel
theorem dX5_copy_82 : decode cX5_copy 82 = .ok (.ifCond .ge 6, 3) := by decide +kernel
theorem dX5_copy_85 : decode cX5_copy 85 = .ok (.iload 6, 2) := by decide +kernel
theorem dX5_copy_87 : decode cX5_copy 87 = .ok (.ireturn, 1) := by decide +kernel
theorem dX5_copy_88 : decode cX5_copy 88 = .ok (.iconst 0, 1) := by decide +kernel
theorem dX5_copy_89 : decode cX5_copy 89 = .ok (.istore 7, 2) := by decide +kernel
theorem dX5_copy_91 : decode cX5_copy 91 = .ok (.iload 7, 2) := by decide +kernel
theorem dX5_copy_93 : decode cX5_copy 93 = .ok (.iload 5, 2) := by decide +kernel
theorem dX5_copy_95 : decode cX5_copy 95 = .ok (.if_icmp .ge 30, 3) := by decide +kernel
theorem dX5_copy_98 : decode cX5_copy 98 = .ok (.aload_n 0, 1) := by decide +kernel
theorem dX5_copy_99 : decode cX5_copy 99 = .ok (.getfield 38, 3) := by decide +kernel
theorem dX5_copy_102 : decode cX5_copy 102 = .ok (.iload 7, 2) := by decide +kernel
theorem dX5_copy_104 : decode cX5_copy 104 = .ok (.aload_n 0, 1) := by decide +kernel
theorem dX5_copy_105 : decode cX5_copy 105 = .ok (.getfield 34, 3) := by decide +kernel
theorem dX5_copy_108 : decode cX5_copy 108 = .ok (.bipush 24, 2) := by decide +kernel
theorem dX5_copy_110 : decode cX5_copy 110 = .ok (.iload_n 1, 1) := by decide +kernel
theorem dX5_copy_111 : decode cX5_copy 111 = .ok (.imul, 1) := by decide +kernel
theorem dX5_copy_112 : decode cX5_copy 112 = .ok (.iload_n 2, 1) := by decide +kernel
theorem dX5_copy_113 : decode cX5_copy 113 = .ok (.iadd, 1) := by decide +kernel
theorem dX5_copy_114 : decode cX5_copy 114 = .ok (.iload 7, 2) := by decide +kernel
theorem dX5_copy_116 : decode cX5_copy 116 = .ok (.iadd, 1) := by decide +kernel
theorem dX5_copy_117 : decode cX5_copy 117 = .ok (.laload, 1) := by decide +kernel
theorem dX5_copy_118 : decode cX5_copy 118 = .ok (.lastore, 1) := by decide +kernel
theorem dX5_copy_119 : decode cX5_copy 119 = .ok (.iinc 7 1, 3) := by decide +kernel
theorem dX5_copy_122 : decode cX5_copy 122 = .ok (.goto (-31), 3) := by decide +kernel
theorem dX5_copy_125 : decode cX5_copy 125 = .ok (.iconst 0, 1) := by decide +kernel
theorem dX5_copy_126 : decode cX5_copy 126 = .ok (.istore 7, 2) := by decide +kernel
theorem dX5_copy_128 : decode cX5_copy 128 = .ok (.iload 7, 2) := by decide +kernel
theorem dX5_copy_130 : decode cX5_copy 130 = .ok (.iload 5, 2) := by decide +kernel
theorem dX5_copy_132 : decode cX5_copy 132 = .ok (.if_icmp .ge 31, 3) := by decide +kernel
theorem dX5_copy_135 : decode cX5_copy 135 = .ok (.aload_n 0, 1) := by decide +kernel
theorem dX5_copy_136 : decode cX5_copy 136 = .ok (.getfield 34, 3) := by decide +kernel
theorem dX5_copy_139 : decode cX5_copy 139 = .ok (.bipush 24, 2) := by decide +kernel
theorem dX5_copy_141 : decode cX5_copy 141 = .ok (.iload_n 3, 1) := by decide +kernel
theorem dX5_copy_142 : decode cX5_copy 142 = .ok (.imul, 1) := by decide +kernel
theorem dX5_copy_143 : decode cX5_copy 143 = .ok (.iload 4, 2) := by decide +kernel
theorem dX5_copy_145 : decode cX5_copy 145 = .ok (.iadd, 1) := by decide +kernel
theorem dX5_copy_146 : decode cX5_copy 146 = .ok (.iload 7, 2) := by decide +kernel
theorem dX5_copy_148 : decode cX5_copy 148 = .ok (.iadd, 1) := by decide +kernel
theorem dX5_copy_149 : decode cX5_copy 149 = .ok (.aload_n 0, 1) := by decide +kernel
theorem dX5_copy_150 : decode cX5_copy 150 = .ok (.getfield 38, 3) := by decide +kernel
theorem dX5_copy_153 : decode cX5_copy 153 = .ok (.iload 7, 2) := by decide +kernel
theorem dX5_copy_155 : decode cX5_copy 155 = .ok (.laload, 1) := by decide +kernel
theorem dX5_copy_156 : decode cX5_copy 156 = .ok (.lastore, 1) := by decide +kernel
theorem dX5_copy_157 : decode cX5_copy 157 = .ok (.iinc 7 1, 3) := by decide +kernel
theorem dX5_copy_160 : decode cX5_copy 160 = .ok (.goto (-32), 3) := by decide +kernel
theorem dX5_copy_163 : decode cX5_copy 163 = .ok (.iload 5, 2) := by decide +kernel
theorem dX5_copy_165 : decode cX5_copy 165 = .ok (.ireturn, 1) := by decide +kernel
theorem dJ6_compare_7cf53_0 : decode cJ6_compare_7cf53 0 = .ok (.iload_n 0, 1) := by decide +kernel
theorem dJ6_compare_7cf53_1 : decode cJ6_compare_7cf53 1 = .ok (.iload_n 1, 1) := by decide +kernel
theorem dJ6_compare_7cf53_2 : decode cJ6_compare_7cf53 2 = .ok (.if_icmp .ge 7, 3) := by decide +kernel
theorem dJ6_compare_7cf53_5 : decode cJ6_compare_7cf53 5 = .ok (.iconst (-1), 1) := by decide +kernel
theorem dJ6_compare_7cf53_6 : decode cJ6_compare_7cf53 6 = .ok (.goto 13, 3) := by decide +kernel
theorem dJ6_compare_7cf53_9 : decode cJ6_compare_7cf53 9 = .ok (.iload_n 0, 1) := by decide +kernel
theorem dJ6_compare_7cf53_10 : decode cJ6_compare_7cf53 10 = .ok (.iload_n 1, 1) := by decide +kernel
theorem dJ6_compare_7cf53_11 : decode cJ6_compare_7cf53 11 = .ok (.if_icmp .ne 7, 3) := by decide +kernel
theorem dJ6_compare_7cf53_14 : decode cJ6_compare_7cf53 14 = .ok (.iconst 0, 1) := by decide +kernel
theorem dJ6_compare_7cf53_15 : decode cJ6_compare_7cf53 15 = .ok (.goto 4, 3) := by decide +kernel
theorem dJ6_compare_7cf53_18 : decode cJ6_compare_7cf53 18 = .ok (.iconst 1, 1) := by decide +kernel
theorem dJ6_compare_7cf53_19 : decode cJ6_compare_7cf53 19 = .ok (.ireturn, 1) := by decide +kernel
theorem dJ6_bitCount_0f7a4_0 : decode cJ6_bitCount_0f7a4 0 = .ok (.iload_n 0, 1) := by decide +kernel
theorem dJ6_bitCount_0f7a4_1 : decode cJ6_bitCount_0f7a4 1 = .ok (.iload_n 0, 1) := by decide +kernel
theorem dJ6_bitCount_0f7a4_2 : decode cJ6_bitCount_0f7a4 2 = .ok (.iconst 1, 1) := by decide +kernel
theorem dJ6_bitCount_0f7a4_3 : decode cJ6_bitCount_0f7a4 3 = .ok (.iushr, 1) := by decide +kernel
theorem dJ6_bitCount_0f7a4_4 : decode cJ6_bitCount_0f7a4 4 = .ok (.ldc_w 265, 3) := by decide +kernel
theorem dJ6_bitCount_0f7a4_7 : decode cJ6_bitCount_0f7a4 7 = .ok (.iand, 1) := by decide +kernel
theorem dJ6_bitCount_0f7a4_8 : decode cJ6_bitCount_0f7a4 8 = .ok (.isub, 1) := by decide +kernel
theorem dJ6_bitCount_0f7a4_9 : decode cJ6_bitCount_0f7a4 9 = .ok (.istore_n 0, 1) := by decide +kernel
theorem dJ6_bitCount_0f7a4_10 : decode cJ6_bitCount_0f7a4 10 = .ok (.iload_n 0, 1) := by decide +kernel
theorem dJ6_bitCount_0f7a4_11 : decode cJ6_bitCount_0f7a4 11 = .ok (.ldc_w 266, 3) := by decide +kernel
theorem dJ6_bitCount_0f7a4_14 : decode cJ6_bitCount_0f7a4 14 = .ok (.iand, 1) := by decide +kernel
theorem dJ6_bitCount_0f7a4_15 : decode cJ6_bitCount_0f7a4 15 = .ok (.iload_n 0, 1) := by decide +kernel
theorem dJ6_bitCount_0f7a4_16 : decode cJ6_bitCount_0f7a4 16 = .ok (.iconst 2, 1) := by decide +kernel
theorem dJ6_bitCount_0f7a4_17 : decode cJ6_bitCount_0f7a4 17 = .ok (.iushr, 1) := by decide +kernel
theorem dJ6_bitCount_0f7a4_18 : decode cJ6_bitCount_0f7a4 18 = .ok (.ldc_w 266, 3) := by decide +kernel
theorem dJ6_bitCount_0f7a4_21 : decode cJ6_bitCount_0f7a4 21 = .ok (.iand, 1) := by decide +kernel
theorem dJ6_bitCount_0f7a4_22 : decode cJ6_bitCount_0f7a4 22 = .ok (.iadd, 1) := by decide +kernel
theorem dJ6_bitCount_0f7a4_23 : decode cJ6_bitCount_0f7a4 23 = .ok (.istore_n 0, 1) := by decide +kernel
theorem dJ6_bitCount_0f7a4_24 : decode cJ6_bitCount_0f7a4 24 = .ok (.iload_n 0, 1) := by decide +kernel
theorem dJ6_bitCount_0f7a4_25 : decode cJ6_bitCount_0f7a4 25 = .ok (.iload_n 0, 1) := by decide +kernel
theorem dJ6_bitCount_0f7a4_26 : decode cJ6_bitCount_0f7a4 26 = .ok (.iconst 4, 1) := by decide +kernel
theorem dJ6_bitCount_0f7a4_27 : decode cJ6_bitCount_0f7a4 27 = .ok (.iushr, 1) := by decide +kernel
theorem dJ6_bitCount_0f7a4_28 : decode cJ6_bitCount_0f7a4 28 = .ok (.iadd, 1) := by decide +kernel
theorem dJ6_bitCount_0f7a4_29 : decode cJ6_bitCount_0f7a4 29 = .ok (.ldc_w 267, 3) := by decide +kernel
theorem dJ6_bitCount_0f7a4_32 : decode cJ6_bitCount_0f7a4 32 = .ok (.iand, 1) := by decide +kernel
theorem dJ6_bitCount_0f7a4_33 : decode cJ6_bitCount_0f7a4 33 = .ok (.istore_n 0, 1) := by decide +kernel
theorem dJ6_bitCount_0f7a4_34 : decode cJ6_bitCount_0f7a4 34 = .ok (.iload_n 0, 1) := by decide +kernel
theorem dJ6_bitCount_0f7a4_35 : decode cJ6_bitCount_0f7a4 35 = .ok (.iload_n 0, 1) := by decide +kernel
theorem dJ6_bitCount_0f7a4_36 : decode cJ6_bitCount_0f7a4 36 = .ok (.bipush 8, 2) := by decide +kernel
theorem dJ6_bitCount_0f7a4_38 : decode cJ6_bitCount_0f7a4 38 = .ok (.iushr, 1) := by decide +kernel
theorem dJ6_bitCount_0f7a4_39 : decode cJ6_bitCount_0f7a4 39 = .ok (.iadd, 1) := by decide +kernel
theorem dJ6_bitCount_0f7a4_40 : decode cJ6_bitCount_0f7a4 40 = .ok (.istore_n 0, 1) := by decide +kernel
theorem dJ6_bitCount_0f7a4_41 : decode cJ6_bitCount_0f7a4 41 = .ok (.iload_n 0, 1) := by decide +kernel
theorem dJ6_bitCount_0f7a4_42 : decode cJ6_bitCount_0f7a4 42 = .ok (.iload_n 0, 1) := by decide +kernel
theorem dJ6_bitCount_0f7a4_43 : decode cJ6_bitCount_0f7a4 43 = .ok (.bipush 16, 2) := by decide +kernel
theorem dJ6_bitCount_0f7a4_45 : decode cJ6_bitCount_0f7a4 45 = .ok (.iushr, 1) := by decide +kernel
theorem dJ6_bitCount_0f7a4_46 : decode cJ6_bitCount_0f7a4 46 = .ok (.iadd, 1) := by decide +kernel
theorem dJ6_bitCount_0f7a4_47 : decode cJ6_bitCount_0f7a4 47 = .ok (.istore_n 0, 1) := by decide +kernel
theorem dJ6_bitCount_0f7a4_48 : decode cJ6_bitCount_0f7a4 48 = .ok (.iload_n 0, 1) := by decide +kernel
theorem dJ6_bitCount_0f7a4_49 : decode cJ6_bitCount_0f7a4 49 = .ok (.bipush 63, 2) := by decide +kernel
theorem dJ6_bitCount_0f7a4_51 : decode cJ6_bitCount_0f7a4 51 = .ok (.iand, 1) := by decide +kernel
theorem dJ6_bitCount_0f7a4_52 : decode cJ6_bitCount_0f7a4 52 = .ok (.ireturn, 1) := by decide +kernel
theorem dJ0_length_8abf5_0 : decode cJ0_length_8abf5 0 = .ok (.aload_n 0, 1) := by decide +kernel
theorem dJ0_length_8abf5_1 : decode cJ0_length_8abf5 1 = .ok (.getfield 9, 3) := by decide +kernel
theorem dJ0_length_8abf5_4 : decode cJ0_length_8abf5 4 = .ok (.arraylength, 1) := by decide +kernel
theorem dJ0_length_8abf5_5 : decode cJ0_length_8abf5 5 = .ok (.aload_n 0, 1) := by decide +kernel
theorem dJ0_length_8abf5_6 : decode cJ0_length_8abf5 6 = .ok (.invokevirtual 335, 3) := by decide +kernel
theorem dJ0_length_8abf5_9 : decode cJ0_length_8abf5 9 = .ok (.ishr, 1) := by decide +kernel
theorem dJ0_length_8abf5_10 : decode cJ0_length_8abf5 10 = .ok (.ireturn, 1) := by decide +kernel
theorem dJ0_indexOf_0f7a4_0 : decode cJ0_indexOf_0f7a4 0 = .ok (.aload_n 0, 1) := by decide +kernel
theorem dJ0_indexOf_0f7a4_1 : decode cJ0_indexOf_0f7a4 1 = .ok (.iload_n 1, 1) := by decide +kernel
theorem dJ0_indexOf_0f7a4_2 : decode cJ0_indexOf_0f7a4 2 = .ok (.iconst 0, 1) := by decide +kernel
theorem dJ0_indexOf_0f7a4_3 : decode cJ0_indexOf_0f7a4 3 = .ok (.invokevirtual 633, 3) := by decide +kernel
theorem dJ0_indexOf_0f7a4_6 : decode cJ0_indexOf_0f7a4 6 = .ok (.ireturn, 1) := by decide +kernel
theorem dJ0_indexOf_7cf53_0 : decode cJ0_indexOf_7cf53 0 = .ok (.aload_n 0, 1) := by decide +kernel
theorem dJ0_indexOf_7cf53_1 : decode cJ0_indexOf_7cf53 1 = .ok (.invokevirtual 492, 3) := by decide +kernel
theorem dJ0_indexOf_7cf53_4 : decode cJ0_indexOf_7cf53 4 = .ok (.ifCond .eq 19, 3) := by decide +kernel
theorem dJ0_indexOf_7cf53_7 : decode cJ0_indexOf_7cf53 7 = .ok (.aload_n 0, 1) := by decide +kernel
theorem dJ0_indexOf_7cf53_8 : decode cJ0_indexOf_7cf53 8 = .ok (.getfield 9, 3) := by decide +kernel
theorem dJ0_indexOf_7cf53_11 : decode cJ0_indexOf_7cf53 11 = .ok (.iload_n 1, 1) := by decide +kernel
theorem dJ0_indexOf_7cf53_12 : decode cJ0_indexOf_7cf53 12 = .ok (.iload_n 2, 1) := by decide +kernel
theorem dJ0_indexOf_7cf53_13 : decode cJ0_indexOf_7cf53 13 = .ok (.aload_n 0, 1) := by decide +kernel
theorem dJ0_indexOf_7cf53_14 : decode cJ0_indexOf_7cf53 14 = .ok (.invokevirtual 505, 3) := by decide +kernel
theorem dJ0_indexOf_7cf53_17 : decode cJ0_indexOf_7cf53 17 = .ok (.invokestatic 637, 3) := by decide +kernel
theorem dJ0_indexOf_7cf53_20 : decode cJ0_indexOf_7cf53 20 = .ok (.goto 16, 3) := by decide +kernel
theorem dJ0_indexOf_7cf53_23 : decode cJ0_indexOf_7cf53 23 = .ok (.aload_n 0, 1) := by decide +kernel
theorem dJ0_indexOf_7cf53_24 : decode cJ0_indexOf_7cf53 24 = .ok (.getfield 9, 3) := by decide +kernel
theorem dJ0_indexOf_7cf53_27 : decode cJ0_indexOf_7cf53 27 = .ok (.iload_n 1, 1) := by decide +kernel
theorem dJ0_indexOf_7cf53_28 : decode cJ0_indexOf_7cf53 28 = .ok (.iload_n 2, 1) := by decide +kernel
theorem dJ0_indexOf_7cf53_29 : decode cJ0_indexOf_7cf53 29 = .ok (.aload_n 0, 1) := by decide +kernel
theorem dJ0_indexOf_7cf53_30 : decode cJ0_indexOf_7cf53 30 = .ok (.invokevirtual 505, 3) := by decide +kernel
theorem dJ0_indexOf_7cf53_33 : decode cJ0_indexOf_7cf53 33 = .ok (.invokestatic 640, 3) := by decide +kernel
theorem dJ0_indexOf_7cf53_36 : decode cJ0_indexOf_7cf53 36 = .ok (.ireturn, 1) := by decide +kernel
theorem dJ0_coder_7d493_0 : decode cJ0_coder_7d493 0 = .ok (.getstatic 38, 3) := by decide +kernel
theorem dJ0_coder_7d493_3 : decode cJ0_coder_7d493 3 = .ok (.ifCond .eq 10, 3) := by decide +kernel
theorem dJ0_coder_7d493_6 : decode cJ0_coder_7d493 6 = .ok (.aload_n 0, 1) := by decide +kernel
theorem dJ0_coder_7d493_7 : decode cJ0_coder_7d493 7 = .ok (.getfield 15, 3) := by decide +kernel
theorem dJ0_coder_7d493_10 : decode cJ0_coder_7d493 10 = .ok (.goto 4, 3) := by decide +kernel
theorem dJ0_coder_7d493_13 : decode cJ0_coder_7d493 13 = .ok (.iconst 1, 1) := by decide +kernel
theorem dJ0_coder_7d493_14 : decode cJ0_coder_7d493 14 = .ok (.ireturn, 1) := by decide +kernel
theorem dJ0_isLatin1_aae02_0 : decode cJ0_isLatin1_aae02 0 = .ok (.getstatic 38, 3) := by decide +kernel
theorem dJ0_isLatin1_aae02_3 : decode cJ0_isLatin1_aae02 3 = .ok (.ifCond .eq 14, 3) := by decide +kernel
theorem dJ0_isLatin1_aae02_6 : decode cJ0_isLatin1_aae02 6 = .ok (.aload_n 0, 1) := by decide +kernel
theorem dJ0_isLatin1_aae02_7 : decode cJ0_isLatin1_aae02 7 = .ok (.getfield 15, 3) := by decide +kernel
theorem dJ0_isLatin1_aae02_10 : decode cJ0_isLatin1_aae02 10 = .ok (.ifCond .ne 7, 3) := by decide +kernel
theorem dJ0_isLatin1_aae02_13 : decode cJ0_isLatin1_aae02 13 = .ok (.iconst 1, 1) := by decide +kernel
theorem dJ0_isLatin1_aae02_14 : decode cJ0_isLatin1_aae02 14 = .ok (.goto 4, 3) := by decide +kernel
theorem dJ0_isLatin1_aae02_17 : decode cJ0_isLatin1_aae02 17 = .ok (.iconst 0, 1) := by decide +kernel
theorem dJ0_isLatin1_aae02_18 : decode cJ0_isLatin1_aae02 18 = .ok (.ireturn, 1) := by decide +kernel
theorem dJ0_checkBoundsBeginEnd_23922_0 : decode cJ0_checkBoundsBeginEnd_23922 0 = .ok (.iload_n 0, 1) := by decide +kernel
theorem dJ0_checkBoundsBeginEnd_23922_1 : decode cJ0_checkBoundsBeginEnd_23922 1 = .ok (.iload_n 1, 1) := by decide +kernel
theorem dJ0_checkBoundsBeginEnd_23922_2 : decode cJ0_checkBoundsBeginEnd_23922 2 = .ok (.iload_n 2, 1) := by decide +kernel
theorem dJ0_checkBoundsBeginEnd_23922_3 : decode cJ0_checkBoundsBeginEnd_23922 3 = .ok (.getstatic 1053, 3) := by decide +kernel
theorem dJ0_checkBoundsBeginEnd_23922_6 : decode cJ0_checkBoundsBeginEnd_23922 6 = .ok (.invokestatic 1062, 3) := by decide +kernel
theorem dJ0_checkBoundsBeginEnd_23922_9 : decode cJ0_checkBoundsBeginEnd_23922 9 = .ok (.pop, 1) := by decide +kernel
theorem dJ0_checkBoundsBeginEnd_23922_10 : decode cJ0_checkBoundsBeginEnd_23922 10 = .ok (.return_, 1) := by decide +kernel
theorem dJ1_canEncode_9a6ad_0 : decode cJ1_canEncode_9a6ad 0 = .ok (.iload_n 0, 1) := by decide +kernel
theorem dJ1_canEncode_9a6ad_1 : decode cJ1_canEncode_9a6ad 1 = .ok (.ifCond .lt 14, 3) := by decide +kernel
theorem dJ1_canEncode_9a6ad_4 : decode cJ1_canEncode_9a6ad 4 = .ok (.iload_n 0, 1) := by decide +kernel
theorem dJ1_canEncode_9a6ad_5 : decode cJ1_canEncode_9a6ad 5 = .ok (.sipush 255, 3) := by decide +kernel
theorem dJ1_canEncode_9a6ad_8 : decode cJ1_canEncode_9a6ad 8 = .ok (.if_icmp .gt 7, 3) := by decide +kernel
theorem dJ1_canEncode_9a6ad_11 : decode cJ1_canEncode_9a6ad 11 = .ok (.iconst 1, 1) := by decide +kernel
theorem dJ1_canEncode_9a6ad_12 : decode cJ1_canEncode_9a6ad 12 = .ok (.goto 4, 3) := by decide +kernel
theorem dJ1_canEncode_9a6ad_15 : decode cJ1_canEncode_9a6ad 15 = .ok (.iconst 0, 1) := by decide +kernel
theorem dJ1_canEncode_9a6ad_16 : decode cJ1_canEncode_9a6ad 16 = .ok (.ireturn, 1) := by decide +kernel
theorem dJ1_indexOf_4cfef_0 : decode cJ1_indexOf_4cfef 0 = .ok (.iload_n 1, 1) := by decide +kernel
theorem dJ1_indexOf_4cfef_1 : decode cJ1_indexOf_4cfef 1 = .ok (.invokestatic 88, 3) := by decide +kernel
theorem dJ1_indexOf_4cfef_4 : decode cJ1_indexOf_4cfef 4 = .ok (.ifCond .ne 5, 3) := by decide +kernel
theorem dJ1_indexOf_4cfef_7 : decode cJ1_indexOf_4cfef 7 = .ok (.iconst (-1), 1) := by decide +kernel
theorem dJ1_indexOf_4cfef_8 : decode cJ1_indexOf_4cfef 8 = .ok (.ireturn, 1) := by decide +kernel
theorem dJ1_indexOf_4cfef_9 : decode cJ1_indexOf_4cfef 9 = .ok (.iload_n 2, 1) := by decide +kernel
theorem dJ1_indexOf_4cfef_10 : decode cJ1_indexOf_4cfef 10 = .ok (.iconst 0, 1) := by decide +kernel
theorem dJ1_indexOf_4cfef_11 : decode cJ1_indexOf_4cfef 11 = .ok (.invokestatic 92, 3) := by decide +kernel
theorem dJ1_indexOf_4cfef_14 : decode cJ1_indexOf_4cfef 14 = .ok (.istore_n 2, 1) := by decide +kernel
theorem dJ1_indexOf_4cfef_15 : decode cJ1_indexOf_4cfef 15 = .ok (.iload_n 3, 1) := by decide +kernel
theorem dJ1_indexOf_4cfef_16 : decode cJ1_indexOf_4cfef 16 = .ok (.aload_n 0, 1) := by decide +kernel
theorem dJ1_indexOf_4cfef_17 : decode cJ1_indexOf_4cfef 17 = .ok (.arraylength, 1) := by decide +kernel
theorem dJ1_indexOf_4cfef_18 : decode cJ1_indexOf_4cfef 18 = .ok (.invokestatic 38, 3) := by decide +kernel
theorem dJ1_indexOf_4cfef_21 : decode cJ1_indexOf_4cfef 21 = .ok (.istore_n 3, 1) := by decide +kernel
theorem dJ1_indexOf_4cfef_22 : decode cJ1_indexOf_4cfef 22 = .ok (.iload_n 2, 1) := by decide +kernel
theorem dJ1_indexOf_4cfef_23 : decode cJ1_indexOf_4cfef 23 = .ok (.iload_n 3, 1) := by decide +kernel
theorem dJ1_indexOf_4cfef_24 : decode cJ1_indexOf_4cfef 24 = .ok (.if_icmp .lt 5, 3) := by decide +kernel
theorem dJ1_indexOf_4cfef_27 : decode cJ1_indexOf_4cfef 27 = .ok (.iconst (-1), 1) := by decide +kernel
theorem dJ1_indexOf_4cfef_28 : decode cJ1_indexOf_4cfef 28 = .ok (.ireturn, 1) := by decide +kernel
theorem dJ1_indexOf_4cfef_29 : decode cJ1_indexOf_4cfef 29 = .ok (.aload_n 0, 1) := by decide +kernel
theorem dJ1_indexOf_4cfef_30 : decode cJ1_indexOf_4cfef 30 = .ok (.iload_n 1, 1) := by decide +kernel
theorem dJ1_indexOf_4cfef_31 : decode cJ1_indexOf_4cfef 31 = .ok (.iload_n 2, 1) := by decide +kernel
theorem dJ1_indexOf_4cfef_32 : decode cJ1_indexOf_4cfef 32 = .ok (.iload_n 3, 1) := by decide +kernel
theorem dJ1_indexOf_4cfef_33 : decode cJ1_indexOf_4cfef 33 = .ok (.invokestatic 95, 3) := by decide +kernel
theorem dJ1_indexOf_4cfef_36 : decode cJ1_indexOf_4cfef 36 = .ok (.ireturn, 1) := by decide +kernel
theorem dJ1_indexOfChar_4cfef_0 : decode cJ1_indexOfChar_4cfef 0 = .ok (.iload_n 1, 1) := by decide +kernel
theorem dJ1_indexOfChar_4cfef_1 : decode cJ1_indexOfChar_4cfef 1 = .ok (.i2b, 1) := by decide +kernel
theorem dJ1_indexOfChar_4cfef_2 : decode cJ1_indexOfChar_4cfef 2 = .ok (.istore 4, 2) := by decide +kernel
theorem dJ1_indexOfChar_4cfef_4 : decode cJ1_indexOfChar_4cfef 4 = .ok (.iload_n 2, 1) := by decide +kernel
theorem dJ1_indexOfChar_4cfef_5 : decode cJ1_indexOfChar_4cfef 5 = .ok (.istore 5, 2) := by decide +kernel
theorem dJ1_indexOfChar_4cfef_7 : decode cJ1_indexOfChar_4cfef 7 = .ok (.iload 5, 2) := by decide +kernel
theorem dJ1_indexOfChar_4cfef_9 : decode cJ1_indexOfChar_4cfef 9 = .ok (.iload_n 3, 1) := by decide +kernel
theorem dJ1_indexOfChar_4cfef_10 : decode cJ1_indexOfChar_4cfef 10 = .ok (.if_icmp .ge 21, 3) := by decide +kernel
theorem dJ1_indexOfChar_4cfef_13 : decode cJ1_indexOfChar_4cfef 13 = .ok (.aload_n 0, 1) := by decide +kernel
theorem dJ1_indexOfChar_4cfef_14 : decode cJ1_indexOfChar_4cfef 14 = .ok (.iload 5, 2) := by decide +kernel
theorem dJ1_indexOfChar_4cfef_16 : decode cJ1_indexOfChar_4cfef 16 = .ok (.baload, 1) := by decide +kernel
theorem dJ1_indexOfChar_4cfef_17 : decode cJ1_indexOfChar_4cfef 17 = .ok (.iload 4, 2) := by decide +kernel
theorem dJ1_indexOfChar_4cfef_19 : decode cJ1_indexOfChar_4cfef 19 = .ok (.if_icmp .ne 6, 3) := by decide +kernel
theorem dJ1_indexOfChar_4cfef_22 : decode cJ1_indexOfChar_4cfef 22 = .ok (.iload 5, 2) := by decide +kernel
theorem dJ1_indexOfChar_4cfef_24 : decode cJ1_indexOfChar_4cfef 24 = .ok (.ireturn, 1) := by decide +kernel
theorem dJ1_indexOfChar_4cfef_25 : decode cJ1_indexOfChar_4cfef 25 = .ok (.iinc 5 1, 3) := by decide +kernel
theorem dJ1_indexOfChar_4cfef_28 : decode cJ1_indexOfChar_4cfef 28 = .ok (.goto (-21), 3) := by decide +kernel
theorem dJ1_indexOfChar_4cfef_31 : decode cJ1_indexOfChar_4cfef 31 = .ok (.iconst (-1), 1) := by decide +kernel
theorem dJ1_indexOfChar_4cfef_32 : decode cJ1_indexOfChar_4cfef 32 = .ok (.ireturn, 1) := by decide +kernel
theorem dL_law_0 : decode cL_law 0 = .ok (.new 7, 3) := by decide +kernel
theorem dL_law_3 : decode cL_law 3 = .ok (.dup, 1) := by decide +kernel
theorem dL_law_4 : decode cL_law 4 = .ok (.invokespecial 9, 3) := by decide +kernel
theorem dL_law_7 : decode cL_law 7 = .ok (.astore_n 1, 1) := by decide +kernel
theorem dL_law_8 : decode cL_law 8 = .ok (.new 10, 3) := by decide +kernel
theorem dL_law_11 : decode cL_law 11 = .ok (.dup, 1) := by decide +kernel
theorem dL_law_12 : decode cL_law 12 = .ok (.invokespecial 12, 3) := by decide +kernel
theorem dL_law_15 : decode cL_law 15 = .ok (.astore_n 2, 1) := by decide +kernel
theorem dL_law_16 : decode cL_law 16 = .ok (.iconst 0, 1) := by decide +kernel
theorem dL_law_17 : decode cL_law 17 = .ok (.istore_n 3, 1) := by decide +kernel
theorem dL_law_18 : decode cL_law 18 = .ok (.iload_n 3, 1) := by decide +kernel
theorem dL_law_19 : decode cL_law 19 = .ok (.aload_n 0, 1) := by decide +kernel
theorem dL_law_20 : decode cL_law 20 = .ok (.arraylength, 1) := by decide +kernel
theorem dL_law_21 : decode cL_law 21 = .ok (.bipush 6, 2) := by decide +kernel
theorem dL_law_23 : decode cL_law 23 = .ok (.isub, 1) := by decide +kernel
theorem dL_law_24 : decode cL_law 24 = .ok (.if_icmp .gt 1123, 3) := by decide +kernel
theorem dL_law_27 : decode cL_law 27 = .ok (.aload_n 0, 1) := by decide +kernel
theorem dL_law_28 : decode cL_law 28 = .ok (.iload_n 3, 1) := by decide +kernel
theorem dL_law_29 : decode cL_law 29 = .ok (.iaload, 1) := by decide +kernel
theorem dL_law_30 : decode cL_law 30 = .ok (.bipush 31, 2) := by decide +kernel
theorem dL_law_32 : decode cL_law 32 = .ok (.iand, 1) := by decide +kernel
theorem dL_law_33 : decode cL_law 33 = .ok (.tableswitch 1108 0 28 #[131, 164, 217, 250, 293, 316, 329, 352, 375, 408, 431, 454, 467, 490, 523, 546, 579, 612, 645, 678, 711, 754, 767, 780, 843, 896, 939, 962, 1045], 131) := by decide +kernel
theorem dL_law_164 : decode cL_law 164 = .ok (.aload_n 1, 1) := by decide +kernel
theorem dL_law_165 : decode cL_law 165 = .ok (.aload_n 0, 1) := by decide +kernel
theorem dL_law_166 : decode cL_law 166 = .ok (.iload_n 3, 1) := by decide +kernel
theorem dL_law_167 : decode cL_law 167 = .ok (.iconst 1, 1) := by decide +kernel
theorem dL_law_168 : decode cL_law 168 = .ok (.iadd, 1) := by decide +kernel
theorem dL_law_169 : decode cL_law 169 = .ok (.iaload, 1) := by decide +kernel
theorem dL_law_170 : decode cL_law 170 = .ok (.aload_n 0, 1) := by decide +kernel
theorem dL_law_171 : decode cL_law 171 = .ok (.iload_n 3, 1) := by decide +kernel
theorem dL_law_172 : decode cL_law 172 = .ok (.iconst 2, 1) := by decide +kernel
theorem dL_law_173 : decode cL_law 173 = .ok (.iadd, 1) := by decide +kernel
theorem dL_law_174 : decode cL_law 174 = .ok (.iaload, 1) := by decide +kernel
theorem dL_law_175 : decode cL_law 175 = .ok (.invokevirtual 13, 3) := by decide +kernel
theorem dL_law_178 : decode cL_law 178 = .ok (.aload_n 2, 1) := by decide +kernel
theorem dL_law_179 : decode cL_law 179 = .ok (.aload_n 0, 1) := by decide +kernel
theorem dL_law_180 : decode cL_law 180 = .ok (.iload_n 3, 1) := by decide +kernel
theorem dL_law_181 : decode cL_law 181 = .ok (.iconst 1, 1) := by decide +kernel
theorem dL_law_182 : decode cL_law 182 = .ok (.iadd, 1) := by decide +kernel
theorem dL_law_183 : decode cL_law 183 = .ok (.iaload, 1) := by decide +kernel
theorem dL_law_184 : decode cL_law 184 = .ok (.aload_n 0, 1) := by decide +kernel
theorem dL_law_185 : decode cL_law 185 = .ok (.iload_n 3, 1) := by decide +kernel
theorem dL_law_186 : decode cL_law 186 = .ok (.iconst 2, 1) := by decide +kernel
theorem dL_law_187 : decode cL_law 187 = .ok (.iadd, 1) := by decide +kernel
theorem dL_law_188 : decode cL_law 188 = .ok (.iaload, 1) := by decide +kernel
theorem dL_law_189 : decode cL_law 189 = .ok (.invokevirtual 17, 3) := by decide +kernel
theorem dL_law_192 : decode cL_law 192 = .ok (.if_icmp .eq 949, 3) := by decide +kernel
theorem dL_law_195 : decode cL_law 195 = .ok (.iconst 0, 1) := by decide +kernel
theorem dL_law_196 : decode cL_law 196 = .ok (.ireturn, 1) := by decide +kernel
theorem dL_law_197 : decode cL_law 197 = .ok (.aload_n 1, 1) := by decide +kernel
theorem dL_law_198 : decode cL_law 198 = .ok (.aload_n 0, 1) := by decide +kernel
theorem dL_law_199 : decode cL_law 199 = .ok (.iload_n 3, 1) := by decide +kernel
theorem dL_law_200 : decode cL_law 200 = .ok (.iconst 1, 1) := by decide +kernel
theorem dL_law_201 : decode cL_law 201 = .ok (.iadd, 1) := by decide +kernel
theorem dL_law_202 : decode cL_law 202 = .ok (.iaload, 1) := by decide +kernel
theorem dL_law_203 : decode cL_law 203 = .ok (.aload_n 0, 1) := by decide +kernel
theorem dL_law_204 : decode cL_law 204 = .ok (.iload_n 3, 1) := by decide +kernel
theorem dL_law_205 : decode cL_law 205 = .ok (.iconst 2, 1) := by decide +kernel
theorem dL_law_206 : decode cL_law 206 = .ok (.iadd, 1) := by decide +kernel
theorem dL_law_207 : decode cL_law 207 = .ok (.iaload, 1) := by decide +kernel
theorem dL_law_208 : decode cL_law 208 = .ok (.aload_n 0, 1) := by decide +kernel
theorem dL_law_209 : decode cL_law 209 = .ok (.iload_n 3, 1) := by decide +kernel
theorem dL_law_210 : decode cL_law 210 = .ok (.iconst 3, 1) := by decide +kernel
theorem dL_law_211 : decode cL_law 211 = .ok (.iadd, 1) := by decide +kernel
theorem dL_law_212 : decode cL_law 212 = .ok (.iaload, 1) := by decide +kernel
theorem dL_law_213 : decode cL_law 213 = .ok (.aload_n 0, 1) := by decide +kernel
theorem dL_law_214 : decode cL_law 214 = .ok (.iload_n 3, 1) := by decide +kernel
theorem dL_law_215 : decode cL_law 215 = .ok (.iconst 4, 1) := by decide +kernel
theorem dL_law_216 : decode cL_law 216 = .ok (.iadd, 1) := by decide +kernel
theorem dL_law_217 : decode cL_law 217 = .ok (.iaload, 1) := by decide +kernel
theorem dL_law_218 : decode cL_law 218 = .ok (.invokevirtual 18, 3) := by decide +kernel
theorem dL_law_221 : decode cL_law 221 = .ok (.aload_n 2, 1) := by decide +kernel
theorem dL_law_222 : decode cL_law 222 = .ok (.aload_n 0, 1) := by decide +kernel
theorem dL_law_223 : decode cL_law 223 = .ok (.iload_n 3, 1) := by decide +kernel
theorem dL_law_224 : decode cL_law 224 = .ok (.iconst 1, 1) := by decide +kernel
theorem dL_law_225 : decode cL_law 225 = .ok (.iadd, 1) := by decide +kernel
theorem dL_law_226 : decode cL_law 226 = .ok (.iaload, 1) := by decide +kernel
theorem dL_law_227 : decode cL_law 227 = .ok (.aload_n 0, 1) := by decide +kernel
theorem dL_law_228 : decode cL_law 228 = .ok (.iload_n 3, 1) := by decide +kernel
theorem dL_law_229 : decode cL_law 229 = .ok (.iconst 2, 1) := by decide +kernel
theorem dL_law_230 : decode cL_law 230 = .ok (.iadd, 1) := by decide +kernel
theorem dL_law_231 : decode cL_law 231 = .ok (.iaload, 1) := by decide +kernel
theorem dL_law_232 : decode cL_law 232 = .ok (.aload_n 0, 1) := by decide +kernel
theorem dL_law_233 : decode cL_law 233 = .ok (.iload_n 3, 1) := by decide +kernel
theorem dL_law_234 : decode cL_law 234 = .ok (.iconst 3, 1) := by decide +kernel
theorem dL_law_235 : decode cL_law 235 = .ok (.iadd, 1) := by decide +kernel
theorem dL_law_236 : decode cL_law 236 = .ok (.iaload, 1) := by decide +kernel
theorem dL_law_237 : decode cL_law 237 = .ok (.aload_n 0, 1) := by decide +kernel
theorem dL_law_238 : decode cL_law 238 = .ok (.iload_n 3, 1) := by decide +kernel
theorem dL_law_239 : decode cL_law 239 = .ok (.iconst 4, 1) := by decide +kernel
theorem dL_law_240 : decode cL_law 240 = .ok (.iadd, 1) := by decide +kernel
theorem dL_law_241 : decode cL_law 241 = .ok (.iaload, 1) := by decide +kernel
theorem dL_law_242 : decode cL_law 242 = .ok (.invokevirtual 22, 3) := by decide +kernel
theorem dL_law_245 : decode cL_law 245 = .ok (.if_icmp .eq 896, 3) := by decide +kernel
theorem dL_law_248 : decode cL_law 248 = .ok (.iconst 0, 1) := by decide +kernel
theorem dL_law_249 : decode cL_law 249 = .ok (.ireturn, 1) := by decide +kernel
theorem dL_law_250 : decode cL_law 250 = .ok (.aload_n 1, 1) := by decide +kernel
theorem dL_law_251 : decode cL_law 251 = .ok (.aload_n 0, 1) := by decide +kernel
theorem dL_law_252 : decode cL_law 252 = .ok (.iload_n 3, 1) := by decide +kernel
theorem dL_law_253 : decode cL_law 253 = .ok (.iconst 1, 1) := by decide +kernel
theorem dL_law_254 : decode cL_law 254 = .ok (.iadd, 1) := by decide +kernel
theorem dL_law_255 : decode cL_law 255 = .ok (.iaload, 1) := by decide +kernel
theorem dL_law_256 : decode cL_law 256 = .ok (.aload_n 0, 1) := by decide +kernel
theorem dL_law_257 : decode cL_law 257 = .ok (.iload_n 3, 1) := by decide +kernel
theorem dL_law_258 : decode cL_law 258 = .ok (.iconst 2, 1) := by decide +kernel
theorem dL_law_259 : decode cL_law 259 = .ok (.iadd, 1) := by decide +kernel
theorem dL_law_260 : decode cL_law 260 = .ok (.iaload, 1) := by decide +kernel
theorem dL_law_261 : decode cL_law 261 = .ok (.invokevirtual 23, 3) := by decide +kernel
theorem dL_law_264 : decode cL_law 264 = .ok (.aload_n 2, 1) := by decide +kernel
theorem dL_law_265 : decode cL_law 265 = .ok (.aload_n 0, 1) := by decide +kernel
theorem dL_law_266 : decode cL_law 266 = .ok (.iload_n 3, 1) := by decide +kernel
theorem dL_law_267 : decode cL_law 267 = .ok (.iconst 1, 1) := by decide +kernel
theorem dL_law_268 : decode cL_law 268 = .ok (.iadd, 1) := by decide +kernel
theorem dL_law_269 : decode cL_law 269 = .ok (.iaload, 1) := by decide +kernel
theorem dL_law_270 : decode cL_law 270 = .ok (.aload_n 0, 1) := by decide +kernel
theorem dL_law_271 : decode cL_law 271 = .ok (.iload_n 3, 1) := by decide +kernel
theorem dL_law_272 : decode cL_law 272 = .ok (.iconst 2, 1) := by decide +kernel
theorem dL_law_273 : decode cL_law 273 = .ok (.iadd, 1) := by decide +kernel
theorem dL_law_274 : decode cL_law 274 = .ok (.iaload, 1) := by decide +kernel
theorem dL_law_275 : decode cL_law 275 = .ok (.invokevirtual 26, 3) := by decide +kernel
theorem dL_law_278 : decode cL_law 278 = .ok (.if_icmp .eq 863, 3) := by decide +kernel
theorem dL_law_281 : decode cL_law 281 = .ok (.iconst 0, 1) := by decide +kernel
theorem dL_law_282 : decode cL_law 282 = .ok (.ireturn, 1) := by decide +kernel
theorem dL_law_283 : decode cL_law 283 = .ok (.aload_n 1, 1) := by decide +kernel
theorem dL_law_284 : decode cL_law 284 = .ok (.aload_n 0, 1) := by decide +kernel
theorem dL_law_285 : decode cL_law 285 = .ok (.iload_n 3, 1) := by decide +kernel
theorem dL_law_286 : decode cL_law 286 = .ok (.iconst 1, 1) := by decide +kernel
theorem dL_law_287 : decode cL_law 287 = .ok (.iadd, 1) := by decide +kernel
theorem dL_law_288 : decode cL_law 288 = .ok (.iaload, 1) := by decide +kernel
theorem dL_law_289 : decode cL_law 289 = .ok (.aload_n 0, 1) := by decide +kernel
theorem dL_law_290 : decode cL_law 290 = .ok (.iload_n 3, 1) := by decide +kernel
theorem dL_law_291 : decode cL_law 291 = .ok (.iconst 2, 1) := by decide +kernel
theorem dL_law_292 : decode cL_law 292 = .ok (.iadd, 1) := by decide +kernel
theorem dL_law_293 : decode cL_law 293 = .ok (.iaload, 1) := by decide +kernel
theorem dL_law_294 : decode cL_law 294 = .ok (.aload_n 0, 1) := by decide +kernel
theorem dL_law_295 : decode cL_law 295 = .ok (.iload_n 3, 1) := by decide +kernel
theorem dL_law_296 : decode cL_law 296 = .ok (.iconst 3, 1) := by decide +kernel
theorem dL_law_297 : decode cL_law 297 = .ok (.iadd, 1) := by decide +kernel
theorem dL_law_298 : decode cL_law 298 = .ok (.iaload, 1) := by decide +kernel
theorem dL_law_299 : decode cL_law 299 = .ok (.invokevirtual 27, 3) := by decide +kernel
theorem dL_law_302 : decode cL_law 302 = .ok (.aload_n 2, 1) := by decide +kernel
theorem dL_law_303 : decode cL_law 303 = .ok (.aload_n 0, 1) := by decide +kernel
theorem dL_law_304 : decode cL_law 304 = .ok (.iload_n 3, 1) := by decide +kernel
theorem dL_law_305 : decode cL_law 305 = .ok (.iconst 1, 1) := by decide +kernel
theorem dL_law_306 : decode cL_law 306 = .ok (.iadd, 1) := by decide +kernel
theorem dL_law_307 : decode cL_law 307 = .ok (.iaload, 1) := by decide +kernel
theorem dL_law_308 : decode cL_law 308 = .ok (.aload_n 0, 1) := by decide +kernel
theorem dL_law_309 : decode cL_law 309 = .ok (.iload_n 3, 1) := by decide +kernel
theorem dL_law_310 : decode cL_law 310 = .ok (.iconst 2, 1) := by decide +kernel
theorem dL_law_311 : decode cL_law 311 = .ok (.iadd, 1) := by decide +kernel
theorem dL_law_312 : decode cL_law 312 = .ok (.iaload, 1) := by decide +kernel
theorem dL_law_313 : decode cL_law 313 = .ok (.aload_n 0, 1) := by decide +kernel
theorem dL_law_314 : decode cL_law 314 = .ok (.iload_n 3, 1) := by decide +kernel
theorem dL_law_315 : decode cL_law 315 = .ok (.iconst 3, 1) := by decide +kernel
theorem dL_law_316 : decode cL_law 316 = .ok (.iadd, 1) := by decide +kernel
theorem dL_law_317 : decode cL_law 317 = .ok (.iaload, 1) := by decide +kernel
theorem dL_law_318 : decode cL_law 318 = .ok (.invokevirtual 31, 3) := by decide +kernel
theorem dL_law_321 : decode cL_law 321 = .ok (.if_icmp .eq 820, 3) := by decide +kernel
theorem dL_law_324 : decode cL_law 324 = .ok (.iconst 0, 1) := by decide +kernel
theorem dL_law_325 : decode cL_law 325 = .ok (.ireturn, 1) := by decide +kernel
theorem dL_law_326 : decode cL_law 326 = .ok (.aload_n 1, 1) := by decide +kernel
theorem dL_law_327 : decode cL_law 327 = .ok (.aload_n 0, 1) := by decide +kernel
theorem dL_law_328 : decode cL_law 328 = .ok (.iload_n 3, 1) := by decide +kernel
theorem dL_law_329 : decode cL_law 329 = .ok (.iconst 1, 1) := by decide +kernel
theorem dL_law_330 : decode cL_law 330 = .ok (.iadd, 1) := by decide +kernel
theorem dL_law_331 : decode cL_law 331 = .ok (.iaload, 1) := by decide +kernel
theorem dL_law_332 : decode cL_law 332 = .ok (.invokevirtual 32, 3) := by decide +kernel
theorem dL_law_335 : decode cL_law 335 = .ok (.aload_n 2, 1) := by decide +kernel
theorem dL_law_336 : decode cL_law 336 = .ok (.aload_n 0, 1) := by decide +kernel
theorem dL_law_337 : decode cL_law 337 = .ok (.iload_n 3, 1) := by decide +kernel
theorem dL_law_338 : decode cL_law 338 = .ok (.iconst 1, 1) := by decide +kernel
theorem dL_law_339 : decode cL_law 339 = .ok (.iadd, 1) := by decide +kernel
theorem dL_law_340 : decode cL_law 340 = .ok (.iaload, 1) := by decide +kernel
theorem dL_law_341 : decode cL_law 341 = .ok (.invokevirtual 36, 3) := by decide +kernel
theorem dL_law_344 : decode cL_law 344 = .ok (.if_icmp .eq 797, 3) := by decide +kernel
theorem dL_law_347 : decode cL_law 347 = .ok (.iconst 0, 1) := by decide +kernel
theorem dL_law_348 : decode cL_law 348 = .ok (.ireturn, 1) := by decide +kernel
theorem dL_law_349 : decode cL_law 349 = .ok (.aload_n 1, 1) := by decide +kernel
theorem dL_law_350 : decode cL_law 350 = .ok (.invokevirtual 37, 3) := by decide +kernel
theorem dL_law_353 : decode cL_law 353 = .ok (.aload_n 2, 1) := by decide +kernel
theorem dL_law_354 : decode cL_law 354 = .ok (.invokevirtual 41, 3) := by decide +kernel
theorem dL_law_357 : decode cL_law 357 = .ok (.if_icmp .eq 784, 3) := by decide +kernel
theorem dL_law_360 : decode cL_law 360 = .ok (.iconst 0, 1) := by decide +kernel
theorem dL_law_361 : decode cL_law 361 = .ok (.ireturn, 1) := by decide +kernel
theorem dL_law_362 : decode cL_law 362 = .ok (.aload_n 1, 1) := by decide +kernel
theorem dL_law_363 : decode cL_law 363 = .ok (.aload_n 0, 1) := by decide +kernel
theorem dL_law_364 : decode cL_law 364 = .ok (.iload_n 3, 1) := by decide +kernel
theorem dL_law_365 : decode cL_law 365 = .ok (.iconst 1, 1) := by decide +kernel
theorem dL_law_366 : decode cL_law 366 = .ok (.iadd, 1) := by decide +kernel
theorem dL_law_367 : decode cL_law 367 = .ok (.iaload, 1) := by decide +kernel
theorem dL_law_368 : decode cL_law 368 = .ok (.invokevirtual 42, 3) := by decide +kernel
theorem dL_law_371 : decode cL_law 371 = .ok (.aload_n 2, 1) := by decide +kernel
theorem dL_law_372 : decode cL_law 372 = .ok (.aload_n 0, 1) := by decide +kernel
theorem dL_law_373 : decode cL_law 373 = .ok (.iload_n 3, 1) := by decide +kernel
theorem dL_law_374 : decode cL_law 374 = .ok (.iconst 1, 1) := by decide +kernel
theorem dL_law_375 : decode cL_law 375 = .ok (.iadd, 1) := by decide +kernel
theorem dL_law_376 : decode cL_law 376 = .ok (.iaload, 1) := by decide +kernel
theorem dL_law_377 : decode cL_law 377 = .ok (.invokevirtual 45, 3) := by decide +kernel
theorem dL_law_380 : decode cL_law 380 = .ok (.if_icmp .eq 761, 3) := by decide +kernel
theorem dL_law_383 : decode cL_law 383 = .ok (.iconst 0, 1) := by decide +kernel
theorem dL_law_384 : decode cL_law 384 = .ok (.ireturn, 1) := by decide +kernel
theorem dL_law_385 : decode cL_law 385 = .ok (.aload_n 1, 1) := by decide +kernel
theorem dL_law_386 : decode cL_law 386 = .ok (.aload_n 0, 1) := by decide +kernel
theorem dL_law_387 : decode cL_law 387 = .ok (.iload_n 3, 1) := by decide +kernel
theorem dL_law_388 : decode cL_law 388 = .ok (.iconst 1, 1) := by decide +kernel
theorem dL_law_389 : decode cL_law 389 = .ok (.iadd, 1) := by decide +kernel
theorem dL_law_390 : decode cL_law 390 = .ok (.iaload, 1) := by decide +kernel
theorem dL_law_391 : decode cL_law 391 = .ok (.invokevirtual 46, 3) := by decide +kernel
theorem dL_law_394 : decode cL_law 394 = .ok (.aload_n 2, 1) := by decide +kernel
theorem dL_law_395 : decode cL_law 395 = .ok (.aload_n 0, 1) := by decide +kernel
theorem dL_law_396 : decode cL_law 396 = .ok (.iload_n 3, 1) := by decide +kernel
theorem dL_law_397 : decode cL_law 397 = .ok (.iconst 1, 1) := by decide +kernel
theorem dL_law_398 : decode cL_law 398 = .ok (.iadd, 1) := by decide +kernel
theorem dL_law_399 : decode cL_law 399 = .ok (.iaload, 1) := by decide +kernel
theorem dL_law_400 : decode cL_law 400 = .ok (.invokevirtual 49, 3) := by decide +kernel
theorem dL_law_403 : decode cL_law 403 = .ok (.if_icmp .eq 738, 3) := by decide +kernel
theorem dL_law_406 : decode cL_law 406 = .ok (.iconst 0, 1) := by decide +kernel
theorem dL_law_407 : decode cL_law 407 = .ok (.ireturn, 1) := by decide +kernel
theorem dL_law_408 : decode cL_law 408 = .ok (.aload_n 1, 1) := by decide +kernel
theorem dL_law_409 : decode cL_law 409 = .ok (.aload_n 0, 1) := by decide +kernel
theorem dL_law_410 : decode cL_law 410 = .ok (.iload_n 3, 1) := by decide +kernel
theorem dL_law_411 : decode cL_law 411 = .ok (.iconst 1, 1) := by decide +kernel
theorem dL_law_412 : decode cL_law 412 = .ok (.iadd, 1) := by decide +kernel
theorem dL_law_413 : decode cL_law 413 = .ok (.iaload, 1) := by decide +kernel
theorem dL_law_414 : decode cL_law 414 = .ok (.aload_n 0, 1) := by decide +kernel
theorem dL_law_415 : decode cL_law 415 = .ok (.iload_n 3, 1) := by decide +kernel
theorem dL_law_416 : decode cL_law 416 = .ok (.iconst 2, 1) := by decide +kernel
theorem dL_law_417 : decode cL_law 417 = .ok (.iadd, 1) := by decide +kernel
theorem dL_law_418 : decode cL_law 418 = .ok (.iaload, 1) := by decide +kernel
theorem dL_law_419 : decode cL_law 419 = .ok (.invokevirtual 50, 3) := by decide +kernel
theorem dL_law_422 : decode cL_law 422 = .ok (.aload_n 2, 1) := by decide +kernel
theorem dL_law_423 : decode cL_law 423 = .ok (.aload_n 0, 1) := by decide +kernel
theorem dL_law_424 : decode cL_law 424 = .ok (.iload_n 3, 1) := by decide +kernel
theorem dL_law_425 : decode cL_law 425 = .ok (.iconst 1, 1) := by decide +kernel
theorem dL_law_426 : decode cL_law 426 = .ok (.iadd, 1) := by decide +kernel
theorem dL_law_427 : decode cL_law 427 = .ok (.iaload, 1) := by decide +kernel
theorem dL_law_428 : decode cL_law 428 = .ok (.aload_n 0, 1) := by decide +kernel
theorem dL_law_429 : decode cL_law 429 = .ok (.iload_n 3, 1) := by decide +kernel
theorem dL_law_430 : decode cL_law 430 = .ok (.iconst 2, 1) := by decide +kernel
theorem dL_law_431 : decode cL_law 431 = .ok (.iadd, 1) := by decide +kernel
theorem dL_law_432 : decode cL_law 432 = .ok (.iaload, 1) := by decide +kernel
theorem dL_law_433 : decode cL_law 433 = .ok (.invokevirtual 53, 3) := by decide +kernel
theorem dL_law_436 : decode cL_law 436 = .ok (.if_icmp .eq 705, 3) := by decide +kernel
theorem dL_law_439 : decode cL_law 439 = .ok (.iconst 0, 1) := by decide +kernel
theorem dL_law_440 : decode cL_law 440 = .ok (.ireturn, 1) := by decide +kernel
theorem dL_law_441 : decode cL_law 441 = .ok (.aload_n 1, 1) := by decide +kernel
theorem dL_law_442 : decode cL_law 442 = .ok (.aload_n 0, 1) := by decide +kernel
theorem dL_law_443 : decode cL_law 443 = .ok (.iload_n 3, 1) := by decide +kernel
theorem dL_law_444 : decode cL_law 444 = .ok (.iconst 1, 1) := by decide +kernel
theorem dL_law_445 : decode cL_law 445 = .ok (.iadd, 1) := by decide +kernel
theorem dL_law_446 : decode cL_law 446 = .ok (.iaload, 1) := by decide +kernel
theorem dL_law_447 : decode cL_law 447 = .ok (.invokevirtual 54, 3) := by decide +kernel
theorem dL_law_450 : decode cL_law 450 = .ok (.aload_n 2, 1) := by decide +kernel
theorem dL_law_451 : decode cL_law 451 = .ok (.aload_n 0, 1) := by decide +kernel
theorem dL_law_452 : decode cL_law 452 = .ok (.iload_n 3, 1) := by decide +kernel
theorem dL_law_453 : decode cL_law 453 = .ok (.iconst 1, 1) := by decide +kernel
theorem dL_law_454 : decode cL_law 454 = .ok (.iadd, 1) := by decide +kernel
theorem dL_law_455 : decode cL_law 455 = .ok (.iaload, 1) := by decide +kernel
theorem dL_law_456 : decode cL_law 456 = .ok (.invokevirtual 57, 3) := by decide +kernel
theorem dL_law_459 : decode cL_law 459 = .ok (.if_icmp .eq 682, 3) := by decide +kernel
theorem dL_law_462 : decode cL_law 462 = .ok (.iconst 0, 1) := by decide +kernel
theorem dL_law_463 : decode cL_law 463 = .ok (.ireturn, 1) := by decide +kernel
theorem dL_law_464 : decode cL_law 464 = .ok (.aload_n 1, 1) := by decide +kernel
theorem dL_law_465 : decode cL_law 465 = .ok (.aload_n 0, 1) := by decide +kernel
theorem dL_law_466 : decode cL_law 466 = .ok (.iload_n 3, 1) := by decide +kernel
theorem dL_law_467 : decode cL_law 467 = .ok (.iconst 1, 1) := by decide +kernel
theorem dL_law_468 : decode cL_law 468 = .ok (.iadd, 1) := by decide +kernel
theorem dL_law_469 : decode cL_law 469 = .ok (.iaload, 1) := by decide +kernel
theorem dL_law_470 : decode cL_law 470 = .ok (.invokevirtual 58, 3) := by decide +kernel
theorem dL_law_473 : decode cL_law 473 = .ok (.aload_n 2, 1) := by decide +kernel
theorem dL_law_474 : decode cL_law 474 = .ok (.aload_n 0, 1) := by decide +kernel
theorem dL_law_475 : decode cL_law 475 = .ok (.iload_n 3, 1) := by decide +kernel
theorem dL_law_476 : decode cL_law 476 = .ok (.iconst 1, 1) := by decide +kernel
theorem dL_law_477 : decode cL_law 477 = .ok (.iadd, 1) := by decide +kernel
theorem dL_law_478 : decode cL_law 478 = .ok (.iaload, 1) := by decide +kernel
theorem dL_law_479 : decode cL_law 479 = .ok (.invokevirtual 61, 3) := by decide +kernel
theorem dL_law_482 : decode cL_law 482 = .ok (.if_icmp .eq 659, 3) := by decide +kernel
theorem dL_law_485 : decode cL_law 485 = .ok (.iconst 0, 1) := by decide +kernel
theorem dL_law_486 : decode cL_law 486 = .ok (.ireturn, 1) := by decide +kernel
theorem dL_law_487 : decode cL_law 487 = .ok (.aload_n 1, 1) := by decide +kernel
theorem dL_law_488 : decode cL_law 488 = .ok (.invokevirtual 62, 3) := by decide +kernel
theorem dL_law_491 : decode cL_law 491 = .ok (.aload_n 2, 1) := by decide +kernel
theorem dL_law_492 : decode cL_law 492 = .ok (.invokevirtual 65, 3) := by decide +kernel
theorem dL_law_495 : decode cL_law 495 = .ok (.if_icmp .eq 646, 3) := by decide +kernel
theorem dL_law_498 : decode cL_law 498 = .ok (.iconst 0, 1) := by decide +kernel
theorem dL_law_499 : decode cL_law 499 = .ok (.ireturn, 1) := by decide +kernel
theorem dL_law_500 : decode cL_law 500 = .ok (.aload_n 1, 1) := by decide +kernel
theorem dL_law_501 : decode cL_law 501 = .ok (.aload_n 0, 1) := by decide +kernel
theorem dL_law_502 : decode cL_law 502 = .ok (.iload_n 3, 1) := by decide +kernel
theorem dL_law_503 : decode cL_law 503 = .ok (.iconst 1, 1) := by decide +kernel
theorem dL_law_504 : decode cL_law 504 = .ok (.iadd, 1) := by decide +kernel
theorem dL_law_505 : decode cL_law 505 = .ok (.iaload, 1) := by decide +kernel
theorem dL_law_506 : decode cL_law 506 = .ok (.invokevirtual 66, 3) := by decide +kernel
theorem dL_law_509 : decode cL_law 509 = .ok (.aload_n 2, 1) := by decide +kernel
theorem dL_law_510 : decode cL_law 510 = .ok (.aload_n 0, 1) := by decide +kernel
theorem dL_law_511 : decode cL_law 511 = .ok (.iload_n 3, 1) := by decide +kernel
theorem dL_law_512 : decode cL_law 512 = .ok (.iconst 1, 1) := by decide +kernel
theorem dL_law_513 : decode cL_law 513 = .ok (.iadd, 1) := by decide +kernel
theorem dL_law_514 : decode cL_law 514 = .ok (.iaload, 1) := by decide +kernel
theorem dL_law_515 : decode cL_law 515 = .ok (.invokevirtual 69, 3) := by decide +kernel
theorem dL_law_518 : decode cL_law 518 = .ok (.if_icmp .eq 623, 3) := by decide +kernel
theorem dL_law_521 : decode cL_law 521 = .ok (.iconst 0, 1) := by decide +kernel
theorem dL_law_522 : decode cL_law 522 = .ok (.ireturn, 1) := by decide +kernel
theorem dL_law_523 : decode cL_law 523 = .ok (.aload_n 1, 1) := by decide +kernel
theorem dL_law_524 : decode cL_law 524 = .ok (.aload_n 0, 1) := by decide +kernel
theorem dL_law_525 : decode cL_law 525 = .ok (.iload_n 3, 1) := by decide +kernel
theorem dL_law_526 : decode cL_law 526 = .ok (.iconst 1, 1) := by decide +kernel
theorem dL_law_527 : decode cL_law 527 = .ok (.iadd, 1) := by decide +kernel
theorem dL_law_528 : decode cL_law 528 = .ok (.iaload, 1) := by decide +kernel
theorem dL_law_529 : decode cL_law 529 = .ok (.aload_n 0, 1) := by decide +kernel
theorem dL_law_530 : decode cL_law 530 = .ok (.iload_n 3, 1) := by decide +kernel
theorem dL_law_531 : decode cL_law 531 = .ok (.iconst 2, 1) := by decide +kernel
theorem dL_law_532 : decode cL_law 532 = .ok (.iadd, 1) := by decide +kernel
theorem dL_law_533 : decode cL_law 533 = .ok (.iaload, 1) := by decide +kernel
theorem dL_law_534 : decode cL_law 534 = .ok (.invokevirtual 70, 3) := by decide +kernel
theorem dL_law_537 : decode cL_law 537 = .ok (.aload_n 2, 1) := by decide +kernel
theorem dL_law_538 : decode cL_law 538 = .ok (.aload_n 0, 1) := by decide +kernel
theorem dL_law_539 : decode cL_law 539 = .ok (.iload_n 3, 1) := by decide +kernel
theorem dL_law_540 : decode cL_law 540 = .ok (.iconst 1, 1) := by decide +kernel
theorem dL_law_541 : decode cL_law 541 = .ok (.iadd, 1) := by decide +kernel
theorem dL_law_542 : decode cL_law 542 = .ok (.iaload, 1) := by decide +kernel
theorem dL_law_543 : decode cL_law 543 = .ok (.aload_n 0, 1) := by decide +kernel
theorem dL_law_544 : decode cL_law 544 = .ok (.iload_n 3, 1) := by decide +kernel
theorem dL_law_545 : decode cL_law 545 = .ok (.iconst 2, 1) := by decide +kernel
theorem dL_law_546 : decode cL_law 546 = .ok (.iadd, 1) := by decide +kernel
theorem dL_law_547 : decode cL_law 547 = .ok (.iaload, 1) := by decide +kernel
theorem dL_law_548 : decode cL_law 548 = .ok (.invokevirtual 73, 3) := by decide +kernel
theorem dL_law_551 : decode cL_law 551 = .ok (.if_icmp .eq 590, 3) := by decide +kernel
theorem dL_law_554 : decode cL_law 554 = .ok (.iconst 0, 1) := by decide +kernel
theorem dL_law_555 : decode cL_law 555 = .ok (.ireturn, 1) := by decide +kernel
theorem dL_law_556 : decode cL_law 556 = .ok (.aload_n 1, 1) := by decide +kernel
theorem dL_law_557 : decode cL_law 557 = .ok (.aload_n 0, 1) := by decide +kernel
theorem dL_law_558 : decode cL_law 558 = .ok (.iload_n 3, 1) := by decide +kernel
theorem dL_law_559 : decode cL_law 559 = .ok (.iconst 1, 1) := by decide +kernel
theorem dL_law_560 : decode cL_law 560 = .ok (.iadd, 1) := by decide +kernel
theorem dL_law_561 : decode cL_law 561 = .ok (.iaload, 1) := by decide +kernel
theorem dL_law_562 : decode cL_law 562 = .ok (.invokevirtual 74, 3) := by decide +kernel
theorem dL_law_565 : decode cL_law 565 = .ok (.aload_n 2, 1) := by decide +kernel
theorem dL_law_566 : decode cL_law 566 = .ok (.aload_n 0, 1) := by decide +kernel
theorem dL_law_567 : decode cL_law 567 = .ok (.iload_n 3, 1) := by decide +kernel
theorem dL_law_568 : decode cL_law 568 = .ok (.iconst 1, 1) := by decide +kernel
theorem dL_law_569 : decode cL_law 569 = .ok (.iadd, 1) := by decide +kernel
theorem dL_law_570 : decode cL_law 570 = .ok (.iaload, 1) := by decide +kernel
theorem dL_law_571 : decode cL_law 571 = .ok (.invokevirtual 77, 3) := by decide +kernel
theorem dL_law_574 : decode cL_law 574 = .ok (.if_icmp .eq 567, 3) := by decide +kernel
theorem dL_law_577 : decode cL_law 577 = .ok (.iconst 0, 1) := by decide +kernel
theorem dL_law_578 : decode cL_law 578 = .ok (.ireturn, 1) := by decide +kernel
theorem dL_law_579 : decode cL_law 579 = .ok (.aload_n 1, 1) := by decide +kernel
theorem dL_law_580 : decode cL_law 580 = .ok (.aload_n 0, 1) := by decide +kernel
theorem dL_law_581 : decode cL_law 581 = .ok (.iload_n 3, 1) := by decide +kernel
theorem dL_law_582 : decode cL_law 582 = .ok (.iconst 1, 1) := by decide +kernel
theorem dL_law_583 : decode cL_law 583 = .ok (.iadd, 1) := by decide +kernel
theorem dL_law_584 : decode cL_law 584 = .ok (.iaload, 1) := by decide +kernel
theorem dL_law_585 : decode cL_law 585 = .ok (.aload_n 0, 1) := by decide +kernel
theorem dL_law_586 : decode cL_law 586 = .ok (.iload_n 3, 1) := by decide +kernel
theorem dL_law_587 : decode cL_law 587 = .ok (.iconst 2, 1) := by decide +kernel
theorem dL_law_588 : decode cL_law 588 = .ok (.iadd, 1) := by decide +kernel
theorem dL_law_589 : decode cL_law 589 = .ok (.iaload, 1) := by decide +kernel
theorem dL_law_590 : decode cL_law 590 = .ok (.invokevirtual 78, 3) := by decide +kernel
theorem dL_law_593 : decode cL_law 593 = .ok (.aload_n 2, 1) := by decide +kernel
theorem dL_law_594 : decode cL_law 594 = .ok (.aload_n 0, 1) := by decide +kernel
theorem dL_law_595 : decode cL_law 595 = .ok (.iload_n 3, 1) := by decide +kernel
theorem dL_law_596 : decode cL_law 596 = .ok (.iconst 1, 1) := by decide +kernel
theorem dL_law_597 : decode cL_law 597 = .ok (.iadd, 1) := by decide +kernel
theorem dL_law_598 : decode cL_law 598 = .ok (.iaload, 1) := by decide +kernel
theorem dL_law_599 : decode cL_law 599 = .ok (.aload_n 0, 1) := by decide +kernel
theorem dL_law_600 : decode cL_law 600 = .ok (.iload_n 3, 1) := by decide +kernel
theorem dL_law_601 : decode cL_law 601 = .ok (.iconst 2, 1) := by decide +kernel
theorem dL_law_602 : decode cL_law 602 = .ok (.iadd, 1) := by decide +kernel
theorem dL_law_603 : decode cL_law 603 = .ok (.iaload, 1) := by decide +kernel
theorem dL_law_604 : decode cL_law 604 = .ok (.invokevirtual 81, 3) := by decide +kernel
theorem dL_law_607 : decode cL_law 607 = .ok (.if_icmp .eq 534, 3) := by decide +kernel
theorem dL_law_610 : decode cL_law 610 = .ok (.iconst 0, 1) := by decide +kernel
theorem dL_law_611 : decode cL_law 611 = .ok (.ireturn, 1) := by decide +kernel
theorem dL_law_612 : decode cL_law 612 = .ok (.aload_n 1, 1) := by decide +kernel
theorem dL_law_613 : decode cL_law 613 = .ok (.aload_n 0, 1) := by decide +kernel
theorem dL_law_614 : decode cL_law 614 = .ok (.iload_n 3, 1) := by decide +kernel
theorem dL_law_615 : decode cL_law 615 = .ok (.iconst 1, 1) := by decide +kernel
theorem dL_law_616 : decode cL_law 616 = .ok (.iadd, 1) := by decide +kernel
theorem dL_law_617 : decode cL_law 617 = .ok (.iaload, 1) := by decide +kernel
theorem dL_law_618 : decode cL_law 618 = .ok (.aload_n 0, 1) := by decide +kernel
theorem dL_law_619 : decode cL_law 619 = .ok (.iload_n 3, 1) := by decide +kernel
theorem dL_law_620 : decode cL_law 620 = .ok (.iconst 2, 1) := by decide +kernel
theorem dL_law_621 : decode cL_law 621 = .ok (.iadd, 1) := by decide +kernel
theorem dL_law_622 : decode cL_law 622 = .ok (.iaload, 1) := by decide +kernel
theorem dL_law_623 : decode cL_law 623 = .ok (.invokevirtual 82, 3) := by decide +kernel
theorem dL_law_626 : decode cL_law 626 = .ok (.aload_n 2, 1) := by decide +kernel
theorem dL_law_627 : decode cL_law 627 = .ok (.aload_n 0, 1) := by decide +kernel
theorem dL_law_628 : decode cL_law 628 = .ok (.iload_n 3, 1) := by decide +kernel
theorem dL_law_629 : decode cL_law 629 = .ok (.iconst 1, 1) := by decide +kernel
theorem dL_law_630 : decode cL_law 630 = .ok (.iadd, 1) := by decide +kernel
theorem dL_law_631 : decode cL_law 631 = .ok (.iaload, 1) := by decide +kernel
theorem dL_law_632 : decode cL_law 632 = .ok (.aload_n 0, 1) := by decide +kernel
theorem dL_law_633 : decode cL_law 633 = .ok (.iload_n 3, 1) := by decide +kernel
theorem dL_law_634 : decode cL_law 634 = .ok (.iconst 2, 1) := by decide +kernel
theorem dL_law_635 : decode cL_law 635 = .ok (.iadd, 1) := by decide +kernel
theorem dL_law_636 : decode cL_law 636 = .ok (.iaload, 1) := by decide +kernel
theorem dL_law_637 : decode cL_law 637 = .ok (.invokevirtual 85, 3) := by decide +kernel
theorem dL_law_640 : decode cL_law 640 = .ok (.if_icmp .eq 501, 3) := by decide +kernel
theorem dL_law_643 : decode cL_law 643 = .ok (.iconst 0, 1) := by decide +kernel
theorem dL_law_644 : decode cL_law 644 = .ok (.ireturn, 1) := by decide +kernel
theorem dL_law_645 : decode cL_law 645 = .ok (.aload_n 1, 1) := by decide +kernel
theorem dL_law_646 : decode cL_law 646 = .ok (.aload_n 0, 1) := by decide +kernel
theorem dL_law_647 : decode cL_law 647 = .ok (.iload_n 3, 1) := by decide +kernel
theorem dL_law_648 : decode cL_law 648 = .ok (.iconst 1, 1) := by decide +kernel
theorem dL_law_649 : decode cL_law 649 = .ok (.iadd, 1) := by decide +kernel
theorem dL_law_650 : decode cL_law 650 = .ok (.iaload, 1) := by decide +kernel
theorem dL_law_651 : decode cL_law 651 = .ok (.aload_n 0, 1) := by decide +kernel
theorem dL_law_652 : decode cL_law 652 = .ok (.iload_n 3, 1) := by decide +kernel
theorem dL_law_653 : decode cL_law 653 = .ok (.iconst 2, 1) := by decide +kernel
theorem dL_law_654 : decode cL_law 654 = .ok (.iadd, 1) := by decide +kernel
theorem dL_law_655 : decode cL_law 655 = .ok (.iaload, 1) := by decide +kernel
theorem dL_law_656 : decode cL_law 656 = .ok (.invokevirtual 86, 3) := by decide +kernel
theorem dL_law_659 : decode cL_law 659 = .ok (.aload_n 2, 1) := by decide +kernel
theorem dL_law_660 : decode cL_law 660 = .ok (.aload_n 0, 1) := by decide +kernel
theorem dL_law_661 : decode cL_law 661 = .ok (.iload_n 3, 1) := by decide +kernel
theorem dL_law_662 : decode cL_law 662 = .ok (.iconst 1, 1) := by decide +kernel
theorem dL_law_663 : decode cL_law 663 = .ok (.iadd, 1) := by decide +kernel
theorem dL_law_664 : decode cL_law 664 = .ok (.iaload, 1) := by decide +kernel
theorem dL_law_665 : decode cL_law 665 = .ok (.aload_n 0, 1) := by decide +kernel
theorem dL_law_666 : decode cL_law 666 = .ok (.iload_n 3, 1) := by decide +kernel
theorem dL_law_667 : decode cL_law 667 = .ok (.iconst 2, 1) := by decide +kernel
theorem dL_law_668 : decode cL_law 668 = .ok (.iadd, 1) := by decide +kernel
theorem dL_law_669 : decode cL_law 669 = .ok (.iaload, 1) := by decide +kernel
theorem dL_law_670 : decode cL_law 670 = .ok (.invokevirtual 89, 3) := by decide +kernel
theorem dL_law_673 : decode cL_law 673 = .ok (.if_icmp .eq 468, 3) := by decide +kernel
theorem dL_law_676 : decode cL_law 676 = .ok (.iconst 0, 1) := by decide +kernel
theorem dL_law_677 : decode cL_law 677 = .ok (.ireturn, 1) := by decide +kernel
theorem dL_law_678 : decode cL_law 678 = .ok (.aload_n 1, 1) := by decide +kernel
theorem dL_law_679 : decode cL_law 679 = .ok (.aload_n 0, 1) := by decide +kernel
theorem dL_law_680 : decode cL_law 680 = .ok (.iload_n 3, 1) := by decide +kernel
theorem dL_law_681 : decode cL_law 681 = .ok (.iconst 1, 1) := by decide +kernel
theorem dL_law_682 : decode cL_law 682 = .ok (.iadd, 1) := by decide +kernel
theorem dL_law_683 : decode cL_law 683 = .ok (.iaload, 1) := by decide +kernel
theorem dL_law_684 : decode cL_law 684 = .ok (.aload_n 0, 1) := by decide +kernel
theorem dL_law_685 : decode cL_law 685 = .ok (.iload_n 3, 1) := by decide +kernel
theorem dL_law_686 : decode cL_law 686 = .ok (.iconst 2, 1) := by decide +kernel
theorem dL_law_687 : decode cL_law 687 = .ok (.iadd, 1) := by decide +kernel
theorem dL_law_688 : decode cL_law 688 = .ok (.iaload, 1) := by decide +kernel
theorem dL_law_689 : decode cL_law 689 = .ok (.invokevirtual 90, 3) := by decide +kernel
theorem dL_law_692 : decode cL_law 692 = .ok (.aload_n 2, 1) := by decide +kernel
theorem dL_law_693 : decode cL_law 693 = .ok (.aload_n 0, 1) := by decide +kernel
theorem dL_law_694 : decode cL_law 694 = .ok (.iload_n 3, 1) := by decide +kernel
theorem dL_law_695 : decode cL_law 695 = .ok (.iconst 1, 1) := by decide +kernel
theorem dL_law_696 : decode cL_law 696 = .ok (.iadd, 1) := by decide +kernel
theorem dL_law_697 : decode cL_law 697 = .ok (.iaload, 1) := by decide +kernel
theorem dL_law_698 : decode cL_law 698 = .ok (.aload_n 0, 1) := by decide +kernel
theorem dL_law_699 : decode cL_law 699 = .ok (.iload_n 3, 1) := by decide +kernel
theorem dL_law_700 : decode cL_law 700 = .ok (.iconst 2, 1) := by decide +kernel
theorem dL_law_701 : decode cL_law 701 = .ok (.iadd, 1) := by decide +kernel
theorem dL_law_702 : decode cL_law 702 = .ok (.iaload, 1) := by decide +kernel
theorem dL_law_703 : decode cL_law 703 = .ok (.invokevirtual 93, 3) := by decide +kernel
theorem dL_law_706 : decode cL_law 706 = .ok (.if_icmp .eq 435, 3) := by decide +kernel
theorem dL_law_709 : decode cL_law 709 = .ok (.iconst 0, 1) := by decide +kernel
theorem dL_law_710 : decode cL_law 710 = .ok (.ireturn, 1) := by decide +kernel
theorem dL_law_711 : decode cL_law 711 = .ok (.aload_n 1, 1) := by decide +kernel
theorem dL_law_712 : decode cL_law 712 = .ok (.aload_n 0, 1) := by decide +kernel
theorem dL_law_713 : decode cL_law 713 = .ok (.iload_n 3, 1) := by decide +kernel
theorem dL_law_714 : decode cL_law 714 = .ok (.iconst 1, 1) := by decide +kernel
theorem dL_law_715 : decode cL_law 715 = .ok (.iadd, 1) := by decide +kernel
theorem dL_law_716 : decode cL_law 716 = .ok (.iaload, 1) := by decide +kernel
theorem dL_law_717 : decode cL_law 717 = .ok (.aload_n 0, 1) := by decide +kernel
theorem dL_law_718 : decode cL_law 718 = .ok (.iload_n 3, 1) := by decide +kernel
theorem dL_law_719 : decode cL_law 719 = .ok (.iconst 2, 1) := by decide +kernel
theorem dL_law_720 : decode cL_law 720 = .ok (.iadd, 1) := by decide +kernel
theorem dL_law_721 : decode cL_law 721 = .ok (.iaload, 1) := by decide +kernel
theorem dL_law_722 : decode cL_law 722 = .ok (.invokevirtual 94, 3) := by decide +kernel
theorem dL_law_725 : decode cL_law 725 = .ok (.aload_n 2, 1) := by decide +kernel
theorem dL_law_726 : decode cL_law 726 = .ok (.aload_n 0, 1) := by decide +kernel
theorem dL_law_727 : decode cL_law 727 = .ok (.iload_n 3, 1) := by decide +kernel
theorem dL_law_728 : decode cL_law 728 = .ok (.iconst 1, 1) := by decide +kernel
theorem dL_law_729 : decode cL_law 729 = .ok (.iadd, 1) := by decide +kernel
theorem dL_law_730 : decode cL_law 730 = .ok (.iaload, 1) := by decide +kernel
theorem dL_law_731 : decode cL_law 731 = .ok (.aload_n 0, 1) := by decide +kernel
theorem dL_law_732 : decode cL_law 732 = .ok (.iload_n 3, 1) := by decide +kernel
theorem dL_law_733 : decode cL_law 733 = .ok (.iconst 2, 1) := by decide +kernel
theorem dL_law_734 : decode cL_law 734 = .ok (.iadd, 1) := by decide +kernel
theorem dL_law_735 : decode cL_law 735 = .ok (.iaload, 1) := by decide +kernel
theorem dL_law_736 : decode cL_law 736 = .ok (.invokevirtual 97, 3) := by decide +kernel
theorem dL_law_739 : decode cL_law 739 = .ok (.if_icmp .eq 402, 3) := by decide +kernel
theorem dL_law_742 : decode cL_law 742 = .ok (.iconst 0, 1) := by decide +kernel
theorem dL_law_743 : decode cL_law 743 = .ok (.ireturn, 1) := by decide +kernel
theorem dL_law_744 : decode cL_law 744 = .ok (.aload_n 1, 1) := by decide +kernel
theorem dL_law_745 : decode cL_law 745 = .ok (.aload_n 0, 1) := by decide +kernel
theorem dL_law_746 : decode cL_law 746 = .ok (.iload_n 3, 1) := by decide +kernel
theorem dL_law_747 : decode cL_law 747 = .ok (.iconst 1, 1) := by decide +kernel
theorem dL_law_748 : decode cL_law 748 = .ok (.iadd, 1) := by decide +kernel
theorem dL_law_749 : decode cL_law 749 = .ok (.iaload, 1) := by decide +kernel
theorem dL_law_750 : decode cL_law 750 = .ok (.aload_n 0, 1) := by decide +kernel
theorem dL_law_751 : decode cL_law 751 = .ok (.iload_n 3, 1) := by decide +kernel
theorem dL_law_752 : decode cL_law 752 = .ok (.iconst 2, 1) := by decide +kernel
theorem dL_law_753 : decode cL_law 753 = .ok (.iadd, 1) := by decide +kernel
theorem dL_law_754 : decode cL_law 754 = .ok (.iaload, 1) := by decide +kernel
theorem dL_law_755 : decode cL_law 755 = .ok (.aload_n 0, 1) := by decide +kernel
theorem dL_law_756 : decode cL_law 756 = .ok (.iload_n 3, 1) := by decide +kernel
theorem dL_law_757 : decode cL_law 757 = .ok (.iconst 3, 1) := by decide +kernel
theorem dL_law_758 : decode cL_law 758 = .ok (.iadd, 1) := by decide +kernel
theorem dL_law_759 : decode cL_law 759 = .ok (.iaload, 1) := by decide +kernel
theorem dL_law_760 : decode cL_law 760 = .ok (.invokevirtual 98, 3) := by decide +kernel
theorem dL_law_763 : decode cL_law 763 = .ok (.aload_n 2, 1) := by decide +kernel
theorem dL_law_764 : decode cL_law 764 = .ok (.aload_n 0, 1) := by decide +kernel
theorem dL_law_765 : decode cL_law 765 = .ok (.iload_n 3, 1) := by decide +kernel
theorem dL_law_766 : decode cL_law 766 = .ok (.iconst 1, 1) := by decide +kernel
theorem dL_law_767 : decode cL_law 767 = .ok (.iadd, 1) := by decide +kernel
theorem dL_law_768 : decode cL_law 768 = .ok (.iaload, 1) := by decide +kernel
theorem dL_law_769 : decode cL_law 769 = .ok (.aload_n 0, 1) := by decide +kernel
theorem dL_law_770 : decode cL_law 770 = .ok (.iload_n 3, 1) := by decide +kernel
theorem dL_law_771 : decode cL_law 771 = .ok (.iconst 2, 1) := by decide +kernel
theorem dL_law_772 : decode cL_law 772 = .ok (.iadd, 1) := by decide +kernel
theorem dL_law_773 : decode cL_law 773 = .ok (.iaload, 1) := by decide +kernel
theorem dL_law_774 : decode cL_law 774 = .ok (.aload_n 0, 1) := by decide +kernel
theorem dL_law_775 : decode cL_law 775 = .ok (.iload_n 3, 1) := by decide +kernel
theorem dL_law_776 : decode cL_law 776 = .ok (.iconst 3, 1) := by decide +kernel
theorem dL_law_777 : decode cL_law 777 = .ok (.iadd, 1) := by decide +kernel
theorem dL_law_778 : decode cL_law 778 = .ok (.iaload, 1) := by decide +kernel
theorem dL_law_779 : decode cL_law 779 = .ok (.invokevirtual 101, 3) := by decide +kernel
theorem dL_law_782 : decode cL_law 782 = .ok (.if_icmp .eq 359, 3) := by decide +kernel
theorem dL_law_785 : decode cL_law 785 = .ok (.iconst 0, 1) := by decide +kernel
theorem dL_law_786 : decode cL_law 786 = .ok (.ireturn, 1) := by decide +kernel
theorem dL_law_787 : decode cL_law 787 = .ok (.aload_n 1, 1) := by decide +kernel
theorem dL_law_788 : decode cL_law 788 = .ok (.invokevirtual 102, 3) := by decide +kernel
theorem dL_law_791 : decode cL_law 791 = .ok (.aload_n 2, 1) := by decide +kernel
theorem dL_law_792 : decode cL_law 792 = .ok (.invokevirtual 105, 3) := by decide +kernel
theorem dL_law_795 : decode cL_law 795 = .ok (.if_icmp .eq 346, 3) := by decide +kernel
theorem dL_law_798 : decode cL_law 798 = .ok (.iconst 0, 1) := by decide +kernel
theorem dL_law_799 : decode cL_law 799 = .ok (.ireturn, 1) := by decide +kernel
theorem dL_law_800 : decode cL_law 800 = .ok (.aload_n 1, 1) := by decide +kernel
theorem dL_law_801 : decode cL_law 801 = .ok (.invokevirtual 106, 3) := by decide +kernel
theorem dL_law_804 : decode cL_law 804 = .ok (.aload_n 2, 1) := by decide +kernel
theorem dL_law_805 : decode cL_law 805 = .ok (.invokevirtual 109, 3) := by decide +kernel
theorem dL_law_808 : decode cL_law 808 = .ok (.if_icmp .eq 333, 3) := by decide +kernel
theorem dL_law_811 : decode cL_law 811 = .ok (.iconst 0, 1) := by decide +kernel
theorem dL_law_812 : decode cL_law 812 = .ok (.ireturn, 1) := by decide +kernel
theorem dL_law_813 : decode cL_law 813 = .ok (.aload_n 1, 1) := by decide +kernel
theorem dL_law_814 : decode cL_law 814 = .ok (.aload_n 0, 1) := by decide +kernel
theorem dL_law_815 : decode cL_law 815 = .ok (.iload_n 3, 1) := by decide +kernel
theorem dL_law_816 : decode cL_law 816 = .ok (.iconst 1, 1) := by decide +kernel
theorem dL_law_817 : decode cL_law 817 = .ok (.iadd, 1) := by decide +kernel
theorem dL_law_818 : decode cL_law 818 = .ok (.iaload, 1) := by decide +kernel
theorem dL_law_819 : decode cL_law 819 = .ok (.aload_n 0, 1) := by decide +kernel
theorem dL_law_820 : decode cL_law 820 = .ok (.iload_n 3, 1) := by decide +kernel
theorem dL_law_821 : decode cL_law 821 = .ok (.iconst 2, 1) := by decide +kernel
theorem dL_law_822 : decode cL_law 822 = .ok (.iadd, 1) := by decide +kernel
theorem dL_law_823 : decode cL_law 823 = .ok (.iaload, 1) := by decide +kernel
theorem dL_law_824 : decode cL_law 824 = .ok (.aload_n 0, 1) := by decide +kernel
theorem dL_law_825 : decode cL_law 825 = .ok (.iload_n 3, 1) := by decide +kernel
theorem dL_law_826 : decode cL_law 826 = .ok (.iconst 3, 1) := by decide +kernel
theorem dL_law_827 : decode cL_law 827 = .ok (.iadd, 1) := by decide +kernel
theorem dL_law_828 : decode cL_law 828 = .ok (.iaload, 1) := by decide +kernel
theorem dL_law_829 : decode cL_law 829 = .ok (.aload_n 0, 1) := by decide +kernel
theorem dL_law_830 : decode cL_law 830 = .ok (.iload_n 3, 1) := by decide +kernel
theorem dL_law_831 : decode cL_law 831 = .ok (.iconst 4, 1) := by decide +kernel
theorem dL_law_832 : decode cL_law 832 = .ok (.iadd, 1) := by decide +kernel
theorem dL_law_833 : decode cL_law 833 = .ok (.iaload, 1) := by decide +kernel
theorem dL_law_834 : decode cL_law 834 = .ok (.aload_n 0, 1) := by decide +kernel
theorem dL_law_835 : decode cL_law 835 = .ok (.iload_n 3, 1) := by decide +kernel
theorem dL_law_836 : decode cL_law 836 = .ok (.iconst 5, 1) := by decide +kernel
theorem dL_law_837 : decode cL_law 837 = .ok (.iadd, 1) := by decide +kernel
theorem dL_law_838 : decode cL_law 838 = .ok (.iaload, 1) := by decide +kernel
theorem dL_law_839 : decode cL_law 839 = .ok (.invokevirtual 110, 3) := by decide +kernel
theorem dL_law_842 : decode cL_law 842 = .ok (.aload_n 2, 1) := by decide +kernel
theorem dL_law_843 : decode cL_law 843 = .ok (.aload_n 0, 1) := by decide +kernel
theorem dL_law_844 : decode cL_law 844 = .ok (.iload_n 3, 1) := by decide +kernel
theorem dL_law_845 : decode cL_law 845 = .ok (.iconst 1, 1) := by decide +kernel
theorem dL_law_846 : decode cL_law 846 = .ok (.iadd, 1) := by decide +kernel
theorem dL_law_847 : decode cL_law 847 = .ok (.iaload, 1) := by decide +kernel
theorem dL_law_848 : decode cL_law 848 = .ok (.aload_n 0, 1) := by decide +kernel
theorem dL_law_849 : decode cL_law 849 = .ok (.iload_n 3, 1) := by decide +kernel
theorem dL_law_850 : decode cL_law 850 = .ok (.iconst 2, 1) := by decide +kernel
theorem dL_law_851 : decode cL_law 851 = .ok (.iadd, 1) := by decide +kernel
theorem dL_law_852 : decode cL_law 852 = .ok (.iaload, 1) := by decide +kernel
theorem dL_law_853 : decode cL_law 853 = .ok (.aload_n 0, 1) := by decide +kernel
theorem dL_law_854 : decode cL_law 854 = .ok (.iload_n 3, 1) := by decide +kernel
theorem dL_law_855 : decode cL_law 855 = .ok (.iconst 3, 1) := by decide +kernel
theorem dL_law_856 : decode cL_law 856 = .ok (.iadd, 1) := by decide +kernel
theorem dL_law_857 : decode cL_law 857 = .ok (.iaload, 1) := by decide +kernel
theorem dL_law_858 : decode cL_law 858 = .ok (.aload_n 0, 1) := by decide +kernel
theorem dL_law_859 : decode cL_law 859 = .ok (.iload_n 3, 1) := by decide +kernel
theorem dL_law_860 : decode cL_law 860 = .ok (.iconst 4, 1) := by decide +kernel
theorem dL_law_861 : decode cL_law 861 = .ok (.iadd, 1) := by decide +kernel
theorem dL_law_862 : decode cL_law 862 = .ok (.iaload, 1) := by decide +kernel
theorem dL_law_863 : decode cL_law 863 = .ok (.aload_n 0, 1) := by decide +kernel
theorem dL_law_864 : decode cL_law 864 = .ok (.iload_n 3, 1) := by decide +kernel
theorem dL_law_865 : decode cL_law 865 = .ok (.iconst 5, 1) := by decide +kernel
theorem dL_law_866 : decode cL_law 866 = .ok (.iadd, 1) := by decide +kernel
theorem dL_law_867 : decode cL_law 867 = .ok (.iaload, 1) := by decide +kernel
theorem dL_law_868 : decode cL_law 868 = .ok (.invokevirtual 114, 3) := by decide +kernel
theorem dL_law_871 : decode cL_law 871 = .ok (.if_icmp .eq 270, 3) := by decide +kernel
theorem dL_law_874 : decode cL_law 874 = .ok (.iconst 0, 1) := by decide +kernel
theorem dL_law_875 : decode cL_law 875 = .ok (.ireturn, 1) := by decide +kernel
theorem dL_law_876 : decode cL_law 876 = .ok (.aload_n 1, 1) := by decide +kernel
theorem dL_law_877 : decode cL_law 877 = .ok (.aload_n 0, 1) := by decide +kernel
theorem dL_law_878 : decode cL_law 878 = .ok (.iload_n 3, 1) := by decide +kernel
theorem dL_law_879 : decode cL_law 879 = .ok (.iconst 1, 1) := by decide +kernel
theorem dL_law_880 : decode cL_law 880 = .ok (.iadd, 1) := by decide +kernel
theorem dL_law_881 : decode cL_law 881 = .ok (.iaload, 1) := by decide +kernel
theorem dL_law_882 : decode cL_law 882 = .ok (.aload_n 0, 1) := by decide +kernel
theorem dL_law_883 : decode cL_law 883 = .ok (.iload_n 3, 1) := by decide +kernel
theorem dL_law_884 : decode cL_law 884 = .ok (.iconst 2, 1) := by decide +kernel
theorem dL_law_885 : decode cL_law 885 = .ok (.iadd, 1) := by decide +kernel
theorem dL_law_886 : decode cL_law 886 = .ok (.iaload, 1) := by decide +kernel
theorem dL_law_887 : decode cL_law 887 = .ok (.aload_n 0, 1) := by decide +kernel
theorem dL_law_888 : decode cL_law 888 = .ok (.iload_n 3, 1) := by decide +kernel
theorem dL_law_889 : decode cL_law 889 = .ok (.iconst 3, 1) := by decide +kernel
theorem dL_law_890 : decode cL_law 890 = .ok (.iadd, 1) := by decide +kernel
theorem dL_law_891 : decode cL_law 891 = .ok (.iaload, 1) := by decide +kernel
theorem dL_law_892 : decode cL_law 892 = .ok (.aload_n 0, 1) := by decide +kernel
theorem dL_law_893 : decode cL_law 893 = .ok (.iload_n 3, 1) := by decide +kernel
theorem dL_law_894 : decode cL_law 894 = .ok (.iconst 4, 1) := by decide +kernel
theorem dL_law_895 : decode cL_law 895 = .ok (.iadd, 1) := by decide +kernel
theorem dL_law_896 : decode cL_law 896 = .ok (.iaload, 1) := by decide +kernel
theorem dL_law_897 : decode cL_law 897 = .ok (.invokevirtual 115, 3) := by decide +kernel
theorem dL_law_900 : decode cL_law 900 = .ok (.aload_n 2, 1) := by decide +kernel
theorem dL_law_901 : decode cL_law 901 = .ok (.aload_n 0, 1) := by decide +kernel
theorem dL_law_902 : decode cL_law 902 = .ok (.iload_n 3, 1) := by decide +kernel
theorem dL_law_903 : decode cL_law 903 = .ok (.iconst 1, 1) := by decide +kernel
theorem dL_law_904 : decode cL_law 904 = .ok (.iadd, 1) := by decide +kernel
theorem dL_law_905 : decode cL_law 905 = .ok (.iaload, 1) := by decide +kernel
theorem dL_law_906 : decode cL_law 906 = .ok (.aload_n 0, 1) := by decide +kernel
theorem dL_law_907 : decode cL_law 907 = .ok (.iload_n 3, 1) := by decide +kernel
theorem dL_law_908 : decode cL_law 908 = .ok (.iconst 2, 1) := by decide +kernel
theorem dL_law_909 : decode cL_law 909 = .ok (.iadd, 1) := by decide +kernel
theorem dL_law_910 : decode cL_law 910 = .ok (.iaload, 1) := by decide +kernel
theorem dL_law_911 : decode cL_law 911 = .ok (.aload_n 0, 1) := by decide +kernel
theorem dL_law_912 : decode cL_law 912 = .ok (.iload_n 3, 1) := by decide +kernel
theorem dL_law_913 : decode cL_law 913 = .ok (.iconst 3, 1) := by decide +kernel
theorem dL_law_914 : decode cL_law 914 = .ok (.iadd, 1) := by decide +kernel
theorem dL_law_915 : decode cL_law 915 = .ok (.iaload, 1) := by decide +kernel
theorem dL_law_916 : decode cL_law 916 = .ok (.aload_n 0, 1) := by decide +kernel
theorem dL_law_917 : decode cL_law 917 = .ok (.iload_n 3, 1) := by decide +kernel
theorem dL_law_918 : decode cL_law 918 = .ok (.iconst 4, 1) := by decide +kernel
theorem dL_law_919 : decode cL_law 919 = .ok (.iadd, 1) := by decide +kernel
theorem dL_law_920 : decode cL_law 920 = .ok (.iaload, 1) := by decide +kernel
theorem dL_law_921 : decode cL_law 921 = .ok (.invokevirtual 118, 3) := by decide +kernel
theorem dL_law_924 : decode cL_law 924 = .ok (.if_icmp .eq 217, 3) := by decide +kernel
theorem dL_law_927 : decode cL_law 927 = .ok (.iconst 0, 1) := by decide +kernel
theorem dL_law_928 : decode cL_law 928 = .ok (.ireturn, 1) := by decide +kernel
theorem dL_law_929 : decode cL_law 929 = .ok (.aload_n 1, 1) := by decide +kernel
theorem dL_law_930 : decode cL_law 930 = .ok (.aload_n 0, 1) := by decide +kernel
theorem dL_law_931 : decode cL_law 931 = .ok (.iload_n 3, 1) := by decide +kernel
theorem dL_law_932 : decode cL_law 932 = .ok (.iconst 1, 1) := by decide +kernel
theorem dL_law_933 : decode cL_law 933 = .ok (.iadd, 1) := by decide +kernel
theorem dL_law_934 : decode cL_law 934 = .ok (.iaload, 1) := by decide +kernel
theorem dL_law_935 : decode cL_law 935 = .ok (.aload_n 0, 1) := by decide +kernel
theorem dL_law_936 : decode cL_law 936 = .ok (.iload_n 3, 1) := by decide +kernel
theorem dL_law_937 : decode cL_law 937 = .ok (.iconst 2, 1) := by decide +kernel
theorem dL_law_938 : decode cL_law 938 = .ok (.iadd, 1) := by decide +kernel
theorem dL_law_939 : decode cL_law 939 = .ok (.iaload, 1) := by decide +kernel
theorem dL_law_940 : decode cL_law 940 = .ok (.aload_n 0, 1) := by decide +kernel
theorem dL_law_941 : decode cL_law 941 = .ok (.iload_n 3, 1) := by decide +kernel
theorem dL_law_942 : decode cL_law 942 = .ok (.iconst 3, 1) := by decide +kernel
theorem dL_law_943 : decode cL_law 943 = .ok (.iadd, 1) := by decide +kernel
theorem dL_law_944 : decode cL_law 944 = .ok (.iaload, 1) := by decide +kernel
theorem dL_law_945 : decode cL_law 945 = .ok (.invokevirtual 119, 3) := by decide +kernel
theorem dL_law_948 : decode cL_law 948 = .ok (.aload_n 2, 1) := by decide +kernel
theorem dL_law_949 : decode cL_law 949 = .ok (.aload_n 0, 1) := by decide +kernel
theorem dL_law_950 : decode cL_law 950 = .ok (.iload_n 3, 1) := by decide +kernel
theorem dL_law_951 : decode cL_law 951 = .ok (.iconst 1, 1) := by decide +kernel
theorem dL_law_952 : decode cL_law 952 = .ok (.iadd, 1) := by decide +kernel
theorem dL_law_953 : decode cL_law 953 = .ok (.iaload, 1) := by decide +kernel
theorem dL_law_954 : decode cL_law 954 = .ok (.aload_n 0, 1) := by decide +kernel
theorem dL_law_955 : decode cL_law 955 = .ok (.iload_n 3, 1) := by decide +kernel
theorem dL_law_956 : decode cL_law 956 = .ok (.iconst 2, 1) := by decide +kernel
theorem dL_law_957 : decode cL_law 957 = .ok (.iadd, 1) := by decide +kernel
theorem dL_law_958 : decode cL_law 958 = .ok (.iaload, 1) := by decide +kernel
theorem dL_law_959 : decode cL_law 959 = .ok (.aload_n 0, 1) := by decide +kernel
theorem dL_law_960 : decode cL_law 960 = .ok (.iload_n 3, 1) := by decide +kernel
theorem dL_law_961 : decode cL_law 961 = .ok (.iconst 3, 1) := by decide +kernel
theorem dL_law_962 : decode cL_law 962 = .ok (.iadd, 1) := by decide +kernel
theorem dL_law_963 : decode cL_law 963 = .ok (.iaload, 1) := by decide +kernel
theorem dL_law_964 : decode cL_law 964 = .ok (.invokevirtual 122, 3) := by decide +kernel
theorem dL_law_967 : decode cL_law 967 = .ok (.if_icmp .eq 174, 3) := by decide +kernel
theorem dL_law_970 : decode cL_law 970 = .ok (.iconst 0, 1) := by decide +kernel
theorem dL_law_971 : decode cL_law 971 = .ok (.ireturn, 1) := by decide +kernel
theorem dL_law_972 : decode cL_law 972 = .ok (.aload_n 1, 1) := by decide +kernel
theorem dL_law_973 : decode cL_law 973 = .ok (.aload_n 0, 1) := by decide +kernel
theorem dL_law_974 : decode cL_law 974 = .ok (.iload_n 3, 1) := by decide +kernel
theorem dL_law_975 : decode cL_law 975 = .ok (.iconst 1, 1) := by decide +kernel
theorem dL_law_976 : decode cL_law 976 = .ok (.iadd, 1) := by decide +kernel
theorem dL_law_977 : decode cL_law 977 = .ok (.iaload, 1) := by decide +kernel
theorem dL_law_978 : decode cL_law 978 = .ok (.invokevirtual 123, 3) := by decide +kernel
theorem dL_law_981 : decode cL_law 981 = .ok (.aload_n 2, 1) := by decide +kernel
theorem dL_law_982 : decode cL_law 982 = .ok (.aload_n 0, 1) := by decide +kernel
theorem dL_law_983 : decode cL_law 983 = .ok (.iload_n 3, 1) := by decide +kernel
theorem dL_law_984 : decode cL_law 984 = .ok (.iconst 1, 1) := by decide +kernel
theorem dL_law_985 : decode cL_law 985 = .ok (.iadd, 1) := by decide +kernel
theorem dL_law_986 : decode cL_law 986 = .ok (.iaload, 1) := by decide +kernel
theorem dL_law_987 : decode cL_law 987 = .ok (.invokevirtual 126, 3) := by decide +kernel
theorem dL_law_990 : decode cL_law 990 = .ok (.if_icmp .eq 151, 3) := by decide +kernel
theorem dL_law_993 : decode cL_law 993 = .ok (.iconst 0, 1) := by decide +kernel
theorem dL_law_994 : decode cL_law 994 = .ok (.ireturn, 1) := by decide +kernel
theorem dL_law_995 : decode cL_law 995 = .ok (.aload_n 1, 1) := by decide +kernel
theorem dL_law_996 : decode cL_law 996 = .ok (.aload_n 0, 1) := by decide +kernel
theorem dL_law_997 : decode cL_law 997 = .ok (.iload_n 3, 1) := by decide +kernel
theorem dL_law_998 : decode cL_law 998 = .ok (.iconst 1, 1) := by decide +kernel
theorem dL_law_999 : decode cL_law 999 = .ok (.iadd, 1) := by decide +kernel
theorem dL_law_1000 : decode cL_law 1000 = .ok (.iaload, 1) := by decide +kernel
theorem dL_law_1001 : decode cL_law 1001 = .ok (.aload_n 0, 1) := by decide +kernel
theorem dL_law_1002 : decode cL_law 1002 = .ok (.iload_n 3, 1) := by decide +kernel
theorem dL_law_1003 : decode cL_law 1003 = .ok (.iconst 2, 1) := by decide +kernel
theorem dL_law_1004 : decode cL_law 1004 = .ok (.iadd, 1) := by decide +kernel
theorem dL_law_1005 : decode cL_law 1005 = .ok (.iaload, 1) := by decide +kernel
theorem dL_law_1006 : decode cL_law 1006 = .ok (.aload_n 0, 1) := by decide +kernel
theorem dL_law_1007 : decode cL_law 1007 = .ok (.iload_n 3, 1) := by decide +kernel
theorem dL_law_1008 : decode cL_law 1008 = .ok (.iconst 3, 1) := by decide +kernel
theorem dL_law_1009 : decode cL_law 1009 = .ok (.iadd, 1) := by decide +kernel
theorem dL_law_1010 : decode cL_law 1010 = .ok (.iaload, 1) := by decide +kernel
theorem dL_law_1011 : decode cL_law 1011 = .ok (.aload_n 0, 1) := by decide +kernel
theorem dL_law_1012 : decode cL_law 1012 = .ok (.iload_n 3, 1) := by decide +kernel
theorem dL_law_1013 : decode cL_law 1013 = .ok (.iconst 4, 1) := by decide +kernel
theorem dL_law_1014 : decode cL_law 1014 = .ok (.iadd, 1) := by decide +kernel
theorem dL_law_1015 : decode cL_law 1015 = .ok (.iaload, 1) := by decide +kernel
theorem dL_law_1016 : decode cL_law 1016 = .ok (.i2l, 1) := by decide +kernel
theorem dL_law_1017 : decode cL_law 1017 = .ok (.bipush 32, 2) := by decide +kernel
theorem dL_law_1019 : decode cL_law 1019 = .ok (.lshl, 1) := by decide +kernel
theorem dL_law_1020 : decode cL_law 1020 = .ok (.aload_n 0, 1) := by decide +kernel
theorem dL_law_1021 : decode cL_law 1021 = .ok (.iload_n 3, 1) := by decide +kernel
theorem dL_law_1022 : decode cL_law 1022 = .ok (.iconst 5, 1) := by decide +kernel
theorem dL_law_1023 : decode cL_law 1023 = .ok (.iadd, 1) := by decide +kernel
theorem dL_law_1024 : decode cL_law 1024 = .ok (.iaload, 1) := by decide +kernel
theorem dL_law_1025 : decode cL_law 1025 = .ok (.i2l, 1) := by decide +kernel
theorem dL_law_1026 : decode cL_law 1026 = .ok (.ldc2_w 127, 3) := by decide +kernel
theorem dL_law_1029 : decode cL_law 1029 = .ok (.land, 1) := by decide +kernel
theorem dL_law_1030 : decode cL_law 1030 = .ok (.lor, 1) := by decide +kernel
theorem dL_law_1031 : decode cL_law 1031 = .ok (.invokevirtual 129, 3) := by decide +kernel
theorem dL_law_1034 : decode cL_law 1034 = .ok (.aload_n 2, 1) := by decide +kernel
theorem dL_law_1035 : decode cL_law 1035 = .ok (.aload_n 0, 1) := by decide +kernel
theorem dL_law_1036 : decode cL_law 1036 = .ok (.iload_n 3, 1) := by decide +kernel
theorem dL_law_1037 : decode cL_law 1037 = .ok (.iconst 1, 1) := by decide +kernel
theorem dL_law_1038 : decode cL_law 1038 = .ok (.iadd, 1) := by decide +kernel
theorem dL_law_1039 : decode cL_law 1039 = .ok (.iaload, 1) := by decide +kernel
theorem dL_law_1040 : decode cL_law 1040 = .ok (.aload_n 0, 1) := by decide +kernel
theorem dL_law_1041 : decode cL_law 1041 = .ok (.iload_n 3, 1) := by decide +kernel
theorem dL_law_1042 : decode cL_law 1042 = .ok (.iconst 2, 1) := by decide +kernel
theorem dL_law_1043 : decode cL_law 1043 = .ok (.iadd, 1) := by decide +kernel
theorem dL_law_1044 : decode cL_law 1044 = .ok (.iaload, 1) := by decide +kernel
theorem dL_law_1045 : decode cL_law 1045 = .ok (.aload_n 0, 1) := by decide +kernel
theorem dL_law_1046 : decode cL_law 1046 = .ok (.iload_n 3, 1) := by decide +kernel
theorem dL_law_1047 : decode cL_law 1047 = .ok (.iconst 3, 1) := by decide +kernel
theorem dL_law_1048 : decode cL_law 1048 = .ok (.iadd, 1) := by decide +kernel
theorem dL_law_1049 : decode cL_law 1049 = .ok (.iaload, 1) := by decide +kernel
theorem dL_law_1050 : decode cL_law 1050 = .ok (.aload_n 0, 1) := by decide +kernel
theorem dL_law_1051 : decode cL_law 1051 = .ok (.iload_n 3, 1) := by decide +kernel
theorem dL_law_1052 : decode cL_law 1052 = .ok (.iconst 4, 1) := by decide +kernel
theorem dL_law_1053 : decode cL_law 1053 = .ok (.iadd, 1) := by decide +kernel
theorem dL_law_1054 : decode cL_law 1054 = .ok (.iaload, 1) := by decide +kernel
theorem dL_law_1055 : decode cL_law 1055 = .ok (.i2l, 1) := by decide +kernel
theorem dL_law_1056 : decode cL_law 1056 = .ok (.bipush 32, 2) := by decide +kernel
theorem dL_law_1058 : decode cL_law 1058 = .ok (.lshl, 1) := by decide +kernel
theorem dL_law_1059 : decode cL_law 1059 = .ok (.aload_n 0, 1) := by decide +kernel
theorem dL_law_1060 : decode cL_law 1060 = .ok (.iload_n 3, 1) := by decide +kernel
theorem dL_law_1061 : decode cL_law 1061 = .ok (.iconst 5, 1) := by decide +kernel
theorem dL_law_1062 : decode cL_law 1062 = .ok (.iadd, 1) := by decide +kernel
theorem dL_law_1063 : decode cL_law 1063 = .ok (.iaload, 1) := by decide +kernel
theorem dL_law_1064 : decode cL_law 1064 = .ok (.i2l, 1) := by decide +kernel
theorem dL_law_1065 : decode cL_law 1065 = .ok (.ldc2_w 127, 3) := by decide +kernel
theorem dL_law_1068 : decode cL_law 1068 = .ok (.land, 1) := by decide +kernel
theorem dL_law_1069 : decode cL_law 1069 = .ok (.lor, 1) := by decide +kernel
theorem dL_law_1070 : decode cL_law 1070 = .ok (.invokevirtual 133, 3) := by decide +kernel
theorem dL_law_1073 : decode cL_law 1073 = .ok (.if_icmp .eq 68, 3) := by decide +kernel
theorem dL_law_1076 : decode cL_law 1076 = .ok (.iconst 0, 1) := by decide +kernel
theorem dL_law_1077 : decode cL_law 1077 = .ok (.ireturn, 1) := by decide +kernel
theorem dL_law_1078 : decode cL_law 1078 = .ok (.aload_n 1, 1) := by decide +kernel
theorem dL_law_1079 : decode cL_law 1079 = .ok (.aload_n 0, 1) := by decide +kernel
theorem dL_law_1080 : decode cL_law 1080 = .ok (.iload_n 3, 1) := by decide +kernel
theorem dL_law_1081 : decode cL_law 1081 = .ok (.iconst 1, 1) := by decide +kernel
theorem dL_law_1082 : decode cL_law 1082 = .ok (.iadd, 1) := by decide +kernel
theorem dL_law_1083 : decode cL_law 1083 = .ok (.iaload, 1) := by decide +kernel
theorem dL_law_1084 : decode cL_law 1084 = .ok (.aload_n 0, 1) := by decide +kernel
theorem dL_law_1085 : decode cL_law 1085 = .ok (.iload_n 3, 1) := by decide +kernel
theorem dL_law_1086 : decode cL_law 1086 = .ok (.iconst 2, 1) := by decide +kernel
theorem dL_law_1087 : decode cL_law 1087 = .ok (.iadd, 1) := by decide +kernel
theorem dL_law_1088 : decode cL_law 1088 = .ok (.iaload, 1) := by decide +kernel
theorem dL_law_1089 : decode cL_law 1089 = .ok (.aload_n 0, 1) := by decide +kernel
theorem dL_law_1090 : decode cL_law 1090 = .ok (.iload_n 3, 1) := by decide +kernel
theorem dL_law_1091 : decode cL_law 1091 = .ok (.iconst 3, 1) := by decide +kernel
theorem dL_law_1092 : decode cL_law 1092 = .ok (.iadd, 1) := by decide +kernel
theorem dL_law_1093 : decode cL_law 1093 = .ok (.iaload, 1) := by decide +kernel
theorem dL_law_1094 : decode cL_law 1094 = .ok (.aload_n 0, 1) := by decide +kernel
theorem dL_law_1095 : decode cL_law 1095 = .ok (.iload_n 3, 1) := by decide +kernel
theorem dL_law_1096 : decode cL_law 1096 = .ok (.iconst 4, 1) := by decide +kernel
theorem dL_law_1097 : decode cL_law 1097 = .ok (.iadd, 1) := by decide +kernel
theorem dL_law_1098 : decode cL_law 1098 = .ok (.iaload, 1) := by decide +kernel
theorem dL_law_1099 : decode cL_law 1099 = .ok (.aload_n 0, 1) := by decide +kernel
theorem dL_law_1100 : decode cL_law 1100 = .ok (.iload_n 3, 1) := by decide +kernel
theorem dL_law_1101 : decode cL_law 1101 = .ok (.iconst 5, 1) := by decide +kernel
theorem dL_law_1102 : decode cL_law 1102 = .ok (.iadd, 1) := by decide +kernel
theorem dL_law_1103 : decode cL_law 1103 = .ok (.iaload, 1) := by decide +kernel
theorem dL_law_1104 : decode cL_law 1104 = .ok (.invokevirtual 134, 3) := by decide +kernel
theorem dL_law_1107 : decode cL_law 1107 = .ok (.aload_n 2, 1) := by decide +kernel
theorem dL_law_1108 : decode cL_law 1108 = .ok (.aload_n 0, 1) := by decide +kernel
theorem dL_law_1109 : decode cL_law 1109 = .ok (.iload_n 3, 1) := by decide +kernel
theorem dL_law_1110 : decode cL_law 1110 = .ok (.iconst 1, 1) := by decide +kernel
theorem dL_law_1111 : decode cL_law 1111 = .ok (.iadd, 1) := by decide +kernel
theorem dL_law_1112 : decode cL_law 1112 = .ok (.iaload, 1) := by decide +kernel
theorem dL_law_1113 : decode cL_law 1113 = .ok (.aload_n 0, 1) := by decide +kernel
theorem dL_law_1114 : decode cL_law 1114 = .ok (.iload_n 3, 1) := by decide +kernel
theorem dL_law_1115 : decode cL_law 1115 = .ok (.iconst 2, 1) := by decide +kernel
theorem dL_law_1116 : decode cL_law 1116 = .ok (.iadd, 1) := by decide +kernel
theorem dL_law_1117 : decode cL_law 1117 = .ok (.iaload, 1) := by decide +kernel
theorem dL_law_1118 : decode cL_law 1118 = .ok (.aload_n 0, 1) := by decide +kernel
theorem dL_law_1119 : decode cL_law 1119 = .ok (.iload_n 3, 1) := by decide +kernel
theorem dL_law_1120 : decode cL_law 1120 = .ok (.iconst 3, 1) := by decide +kernel
theorem dL_law_1121 : decode cL_law 1121 = .ok (.iadd, 1) := by decide +kernel
theorem dL_law_1122 : decode cL_law 1122 = .ok (.iaload, 1) := by decide +kernel
theorem dL_law_1123 : decode cL_law 1123 = .ok (.aload_n 0, 1) := by decide +kernel
theorem dL_law_1124 : decode cL_law 1124 = .ok (.iload_n 3, 1) := by decide +kernel
theorem dL_law_1125 : decode cL_law 1125 = .ok (.iconst 4, 1) := by decide +kernel
theorem dL_law_1126 : decode cL_law 1126 = .ok (.iadd, 1) := by decide +kernel
theorem dL_law_1127 : decode cL_law 1127 = .ok (.iaload, 1) := by decide +kernel
theorem dL_law_1128 : decode cL_law 1128 = .ok (.aload_n 0, 1) := by decide +kernel
theorem dL_law_1129 : decode cL_law 1129 = .ok (.iload_n 3, 1) := by decide +kernel
theorem dL_law_1130 : decode cL_law 1130 = .ok (.iconst 5, 1) := by decide +kernel
theorem dL_law_1131 : decode cL_law 1131 = .ok (.iadd, 1) := by decide +kernel
theorem dL_law_1132 : decode cL_law 1132 = .ok (.iaload, 1) := by decide +kernel
theorem dL_law_1133 : decode cL_law 1133 = .ok (.invokevirtual 137, 3) := by decide +kernel
theorem dL_law_1136 : decode cL_law 1136 = .ok (.if_icmp .eq 5, 3) := by decide +kernel
theorem dL_law_1139 : decode cL_law 1139 = .ok (.iconst 0, 1) := by decide +kernel
theorem dL_law_1140 : decode cL_law 1140 = .ok (.ireturn, 1) := by decide +kernel
theorem dL_law_1141 : decode cL_law 1141 = .ok (.iinc 3 6, 3) := by decide +kernel
theorem dL_law_1144 : decode cL_law 1144 = .ok (.goto (-1126), 3) := by decide +kernel
theorem dL_law_1147 : decode cL_law 1147 = .ok (.iconst 1, 1) := by decide +kernel
theorem dL_law_1148 : decode cL_law 1148 = .ok (.ireturn, 1) := by decide +kernel
end
section
/-! ===== states, guards ===== -/
abbrev bb_O : Type := (Nat → Int32) × (Nat → Nat → Int32) × (Nat → Nat → Int64)
abbrev bb_H : Type := Nat → bb_O
def bb_sf (σ : bb_O) (k : Nat) (v : Int32) : bb_O := (upd σ.1 k v, σ.2)
def bb_sA (σ : bb_O) (k : Nat) (f : Nat → Int32) : bb_O := (σ.1, va_up σ.2.1 k f, σ.2.2)
def bb_sB (σ : bb_O) (k : Nat) (f : Nat → Int64) : bb_O := (σ.1, σ.2.1, va_up σ.2.2 k f)
noncomputable def bb_g {α : Type} (c : Prop) (o : Option α) : Option α := @ite _ c (Classical.propDecidable c) o none
theorem bb_g_some {α : Type} {c : Prop} {o : Option α} {z : α} (h : bb_g c o = some z) : c ∧ o = some z := by
  unfold bb_g at h
  by_cases hc : c
  · rw [if_pos hc] at h
    exact ⟨hc, h⟩
  · rw [if_neg hc] at h
    cases h
theorem bb_g_pos {α : Type} {c : Prop} {o : Option α} (h : c) : bb_g c o = o := if_pos h
theorem bb_b_some {α β : Type} {o : Option α} {k : α → Option β} {z : β} (h : o.bind k = some z) : ∃ a, o = some a ∧ k a = some z := Option.bind_eq_some_iff.mp h
theorem bb_t {α : Type} {c : Prop} {d : Decidable c} {a b : Option α} {z : α} (h : @ite _ c d a b = some z) (hc : c) : a = some z := by
  rw [if_pos hc] at h
  exact h
theorem bb_e {α : Type} {c : Prop} {d : Decidable c} {a b : Option α} {z : α} (h : @ite _ c d a b = some z) (hc : ¬ c) : b = some z := by
  rw [if_neg hc] at h
  exact h
def bb_N : Nat := 200
def bb_z (v : Int32) : Prop := v = 0 ∨ v = 1
def bb_c (v : Int32) : Prop := (v.toUInt32 % 65536).toInt32 = v
abbrev bb_CL : List vw_C := [(RX0, TX0, 14), (RX1, TX1, 3), (RX2, TX2, 3), (RX3, TX3, 3), (RX4, TX4, 8), (RX5, TX5, 18)]
abbrev bb_ty (cs : Nat → ClassId) : List (ClassId × FieldType) := [(cs 0, .int), (cs 1, .long), (cs 2, .char), (cs 3, .array .int), (cs 4, .object "BlindBuff$Row")]
def bb_tb : List Cond := lw_tbl.filter goodWord
theorem bb_in {w : Cond} (i : Nat) (h : lw_tbl[i]? = some w) (hg : goodWord w = true) : w ∈ bb_tb := List.mem_filter.mpr ⟨List.mem_of_getElem? h, hg⟩
theorem bb_goodIn {ws : List Cond} (h : ∀ w ∈ ws, w ∈ bb_tb) : GoodIn bb_tb ws := fun w hw => ⟨h w hw, good_of_word (List.mem_filter.mp (h w hw)).2⟩
/-! ===== a walk: the machine's parts in one tuple ===== -/
abbrev bb_X := Program × Launch × Env × Room × State × MethodId × Array Value × List Frame × Method × Code × (Nat → Prop) × va_G × (Nat → ClassId) × (State → Prop) × Nat × Nat
abbrev bb_X.p (X : bb_X) : Program := X.1
abbrev bb_X.l (X : bb_X) : Launch := X.2.1
abbrev bb_X.e (X : bb_X) : Env := X.2.2.1
abbrev bb_X.R (X : bb_X) : Room := X.2.2.2.1
abbrev bb_X.s (X : bb_X) : State := X.2.2.2.2.1
abbrev bb_X.m (X : bb_X) : MethodId := X.2.2.2.2.2.1
abbrev bb_X.args (X : bb_X) : Array Value := X.2.2.2.2.2.2.1
abbrev bb_X.below (X : bb_X) : List Frame := X.2.2.2.2.2.2.2.1
abbrev bb_X.meth (X : bb_X) : Method := X.2.2.2.2.2.2.2.2.1
abbrev bb_X.c (X : bb_X) : Code := X.2.2.2.2.2.2.2.2.2.1
abbrev bb_X.A (X : bb_X) : Nat → Prop := X.2.2.2.2.2.2.2.2.2.2.1
abbrev bb_X.D (X : bb_X) : va_G := X.2.2.2.2.2.2.2.2.2.2.2.1
abbrev bb_X.cs (X : bb_X) : Nat → ClassId := X.2.2.2.2.2.2.2.2.2.2.2.2.1
abbrev bb_X.Q (X : bb_X) : State → Prop := X.2.2.2.2.2.2.2.2.2.2.2.2.2.1
abbrev bb_X.k (X : bb_X) : Nat := X.2.2.2.2.2.2.2.2.2.2.2.2.2.2.1
abbrev bb_X.n (X : bb_X) : Nat := X.2.2.2.2.2.2.2.2.2.2.2.2.2.2.2
/-- the machine walks from here to its end -/
def bb_Z (X : bb_X) (nL : Nat) (ws : va_W) (pc : Nat) (lv : List (Nat × Value)) (st : List Value) : Prop :=
  ∀ (H : Heap) (locs : List Loc) (ls : Array Slot), va_P X.D bb_CL ws H → va_D X.A ws → va_S X.A X.s.heap H locs → lv_has ls nL lv → W X.p X.l X.e X.R X.s X.m X.args X.below X.meth X.c H locs X.k X.n X.Q (F0 X.m pc ls st)
/-- what a walk knows -/
def bb_C (X : bb_X) (own : String) (cc : ByteArray) (nL : Nat) : Prop :=
  X.p.tables.exec = Jvm.exec ∧ X.c.code = cc ∧ X.c.maxLocals = nL ∧ X.s.vm.findClass own = some X.m.cls ∧ (∀ w ∈ bb_tb, w.before X.args X.s = true) ∧ va_K X.D bb_CL (bb_ty X.cs) X.s ∧ X.meth.locks = false ∧ (∀ q, X.s.heap.size ≤ q → X.A q) ∧ X.k ≤ X.R.cells ∧ X.n ≤ X.R.slots
def bb_r (X : bb_X) (d : Nat) : Prop := d ≤ X.R.frames ∧ 40 * d ≤ X.R.locals
theorem bb_r.le {X : bb_X} {d e : Nat} (h : bb_r X d) (he : e ≤ d) : bb_r X e := ⟨Nat.le_trans he h.1, Nat.le_trans (Nat.mul_le_mul_left 40 he) h.2⟩
section ZR
variable {X : bb_X} {own : String} {cc : ByteArray} {nL : Nat} {ws : va_W} {pc : Nat} {lv : List (Nat × Value)} {rest : List Value}
theorem z_iadd (C : bb_C X own cc nL) {x y : Int32} (hd : decode cc pc = .ok (.iadd, 1)) (k : bb_Z X nL ws (pc + 1) lv (.int (x + y) :: rest)) : bb_Z X nL ws pc lv (.int y :: .int x :: rest) := fun H locs ls hP hD hS hl => lv_iadd C.1 C.2.1 hd (k H locs ls hP hD hS hl)
theorem z_isub (C : bb_C X own cc nL) {x y : Int32} (hd : decode cc pc = .ok (.isub, 1)) (k : bb_Z X nL ws (pc + 1) lv (.int (x - y) :: rest)) : bb_Z X nL ws pc lv (.int y :: .int x :: rest) := fun H locs ls hP hD hS hl => lv_isub C.1 C.2.1 hd (k H locs ls hP hD hS hl)
theorem z_imul (C : bb_C X own cc nL) {x y : Int32} (hd : decode cc pc = .ok (.imul, 1)) (k : bb_Z X nL ws (pc + 1) lv (.int (x * y) :: rest)) : bb_Z X nL ws pc lv (.int y :: .int x :: rest) := fun H locs ls hP hD hS hl => lv_imul C.1 C.2.1 hd (k H locs ls hP hD hS hl)
theorem z_iand (C : bb_C X own cc nL) {x y : Int32} (hd : decode cc pc = .ok (.iand, 1)) (k : bb_Z X nL ws (pc + 1) lv (.int (x &&& y) :: rest)) : bb_Z X nL ws pc lv (.int y :: .int x :: rest) := fun H locs ls hP hD hS hl => lv_iand C.1 C.2.1 hd (k H locs ls hP hD hS hl)
theorem z_ior (C : bb_C X own cc nL) {x y : Int32} (hd : decode cc pc = .ok (.ior, 1)) (k : bb_Z X nL ws (pc + 1) lv (.int (x ||| y) :: rest)) : bb_Z X nL ws pc lv (.int y :: .int x :: rest) := fun H locs ls hP hD hS hl => lv_ior C.1 C.2.1 hd (k H locs ls hP hD hS hl)
theorem z_ixor (C : bb_C X own cc nL) {x y : Int32} (hd : decode cc pc = .ok (.ixor, 1)) (k : bb_Z X nL ws (pc + 1) lv (.int (x ^^^ y) :: rest)) : bb_Z X nL ws pc lv (.int y :: .int x :: rest) := fun H locs ls hP hD hS hl => lv_ixor C.1 C.2.1 hd (k H locs ls hP hD hS hl)
theorem z_ishl (C : bb_C X own cc nL) {x y : Int32} (hd : decode cc pc = .ok (.ishl, 1)) (k : bb_Z X nL ws (pc + 1) lv (.int (x <<< (y &&& 31)) :: rest)) : bb_Z X nL ws pc lv (.int y :: .int x :: rest) := fun H locs ls hP hD hS hl => lv_ishl C.1 C.2.1 hd (k H locs ls hP hD hS hl)
theorem z_ishr (C : bb_C X own cc nL) {x y : Int32} (hd : decode cc pc = .ok (.ishr, 1)) (k : bb_Z X nL ws (pc + 1) lv (.int (x >>> (y &&& 31)) :: rest)) : bb_Z X nL ws pc lv (.int y :: .int x :: rest) := fun H locs ls hP hD hS hl => lv_ishr C.1 C.2.1 hd (k H locs ls hP hD hS hl)
theorem z_idiv (C : bb_C X own cc nL) {x y : Int32} (hd : decode cc pc = .ok (.idiv, 1)) (hne : ¬ y = 0) (k : bb_Z X nL ws (pc + 1) lv (.int (x / y) :: rest)) : bb_Z X nL ws pc lv (.int y :: .int x :: rest) := fun H locs ls hP hD hS hl => lv_idiv C.1 C.2.1 hd hne (k H locs ls hP hD hS hl)
theorem z_irem (C : bb_C X own cc nL) {x y : Int32} (hd : decode cc pc = .ok (.irem, 1)) (hne : ¬ y = 0) (k : bb_Z X nL ws (pc + 1) lv (.int (x % y) :: rest)) : bb_Z X nL ws pc lv (.int y :: .int x :: rest) := fun H locs ls hP hD hS hl => lv_irem C.1 C.2.1 hd hne (by rw [irem_eq_mod]; exact k H locs ls hP hD hS hl)
theorem z_ladd (C : bb_C X own cc nL) {x y : Int64} (hd : decode cc pc = .ok (.ladd, 1)) (k : bb_Z X nL ws (pc + 1) lv (.long (x + y) :: rest)) : bb_Z X nL ws pc lv (.long y :: .long x :: rest) := fun H locs ls hP hD hS hl => lv_ladd C.1 C.2.1 hd (k H locs ls hP hD hS hl)
theorem z_lmul (C : bb_C X own cc nL) {x y : Int64} (hd : decode cc pc = .ok (.lmul, 1)) (k : bb_Z X nL ws (pc + 1) lv (.long (x * y) :: rest)) : bb_Z X nL ws pc lv (.long y :: .long x :: rest) := fun H locs ls hP hD hS hl => lv_lmul C.1 C.2.1 hd (k H locs ls hP hD hS hl)
theorem z_land (C : bb_C X own cc nL) {x y : Int64} (hd : decode cc pc = .ok (.land, 1)) (k : bb_Z X nL ws (pc + 1) lv (.long (x &&& y) :: rest)) : bb_Z X nL ws pc lv (.long y :: .long x :: rest) := fun H locs ls hP hD hS hl => lv_land C.1 C.2.1 hd (k H locs ls hP hD hS hl)
theorem z_lor (C : bb_C X own cc nL) {x y : Int64} (hd : decode cc pc = .ok (.lor, 1)) (k : bb_Z X nL ws (pc + 1) lv (.long (x ||| y) :: rest)) : bb_Z X nL ws pc lv (.long y :: .long x :: rest) := fun H locs ls hP hD hS hl => lv_lor C.1 C.2.1 hd (k H locs ls hP hD hS hl)
theorem z_iushr (C : bb_C X own cc nL) {x y : Int32} (hd : decode cc pc = .ok (.iushr, 1)) (k : bb_Z X nL ws (pc + 1) lv (.int ((x.toUInt32 >>> (y.toUInt32 &&& Int32.toUInt32 31)).toInt32) :: rest)) : bb_Z X nL ws pc lv (.int y :: .int x :: rest) := fun H locs ls hP hD hS hl => lv_iushr C.1 C.2.1 hd rfl (k H locs ls hP hD hS hl)
theorem z_lshl (C : bb_C X own cc nL) {x : Int64} {y : Int32} (hd : decode cc pc = .ok (.lshl, 1)) (k : bb_Z X nL ws (pc + 1) lv (.long (x <<< (y.toInt64 &&& 63)) :: rest)) : bb_Z X nL ws pc lv (.int y :: .long x :: rest) := fun H locs ls hP hD hS hl => lv_lshl C.1 C.2.1 hd rfl (k H locs ls hP hD hS hl)
theorem z_lcmp (C : bb_C X own cc nL) {x y : Int64} (hd : decode cc pc = .ok (.lcmp, 1)) (k : bb_Z X nL ws (pc + 1) lv (.int (lg_cmp x y) :: rest)) : bb_Z X nL ws pc lv (.long y :: .long x :: rest) := fun H locs ls hP hD hS hl => W.lcmp C.1 C.2.1 hd (k H locs ls hP hD hS hl)
theorem z_ineg (C : bb_C X own cc nL) {x : Int32} (hd : decode cc pc = .ok (.ineg, 1)) (k : bb_Z X nL ws (pc + 1) lv (.int (-x) :: rest)) : bb_Z X nL ws pc lv (.int x :: rest) := fun H locs ls hP hD hS hl => lv_ineg C.1 C.2.1 hd (k H locs ls hP hD hS hl)
theorem z_i2l (C : bb_C X own cc nL) {x : Int32} (hd : decode cc pc = .ok (.i2l, 1)) (k : bb_Z X nL ws (pc + 1) lv (.long (x.toInt64) :: rest)) : bb_Z X nL ws pc lv (.int x :: rest) := fun H locs ls hP hD hS hl => lv_i2l C.1 C.2.1 hd rfl (k H locs ls hP hD hS hl)
theorem z_l2i (C : bb_C X own cc nL) {x : Int64} (hd : decode cc pc = .ok (.l2i, 1)) (k : bb_Z X nL ws (pc + 1) lv (.int (x.toInt32) :: rest)) : bb_Z X nL ws pc lv (.long x :: rest) := fun H locs ls hP hD hS hl => lv_l2i C.1 C.2.1 hd rfl (k H locs ls hP hD hS hl)
theorem z_i2b (C : bb_C X own cc nL) {x : Int32} (hd : decode cc pc = .ok (.i2b, 1)) (k : bb_Z X nL ws (pc + 1) lv (.int (x.toInt8.toInt32) :: rest)) : bb_Z X nL ws pc lv (.int x :: rest) := fun H locs ls hP hD hS hl => lv_i2b C.1 C.2.1 hd rfl (k H locs ls hP hD hS hl)
theorem z_i2s (C : bb_C X own cc nL) {x : Int32} (hd : decode cc pc = .ok (.i2s, 1)) (k : bb_Z X nL ws (pc + 1) lv (.int (x.toInt16.toInt32) :: rest)) : bb_Z X nL ws pc lv (.int x :: rest) := fun H locs ls hP hD hS hl => lv_i2s C.1 C.2.1 hd rfl (k H locs ls hP hD hS hl)
theorem z_i2c (C : bb_C X own cc nL) {x : Int32} (hd : decode cc pc = .ok (.i2c, 1)) (k : bb_Z X nL ws (pc + 1) lv (.int ((x.toUInt32 % 65536).toInt32) :: rest)) : bb_Z X nL ws pc lv (.int x :: rest) := fun H locs ls hP hD hS hl => lv_i2c C.1 C.2.1 hd rfl (k H locs ls hP hD hS hl)
theorem z_iconst (C : bb_C X own cc nL) {n : Int} (v : Int32) (hd : decode cc pc = .ok (.iconst n, 1)) (hv : Int32.ofInt n = v) (k : bb_Z X nL ws (pc + 1) lv (.int v :: rest)) : bb_Z X nL ws pc lv rest := fun H locs ls hP hD hS hl => lv_iconst C.1 C.2.1 hd hv (k H locs ls hP hD hS hl)
theorem z_bipush (C : bb_C X own cc nL) {n : Int} (v : Int32) (hd : decode cc pc = .ok (.bipush n, 2)) (hv : (Int8.ofInt n).toInt32 = v) (k : bb_Z X nL ws (pc + 2) lv (.int v :: rest)) : bb_Z X nL ws pc lv rest := fun H locs ls hP hD hS hl => lv_bipush C.1 C.2.1 hd hv (k H locs ls hP hD hS hl)
theorem z_sipush (C : bb_C X own cc nL) {n : Int} (v : Int32) (hd : decode cc pc = .ok (.sipush n, 3)) (hv : (Int16.ofInt n).toInt32 = v) (k : bb_Z X nL ws (pc + 3) lv (.int v :: rest)) : bb_Z X nL ws pc lv rest := fun H locs ls hP hD hS hl => lv_sipush C.1 C.2.1 hd hv (k H locs ls hP hD hS hl)
theorem z_lconst (C : bb_C X own cc nL) {n : Fin 2} (v : Int64) (hd : decode cc pc = .ok (.lconst n, 1)) (hv : Int64.ofNat (n : Nat) = v) (k : bb_Z X nL ws (pc + 1) lv (.long v :: rest)) : bb_Z X nL ws pc lv rest := fun H locs ls hP hD hS hl => lv_lconst C.1 C.2.1 hd hv (k H locs ls hP hD hS hl)
theorem z_ldc (C : bb_C X own cc nL) {index : Nat} {v : Int32} (hc : Cond.constant own index v ∈ bb_tb) (hd : decode cc pc = .ok (.ldc index, 2)) (k : bb_Z X nL ws (pc + 2) lv (.int v :: rest)) : bb_Z X nL ws pc lv rest := fun H locs ls hP hD hS hl => lv_ldc C.1 C.2.1 C.2.2.2.1 (C.2.2.2.2.1 _ hc) hd (k H locs ls hP hD hS hl)
theorem z_ldc_w (C : bb_C X own cc nL) {index : Nat} {v : Int32} (hc : Cond.constant own index v ∈ bb_tb) (hd : decode cc pc = .ok (.ldc_w index, 3)) (k : bb_Z X nL ws (pc + 3) lv (.int v :: rest)) : bb_Z X nL ws pc lv rest := fun H locs ls hP hD hS hl => lv_ldcw C.1 C.2.1 C.2.2.2.1 (C.2.2.2.2.1 _ hc) hd (k H locs ls hP hD hS hl)
theorem z_ldc2_w (C : bb_C X own cc nL) {index : Nat} {v : Int64} (hc : Cond.constantLong own index v ∈ bb_tb) (hd : decode cc pc = .ok (.ldc2_w index, 3)) (k : bb_Z X nL ws (pc + 3) lv (.long v :: rest)) : bb_Z X nL ws pc lv rest := fun H locs ls hP hD hS hl => lv_ldc2 C.1 C.2.1 C.2.2.2.1 (C.2.2.2.2.1 _ hc) hd (k H locs ls hP hD hS hl)
theorem z_iload_n (C : bb_C X own cc nL) {k : Fin 4} {i : Nat} {x : Int32} (j : Nat) (hd : decode cc pc = .ok (.iload_n k, 1)) (hi : (k : Nat) = i) (hj : lv[j]? = some (i, .int x)) (k : bb_Z X nL ws (pc + 1) lv (.int x :: rest)) : bb_Z X nL ws pc lv rest := fun H locs ls hP hD hS hl => lv_iload_n C.1 C.2.1 hd hi (lv_at hl j hj) (k H locs ls hP hD hS hl)
theorem z_iload (C : bb_C X own cc nL) {i : Nat} {x : Int32} (j : Nat) (hd : decode cc pc = .ok (.iload i, 2)) (hj : lv[j]? = some (i, .int x)) (k : bb_Z X nL ws (pc + 2) lv (.int x :: rest)) : bb_Z X nL ws pc lv rest := fun H locs ls hP hD hS hl => lv_iload C.1 C.2.1 hd (lv_at hl j hj) (k H locs ls hP hD hS hl)
theorem z_lload_n (C : bb_C X own cc nL) {k : Fin 4} {i : Nat} {x : Int64} (j : Nat) (hd : decode cc pc = .ok (.lload_n k, 1)) (hi : (k : Nat) = i) (hj : lv[j]? = some (i, .long x)) (k : bb_Z X nL ws (pc + 1) lv (.long x :: rest)) : bb_Z X nL ws pc lv rest := fun H locs ls hP hD hS hl => lv_lload_n C.1 C.2.1 hd hi (lv_at hl j hj) (k H locs ls hP hD hS hl)
theorem z_lload (C : bb_C X own cc nL) {i : Nat} {x : Int64} (j : Nat) (hd : decode cc pc = .ok (.lload i, 2)) (hj : lv[j]? = some (i, .long x)) (k : bb_Z X nL ws (pc + 2) lv (.long x :: rest)) : bb_Z X nL ws pc lv rest := fun H locs ls hP hD hS hl => lv_lload C.1 C.2.1 hd (lv_at hl j hj) (k H locs ls hP hD hS hl)
theorem z_aload_n (C : bb_C X own cc nL) {k : Fin 4} {i : Nat} {x : Nat} (j : Nat) (hd : decode cc pc = .ok (.aload_n k, 1)) (hi : (k : Nat) = i) (hj : lv[j]? = some (i, .ref x)) (k : bb_Z X nL ws (pc + 1) lv (.ref x :: rest)) : bb_Z X nL ws pc lv rest := fun H locs ls hP hD hS hl => lv_aload_n C.1 C.2.1 hd hi (lv_at hl j hj) (k H locs ls hP hD hS hl)
theorem z_aload (C : bb_C X own cc nL) {i : Nat} {x : Nat} (j : Nat) (hd : decode cc pc = .ok (.aload i, 2)) (hj : lv[j]? = some (i, .ref x)) (k : bb_Z X nL ws (pc + 2) lv (.ref x :: rest)) : bb_Z X nL ws pc lv rest := fun H locs ls hP hD hS hl => lv_aload C.1 C.2.1 hd (lv_at hl j hj) (k H locs ls hP hD hS hl)
theorem z_istore_n (C : bb_C X own cc nL) {k : Fin 4} {i : Nat} {x : Int32} {lv' : List (Nat × Value)} (hd : decode cc pc = .ok (.istore_n k, 1)) (hi : (k : Nat) = i) (hn : i < nL) (hv : (i, Value.int x) :: lv.filter (fun q => !(q.1 == i) && !(q.1 + 1 == i && q.2.category == 2)) = lv') (k : bb_Z X nL ws (pc + 1) lv' rest) : bb_Z X nL ws pc lv (.int x :: rest) := fun H locs ls hP hD hS hl => lv_istore_n C.1 C.2.1 hd hi hl hn hv (fun ls hl => k H locs ls hP hD hS hl)
theorem z_istore (C : bb_C X own cc nL) {i : Nat} {x : Int32} {lv' : List (Nat × Value)} (hd : decode cc pc = .ok (.istore i, 2)) (hn : i < nL) (hv : (i, Value.int x) :: lv.filter (fun q => !(q.1 == i) && !(q.1 + 1 == i && q.2.category == 2)) = lv') (k : bb_Z X nL ws (pc + 2) lv' rest) : bb_Z X nL ws pc lv (.int x :: rest) := fun H locs ls hP hD hS hl => lv_istore C.1 C.2.1 hd hl hn hv (fun ls hl => k H locs ls hP hD hS hl)
theorem z_astore_n (C : bb_C X own cc nL) {k : Fin 4} {i : Nat} {x : Nat} {lv' : List (Nat × Value)} (hd : decode cc pc = .ok (.astore_n k, 1)) (hi : (k : Nat) = i) (hn : i < nL) (hv : (i, Value.ref x) :: lv.filter (fun q => !(q.1 == i) && !(q.1 + 1 == i && q.2.category == 2)) = lv') (k : bb_Z X nL ws (pc + 1) lv' rest) : bb_Z X nL ws pc lv (.ref x :: rest) := fun H locs ls hP hD hS hl => lv_astore_n C.1 C.2.1 hd hi hl hn hv (fun ls hl => k H locs ls hP hD hS hl)
theorem z_astore (C : bb_C X own cc nL) {i : Nat} {x : Nat} {lv' : List (Nat × Value)} (hd : decode cc pc = .ok (.astore i, 2)) (hn : i < nL) (hv : (i, Value.ref x) :: lv.filter (fun q => !(q.1 == i) && !(q.1 + 1 == i && q.2.category == 2)) = lv') (k : bb_Z X nL ws (pc + 2) lv' rest) : bb_Z X nL ws pc lv (.ref x :: rest) := fun H locs ls hP hD hS hl => lv_astore C.1 C.2.1 hd hl hn hv (fun ls hl => k H locs ls hP hD hS hl)
theorem z_iinc (C : bb_C X own cc nL) {i : Nat} {n : Int} {x : Int32} (v : Int32) {lv' : List (Nat × Value)} (j : Nat) (hd : decode cc pc = .ok (.iinc i n, 3)) (hj : lv[j]? = some (i, .int x)) (hv : x + Int32.ofInt n = v) (hn : i < nL) (hw : (i, Value.int v) :: lv.filter (fun q => !(q.1 == i) && !(q.1 + 1 == i && q.2.category == 2)) = lv') (k : bb_Z X nL ws (pc + 3) lv' rest) : bb_Z X nL ws pc lv rest := fun H locs ls hP hD hS hl => lv_iinc (k := j) C.1 C.2.1 hd hl hj hv hn hw (fun ls hl => k H locs ls hP hD hS hl)
theorem z_lv {lv' : List (Nat × Value)} {st : List Value} (ks : List Nat) (h : lv_pick lv ks = lv') (k : bb_Z X nL ws pc lv' st) : bb_Z X nL ws pc lv st := fun H locs ls hP hD hS hl => k H locs ls hP hD hS (lv_sub hl ks h)
theorem z_dup (C : bb_C X own cc nL) {v : Value} (hd : decode cc pc = .ok (.dup, 1)) (hv : v.category = 1) (k : bb_Z X nL ws (pc + 1) lv (v :: v :: rest)) : bb_Z X nL ws pc lv (v :: rest) := fun H locs ls hP hD hS hl => lv_dup C.1 C.2.1 hd hv (k H locs ls hP hD hS hl)
theorem z_pop (C : bb_C X own cc nL) {v : Value} (hd : decode cc pc = .ok (.pop, 1)) (hv : v.category = 1) (k : bb_Z X nL ws (pc + 1) lv rest) : bb_Z X nL ws pc lv (v :: rest) := fun H locs ls hP hD hS hl => lv_pop C.1 C.2.1 hd hv (k H locs ls hP hD hS hl)
theorem z_dup2 (C : bb_C X own cc nL) {v w : Value} (hd : decode cc pc = .ok (.dup2, 1)) (hv : v.category = 1) (hw : w.category = 1) (k : bb_Z X nL ws (pc + 1) lv (v :: w :: v :: w :: rest)) : bb_Z X nL ws pc lv (v :: w :: rest) := fun H locs ls hP hD hS hl => lv_dup2_11 C.1 C.2.1 hd hv hw (k H locs ls hP hD hS hl)
theorem z_if_eq (C : bb_C X own cc nL) {x : Int32} {off : Int} (tgt : Nat) (hd : decode cc pc = .ok (.ifCond .eq off, 3)) (ht : (pc : Int) + off = (tgt : Int)) (kt : x = 0 → bb_Z X nL ws tgt lv rest) (kf : ¬ x = 0 → bb_Z X nL ws (pc + 3) lv rest) : bb_Z X nL ws pc lv (.int x :: rest) := fun H locs ls hP hD hS hl => lv_if_eq C.1 C.2.1 hd ht (fun q => kt q H locs ls hP hD hS hl) (fun q => kf q H locs ls hP hD hS hl)
theorem z_icmp_eq (C : bb_C X own cc nL) {x y : Int32} {off : Int} (tgt : Nat) (hd : decode cc pc = .ok (.if_icmp .eq off, 3)) (ht : (pc : Int) + off = (tgt : Int)) (kt : x = y → bb_Z X nL ws tgt lv rest) (kf : ¬ x = y → bb_Z X nL ws (pc + 3) lv rest) : bb_Z X nL ws pc lv (.int y :: .int x :: rest) := fun H locs ls hP hD hS hl => lv_icmp_eq C.1 C.2.1 hd ht (fun q => kt q H locs ls hP hD hS hl) (fun q => kf q H locs ls hP hD hS hl)
theorem z_if_ne (C : bb_C X own cc nL) {x : Int32} {off : Int} (tgt : Nat) (hd : decode cc pc = .ok (.ifCond .ne off, 3)) (ht : (pc : Int) + off = (tgt : Int)) (kt : ¬ x = 0 → bb_Z X nL ws tgt lv rest) (kf : x = 0 → bb_Z X nL ws (pc + 3) lv rest) : bb_Z X nL ws pc lv (.int x :: rest) := fun H locs ls hP hD hS hl => lv_if_ne C.1 C.2.1 hd ht (fun q => kt q H locs ls hP hD hS hl) (fun q => kf q H locs ls hP hD hS hl)
theorem z_icmp_ne (C : bb_C X own cc nL) {x y : Int32} {off : Int} (tgt : Nat) (hd : decode cc pc = .ok (.if_icmp .ne off, 3)) (ht : (pc : Int) + off = (tgt : Int)) (kt : ¬ x = y → bb_Z X nL ws tgt lv rest) (kf : x = y → bb_Z X nL ws (pc + 3) lv rest) : bb_Z X nL ws pc lv (.int y :: .int x :: rest) := fun H locs ls hP hD hS hl => lv_icmp_ne C.1 C.2.1 hd ht (fun q => kt q H locs ls hP hD hS hl) (fun q => kf q H locs ls hP hD hS hl)
theorem z_if_lt (C : bb_C X own cc nL) {x : Int32} {off : Int} (tgt : Nat) (hd : decode cc pc = .ok (.ifCond .lt off, 3)) (ht : (pc : Int) + off = (tgt : Int)) (kt : x < 0 → bb_Z X nL ws tgt lv rest) (kf : ¬ x < 0 → bb_Z X nL ws (pc + 3) lv rest) : bb_Z X nL ws pc lv (.int x :: rest) := fun H locs ls hP hD hS hl => lv_if_lt C.1 C.2.1 hd ht (fun q => kt q H locs ls hP hD hS hl) (fun q => kf q H locs ls hP hD hS hl)
theorem z_icmp_lt (C : bb_C X own cc nL) {x y : Int32} {off : Int} (tgt : Nat) (hd : decode cc pc = .ok (.if_icmp .lt off, 3)) (ht : (pc : Int) + off = (tgt : Int)) (kt : x < y → bb_Z X nL ws tgt lv rest) (kf : ¬ x < y → bb_Z X nL ws (pc + 3) lv rest) : bb_Z X nL ws pc lv (.int y :: .int x :: rest) := fun H locs ls hP hD hS hl => lv_icmp_lt C.1 C.2.1 hd ht (fun q => kt q H locs ls hP hD hS hl) (fun q => kf q H locs ls hP hD hS hl)
theorem z_if_ge (C : bb_C X own cc nL) {x : Int32} {off : Int} (tgt : Nat) (hd : decode cc pc = .ok (.ifCond .ge off, 3)) (ht : (pc : Int) + off = (tgt : Int)) (kt : 0 ≤ x → bb_Z X nL ws tgt lv rest) (kf : ¬ 0 ≤ x → bb_Z X nL ws (pc + 3) lv rest) : bb_Z X nL ws pc lv (.int x :: rest) := fun H locs ls hP hD hS hl => lv_if_ge C.1 C.2.1 hd ht (fun q => kt q H locs ls hP hD hS hl) (fun q => kf q H locs ls hP hD hS hl)
theorem z_icmp_ge (C : bb_C X own cc nL) {x y : Int32} {off : Int} (tgt : Nat) (hd : decode cc pc = .ok (.if_icmp .ge off, 3)) (ht : (pc : Int) + off = (tgt : Int)) (kt : y ≤ x → bb_Z X nL ws tgt lv rest) (kf : ¬ y ≤ x → bb_Z X nL ws (pc + 3) lv rest) : bb_Z X nL ws pc lv (.int y :: .int x :: rest) := fun H locs ls hP hD hS hl => lv_icmp_ge C.1 C.2.1 hd ht (fun q => kt q H locs ls hP hD hS hl) (fun q => kf q H locs ls hP hD hS hl)
theorem z_if_gt (C : bb_C X own cc nL) {x : Int32} {off : Int} (tgt : Nat) (hd : decode cc pc = .ok (.ifCond .gt off, 3)) (ht : (pc : Int) + off = (tgt : Int)) (kt : 0 < x → bb_Z X nL ws tgt lv rest) (kf : ¬ 0 < x → bb_Z X nL ws (pc + 3) lv rest) : bb_Z X nL ws pc lv (.int x :: rest) := fun H locs ls hP hD hS hl => lv_if_gt C.1 C.2.1 hd ht (fun q => kt q H locs ls hP hD hS hl) (fun q => kf q H locs ls hP hD hS hl)
theorem z_icmp_gt (C : bb_C X own cc nL) {x y : Int32} {off : Int} (tgt : Nat) (hd : decode cc pc = .ok (.if_icmp .gt off, 3)) (ht : (pc : Int) + off = (tgt : Int)) (kt : y < x → bb_Z X nL ws tgt lv rest) (kf : ¬ y < x → bb_Z X nL ws (pc + 3) lv rest) : bb_Z X nL ws pc lv (.int y :: .int x :: rest) := fun H locs ls hP hD hS hl => lv_icmp_gt C.1 C.2.1 hd ht (fun q => kt q H locs ls hP hD hS hl) (fun q => kf q H locs ls hP hD hS hl)
theorem z_if_le (C : bb_C X own cc nL) {x : Int32} {off : Int} (tgt : Nat) (hd : decode cc pc = .ok (.ifCond .le off, 3)) (ht : (pc : Int) + off = (tgt : Int)) (kt : x ≤ 0 → bb_Z X nL ws tgt lv rest) (kf : ¬ x ≤ 0 → bb_Z X nL ws (pc + 3) lv rest) : bb_Z X nL ws pc lv (.int x :: rest) := fun H locs ls hP hD hS hl => lv_if_le C.1 C.2.1 hd ht (fun q => kt q H locs ls hP hD hS hl) (fun q => kf q H locs ls hP hD hS hl)
theorem z_icmp_le (C : bb_C X own cc nL) {x y : Int32} {off : Int} (tgt : Nat) (hd : decode cc pc = .ok (.if_icmp .le off, 3)) (ht : (pc : Int) + off = (tgt : Int)) (kt : x ≤ y → bb_Z X nL ws tgt lv rest) (kf : ¬ x ≤ y → bb_Z X nL ws (pc + 3) lv rest) : bb_Z X nL ws pc lv (.int y :: .int x :: rest) := fun H locs ls hP hD hS hl => lv_icmp_le C.1 C.2.1 hd ht (fun q => kt q H locs ls hP hD hS hl) (fun q => kf q H locs ls hP hD hS hl)
theorem z_goto (C : bb_C X own cc nL) {off : Int} (tgt : Nat) (hd : decode cc pc = .ok (.goto off, 3)) (ht : (pc : Int) + off = (tgt : Int)) (k : bb_Z X nL ws tgt lv rest) : bb_Z X nL ws pc lv rest := fun H locs ls hP hD hS hl => lv_goto C.1 C.2.1 hd ht (k H locs ls hP hD hS hl)
theorem z_tabIn (C : bb_C X own cc nL) {dflt lo hi : Int} {offs : Array Int} {len : Nat} {x : Int32} {off : Int} (tgt : Nat) (v : Int32) (hd : decode cc pc = .ok (.tableswitch dflt lo hi offs, len)) (hx : x = v) (h1 : ¬ v.toInt < lo) (h2 : ¬ hi < v.toInt) (ho : offs[(v.toInt - lo).toNat]? = some off) (ht : (pc : Int) + off = (tgt : Int)) (k : bb_Z X nL ws tgt lv rest) : bb_Z X nL ws pc lv (.int x :: rest) := fun H locs ls hP hD hS hl => lv_tableIn C.1 C.2.1 hd (by rw [hx]; exact h1) (by rw [hx]; exact h2) (by rw [hx]; exact ho) ht (k H locs ls hP hD hS hl)
theorem z_tabOut (C : bb_C X own cc nL) {dflt lo hi : Int} {offs : Array Int} {len : Nat} {x : Int32} (tgt : Nat) (hd : decode cc pc = .ok (.tableswitch dflt lo hi offs, len)) (h : x.toInt < lo ∨ hi < x.toInt) (ht : (pc : Int) + dflt = (tgt : Int)) (k : bb_Z X nL ws tgt lv rest) : bb_Z X nL ws pc lv (.int x :: rest) := fun H locs ls hP hD hS hl => lv_tableOut C.1 C.2.1 hd h ht (k H locs ls hP hD hS hl)
theorem z_get (C : bb_C X own cc nL) {Cn : String} {T : u_T} {N ci index a : Nat} {fs : List Value} (v : Value) (hin : ∀ w ∈ u_ws Cn T N, w ∈ bb_tb) (hc : bb_CL[ci]? = some (Cn, T, N)) (q0 j : Nat) (hj : j < N) (hT : (T j).1 = Cn) (hl : Cond.fieldLink own index Cn (T j).2.1 (T j).2.2.1 ∈ bb_tb) (he : ws[q0]? = some (a, .inr (ci, fs))) (hv : fs[j]? = some v) (hd : decode cc pc = .ok (.getfield index, 3)) (k : bb_Z X nL ws (pc + 3) lv (v :: rest)) : bb_Z X nL ws pc lv (.ref a :: rest) := fun H locs ls hP hD hS hl9 => va_get C.1 C.2.1 C.2.2.2.2.1 hin C.2.2.2.1 C.2.2.2.2.2.1 hP q0 he hc j hj (C.2.2.2.2.1 _ hl) (fun _ h9 => by rw [hT] at h9; exact h9) hv hd (k H locs ls hP hD hS hl9)
theorem z_put (C : bb_C X own cc nL) {Cn : String} {T : u_T} {N ci index a : Nat} {fs : List Value} {v : Value} {ws' : va_W} {ty0 : Nat → FieldType} {ty : FieldType} (hin : ∀ w ∈ u_ws Cn T N, w ∈ bb_tb) (hty : ∀ k, k < N → parseFieldDescriptor (T k).2.2.1 = some (ty0 k)) (hnm : ∀ a, a < N → ∀ b, b < N → a ≠ b → (T a).2.1 ≠ (T b).2.1) (hc : bb_CL[ci]? = some (Cn, T, N)) (q0 j : Nat) (hj : j < N) (hT : (T j).1 = Cn) (hl : Cond.fieldLink own index Cn (T j).2.1 (T j).2.2.1 ∈ bb_tb) (hfin : (T j).2.2.2 = false) (ht : ty0 j = ty) (hn : narrow ty v = v) (hfit : fits ty v = true) (he : ws[q0]? = some (a, .inr (ci, fs))) (hlen : j < fs.length) (hw : ws.set q0 (a, .inr (ci, fs.set j v)) = ws') (hd : decode cc pc = .ok (.putfield index, 3)) (k : bb_Z X nL ws' (pc + 3) lv rest) : bb_Z X nL ws pc lv (v :: .ref a :: rest) := by
  subst hw
  subst ht
  exact fun H locs ls hP hD hS hl9 => va_put C.1 C.2.1 C.2.2.2.2.1 hin ty0 hty hnm C.2.2.2.1 C.2.2.2.2.2.1 hP hD hS q0 he hc j hj (C.2.2.2.2.1 _ hl) (fun _ h9 => by rw [hT] at h9; exact h9) hfin (hty j hj) hn hfit hlen hd (fun H1 locs1 hP1 hD1 hS1 => k H1 locs1 ls hP1 hD1 hS1 hl9)
theorem z_iald (C : bb_C X own cc nL) {a N : Nat} {cA : ClassId} {f : Nat → Int32} {i : Int32} (q0 t0 j : Nat) (ha : ws[q0]? = some (a, .inl (cA, N, .inl f))) (ht : (bb_ty X.cs)[t0]? = some (cA, .int)) (hin : vp_in i N) (hj : i.toNatClampNeg = j) (hd : decode cc pc = .ok (.iaload, 1)) (k : bb_Z X nL ws (pc + 1) lv (.int (f j) :: rest)) : bb_Z X nL ws pc lv (.int i :: .ref a :: rest) := by
  subst hj
  exact fun H locs ls hP hD hS hl => va_iald C.1 C.2.1 C.2.2.2.2.2.1 hP q0 t0 ha ht hin hd (k H locs ls hP hD hS hl)
theorem z_cald (C : bb_C X own cc nL) {a N : Nat} {cA : ClassId} {f : Nat → Int32} {i : Int32} (q0 t0 j : Nat) (ha : ws[q0]? = some (a, .inl (cA, N, .inl f))) (ht : (bb_ty X.cs)[t0]? = some (cA, .char)) (hin : vp_in i N) (hj : i.toNatClampNeg = j) (hd : decode cc pc = .ok (.caload, 1)) (k : bb_Z X nL ws (pc + 1) lv (.int (f j) :: rest)) : bb_Z X nL ws pc lv (.int i :: .ref a :: rest) := by
  subst hj
  exact fun H locs ls hP hD hS hl => va_cald C.1 C.2.1 C.2.2.2.2.2.1 hP q0 t0 ha ht hin hd (k H locs ls hP hD hS hl)
theorem z_lald (C : bb_C X own cc nL) {a N : Nat} {cA : ClassId} {f : Nat → Int64} {i : Int32} (q0 t0 j : Nat) (ha : ws[q0]? = some (a, .inl (cA, N, .inr (.inl f)))) (ht : (bb_ty X.cs)[t0]? = some (cA, .long)) (hin : vp_in i N) (hj : i.toNatClampNeg = j) (hd : decode cc pc = .ok (.laload, 1)) (k : bb_Z X nL ws (pc + 1) lv (.long (f j) :: rest)) : bb_Z X nL ws pc lv (.int i :: .ref a :: rest) := by
  subst hj
  exact fun H locs ls hP hD hS hl => va_lald C.1 C.2.1 C.2.2.2.2.2.1 hP q0 t0 ha ht hin hd (k H locs ls hP hD hS hl)
theorem z_iast (C : bb_C X own cc nL) {a N : Nat} {cA : ClassId} {f : Nat → Int32} {i : Int32} {x : Int32} {ws' : va_W} (q0 t0 j : Nat) (ha : ws[q0]? = some (a, .inl (cA, N, .inl f))) (ht : (bb_ty X.cs)[t0]? = some (cA, .int)) (hin : vp_in i N) (hj : i.toNatClampNeg = j) (hw : ws.set q0 (a, .inl (cA, N, .inl (upd f j x))) = ws') (hd : decode cc pc = .ok (.iastore, 1)) (k : bb_Z X nL ws' (pc + 1) lv rest) : bb_Z X nL ws pc lv (.int x :: .int i :: .ref a :: rest) := by
  subst hj
  subst hw
  exact fun H locs ls hP hD hS hl => va_iast C.1 C.2.1 C.2.2.2.2.2.1 hP hD hS q0 t0 ha ht hin hd (fun H1 locs1 hP1 hD1 hS1 => k H1 locs1 ls hP1 hD1 hS1 hl)
theorem z_cast (C : bb_C X own cc nL) {a N : Nat} {cA : ClassId} {f : Nat → Int32} {i : Int32} {x : Int32} {ws' : va_W} (q0 t0 j : Nat) (ha : ws[q0]? = some (a, .inl (cA, N, .inl f))) (ht : (bb_ty X.cs)[t0]? = some (cA, .char)) (hin : vp_in i N) (hj : i.toNatClampNeg = j) (hw : ws.set q0 (a, .inl (cA, N, .inl (upd f j (vp_nar .char x)))) = ws') (hd : decode cc pc = .ok (.castore, 1)) (k : bb_Z X nL ws' (pc + 1) lv rest) : bb_Z X nL ws pc lv (.int x :: .int i :: .ref a :: rest) := by
  subst hj
  subst hw
  exact fun H locs ls hP hD hS hl => va_cast C.1 C.2.1 C.2.2.2.2.2.1 hP hD hS q0 t0 ha ht hin hd (fun H1 locs1 hP1 hD1 hS1 => k H1 locs1 ls hP1 hD1 hS1 hl)
theorem z_last (C : bb_C X own cc nL) {a N : Nat} {cA : ClassId} {f : Nat → Int64} {i : Int32} {x : Int64} {ws' : va_W} (q0 t0 j : Nat) (ha : ws[q0]? = some (a, .inl (cA, N, .inr (.inl f)))) (ht : (bb_ty X.cs)[t0]? = some (cA, .long)) (hin : vp_in i N) (hj : i.toNatClampNeg = j) (hw : ws.set q0 (a, .inl (cA, N, .inr (.inl (vp_updL f j x)))) = ws') (hd : decode cc pc = .ok (.lastore, 1)) (k : bb_Z X nL ws' (pc + 1) lv rest) : bb_Z X nL ws pc lv (.long x :: .int i :: .ref a :: rest) := by
  subst hj
  subst hw
  exact fun H locs ls hP hD hS hl => va_last C.1 C.2.1 C.2.2.2.2.2.1 hP hD hS q0 t0 ha ht hin hd (fun H1 locs1 hP1 hD1 hS1 => k H1 locs1 ls hP1 hD1 hS1 hl)
theorem z_aald (C : bb_C X own cc nL) {a N b : Nat} {cA : ClassId} {f : Nat → Option Nat} {i : Int32} {ty : FieldType} (q0 t0 : Nat) (ha : ws[q0]? = some (a, .inl (cA, N, .inr (.inr (.inr (.inr f)))))) (ht : (bb_ty X.cs)[t0]? = some (cA, ty)) (hty : refKind ty = true) (hin : vp_in i N) (hb : f i.toNatClampNeg = some b) (hd : decode cc pc = .ok (.aaload, 1)) (k : bb_Z X nL ws (pc + 1) lv (.ref b :: rest)) : bb_Z X nL ws pc lv (.int i :: .ref a :: rest) := by
  intro H locs ls hP hD hS hl
  have hlt : i.toNatClampNeg < N := Nat.not_le.mp fun q => hin (Or.inr q)
  have hk := k H locs ls hP hD hS hl
  have e : Value.ref b = va_rf (f i.toNatClampNeg) := by rw [hb]; rfl
  rw [e] at hk
  exact W.aald (v := va_rf (f i.toNatClampNeg)) (ty := ty) C.1 C.2.1 (hP q0 _ ha) ((C.2.2.2.2.2.1.2 t0 _ ht).1 N (fun j => va_rf (f j))) hty (fun q => by cases q) (by show ¬ (i < 0 ∨ (arrV _ _ _).slots.size ≤ _); rw [arrV_size]; exact hin) (by show (arrV _ _ _).slots[_]? = _; rw [arrV_read _ _ hlt]) rfl rfl hd hk
theorem z_mmax (C : bb_C X own cc nL) (hR : bb_r X 1) {index : Nat} {x y : Int32} (hl : Cond.methodLink own index Lib.Math.max.name ∈ bb_tb) (hst : Cond.static Lib.Math.max.name ∈ bb_tb) (hini : Cond.initialized "java/lang/Math" ∈ bb_tb) (hcd : Cond.code Lib.Math.max.name Lib.Math.max.code 2 (some .int) ∈ bb_tb) (hcat : (rest.map fun v => v.category).sum ≤ 8) (hd : decode cc pc = .ok (.invokestatic index, 3)) (k : bb_Z X nL ws (pc + 3) lv (.int (if x < y then y else x) :: rest)) : bb_Z X nL ws pc lv (.int y :: .int x :: rest) := fun H locs ls hP hD hS hl9 => va_mmax C.1 C.2.1 (by rw [C.2.2.1, hl9.1]) C.2.2.2.1 (C.2.2.2.2.1 _ hl) (C.2.2.2.2.1 _ hst) (C.2.2.2.2.1 _ hini) (C.2.2.2.2.1 _ hcd) hR.1 (by have := hR.2; omega) C.2.2.2.2.2.2.2.2.1 C.2.2.2.2.2.2.2.2.2 hd (k H locs ls hP hD hS hl9)
theorem z_mmin (C : bb_C X own cc nL) (hR : bb_r X 1) {index : Nat} {x y : Int32} (hl : Cond.methodLink own index Lib.Math.min.name ∈ bb_tb) (hst : Cond.static Lib.Math.min.name ∈ bb_tb) (hini : Cond.initialized "java/lang/Math" ∈ bb_tb) (hcd : Cond.code Lib.Math.min.name Lib.Math.min.code 2 (some .int) ∈ bb_tb) (hcat : (rest.map fun v => v.category).sum ≤ 8) (hd : decode cc pc = .ok (.invokestatic index, 3)) (k : bb_Z X nL ws (pc + 3) lv (.int (if y < x then y else x) :: rest)) : bb_Z X nL ws pc lv (.int y :: .int x :: rest) := fun H locs ls hP hD hS hl9 => va_mmin C.1 C.2.1 (by rw [C.2.2.1, hl9.1]) C.2.2.2.1 (C.2.2.2.2.1 _ hl) (C.2.2.2.2.1 _ hst) (C.2.2.2.2.1 _ hini) (C.2.2.2.2.1 _ hcd) hR.1 (by have := hR.2; omega) C.2.2.2.2.2.2.2.2.1 C.2.2.2.2.2.2.2.2.2 hd (k H locs ls hP hD hS hl9)
theorem z_mabs (C : bb_C X own cc nL) (hR : bb_r X 1) {index : Nat} {x : Int32} (hl : Cond.methodLink own index Lib.Math.abs.name ∈ bb_tb) (hst : Cond.static Lib.Math.abs.name ∈ bb_tb) (hini : Cond.initialized "java/lang/Math" ∈ bb_tb) (hcd : Cond.code Lib.Math.abs.name Lib.Math.abs.code 1 (some .int) ∈ bb_tb) (hcat : (rest.map fun v => v.category).sum ≤ 8) (hd : decode cc pc = .ok (.invokestatic index, 3)) (k : bb_Z X nL ws (pc + 3) lv (.int (if 0 ≤ x then x else 0 - x) :: rest)) : bb_Z X nL ws pc lv (.int x :: rest) := fun H locs ls hP hD hS hl9 => va_mabs C.1 C.2.1 (by rw [C.2.2.1, hl9.1]) C.2.2.2.1 (C.2.2.2.2.1 _ hl) (C.2.2.2.2.1 _ hst) (C.2.2.2.2.1 _ hini) (C.2.2.2.2.1 _ hcd) hR.1 (by have := hR.2; omega) C.2.2.2.2.2.2.2.2.1 C.2.2.2.2.2.2.2.2.2 hd (k H locs ls hP hD hS hl9)
theorem z_copyi (C : bb_C X own cc nL) (hR : bb_r X 1) {index a0 a n0 n1 : Nat} {c0 c1 : ClassId} {f g : Nat → Int32} {ty : FieldType} {ws' : va_W} {sp dp n : Int32} (hl : Cond.methodLink own index arraycopyName ∈ bb_tb) (hna : Cond.native arraycopyName ∈ bb_tb) (hst : Cond.static arraycopyName ∈ bb_tb) (hini : Cond.initialized "java/lang/System" ∈ bb_tb) (q0 q1 t0 t1 sp' dp' n' : Nat) (ha0 : ws[q0]? = some (a0, .inl (c0, n0, .inl f))) (ha1 : ws[q1]? = some (a, .inl (c1, n1, .inl g))) (ht0 : (bb_ty X.cs)[t0]? = some (c0, ty)) (ht1 : (bb_ty X.cs)[t1]? = some (c1, ty)) (hty : ty = .int) (h1 : ¬ sp < 0) (h2 : ¬ dp < 0) (h3 : ¬ n < 0) (hsp : sp.toNatClampNeg = sp') (hdp : dp.toNatClampNeg = dp') (hnn : n.toNatClampNeg = n') (h4 : sp' + n' ≤ n0) (h5 : dp' + n' ≤ n1) (hcat : (rest.map fun v => v.category).sum ≤ 8) (hw : ws.set q1 (a, .inl (c1, n1, .inl (va_cpy f g sp' dp' n'))) = ws') (hd : decode cc pc = .ok (.invokestatic index, 3)) (k : bb_Z X nL ws' (pc + 3) lv rest) : bb_Z X nL ws pc lv (.int n :: .int dp :: .ref a :: .int sp :: .ref a0 :: rest) := by
  subst hsp
  subst hdp
  subst hnn
  subst hw
  subst hty
  have hloc : (rest.map fun v => v.category).sum + (nativeFrameWords "java/lang/System" "arraycopy" 5 + 11) ≤ X.R.locals := by
    have h8 := hR.2
    have e : nativeFrameWords "java/lang/System" "arraycopy" 5 ≤ 20 := by decide +kernel
    omega
  intro H locs ls hP hD hS hl9
  exact va_copyi C.1 C.2.1 (by rw [C.2.2.1, hl9.1]) C.2.2.2.1 (C.2.2.2.2.1 _ hl) (C.2.2.2.2.1 _ hna) (C.2.2.2.2.1 _ hst) (C.2.2.2.2.1 _ hini) C.2.2.2.2.2.1 hP hD hS q0 q1 t0 t1 ha0 ha1 ht0 ht1 rfl h1 h2 h3 h4 h5 (fun i _ => rfl) hR.1 hloc hd (fun H1 locs1 hP1 hD1 hS1 => k H1 locs1 ls hP1 hD1 hS1 hl9)
theorem z_copyl (C : bb_C X own cc nL) (hR : bb_r X 1) {index a0 a n0 n1 : Nat} {c0 c1 : ClassId} {f g : Nat → Int64} {ty : FieldType} {ws' : va_W} {sp dp n : Int32} (hl : Cond.methodLink own index arraycopyName ∈ bb_tb) (hna : Cond.native arraycopyName ∈ bb_tb) (hst : Cond.static arraycopyName ∈ bb_tb) (hini : Cond.initialized "java/lang/System" ∈ bb_tb) (q0 q1 t0 t1 sp' dp' n' : Nat) (ha0 : ws[q0]? = some (a0, .inl (c0, n0, .inr (.inl f)))) (ha1 : ws[q1]? = some (a, .inl (c1, n1, .inr (.inl g)))) (ht0 : (bb_ty X.cs)[t0]? = some (c0, ty)) (ht1 : (bb_ty X.cs)[t1]? = some (c1, ty)) (hty : ty = .long) (h1 : ¬ sp < 0) (h2 : ¬ dp < 0) (h3 : ¬ n < 0) (hsp : sp.toNatClampNeg = sp') (hdp : dp.toNatClampNeg = dp') (hnn : n.toNatClampNeg = n') (h4 : sp' + n' ≤ n0) (h5 : dp' + n' ≤ n1) (hcat : (rest.map fun v => v.category).sum ≤ 8) (hw : ws.set q1 (a, .inl (c1, n1, .inr (.inl (va_cpy f g sp' dp' n')))) = ws') (hd : decode cc pc = .ok (.invokestatic index, 3)) (k : bb_Z X nL ws' (pc + 3) lv rest) : bb_Z X nL ws pc lv (.int n :: .int dp :: .ref a :: .int sp :: .ref a0 :: rest) := by
  subst hsp
  subst hdp
  subst hnn
  subst hw
  subst hty
  have hloc : (rest.map fun v => v.category).sum + (nativeFrameWords "java/lang/System" "arraycopy" 5 + 11) ≤ X.R.locals := by
    have h8 := hR.2
    have e : nativeFrameWords "java/lang/System" "arraycopy" 5 ≤ 20 := by decide +kernel
    omega
  intro H locs ls hP hD hS hl9
  exact va_copyl C.1 C.2.1 (by rw [C.2.2.1, hl9.1]) C.2.2.2.1 (C.2.2.2.2.1 _ hl) (C.2.2.2.2.1 _ hna) (C.2.2.2.2.1 _ hst) (C.2.2.2.2.1 _ hini) C.2.2.2.2.2.1 hP hD hS q0 q1 t0 t1 ha0 ha1 ht0 ht1 rfl h1 h2 h3 h4 h5 (fun i _ => rfl) hR.1 hloc hd (fun H1 locs1 hP1 hD1 hS1 => k H1 locs1 ls hP1 hD1 hS1 hl9)
end ZR
end
section
/-! ===== contracts: a method as a function of its world ===== -/
def bb_P (D : va_G) (cs : Nat → ClassId) (ws : va_W) (sz : Nat) (av : List Value) : Array Value → State → Prop := va_Pc av (fun U => U.heap.size = sz ∧ va_P D bb_CL ws U.heap ∧ va_K D bb_CL (bb_ty cs) U ∧ va_D (fun _ => True) ws)
def bb_Q (D : va_G) (cs : Nat → ClassId) (v : Option Value) (ws ws' : va_W) (sz : Nat) : Array Value → State → Outcome → State → Prop := fun _ st oc t => oc = .returned v ∧ va_P D bb_CL ws' t.heap ∧ va_K D bb_CL (bb_ty cs) t ∧ va_D (va_A ws sz) ws' ∧ va_F (va_A ws sz) st t
/-- method y, of level d: in the world ws, called with av, it answers v and leaves ws' -/
def bb_M (l : Launch) (y : MethodName) (code : ByteArray) (maxL : Nat) (ret : Option FieldType) (d : Nat) (D : va_G) (cs : Nat → ClassId) (av : List Value) (v : Option Value) (ws ws' : va_W) : Prop :=
  ∀ sz, Met l y (.code y code maxL ret :: bb_tb) { frames := d, cells := 0, slots := 0, locals := 40 * d } (bb_P D cs ws sz av) (bb_Q D cs v ws ws' sz) 0 0 (va_A ws sz)
theorem bb_blind {D : va_G} {cs : Nat → ClassId} {ws : va_W} {sz : Nat} {av : List Value} : FrameBlind (bb_P D cs ws sz av) := fun a U g mk q => by
  obtain ⟨q0, q1, qP, qK, qD⟩ := q
  exact ⟨q0, q1, qP, va_K.moved (u := U) (U := U.calling g mk a) (Vm.Alike.refl U.vm) qK, qD⟩
/-- what the end of a walk must be -/
def bb_R (X : bb_X) (v : Option Value) (wR : va_W) : Prop := ∃ (ws0 : va_W) (sz : Nat), X.A = va_A ws0 sz ∧ X.k = 0 ∧ X.n = 0 ∧ X.Q = MQ X.below (bb_Q X.D X.cs v ws0 wR sz) X.args X.s 0 0 (va_A ws0 sz)
theorem bb_mg {l : Launch} {y : MethodName} {code : ByteArray} {maxL : Nat} {ret : Option FieldType} {d : Nat} {D : va_G} {cs : Nat → ClassId} {av : List Value} {v : Option Value} {ws ws' : va_W} {own : String} {lv : List (Nat × Value)} (hy : plainName y.cls = true) (hown : y.cls = own) (hlen : (lg_sl av).length ≤ maxL) (hlv : lv_args 0 av = lv)
    (body : ∀ X : bb_X, X.l = l → X.D = D → X.cs = cs → bb_C X own code maxL → bb_r X d → X.meth.sig.returnType = ret → bb_R X v ws' → bb_Z X maxL ws 0 lv []) : bb_M l y code maxL ret d D cs av v ws ws' := by
  intro sz
  refine Met.ofW (cc := code) (maxL := maxL) (ret := ret) hy rfl ?_
  intro p e s m args below meth c s₁ B hml hv
  obtain ⟨rfl, hsz, hP, hK, hD0⟩ := hv
  subst hsz
  have hts := atoms_spec (ws := .code y code maxL ret :: bb_tb) B.pre
  have hownF : s.vm.findClass own = some m.cls := by rw [← hown]; exact findClass_of_methodNamed B.named
  have hl := lv_entry av (n := maxL) hlen
  rw [hlv] at hl
  rw [lg_entry_eq]
  generalize (lg_sl av ++ List.replicate (maxL - (lg_sl av).length) Slot.unset).toArray = ls at hl ⊢
  exact body (p, l, e, { frames := d, cells := 0, slots := 0, locals := 40 * d }, s, m, av.toArray, below, meth, c, va_A ws s.heap.size, D, cs, MQ below (bb_Q D cs v ws ws' s.heap.size) av.toArray s 0 0 (va_A ws s.heap.size), 0, 0) rfl rfl rfl ⟨B.exec, B.bytes, hml, hownF, fun w hw => hts w (List.mem_cons_of_mem _ hw), hK, B.notSynchronized, fun q hq => Or.inr hq, Nat.le_refl _, Nat.le_refl _⟩ ⟨Nat.le_refl _, Nat.le_refl _⟩ B.returns ⟨ws, s.heap.size, rfl, rfl, rfl, rfl⟩ s.heap [] ls hP (hD0.self (sz := s.heap.size)) va_S.rf hl
section ZE
variable {X : bb_X} {own : String} {cc : ByteArray} {nL : Nat} {ws : va_W} {pc : Nat} {lv : List (Nat × Value)} {rest : List Value}
theorem z_iret (C : bb_C X own cc nL) {v : Int32} (hr : X.meth.sig.returnType = some .int) (h : bb_R X (some (.int v)) ws) (hd : decode cc pc = .ok (.ireturn, 1)) : bb_Z X nL ws pc lv [.int v] := by
  obtain ⟨ws0, sz, hA, hk, hn, hQ⟩ := h
  intro H locs ls hP hD hS hl
  rw [hQ, hk, hn]
  rw [hA] at hD hS
  exact W.iret C.1 C.2.1 hr (fun t ht hW => ⟨rfl, by rw [ht]; exact hP, va_K.moved hW.alike C.2.2.2.2.2.1, hD, hS.F ht⟩) hS.2.2 hd C.2.2.2.2.2.2.1
theorem z_zret (C : bb_C X own cc nL) {v : Int32} {ty : FieldType} (hr : X.meth.sig.returnType = some ty) (hn : narrow ty (.int v) = .int v) (h : bb_R X (some (.int v)) ws) (hd : decode cc pc = .ok (.ireturn, 1)) : bb_Z X nL ws pc lv [.int v] := by
  obtain ⟨ws0, sz, hA, hk, hn0, hQ⟩ := h
  intro H locs ls hP hD hS hl
  rw [hQ, hk, hn0]
  rw [hA] at hD hS
  exact W.zret C.1 C.2.1 hr hn (fun t ht hW => ⟨rfl, by rw [ht]; exact hP, va_K.moved hW.alike C.2.2.2.2.2.1, hD, hS.F ht⟩) hS.2.2 hd C.2.2.2.2.2.2.1
theorem z_vret (C : bb_C X own cc nL) (hr : X.meth.sig.returnType = none) (h : bb_R X none ws) (hd : decode cc pc = .ok (.return_, 1)) : bb_Z X nL ws pc lv [] := by
  obtain ⟨ws0, sz, hA, hk, hn0, hQ⟩ := h
  intro H locs ls hP hD hS hl
  rw [hQ, hk, hn0]
  rw [hA] at hD hS
  exact W.vret C.1 C.2.1 hr (fun t ht hW => ⟨rfl, by rw [ht]; exact hP, va_K.moved hW.alike C.2.2.2.2.2.1, hD, hS.F ht⟩) hS.2.2 hd C.2.2.2.2.2.2.1
end ZE
theorem bb_nz {v : Int32} (h : bb_z v) : narrow .boolean (.int v) = .int v := by
  rcases h with rfl | rfl <;> decide +kernel
theorem bb_fz {v : Int32} (h : bb_z v) : fits .boolean (.int v) = true := by
  rcases h with rfl | rfl <;> decide +kernel
theorem bb_nc {v : Int32} (h : bb_c v) : narrow .char (.int v) = .int v := by
  have e := pk_nc v
  unfold bb_c at h
  rw [h] at e
  exact e
/-! ===== parts of a world ===== -/
theorem bb_nd_of : ∀ l : List Nat, l.Nodup → va_nd l = true
  | [], _ => rfl
  | a :: l, h => by
    have h2 := List.nodup_cons.mp h
    simp only [va_nd, Bool.and_eq_true, decide_eq_true_eq]
    exact ⟨h2.1, bb_nd_of l h2.2⟩
def bb_cut (ws wc ws' wc' : va_W) : Prop := ∃ wr : va_W, List.Perm ws (wr ++ wc) ∧ List.Perm (wr ++ wc') ws'
theorem bb_P_perm {D : va_G} {cl : List vw_C} {w1 w2 : va_W} {H : Heap} (hp : List.Perm w1 w2) (h : va_P D cl w1 H) : va_P D cl w2 H := by
  intro k q hq
  obtain ⟨i, hi⟩ := List.mem_iff_getElem?.mp (hp.symm.mem_iff.mp (List.mem_of_getElem? hq))
  exact h i q hi
theorem bb_D_nodup {A : Nat → Prop} {ws : va_W} (h : va_D A ws) : (ws.map Prod.fst).Nodup := by
  rw [List.nodup_iff_pairwise_ne, List.pairwise_iff_getElem]
  intro i j hi hj hij e
  rw [List.getElem_map, List.getElem_map] at e
  rw [List.length_map] at hi hj
  exact absurd (h.1 i j _ _ (List.getElem?_eq_getElem hi) (List.getElem?_eq_getElem hj) e) (by omega)
theorem bb_D_of {A : Nat → Prop} {ws : va_W} (h : (ws.map Prod.fst).Nodup) (hA : ∀ q ∈ ws, A q.1) : va_D A ws := by
  refine ⟨fun i j p q hi hj e => ?_, fun k q hk => hA q (List.mem_of_getElem? hk)⟩
  rw [List.nodup_iff_pairwise_ne, List.pairwise_iff_getElem] at h
  obtain ⟨li, ei⟩ := List.getElem?_eq_some_iff.mp hi
  obtain ⟨lj, ej⟩ := List.getElem?_eq_some_iff.mp hj
  rcases Nat.lt_trichotomy i j with c | c | c
  · exact absurd (by rw [List.getElem_map, List.getElem_map, ei, ej]; exact e) (h i j (by rw [List.length_map]; exact li) (by rw [List.length_map]; exact lj) c)
  · exact c
  · exact absurd (by rw [List.getElem_map, List.getElem_map, ei, ej]; exact e.symm) (h j i (by rw [List.length_map]; exact lj) (by rw [List.length_map]; exact li) c)
theorem bb_D_perm {A : Nat → Prop} {w1 w2 : va_W} (hp : List.Perm w1 w2) (h : va_D A w1) : va_D A w2 := by
  refine bb_D_of ((hp.map Prod.fst).nodup_iff.mp (bb_D_nodup h)) (fun q hq => ?_)
  obtain ⟨i, hi⟩ := List.mem_iff_getElem?.mp (hp.symm.mem_iff.mp hq)
  exact h.2 i q hi
theorem bb_call {p : Program} {l : Launch} {e : Env} {R : Room} {s : State} {m : MethodId} {args : Array Value} {below : List Frame} {meth : Method} {c : Code} {H : Heap} {locs : List Loc} {cells slots : Nat} {Q : State → Prop} {pc : Nat} {ls : Array Slot} {rest st0 : List Value} {a : Array Value} {A0 : Nat → Prop} {H0 : Heap} {D : va_G} {cs : Nat → ClassId} {v : Option Value} {wc wc' : va_W}
    (hr : va_Run p l e R s m args below meth c H locs cells slots 0 0 (F0 m pc ls st0) rest (bb_Q D cs v wc wc' H.size a) (va_A wc H.size)) (hS : va_S A0 H0 H locs) (hf : ∀ q, va_A wc H.size q → A0 q)
    (kk : ∀ (H1 : Heap) (locs1 : List Loc), va_P D bb_CL wc' H1 → va_D (va_A wc H.size) wc' → (∀ q : Nat, q < H.size → ¬ va_A wc H.size q → H1[q]? = H[q]?) → va_S A0 H0 H1 locs1 → W p l e R s m args below meth c H1 locs1 cells slots Q (F0 m (pc + 3) ls (v.toList ++ rest))) : W p l e R s m args below meth c H locs cells slots Q (F0 m pc ls st0) := by
  intro T hT X
  obtain ⟨v1, st₀, t, T', L, h0, X', hL, e1, e2, ⟨hv, hP1, hK1, hD1, hz, hk⟩, st⟩ := hr T hT X
  cases hv
  rw [h0] at hz hk
  obtain ⟨t2, a1, b1⟩ := kk T'.heap (locs ++ L) (by rw [e1]; exact hP1) hD1 (fun q h1 h2 => by rw [e1]; exact hk q h1 h2)
    ⟨Nat.le_trans hS.1 (by rw [e1]; exact hz), fun q h1 h2 => by rw [e1, hk q (Nat.lt_of_lt_of_le h1 hS.1) (fun z => h2 (hf q z))]; exact hS.2.1 q h1 h2, fun q hq => by
      rcases List.mem_append.mp hq with h | h
      · exact hS.2.2 q h
      · exact hf _ (hL q h)⟩ T' rfl X'
  exact ⟨t2, st t2 a1, b1⟩
/-- what the tables say of a callee -/
def bb_cv (Cn : String) (y : MethodName) (code : ByteArray) (maxL : Nat) (ret : Option FieldType) (n : Nat) : Prop := Cond.instanceMethod y ∈ bb_tb ∧ Cond.selects Cn y y ∈ bb_tb ∧ Cond.initialized Cn ∈ bb_tb ∧ Cond.code y code maxL ret ∈ bb_tb ∧ (y.cls = Cn ∧ y.cls ≠ "java/lang/invoke/MethodHandle" ∧ y.cls ≠ "java/lang/invoke/VarHandle" ∧ (parseMethodDescriptor y.desc).map (fun d => d.parameters.length) = some n) ∧ maxL ≤ 21
def bb_cS (Cn : String) (y : MethodName) (code : ByteArray) (maxL : Nat) (ret : Option FieldType) (n : Nat) : Prop := Cond.static y ∈ bb_tb ∧ Cond.initialized Cn ∈ bb_tb ∧ Cond.code y code maxL ret ∈ bb_tb ∧ (y.cls = Cn ∧ y.cls ≠ "java/lang/invoke/MethodHandle" ∧ y.cls ≠ "java/lang/invoke/VarHandle" ∧ (parseMethodDescriptor y.desc).map (fun d => d.parameters.length) = some n) ∧ maxL ≤ 21
section ZC
variable {X : bb_X} {own : String} {cc : ByteArray} {nL : Nat} {ws : va_W} {pc : Nat} {lv : List (Nat × Value)}
theorem z_behind {ws' wc wc' : va_W} {rest st : List Value} {v : Option Value} {a : Array Value} (C : bb_C X own cc nL) (hcut : bb_cut ws wc ws' wc')
    (hr : ∀ (H : Heap) (locs : List Loc) (ls : Array Slot), va_P X.D bb_CL wc H → va_D (fun _ => True) wc → lv_has ls nL lv → va_Run X.p X.l X.e X.R X.s X.m X.args X.below X.meth X.c H locs X.k X.n 0 0 (F0 X.m pc ls st) rest (bb_Q X.D X.cs v wc wc' H.size a) (va_A wc H.size))
    (k : bb_Z X nL ws' (pc + 3) lv (v.toList ++ rest)) : bb_Z X nL ws pc lv st := by
  obtain ⟨wr, h1, h2⟩ := hcut
  intro H locs ls hP hD hS hl
  have hP := bb_P_perm h1 hP
  have hD := bb_D_perm h1 hD
  have eR : (List.range wr.length).map (fun i => (wr ++ wc)[i]?) = wr.map some := by
    apply List.ext_getElem?
    intro i
    by_cases h : i < wr.length
    · simp [h, List.getElem?_append_left h]
    · simp [h]
  have eC : ((List.range wc.length).map (fun i => wr.length + i)).map (fun i => (wr ++ wc)[i]?) = wc.map some := by
    apply List.ext_getElem?
    intro i
    by_cases h : i < wc.length
    · simp [h]
    · simp [h]
  have nR : va_nd (List.range wr.length) = true := bb_nd_of _ List.nodup_range
  have nC : va_nd ((List.range wc.length).map (fun i => wr.length + i)) = true := by
    refine bb_nd_of _ ?_
    rw [List.nodup_iff_pairwise_ne, List.pairwise_map]
    exact (List.nodup_range (n := wc.length)).imp (fun hab e => hab (by omega))
  have hdis : ∀ i ∈ List.range wr.length, i ∉ (List.range wc.length).map (fun i => wr.length + i) := fun i hi h => by
    obtain ⟨j, -, rfl⟩ := List.mem_map.mp h
    have := List.mem_range.mp hi
    omega
  have hPc : va_P X.D bb_CL wc H := fun k q hk => by
    obtain ⟨i, hi⟩ := List.mem_iff_getElem?.mp (List.mem_append_right wr (List.mem_of_getElem? hk))
    exact hP i q hi
  have hDc := hD.sub (ws' := wc) _ nC eC
  have hF := va_free (wc := wc) hD hS C.2.2.2.2.2.2.2.1 _ eC
  refine bb_call (hr H locs ls hPc (hDc.weaken (fun _ _ _ _ => trivial)) hl) hS hF (fun H1 locs1 hP1 hD1 hk1 hS1 => ?_)
  obtain ⟨hP2, hD2⟩ := va_join (wr := wr) (w1 := wc') hP hD _ _ eC eR nR hdis hk1 hF hP1 hD1
  exact k H1 locs1 ls (bb_P_perm h2 hP2) (bb_D_perm h2 hD2) hS1 hl
theorem z_callV {index n d maxL b ci q0 : Nat} {y : MethodName} {code : ByteArray} {ret : Option FieldType} {ws' wc wc' : va_W} {As rest st : List Value} {v : Option Value} {Cn : String} {T : u_T} {N : Nat} {fs : List Value} (C : bb_C X own cc nL) (hR : bb_r X (d + 1)) (hM : bb_M X.l y code maxL ret d X.D X.cs (.ref b :: As) v wc wc') (hcut : bb_cut ws wc ws' wc') (hcl : bb_cv Cn y code maxL ret n) (hl : Cond.methodLink own index y ∈ bb_tb) (hc : bb_CL[ci]? = some (Cn, T, N)) (he : wc[q0]? = some (b, .inr (ci, fs))) (hn : As.length = n) (hst : st = As.reverse ++ .ref b :: rest) (hcat : (rest.map fun v => v.category).sum ≤ 8) (hd : decode cc pc = .ok (.invokevirtual index, 3)) (k : bb_Z X nL ws' (pc + 3) lv (v.toList ++ rest)) : bb_Z X nL ws pc lv st := by
  obtain ⟨i1, i2, i3, i4, i5, i6⟩ := hcl
  have hr8 := hR.2
  have hcw : CallW X.R X.s X.args own Cn index y code maxL ret (.code y code maxL ret :: bb_tb) { frames := d, cells := 0, slots := 0, locals := 40 * d } 0 0 n :=
    cwV n C.2.2.2.2.1 (bb_goodIn (fun w hw => by
      rcases List.mem_append.mp hw with h | h
      · rcases List.mem_cons.mp h with rfl | h
        · exact hl
        · rcases List.mem_cons.mp h with rfl | h
          · exact i1
          · rcases List.mem_cons.mp h with rfl | h
            · exact i2
            · rw [List.mem_singleton.mp h]
              exact i3
      · rcases List.mem_cons.mp h with rfl | h
        · exact i4
        · exact h)) rfl rfl rfl i5 ⟨hR.1, by show 8 + (maxL + 11) + 40 * d ≤ X.R.locals; omega⟩
  refine z_behind (a := (Value.ref b :: As).toArray) C hcut (fun H locs ls hPc hDc hl9 => ?_) k
  exact va_runV ⟨C.1, C.2.1, C.2.2.1, C.2.2.2.1, C.2.2.2.2.1⟩ (hM H.size) hcw ⟨bb_blind, va_recv C.2.2.2.2.2.1 hPc hc he, fun U hU hW => ⟨rfl, by rw [hU], by rw [hU]; exact hPc, va_K.moved hW.alike C.2.2.2.2.2.1, hDc⟩⟩ rfl hn hl9.1 hst (lv_room hcat) hd ⟨C.2.2.2.2.2.2.2.2.1, C.2.2.2.2.2.2.2.2.2⟩
theorem z_callS {index n d maxL : Nat} {y : MethodName} {code : ByteArray} {ret : Option FieldType} {ws' wc wc' : va_W} {As rest st : List Value} {v : Option Value} {Cn : String} (C : bb_C X own cc nL) (hR : bb_r X (d + 1)) (hM : bb_M X.l y code maxL ret d X.D X.cs As v wc wc') (hcut : bb_cut ws wc ws' wc') (hcl : bb_cS Cn y code maxL ret n) (hl : Cond.methodLink own index y ∈ bb_tb) (hn : As.length = n) (hst : st = As.reverse ++ rest) (hcat : (rest.map fun v => v.category).sum ≤ 8) (hd : decode cc pc = .ok (.invokestatic index, 3)) (k : bb_Z X nL ws' (pc + 3) lv (v.toList ++ rest)) : bb_Z X nL ws pc lv st := by
  obtain ⟨i1, i3, i4, ⟨i5, i7⟩, i6⟩ := hcl
  have hr8 := hR.2
  have hcb : CallB X.R X.s X.args own index y code maxL ret (.code y code maxL ret :: bb_tb) { frames := d, cells := 0, slots := 0, locals := 40 * d } 0 0 n :=
    callB_of n C.2.2.2.2.1 (bb_goodIn (fun w hw => by
      rcases List.mem_cons.mp hw with rfl | h
      · exact i4
      · exact h)) rfl rfl rfl (by rw [i5]; exact C.2.2.2.2.1 _ i3) (C.2.2.2.2.1 _ hl) i7 ⟨hR.1, by show 8 + (maxL + 11) + 40 * d ≤ X.R.locals; omega⟩
  refine z_behind (a := As.toArray) C hcut (fun H locs ls hPc hDc hl9 => ?_) k
  exact va_runS ⟨C.1, C.2.1, C.2.2.1, C.2.2.2.1, C.2.2.2.2.1⟩ (hM H.size) ⟨hcb, C.2.2.2.2.1 _ i1⟩ ⟨bb_blind, fun U hU hW => ⟨rfl, by rw [hU], by rw [hU]; exact hPc, va_K.moved hW.alike C.2.2.2.2.2.1, hDc⟩⟩ rfl hn hl9.1 hst (lv_room hcat) hd ⟨C.2.2.2.2.2.2.2.2.1, C.2.2.2.2.2.2.2.2.2⟩
theorem z_callVi {index n d maxL b ci q0 : Nat} {y : MethodName} {code : ByteArray} {ret : Option FieldType} {ws' wc wc' : va_W} {As rest st : List Value} {r : Int32} {Cn : String} {T : u_T} {N : Nat} {fs : List Value} (C : bb_C X own cc nL) (hR : bb_r X (d + 1)) (hM : bb_M X.l y code maxL ret d X.D X.cs (.ref b :: As) (some (.int r)) wc wc') (hcut : bb_cut ws wc ws' wc') (hcl : bb_cv Cn y code maxL ret n) (hl : Cond.methodLink own index y ∈ bb_tb) (hc : bb_CL[ci]? = some (Cn, T, N)) (he : wc[q0]? = some (b, .inr (ci, fs))) (hn : As.length = n) (hst : st = As.reverse ++ .ref b :: rest) (hcat : (rest.map fun v => v.category).sum ≤ 8) (hd : decode cc pc = .ok (.invokevirtual index, 3)) (k : bb_Z X nL ws' (pc + 3) lv (.int r :: rest)) : bb_Z X nL ws pc lv st := z_callV C hR hM hcut hcl hl hc he hn hst hcat hd k
theorem z_callVv {index n d maxL b ci q0 : Nat} {y : MethodName} {code : ByteArray} {ret : Option FieldType} {ws' wc wc' : va_W} {As rest st : List Value} {Cn : String} {T : u_T} {N : Nat} {fs : List Value} (C : bb_C X own cc nL) (hR : bb_r X (d + 1)) (hM : bb_M X.l y code maxL ret d X.D X.cs (.ref b :: As) none wc wc') (hcut : bb_cut ws wc ws' wc') (hcl : bb_cv Cn y code maxL ret n) (hl : Cond.methodLink own index y ∈ bb_tb) (hc : bb_CL[ci]? = some (Cn, T, N)) (he : wc[q0]? = some (b, .inr (ci, fs))) (hn : As.length = n) (hst : st = As.reverse ++ .ref b :: rest) (hcat : (rest.map fun v => v.category).sum ≤ 8) (hd : decode cc pc = .ok (.invokevirtual index, 3)) (k : bb_Z X nL ws' (pc + 3) lv rest) : bb_Z X nL ws pc lv st := z_callV C hR hM hcut hcl hl hc he hn hst hcat hd k
theorem z_callSi {index n d maxL : Nat} {y : MethodName} {code : ByteArray} {ret : Option FieldType} {ws' wc wc' : va_W} {As rest st : List Value} {r : Int32} {Cn : String} (C : bb_C X own cc nL) (hR : bb_r X (d + 1)) (hM : bb_M X.l y code maxL ret d X.D X.cs As (some (.int r)) wc wc') (hcut : bb_cut ws wc ws' wc') (hcl : bb_cS Cn y code maxL ret n) (hl : Cond.methodLink own index y ∈ bb_tb) (hn : As.length = n) (hst : st = As.reverse ++ rest) (hcat : (rest.map fun v => v.category).sum ≤ 8) (hd : decode cc pc = .ok (.invokestatic index, 3)) (k : bb_Z X nL ws' (pc + 3) lv (.int r :: rest)) : bb_Z X nL ws pc lv st := z_callS C hR hM hcut hcl hl hn hst hcat hd k
theorem z_callSv {index n d maxL : Nat} {y : MethodName} {code : ByteArray} {ret : Option FieldType} {ws' wc wc' : va_W} {As rest st : List Value} {Cn : String} (C : bb_C X own cc nL) (hR : bb_r X (d + 1)) (hM : bb_M X.l y code maxL ret d X.D X.cs As none wc wc') (hcut : bb_cut ws wc ws' wc') (hcl : bb_cS Cn y code maxL ret n) (hl : Cond.methodLink own index y ∈ bb_tb) (hn : As.length = n) (hst : st = As.reverse ++ rest) (hcat : (rest.map fun v => v.category).sum ≤ 8) (hd : decode cc pc = .ok (.invokestatic index, 3)) (k : bb_Z X nL ws' (pc + 3) lv rest) : bb_Z X nL ws pc lv st := z_callS C hR hM hcut hcl hl hn hst hcat hd k
end ZC
theorem bb_cut_self (ws ws' : va_W) : bb_cut ws ws ws' ws' := ⟨[], List.Perm.refl _, List.Perm.refl _⟩
theorem bb_cut_none (ws : va_W) : bb_cut ws [] ws [] := ⟨ws, by rw [List.append_nil], by rw [List.append_nil]⟩
/-- the first of several -/
theorem cut_h {b c b' : va_W} : bb_cut (b ++ c) b (b' ++ c) b' := ⟨c, List.perm_append_comm, List.perm_append_comm⟩
/-- one behind the first -/
theorem cut_r {w r r' x x' : va_W} (h : bb_cut r x r' x') : bb_cut (w ++ r) x (w ++ r') x' := by
  obtain ⟨wr, h1, h2⟩ := h
  exact ⟨w ++ wr, by rw [List.append_assoc]; exact h1.append_left w, by rw [List.append_assoc]; exact h2.append_left w⟩
/-- the first and one behind it, in either order -/
theorem cut_a {b b' c c' y y' : va_W} (h : bb_cut c y c' y') : bb_cut (b ++ c) (b ++ y) (b' ++ c') (b' ++ y') := by
  obtain ⟨wr, h1, h2⟩ := h
  refine ⟨wr, (h1.append_left b).trans ?_, List.Perm.trans ?_ (h2.append_left b')⟩
  · rw [← List.append_assoc, ← List.append_assoc]
    exact List.Perm.append_right y List.perm_append_comm
  · rw [← List.append_assoc, ← List.append_assoc]
    exact List.Perm.append_right y' List.perm_append_comm
theorem cut_b {b b' c c' y y' : va_W} (h : bb_cut c y c' y') : bb_cut (b ++ c) (y ++ b) (b' ++ c') (y' ++ b') := by
  obtain ⟨wr, h1, h2⟩ := cut_a (b := b) (b' := b') h
  exact ⟨wr, h1.trans (List.Perm.append_left wr List.perm_append_comm), (List.Perm.append_left wr List.perm_append_comm).trans h2⟩
end
section
set_option maxRecDepth 100000 in
theorem bf_X4_10 : Cond.fieldLink RX4 10 RX4 "now" "LBlindBuff$City;" ∈ bb_tb := bb_in 182 (by decide +kernel) (by decide +kernel)
set_option maxRecDepth 100000 in
theorem bf_X4_19 : Cond.fieldLink RX4 19 RX4 "past" "LBlindBuff$Past;" ∈ bb_tb := bb_in 183 (by decide +kernel) (by decide +kernel)
set_option maxRecDepth 100000 in
theorem bf_X4_23 : Cond.fieldLink RX4 23 RX4 "trial" "LBlindBuff$City;" ∈ bb_tb := bb_in 184 (by decide +kernel) (by decide +kernel)
set_option maxRecDepth 100000 in
theorem bf_X4_26 : Cond.fieldLink RX4 26 RX4 "keptCity" "LBlindBuff$City;" ∈ bb_tb := bb_in 185 (by decide +kernel) (by decide +kernel)
set_option maxRecDepth 100000 in
theorem bf_X4_29 : Cond.fieldLink RX4 29 RX4 "keptPast" "LBlindBuff$Past;" ∈ bb_tb := bb_in 186 (by decide +kernel) (by decide +kernel)
set_option maxRecDepth 100000 in
theorem bf_X4_35 : Cond.fieldLink RX4 35 RX4 "tape" "LBlindBuff$Tape;" ∈ bb_tb := bb_in 188 (by decide +kernel) (by decide +kernel)
set_option maxRecDepth 100000 in
theorem bf_X4_41 : Cond.fieldLink RX4 41 RX4 "sheets" "[LBlindBuff$Row;" ∈ bb_tb := bb_in 189 (by decide +kernel) (by decide +kernel)
set_option maxRecDepth 100000 in
theorem bf_X4_61 : Cond.fieldLink RX4 61 RX0 "people" "I" ∈ bb_tb := bb_in 61 (by decide +kernel) (by decide +kernel)
set_option maxRecDepth 100000 in
theorem bf_X4_73 : Cond.fieldLink RX4 73 RX0 "kind" "[I" ∈ bb_tb := bb_in 83 (by decide +kernel) (by decide +kernel)
set_option maxRecDepth 100000 in
theorem bf_X4_77 : Cond.fieldLink RX4 77 RX0 "cell" "[I" ∈ bb_tb := bb_in 86 (by decide +kernel) (by decide +kernel)
set_option maxRecDepth 100000 in
theorem bf_X4_80 : Cond.fieldLink RX4 80 RX0 "noise" "[I" ∈ bb_tb := bb_in 88 (by decide +kernel) (by decide +kernel)
set_option maxRecDepth 100000 in
theorem bf_X4_83 : Cond.fieldLink RX4 83 RX0 "look" "[I" ∈ bb_tb := bb_in 90 (by decide +kernel) (by decide +kernel)
set_option maxRecDepth 100000 in
theorem bf_X4_86 : Cond.fieldLink RX4 86 RX0 "disguise" "[I" ∈ bb_tb := bb_in 92 (by decide +kernel) (by decide +kernel)
set_option maxRecDepth 100000 in
theorem bf_X4_105 : Cond.fieldLink RX4 105 RX3 "length" "I" ∈ bb_tb := bb_in 150 (by decide +kernel) (by decide +kernel)
set_option maxRecDepth 100000 in
theorem bf_X4_119 : Cond.fieldLink RX4 119 RX3 "at" "I" ∈ bb_tb := bb_in 152 (by decide +kernel) (by decide +kernel)
set_option maxRecDepth 100000 in
theorem bf_X4_122 : Cond.fieldLink RX4 122 RX0 "rows" "I" ∈ bb_tb := bb_in 56 (by decide +kernel) (by decide +kernel)
set_option maxRecDepth 100000 in
theorem bf_X4_125 : Cond.fieldLink RX4 125 RX0 "columns" "I" ∈ bb_tb := bb_in 59 (by decide +kernel) (by decide +kernel)
set_option maxRecDepth 100000 in
theorem bf_X4_128 : Cond.fieldLink RX4 128 RX0 "constable" "I" ∈ bb_tb := bb_in 66 (by decide +kernel) (by decide +kernel)
set_option maxRecDepth 100000 in
theorem bf_X4_131 : Cond.fieldLink RX4 131 RX0 "minute" "I" ∈ bb_tb := bb_in 72 (by decide +kernel) (by decide +kernel)
set_option maxRecDepth 100000 in
theorem bf_X4_134 : Cond.fieldLink RX4 134 RX0 "caught" "I" ∈ bb_tb := bb_in 69 (by decide +kernel) (by decide +kernel)
set_option maxRecDepth 100000 in
theorem bf_X4_137 : Cond.fieldLink RX4 137 RX0 "right" "I" ∈ bb_tb := bb_in 75 (by decide +kernel) (by decide +kernel)
set_option maxRecDepth 100000 in
theorem bf_X4_140 : Cond.fieldLink RX4 140 RX0 "wrong" "I" ∈ bb_tb := bb_in 78 (by decide +kernel) (by decide +kernel)
set_option maxRecDepth 100000 in
theorem bf_X4_146 : Cond.fieldLink RX4 146 RX1 "known" "I" ∈ bb_tb := bb_in 134 (by decide +kernel) (by decide +kernel)
set_option maxRecDepth 100000 in
theorem bf_X4_165 : Cond.fieldLink RX4 165 RX0 "draw" "I" ∈ bb_tb := bb_in 81 (by decide +kernel) (by decide +kernel)
set_option maxRecDepth 100000 in
theorem bf_X4_190 : Cond.fieldLink RX4 190 RX4 "kept" "Z" ∈ bb_tb := bb_in 187 (by decide +kernel) (by decide +kernel)
set_option maxRecDepth 100000 in
theorem bf_X4_216 : Cond.fieldLink RX4 216 RX2 "length" "I" ∈ bb_tb := bb_in 171 (by decide +kernel) (by decide +kernel)
set_option maxRecDepth 100000 in
theorem bf_X4_220 : Cond.fieldLink RX4 220 RX2 "lane" "I" ∈ bb_tb := bb_in 169 (by decide +kernel) (by decide +kernel)
set_option maxRecDepth 100000 in
theorem bf_X4_226 : Cond.fieldLink RX4 226 RX2 "items" "[J" ∈ bb_tb := bb_in 173 (by decide +kernel) (by decide +kernel)
set_option maxRecDepth 100000 in
theorem bf_X0_9 : Cond.fieldLink RX0 9 RX0 "rows" "I" ∈ bb_tb := bb_in 54 (by decide +kernel) (by decide +kernel)
set_option maxRecDepth 100000 in
theorem bf_X0_15 : Cond.fieldLink RX0 15 RX0 "columns" "I" ∈ bb_tb := bb_in 57 (by decide +kernel) (by decide +kernel)
set_option maxRecDepth 100000 in
theorem bf_X0_18 : Cond.fieldLink RX0 18 RX0 "draw" "I" ∈ bb_tb := bb_in 79 (by decide +kernel) (by decide +kernel)
set_option maxRecDepth 100000 in
theorem bf_X0_21 : Cond.fieldLink RX0 21 RX0 "kind" "[I" ∈ bb_tb := bb_in 82 (by decide +kernel) (by decide +kernel)
set_option maxRecDepth 100000 in
theorem bf_X0_25 : Cond.fieldLink RX0 25 RX0 "cell" "[I" ∈ bb_tb := bb_in 84 (by decide +kernel) (by decide +kernel)
set_option maxRecDepth 100000 in
theorem bf_X0_28 : Cond.fieldLink RX0 28 RX0 "noise" "[I" ∈ bb_tb := bb_in 87 (by decide +kernel) (by decide +kernel)
set_option maxRecDepth 100000 in
theorem bf_X0_31 : Cond.fieldLink RX0 31 RX0 "look" "[I" ∈ bb_tb := bb_in 89 (by decide +kernel) (by decide +kernel)
set_option maxRecDepth 100000 in
theorem bf_X0_34 : Cond.fieldLink RX0 34 RX0 "disguise" "[I" ∈ bb_tb := bb_in 91 (by decide +kernel) (by decide +kernel)
set_option maxRecDepth 100000 in
theorem bf_X0_37 : Cond.fieldLink RX0 37 RX0 "people" "I" ∈ bb_tb := bb_in 60 (by decide +kernel) (by decide +kernel)
set_option maxRecDepth 100000 in
theorem bf_X0_40 : Cond.fieldLink RX0 40 RX0 "constable" "I" ∈ bb_tb := bb_in 62 (by decide +kernel) (by decide +kernel)
set_option maxRecDepth 100000 in
theorem bf_X0_43 : Cond.fieldLink RX0 43 RX0 "caught" "I" ∈ bb_tb := bb_in 67 (by decide +kernel) (by decide +kernel)
set_option maxRecDepth 100000 in
theorem bf_X0_46 : Cond.fieldLink RX0 46 RX0 "minute" "I" ∈ bb_tb := bb_in 70 (by decide +kernel) (by decide +kernel)
set_option maxRecDepth 100000 in
theorem bf_X0_49 : Cond.fieldLink RX0 49 RX0 "right" "I" ∈ bb_tb := bb_in 73 (by decide +kernel) (by decide +kernel)
set_option maxRecDepth 100000 in
theorem bf_X0_52 : Cond.fieldLink RX0 52 RX0 "wrong" "I" ∈ bb_tb := bb_in 76 (by decide +kernel) (by decide +kernel)
set_option maxRecDepth 100000 in
theorem bf_X1_13 : Cond.fieldLink RX1 13 RX1 "steps" "[[I" ∈ bb_tb := bb_in 131 (by decide +kernel) (by decide +kernel)
set_option maxRecDepth 100000 in
theorem bf_X1_16 : Cond.fieldLink RX1 16 RX1 "known" "I" ∈ bb_tb := bb_in 133 (by decide +kernel) (by decide +kernel)
set_option maxRecDepth 100000 in
theorem bf_X1_20 : Cond.fieldLink RX1 20 RX1 "place" "I" ∈ bb_tb := bb_in 132 (by decide +kernel) (by decide +kernel)
set_option maxRecDepth 100000 in
theorem bf_X1_23 : Cond.fieldLink RX1 23 RX0 "cell" "[I" ∈ bb_tb := bb_in 85 (by decide +kernel) (by decide +kernel)
set_option maxRecDepth 100000 in
theorem bf_X1_35 : Cond.fieldLink RX1 35 RX0 "constable" "I" ∈ bb_tb := bb_in 63 (by decide +kernel) (by decide +kernel)
set_option maxRecDepth 100000 in
theorem bf_X1_38 : Cond.fieldLink RX1 38 RX0 "caught" "I" ∈ bb_tb := bb_in 68 (by decide +kernel) (by decide +kernel)
set_option maxRecDepth 100000 in
theorem bf_X1_41 : Cond.fieldLink RX1 41 RX0 "minute" "I" ∈ bb_tb := bb_in 71 (by decide +kernel) (by decide +kernel)
set_option maxRecDepth 100000 in
theorem bf_X1_44 : Cond.fieldLink RX1 44 RX0 "right" "I" ∈ bb_tb := bb_in 74 (by decide +kernel) (by decide +kernel)
set_option maxRecDepth 100000 in
theorem bf_X1_47 : Cond.fieldLink RX1 47 RX0 "wrong" "I" ∈ bb_tb := bb_in 77 (by decide +kernel) (by decide +kernel)
set_option maxRecDepth 100000 in
theorem bf_X1_50 : Cond.fieldLink RX1 50 RX0 "draw" "I" ∈ bb_tb := bb_in 80 (by decide +kernel) (by decide +kernel)
set_option maxRecDepth 100000 in
theorem bf_X2_11 : Cond.fieldLink RX2 11 RX2 "lane" "I" ∈ bb_tb := bb_in 168 (by decide +kernel) (by decide +kernel)
set_option maxRecDepth 100000 in
theorem bf_X2_15 : Cond.fieldLink RX2 15 RX2 "items" "[J" ∈ bb_tb := bb_in 172 (by decide +kernel) (by decide +kernel)
set_option maxRecDepth 100000 in
theorem bf_X2_19 : Cond.fieldLink RX2 19 RX2 "length" "I" ∈ bb_tb := bb_in 170 (by decide +kernel) (by decide +kernel)
set_option maxRecDepth 100000 in
theorem bf_X2_36 : Cond.fieldLink RX2 36 RX0 "constable" "I" ∈ bb_tb := bb_in 65 (by decide +kernel) (by decide +kernel)
set_option maxRecDepth 100000 in
theorem bf_X3_9 : Cond.fieldLink RX3 9 RX3 "letters" "[C" ∈ bb_tb := bb_in 148 (by decide +kernel) (by decide +kernel)
set_option maxRecDepth 100000 in
theorem bf_X3_15 : Cond.fieldLink RX3 15 RX3 "length" "I" ∈ bb_tb := bb_in 149 (by decide +kernel) (by decide +kernel)
set_option maxRecDepth 100000 in
theorem bf_X3_19 : Cond.fieldLink RX3 19 RX3 "at" "I" ∈ bb_tb := bb_in 151 (by decide +kernel) (by decide +kernel)
set_option maxRecDepth 100000 in
theorem bf_X3_56 : Cond.fieldLink RX3 56 RX0 "constable" "I" ∈ bb_tb := bb_in 64 (by decide +kernel) (by decide +kernel)
set_option maxRecDepth 100000 in
theorem bf_X3_75 : Cond.fieldLink RX3 75 RX0 "rows" "I" ∈ bb_tb := bb_in 55 (by decide +kernel) (by decide +kernel)
set_option maxRecDepth 100000 in
theorem bf_X3_78 : Cond.fieldLink RX3 78 RX0 "columns" "I" ∈ bb_tb := bb_in 58 (by decide +kernel) (by decide +kernel)
set_option maxRecDepth 100000 in
theorem bf_X5_7 : Cond.fieldLink RX5 7 RX5 "now" "[I" ∈ bb_tb := bb_in 631 (by decide +kernel) (by decide +kernel)
set_option maxRecDepth 100000 in
theorem bf_X5_13 : Cond.fieldLink RX5 13 RX5 "tape" "[I" ∈ bb_tb := bb_in 634 (by decide +kernel) (by decide +kernel)
set_option maxRecDepth 100000 in
theorem bf_X5_16 : Cond.fieldLink RX5 16 RX5 "read" "[I" ∈ bb_tb := bb_in 638 (by decide +kernel) (by decide +kernel)
set_option maxRecDepth 100000 in
theorem bf_X5_19 : Cond.fieldLink RX5 19 RX5 "undone" "[I" ∈ bb_tb := bb_in 639 (by decide +kernel) (by decide +kernel)
set_option maxRecDepth 100000 in
theorem bf_X5_22 : Cond.fieldLink RX5 22 RX5 "aside" "[I" ∈ bb_tb := bb_in 641 (by decide +kernel) (by decide +kernel)
set_option maxRecDepth 100000 in
theorem bf_X5_25 : Cond.fieldLink RX5 25 RX5 "kept" "[I" ∈ bb_tb := bb_in 642 (by decide +kernel) (by decide +kernel)
set_option maxRecDepth 100000 in
theorem bf_X5_28 : Cond.fieldLink RX5 28 RX5 "lanes" "[I" ∈ bb_tb := bb_in 645 (by decide +kernel) (by decide +kernel)
set_option maxRecDepth 100000 in
theorem bf_X5_31 : Cond.fieldLink RX5 31 RX5 "sizes" "[I" ∈ bb_tb := bb_in 646 (by decide +kernel) (by decide +kernel)
set_option maxRecDepth 100000 in
theorem bf_X5_34 : Cond.fieldLink RX5 34 RX5 "items" "[J" ∈ bb_tb := bb_in 647 (by decide +kernel) (by decide +kernel)
set_option maxRecDepth 100000 in
theorem bf_X5_38 : Cond.fieldLink RX5 38 RX5 "moved" "[J" ∈ bb_tb := bb_in 648 (by decide +kernel) (by decide +kernel)
set_option maxRecDepth 100000 in
theorem bf_X5_45 : Cond.fieldLink RX5 45 RX5 "undos" "I" ∈ bb_tb := bb_in 640 (by decide +kernel) (by decide +kernel)
set_option maxRecDepth 100000 in
theorem bf_X5_80 : Cond.fieldLink RX5 80 RX5 "last" "I" ∈ bb_tb := bb_in 632 (by decide +kernel) (by decide +kernel)
set_option maxRecDepth 100000 in
theorem bf_X5_86 : Cond.fieldLink RX5 86 RX5 "lastNamed" "I" ∈ bb_tb := bb_in 633 (by decide +kernel) (by decide +kernel)
set_option maxRecDepth 100000 in
theorem bf_X5_118 : Cond.fieldLink RX5 118 RX5 "typed" "I" ∈ bb_tb := bb_in 635 (by decide +kernel) (by decide +kernel)
set_option maxRecDepth 100000 in
theorem bf_X5_121 : Cond.fieldLink RX5 121 RX5 "place" "I" ∈ bb_tb := bb_in 636 (by decide +kernel) (by decide +kernel)
set_option maxRecDepth 100000 in
theorem bf_X5_124 : Cond.fieldLink RX5 124 RX5 "isFault" "Z" ∈ bb_tb := bb_in 637 (by decide +kernel) (by decide +kernel)
set_option maxRecDepth 100000 in
theorem bf_X5_187 : Cond.fieldLink RX5 187 RX5 "keptUndos" "I" ∈ bb_tb := bb_in 643 (by decide +kernel) (by decide +kernel)
set_option maxRecDepth 100000 in
theorem bf_X5_190 : Cond.fieldLink RX5 190 RX5 "isKept" "Z" ∈ bb_tb := bb_in 644 (by decide +kernel) (by decide +kernel)
set_option maxRecDepth 100000 in
theorem bm_X4_1 : Cond.methodLink RX4 1 objectInit ∈ bb_tb := bb_in 45 (by decide +kernel) (by decide +kernel)
set_option maxRecDepth 100000 in
theorem bm_X4_46 : Cond.methodLink RX4 46 yX4_outside ∈ bb_tb := bb_in 211 (by decide +kernel) (by decide +kernel)
set_option maxRecDepth 100000 in
theorem bm_X4_50 : Cond.methodLink RX4 50 yX0_build ∈ bb_tb := bb_in 214 (by decide +kernel) (by decide +kernel)
set_option maxRecDepth 100000 in
theorem bm_X4_54 : Cond.methodLink RX4 54 yX1_forget ∈ bb_tb := bb_in 218 (by decide +kernel) (by decide +kernel)
set_option maxRecDepth 100000 in
theorem bm_X4_57 : Cond.methodLink RX4 57 yX0_cells ∈ bb_tb := bb_in 222 (by decide +kernel) (by decide +kernel)
set_option maxRecDepth 100000 in
theorem bm_X4_65 : Cond.methodLink RX4 65 yX0_enter ∈ bb_tb := bb_in 230 (by decide +kernel) (by decide +kernel)
set_option maxRecDepth 100000 in
theorem bm_X4_69 : Cond.methodLink RX4 69 yX4_isNobody ∈ bb_tb := bb_in 238 (by decide +kernel) (by decide +kernel)
set_option maxRecDepth 100000 in
theorem bm_X4_89 : Cond.methodLink RX4 89 yX0_isFree ∈ bb_tb := bb_in 242 (by decide +kernel) (by decide +kernel)
set_option maxRecDepth 100000 in
theorem bm_X4_92 : Cond.methodLink RX4 92 yX0_far ∈ bb_tb := bb_in 246 (by decide +kernel) (by decide +kernel)
set_option maxRecDepth 100000 in
theorem bm_X4_96 : Cond.methodLink RX4 96 yX0_loud ∈ bb_tb := bb_in 261 (by decide +kernel) (by decide +kernel)
set_option maxRecDepth 100000 in
theorem bm_X4_99 : Cond.methodLink RX4 99 yX0_feel ∈ bb_tb := bb_in 269 (by decide +kernel) (by decide +kernel)
set_option maxRecDepth 100000 in
theorem bm_X4_102 : Cond.methodLink RX4 102 yX0_namedBy ∈ bb_tb := bb_in 273 (by decide +kernel) (by decide +kernel)
set_option maxRecDepth 100000 in
theorem bm_X4_108 : Cond.methodLink RX4 108 yX3_add ∈ bb_tb := bb_in 291 (by decide +kernel) (by decide +kernel)
set_option maxRecDepth 100000 in
theorem bm_X4_111 : Cond.methodLink RX4 111 yX0_take ∈ bb_tb := bb_in 299 (by decide +kernel) (by decide +kernel)
set_option maxRecDepth 100000 in
theorem bm_X4_115 : Cond.methodLink RX4 115 yX3_readInto ∈ bb_tb := bb_in 306 (by decide +kernel) (by decide +kernel)
set_option maxRecDepth 100000 in
theorem bm_X4_143 : Cond.methodLink RX4 143 yX0_followed ∈ bb_tb := bb_in 431 (by decide +kernel) (by decide +kernel)
set_option maxRecDepth 100000 in
theorem bm_X4_149 : Cond.methodLink RX4 149 yX1_keep ∈ bb_tb := bb_in 441 (by decide +kernel) (by decide +kernel)
set_option maxRecDepth 100000 in
theorem bm_X4_152 : Cond.methodLink RX4 152 yX0_pass ∈ bb_tb := bb_in 447 (by decide +kernel) (by decide +kernel)
set_option maxRecDepth 100000 in
theorem bm_X4_155 : Cond.methodLink RX4 155 yX0_beside ∈ bb_tb := bb_in 469 (by decide +kernel) (by decide +kernel)
set_option maxRecDepth 100000 in
theorem bm_X4_159 : Cond.methodLink RX4 159 yX0_stray ∈ bb_tb := bb_in 481 (by decide +kernel) (by decide +kernel)
set_option maxRecDepth 100000 in
theorem bm_X4_162 : Cond.methodLink RX4 162 yX1_bringBack ∈ bb_tb := bb_in 493 (by decide +kernel) (by decide +kernel)
set_option maxRecDepth 100000 in
theorem bm_X4_168 : Cond.methodLink RX4 168 yX0_passUntilCaught ∈ bb_tb := bb_in 509 (by decide +kernel) (by decide +kernel)
set_option maxRecDepth 100000 in
theorem bm_X4_171 : Cond.methodLink RX4 171 yX0_behindHowMany ∈ bb_tb := bb_in 518 (by decide +kernel) (by decide +kernel)
set_option maxRecDepth 100000 in
theorem bm_X4_174 : Cond.methodLink RX4 174 yJ6_bitCount_0f7a4 ∈ bb_tb := bb_in 530 (by decide +kernel) (by decide +kernel)
set_option maxRecDepth 100000 in
theorem bm_X4_179 : Cond.methodLink RX4 179 yX0_goesFirst ∈ bb_tb := bb_in 543 (by decide +kernel) (by decide +kernel)
set_option maxRecDepth 100000 in
theorem bm_X4_183 : Cond.methodLink RX4 183 yX4_commonDivisor ∈ bb_tb := bb_in 547 (by decide +kernel) (by decide +kernel)
set_option maxRecDepth 100000 in
theorem bm_X4_186 : Cond.methodLink RX4 186 yX1_takePast ∈ bb_tb := bb_in 554 (by decide +kernel) (by decide +kernel)
set_option maxRecDepth 100000 in
theorem bm_X4_194 : Cond.methodLink RX4 194 yX4_isNoSheet ∈ bb_tb := bb_in 566 (by decide +kernel) (by decide +kernel)
set_option maxRecDepth 100000 in
theorem bm_X4_197 : Cond.methodLink RX4 197 yX2_faultOf ∈ bb_tb := bb_in 569 (by decide +kernel) (by decide +kernel)
set_option maxRecDepth 100000 in
theorem bm_X4_201 : Cond.methodLink RX4 201 yX2_tellsOf ∈ bb_tb := bb_in 581 (by decide +kernel) (by decide +kernel)
set_option maxRecDepth 100000 in
theorem bm_X4_205 : Cond.methodLink RX4 205 yX2_put ∈ bb_tb := bb_in 590 (by decide +kernel) (by decide +kernel)
set_option maxRecDepth 100000 in
theorem bm_X4_209 : Cond.methodLink RX4 209 yX2_renew ∈ bb_tb := bb_in 598 (by decide +kernel) (by decide +kernel)
set_option maxRecDepth 100000 in
theorem bm_X4_212 : Cond.methodLink RX4 212 yX2_isMissing ∈ bb_tb := bb_in 606 (by decide +kernel) (by decide +kernel)
set_option maxRecDepth 100000 in
theorem bm_X4_217 : Cond.methodLink RX4 217 yX2_lose ∈ bb_tb := bb_in 607 (by decide +kernel) (by decide +kernel)
set_option maxRecDepth 100000 in
theorem bm_X4_223 : Cond.methodLink RX4 223 yX2_reaches ∈ bb_tb := bb_in 619 (by decide +kernel) (by decide +kernel)
set_option maxRecDepth 100000 in
theorem bm_X4_230 : Cond.methodLink RX4 230 arraycopyName ∈ bb_tb := bb_in 620 (by decide +kernel) (by decide +kernel)
set_option maxRecDepth 100000 in
theorem bm_X0_3 : Cond.methodLink RX0 3 objectInit ∈ bb_tb := bb_in 53 (by decide +kernel) (by decide +kernel)
set_option maxRecDepth 100000 in
theorem bm_X0_55 : Cond.methodLink RX0 55 arraycopyName ∈ bb_tb := bb_in 303 (by decide +kernel) (by decide +kernel)
set_option maxRecDepth 100000 in
theorem bm_X0_61 : Cond.methodLink RX0 61 yX0_rowOf ∈ bb_tb := bb_in 250 (by decide +kernel) (by decide +kernel)
set_option maxRecDepth 100000 in
theorem bm_X0_65 : Cond.methodLink RX0 65 Lib.Math.abs.name ∈ bb_tb := bb_in 254 (by decide +kernel) (by decide +kernel)
set_option maxRecDepth 100000 in
theorem bm_X0_70 : Cond.methodLink RX0 70 yX0_columnOf ∈ bb_tb := bb_in 257 (by decide +kernel) (by decide +kernel)
set_option maxRecDepth 100000 in
theorem bm_X0_73 : Cond.methodLink RX0 73 yX0_far ∈ bb_tb := bb_in 265 (by decide +kernel) (by decide +kernel)
set_option maxRecDepth 100000 in
theorem bm_X0_76 : Cond.methodLink RX0 76 Lib.Math.max.name ∈ bb_tb := bb_in 266 (by decide +kernel) (by decide +kernel)
set_option maxRecDepth 100000 in
theorem bm_X0_80 : Cond.methodLink RX0 80 yX0_isFree ∈ bb_tb := bb_in 435 (by decide +kernel) (by decide +kernel)
set_option maxRecDepth 100000 in
theorem bm_X0_84 : Cond.methodLink RX0 84 yX0_loud ∈ bb_tb := bb_in 436 (by decide +kernel) (by decide +kernel)
set_option maxRecDepth 100000 in
theorem bm_X0_87 : Cond.methodLink RX0 87 yJ6_bitCount_0f7a4 ∈ bb_tb := bb_in 277 (by decide +kernel) (by decide +kernel)
set_option maxRecDepth 100000 in
theorem bm_X0_92 : Cond.methodLink RX0 92 yX0_followed ∈ bb_tb := bb_in 451 (by decide +kernel) (by decide +kernel)
set_option maxRecDepth 100000 in
theorem bm_X0_96 : Cond.methodLink RX0 96 yX0_nearerTo ∈ bb_tb := bb_in 452 (by decide +kernel) (by decide +kernel)
set_option maxRecDepth 100000 in
theorem bm_X0_99 : Cond.methodLink RX0 99 yX0_firstOnHisCell ∈ bb_tb := bb_in 459 (by decide +kernel) (by decide +kernel)
set_option maxRecDepth 100000 in
theorem bm_X0_102 : Cond.methodLink RX0 102 yX0_feel ∈ bb_tb := bb_in 463 (by decide +kernel) (by decide +kernel)
set_option maxRecDepth 100000 in
theorem bm_X0_105 : Cond.methodLink RX0 105 yX0_namedBy ∈ bb_tb := bb_in 464 (by decide +kernel) (by decide +kernel)
set_option maxRecDepth 100000 in
theorem bm_X0_108 : Cond.methodLink RX0 108 yJ6_compare_7cf53 ∈ bb_tb := bb_in 456 (by decide +kernel) (by decide +kernel)
set_option maxRecDepth 100000 in
theorem bm_X0_111 : Cond.methodLink RX0 111 yX0_pass ∈ bb_tb := bb_in 513 (by decide +kernel) (by decide +kernel)
set_option maxRecDepth 100000 in
theorem bm_X0_117 : Cond.methodLink RX0 117 yX0_beside ∈ bb_tb := bb_in 488 (by decide +kernel) (by decide +kernel)
set_option maxRecDepth 100000 in
theorem bm_X1_3 : Cond.methodLink RX1 3 objectInit ∈ bb_tb := bb_in 128 (by decide +kernel) (by decide +kernel)
set_option maxRecDepth 100000 in
theorem bm_X1_29 : Cond.methodLink RX1 29 arraycopyName ∈ bb_tb := bb_in 445 (by decide +kernel) (by decide +kernel)
set_option maxRecDepth 100000 in
theorem bm_X1_53 : Cond.methodLink RX1 53 Lib.Math.min.name ∈ bb_tb := bb_in 446 (by decide +kernel) (by decide +kernel)
set_option maxRecDepth 100000 in
theorem bm_X2_3 : Cond.methodLink RX2 3 objectInit ∈ bb_tb := bb_in 167 (by decide +kernel) (by decide +kernel)
set_option maxRecDepth 100000 in
theorem bm_X2_22 : Cond.methodLink RX2 22 yX2_isMissing ∈ bb_tb := bb_in 573 (by decide +kernel) (by decide +kernel)
set_option maxRecDepth 100000 in
theorem bm_X2_26 : Cond.methodLink RX2 26 yX2_reaches ∈ bb_tb := bb_in 577 (by decide +kernel) (by decide +kernel)
set_option maxRecDepth 100000 in
theorem bm_X2_30 : Cond.methodLink RX2 30 yX0_pass ∈ bb_tb := bb_in 585 (by decide +kernel) (by decide +kernel)
set_option maxRecDepth 100000 in
theorem bm_X3_3 : Cond.methodLink RX3 3 objectInit ∈ bb_tb := bb_in 147 (by decide +kernel) (by decide +kernel)
set_option maxRecDepth 100000 in
theorem bm_X3_22 : Cond.methodLink RX3 22 yX3_readStreets ∈ bb_tb := bb_in 310 (by decide +kernel) (by decide +kernel)
set_option maxRecDepth 100000 in
theorem bm_X3_26 : Cond.methodLink RX3 26 yX3_readSign ∈ bb_tb := bb_in 322 (by decide +kernel) (by decide +kernel)
set_option maxRecDepth 100000 in
theorem bm_X3_30 : Cond.methodLink RX3 30 yX3_readPerson ∈ bb_tb := bb_in 332 (by decide +kernel) (by decide +kernel)
set_option maxRecDepth 100000 in
theorem bm_X3_33 : Cond.methodLink RX3 33 yX3_peek ∈ bb_tb := bb_in 318 (by decide +kernel) (by decide +kernel)
set_option maxRecDepth 100000 in
theorem bm_X3_37 : Cond.methodLink RX3 37 yX3_readDigit ∈ bb_tb := bb_in 314 (by decide +kernel) (by decide +kernel)
set_option maxRecDepth 100000 in
theorem bm_X3_41 : Cond.methodLink RX3 41 yX0_build ∈ bb_tb := bb_in 326 (by decide +kernel) (by decide +kernel)
set_option maxRecDepth 100000 in
theorem bm_X3_47 : Cond.methodLink RX3 47 yX3_readCell ∈ bb_tb := bb_in 327 (by decide +kernel) (by decide +kernel)
set_option maxRecDepth 100000 in
theorem bm_X3_51 : Cond.methodLink RX3 51 Lib.Math.max.name ∈ bb_tb := bb_in 331 (by decide +kernel) (by decide +kernel)
set_option maxRecDepth 100000 in
theorem bm_X3_61 : Cond.methodLink RX3 61 yJ0_indexOf_0f7a4 ∈ bb_tb := bb_in 337 (by decide +kernel) (by decide +kernel)
set_option maxRecDepth 100000 in
theorem bm_X3_67 : Cond.methodLink RX3 67 yX3_readFeatures ∈ bb_tb := bb_in 421 (by decide +kernel) (by decide +kernel)
set_option maxRecDepth 100000 in
theorem bm_X3_71 : Cond.methodLink RX3 71 yX0_enter ∈ bb_tb := bb_in 425 (by decide +kernel) (by decide +kernel)
set_option maxRecDepth 100000 in
theorem bm_L_9 : Cond.methodLink RL 9 yX4_init ∈ bb_tb := bb_in 42 (by decide +kernel) (by decide +kernel)
set_option maxRecDepth 100000 in
theorem bm_L_12 : Cond.methodLink RL 12 yX5_init ∈ bb_tb := bb_in 623 (by decide +kernel) (by decide +kernel)
set_option maxRecDepth 100000 in
theorem bm_L_13 : Cond.methodLink RL 13 yX4_streets ∈ bb_tb := bb_in 207 (by decide +kernel) (by decide +kernel)
set_option maxRecDepth 100000 in
theorem bm_L_17 : Cond.methodLink RL 17 yX5_streets ∈ bb_tb := bb_in 686 (by decide +kernel) (by decide +kernel)
set_option maxRecDepth 100000 in
theorem bm_L_18 : Cond.methodLink RL 18 yX4_person ∈ bb_tb := bb_in 226 (by decide +kernel) (by decide +kernel)
set_option maxRecDepth 100000 in
theorem bm_L_22 : Cond.methodLink RL 22 yX5_person ∈ bb_tb := bb_in 699 (by decide +kernel) (by decide +kernel)
set_option maxRecDepth 100000 in
theorem bm_L_23 : Cond.methodLink RL 23 yX4_of ∈ bb_tb := bb_in 234 (by decide +kernel) (by decide +kernel)
set_option maxRecDepth 100000 in
theorem bm_L_26 : Cond.methodLink RL 26 yX5_of ∈ bb_tb := bb_in 710 (by decide +kernel) (by decide +kernel)
set_option maxRecDepth 100000 in
theorem bm_L_27 : Cond.methodLink RL 27 yX4_rule ∈ bb_tb := bb_in 283 (by decide +kernel) (by decide +kernel)
set_option maxRecDepth 100000 in
theorem bm_L_31 : Cond.methodLink RL 31 yX5_rule ∈ bb_tb := bb_in 745 (by decide +kernel) (by decide +kernel)
set_option maxRecDepth 100000 in
theorem bm_L_32 : Cond.methodLink RL 32 yX4_type ∈ bb_tb := bb_in 287 (by decide +kernel) (by decide +kernel)
set_option maxRecDepth 100000 in
theorem bm_L_36 : Cond.methodLink RL 36 yX5_type ∈ bb_tb := bb_in 758 (by decide +kernel) (by decide +kernel)
set_option maxRecDepth 100000 in
theorem bm_L_37 : Cond.methodLink RL 37 yX4_city ∈ bb_tb := bb_in 295 (by decide +kernel) (by decide +kernel)
set_option maxRecDepth 100000 in
theorem bm_L_41 : Cond.methodLink RL 41 yX5_city ∈ bb_tb := bb_in 764 (by decide +kernel) (by decide +kernel)
set_option maxRecDepth 100000 in
theorem bm_L_42 : Cond.methodLink RL 42 yX4_count ∈ bb_tb := bb_in 427 (by decide +kernel) (by decide +kernel)
set_option maxRecDepth 100000 in
theorem bm_L_45 : Cond.methodLink RL 45 yX5_count ∈ bb_tb := bb_in 749 (by decide +kernel) (by decide +kernel)
set_option maxRecDepth 100000 in
theorem bm_L_46 : Cond.methodLink RL 46 yX4_minutes ∈ bb_tb := bb_in 437 (by decide +kernel) (by decide +kernel)
set_option maxRecDepth 100000 in
theorem bm_L_49 : Cond.methodLink RL 49 yX5_minutes ∈ bb_tb := bb_in 793 (by decide +kernel) (by decide +kernel)
set_option maxRecDepth 100000 in
theorem bm_L_50 : Cond.methodLink RL 50 yX4_walk ∈ bb_tb := bb_in 465 (by decide +kernel) (by decide +kernel)
set_option maxRecDepth 100000 in
theorem bm_L_53 : Cond.methodLink RL 53 yX5_walk ∈ bb_tb := bb_in 809 (by decide +kernel) (by decide +kernel)
set_option maxRecDepth 100000 in
theorem bm_L_54 : Cond.methodLink RL 54 yX4_free ∈ bb_tb := bb_in 473 (by decide +kernel) (by decide +kernel)
set_option maxRecDepth 100000 in
theorem bm_L_57 : Cond.methodLink RL 57 yX5_free ∈ bb_tb := bb_in 818 (by decide +kernel) (by decide +kernel)
set_option maxRecDepth 100000 in
theorem bm_L_58 : Cond.methodLink RL 58 yX4_drift ∈ bb_tb := bb_in 477 (by decide +kernel) (by decide +kernel)
set_option maxRecDepth 100000 in
theorem bm_L_61 : Cond.methodLink RL 61 yX5_drift ∈ bb_tb := bb_in 822 (by decide +kernel) (by decide +kernel)
set_option maxRecDepth 100000 in
theorem bm_L_62 : Cond.methodLink RL 62 yX4_undo ∈ bb_tb := bb_in 489 (by decide +kernel) (by decide +kernel)
set_option maxRecDepth 100000 in
theorem bm_L_65 : Cond.methodLink RL 65 yX5_undo ∈ bb_tb := bb_in 830 (by decide +kernel) (by decide +kernel)
set_option maxRecDepth 100000 in
theorem bm_L_66 : Cond.methodLink RL 66 yX4_seed ∈ bb_tb := bb_in 497 (by decide +kernel) (by decide +kernel)
set_option maxRecDepth 100000 in
theorem bm_L_69 : Cond.methodLink RL 69 yX5_seed ∈ bb_tb := bb_in 834 (by decide +kernel) (by decide +kernel)
set_option maxRecDepth 100000 in
theorem bm_L_70 : Cond.methodLink RL 70 yX4_ahead ∈ bb_tb := bb_in 501 (by decide +kernel) (by decide +kernel)
set_option maxRecDepth 100000 in
theorem bm_L_73 : Cond.methodLink RL 73 yX5_ahead ∈ bb_tb := bb_in 838 (by decide +kernel) (by decide +kernel)
set_option maxRecDepth 100000 in
theorem bm_L_74 : Cond.methodLink RL 74 yX4_next ∈ bb_tb := bb_in 505 (by decide +kernel) (by decide +kernel)
set_option maxRecDepth 100000 in
theorem bm_L_77 : Cond.methodLink RL 77 yX5_next ∈ bb_tb := bb_in 851 (by decide +kernel) (by decide +kernel)
set_option maxRecDepth 100000 in
theorem bm_L_78 : Cond.methodLink RL 78 yX4_stand ∈ bb_tb := bb_in 514 (by decide +kernel) (by decide +kernel)
set_option maxRecDepth 100000 in
theorem bm_L_81 : Cond.methodLink RL 81 yX5_stand ∈ bb_tb := bb_in 859 (by decide +kernel) (by decide +kernel)
set_option maxRecDepth 100000 in
theorem bm_L_82 : Cond.methodLink RL 82 yX4_hush ∈ bb_tb := bb_in 522 (by decide +kernel) (by decide +kernel)
set_option maxRecDepth 100000 in
theorem bm_L_85 : Cond.methodLink RL 85 yX5_hush ∈ bb_tb := bb_in 867 (by decide +kernel) (by decide +kernel)
set_option maxRecDepth 100000 in
theorem bm_L_86 : Cond.methodLink RL 86 yX4_mask ∈ bb_tb := bb_in 526 (by decide +kernel) (by decide +kernel)
set_option maxRecDepth 100000 in
theorem bm_L_89 : Cond.methodLink RL 89 yX5_mask ∈ bb_tb := bb_in 871 (by decide +kernel) (by decide +kernel)
set_option maxRecDepth 100000 in
theorem bm_L_90 : Cond.methodLink RL 90 yX4_alike ∈ bb_tb := bb_in 531 (by decide +kernel) (by decide +kernel)
set_option maxRecDepth 100000 in
theorem bm_L_93 : Cond.methodLink RL 93 yX5_alike ∈ bb_tb := bb_in 875 (by decide +kernel) (by decide +kernel)
set_option maxRecDepth 100000 in
theorem bm_L_94 : Cond.methodLink RL 94 yX4_turned ∈ bb_tb := bb_in 535 (by decide +kernel) (by decide +kernel)
set_option maxRecDepth 100000 in
theorem bm_L_97 : Cond.methodLink RL 97 yX5_turned ∈ bb_tb := bb_in 879 (by decide +kernel) (by decide +kernel)
set_option maxRecDepth 100000 in
theorem bm_L_98 : Cond.methodLink RL 98 yX4_luck ∈ bb_tb := bb_in 539 (by decide +kernel) (by decide +kernel)
set_option maxRecDepth 100000 in
theorem bm_L_101 : Cond.methodLink RL 101 yX5_luck ∈ bb_tb := bb_in 883 (by decide +kernel) (by decide +kernel)
set_option maxRecDepth 100000 in
theorem bm_L_102 : Cond.methodLink RL 102 yX4_image ∈ bb_tb := bb_in 550 (by decide +kernel) (by decide +kernel)
set_option maxRecDepth 100000 in
theorem bm_L_105 : Cond.methodLink RL 105 yX5_image ∈ bb_tb := bb_in 888 (by decide +kernel) (by decide +kernel)
set_option maxRecDepth 100000 in
theorem bm_L_106 : Cond.methodLink RL 106 yX4_restore ∈ bb_tb := bb_in 558 (by decide +kernel) (by decide +kernel)
set_option maxRecDepth 100000 in
theorem bm_L_109 : Cond.methodLink RL 109 yX5_restore ∈ bb_tb := bb_in 892 (by decide +kernel) (by decide +kernel)
set_option maxRecDepth 100000 in
theorem bm_L_110 : Cond.methodLink RL 110 yX4_seen ∈ bb_tb := bb_in 562 (by decide +kernel) (by decide +kernel)
set_option maxRecDepth 100000 in
theorem bm_L_114 : Cond.methodLink RL 114 yX5_seen ∈ bb_tb := bb_in 896 (by decide +kernel) (by decide +kernel)
set_option maxRecDepth 100000 in
theorem bm_L_115 : Cond.methodLink RL 115 yX4_film ∈ bb_tb := bb_in 586 (by decide +kernel) (by decide +kernel)
set_option maxRecDepth 100000 in
theorem bm_L_118 : Cond.methodLink RL 118 yX5_film ∈ bb_tb := bb_in 910 (by decide +kernel) (by decide +kernel)
set_option maxRecDepth 100000 in
theorem bm_L_119 : Cond.methodLink RL 119 yX4_sheet ∈ bb_tb := bb_in 594 (by decide +kernel) (by decide +kernel)
set_option maxRecDepth 100000 in
theorem bm_L_122 : Cond.methodLink RL 122 yX5_sheet ∈ bb_tb := bb_in 915 (by decide +kernel) (by decide +kernel)
set_option maxRecDepth 100000 in
theorem bm_L_123 : Cond.methodLink RL 123 yX4_drop ∈ bb_tb := bb_in 602 (by decide +kernel) (by decide +kernel)
set_option maxRecDepth 100000 in
theorem bm_L_126 : Cond.methodLink RL 126 yX5_drop ∈ bb_tb := bb_in 919 (by decide +kernel) (by decide +kernel)
set_option maxRecDepth 100000 in
theorem bm_L_129 : Cond.methodLink RL 129 yX4_item ∈ bb_tb := bb_in 611 (by decide +kernel) (by decide +kernel)
set_option maxRecDepth 100000 in
theorem bm_L_133 : Cond.methodLink RL 133 yX5_item ∈ bb_tb := bb_in 923 (by decide +kernel) (by decide +kernel)
set_option maxRecDepth 100000 in
theorem bm_L_134 : Cond.methodLink RL 134 yX4_copy ∈ bb_tb := bb_in 615 (by decide +kernel) (by decide +kernel)
set_option maxRecDepth 100000 in
theorem bm_L_137 : Cond.methodLink RL 137 yX5_copy ∈ bb_tb := bb_in 927 (by decide +kernel) (by decide +kernel)
set_option maxRecDepth 100000 in
theorem bm_X5_1 : Cond.methodLink RX5 1 objectInit ∈ bb_tb := bb_in 626 (by decide +kernel) (by decide +kernel)
set_option maxRecDepth 100000 in
theorem bm_X5_41 : Cond.methodLink RX5 41 yX5_fresh ∈ bb_tb := bb_in 627 (by decide +kernel) (by decide +kernel)
set_option maxRecDepth 100000 in
theorem bm_X5_49 : Cond.methodLink RX5 49 yX5_in ∈ bb_tb := bb_in 692 (by decide +kernel) (by decide +kernel)
set_option maxRecDepth 100000 in
theorem bm_X5_53 : Cond.methodLink RX5 53 yX5_told ∈ bb_tb := bb_in 727 (by decide +kernel) (by decide +kernel)
set_option maxRecDepth 100000 in
theorem bm_X5_57 : Cond.methodLink RX5 57 yX5_apart ∈ bb_tb := bb_in 731 (by decide +kernel) (by decide +kernel)
set_option maxRecDepth 100000 in
theorem bm_X5_60 : Cond.methodLink RX5 60 yX5_far ∈ bb_tb := bb_in 723 (by decide +kernel) (by decide +kernel)
set_option maxRecDepth 100000 in
theorem bm_X5_64 : Cond.methodLink RX5 64 yX5_many ∈ bb_tb := bb_in 742 (by decide +kernel) (by decide +kernel)
set_option maxRecDepth 100000 in
theorem bm_X5_67 : Cond.methodLink RX5 67 yX5_isFree ∈ bb_tb := bb_in 719 (by decide +kernel) (by decide +kernel)
set_option maxRecDepth 100000 in
theorem bm_X5_71 : Cond.methodLink RX5 71 yX5_loud ∈ bb_tb := bb_in 734 (by decide +kernel) (by decide +kernel)
set_option maxRecDepth 100000 in
theorem bm_X5_74 : Cond.methodLink RX5 74 yX5_follows ∈ bb_tb := bb_in 754 (by decide +kernel) (by decide +kernel)
set_option maxRecDepth 100000 in
theorem bm_X5_77 : Cond.methodLink RX5 77 yX5_nearer ∈ bb_tb := bb_in 806 (by decide +kernel) (by decide +kernel)
set_option maxRecDepth 100000 in
theorem bm_X5_83 : Cond.methodLink RX5 83 yX5_named ∈ bb_tb := bb_in 738 (by decide +kernel) (by decide +kernel)
set_option maxRecDepth 100000 in
theorem bm_X5_93 : Cond.methodLink RX5 93 yX5_cells ∈ bb_tb := bb_in 695 (by decide +kernel) (by decide +kernel)
set_option maxRecDepth 100000 in
theorem bm_X5_103 : Cond.methodLink RX5 103 yX5_comes ∈ bb_tb := bb_in 706 (by decide +kernel) (by decide +kernel)
set_option maxRecDepth 100000 in
theorem bm_X5_107 : Cond.methodLink RX5 107 yX5_isPerson ∈ bb_tb := bb_in 714 (by decide +kernel) (by decide +kernel)
set_option maxRecDepth 100000 in
theorem bm_X5_128 : Cond.methodLink RX5 128 yX5_here ∈ bb_tb := bb_in 772 (by decide +kernel) (by decide +kernel)
set_option maxRecDepth 100000 in
theorem bm_X5_131 : Cond.methodLink RX5 131 yX5_must ∈ bb_tb := bb_in 776 (by decide +kernel) (by decide +kernel)
set_option maxRecDepth 100000 in
theorem bm_X5_137 : Cond.methodLink RX5 137 yX5_digit ∈ bb_tb := bb_in 768 (by decide +kernel) (by decide +kernel)
set_option maxRecDepth 100000 in
theorem bm_X5_140 : Cond.methodLink RX5 140 yX5_readFace ∈ bb_tb := bb_in 788 (by decide +kernel) (by decide +kernel)
set_option maxRecDepth 100000 in
theorem bm_X5_143 : Cond.methodLink RX5 143 yX5_sign ∈ bb_tb := bb_in 780 (by decide +kernel) (by decide +kernel)
set_option maxRecDepth 100000 in
theorem bm_X5_147 : Cond.methodLink RX5 147 yX5_readPeople ∈ bb_tb := bb_in 784 (by decide +kernel) (by decide +kernel)
set_option maxRecDepth 100000 in
theorem bm_X5_152 : Cond.methodLink RX5 152 yX5_notes ∈ bb_tb := bb_in 798 (by decide +kernel) (by decide +kernel)
set_option maxRecDepth 100000 in
theorem bm_X5_155 : Cond.methodLink RX5 155 yX5_goesBy ∈ bb_tb := bb_in 802 (by decide +kernel) (by decide +kernel)
set_option maxRecDepth 100000 in
theorem bm_X5_161 : Cond.methodLink RX5 161 yX5_beside ∈ bb_tb := bb_in 814 (by decide +kernel) (by decide +kernel)
set_option maxRecDepth 100000 in
theorem bm_X5_173 : Cond.methodLink RX5 173 yX5_asides ∈ bb_tb := bb_in 843 (by decide +kernel) (by decide +kernel)
set_option maxRecDepth 100000 in
theorem bm_X5_176 : Cond.methodLink RX5 176 yX5_backs ∈ bb_tb := bb_in 847 (by decide +kernel) (by decide +kernel)
set_option maxRecDepth 100000 in
theorem bm_X5_179 : Cond.methodLink RX5 179 yX5_nextBehind ∈ bb_tb := bb_in 855 (by decide +kernel) (by decide +kernel)
set_option maxRecDepth 100000 in
theorem bm_X5_182 : Cond.methodLink RX5 182 yX5_caughtBehind ∈ bb_tb := bb_in 863 (by decide +kernel) (by decide +kernel)
set_option maxRecDepth 100000 in
theorem bm_X5_193 : Cond.methodLink RX5 193 yX5_isSheet ∈ bb_tb := bb_in 900 (by decide +kernel) (by decide +kernel)
set_option maxRecDepth 100000 in
theorem bm_X5_196 : Cond.methodLink RX5 196 yX5_isLane ∈ bb_tb := bb_in 903 (by decide +kernel) (by decide +kernel)
set_option maxRecDepth 100000 in
theorem bm_X5_199 : Cond.methodLink RX5 199 yX5_why ∈ bb_tb := bb_in 906 (by decide +kernel) (by decide +kernel)
set_option maxRecDepth 100000 in
theorem bk_X0_114 : Cond.constant RX0 114 (1103515245) ∈ bb_tb := bb_in 485 (by decide +kernel) (by decide +kernel)
set_option maxRecDepth 100000 in
theorem bk_X0_115 : Cond.constant RX0 115 (2147483647) ∈ bb_tb := bb_in 486 (by decide +kernel) (by decide +kernel)
set_option maxRecDepth 100000 in
theorem bk_X0_116 : Cond.constant RX0 116 (65536) ∈ bb_tb := bb_in 487 (by decide +kernel) (by decide +kernel)
set_option maxRecDepth 100000 in
theorem bk_X5_170 : Cond.constant RX5 170 (65536) ∈ bb_tb := bb_in 829 (by decide +kernel) (by decide +kernel)
set_option maxRecDepth 100000 in
theorem bk_J6_265 : Cond.constant RJ6 265 (1431655765) ∈ bb_tb := bb_in 280 (by decide +kernel) (by decide +kernel)
set_option maxRecDepth 100000 in
theorem bk_J6_266 : Cond.constant RJ6 266 (858993459) ∈ bb_tb := bb_in 281 (by decide +kernel) (by decide +kernel)
set_option maxRecDepth 100000 in
theorem bk_J6_267 : Cond.constant RJ6 267 (252645135) ∈ bb_tb := bb_in 282 (by decide +kernel) (by decide +kernel)
set_option maxRecDepth 100000 in
theorem bk_L_127 : Cond.constantLong RL 127 (4294967295) ∈ bb_tb := bb_in 931 (by decide +kernel) (by decide +kernel)
set_option maxRecDepth 100000 in
theorem bk_X5_89 : Cond.constantLong RX5 89 (2) ∈ bb_tb := bb_in 690 (by decide +kernel) (by decide +kernel)
set_option maxRecDepth 100000 in
theorem bk_X5_91 : Cond.constantLong RX5 91 (6) ∈ bb_tb := bb_in 691 (by decide +kernel) (by decide +kernel)
set_option maxRecDepth 100000 in
theorem bk_X5_97 : Cond.constantLong RX5 97 (4) ∈ bb_tb := bb_in 703 (by decide +kernel) (by decide +kernel)
set_option maxRecDepth 100000 in
theorem bk_X5_99 : Cond.constantLong RX5 99 (9) ∈ bb_tb := bb_in 704 (by decide +kernel) (by decide +kernel)
set_option maxRecDepth 100000 in
theorem bk_X5_101 : Cond.constantLong RX5 101 (63) ∈ bb_tb := bb_in 705 (by decide +kernel) (by decide +kernel)
set_option maxRecDepth 100000 in
theorem bk_X5_110 : Cond.constantLong RX5 110 (8) ∈ bb_tb := bb_in 718 (by decide +kernel) (by decide +kernel)
set_option maxRecDepth 100000 in
theorem bk_X5_112 : Cond.constantLong RX5 112 (7) ∈ bb_tb := bb_in 753 (by decide +kernel) (by decide +kernel)
set_option maxRecDepth 100000 in
theorem bk_X5_114 : Cond.constantLong RX5 114 (32) ∈ bb_tb := bb_in 762 (by decide +kernel) (by decide +kernel)
set_option maxRecDepth 100000 in
theorem bk_X5_116 : Cond.constantLong RX5 116 (126) ∈ bb_tb := bb_in 763 (by decide +kernel) (by decide +kernel)
set_option maxRecDepth 100000 in
theorem bk_X5_135 : Cond.constantLong RX5 135 (5) ∈ bb_tb := bb_in 792 (by decide +kernel) (by decide +kernel)
set_option maxRecDepth 100000 in
theorem bk_X5_150 : Cond.constantLong RX5 150 (40) ∈ bb_tb := bb_in 797 (by decide +kernel) (by decide +kernel)
set_option maxRecDepth 100000 in
theorem bk_X5_159 : Cond.constantLong RX5 159 (3) ∈ bb_tb := bb_in 813 (by decide +kernel) (by decide +kernel)
set_option maxRecDepth 100000 in
theorem bk_X5_164 : Cond.constantLong RX5 164 (1103515245) ∈ bb_tb := bb_in 826 (by decide +kernel) (by decide +kernel)
set_option maxRecDepth 100000 in
theorem bk_X5_166 : Cond.constantLong RX5 166 (12345) ∈ bb_tb := bb_in 827 (by decide +kernel) (by decide +kernel)
set_option maxRecDepth 100000 in
theorem bk_X5_168 : Cond.constantLong RX5 168 (2147483647) ∈ bb_tb := bb_in 828 (by decide +kernel) (by decide +kernel)
set_option maxRecDepth 100000 in
theorem bk_X5_171 : Cond.constantLong RX5 171 (60) ∈ bb_tb := bb_in 842 (by decide +kernel) (by decide +kernel)
set_option maxRecDepth 100000 in
theorem bk_X5_185 : Cond.constantLong RX5 185 (10) ∈ bb_tb := bb_in 887 (by decide +kernel) (by decide +kernel)
set_option maxRecDepth 100000 in
theorem bk_X5_203 : Cond.constantLong RX5 203 (24) ∈ bb_tb := bb_in 914 (by decide +kernel) (by decide +kernel)
set_option maxRecDepth 100000 in
theorem bl_abs_s : Cond.static Lib.Math.abs.name ∈ bb_tb := bb_in 255 (by decide +kernel) (by decide +kernel)
set_option maxRecDepth 100000 in
theorem bl_abs_c : Cond.code Lib.Math.abs.name Lib.Math.abs.code 1 (some .int) ∈ bb_tb := bb_in 256 (by decide +kernel) (by decide +kernel)
set_option maxRecDepth 100000 in
theorem bl_max_s : Cond.static Lib.Math.max.name ∈ bb_tb := bb_in 267 (by decide +kernel) (by decide +kernel)
set_option maxRecDepth 100000 in
theorem bl_max_c : Cond.code Lib.Math.max.name Lib.Math.max.code 2 (some .int) ∈ bb_tb := bb_in 268 (by decide +kernel) (by decide +kernel)
set_option maxRecDepth 100000 in
theorem bl_min_s : Cond.static Lib.Math.min.name ∈ bb_tb := bb_in 367 (by decide +kernel) (by decide +kernel)
set_option maxRecDepth 100000 in
theorem bl_min_c : Cond.code Lib.Math.min.name Lib.Math.min.code 2 (some .int) ∈ bb_tb := bb_in 368 (by decide +kernel) (by decide +kernel)
set_option maxRecDepth 100000 in
theorem bl_Math : Cond.initialized "java/lang/Math" ∈ bb_tb := bb_in 32 (by decide +kernel) (by decide +kernel)
set_option maxRecDepth 100000 in
theorem bl_System : Cond.initialized "java/lang/System" ∈ bb_tb := bb_in 34 (by decide +kernel) (by decide +kernel)
set_option maxRecDepth 100000 in
theorem bl_ac_n : Cond.native arraycopyName ∈ bb_tb := bb_in 305 (by decide +kernel) (by decide +kernel)
set_option maxRecDepth 100000 in
theorem bl_ac_s : Cond.static arraycopyName ∈ bb_tb := bb_in 304 (by decide +kernel) (by decide +kernel)
set_option maxRecDepth 100000 in
theorem bi_X0 : ∀ w ∈ wsX00, w ∈ bb_tb := by decide +kernel
set_option maxRecDepth 100000 in
theorem bi_X1 : ∀ w ∈ wsX10, w ∈ bb_tb := by decide +kernel
set_option maxRecDepth 100000 in
theorem bi_X2 : ∀ w ∈ wsX20, w ∈ bb_tb := by decide +kernel
set_option maxRecDepth 100000 in
theorem bi_X3 : ∀ w ∈ wsX30, w ∈ bb_tb := by decide +kernel
set_option maxRecDepth 100000 in
theorem bi_X4 : ∀ w ∈ wsX40, w ∈ bb_tb := by decide +kernel
set_option maxRecDepth 100000 in
theorem bi_X5 : ∀ w ∈ wsX50, w ∈ bb_tb := by decide +kernel
set_option maxRecDepth 100000 in
theorem bv_X0_take : bb_cv RX0 yX0_take cX0_take 2 none 1 := ⟨bb_in 300 (by decide +kernel) (by decide +kernel), bb_in 301 (by decide +kernel) (by decide +kernel), bb_in 27 (by decide +kernel) (by decide +kernel), bb_in 302 (by decide +kernel) (by decide +kernel), ⟨by decide +kernel, by decide +kernel, by decide +kernel, by decide +kernel⟩, by decide⟩
set_option maxRecDepth 100000 in
theorem bv_X0_build : bb_cv RX0 yX0_build cX0_build 3 none 2 := ⟨bb_in 215 (by decide +kernel) (by decide +kernel), bb_in 216 (by decide +kernel) (by decide +kernel), bb_in 27 (by decide +kernel) (by decide +kernel), bb_in 217 (by decide +kernel) (by decide +kernel), ⟨by decide +kernel, by decide +kernel, by decide +kernel, by decide +kernel⟩, by decide⟩
set_option maxRecDepth 100000 in
theorem bv_X0_enter : bb_cv RX0 yX0_enter cX0_enter 6 (some .int) 4 := ⟨bb_in 231 (by decide +kernel) (by decide +kernel), bb_in 232 (by decide +kernel) (by decide +kernel), bb_in 27 (by decide +kernel) (by decide +kernel), bb_in 233 (by decide +kernel) (by decide +kernel), ⟨by decide +kernel, by decide +kernel, by decide +kernel, by decide +kernel⟩, by decide⟩
set_option maxRecDepth 100000 in
theorem bv_X0_cells : bb_cv RX0 yX0_cells cX0_cells 1 (some .int) 0 := ⟨bb_in 223 (by decide +kernel) (by decide +kernel), bb_in 224 (by decide +kernel) (by decide +kernel), bb_in 27 (by decide +kernel) (by decide +kernel), bb_in 225 (by decide +kernel) (by decide +kernel), ⟨by decide +kernel, by decide +kernel, by decide +kernel, by decide +kernel⟩, by decide⟩
set_option maxRecDepth 100000 in
theorem bv_X0_isFree : bb_cv RX0 yX0_isFree cX0_isFree 2 (some .boolean) 1 := ⟨bb_in 243 (by decide +kernel) (by decide +kernel), bb_in 244 (by decide +kernel) (by decide +kernel), bb_in 27 (by decide +kernel) (by decide +kernel), bb_in 245 (by decide +kernel) (by decide +kernel), ⟨by decide +kernel, by decide +kernel, by decide +kernel, by decide +kernel⟩, by decide⟩
set_option maxRecDepth 100000 in
theorem bv_X0_far : bb_cv RX0 yX0_far cX0_far 2 (some .int) 1 := ⟨bb_in 247 (by decide +kernel) (by decide +kernel), bb_in 248 (by decide +kernel) (by decide +kernel), bb_in 27 (by decide +kernel) (by decide +kernel), bb_in 249 (by decide +kernel) (by decide +kernel), ⟨by decide +kernel, by decide +kernel, by decide +kernel, by decide +kernel⟩, by decide⟩
set_option maxRecDepth 100000 in
theorem bv_X0_rowOf : bb_cv RX0 yX0_rowOf cX0_rowOf 2 (some .int) 1 := ⟨bb_in 251 (by decide +kernel) (by decide +kernel), bb_in 252 (by decide +kernel) (by decide +kernel), bb_in 27 (by decide +kernel) (by decide +kernel), bb_in 253 (by decide +kernel) (by decide +kernel), ⟨by decide +kernel, by decide +kernel, by decide +kernel, by decide +kernel⟩, by decide⟩
set_option maxRecDepth 100000 in
theorem bv_X0_columnOf : bb_cv RX0 yX0_columnOf cX0_columnOf 2 (some .int) 1 := ⟨bb_in 258 (by decide +kernel) (by decide +kernel), bb_in 259 (by decide +kernel) (by decide +kernel), bb_in 27 (by decide +kernel) (by decide +kernel), bb_in 260 (by decide +kernel) (by decide +kernel), ⟨by decide +kernel, by decide +kernel, by decide +kernel, by decide +kernel⟩, by decide⟩
set_option maxRecDepth 100000 in
theorem bv_X0_loud : bb_cv RX0 yX0_loud cX0_loud 6 (some .int) 1 := ⟨bb_in 262 (by decide +kernel) (by decide +kernel), bb_in 263 (by decide +kernel) (by decide +kernel), bb_in 27 (by decide +kernel) (by decide +kernel), bb_in 264 (by decide +kernel) (by decide +kernel), ⟨by decide +kernel, by decide +kernel, by decide +kernel, by decide +kernel⟩, by decide⟩
set_option maxRecDepth 100000 in
theorem bv_X0_followed : bb_cv RX0 yX0_followed cX0_followed 5 (some .int) 0 := ⟨bb_in 432 (by decide +kernel) (by decide +kernel), bb_in 433 (by decide +kernel) (by decide +kernel), bb_in 27 (by decide +kernel) (by decide +kernel), bb_in 434 (by decide +kernel) (by decide +kernel), ⟨by decide +kernel, by decide +kernel, by decide +kernel, by decide +kernel⟩, by decide⟩
set_option maxRecDepth 100000 in
theorem bv_X0_goesFirst : bb_cv RX0 yX0_goesFirst cX0_goesFirst 4 (some .boolean) 2 := ⟨bb_in 544 (by decide +kernel) (by decide +kernel), bb_in 545 (by decide +kernel) (by decide +kernel), bb_in 27 (by decide +kernel) (by decide +kernel), bb_in 546 (by decide +kernel) (by decide +kernel), ⟨by decide +kernel, by decide +kernel, by decide +kernel, by decide +kernel⟩, by decide⟩
set_option maxRecDepth 100000 in
theorem bv_X0_feel : bb_cv RX0 yX0_feel cX0_feel 2 (some .int) 1 := ⟨bb_in 270 (by decide +kernel) (by decide +kernel), bb_in 271 (by decide +kernel) (by decide +kernel), bb_in 27 (by decide +kernel) (by decide +kernel), bb_in 272 (by decide +kernel) (by decide +kernel), ⟨by decide +kernel, by decide +kernel, by decide +kernel, by decide +kernel⟩, by decide⟩
set_option maxRecDepth 100000 in
theorem bv_X0_namedBy : bb_cv RX0 yX0_namedBy cX0_namedBy 6 (some .int) 1 := ⟨bb_in 274 (by decide +kernel) (by decide +kernel), bb_in 275 (by decide +kernel) (by decide +kernel), bb_in 27 (by decide +kernel) (by decide +kernel), bb_in 276 (by decide +kernel) (by decide +kernel), ⟨by decide +kernel, by decide +kernel, by decide +kernel, by decide +kernel⟩, by decide⟩
set_option maxRecDepth 100000 in
theorem bv_X0_pass : bb_cv RX0 yX0_pass cX0_pass 3 (some .int) 0 := ⟨bb_in 448 (by decide +kernel) (by decide +kernel), bb_in 449 (by decide +kernel) (by decide +kernel), bb_in 27 (by decide +kernel) (by decide +kernel), bb_in 450 (by decide +kernel) (by decide +kernel), ⟨by decide +kernel, by decide +kernel, by decide +kernel, by decide +kernel⟩, by decide⟩
set_option maxRecDepth 100000 in
theorem bv_X0_nearerTo : bb_cv RX0 yX0_nearerTo cX0_nearerTo 3 (some .int) 1 := ⟨bb_in 453 (by decide +kernel) (by decide +kernel), bb_in 454 (by decide +kernel) (by decide +kernel), bb_in 27 (by decide +kernel) (by decide +kernel), bb_in 455 (by decide +kernel) (by decide +kernel), ⟨by decide +kernel, by decide +kernel, by decide +kernel, by decide +kernel⟩, by decide⟩
set_option maxRecDepth 100000 in
theorem bv_X0_firstOnHisCell : bb_cv RX0 yX0_firstOnHisCell cX0_firstOnHisCell 2 (some .int) 0 := ⟨bb_in 460 (by decide +kernel) (by decide +kernel), bb_in 461 (by decide +kernel) (by decide +kernel), bb_in 27 (by decide +kernel) (by decide +kernel), bb_in 462 (by decide +kernel) (by decide +kernel), ⟨by decide +kernel, by decide +kernel, by decide +kernel, by decide +kernel⟩, by decide⟩
set_option maxRecDepth 100000 in
theorem bv_X0_passUntilCaught : bb_cv RX0 yX0_passUntilCaught cX0_passUntilCaught 3 (some .int) 0 := ⟨bb_in 510 (by decide +kernel) (by decide +kernel), bb_in 511 (by decide +kernel) (by decide +kernel), bb_in 27 (by decide +kernel) (by decide +kernel), bb_in 512 (by decide +kernel) (by decide +kernel), ⟨by decide +kernel, by decide +kernel, by decide +kernel, by decide +kernel⟩, by decide⟩
set_option maxRecDepth 100000 in
theorem bv_X0_behindHowMany : bb_cv RX0 yX0_behindHowMany cX0_behindHowMany 4 (some .int) 2 := ⟨bb_in 519 (by decide +kernel) (by decide +kernel), bb_in 520 (by decide +kernel) (by decide +kernel), bb_in 27 (by decide +kernel) (by decide +kernel), bb_in 521 (by decide +kernel) (by decide +kernel), ⟨by decide +kernel, by decide +kernel, by decide +kernel, by decide +kernel⟩, by decide⟩
set_option maxRecDepth 100000 in
theorem bv_X0_beside : bb_cv RX0 yX0_beside cX0_beside 3 (some .int) 2 := ⟨bb_in 470 (by decide +kernel) (by decide +kernel), bb_in 471 (by decide +kernel) (by decide +kernel), bb_in 27 (by decide +kernel) (by decide +kernel), bb_in 472 (by decide +kernel) (by decide +kernel), ⟨by decide +kernel, by decide +kernel, by decide +kernel, by decide +kernel⟩, by decide⟩
set_option maxRecDepth 100000 in
theorem bv_X0_stray : bb_cv RX0 yX0_stray cX0_stray 3 none 0 := ⟨bb_in 482 (by decide +kernel) (by decide +kernel), bb_in 483 (by decide +kernel) (by decide +kernel), bb_in 27 (by decide +kernel) (by decide +kernel), bb_in 484 (by decide +kernel) (by decide +kernel), ⟨by decide +kernel, by decide +kernel, by decide +kernel, by decide +kernel⟩, by decide⟩
set_option maxRecDepth 100000 in
theorem bv_X1_forget : bb_cv RX1 yX1_forget cX1_forget 1 none 0 := ⟨bb_in 219 (by decide +kernel) (by decide +kernel), bb_in 220 (by decide +kernel) (by decide +kernel), bb_in 28 (by decide +kernel) (by decide +kernel), bb_in 221 (by decide +kernel) (by decide +kernel), ⟨by decide +kernel, by decide +kernel, by decide +kernel, by decide +kernel⟩, by decide⟩
set_option maxRecDepth 100000 in
theorem bv_X1_keep : bb_cv RX1 yX1_keep cX1_keep 3 none 1 := ⟨bb_in 442 (by decide +kernel) (by decide +kernel), bb_in 443 (by decide +kernel) (by decide +kernel), bb_in 28 (by decide +kernel) (by decide +kernel), bb_in 444 (by decide +kernel) (by decide +kernel), ⟨by decide +kernel, by decide +kernel, by decide +kernel, by decide +kernel⟩, by decide⟩
set_option maxRecDepth 100000 in
theorem bv_X1_bringBack : bb_cv RX1 yX1_bringBack cX1_bringBack 3 none 1 := ⟨bb_in 494 (by decide +kernel) (by decide +kernel), bb_in 495 (by decide +kernel) (by decide +kernel), bb_in 28 (by decide +kernel) (by decide +kernel), bb_in 496 (by decide +kernel) (by decide +kernel), ⟨by decide +kernel, by decide +kernel, by decide +kernel, by decide +kernel⟩, by decide⟩
set_option maxRecDepth 100000 in
theorem bv_X1_takePast : bb_cv RX1 yX1_takePast cX1_takePast 3 none 1 := ⟨bb_in 555 (by decide +kernel) (by decide +kernel), bb_in 556 (by decide +kernel) (by decide +kernel), bb_in 28 (by decide +kernel) (by decide +kernel), bb_in 557 (by decide +kernel) (by decide +kernel), ⟨by decide +kernel, by decide +kernel, by decide +kernel, by decide +kernel⟩, by decide⟩
set_option maxRecDepth 100000 in
theorem bv_X2_isMissing : bb_cv RX2 yX2_isMissing cX2_isMissing 1 (some .boolean) 0 := ⟨bb_in 574 (by decide +kernel) (by decide +kernel), bb_in 575 (by decide +kernel) (by decide +kernel), bb_in 30 (by decide +kernel) (by decide +kernel), bb_in 576 (by decide +kernel) (by decide +kernel), ⟨by decide +kernel, by decide +kernel, by decide +kernel, by decide +kernel⟩, by decide⟩
set_option maxRecDepth 100000 in
theorem bv_X2_renew : bb_cv RX2 yX2_renew cX2_renew 4 none 2 := ⟨bb_in 599 (by decide +kernel) (by decide +kernel), bb_in 600 (by decide +kernel) (by decide +kernel), bb_in 30 (by decide +kernel) (by decide +kernel), bb_in 601 (by decide +kernel) (by decide +kernel), ⟨by decide +kernel, by decide +kernel, by decide +kernel, by decide +kernel⟩, by decide⟩
set_option maxRecDepth 100000 in
theorem bv_X2_lose : bb_cv RX2 yX2_lose cX2_lose 1 none 0 := ⟨bb_in 608 (by decide +kernel) (by decide +kernel), bb_in 609 (by decide +kernel) (by decide +kernel), bb_in 30 (by decide +kernel) (by decide +kernel), bb_in 610 (by decide +kernel) (by decide +kernel), ⟨by decide +kernel, by decide +kernel, by decide +kernel, by decide +kernel⟩, by decide⟩
set_option maxRecDepth 100000 in
theorem bv_X2_faultOf : bb_cv RX2 yX2_faultOf cX2_faultOf 4 (some .int) 3 := ⟨bb_in 570 (by decide +kernel) (by decide +kernel), bb_in 571 (by decide +kernel) (by decide +kernel), bb_in 30 (by decide +kernel) (by decide +kernel), bb_in 572 (by decide +kernel) (by decide +kernel), ⟨by decide +kernel, by decide +kernel, by decide +kernel, by decide +kernel⟩, by decide⟩
set_option maxRecDepth 100000 in
theorem bv_X2_reaches : bb_cv RX2 yX2_reaches cX2_reaches 3 (some .boolean) 2 := ⟨bb_in 578 (by decide +kernel) (by decide +kernel), bb_in 579 (by decide +kernel) (by decide +kernel), bb_in 30 (by decide +kernel) (by decide +kernel), bb_in 580 (by decide +kernel) (by decide +kernel), ⟨by decide +kernel, by decide +kernel, by decide +kernel, by decide +kernel⟩, by decide⟩
set_option maxRecDepth 100000 in
theorem bv_X2_put : bb_cv RX2 yX2_put cX2_put 4 none 2 := ⟨bb_in 591 (by decide +kernel) (by decide +kernel), bb_in 592 (by decide +kernel) (by decide +kernel), bb_in 30 (by decide +kernel) (by decide +kernel), bb_in 593 (by decide +kernel) (by decide +kernel), ⟨by decide +kernel, by decide +kernel, by decide +kernel, by decide +kernel⟩, by decide⟩
set_option maxRecDepth 100000 in
theorem bv_X2_tellsOf : bb_cv RX2 yX2_tellsOf cX2_tellsOf 5 (some .boolean) 3 := ⟨bb_in 582 (by decide +kernel) (by decide +kernel), bb_in 583 (by decide +kernel) (by decide +kernel), bb_in 30 (by decide +kernel) (by decide +kernel), bb_in 584 (by decide +kernel) (by decide +kernel), ⟨by decide +kernel, by decide +kernel, by decide +kernel, by decide +kernel⟩, by decide⟩
set_option maxRecDepth 100000 in
theorem bv_X3_add : bb_cv RX3 yX3_add cX3_add 2 (some .int) 1 := ⟨bb_in 292 (by decide +kernel) (by decide +kernel), bb_in 293 (by decide +kernel) (by decide +kernel), bb_in 29 (by decide +kernel) (by decide +kernel), bb_in 294 (by decide +kernel) (by decide +kernel), ⟨by decide +kernel, by decide +kernel, by decide +kernel, by decide +kernel⟩, by decide⟩
set_option maxRecDepth 100000 in
theorem bv_X3_readInto : bb_cv RX3 yX3_readInto cX3_readInto 3 (some .boolean) 1 := ⟨bb_in 307 (by decide +kernel) (by decide +kernel), bb_in 308 (by decide +kernel) (by decide +kernel), bb_in 29 (by decide +kernel) (by decide +kernel), bb_in 309 (by decide +kernel) (by decide +kernel), ⟨by decide +kernel, by decide +kernel, by decide +kernel, by decide +kernel⟩, by decide⟩
set_option maxRecDepth 100000 in
theorem bv_X3_readStreets : bb_cv RX3 yX3_readStreets cX3_readStreets 5 (some .boolean) 1 := ⟨bb_in 311 (by decide +kernel) (by decide +kernel), bb_in 312 (by decide +kernel) (by decide +kernel), bb_in 29 (by decide +kernel) (by decide +kernel), bb_in 313 (by decide +kernel) (by decide +kernel), ⟨by decide +kernel, by decide +kernel, by decide +kernel, by decide +kernel⟩, by decide⟩
set_option maxRecDepth 100000 in
theorem bv_X3_readPerson : bb_cv RX3 yX3_readPerson cX3_readPerson 5 (some .boolean) 1 := ⟨bb_in 333 (by decide +kernel) (by decide +kernel), bb_in 334 (by decide +kernel) (by decide +kernel), bb_in 29 (by decide +kernel) (by decide +kernel), bb_in 335 (by decide +kernel) (by decide +kernel), ⟨by decide +kernel, by decide +kernel, by decide +kernel, by decide +kernel⟩, by decide⟩
set_option maxRecDepth 100000 in
theorem bv_X3_readFeatures : bb_cv RX3 yX3_readFeatures cX3_readFeatures 3 (some .int) 0 := ⟨bb_in 422 (by decide +kernel) (by decide +kernel), bb_in 423 (by decide +kernel) (by decide +kernel), bb_in 29 (by decide +kernel) (by decide +kernel), bb_in 424 (by decide +kernel) (by decide +kernel), ⟨by decide +kernel, by decide +kernel, by decide +kernel, by decide +kernel⟩, by decide⟩
set_option maxRecDepth 100000 in
theorem bv_X3_readCell : bb_cv RX3 yX3_readCell cX3_readCell 4 (some .int) 1 := ⟨bb_in 328 (by decide +kernel) (by decide +kernel), bb_in 329 (by decide +kernel) (by decide +kernel), bb_in 29 (by decide +kernel) (by decide +kernel), bb_in 330 (by decide +kernel) (by decide +kernel), ⟨by decide +kernel, by decide +kernel, by decide +kernel, by decide +kernel⟩, by decide⟩
set_option maxRecDepth 100000 in
theorem bv_X3_readDigit : bb_cv RX3 yX3_readDigit cX3_readDigit 4 (some .int) 2 := ⟨bb_in 315 (by decide +kernel) (by decide +kernel), bb_in 316 (by decide +kernel) (by decide +kernel), bb_in 29 (by decide +kernel) (by decide +kernel), bb_in 317 (by decide +kernel) (by decide +kernel), ⟨by decide +kernel, by decide +kernel, by decide +kernel, by decide +kernel⟩, by decide⟩
set_option maxRecDepth 100000 in
theorem bv_X3_readSign : bb_cv RX3 yX3_readSign cX3_readSign 2 (some .boolean) 1 := ⟨bb_in 323 (by decide +kernel) (by decide +kernel), bb_in 324 (by decide +kernel) (by decide +kernel), bb_in 29 (by decide +kernel) (by decide +kernel), bb_in 325 (by decide +kernel) (by decide +kernel), ⟨by decide +kernel, by decide +kernel, by decide +kernel, by decide +kernel⟩, by decide⟩
set_option maxRecDepth 100000 in
theorem bv_X3_peek : bb_cv RX3 yX3_peek cX3_peek 1 (some .char) 0 := ⟨bb_in 319 (by decide +kernel) (by decide +kernel), bb_in 320 (by decide +kernel) (by decide +kernel), bb_in 29 (by decide +kernel) (by decide +kernel), bb_in 321 (by decide +kernel) (by decide +kernel), ⟨by decide +kernel, by decide +kernel, by decide +kernel, by decide +kernel⟩, by decide⟩
set_option maxRecDepth 100000 in
theorem bv_X4_streets : bb_cv RX4 yX4_streets cX4_streets 3 (some .int) 2 := ⟨bb_in 208 (by decide +kernel) (by decide +kernel), bb_in 209 (by decide +kernel) (by decide +kernel), bb_in 26 (by decide +kernel) (by decide +kernel), bb_in 210 (by decide +kernel) (by decide +kernel), ⟨by decide +kernel, by decide +kernel, by decide +kernel, by decide +kernel⟩, by decide⟩
set_option maxRecDepth 100000 in
theorem bv_X4_person : bb_cv RX4 yX4_person cX4_person 5 (some .int) 4 := ⟨bb_in 227 (by decide +kernel) (by decide +kernel), bb_in 228 (by decide +kernel) (by decide +kernel), bb_in 26 (by decide +kernel) (by decide +kernel), bb_in 229 (by decide +kernel) (by decide +kernel), ⟨by decide +kernel, by decide +kernel, by decide +kernel, by decide +kernel⟩, by decide⟩
set_option maxRecDepth 100000 in
theorem bv_X4_of : bb_cv RX4 yX4_of cX4_of 3 (some .int) 2 := ⟨bb_in 235 (by decide +kernel) (by decide +kernel), bb_in 236 (by decide +kernel) (by decide +kernel), bb_in 26 (by decide +kernel) (by decide +kernel), bb_in 237 (by decide +kernel) (by decide +kernel), ⟨by decide +kernel, by decide +kernel, by decide +kernel, by decide +kernel⟩, by decide⟩
set_option maxRecDepth 100000 in
theorem bv_X4_rule : bb_cv RX4 yX4_rule cX4_rule 5 (some .int) 3 := ⟨bb_in 284 (by decide +kernel) (by decide +kernel), bb_in 285 (by decide +kernel) (by decide +kernel), bb_in 26 (by decide +kernel) (by decide +kernel), bb_in 286 (by decide +kernel) (by decide +kernel), ⟨by decide +kernel, by decide +kernel, by decide +kernel, by decide +kernel⟩, by decide⟩
set_option maxRecDepth 100000 in
theorem bv_X4_type : bb_cv RX4 yX4_type cX4_type 2 (some .int) 1 := ⟨bb_in 288 (by decide +kernel) (by decide +kernel), bb_in 289 (by decide +kernel) (by decide +kernel), bb_in 26 (by decide +kernel) (by decide +kernel), bb_in 290 (by decide +kernel) (by decide +kernel), ⟨by decide +kernel, by decide +kernel, by decide +kernel, by decide +kernel⟩, by decide⟩
set_option maxRecDepth 100000 in
theorem bv_X4_city : bb_cv RX4 yX4_city cX4_city 3 (some .int) 0 := ⟨bb_in 296 (by decide +kernel) (by decide +kernel), bb_in 297 (by decide +kernel) (by decide +kernel), bb_in 26 (by decide +kernel) (by decide +kernel), bb_in 298 (by decide +kernel) (by decide +kernel), ⟨by decide +kernel, by decide +kernel, by decide +kernel, by decide +kernel⟩, by decide⟩
set_option maxRecDepth 100000 in
theorem bv_X4_count : bb_cv RX4 yX4_count cX4_count 2 (some .int) 1 := ⟨bb_in 428 (by decide +kernel) (by decide +kernel), bb_in 429 (by decide +kernel) (by decide +kernel), bb_in 26 (by decide +kernel) (by decide +kernel), bb_in 430 (by decide +kernel) (by decide +kernel), ⟨by decide +kernel, by decide +kernel, by decide +kernel, by decide +kernel⟩, by decide⟩
set_option maxRecDepth 100000 in
theorem bv_X4_minutes : bb_cv RX4 yX4_minutes cX4_minutes 3 (some .int) 1 := ⟨bb_in 438 (by decide +kernel) (by decide +kernel), bb_in 439 (by decide +kernel) (by decide +kernel), bb_in 26 (by decide +kernel) (by decide +kernel), bb_in 440 (by decide +kernel) (by decide +kernel), ⟨by decide +kernel, by decide +kernel, by decide +kernel, by decide +kernel⟩, by decide⟩
set_option maxRecDepth 100000 in
theorem bv_X4_walk : bb_cv RX4 yX4_walk cX4_walk 4 (some .int) 2 := ⟨bb_in 466 (by decide +kernel) (by decide +kernel), bb_in 467 (by decide +kernel) (by decide +kernel), bb_in 26 (by decide +kernel) (by decide +kernel), bb_in 468 (by decide +kernel) (by decide +kernel), ⟨by decide +kernel, by decide +kernel, by decide +kernel, by decide +kernel⟩, by decide⟩
set_option maxRecDepth 100000 in
theorem bv_X4_free : bb_cv RX4 yX4_free cX4_free 2 (some .int) 1 := ⟨bb_in 474 (by decide +kernel) (by decide +kernel), bb_in 475 (by decide +kernel) (by decide +kernel), bb_in 26 (by decide +kernel) (by decide +kernel), bb_in 476 (by decide +kernel) (by decide +kernel), ⟨by decide +kernel, by decide +kernel, by decide +kernel, by decide +kernel⟩, by decide⟩
set_option maxRecDepth 100000 in
theorem bv_X4_drift : bb_cv RX4 yX4_drift cX4_drift 3 (some .int) 1 := ⟨bb_in 478 (by decide +kernel) (by decide +kernel), bb_in 479 (by decide +kernel) (by decide +kernel), bb_in 26 (by decide +kernel) (by decide +kernel), bb_in 480 (by decide +kernel) (by decide +kernel), ⟨by decide +kernel, by decide +kernel, by decide +kernel, by decide +kernel⟩, by decide⟩
set_option maxRecDepth 100000 in
theorem bv_X4_undo : bb_cv RX4 yX4_undo cX4_undo 1 (some .int) 0 := ⟨bb_in 490 (by decide +kernel) (by decide +kernel), bb_in 491 (by decide +kernel) (by decide +kernel), bb_in 26 (by decide +kernel) (by decide +kernel), bb_in 492 (by decide +kernel) (by decide +kernel), ⟨by decide +kernel, by decide +kernel, by decide +kernel, by decide +kernel⟩, by decide⟩
set_option maxRecDepth 100000 in
theorem bv_X4_seed : bb_cv RX4 yX4_seed cX4_seed 3 (some .int) 1 := ⟨bb_in 498 (by decide +kernel) (by decide +kernel), bb_in 499 (by decide +kernel) (by decide +kernel), bb_in 26 (by decide +kernel) (by decide +kernel), bb_in 500 (by decide +kernel) (by decide +kernel), ⟨by decide +kernel, by decide +kernel, by decide +kernel, by decide +kernel⟩, by decide⟩
set_option maxRecDepth 100000 in
theorem bv_X4_ahead : bb_cv RX4 yX4_ahead cX4_ahead 4 (some .int) 2 := ⟨bb_in 502 (by decide +kernel) (by decide +kernel), bb_in 503 (by decide +kernel) (by decide +kernel), bb_in 26 (by decide +kernel) (by decide +kernel), bb_in 504 (by decide +kernel) (by decide +kernel), ⟨by decide +kernel, by decide +kernel, by decide +kernel, by decide +kernel⟩, by decide⟩
set_option maxRecDepth 100000 in
theorem bv_X4_next : bb_cv RX4 yX4_next cX4_next 3 (some .int) 1 := ⟨bb_in 506 (by decide +kernel) (by decide +kernel), bb_in 507 (by decide +kernel) (by decide +kernel), bb_in 26 (by decide +kernel) (by decide +kernel), bb_in 508 (by decide +kernel) (by decide +kernel), ⟨by decide +kernel, by decide +kernel, by decide +kernel, by decide +kernel⟩, by decide⟩
set_option maxRecDepth 100000 in
theorem bv_X4_stand : bb_cv RX4 yX4_stand cX4_stand 7 (some .int) 2 := ⟨bb_in 515 (by decide +kernel) (by decide +kernel), bb_in 516 (by decide +kernel) (by decide +kernel), bb_in 26 (by decide +kernel) (by decide +kernel), bb_in 517 (by decide +kernel) (by decide +kernel), ⟨by decide +kernel, by decide +kernel, by decide +kernel, by decide +kernel⟩, by decide⟩
set_option maxRecDepth 100000 in
theorem bv_X4_hush : bb_cv RX4 yX4_hush cX4_hush 4 (some .int) 2 := ⟨bb_in 523 (by decide +kernel) (by decide +kernel), bb_in 524 (by decide +kernel) (by decide +kernel), bb_in 26 (by decide +kernel) (by decide +kernel), bb_in 525 (by decide +kernel) (by decide +kernel), ⟨by decide +kernel, by decide +kernel, by decide +kernel, by decide +kernel⟩, by decide⟩
set_option maxRecDepth 100000 in
theorem bv_X4_mask : bb_cv RX4 yX4_mask cX4_mask 7 (some .int) 2 := ⟨bb_in 527 (by decide +kernel) (by decide +kernel), bb_in 528 (by decide +kernel) (by decide +kernel), bb_in 26 (by decide +kernel) (by decide +kernel), bb_in 529 (by decide +kernel) (by decide +kernel), ⟨by decide +kernel, by decide +kernel, by decide +kernel, by decide +kernel⟩, by decide⟩
set_option maxRecDepth 100000 in
theorem bv_X4_alike : bb_cv RX4 yX4_alike cX4_alike 7 (some .int) 2 := ⟨bb_in 532 (by decide +kernel) (by decide +kernel), bb_in 533 (by decide +kernel) (by decide +kernel), bb_in 26 (by decide +kernel) (by decide +kernel), bb_in 534 (by decide +kernel) (by decide +kernel), ⟨by decide +kernel, by decide +kernel, by decide +kernel, by decide +kernel⟩, by decide⟩
set_option maxRecDepth 100000 in
theorem bv_X4_turned : bb_cv RX4 yX4_turned cX4_turned 6 (some .int) 2 := ⟨bb_in 536 (by decide +kernel) (by decide +kernel), bb_in 537 (by decide +kernel) (by decide +kernel), bb_in 26 (by decide +kernel) (by decide +kernel), bb_in 538 (by decide +kernel) (by decide +kernel), ⟨by decide +kernel, by decide +kernel, by decide +kernel, by decide +kernel⟩, by decide⟩
set_option maxRecDepth 100000 in
theorem bv_X4_luck : bb_cv RX4 yX4_luck cX4_luck 7 (some .int) 3 := ⟨bb_in 540 (by decide +kernel) (by decide +kernel), bb_in 541 (by decide +kernel) (by decide +kernel), bb_in 26 (by decide +kernel) (by decide +kernel), bb_in 542 (by decide +kernel) (by decide +kernel), ⟨by decide +kernel, by decide +kernel, by decide +kernel, by decide +kernel⟩, by decide⟩
set_option maxRecDepth 100000 in
theorem bv_X4_image : bb_cv RX4 yX4_image cX4_image 1 (some .int) 0 := ⟨bb_in 551 (by decide +kernel) (by decide +kernel), bb_in 552 (by decide +kernel) (by decide +kernel), bb_in 26 (by decide +kernel) (by decide +kernel), bb_in 553 (by decide +kernel) (by decide +kernel), ⟨by decide +kernel, by decide +kernel, by decide +kernel, by decide +kernel⟩, by decide⟩
set_option maxRecDepth 100000 in
theorem bv_X4_restore : bb_cv RX4 yX4_restore cX4_restore 1 (some .int) 0 := ⟨bb_in 559 (by decide +kernel) (by decide +kernel), bb_in 560 (by decide +kernel) (by decide +kernel), bb_in 26 (by decide +kernel) (by decide +kernel), bb_in 561 (by decide +kernel) (by decide +kernel), ⟨by decide +kernel, by decide +kernel, by decide +kernel, by decide +kernel⟩, by decide⟩
set_option maxRecDepth 100000 in
theorem bv_X4_seen : bb_cv RX4 yX4_seen cX4_seen 11 (some .int) 5 := ⟨bb_in 563 (by decide +kernel) (by decide +kernel), bb_in 564 (by decide +kernel) (by decide +kernel), bb_in 26 (by decide +kernel) (by decide +kernel), bb_in 565 (by decide +kernel) (by decide +kernel), ⟨by decide +kernel, by decide +kernel, by decide +kernel, by decide +kernel⟩, by decide⟩
set_option maxRecDepth 100000 in
theorem bv_X4_film : bb_cv RX4 yX4_film cX4_film 8 (some .int) 4 := ⟨bb_in 587 (by decide +kernel) (by decide +kernel), bb_in 588 (by decide +kernel) (by decide +kernel), bb_in 26 (by decide +kernel) (by decide +kernel), bb_in 589 (by decide +kernel) (by decide +kernel), ⟨by decide +kernel, by decide +kernel, by decide +kernel, by decide +kernel⟩, by decide⟩
set_option maxRecDepth 100000 in
theorem bv_X4_sheet : bb_cv RX4 yX4_sheet cX4_sheet 4 (some .int) 3 := ⟨bb_in 595 (by decide +kernel) (by decide +kernel), bb_in 596 (by decide +kernel) (by decide +kernel), bb_in 26 (by decide +kernel) (by decide +kernel), bb_in 597 (by decide +kernel) (by decide +kernel), ⟨by decide +kernel, by decide +kernel, by decide +kernel, by decide +kernel⟩, by decide⟩
set_option maxRecDepth 100000 in
theorem bv_X4_drop : bb_cv RX4 yX4_drop cX4_drop 4 (some .int) 1 := ⟨bb_in 603 (by decide +kernel) (by decide +kernel), bb_in 604 (by decide +kernel) (by decide +kernel), bb_in 26 (by decide +kernel) (by decide +kernel), bb_in 605 (by decide +kernel) (by decide +kernel), ⟨by decide +kernel, by decide +kernel, by decide +kernel, by decide +kernel⟩, by decide⟩
set_option maxRecDepth 100000 in
theorem bv_X4_item : bb_cv RX4 yX4_item cX4_item 7 (some .int) 4 := ⟨bb_in 612 (by decide +kernel) (by decide +kernel), bb_in 613 (by decide +kernel) (by decide +kernel), bb_in 26 (by decide +kernel) (by decide +kernel), bb_in 614 (by decide +kernel) (by decide +kernel), ⟨by decide +kernel, by decide +kernel, by decide +kernel, by decide +kernel⟩, by decide⟩
set_option maxRecDepth 100000 in
theorem bv_X4_copy : bb_cv RX4 yX4_copy cX4_copy 8 (some .int) 5 := ⟨bb_in 616 (by decide +kernel) (by decide +kernel), bb_in 617 (by decide +kernel) (by decide +kernel), bb_in 26 (by decide +kernel) (by decide +kernel), bb_in 618 (by decide +kernel) (by decide +kernel), ⟨by decide +kernel, by decide +kernel, by decide +kernel, by decide +kernel⟩, by decide⟩
set_option maxRecDepth 100000 in
theorem bv_X4_isNobody : bb_cv RX4 yX4_isNobody cX4_isNobody 2 (some .boolean) 1 := ⟨bb_in 240 (by decide +kernel) (by decide +kernel), bb_in 0 (by decide +kernel) (by decide +kernel), bb_in 26 (by decide +kernel) (by decide +kernel), bb_in 241 (by decide +kernel) (by decide +kernel), ⟨by decide +kernel, by decide +kernel, by decide +kernel, by decide +kernel⟩, by decide⟩
set_option maxRecDepth 100000 in
theorem bv_X4_isNoSheet : bb_cS RX4 yX4_isNoSheet cX4_isNoSheet 1 (some .boolean) 1 := ⟨bb_in 567 (by decide +kernel) (by decide +kernel), bb_in 26 (by decide +kernel) (by decide +kernel), bb_in 568 (by decide +kernel) (by decide +kernel), ⟨by decide +kernel, by decide +kernel, by decide +kernel, by decide +kernel⟩, by decide⟩
set_option maxRecDepth 100000 in
theorem bv_X4_outside : bb_cS RX4 yX4_outside cX4_outside 3 (some .boolean) 3 := ⟨bb_in 212 (by decide +kernel) (by decide +kernel), bb_in 26 (by decide +kernel) (by decide +kernel), bb_in 213 (by decide +kernel) (by decide +kernel), ⟨by decide +kernel, by decide +kernel, by decide +kernel, by decide +kernel⟩, by decide⟩
set_option maxRecDepth 100000 in
theorem bv_X4_commonDivisor : bb_cS RX4 yX4_commonDivisor cX4_commonDivisor 6 (some .int) 2 := ⟨bb_in 548 (by decide +kernel) (by decide +kernel), bb_in 26 (by decide +kernel) (by decide +kernel), bb_in 549 (by decide +kernel) (by decide +kernel), ⟨by decide +kernel, by decide +kernel, by decide +kernel, by decide +kernel⟩, by decide⟩
set_option maxRecDepth 100000 in
theorem bv_X5_in : bb_cS RX5 yX5_in cX5_in 6 (some .boolean) 3 := ⟨bb_in 693 (by decide +kernel) (by decide +kernel), bb_in 31 (by decide +kernel) (by decide +kernel), bb_in 694 (by decide +kernel) (by decide +kernel), ⟨by decide +kernel, by decide +kernel, by decide +kernel, by decide +kernel⟩, by decide⟩
set_option maxRecDepth 100000 in
theorem bv_X5_fresh : bb_cv RX5 yX5_fresh cX5_fresh 4 none 2 := ⟨bb_in 629 (by decide +kernel) (by decide +kernel), bb_in 1 (by decide +kernel) (by decide +kernel), bb_in 31 (by decide +kernel) (by decide +kernel), bb_in 630 (by decide +kernel) (by decide +kernel), ⟨by decide +kernel, by decide +kernel, by decide +kernel, by decide +kernel⟩, by decide⟩
set_option maxRecDepth 100000 in
theorem bv_X5_cells : bb_cv RX5 yX5_cells cX5_cells 1 (some .int) 0 := ⟨bb_in 697 (by decide +kernel) (by decide +kernel), bb_in 2 (by decide +kernel) (by decide +kernel), bb_in 31 (by decide +kernel) (by decide +kernel), bb_in 698 (by decide +kernel) (by decide +kernel), ⟨by decide +kernel, by decide +kernel, by decide +kernel, by decide +kernel⟩, by decide⟩
set_option maxRecDepth 100000 in
theorem bv_X5_isPerson : bb_cv RX5 yX5_isPerson cX5_isPerson 2 (some .boolean) 1 := ⟨bb_in 716 (by decide +kernel) (by decide +kernel), bb_in 4 (by decide +kernel) (by decide +kernel), bb_in 31 (by decide +kernel) (by decide +kernel), bb_in 717 (by decide +kernel) (by decide +kernel), ⟨by decide +kernel, by decide +kernel, by decide +kernel, by decide +kernel⟩, by decide⟩
set_option maxRecDepth 100000 in
theorem bv_X5_told : bb_cv RX5 yX5_told cX5_told 3 (some .int) 2 := ⟨bb_in 729 (by decide +kernel) (by decide +kernel), bb_in 7 (by decide +kernel) (by decide +kernel), bb_in 31 (by decide +kernel) (by decide +kernel), bb_in 730 (by decide +kernel) (by decide +kernel), ⟨by decide +kernel, by decide +kernel, by decide +kernel, by decide +kernel⟩, by decide⟩
set_option maxRecDepth 100000 in
theorem bv_X5_isFree : bb_cv RX5 yX5_isFree cX5_isFree 2 (some .boolean) 1 := ⟨bb_in 721 (by decide +kernel) (by decide +kernel), bb_in 5 (by decide +kernel) (by decide +kernel), bb_in 31 (by decide +kernel) (by decide +kernel), bb_in 722 (by decide +kernel) (by decide +kernel), ⟨by decide +kernel, by decide +kernel, by decide +kernel, by decide +kernel⟩, by decide⟩
set_option maxRecDepth 100000 in
theorem bv_X5_apart : bb_cS RX5 yX5_apart cX5_apart 2 (some .int) 2 := ⟨bb_in 732 (by decide +kernel) (by decide +kernel), bb_in 31 (by decide +kernel) (by decide +kernel), bb_in 733 (by decide +kernel) (by decide +kernel), ⟨by decide +kernel, by decide +kernel, by decide +kernel, by decide +kernel⟩, by decide⟩
set_option maxRecDepth 100000 in
theorem bv_X5_far : bb_cv RX5 yX5_far cX5_far 4 (some .int) 1 := ⟨bb_in 725 (by decide +kernel) (by decide +kernel), bb_in 6 (by decide +kernel) (by decide +kernel), bb_in 31 (by decide +kernel) (by decide +kernel), bb_in 726 (by decide +kernel) (by decide +kernel), ⟨by decide +kernel, by decide +kernel, by decide +kernel, by decide +kernel⟩, by decide⟩
set_option maxRecDepth 100000 in
theorem bv_X5_loud : bb_cv RX5 yX5_loud cX5_loud 4 (some .int) 1 := ⟨bb_in 736 (by decide +kernel) (by decide +kernel), bb_in 8 (by decide +kernel) (by decide +kernel), bb_in 31 (by decide +kernel) (by decide +kernel), bb_in 737 (by decide +kernel) (by decide +kernel), ⟨by decide +kernel, by decide +kernel, by decide +kernel, by decide +kernel⟩, by decide⟩
set_option maxRecDepth 100000 in
theorem bv_X5_many : bb_cS RX5 yX5_many cX5_many 3 (some .int) 1 := ⟨bb_in 743 (by decide +kernel) (by decide +kernel), bb_in 31 (by decide +kernel) (by decide +kernel), bb_in 744 (by decide +kernel) (by decide +kernel), ⟨by decide +kernel, by decide +kernel, by decide +kernel, by decide +kernel⟩, by decide⟩
set_option maxRecDepth 100000 in
theorem bv_X5_named : bb_cv RX5 yX5_named cX5_named 6 (some .int) 2 := ⟨bb_in 740 (by decide +kernel) (by decide +kernel), bb_in 9 (by decide +kernel) (by decide +kernel), bb_in 31 (by decide +kernel) (by decide +kernel), bb_in 741 (by decide +kernel) (by decide +kernel), ⟨by decide +kernel, by decide +kernel, by decide +kernel, by decide +kernel⟩, by decide⟩
set_option maxRecDepth 100000 in
theorem bv_X5_follows : bb_cv RX5 yX5_follows cX5_follows 6 (some .int) 1 := ⟨bb_in 756 (by decide +kernel) (by decide +kernel), bb_in 10 (by decide +kernel) (by decide +kernel), bb_in 31 (by decide +kernel) (by decide +kernel), bb_in 757 (by decide +kernel) (by decide +kernel), ⟨by decide +kernel, by decide +kernel, by decide +kernel, by decide +kernel⟩, by decide⟩
set_option maxRecDepth 100000 in
theorem bv_X5_nearer : bb_cS RX5 yX5_nearer cX5_nearer 2 (some .int) 2 := ⟨bb_in 807 (by decide +kernel) (by decide +kernel), bb_in 31 (by decide +kernel) (by decide +kernel), bb_in 808 (by decide +kernel) (by decide +kernel), ⟨by decide +kernel, by decide +kernel, by decide +kernel, by decide +kernel⟩, by decide⟩
set_option maxRecDepth 100000 in
theorem bv_X5_goesBy : bb_cv RX5 yX5_goesBy cX5_goesBy 5 (some .boolean) 0 := ⟨bb_in 804 (by decide +kernel) (by decide +kernel), bb_in 18 (by decide +kernel) (by decide +kernel), bb_in 31 (by decide +kernel) (by decide +kernel), bb_in 805 (by decide +kernel) (by decide +kernel), ⟨by decide +kernel, by decide +kernel, by decide +kernel, by decide +kernel⟩, by decide⟩
set_option maxRecDepth 100000 in
theorem bv_X5_streets : bb_cv RX5 yX5_streets cX5_streets 3 (some .int) 2 := ⟨bb_in 687 (by decide +kernel) (by decide +kernel), bb_in 688 (by decide +kernel) (by decide +kernel), bb_in 31 (by decide +kernel) (by decide +kernel), bb_in 689 (by decide +kernel) (by decide +kernel), ⟨by decide +kernel, by decide +kernel, by decide +kernel, by decide +kernel⟩, by decide⟩
set_option maxRecDepth 100000 in
theorem bv_X5_comes : bb_cv RX5 yX5_comes cX5_comes 6 none 4 := ⟨bb_in 708 (by decide +kernel) (by decide +kernel), bb_in 3 (by decide +kernel) (by decide +kernel), bb_in 31 (by decide +kernel) (by decide +kernel), bb_in 709 (by decide +kernel) (by decide +kernel), ⟨by decide +kernel, by decide +kernel, by decide +kernel, by decide +kernel⟩, by decide⟩
set_option maxRecDepth 100000 in
theorem bv_X5_person : bb_cv RX5 yX5_person cX5_person 5 (some .int) 4 := ⟨bb_in 700 (by decide +kernel) (by decide +kernel), bb_in 701 (by decide +kernel) (by decide +kernel), bb_in 31 (by decide +kernel) (by decide +kernel), bb_in 702 (by decide +kernel) (by decide +kernel), ⟨by decide +kernel, by decide +kernel, by decide +kernel, by decide +kernel⟩, by decide⟩
set_option maxRecDepth 100000 in
theorem bv_X5_of : bb_cv RX5 yX5_of cX5_of 3 (some .int) 2 := ⟨bb_in 711 (by decide +kernel) (by decide +kernel), bb_in 712 (by decide +kernel) (by decide +kernel), bb_in 31 (by decide +kernel) (by decide +kernel), bb_in 713 (by decide +kernel) (by decide +kernel), ⟨by decide +kernel, by decide +kernel, by decide +kernel, by decide +kernel⟩, by decide⟩
set_option maxRecDepth 100000 in
theorem bv_X5_rule : bb_cv RX5 yX5_rule cX5_rule 6 (some .int) 3 := ⟨bb_in 746 (by decide +kernel) (by decide +kernel), bb_in 747 (by decide +kernel) (by decide +kernel), bb_in 31 (by decide +kernel) (by decide +kernel), bb_in 748 (by decide +kernel) (by decide +kernel), ⟨by decide +kernel, by decide +kernel, by decide +kernel, by decide +kernel⟩, by decide⟩
set_option maxRecDepth 100000 in
theorem bv_X5_count : bb_cv RX5 yX5_count cX5_count 2 (some .int) 1 := ⟨bb_in 750 (by decide +kernel) (by decide +kernel), bb_in 751 (by decide +kernel) (by decide +kernel), bb_in 31 (by decide +kernel) (by decide +kernel), bb_in 752 (by decide +kernel) (by decide +kernel), ⟨by decide +kernel, by decide +kernel, by decide +kernel, by decide +kernel⟩, by decide⟩
set_option maxRecDepth 100000 in
theorem bv_X5_type : bb_cv RX5 yX5_type cX5_type 2 (some .int) 1 := ⟨bb_in 759 (by decide +kernel) (by decide +kernel), bb_in 760 (by decide +kernel) (by decide +kernel), bb_in 31 (by decide +kernel) (by decide +kernel), bb_in 761 (by decide +kernel) (by decide +kernel), ⟨by decide +kernel, by decide +kernel, by decide +kernel, by decide +kernel⟩, by decide⟩
set_option maxRecDepth 100000 in
theorem bv_X5_here : bb_cv RX5 yX5_here cX5_here 1 (some .int) 0 := ⟨bb_in 774 (by decide +kernel) (by decide +kernel), bb_in 12 (by decide +kernel) (by decide +kernel), bb_in 31 (by decide +kernel) (by decide +kernel), bb_in 775 (by decide +kernel) (by decide +kernel), ⟨by decide +kernel, by decide +kernel, by decide +kernel, by decide +kernel⟩, by decide⟩
set_option maxRecDepth 100000 in
theorem bv_X5_must : bb_cv RX5 yX5_must cX5_must 2 none 1 := ⟨bb_in 778 (by decide +kernel) (by decide +kernel), bb_in 13 (by decide +kernel) (by decide +kernel), bb_in 31 (by decide +kernel) (by decide +kernel), bb_in 779 (by decide +kernel) (by decide +kernel), ⟨by decide +kernel, by decide +kernel, by decide +kernel, by decide +kernel⟩, by decide⟩
set_option maxRecDepth 100000 in
theorem bv_X5_digit : bb_cv RX5 yX5_digit cX5_digit 4 (some .int) 2 := ⟨bb_in 770 (by decide +kernel) (by decide +kernel), bb_in 11 (by decide +kernel) (by decide +kernel), bb_in 31 (by decide +kernel) (by decide +kernel), bb_in 771 (by decide +kernel) (by decide +kernel), ⟨by decide +kernel, by decide +kernel, by decide +kernel, by decide +kernel⟩, by decide⟩
set_option maxRecDepth 100000 in
theorem bv_X5_sign : bb_cv RX5 yX5_sign cX5_sign 2 none 1 := ⟨bb_in 782 (by decide +kernel) (by decide +kernel), bb_in 14 (by decide +kernel) (by decide +kernel), bb_in 31 (by decide +kernel) (by decide +kernel), bb_in 783 (by decide +kernel) (by decide +kernel), ⟨by decide +kernel, by decide +kernel, by decide +kernel, by decide +kernel⟩, by decide⟩
set_option maxRecDepth 100000 in
theorem bv_X5_readFace : bb_cv RX5 yX5_readFace cX5_readFace 3 (some .int) 0 := ⟨bb_in 790 (by decide +kernel) (by decide +kernel), bb_in 16 (by decide +kernel) (by decide +kernel), bb_in 31 (by decide +kernel) (by decide +kernel), bb_in 791 (by decide +kernel) (by decide +kernel), ⟨by decide +kernel, by decide +kernel, by decide +kernel, by decide +kernel⟩, by decide⟩
set_option maxRecDepth 100000 in
theorem bv_X5_readPeople : bb_cv RX5 yX5_readPeople cX5_readPeople 10 (some .int) 2 := ⟨bb_in 786 (by decide +kernel) (by decide +kernel), bb_in 15 (by decide +kernel) (by decide +kernel), bb_in 31 (by decide +kernel) (by decide +kernel), bb_in 787 (by decide +kernel) (by decide +kernel), ⟨by decide +kernel, by decide +kernel, by decide +kernel, by decide +kernel⟩, by decide⟩
set_option maxRecDepth 100000 in
theorem bv_X5_city : bb_cv RX5 yX5_city cX5_city 7 (some .int) 0 := ⟨bb_in 765 (by decide +kernel) (by decide +kernel), bb_in 766 (by decide +kernel) (by decide +kernel), bb_in 31 (by decide +kernel) (by decide +kernel), bb_in 767 (by decide +kernel) (by decide +kernel), ⟨by decide +kernel, by decide +kernel, by decide +kernel, by decide +kernel⟩, by decide⟩
set_option maxRecDepth 100000 in
theorem bv_X5_notes : bb_cv RX5 yX5_notes cX5_notes 3 none 0 := ⟨bb_in 800 (by decide +kernel) (by decide +kernel), bb_in 17 (by decide +kernel) (by decide +kernel), bb_in 31 (by decide +kernel) (by decide +kernel), bb_in 801 (by decide +kernel) (by decide +kernel), ⟨by decide +kernel, by decide +kernel, by decide +kernel, by decide +kernel⟩, by decide⟩
set_option maxRecDepth 100000 in
theorem bv_X5_minutes : bb_cv RX5 yX5_minutes cX5_minutes 3 (some .int) 1 := ⟨bb_in 794 (by decide +kernel) (by decide +kernel), bb_in 795 (by decide +kernel) (by decide +kernel), bb_in 31 (by decide +kernel) (by decide +kernel), bb_in 796 (by decide +kernel) (by decide +kernel), ⟨by decide +kernel, by decide +kernel, by decide +kernel, by decide +kernel⟩, by decide⟩
set_option maxRecDepth 100000 in
theorem bv_X5_beside : bb_cv RX5 yX5_beside cX5_beside 6 (some .int) 2 := ⟨bb_in 816 (by decide +kernel) (by decide +kernel), bb_in 19 (by decide +kernel) (by decide +kernel), bb_in 31 (by decide +kernel) (by decide +kernel), bb_in 817 (by decide +kernel) (by decide +kernel), ⟨by decide +kernel, by decide +kernel, by decide +kernel, by decide +kernel⟩, by decide⟩
set_option maxRecDepth 100000 in
theorem bv_X5_walk : bb_cv RX5 yX5_walk cX5_walk 4 (some .int) 2 := ⟨bb_in 810 (by decide +kernel) (by decide +kernel), bb_in 811 (by decide +kernel) (by decide +kernel), bb_in 31 (by decide +kernel) (by decide +kernel), bb_in 812 (by decide +kernel) (by decide +kernel), ⟨by decide +kernel, by decide +kernel, by decide +kernel, by decide +kernel⟩, by decide⟩
set_option maxRecDepth 100000 in
theorem bv_X5_free : bb_cv RX5 yX5_free cX5_free 2 (some .int) 1 := ⟨bb_in 819 (by decide +kernel) (by decide +kernel), bb_in 820 (by decide +kernel) (by decide +kernel), bb_in 31 (by decide +kernel) (by decide +kernel), bb_in 821 (by decide +kernel) (by decide +kernel), ⟨by decide +kernel, by decide +kernel, by decide +kernel, by decide +kernel⟩, by decide⟩
set_option maxRecDepth 100000 in
theorem bv_X5_drift : bb_cv RX5 yX5_drift cX5_drift 5 (some .int) 1 := ⟨bb_in 823 (by decide +kernel) (by decide +kernel), bb_in 824 (by decide +kernel) (by decide +kernel), bb_in 31 (by decide +kernel) (by decide +kernel), bb_in 825 (by decide +kernel) (by decide +kernel), ⟨by decide +kernel, by decide +kernel, by decide +kernel, by decide +kernel⟩, by decide⟩
set_option maxRecDepth 100000 in
theorem bv_X5_undo : bb_cv RX5 yX5_undo cX5_undo 3 (some .int) 0 := ⟨bb_in 831 (by decide +kernel) (by decide +kernel), bb_in 832 (by decide +kernel) (by decide +kernel), bb_in 31 (by decide +kernel) (by decide +kernel), bb_in 833 (by decide +kernel) (by decide +kernel), ⟨by decide +kernel, by decide +kernel, by decide +kernel, by decide +kernel⟩, by decide⟩
set_option maxRecDepth 100000 in
theorem bv_X5_seed : bb_cv RX5 yX5_seed cX5_seed 3 (some .int) 1 := ⟨bb_in 835 (by decide +kernel) (by decide +kernel), bb_in 836 (by decide +kernel) (by decide +kernel), bb_in 31 (by decide +kernel) (by decide +kernel), bb_in 837 (by decide +kernel) (by decide +kernel), ⟨by decide +kernel, by decide +kernel, by decide +kernel, by decide +kernel⟩, by decide⟩
set_option maxRecDepth 100000 in
theorem bv_X5_asides : bb_cv RX5 yX5_asides cX5_asides 2 none 0 := ⟨bb_in 845 (by decide +kernel) (by decide +kernel), bb_in 20 (by decide +kernel) (by decide +kernel), bb_in 31 (by decide +kernel) (by decide +kernel), bb_in 846 (by decide +kernel) (by decide +kernel), ⟨by decide +kernel, by decide +kernel, by decide +kernel, by decide +kernel⟩, by decide⟩
set_option maxRecDepth 100000 in
theorem bv_X5_backs : bb_cv RX5 yX5_backs cX5_backs 2 none 0 := ⟨bb_in 849 (by decide +kernel) (by decide +kernel), bb_in 21 (by decide +kernel) (by decide +kernel), bb_in 31 (by decide +kernel) (by decide +kernel), bb_in 850 (by decide +kernel) (by decide +kernel), ⟨by decide +kernel, by decide +kernel, by decide +kernel, by decide +kernel⟩, by decide⟩
set_option maxRecDepth 100000 in
theorem bv_X5_ahead : bb_cv RX5 yX5_ahead cX5_ahead 4 (some .int) 2 := ⟨bb_in 839 (by decide +kernel) (by decide +kernel), bb_in 840 (by decide +kernel) (by decide +kernel), bb_in 31 (by decide +kernel) (by decide +kernel), bb_in 841 (by decide +kernel) (by decide +kernel), ⟨by decide +kernel, by decide +kernel, by decide +kernel, by decide +kernel⟩, by decide⟩
set_option maxRecDepth 100000 in
theorem bv_X5_nextBehind : bb_cv RX5 yX5_nextBehind cX5_nextBehind 3 (some .int) 0 := ⟨bb_in 857 (by decide +kernel) (by decide +kernel), bb_in 22 (by decide +kernel) (by decide +kernel), bb_in 31 (by decide +kernel) (by decide +kernel), bb_in 858 (by decide +kernel) (by decide +kernel), ⟨by decide +kernel, by decide +kernel, by decide +kernel, by decide +kernel⟩, by decide⟩
set_option maxRecDepth 100000 in
theorem bv_X5_next : bb_cv RX5 yX5_next cX5_next 3 (some .int) 1 := ⟨bb_in 852 (by decide +kernel) (by decide +kernel), bb_in 853 (by decide +kernel) (by decide +kernel), bb_in 31 (by decide +kernel) (by decide +kernel), bb_in 854 (by decide +kernel) (by decide +kernel), ⟨by decide +kernel, by decide +kernel, by decide +kernel, by decide +kernel⟩, by decide⟩
set_option maxRecDepth 100000 in
theorem bv_X5_caughtBehind : bb_cv RX5 yX5_caughtBehind cX5_caughtBehind 5 (some .int) 2 := ⟨bb_in 865 (by decide +kernel) (by decide +kernel), bb_in 23 (by decide +kernel) (by decide +kernel), bb_in 31 (by decide +kernel) (by decide +kernel), bb_in 866 (by decide +kernel) (by decide +kernel), ⟨by decide +kernel, by decide +kernel, by decide +kernel, by decide +kernel⟩, by decide⟩
set_option maxRecDepth 100000 in
theorem bv_X5_stand : bb_cv RX5 yX5_stand cX5_stand 7 (some .int) 2 := ⟨bb_in 860 (by decide +kernel) (by decide +kernel), bb_in 861 (by decide +kernel) (by decide +kernel), bb_in 31 (by decide +kernel) (by decide +kernel), bb_in 862 (by decide +kernel) (by decide +kernel), ⟨by decide +kernel, by decide +kernel, by decide +kernel, by decide +kernel⟩, by decide⟩
set_option maxRecDepth 100000 in
theorem bv_X5_hush : bb_cv RX5 yX5_hush cX5_hush 4 (some .int) 2 := ⟨bb_in 868 (by decide +kernel) (by decide +kernel), bb_in 869 (by decide +kernel) (by decide +kernel), bb_in 31 (by decide +kernel) (by decide +kernel), bb_in 870 (by decide +kernel) (by decide +kernel), ⟨by decide +kernel, by decide +kernel, by decide +kernel, by decide +kernel⟩, by decide⟩
set_option maxRecDepth 100000 in
theorem bv_X5_mask : bb_cv RX5 yX5_mask cX5_mask 6 (some .int) 2 := ⟨bb_in 872 (by decide +kernel) (by decide +kernel), bb_in 873 (by decide +kernel) (by decide +kernel), bb_in 31 (by decide +kernel) (by decide +kernel), bb_in 874 (by decide +kernel) (by decide +kernel), ⟨by decide +kernel, by decide +kernel, by decide +kernel, by decide +kernel⟩, by decide⟩
set_option maxRecDepth 100000 in
theorem bv_X5_alike : bb_cv RX5 yX5_alike cX5_alike 8 (some .int) 2 := ⟨bb_in 876 (by decide +kernel) (by decide +kernel), bb_in 877 (by decide +kernel) (by decide +kernel), bb_in 31 (by decide +kernel) (by decide +kernel), bb_in 878 (by decide +kernel) (by decide +kernel), ⟨by decide +kernel, by decide +kernel, by decide +kernel, by decide +kernel⟩, by decide⟩
set_option maxRecDepth 100000 in
theorem bv_X5_turned : bb_cv RX5 yX5_turned cX5_turned 7 (some .int) 2 := ⟨bb_in 880 (by decide +kernel) (by decide +kernel), bb_in 881 (by decide +kernel) (by decide +kernel), bb_in 31 (by decide +kernel) (by decide +kernel), bb_in 882 (by decide +kernel) (by decide +kernel), ⟨by decide +kernel, by decide +kernel, by decide +kernel, by decide +kernel⟩, by decide⟩
set_option maxRecDepth 100000 in
theorem bv_X5_luck : bb_cv RX5 yX5_luck cX5_luck 9 (some .int) 3 := ⟨bb_in 884 (by decide +kernel) (by decide +kernel), bb_in 885 (by decide +kernel) (by decide +kernel), bb_in 31 (by decide +kernel) (by decide +kernel), bb_in 886 (by decide +kernel) (by decide +kernel), ⟨by decide +kernel, by decide +kernel, by decide +kernel, by decide +kernel⟩, by decide⟩
set_option maxRecDepth 100000 in
theorem bv_X5_image : bb_cv RX5 yX5_image cX5_image 2 (some .int) 0 := ⟨bb_in 889 (by decide +kernel) (by decide +kernel), bb_in 890 (by decide +kernel) (by decide +kernel), bb_in 31 (by decide +kernel) (by decide +kernel), bb_in 891 (by decide +kernel) (by decide +kernel), ⟨by decide +kernel, by decide +kernel, by decide +kernel, by decide +kernel⟩, by decide⟩
set_option maxRecDepth 100000 in
theorem bv_X5_restore : bb_cv RX5 yX5_restore cX5_restore 2 (some .int) 0 := ⟨bb_in 893 (by decide +kernel) (by decide +kernel), bb_in 894 (by decide +kernel) (by decide +kernel), bb_in 31 (by decide +kernel) (by decide +kernel), bb_in 895 (by decide +kernel) (by decide +kernel), ⟨by decide +kernel, by decide +kernel, by decide +kernel, by decide +kernel⟩, by decide⟩
set_option maxRecDepth 100000 in
theorem bv_X5_isSheet : bb_cS RX5 yX5_isSheet cX5_isSheet 1 (some .boolean) 1 := ⟨bb_in 901 (by decide +kernel) (by decide +kernel), bb_in 31 (by decide +kernel) (by decide +kernel), bb_in 902 (by decide +kernel) (by decide +kernel), ⟨by decide +kernel, by decide +kernel, by decide +kernel, by decide +kernel⟩, by decide⟩
set_option maxRecDepth 100000 in
theorem bv_X5_isLane : bb_cS RX5 yX5_isLane cX5_isLane 1 (some .boolean) 1 := ⟨bb_in 904 (by decide +kernel) (by decide +kernel), bb_in 31 (by decide +kernel) (by decide +kernel), bb_in 905 (by decide +kernel) (by decide +kernel), ⟨by decide +kernel, by decide +kernel, by decide +kernel, by decide +kernel⟩, by decide⟩
set_option maxRecDepth 100000 in
theorem bv_X5_why : bb_cv RX5 yX5_why cX5_why 5 (some .int) 4 := ⟨bb_in 908 (by decide +kernel) (by decide +kernel), bb_in 24 (by decide +kernel) (by decide +kernel), bb_in 31 (by decide +kernel) (by decide +kernel), bb_in 909 (by decide +kernel) (by decide +kernel), ⟨by decide +kernel, by decide +kernel, by decide +kernel, by decide +kernel⟩, by decide⟩
set_option maxRecDepth 100000 in
theorem bv_X5_seen : bb_cv RX5 yX5_seen cX5_seen 12 (some .int) 5 := ⟨bb_in 897 (by decide +kernel) (by decide +kernel), bb_in 898 (by decide +kernel) (by decide +kernel), bb_in 31 (by decide +kernel) (by decide +kernel), bb_in 899 (by decide +kernel) (by decide +kernel), ⟨by decide +kernel, by decide +kernel, by decide +kernel, by decide +kernel⟩, by decide⟩
set_option maxRecDepth 100000 in
theorem bv_X5_film : bb_cv RX5 yX5_film cX5_film 7 (some .int) 4 := ⟨bb_in 911 (by decide +kernel) (by decide +kernel), bb_in 912 (by decide +kernel) (by decide +kernel), bb_in 31 (by decide +kernel) (by decide +kernel), bb_in 913 (by decide +kernel) (by decide +kernel), ⟨by decide +kernel, by decide +kernel, by decide +kernel, by decide +kernel⟩, by decide⟩
set_option maxRecDepth 100000 in
theorem bv_X5_sheet : bb_cv RX5 yX5_sheet cX5_sheet 5 (some .int) 3 := ⟨bb_in 916 (by decide +kernel) (by decide +kernel), bb_in 917 (by decide +kernel) (by decide +kernel), bb_in 31 (by decide +kernel) (by decide +kernel), bb_in 918 (by decide +kernel) (by decide +kernel), ⟨by decide +kernel, by decide +kernel, by decide +kernel, by decide +kernel⟩, by decide⟩
set_option maxRecDepth 100000 in
theorem bv_X5_drop : bb_cv RX5 yX5_drop cX5_drop 2 (some .int) 1 := ⟨bb_in 920 (by decide +kernel) (by decide +kernel), bb_in 921 (by decide +kernel) (by decide +kernel), bb_in 31 (by decide +kernel) (by decide +kernel), bb_in 922 (by decide +kernel) (by decide +kernel), ⟨by decide +kernel, by decide +kernel, by decide +kernel, by decide +kernel⟩, by decide⟩
set_option maxRecDepth 100000 in
theorem bv_X5_item : bb_cv RX5 yX5_item cX5_item 7 (some .int) 4 := ⟨bb_in 924 (by decide +kernel) (by decide +kernel), bb_in 925 (by decide +kernel) (by decide +kernel), bb_in 31 (by decide +kernel) (by decide +kernel), bb_in 926 (by decide +kernel) (by decide +kernel), ⟨by decide +kernel, by decide +kernel, by decide +kernel, by decide +kernel⟩, by decide⟩
set_option maxRecDepth 100000 in
theorem bv_X5_copy : bb_cv RX5 yX5_copy cX5_copy 8 (some .int) 5 := ⟨bb_in 928 (by decide +kernel) (by decide +kernel), bb_in 929 (by decide +kernel) (by decide +kernel), bb_in 31 (by decide +kernel) (by decide +kernel), bb_in 930 (by decide +kernel) (by decide +kernel), ⟨by decide +kernel, by decide +kernel, by decide +kernel, by decide +kernel⟩, by decide⟩
set_option maxRecDepth 100000 in
theorem bv_J6_compare_7cf53 : bb_cS RJ6 yJ6_compare_7cf53 cJ6_compare_7cf53 2 (some .int) 2 := ⟨bb_in 457 (by decide +kernel) (by decide +kernel), bb_in 33 (by decide +kernel) (by decide +kernel), bb_in 458 (by decide +kernel) (by decide +kernel), ⟨by decide +kernel, by decide +kernel, by decide +kernel, by decide +kernel⟩, by decide⟩
set_option maxRecDepth 100000 in
theorem bv_J6_bitCount_0f7a4 : bb_cS RJ6 yJ6_bitCount_0f7a4 cJ6_bitCount_0f7a4 1 (some .int) 1 := ⟨bb_in 278 (by decide +kernel) (by decide +kernel), bb_in 33 (by decide +kernel) (by decide +kernel), bb_in 279 (by decide +kernel) (by decide +kernel), ⟨by decide +kernel, by decide +kernel, by decide +kernel, by decide +kernel⟩, by decide⟩
end
section
def wX0 (cs : Nat → ClassId) (h : Nat → Nat) (σ : bb_O) : va_W := [(h 0, .inr (0, [.int (σ.1 0), .int (σ.1 1), .int (σ.1 2), .int (σ.1 3), .int (σ.1 4), .int (σ.1 5), .int (σ.1 6), .int (σ.1 7), .int (σ.1 8), .ref (h 10), .ref (h 11), .ref (h 12), .ref (h 13), .ref (h 14)])), (h 10, .inl (cs 0, 6, .inl (σ.2.1 9))), (h 11, .inl (cs 0, 6, .inl (σ.2.1 10))), (h 12, .inl (cs 0, 6, .inl (σ.2.1 11))), (h 13, .inl (cs 0, 6, .inl (σ.2.1 12))), (h 14, .inl (cs 0, 6, .inl (σ.2.1 13)))]
def wX2 (cs : Nat → ClassId) (h : Nat → Nat) (σ : bb_O) : va_W := [(h 0, .inr (2, [.int (σ.1 0), .int (σ.1 1), .ref (h 3)])), (h 3, .inl (cs 1, 24, .inr (.inl (σ.2.2 2))))]
def wX3 (cs : Nat → ClassId) (h : Nat → Nat) (σ : bb_O) : va_W := [(h 0, .inr (3, [.ref (h 1), .int (σ.1 1), .int (σ.1 2)])), (h 1, .inl (cs 2, 90, .inl (σ.2.1 0)))]
def wX5 (cs : Nat → ClassId) (h : Nat → Nat) (σ : bb_O) : va_W := [(h 0, .inr (5, [.ref (h 1), .int (σ.1 1), .int (σ.1 2), .ref (h 4), .int (σ.1 4), .int (σ.1 5), .int (σ.1 6), .ref (h 8), .ref (h 9), .int (σ.1 9), .ref (h 11), .ref (h 12), .int (σ.1 12), .int (σ.1 13), .ref (h 15), .ref (h 16), .ref (h 17), .ref (h 18)])), (h 1, .inl (cs 0, 39, .inl (σ.2.1 0))), (h 4, .inl (cs 0, 90, .inl (σ.2.1 3))), (h 8, .inl (cs 0, 24, .inl (σ.2.1 7))), (h 9, .inl (cs 0, 96, .inl (σ.2.1 8))), (h 11, .inl (cs 0, 39, .inl (σ.2.1 10))), (h 12, .inl (cs 0, 135, .inl (σ.2.1 11))), (h 15, .inl (cs 0, 4, .inl (σ.2.1 14))), (h 16, .inl (cs 0, 4, .inl (σ.2.1 15))), (h 17, .inl (cs 1, 96, .inr (.inl (σ.2.2 16)))), (h 18, .inl (cs 1, 24, .inr (.inl (σ.2.2 17))))]
def wX1 (cs : Nat → ClassId) (h : Nat → Nat) (σ : bb_O) : va_W := [(h 0, .inr (1, [.ref (h 1), .int (σ.1 1), .int (σ.1 2)])), (h 1, .inl (cs 3, 8, .inr (.inr (.inr (.inr (fun i => if i < 8 then some (h (10 + i)) else none)))))), (h 10, .inl (cs 0, 12, .inl (σ.2.1 0))), (h 11, .inl (cs 0, 12, .inl (σ.2.1 1))), (h 12, .inl (cs 0, 12, .inl (σ.2.1 2))), (h 13, .inl (cs 0, 12, .inl (σ.2.1 3))), (h 14, .inl (cs 0, 12, .inl (σ.2.1 4))), (h 15, .inl (cs 0, 12, .inl (σ.2.1 5))), (h 16, .inl (cs 0, 12, .inl (σ.2.1 6))), (h 17, .inl (cs 0, 12, .inl (σ.2.1 7)))]
def wX4 (cs : Nat → ClassId) (h : Nat → Nat → Nat) (σ : bb_H) : va_W := [(h 5 0, .inr (4, [.ref (h 0 0), .ref (h 1 0), .ref (h 2 0), .ref (h 3 0), .ref (h 4 0), .int ((σ 5).1 5), .ref (h 6 0), .ref (h 5 8)])), (h 5 8, .inl (cs 4, 4, .inr (.inr (.inr (.inr (fun i => if i < 4 then some (h (7 + i) 0) else none))))))] ++ (wX0 cs (h 0) (σ 0) ++ (wX1 cs (h 1) (σ 1) ++ (wX0 cs (h 2) (σ 2) ++ (wX0 cs (h 3) (σ 3) ++ (wX1 cs (h 4) (σ 4) ++ (wX3 cs (h 6) (σ 6) ++ (wX2 cs (h 7) (σ 7) ++ (wX2 cs (h 8) (σ 8) ++ (wX2 cs (h 9) (σ 9) ++ wX2 cs (h 10) (σ 10))))))))))
set_option maxRecDepth 100000 in
theorem cut_X4_0 (cs : Nat → ClassId) (h : Nat → Nat → Nat) (σ : bb_H) (τ : bb_O) : bb_cut (wX4 cs h σ) (wX0 cs (h 0) (σ 0)) (wX4 cs h (va_up σ 0 τ)) (wX0 cs (h 0) τ) := (cut_r cut_h)
set_option maxRecDepth 100000 in
theorem cut_X4_1 (cs : Nat → ClassId) (h : Nat → Nat → Nat) (σ : bb_H) (τ : bb_O) : bb_cut (wX4 cs h σ) (wX1 cs (h 1) (σ 1)) (wX4 cs h (va_up σ 1 τ)) (wX1 cs (h 1) τ) := (cut_r (cut_r cut_h))
set_option maxRecDepth 100000 in
theorem cut_X4_2 (cs : Nat → ClassId) (h : Nat → Nat → Nat) (σ : bb_H) (τ : bb_O) : bb_cut (wX4 cs h σ) (wX0 cs (h 2) (σ 2)) (wX4 cs h (va_up σ 2 τ)) (wX0 cs (h 2) τ) := (cut_r (cut_r (cut_r cut_h)))
set_option maxRecDepth 100000 in
theorem cut_X4_3 (cs : Nat → ClassId) (h : Nat → Nat → Nat) (σ : bb_H) (τ : bb_O) : bb_cut (wX4 cs h σ) (wX0 cs (h 3) (σ 3)) (wX4 cs h (va_up σ 3 τ)) (wX0 cs (h 3) τ) := (cut_r (cut_r (cut_r (cut_r cut_h))))
set_option maxRecDepth 100000 in
theorem cut_X4_4 (cs : Nat → ClassId) (h : Nat → Nat → Nat) (σ : bb_H) (τ : bb_O) : bb_cut (wX4 cs h σ) (wX1 cs (h 4) (σ 4)) (wX4 cs h (va_up σ 4 τ)) (wX1 cs (h 4) τ) := (cut_r (cut_r (cut_r (cut_r (cut_r cut_h)))))
set_option maxRecDepth 100000 in
theorem cut_X4_6 (cs : Nat → ClassId) (h : Nat → Nat → Nat) (σ : bb_H) (τ : bb_O) : bb_cut (wX4 cs h σ) (wX3 cs (h 6) (σ 6)) (wX4 cs h (va_up σ 6 τ)) (wX3 cs (h 6) τ) := (cut_r (cut_r (cut_r (cut_r (cut_r (cut_r cut_h))))))
set_option maxRecDepth 100000 in
theorem cut_X4_7 (cs : Nat → ClassId) (h : Nat → Nat → Nat) (σ : bb_H) (τ : bb_O) : bb_cut (wX4 cs h σ) (wX2 cs (h 7) (σ 7)) (wX4 cs h (va_up σ 7 τ)) (wX2 cs (h 7) τ) := (cut_r (cut_r (cut_r (cut_r (cut_r (cut_r (cut_r cut_h)))))))
set_option maxRecDepth 100000 in
theorem cut_X4_8 (cs : Nat → ClassId) (h : Nat → Nat → Nat) (σ : bb_H) (τ : bb_O) : bb_cut (wX4 cs h σ) (wX2 cs (h 8) (σ 8)) (wX4 cs h (va_up σ 8 τ)) (wX2 cs (h 8) τ) := (cut_r (cut_r (cut_r (cut_r (cut_r (cut_r (cut_r (cut_r cut_h))))))))
set_option maxRecDepth 100000 in
theorem cut_X4_9 (cs : Nat → ClassId) (h : Nat → Nat → Nat) (σ : bb_H) (τ : bb_O) : bb_cut (wX4 cs h σ) (wX2 cs (h 9) (σ 9)) (wX4 cs h (va_up σ 9 τ)) (wX2 cs (h 9) τ) := (cut_r (cut_r (cut_r (cut_r (cut_r (cut_r (cut_r (cut_r (cut_r cut_h)))))))))
set_option maxRecDepth 100000 in
theorem cut_X4_10 (cs : Nat → ClassId) (h : Nat → Nat → Nat) (σ : bb_H) (τ : bb_O) : bb_cut (wX4 cs h σ) (wX2 cs (h 10) (σ 10)) (wX4 cs h (va_up σ 10 τ)) (wX2 cs (h 10) τ) := (cut_r (cut_r (cut_r (cut_r (cut_r (cut_r (cut_r (cut_r (cut_r (cut_r (bb_cut_self _ _)))))))))))
set_option maxRecDepth 100000 in
theorem cut_X4_1_0 (cs : Nat → ClassId) (h : Nat → Nat → Nat) (σ : bb_H) (τ υ : bb_O) : bb_cut (wX4 cs h σ) (wX1 cs (h 1) (σ 1) ++ wX0 cs (h 0) (σ 0)) (wX4 cs h (va_up (va_up σ 1 τ) 0 υ)) (wX1 cs (h 1) τ ++ wX0 cs (h 0) υ) := (cut_r (cut_b cut_h))
set_option maxRecDepth 100000 in
theorem cut_X4_2_0 (cs : Nat → ClassId) (h : Nat → Nat → Nat) (σ : bb_H) (τ υ : bb_O) : bb_cut (wX4 cs h σ) (wX0 cs (h 2) (σ 2) ++ wX0 cs (h 0) (σ 0)) (wX4 cs h (va_up (va_up σ 2 τ) 0 υ)) (wX0 cs (h 2) τ ++ wX0 cs (h 0) υ) := (cut_r (cut_b (cut_r cut_h)))
set_option maxRecDepth 100000 in
theorem cut_X4_0_2 (cs : Nat → ClassId) (h : Nat → Nat → Nat) (σ : bb_H) (τ υ : bb_O) : bb_cut (wX4 cs h σ) (wX0 cs (h 0) (σ 0) ++ wX0 cs (h 2) (σ 2)) (wX4 cs h (va_up (va_up σ 0 τ) 2 υ)) (wX0 cs (h 0) τ ++ wX0 cs (h 2) υ) := (cut_r (cut_a (cut_r cut_h)))
set_option maxRecDepth 100000 in
theorem cut_X4_3_0 (cs : Nat → ClassId) (h : Nat → Nat → Nat) (σ : bb_H) (τ υ : bb_O) : bb_cut (wX4 cs h σ) (wX0 cs (h 3) (σ 3) ++ wX0 cs (h 0) (σ 0)) (wX4 cs h (va_up (va_up σ 3 τ) 0 υ)) (wX0 cs (h 3) τ ++ wX0 cs (h 0) υ) := (cut_r (cut_b (cut_r (cut_r cut_h))))
set_option maxRecDepth 100000 in
theorem cut_X4_0_3 (cs : Nat → ClassId) (h : Nat → Nat → Nat) (σ : bb_H) (τ υ : bb_O) : bb_cut (wX4 cs h σ) (wX0 cs (h 0) (σ 0) ++ wX0 cs (h 3) (σ 3)) (wX4 cs h (va_up (va_up σ 0 τ) 3 υ)) (wX0 cs (h 0) τ ++ wX0 cs (h 3) υ) := (cut_r (cut_a (cut_r (cut_r cut_h))))
set_option maxRecDepth 100000 in
theorem cut_X4_4_1 (cs : Nat → ClassId) (h : Nat → Nat → Nat) (σ : bb_H) (τ υ : bb_O) : bb_cut (wX4 cs h σ) (wX1 cs (h 4) (σ 4) ++ wX1 cs (h 1) (σ 1)) (wX4 cs h (va_up (va_up σ 4 τ) 1 υ)) (wX1 cs (h 4) τ ++ wX1 cs (h 1) υ) := (cut_r (cut_r (cut_b (cut_r (cut_r cut_h)))))
set_option maxRecDepth 100000 in
theorem cut_X4_1_4 (cs : Nat → ClassId) (h : Nat → Nat → Nat) (σ : bb_H) (τ υ : bb_O) : bb_cut (wX4 cs h σ) (wX1 cs (h 1) (σ 1) ++ wX1 cs (h 4) (σ 4)) (wX4 cs h (va_up (va_up σ 1 τ) 4 υ)) (wX1 cs (h 1) τ ++ wX1 cs (h 4) υ) := (cut_r (cut_r (cut_a (cut_r (cut_r cut_h)))))
set_option maxRecDepth 100000 in
theorem cut_X4_6_2 (cs : Nat → ClassId) (h : Nat → Nat → Nat) (σ : bb_H) (τ υ : bb_O) : bb_cut (wX4 cs h σ) (wX3 cs (h 6) (σ 6) ++ wX0 cs (h 2) (σ 2)) (wX4 cs h (va_up (va_up σ 6 τ) 2 υ)) (wX3 cs (h 6) τ ++ wX0 cs (h 2) υ) := (cut_r (cut_r (cut_r (cut_b (cut_r (cut_r cut_h))))))
set_option maxRecDepth 100000 in
theorem cut_X4_7_2 (cs : Nat → ClassId) (h : Nat → Nat → Nat) (σ : bb_H) (τ υ : bb_O) : bb_cut (wX4 cs h σ) (wX2 cs (h 7) (σ 7) ++ wX0 cs (h 2) (σ 2)) (wX4 cs h (va_up (va_up σ 7 τ) 2 υ)) (wX2 cs (h 7) τ ++ wX0 cs (h 2) υ) := (cut_r (cut_r (cut_r (cut_b (cut_r (cut_r (cut_r cut_h)))))))
set_option maxRecDepth 100000 in
theorem cut_X4_8_2 (cs : Nat → ClassId) (h : Nat → Nat → Nat) (σ : bb_H) (τ υ : bb_O) : bb_cut (wX4 cs h σ) (wX2 cs (h 8) (σ 8) ++ wX0 cs (h 2) (σ 2)) (wX4 cs h (va_up (va_up σ 8 τ) 2 υ)) (wX2 cs (h 8) τ ++ wX0 cs (h 2) υ) := (cut_r (cut_r (cut_r (cut_b (cut_r (cut_r (cut_r (cut_r cut_h))))))))
set_option maxRecDepth 100000 in
theorem cut_X4_9_2 (cs : Nat → ClassId) (h : Nat → Nat → Nat) (σ : bb_H) (τ υ : bb_O) : bb_cut (wX4 cs h σ) (wX2 cs (h 9) (σ 9) ++ wX0 cs (h 2) (σ 2)) (wX4 cs h (va_up (va_up σ 9 τ) 2 υ)) (wX2 cs (h 9) τ ++ wX0 cs (h 2) υ) := (cut_r (cut_r (cut_r (cut_b (cut_r (cut_r (cut_r (cut_r (cut_r cut_h)))))))))
set_option maxRecDepth 100000 in
theorem cut_X4_10_2 (cs : Nat → ClassId) (h : Nat → Nat → Nat) (σ : bb_H) (τ υ : bb_O) : bb_cut (wX4 cs h σ) (wX2 cs (h 10) (σ 10) ++ wX0 cs (h 2) (σ 2)) (wX4 cs h (va_up (va_up σ 10 τ) 2 υ)) (wX2 cs (h 10) τ ++ wX0 cs (h 2) υ) := (cut_r (cut_r (cut_r (cut_b (cut_r (cut_r (cut_r (cut_r (cut_r (cut_r (bb_cut_self _ _)))))))))))
set_option maxRecDepth 100000 in
theorem cut_X3X0_0 (cs : Nat → ClassId) (h g : Nat → Nat) (σ τ υ : bb_O) : bb_cut (wX3 cs h σ ++ wX0 cs g τ) (wX3 cs h σ) (wX3 cs h υ ++ wX0 cs g τ) (wX3 cs h υ) := cut_h
set_option maxRecDepth 100000 in
theorem cut_X3X0_1 (cs : Nat → ClassId) (h g : Nat → Nat) (σ τ υ : bb_O) : bb_cut (wX3 cs h σ ++ wX0 cs g τ) (wX0 cs g τ) (wX3 cs h σ ++ wX0 cs g υ) (wX0 cs g υ) := cut_r (bb_cut_self _ _)
set_option maxRecDepth 100000 in
theorem cut_X2X0_0 (cs : Nat → ClassId) (h g : Nat → Nat) (σ τ υ : bb_O) : bb_cut (wX2 cs h σ ++ wX0 cs g τ) (wX2 cs h σ) (wX2 cs h υ ++ wX0 cs g τ) (wX2 cs h υ) := cut_h
set_option maxRecDepth 100000 in
theorem cut_X2X0_1 (cs : Nat → ClassId) (h g : Nat → Nat) (σ τ υ : bb_O) : bb_cut (wX2 cs h σ ++ wX0 cs g τ) (wX0 cs g τ) (wX2 cs h σ ++ wX0 cs g υ) (wX0 cs g υ) := cut_r (bb_cut_self _ _)
end
section
set_option maxRecDepth 100000 in
theorem bb_inN {i : Int32} {N : Nat} (h : vp_in i N) : i.toNatClampNeg < N := Nat.not_le.mp fun q => h (Or.inr q)
set_option maxRecDepth 100000 in
theorem cutp_X4_0 (cs : Nat → ClassId) (h : Nat → Nat → Nat) (σ : bb_H) : bb_cut (wX4 cs h σ) (wX0 cs (h 0) (σ 0)) (wX4 cs h σ) (wX0 cs (h 0) (σ 0)) := (cut_r cut_h)
set_option maxRecDepth 100000 in
theorem cutp_X4_1 (cs : Nat → ClassId) (h : Nat → Nat → Nat) (σ : bb_H) : bb_cut (wX4 cs h σ) (wX1 cs (h 1) (σ 1)) (wX4 cs h σ) (wX1 cs (h 1) (σ 1)) := (cut_r (cut_r cut_h))
set_option maxRecDepth 100000 in
theorem cutp_X4_2 (cs : Nat → ClassId) (h : Nat → Nat → Nat) (σ : bb_H) : bb_cut (wX4 cs h σ) (wX0 cs (h 2) (σ 2)) (wX4 cs h σ) (wX0 cs (h 2) (σ 2)) := (cut_r (cut_r (cut_r cut_h)))
set_option maxRecDepth 100000 in
theorem cutp_X4_3 (cs : Nat → ClassId) (h : Nat → Nat → Nat) (σ : bb_H) : bb_cut (wX4 cs h σ) (wX0 cs (h 3) (σ 3)) (wX4 cs h σ) (wX0 cs (h 3) (σ 3)) := (cut_r (cut_r (cut_r (cut_r cut_h))))
set_option maxRecDepth 100000 in
theorem cutp_X4_4 (cs : Nat → ClassId) (h : Nat → Nat → Nat) (σ : bb_H) : bb_cut (wX4 cs h σ) (wX1 cs (h 4) (σ 4)) (wX4 cs h σ) (wX1 cs (h 4) (σ 4)) := (cut_r (cut_r (cut_r (cut_r (cut_r cut_h)))))
set_option maxRecDepth 100000 in
theorem cutp_X4_6 (cs : Nat → ClassId) (h : Nat → Nat → Nat) (σ : bb_H) : bb_cut (wX4 cs h σ) (wX3 cs (h 6) (σ 6)) (wX4 cs h σ) (wX3 cs (h 6) (σ 6)) := (cut_r (cut_r (cut_r (cut_r (cut_r (cut_r cut_h))))))
set_option maxRecDepth 100000 in
theorem cutp_X4_7 (cs : Nat → ClassId) (h : Nat → Nat → Nat) (σ : bb_H) : bb_cut (wX4 cs h σ) (wX2 cs (h 7) (σ 7)) (wX4 cs h σ) (wX2 cs (h 7) (σ 7)) := (cut_r (cut_r (cut_r (cut_r (cut_r (cut_r (cut_r cut_h)))))))
set_option maxRecDepth 100000 in
theorem cutp_X4_8 (cs : Nat → ClassId) (h : Nat → Nat → Nat) (σ : bb_H) : bb_cut (wX4 cs h σ) (wX2 cs (h 8) (σ 8)) (wX4 cs h σ) (wX2 cs (h 8) (σ 8)) := (cut_r (cut_r (cut_r (cut_r (cut_r (cut_r (cut_r (cut_r cut_h))))))))
set_option maxRecDepth 100000 in
theorem cutp_X4_9 (cs : Nat → ClassId) (h : Nat → Nat → Nat) (σ : bb_H) : bb_cut (wX4 cs h σ) (wX2 cs (h 9) (σ 9)) (wX4 cs h σ) (wX2 cs (h 9) (σ 9)) := (cut_r (cut_r (cut_r (cut_r (cut_r (cut_r (cut_r (cut_r (cut_r cut_h)))))))))
set_option maxRecDepth 100000 in
theorem cutp_X4_10 (cs : Nat → ClassId) (h : Nat → Nat → Nat) (σ : bb_H) : bb_cut (wX4 cs h σ) (wX2 cs (h 10) (σ 10)) (wX4 cs h σ) (wX2 cs (h 10) (σ 10)) := (cut_r (cut_r (cut_r (cut_r (cut_r (cut_r (cut_r (cut_r (cut_r (cut_r (bb_cut_self _ _)))))))))))
set_option maxRecDepth 100000 in
theorem bb_rowpos (cs : Nat → ClassId) (h : Nat → Nat → Nat) (σ : bb_H) {j : Nat} (hj : j < 4) : (wX4 cs h σ)[42 + 2 * j]? = some (h (7 + j) 0, .inr (2, [.int ((σ (7 + j)).1 0), .int ((σ (7 + j)).1 1), .ref (h (7 + j) 3)])) := by
  match j, hj with
  | 0, _ => exact rfl
  | 1, _ => exact rfl
  | 2, _ => exact rfl
  | 3, _ => exact rfl
set_option maxRecDepth 100000 in
theorem bb_rowarr (cs : Nat → ClassId) (h : Nat → Nat → Nat) (σ : bb_H) {j : Nat} (hj : j < 4) : (wX4 cs h σ)[43 + 2 * j]? = some (h (7 + j) 3, .inl (cs 1, 24, .inr (.inl ((σ (7 + j)).2.2 2)))) := by
  match j, hj with
  | 0, _ => exact rfl
  | 1, _ => exact rfl
  | 2, _ => exact rfl
  | 3, _ => exact rfl
set_option maxRecDepth 100000 in
theorem bb_rowset (cs : Nat → ClassId) (h : Nat → Nat → Nat) (σ : bb_H) {j : Nat} (hj : j < 4) (f : Nat → Int64) : (wX4 cs h σ).set (43 + 2 * j) (h (7 + j) 3, .inl (cs 1, 24, .inr (.inl f))) = wX4 cs h (va_up σ (7 + j) (bb_sB (σ (7 + j)) 2 f)) := by
  match j, hj with
  | 0, _ => exact rfl
  | 1, _ => exact rfl
  | 2, _ => exact rfl
  | 3, _ => exact rfl
set_option maxRecDepth 100000 in
theorem bb_rowcut (cs : Nat → ClassId) (h : Nat → Nat → Nat) (σ : bb_H) {j : Nat} (hj : j < 4) (τ : bb_O) : bb_cut (wX4 cs h σ) (wX2 cs (h (7 + j)) (σ (7 + j))) (wX4 cs h (va_up σ (7 + j) τ)) (wX2 cs (h (7 + j)) τ) := by
  match j, hj with
  | 0, _ => exact cut_X4_7 cs h σ τ
  | 1, _ => exact cut_X4_8 cs h σ τ
  | 2, _ => exact cut_X4_9 cs h σ τ
  | 3, _ => exact cut_X4_10 cs h σ τ
set_option maxRecDepth 100000 in
theorem bb_rowcutp (cs : Nat → ClassId) (h : Nat → Nat → Nat) (σ : bb_H) {j : Nat} (hj : j < 4) : bb_cut (wX4 cs h σ) (wX2 cs (h (7 + j)) (σ (7 + j))) (wX4 cs h σ) (wX2 cs (h (7 + j)) (σ (7 + j))) := by
  match j, hj with
  | 0, _ => exact cutp_X4_7 cs h σ
  | 1, _ => exact cutp_X4_8 cs h σ
  | 2, _ => exact cutp_X4_9 cs h σ
  | 3, _ => exact cutp_X4_10 cs h σ
set_option maxRecDepth 100000 in
theorem bb_rowcut2 (cs : Nat → ClassId) (h : Nat → Nat → Nat) (σ : bb_H) {j : Nat} (hj : j < 4) (τ υ : bb_O) : bb_cut (wX4 cs h σ) (wX2 cs (h (7 + j)) (σ (7 + j)) ++ wX0 cs (h 2) (σ 2)) (wX4 cs h (va_up (va_up σ (7 + j) τ) 2 υ)) (wX2 cs (h (7 + j)) τ ++ wX0 cs (h 2) υ) := by
  match j, hj with
  | 0, _ => exact cut_X4_7_2 cs h σ τ υ
  | 1, _ => exact cut_X4_8_2 cs h σ τ υ
  | 2, _ => exact cut_X4_9_2 cs h σ τ υ
  | 3, _ => exact cut_X4_10_2 cs h σ τ υ
set_option maxRecDepth 100000 in
theorem bb_steppos (cs : Nat → ClassId) (h : Nat → Nat) (σ : bb_O) {j : Nat} (hj : j < 8) : (wX1 cs h σ)[2 + j]? = some (h (10 + j), .inl (cs 0, 12, .inl (σ.2.1 j))) := by
  match j, hj with
  | 0, _ => exact rfl
  | 1, _ => exact rfl
  | 2, _ => exact rfl
  | 3, _ => exact rfl
  | 4, _ => exact rfl
  | 5, _ => exact rfl
  | 6, _ => exact rfl
  | 7, _ => exact rfl
set_option maxRecDepth 100000 in
theorem bb_stepset (cs : Nat → ClassId) (h : Nat → Nat) (σ : bb_O) {j : Nat} (hj : j < 8) (f : Nat → Int32) : (wX1 cs h σ).set (2 + j) (h (10 + j), .inl (cs 0, 12, .inl f)) = wX1 cs h (bb_sA σ j f) := by
  match j, hj with
  | 0, _ => exact rfl
  | 1, _ => exact rfl
  | 2, _ => exact rfl
  | 3, _ => exact rfl
  | 4, _ => exact rfl
  | 5, _ => exact rfl
  | 6, _ => exact rfl
  | 7, _ => exact rfl
set_option maxRecDepth 100000 in
theorem bb_stepposL (cs : Nat → ClassId) (h : Nat → Nat) (σ : bb_O) (w : va_W) {j : Nat} (hj : j < 8) : (wX1 cs h σ ++ w)[2 + j]? = some (h (10 + j), .inl (cs 0, 12, .inl (σ.2.1 j))) := by
  match j, hj with
  | 0, _ => exact rfl
  | 1, _ => exact rfl
  | 2, _ => exact rfl
  | 3, _ => exact rfl
  | 4, _ => exact rfl
  | 5, _ => exact rfl
  | 6, _ => exact rfl
  | 7, _ => exact rfl
set_option maxRecDepth 100000 in
theorem bb_stepsetL (cs : Nat → ClassId) (h : Nat → Nat) (σ : bb_O) (w : va_W) {j : Nat} (hj : j < 8) (f : Nat → Int32) : (wX1 cs h σ ++ w).set (2 + j) (h (10 + j), .inl (cs 0, 12, .inl f)) = wX1 cs h (bb_sA σ j f) ++ w := by
  match j, hj with
  | 0, _ => exact rfl
  | 1, _ => exact rfl
  | 2, _ => exact rfl
  | 3, _ => exact rfl
  | 4, _ => exact rfl
  | 5, _ => exact rfl
  | 6, _ => exact rfl
  | 7, _ => exact rfl
set_option maxRecDepth 100000 in
theorem bb_stepposR (cs : Nat → ClassId) (h : Nat → Nat) (σ : bb_O) (g : Nat → Nat) (τ : bb_O) {j : Nat} (hj : j < 8) : (wX1 cs g τ ++ wX1 cs h σ)[12 + j]? = some (h (10 + j), .inl (cs 0, 12, .inl (σ.2.1 j))) := by
  match j, hj with
  | 0, _ => exact rfl
  | 1, _ => exact rfl
  | 2, _ => exact rfl
  | 3, _ => exact rfl
  | 4, _ => exact rfl
  | 5, _ => exact rfl
  | 6, _ => exact rfl
  | 7, _ => exact rfl
end
section
/-! X0_take: writes, level 1 -/
noncomputable def F_X0_take_147 (s0 : bb_O) (s1 : bb_O) : Option (bb_O × bb_O) := some (s0, s1)
set_option maxHeartbeats 4000000 in
set_option maxRecDepth 100000 in
theorem B_X0_take_147 {X : bb_X} (C : bb_C X RX0 cX0_take 2) (hR : bb_r X 1) (hr : X.meth.sig.returnType = none) (h : Nat → Nat) (g : Nat → Nat) {z : (bb_O × bb_O)} (R : bb_R X none (wX0 X.cs h z.1 ++ wX0 X.cs g z.2)) {s0 : bb_O} {s1 : bb_O} (hf : F_X0_take_147 s0 s1 = some z) : bb_Z X 2 (wX0 X.cs h s0 ++ wX0 X.cs g s1) 147 [] [] := by
  obtain rfl := Option.some.inj hf
  exact z_vret (pc := 147) C hr R dX0_take_147
noncomputable def F_X0_take_117 (s0 : bb_O) (s1 : bb_O) : Option (bb_O × bb_O) := F_X0_take_147 (bb_sA (bb_sA s0 12 (va_cpy (s1.2.1 12) (s0.2.1 12) 0 0 6)) 13 (va_cpy (s1.2.1 13) ((bb_sA s0 12 (va_cpy (s1.2.1 12) (s0.2.1 12) 0 0 6)).2.1 13) 0 0 6)) s1
set_option maxHeartbeats 4000000 in
set_option maxRecDepth 100000 in
theorem B_X0_take_117 {X : bb_X} (C : bb_C X RX0 cX0_take 2) (hR : bb_r X 1) (hr : X.meth.sig.returnType = none) (h : Nat → Nat) (g : Nat → Nat) {z : (bb_O × bb_O)} (R : bb_R X none (wX0 X.cs h z.1 ++ wX0 X.cs g z.2)) {s0 : bb_O} {s1 : bb_O} (hf : F_X0_take_117 s0 s1 = some z) : bb_Z X 2 (wX0 X.cs h s0 ++ wX0 X.cs g s1) 117 [(0, .ref (h 0)), (1, .ref (g 0))] [] := by
  refine z_aload_n (pc := 117) (i := 1) C 1 dX0_take_117 rfl rfl ?_
  refine z_get (pc := 118) (ci := 0) C (.ref (g 13)) bi_X0 rfl 6 12 (by decide) rfl bf_X0_31 rfl rfl dX0_take_118 ?_
  refine z_iconst (pc := 121) C (0 : Int32) dX0_take_121 (by decide) ?_
  refine z_aload_n (pc := 122) (i := 0) C 0 dX0_take_122 rfl rfl ?_
  refine z_get (pc := 123) (ci := 0) C (.ref (h 13)) bi_X0 rfl 0 12 (by decide) rfl bf_X0_31 rfl rfl dX0_take_123 ?_
  refine z_iconst (pc := 126) C (0 : Int32) dX0_take_126 (by decide) ?_
  refine z_bipush (pc := 127) C (6 : Int32) dX0_take_127 (by decide) ?_
  refine z_copyi (pc := 129) (ws' := wX0 X.cs h (bb_sA s0 12 (va_cpy (s1.2.1 12) (s0.2.1 12) 0 0 6)) ++ wX0 X.cs g s1) C (hR.le (by decide)) bm_X0_55 bl_ac_n bl_ac_s bl_System 10 4 0 0 (0) (0) (6) rfl rfl rfl rfl rfl (by decide) (by decide) (by decide) (by decide) (by decide) (by decide) (by decide) (by decide) (Nat.le_of_ble_eq_true rfl) rfl dX0_take_129 ?_
  refine z_aload_n (pc := 132) (i := 1) C 1 dX0_take_132 rfl rfl ?_
  refine z_get (pc := 133) (ci := 0) C (.ref (g 14)) bi_X0 rfl 6 13 (by decide) rfl bf_X0_34 rfl rfl dX0_take_133 ?_
  refine z_iconst (pc := 136) C (0 : Int32) dX0_take_136 (by decide) ?_
  refine z_aload_n (pc := 137) (i := 0) C 0 dX0_take_137 rfl rfl ?_
  refine z_get (pc := 138) (ci := 0) C (.ref (h 14)) bi_X0 rfl 0 13 (by decide) rfl bf_X0_34 rfl rfl dX0_take_138 ?_
  refine z_iconst (pc := 141) C (0 : Int32) dX0_take_141 (by decide) ?_
  refine z_bipush (pc := 142) C (6 : Int32) dX0_take_142 (by decide) ?_
  refine z_copyi (pc := 144) (ws' := wX0 X.cs h (bb_sA (bb_sA s0 12 (va_cpy (s1.2.1 12) (s0.2.1 12) 0 0 6)) 13 (va_cpy (s1.2.1 13) ((bb_sA s0 12 (va_cpy (s1.2.1 12) (s0.2.1 12) 0 0 6)).2.1 13) 0 0 6)) ++ wX0 X.cs g s1) C (hR.le (by decide)) bm_X0_55 bl_ac_n bl_ac_s bl_System 11 5 0 0 (0) (0) (6) rfl rfl rfl rfl rfl (by decide) (by decide) (by decide) (by decide) (by decide) (by decide) (by decide) (by decide) (Nat.le_of_ble_eq_true rfl) rfl dX0_take_144 ?_
  refine z_lv [] rfl ?_
  exact B_X0_take_147 C hR hr h g R  hf
noncomputable def F_X0_take_87 (s0 : bb_O) (s1 : bb_O) : Option (bb_O × bb_O) := F_X0_take_117 (bb_sA (bb_sA s0 10 (va_cpy (s1.2.1 10) (s0.2.1 10) 0 0 6)) 11 (va_cpy (s1.2.1 11) ((bb_sA s0 10 (va_cpy (s1.2.1 10) (s0.2.1 10) 0 0 6)).2.1 11) 0 0 6)) s1
set_option maxHeartbeats 4000000 in
set_option maxRecDepth 100000 in
theorem B_X0_take_87 {X : bb_X} (C : bb_C X RX0 cX0_take 2) (hR : bb_r X 1) (hr : X.meth.sig.returnType = none) (h : Nat → Nat) (g : Nat → Nat) {z : (bb_O × bb_O)} (R : bb_R X none (wX0 X.cs h z.1 ++ wX0 X.cs g z.2)) {s0 : bb_O} {s1 : bb_O} (hf : F_X0_take_87 s0 s1 = some z) : bb_Z X 2 (wX0 X.cs h s0 ++ wX0 X.cs g s1) 87 [(0, .ref (h 0)), (1, .ref (g 0))] [] := by
  refine z_aload_n (pc := 87) (i := 1) C 1 dX0_take_87 rfl rfl ?_
  refine z_get (pc := 88) (ci := 0) C (.ref (g 11)) bi_X0 rfl 6 10 (by decide) rfl bf_X0_25 rfl rfl dX0_take_88 ?_
  refine z_iconst (pc := 91) C (0 : Int32) dX0_take_91 (by decide) ?_
  refine z_aload_n (pc := 92) (i := 0) C 0 dX0_take_92 rfl rfl ?_
  refine z_get (pc := 93) (ci := 0) C (.ref (h 11)) bi_X0 rfl 0 10 (by decide) rfl bf_X0_25 rfl rfl dX0_take_93 ?_
  refine z_iconst (pc := 96) C (0 : Int32) dX0_take_96 (by decide) ?_
  refine z_bipush (pc := 97) C (6 : Int32) dX0_take_97 (by decide) ?_
  refine z_copyi (pc := 99) (ws' := wX0 X.cs h (bb_sA s0 10 (va_cpy (s1.2.1 10) (s0.2.1 10) 0 0 6)) ++ wX0 X.cs g s1) C (hR.le (by decide)) bm_X0_55 bl_ac_n bl_ac_s bl_System 8 2 0 0 (0) (0) (6) rfl rfl rfl rfl rfl (by decide) (by decide) (by decide) (by decide) (by decide) (by decide) (by decide) (by decide) (Nat.le_of_ble_eq_true rfl) rfl dX0_take_99 ?_
  refine z_aload_n (pc := 102) (i := 1) C 1 dX0_take_102 rfl rfl ?_
  refine z_get (pc := 103) (ci := 0) C (.ref (g 12)) bi_X0 rfl 6 11 (by decide) rfl bf_X0_28 rfl rfl dX0_take_103 ?_
  refine z_iconst (pc := 106) C (0 : Int32) dX0_take_106 (by decide) ?_
  refine z_aload_n (pc := 107) (i := 0) C 0 dX0_take_107 rfl rfl ?_
  refine z_get (pc := 108) (ci := 0) C (.ref (h 12)) bi_X0 rfl 0 11 (by decide) rfl bf_X0_28 rfl rfl dX0_take_108 ?_
  refine z_iconst (pc := 111) C (0 : Int32) dX0_take_111 (by decide) ?_
  refine z_bipush (pc := 112) C (6 : Int32) dX0_take_112 (by decide) ?_
  refine z_copyi (pc := 114) (ws' := wX0 X.cs h (bb_sA (bb_sA s0 10 (va_cpy (s1.2.1 10) (s0.2.1 10) 0 0 6)) 11 (va_cpy (s1.2.1 11) ((bb_sA s0 10 (va_cpy (s1.2.1 10) (s0.2.1 10) 0 0 6)).2.1 11) 0 0 6)) ++ wX0 X.cs g s1) C (hR.le (by decide)) bm_X0_55 bl_ac_n bl_ac_s bl_System 9 3 0 0 (0) (0) (6) rfl rfl rfl rfl rfl (by decide) (by decide) (by decide) (by decide) (by decide) (by decide) (by decide) (by decide) (Nat.le_of_ble_eq_true rfl) rfl dX0_take_114 ?_
  exact B_X0_take_117 C hR hr h g R  hf
noncomputable def F_X0_take_40 (s0 : bb_O) (s1 : bb_O) : Option (bb_O × bb_O) := F_X0_take_87 (bb_sA (bb_sf (bb_sf (bb_sf (bb_sf s0 5 (s1.1 5)) 6 (s1.1 6)) 7 (s1.1 7)) 8 (s1.1 8)) 9 (va_cpy (s1.2.1 9) ((bb_sf (bb_sf (bb_sf (bb_sf s0 5 (s1.1 5)) 6 (s1.1 6)) 7 (s1.1 7)) 8 (s1.1 8)).2.1 9) 0 0 6)) s1
set_option maxHeartbeats 4000000 in
set_option maxRecDepth 100000 in
theorem B_X0_take_40 {X : bb_X} (C : bb_C X RX0 cX0_take 2) (hR : bb_r X 1) (hr : X.meth.sig.returnType = none) (h : Nat → Nat) (g : Nat → Nat) {z : (bb_O × bb_O)} (R : bb_R X none (wX0 X.cs h z.1 ++ wX0 X.cs g z.2)) {s0 : bb_O} {s1 : bb_O} (hf : F_X0_take_40 s0 s1 = some z) : bb_Z X 2 (wX0 X.cs h s0 ++ wX0 X.cs g s1) 40 [(0, .ref (h 0)), (1, .ref (g 0))] [] := by
  refine z_aload_n (pc := 40) (i := 0) C 0 dX0_take_40 rfl rfl ?_
  refine z_aload_n (pc := 41) (i := 1) C 1 dX0_take_41 rfl rfl ?_
  refine z_get (pc := 42) (ci := 0) C (.int (s1.1 5)) bi_X0 rfl 6 5 (by decide) rfl bf_X0_46 rfl rfl dX0_take_42 ?_
  refine z_put (pc := 45) (ci := 0) (ty := .int) (ws' := wX0 X.cs h (bb_sf s0 5 (s1.1 5)) ++ wX0 X.cs g s1) C bi_X0 tyX0_ok nmX0 rfl 0 5 (by decide) rfl bf_X0_46 rfl rfl rfl rfl rfl (Nat.le_of_ble_eq_true rfl) rfl dX0_take_45 ?_
  refine z_aload_n (pc := 48) (i := 0) C 0 dX0_take_48 rfl rfl ?_
  refine z_aload_n (pc := 49) (i := 1) C 1 dX0_take_49 rfl rfl ?_
  refine z_get (pc := 50) (ci := 0) C (.int (s1.1 6)) bi_X0 rfl 6 6 (by decide) rfl bf_X0_49 rfl rfl dX0_take_50 ?_
  refine z_put (pc := 53) (ci := 0) (ty := .int) (ws' := wX0 X.cs h (bb_sf (bb_sf s0 5 (s1.1 5)) 6 (s1.1 6)) ++ wX0 X.cs g s1) C bi_X0 tyX0_ok nmX0 rfl 0 6 (by decide) rfl bf_X0_49 rfl rfl rfl rfl rfl (Nat.le_of_ble_eq_true rfl) rfl dX0_take_53 ?_
  refine z_aload_n (pc := 56) (i := 0) C 0 dX0_take_56 rfl rfl ?_
  refine z_aload_n (pc := 57) (i := 1) C 1 dX0_take_57 rfl rfl ?_
  refine z_get (pc := 58) (ci := 0) C (.int (s1.1 7)) bi_X0 rfl 6 7 (by decide) rfl bf_X0_52 rfl rfl dX0_take_58 ?_
  refine z_put (pc := 61) (ci := 0) (ty := .int) (ws' := wX0 X.cs h (bb_sf (bb_sf (bb_sf s0 5 (s1.1 5)) 6 (s1.1 6)) 7 (s1.1 7)) ++ wX0 X.cs g s1) C bi_X0 tyX0_ok nmX0 rfl 0 7 (by decide) rfl bf_X0_52 rfl rfl rfl rfl rfl (Nat.le_of_ble_eq_true rfl) rfl dX0_take_61 ?_
  refine z_aload_n (pc := 64) (i := 0) C 0 dX0_take_64 rfl rfl ?_
  refine z_aload_n (pc := 65) (i := 1) C 1 dX0_take_65 rfl rfl ?_
  refine z_get (pc := 66) (ci := 0) C (.int (s1.1 8)) bi_X0 rfl 6 8 (by decide) rfl bf_X0_18 rfl rfl dX0_take_66 ?_
  refine z_put (pc := 69) (ci := 0) (ty := .int) (ws' := wX0 X.cs h (bb_sf (bb_sf (bb_sf (bb_sf s0 5 (s1.1 5)) 6 (s1.1 6)) 7 (s1.1 7)) 8 (s1.1 8)) ++ wX0 X.cs g s1) C bi_X0 tyX0_ok nmX0 rfl 0 8 (by decide) rfl bf_X0_18 rfl rfl rfl rfl rfl (Nat.le_of_ble_eq_true rfl) rfl dX0_take_69 ?_
  refine z_aload_n (pc := 72) (i := 1) C 1 dX0_take_72 rfl rfl ?_
  refine z_get (pc := 73) (ci := 0) C (.ref (g 10)) bi_X0 rfl 6 9 (by decide) rfl bf_X0_21 rfl rfl dX0_take_73 ?_
  refine z_iconst (pc := 76) C (0 : Int32) dX0_take_76 (by decide) ?_
  refine z_aload_n (pc := 77) (i := 0) C 0 dX0_take_77 rfl rfl ?_
  refine z_get (pc := 78) (ci := 0) C (.ref (h 10)) bi_X0 rfl 0 9 (by decide) rfl bf_X0_21 rfl rfl dX0_take_78 ?_
  refine z_iconst (pc := 81) C (0 : Int32) dX0_take_81 (by decide) ?_
  refine z_bipush (pc := 82) C (6 : Int32) dX0_take_82 (by decide) ?_
  refine z_copyi (pc := 84) (ws' := wX0 X.cs h (bb_sA (bb_sf (bb_sf (bb_sf (bb_sf s0 5 (s1.1 5)) 6 (s1.1 6)) 7 (s1.1 7)) 8 (s1.1 8)) 9 (va_cpy (s1.2.1 9) ((bb_sf (bb_sf (bb_sf (bb_sf s0 5 (s1.1 5)) 6 (s1.1 6)) 7 (s1.1 7)) 8 (s1.1 8)).2.1 9) 0 0 6)) ++ wX0 X.cs g s1) C (hR.le (by decide)) bm_X0_55 bl_ac_n bl_ac_s bl_System 7 1 0 0 (0) (0) (6) rfl rfl rfl rfl rfl (by decide) (by decide) (by decide) (by decide) (by decide) (by decide) (by decide) (by decide) (Nat.le_of_ble_eq_true rfl) rfl dX0_take_84 ?_
  exact B_X0_take_87 C hR hr h g R  hf
noncomputable def F_X0_take_0 (s0 : bb_O) (s1 : bb_O) : Option (bb_O × bb_O) := F_X0_take_40 (bb_sf (bb_sf (bb_sf (bb_sf (bb_sf s0 0 (s1.1 0)) 1 (s1.1 1)) 2 (s1.1 2)) 3 (s1.1 3)) 4 (s1.1 4)) s1
set_option maxHeartbeats 4000000 in
set_option maxRecDepth 100000 in
theorem B_X0_take_0 {X : bb_X} (C : bb_C X RX0 cX0_take 2) (hR : bb_r X 1) (hr : X.meth.sig.returnType = none) (h : Nat → Nat) (g : Nat → Nat) {z : (bb_O × bb_O)} (R : bb_R X none (wX0 X.cs h z.1 ++ wX0 X.cs g z.2)) {s0 : bb_O} {s1 : bb_O} (hf : F_X0_take_0 s0 s1 = some z) : bb_Z X 2 (wX0 X.cs h s0 ++ wX0 X.cs g s1) 0 [(0, .ref (h 0)), (1, .ref (g 0))] [] := by
  refine z_aload_n (pc := 0) (i := 0) C 0 dX0_take_0 rfl rfl ?_
  refine z_aload_n (pc := 1) (i := 1) C 1 dX0_take_1 rfl rfl ?_
  refine z_get (pc := 2) (ci := 0) C (.int (s1.1 0)) bi_X0 rfl 6 0 (by decide) rfl bf_X0_9 rfl rfl dX0_take_2 ?_
  refine z_put (pc := 5) (ci := 0) (ty := .int) (ws' := wX0 X.cs h (bb_sf s0 0 (s1.1 0)) ++ wX0 X.cs g s1) C bi_X0 tyX0_ok nmX0 rfl 0 0 (by decide) rfl bf_X0_9 rfl rfl rfl rfl rfl (Nat.le_of_ble_eq_true rfl) rfl dX0_take_5 ?_
  refine z_aload_n (pc := 8) (i := 0) C 0 dX0_take_8 rfl rfl ?_
  refine z_aload_n (pc := 9) (i := 1) C 1 dX0_take_9 rfl rfl ?_
  refine z_get (pc := 10) (ci := 0) C (.int (s1.1 1)) bi_X0 rfl 6 1 (by decide) rfl bf_X0_15 rfl rfl dX0_take_10 ?_
  refine z_put (pc := 13) (ci := 0) (ty := .int) (ws' := wX0 X.cs h (bb_sf (bb_sf s0 0 (s1.1 0)) 1 (s1.1 1)) ++ wX0 X.cs g s1) C bi_X0 tyX0_ok nmX0 rfl 0 1 (by decide) rfl bf_X0_15 rfl rfl rfl rfl rfl (Nat.le_of_ble_eq_true rfl) rfl dX0_take_13 ?_
  refine z_aload_n (pc := 16) (i := 0) C 0 dX0_take_16 rfl rfl ?_
  refine z_aload_n (pc := 17) (i := 1) C 1 dX0_take_17 rfl rfl ?_
  refine z_get (pc := 18) (ci := 0) C (.int (s1.1 2)) bi_X0 rfl 6 2 (by decide) rfl bf_X0_37 rfl rfl dX0_take_18 ?_
  refine z_put (pc := 21) (ci := 0) (ty := .int) (ws' := wX0 X.cs h (bb_sf (bb_sf (bb_sf s0 0 (s1.1 0)) 1 (s1.1 1)) 2 (s1.1 2)) ++ wX0 X.cs g s1) C bi_X0 tyX0_ok nmX0 rfl 0 2 (by decide) rfl bf_X0_37 rfl rfl rfl rfl rfl (Nat.le_of_ble_eq_true rfl) rfl dX0_take_21 ?_
  refine z_aload_n (pc := 24) (i := 0) C 0 dX0_take_24 rfl rfl ?_
  refine z_aload_n (pc := 25) (i := 1) C 1 dX0_take_25 rfl rfl ?_
  refine z_get (pc := 26) (ci := 0) C (.int (s1.1 3)) bi_X0 rfl 6 3 (by decide) rfl bf_X0_40 rfl rfl dX0_take_26 ?_
  refine z_put (pc := 29) (ci := 0) (ty := .int) (ws' := wX0 X.cs h (bb_sf (bb_sf (bb_sf (bb_sf s0 0 (s1.1 0)) 1 (s1.1 1)) 2 (s1.1 2)) 3 (s1.1 3)) ++ wX0 X.cs g s1) C bi_X0 tyX0_ok nmX0 rfl 0 3 (by decide) rfl bf_X0_40 rfl rfl rfl rfl rfl (Nat.le_of_ble_eq_true rfl) rfl dX0_take_29 ?_
  refine z_aload_n (pc := 32) (i := 0) C 0 dX0_take_32 rfl rfl ?_
  refine z_aload_n (pc := 33) (i := 1) C 1 dX0_take_33 rfl rfl ?_
  refine z_get (pc := 34) (ci := 0) C (.int (s1.1 4)) bi_X0 rfl 6 4 (by decide) rfl bf_X0_43 rfl rfl dX0_take_34 ?_
  refine z_put (pc := 37) (ci := 0) (ty := .int) (ws' := wX0 X.cs h (bb_sf (bb_sf (bb_sf (bb_sf (bb_sf s0 0 (s1.1 0)) 1 (s1.1 1)) 2 (s1.1 2)) 3 (s1.1 3)) 4 (s1.1 4)) ++ wX0 X.cs g s1) C bi_X0 tyX0_ok nmX0 rfl 0 4 (by decide) rfl bf_X0_43 rfl rfl rfl rfl rfl (Nat.le_of_ble_eq_true rfl) rfl dX0_take_37 ?_
  exact B_X0_take_40 C hR hr h g R  hf
theorem c_X0_take {l : Launch} {D : va_G} {cs : Nat → ClassId} (h : Nat → Nat) (g : Nat → Nat) {s0 : bb_O} {s1 : bb_O} {z : (bb_O × bb_O)} (hf : F_X0_take_0 s0 s1 = some z) : bb_M l yX0_take cX0_take 2 none 1 D cs [.ref (h 0), .ref (g 0)] none (wX0 cs h s0 ++ wX0 cs g s1) (wX0 cs h z.1 ++ wX0 cs g z.2) := bb_mg (by decide) rfl (Nat.le_of_ble_eq_true rfl) rfl (fun X hl hD hcs C hR hr R => by
  subst hl
  subst hD
  subst hcs
  exact B_X0_take_0 C hR hr h g R hf)
/-! X0_build: writes, level 1 -/
noncomputable def F_X0_build_25 (s0 : bb_O) : Option (bb_O) := some (bb_sf (bb_sf (bb_sf s0 5 ((0 : Int32))) 6 ((0 : Int32))) 7 ((0 : Int32)))
set_option maxHeartbeats 4000000 in
set_option maxRecDepth 100000 in
theorem B_X0_build_25 {X : bb_X} (C : bb_C X RX0 cX0_build 3) (hR : bb_r X 1) (hr : X.meth.sig.returnType = none) (h : Nat → Nat) {z : (bb_O)} (R : bb_R X none (wX0 X.cs h z)) {s0 : bb_O} (hf : F_X0_build_25 s0 = some z) : bb_Z X 3 (wX0 X.cs h s0) 25 [(0, .ref (h 0))] [] := by
  refine z_aload_n (pc := 25) (i := 0) C 0 dX0_build_25 rfl rfl ?_
  refine z_iconst (pc := 26) C (0 : Int32) dX0_build_26 (by decide) ?_
  refine z_put (pc := 27) (ci := 0) (ty := .int) (ws' := wX0 X.cs h (bb_sf s0 5 ((0 : Int32)))) C bi_X0 tyX0_ok nmX0 rfl 0 5 (by decide) rfl bf_X0_46 rfl rfl rfl rfl rfl (Nat.le_of_ble_eq_true rfl) rfl dX0_build_27 ?_
  refine z_aload_n (pc := 30) (i := 0) C 0 dX0_build_30 rfl rfl ?_
  refine z_iconst (pc := 31) C (0 : Int32) dX0_build_31 (by decide) ?_
  refine z_put (pc := 32) (ci := 0) (ty := .int) (ws' := wX0 X.cs h (bb_sf (bb_sf s0 5 ((0 : Int32))) 6 ((0 : Int32)))) C bi_X0 tyX0_ok nmX0 rfl 0 6 (by decide) rfl bf_X0_49 rfl rfl rfl rfl rfl (Nat.le_of_ble_eq_true rfl) rfl dX0_build_32 ?_
  refine z_aload_n (pc := 35) (i := 0) C 0 dX0_build_35 rfl rfl ?_
  refine z_iconst (pc := 36) C (0 : Int32) dX0_build_36 (by decide) ?_
  refine z_put (pc := 37) (ci := 0) (ty := .int) (ws' := wX0 X.cs h (bb_sf (bb_sf (bb_sf s0 5 ((0 : Int32))) 6 ((0 : Int32))) 7 ((0 : Int32)))) C bi_X0 tyX0_ok nmX0 rfl 0 7 (by decide) rfl bf_X0_52 rfl rfl rfl rfl rfl (Nat.le_of_ble_eq_true rfl) rfl dX0_build_37 ?_
  obtain rfl := Option.some.inj hf
  exact z_vret (pc := 40) C hr R dX0_build_40
noncomputable def F_X0_build_0 (s0 : bb_O) (x1 : Int32) (x2 : Int32) : Option (bb_O) := F_X0_build_25 (bb_sf (bb_sf (bb_sf (bb_sf (bb_sf s0 0 x1) 1 x2) 2 ((0 : Int32))) 3 ((0 : Int32))) 4 ((0 : Int32)))
set_option maxHeartbeats 4000000 in
set_option maxRecDepth 100000 in
theorem B_X0_build_0 {X : bb_X} (C : bb_C X RX0 cX0_build 3) (hR : bb_r X 1) (hr : X.meth.sig.returnType = none) (h : Nat → Nat) {z : (bb_O)} (R : bb_R X none (wX0 X.cs h z)) {s0 : bb_O} {x1 : Int32} {x2 : Int32} (hf : F_X0_build_0 s0 x1 x2 = some z) : bb_Z X 3 (wX0 X.cs h s0) 0 [(0, .ref (h 0)), (1, .int x1), (2, .int x2)] [] := by
  refine z_aload_n (pc := 0) (i := 0) C 0 dX0_build_0 rfl rfl ?_
  refine z_iload_n (pc := 1) (i := 1) C 1 dX0_build_1 rfl rfl ?_
  refine z_put (pc := 2) (ci := 0) (ty := .int) (ws' := wX0 X.cs h (bb_sf s0 0 x1)) C bi_X0 tyX0_ok nmX0 rfl 0 0 (by decide) rfl bf_X0_9 rfl rfl rfl rfl rfl (Nat.le_of_ble_eq_true rfl) rfl dX0_build_2 ?_
  refine z_aload_n (pc := 5) (i := 0) C 0 dX0_build_5 rfl rfl ?_
  refine z_iload_n (pc := 6) (i := 2) C 2 dX0_build_6 rfl rfl ?_
  refine z_put (pc := 7) (ci := 0) (ty := .int) (ws' := wX0 X.cs h (bb_sf (bb_sf s0 0 x1) 1 x2)) C bi_X0 tyX0_ok nmX0 rfl 0 1 (by decide) rfl bf_X0_15 rfl rfl rfl rfl rfl (Nat.le_of_ble_eq_true rfl) rfl dX0_build_7 ?_
  refine z_aload_n (pc := 10) (i := 0) C 0 dX0_build_10 rfl rfl ?_
  refine z_iconst (pc := 11) C (0 : Int32) dX0_build_11 (by decide) ?_
  refine z_put (pc := 12) (ci := 0) (ty := .int) (ws' := wX0 X.cs h (bb_sf (bb_sf (bb_sf s0 0 x1) 1 x2) 2 ((0 : Int32)))) C bi_X0 tyX0_ok nmX0 rfl 0 2 (by decide) rfl bf_X0_37 rfl rfl rfl rfl rfl (Nat.le_of_ble_eq_true rfl) rfl dX0_build_12 ?_
  refine z_aload_n (pc := 15) (i := 0) C 0 dX0_build_15 rfl rfl ?_
  refine z_iconst (pc := 16) C (0 : Int32) dX0_build_16 (by decide) ?_
  refine z_put (pc := 17) (ci := 0) (ty := .int) (ws' := wX0 X.cs h (bb_sf (bb_sf (bb_sf (bb_sf s0 0 x1) 1 x2) 2 ((0 : Int32))) 3 ((0 : Int32)))) C bi_X0 tyX0_ok nmX0 rfl 0 3 (by decide) rfl bf_X0_40 rfl rfl rfl rfl rfl (Nat.le_of_ble_eq_true rfl) rfl dX0_build_17 ?_
  refine z_aload_n (pc := 20) (i := 0) C 0 dX0_build_20 rfl rfl ?_
  refine z_iconst (pc := 21) C (0 : Int32) dX0_build_21 (by decide) ?_
  refine z_put (pc := 22) (ci := 0) (ty := .int) (ws' := wX0 X.cs h (bb_sf (bb_sf (bb_sf (bb_sf (bb_sf s0 0 x1) 1 x2) 2 ((0 : Int32))) 3 ((0 : Int32))) 4 ((0 : Int32)))) C bi_X0 tyX0_ok nmX0 rfl 0 4 (by decide) rfl bf_X0_43 rfl rfl rfl rfl rfl (Nat.le_of_ble_eq_true rfl) rfl dX0_build_22 ?_
  refine z_lv [0] rfl ?_
  exact B_X0_build_25 C hR hr h R  hf
theorem c_X0_build {l : Launch} {D : va_G} {cs : Nat → ClassId} (h : Nat → Nat) {s0 : bb_O} {x1 : Int32} {x2 : Int32} {z : (bb_O)} (hf : F_X0_build_0 s0 x1 x2 = some z) : bb_M l yX0_build cX0_build 3 none 1 D cs [.ref (h 0), .int x1, .int x2] none (wX0 cs h s0) (wX0 cs h z) := bb_mg (by decide) rfl (Nat.le_of_ble_eq_true rfl) rfl (fun X hl hD hcs C hR hr R => by
  subst hl
  subst hD
  subst hcs
  exact B_X0_build_0 C hR hr h R hf)
/-! X0_enter: writes, level 1 -/
noncomputable def F_X0_enter_18 (s0 : bb_O) : Option (Int32 × bb_O) := some ((-3 : Int32), s0)
set_option maxHeartbeats 4000000 in
set_option maxRecDepth 100000 in
theorem B_X0_enter_18 {X : bb_X} (C : bb_C X RX0 cX0_enter 6) (hR : bb_r X 1) (hr : X.meth.sig.returnType = (some .int)) (h : Nat → Nat) {z : (Int32 × bb_O)} (R : bb_R X (some (.int z.1)) (wX0 X.cs h z.2)) {s0 : bb_O} (hf : F_X0_enter_18 s0 = some z) : bb_Z X 6 (wX0 X.cs h s0) 18 [] [] := by
  refine z_bipush (pc := 18) C (-3 : Int32) dX0_enter_18 (by decide) ?_
  obtain rfl := Option.some.inj hf
  exact z_iret (pc := 20) C hr R dX0_enter_20
noncomputable def F_X0_enter_72 (s0 : bb_O) (x5 : Int32) : Option (Int32 × bb_O) := some (x5, s0)
set_option maxHeartbeats 4000000 in
set_option maxRecDepth 100000 in
theorem B_X0_enter_72 {X : bb_X} (C : bb_C X RX0 cX0_enter 6) (hR : bb_r X 1) (hr : X.meth.sig.returnType = (some .int)) (h : Nat → Nat) {z : (Int32 × bb_O)} (R : bb_R X (some (.int z.1)) (wX0 X.cs h z.2)) {s0 : bb_O} {x5 : Int32} (hf : F_X0_enter_72 s0 x5 = some z) : bb_Z X 6 (wX0 X.cs h s0) 72 [(5, .int x5)] [] := by
  refine z_iload (pc := 72) C 0 dX0_enter_72 rfl ?_
  obtain rfl := Option.some.inj hf
  exact z_iret (pc := 74) C hr R dX0_enter_74
noncomputable def F_X0_enter_54 (s0 : bb_O) (x5 : Int32) : Option (Int32 × bb_O) := bb_g (vp_in x5 6) (F_X0_enter_72 (bb_sf (bb_sA s0 13 (upd (s0.2.1 13) x5.toNatClampNeg ((0 : Int32)))) 2 (((bb_sA s0 13 (upd (s0.2.1 13) x5.toNatClampNeg ((0 : Int32)))).1 2) + ((1 : Int32)))) x5)
set_option maxHeartbeats 4000000 in
set_option maxRecDepth 100000 in
theorem B_X0_enter_54 {X : bb_X} (C : bb_C X RX0 cX0_enter 6) (hR : bb_r X 1) (hr : X.meth.sig.returnType = (some .int)) (h : Nat → Nat) {z : (Int32 × bb_O)} (R : bb_R X (some (.int z.1)) (wX0 X.cs h z.2)) {s0 : bb_O} {x5 : Int32} (hf : F_X0_enter_54 s0 x5 = some z) : bb_Z X 6 (wX0 X.cs h s0) 54 [(0, .ref (h 0)), (5, .int x5)] [] := by
  refine z_aload_n (pc := 54) (i := 0) C 0 dX0_enter_54 rfl rfl ?_
  refine z_get (pc := 55) (ci := 0) C (.ref (h 14)) bi_X0 rfl 0 13 (by decide) rfl bf_X0_34 rfl rfl dX0_enter_55 ?_
  refine z_iload (pc := 58) C 1 dX0_enter_58 rfl ?_
  refine z_iconst (pc := 60) C (0 : Int32) dX0_enter_60 (by decide) ?_
  obtain ⟨hv1, hf⟩ := bb_g_some hf
  refine z_iast (pc := 61) (ws' := wX0 X.cs h (bb_sA s0 13 (upd (s0.2.1 13) x5.toNatClampNeg ((0 : Int32))))) C 5 0 (x5.toNatClampNeg) rfl rfl hv1 rfl rfl dX0_enter_61 ?_
  refine z_aload_n (pc := 62) (i := 0) C 0 dX0_enter_62 rfl rfl ?_
  refine z_dup (pc := 63) C dX0_enter_63 rfl ?_
  refine z_get (pc := 64) (ci := 0) C (.int ((bb_sA s0 13 (upd (s0.2.1 13) x5.toNatClampNeg ((0 : Int32)))).1 2)) bi_X0 rfl 0 2 (by decide) rfl bf_X0_37 rfl rfl dX0_enter_64 ?_
  refine z_iconst (pc := 67) C (1 : Int32) dX0_enter_67 (by decide) ?_
  refine z_iadd (pc := 68) C dX0_enter_68 ?_
  refine z_put (pc := 69) (ci := 0) (ty := .int) (ws' := wX0 X.cs h (bb_sf (bb_sA s0 13 (upd (s0.2.1 13) x5.toNatClampNeg ((0 : Int32)))) 2 (((bb_sA s0 13 (upd (s0.2.1 13) x5.toNatClampNeg ((0 : Int32)))).1 2) + ((1 : Int32))))) C bi_X0 tyX0_ok nmX0 rfl 0 2 (by decide) rfl bf_X0_37 rfl rfl rfl rfl rfl (Nat.le_of_ble_eq_true rfl) rfl dX0_enter_69 ?_
  refine z_lv [1] rfl ?_
  exact B_X0_enter_72 C hR hr h R  hf
noncomputable def F_X0_enter_37 (s0 : bb_O) (x3 : Int32) (x4 : Int32) (x5 : Int32) : Option (Int32 × bb_O) := bb_g (vp_in x5 6) (bb_g (vp_in x5 6) (F_X0_enter_54 (bb_sA (bb_sA s0 11 (upd (s0.2.1 11) x5.toNatClampNeg x3)) 12 (upd ((bb_sA s0 11 (upd (s0.2.1 11) x5.toNatClampNeg x3)).2.1 12) x5.toNatClampNeg x4)) x5))
set_option maxHeartbeats 4000000 in
set_option maxRecDepth 100000 in
theorem B_X0_enter_37 {X : bb_X} (C : bb_C X RX0 cX0_enter 6) (hR : bb_r X 1) (hr : X.meth.sig.returnType = (some .int)) (h : Nat → Nat) {z : (Int32 × bb_O)} (R : bb_R X (some (.int z.1)) (wX0 X.cs h z.2)) {s0 : bb_O} {x3 : Int32} {x4 : Int32} {x5 : Int32} (hf : F_X0_enter_37 s0 x3 x4 x5 = some z) : bb_Z X 6 (wX0 X.cs h s0) 37 [(0, .ref (h 0)), (3, .int x3), (4, .int x4), (5, .int x5)] [] := by
  refine z_aload_n (pc := 37) (i := 0) C 0 dX0_enter_37 rfl rfl ?_
  refine z_get (pc := 38) (ci := 0) C (.ref (h 12)) bi_X0 rfl 0 11 (by decide) rfl bf_X0_28 rfl rfl dX0_enter_38 ?_
  refine z_iload (pc := 41) C 3 dX0_enter_41 rfl ?_
  refine z_iload_n (pc := 43) (i := 3) C 1 dX0_enter_43 rfl rfl ?_
  obtain ⟨hv1, hf⟩ := bb_g_some hf
  refine z_iast (pc := 44) (ws' := wX0 X.cs h (bb_sA s0 11 (upd (s0.2.1 11) x5.toNatClampNeg x3))) C 3 0 (x5.toNatClampNeg) rfl rfl hv1 rfl rfl dX0_enter_44 ?_
  refine z_aload_n (pc := 45) (i := 0) C 0 dX0_enter_45 rfl rfl ?_
  refine z_get (pc := 46) (ci := 0) C (.ref (h 13)) bi_X0 rfl 0 12 (by decide) rfl bf_X0_31 rfl rfl dX0_enter_46 ?_
  refine z_iload (pc := 49) C 3 dX0_enter_49 rfl ?_
  refine z_iload (pc := 51) C 2 dX0_enter_51 rfl ?_
  obtain ⟨hv2, hf⟩ := bb_g_some hf
  refine z_iast (pc := 53) (ws' := wX0 X.cs h (bb_sA (bb_sA s0 11 (upd (s0.2.1 11) x5.toNatClampNeg x3)) 12 (upd ((bb_sA s0 11 (upd (s0.2.1 11) x5.toNatClampNeg x3)).2.1 12) x5.toNatClampNeg x4))) C 4 0 (x5.toNatClampNeg) rfl rfl hv2 rfl rfl dX0_enter_53 ?_
  refine z_lv [0, 3] rfl ?_
  exact B_X0_enter_54 C hR hr h R  hf
noncomputable def F_X0_enter_0 (s0 : bb_O) (x1 : Int32) (x2 : Int32) (x3 : Int32) (x4 : Int32) : Option (Int32 × bb_O) := if (s0.1 2) < 0 then (F_X0_enter_18 s0) else (if (s0.1 2) < ((6 : Int32)) then (bb_g (vp_in (s0.1 2) 6) (bb_g (vp_in (s0.1 2) 6) (F_X0_enter_37 (bb_sA (bb_sA s0 9 (upd (s0.2.1 9) (s0.1 2).toNatClampNeg x1)) 10 (upd ((bb_sA s0 9 (upd (s0.2.1 9) (s0.1 2).toNatClampNeg x1)).2.1 10) (s0.1 2).toNatClampNeg x2)) x3 x4 (s0.1 2)))) else (F_X0_enter_18 s0))
set_option maxHeartbeats 4000000 in
set_option maxRecDepth 100000 in
theorem B_X0_enter_0 {X : bb_X} (C : bb_C X RX0 cX0_enter 6) (hR : bb_r X 1) (hr : X.meth.sig.returnType = (some .int)) (h : Nat → Nat) {z : (Int32 × bb_O)} (R : bb_R X (some (.int z.1)) (wX0 X.cs h z.2)) {s0 : bb_O} {x1 : Int32} {x2 : Int32} {x3 : Int32} {x4 : Int32} (hf : F_X0_enter_0 s0 x1 x2 x3 x4 = some z) : bb_Z X 6 (wX0 X.cs h s0) 0 [(0, .ref (h 0)), (1, .int x1), (2, .int x2), (3, .int x3), (4, .int x4)] [] := by
  refine z_aload_n (pc := 0) (i := 0) C 0 dX0_enter_0 rfl rfl ?_
  refine z_get (pc := 1) (ci := 0) C (.int (s0.1 2)) bi_X0 rfl 0 2 (by decide) rfl bf_X0_37 rfl rfl dX0_enter_1 ?_
  refine z_istore (pc := 4) (lv' := [(5, .int (s0.1 2)), (0, .ref (h 0)), (1, .int x1), (2, .int x2), (3, .int x3), (4, .int x4)]) C dX0_enter_4 (by decide) rfl ?_
  refine z_iload (pc := 6) C 0 dX0_enter_6 rfl ?_
  refine z_if_lt (pc := 8) C 18 dX0_enter_8 (by decide) (fun hc1 => ?_) (fun hc1 => ?_)
  · have hf := bb_t hf hc1
    refine z_lv [] rfl ?_
    exact B_X0_enter_18 C hR hr h R  hf
  · have hf := bb_e hf hc1
    refine z_iload (pc := 11) C 0 dX0_enter_11 rfl ?_
    refine z_bipush (pc := 13) C (6 : Int32) dX0_enter_13 (by decide) ?_
    refine z_icmp_lt (pc := 15) C 21 dX0_enter_15 (by decide) (fun hc2 => ?_) (fun hc2 => ?_)
    · have hf := bb_t hf hc2
      refine z_aload_n (pc := 21) (i := 0) C 1 dX0_enter_21 rfl rfl ?_
      refine z_get (pc := 22) (ci := 0) C (.ref (h 10)) bi_X0 rfl 0 9 (by decide) rfl bf_X0_21 rfl rfl dX0_enter_22 ?_
      refine z_iload (pc := 25) C 0 dX0_enter_25 rfl ?_
      refine z_iload_n (pc := 27) (i := 1) C 2 dX0_enter_27 rfl rfl ?_
      obtain ⟨hv3, hf⟩ := bb_g_some hf
      refine z_iast (pc := 28) (ws' := wX0 X.cs h (bb_sA s0 9 (upd (s0.2.1 9) (s0.1 2).toNatClampNeg x1))) C 1 0 ((s0.1 2).toNatClampNeg) rfl rfl hv3 rfl rfl dX0_enter_28 ?_
      refine z_aload_n (pc := 29) (i := 0) C 1 dX0_enter_29 rfl rfl ?_
      refine z_get (pc := 30) (ci := 0) C (.ref (h 11)) bi_X0 rfl 0 10 (by decide) rfl bf_X0_25 rfl rfl dX0_enter_30 ?_
      refine z_iload (pc := 33) C 0 dX0_enter_33 rfl ?_
      refine z_iload_n (pc := 35) (i := 2) C 3 dX0_enter_35 rfl rfl ?_
      obtain ⟨hv4, hf⟩ := bb_g_some hf
      refine z_iast (pc := 36) (ws' := wX0 X.cs h (bb_sA (bb_sA s0 9 (upd (s0.2.1 9) (s0.1 2).toNatClampNeg x1)) 10 (upd ((bb_sA s0 9 (upd (s0.2.1 9) (s0.1 2).toNatClampNeg x1)).2.1 10) (s0.1 2).toNatClampNeg x2))) C 2 0 ((s0.1 2).toNatClampNeg) rfl rfl hv4 rfl rfl dX0_enter_36 ?_
      refine z_lv [1, 4, 5, 0] rfl ?_
      exact B_X0_enter_37 C hR hr h R  hf
    · have hf := bb_e hf hc2
      refine z_lv [] rfl ?_
      exact B_X0_enter_18 C hR hr h R  hf
theorem c_X0_enter {l : Launch} {D : va_G} {cs : Nat → ClassId} (h : Nat → Nat) {s0 : bb_O} {x1 : Int32} {x2 : Int32} {x3 : Int32} {x4 : Int32} {z : (Int32 × bb_O)} (hf : F_X0_enter_0 s0 x1 x2 x3 x4 = some z) : bb_M l yX0_enter cX0_enter 6 (some .int) 1 D cs [.ref (h 0), .int x1, .int x2, .int x3, .int x4] (some (.int z.1)) (wX0 cs h s0) (wX0 cs h z.2) := bb_mg (by decide) rfl (Nat.le_of_ble_eq_true rfl) rfl (fun X hl hD hcs C hR hr R => by
  subst hl
  subst hD
  subst hcs
  exact B_X0_enter_0 C hR hr h R hf)
/-! X0_cells: reads, level 1 -/
noncomputable def F_X0_cells_0 (s0 : bb_O) : Option Int32 := some ((s0.1 0) * (s0.1 1))
set_option maxHeartbeats 4000000 in
set_option maxRecDepth 100000 in
theorem B_X0_cells_0 {X : bb_X} (C : bb_C X RX0 cX0_cells 1) (hR : bb_r X 1) (hr : X.meth.sig.returnType = (some .int)) (h : Nat → Nat) {z : Int32} {s0 : bb_O} (R : bb_R X (some (.int z)) (wX0 X.cs h s0))  (hf : F_X0_cells_0 s0 = some z) : bb_Z X 1 (wX0 X.cs h s0) 0 [(0, .ref (h 0))] [] := by
  refine z_aload_n (pc := 0) (i := 0) C 0 dX0_cells_0 rfl rfl ?_
  refine z_get (pc := 1) (ci := 0) C (.int (s0.1 0)) bi_X0 rfl 0 0 (by decide) rfl bf_X0_9 rfl rfl dX0_cells_1 ?_
  refine z_aload_n (pc := 4) (i := 0) C 0 dX0_cells_4 rfl rfl ?_
  refine z_get (pc := 5) (ci := 0) C (.int (s0.1 1)) bi_X0 rfl 0 1 (by decide) rfl bf_X0_15 rfl rfl dX0_cells_5 ?_
  refine z_imul (pc := 8) C dX0_cells_8 ?_
  obtain rfl := Option.some.inj hf
  exact z_iret (pc := 9) C hr R dX0_cells_9
theorem c_X0_cells {l : Launch} {D : va_G} {cs : Nat → ClassId} (h : Nat → Nat) {s0 : bb_O} {z : Int32} (hf : F_X0_cells_0 s0 = some z) : bb_M l yX0_cells cX0_cells 1 (some .int) 1 D cs [.ref (h 0)] (some (.int z)) (wX0 cs h s0) (wX0 cs h s0) := bb_mg (by decide) rfl (Nat.le_of_ble_eq_true rfl) rfl (fun X hl hD hcs C hR hr R => by
  subst hl
  subst hD
  subst hcs
  exact B_X0_cells_0 C hR hr h R hf)
/-! X0_isFree: reads, level 1 -/
noncomputable def F_X0_isFree_16 (s0 : bb_O) (y0 : Int32) : Option Int32 := bb_g (bb_z y0) (some y0)
set_option maxHeartbeats 4000000 in
set_option maxRecDepth 100000 in
theorem B_X0_isFree_16 {X : bb_X} (C : bb_C X RX0 cX0_isFree 2) (hR : bb_r X 1) (hr : X.meth.sig.returnType = (some .boolean)) (h : Nat → Nat) {z : Int32} {s0 : bb_O} (R : bb_R X (some (.int z)) (wX0 X.cs h s0)) {y0 : Int32} (hf : F_X0_isFree_16 s0 y0 = some z) : bb_Z X 2 (wX0 X.cs h s0) 16 [] [.int y0] := by
  obtain ⟨hz1, hf⟩ := bb_g_some hf
  obtain rfl := Option.some.inj hf
  exact z_zret (pc := 16) C hr (bb_nz hz1) R dX0_isFree_16
noncomputable def F_X0_isFree_0 (s0 : bb_O) (x1 : Int32) : Option Int32 := if ((s0.1 4) &&& (((1 : Int32)) <<< (x1 &&& 31))) = 0 then (F_X0_isFree_16 s0 ((1 : Int32))) else (F_X0_isFree_16 s0 ((0 : Int32)))
set_option maxHeartbeats 4000000 in
set_option maxRecDepth 100000 in
theorem B_X0_isFree_0 {X : bb_X} (C : bb_C X RX0 cX0_isFree 2) (hR : bb_r X 1) (hr : X.meth.sig.returnType = (some .boolean)) (h : Nat → Nat) {z : Int32} {s0 : bb_O} (R : bb_R X (some (.int z)) (wX0 X.cs h s0)) {x1 : Int32} (hf : F_X0_isFree_0 s0 x1 = some z) : bb_Z X 2 (wX0 X.cs h s0) 0 [(0, .ref (h 0)), (1, .int x1)] [] := by
  refine z_aload_n (pc := 0) (i := 0) C 0 dX0_isFree_0 rfl rfl ?_
  refine z_get (pc := 1) (ci := 0) C (.int (s0.1 4)) bi_X0 rfl 0 4 (by decide) rfl bf_X0_43 rfl rfl dX0_isFree_1 ?_
  refine z_iconst (pc := 4) C (1 : Int32) dX0_isFree_4 (by decide) ?_
  refine z_iload_n (pc := 5) (i := 1) C 1 dX0_isFree_5 rfl rfl ?_
  refine z_ishl (pc := 6) C dX0_isFree_6 ?_
  refine z_iand (pc := 7) C dX0_isFree_7 ?_
  refine z_if_ne (pc := 8) C 15 dX0_isFree_8 (by decide) (fun hc1 => ?_) (fun hc1 => ?_)
  · have hf := bb_e hf hc1
    refine z_iconst (pc := 15) C (0 : Int32) dX0_isFree_15 (by decide) ?_
    refine z_lv [] rfl ?_
    exact B_X0_isFree_16 C hR hr h R  hf
  · have hf := bb_t hf hc1
    refine z_iconst (pc := 11) C (1 : Int32) dX0_isFree_11 (by decide) ?_
    refine z_goto (pc := 12) C 16 dX0_isFree_12 (by decide) ?_
    refine z_lv [] rfl ?_
    exact B_X0_isFree_16 C hR hr h R  hf
theorem c_X0_isFree {l : Launch} {D : va_G} {cs : Nat → ClassId} (h : Nat → Nat) {s0 : bb_O} {x1 : Int32} {z : Int32} (hf : F_X0_isFree_0 s0 x1 = some z) : bb_M l yX0_isFree cX0_isFree 2 (some .boolean) 1 D cs [.ref (h 0), .int x1] (some (.int z)) (wX0 cs h s0) (wX0 cs h s0) := bb_mg (by decide) rfl (Nat.le_of_ble_eq_true rfl) rfl (fun X hl hD hcs C hR hr R => by
  subst hl
  subst hD
  subst hcs
  exact B_X0_isFree_0 C hR hr h R hf)
/-! X0_rowOf: reads, level 1 -/
noncomputable def F_X0_rowOf_18 (s0 : bb_O) (y0 : Int32) : Option Int32 := some y0
set_option maxHeartbeats 4000000 in
set_option maxRecDepth 100000 in
theorem B_X0_rowOf_18 {X : bb_X} (C : bb_C X RX0 cX0_rowOf 2) (hR : bb_r X 1) (hr : X.meth.sig.returnType = (some .int)) (h : Nat → Nat) {z : Int32} {s0 : bb_O} (R : bb_R X (some (.int z)) (wX0 X.cs h s0)) {y0 : Int32} (hf : F_X0_rowOf_18 s0 y0 = some z) : bb_Z X 2 (wX0 X.cs h s0) 18 [] [.int y0] := by
  obtain rfl := Option.some.inj hf
  exact z_iret (pc := 18) C hr R dX0_rowOf_18
noncomputable def F_X0_rowOf_0 (s0 : bb_O) (x1 : Int32) : Option Int32 := if ((2 : Int32)) ≤ (s0.1 1) then (bb_g (¬ (s0.1 1) = 0) (F_X0_rowOf_18 s0 (x1 / (s0.1 1)))) else (F_X0_rowOf_18 s0 ((0 : Int32)))
set_option maxHeartbeats 4000000 in
set_option maxRecDepth 100000 in
theorem B_X0_rowOf_0 {X : bb_X} (C : bb_C X RX0 cX0_rowOf 2) (hR : bb_r X 1) (hr : X.meth.sig.returnType = (some .int)) (h : Nat → Nat) {z : Int32} {s0 : bb_O} (R : bb_R X (some (.int z)) (wX0 X.cs h s0)) {x1 : Int32} (hf : F_X0_rowOf_0 s0 x1 = some z) : bb_Z X 2 (wX0 X.cs h s0) 0 [(0, .ref (h 0)), (1, .int x1)] [] := by
  refine z_aload_n (pc := 0) (i := 0) C 0 dX0_rowOf_0 rfl rfl ?_
  refine z_get (pc := 1) (ci := 0) C (.int (s0.1 1)) bi_X0 rfl 0 1 (by decide) rfl bf_X0_15 rfl rfl dX0_rowOf_1 ?_
  refine z_iconst (pc := 4) C (2 : Int32) dX0_rowOf_4 (by decide) ?_
  refine z_icmp_ge (pc := 5) C 12 dX0_rowOf_5 (by decide) (fun hc1 => ?_) (fun hc1 => ?_)
  · have hf := bb_t hf hc1
    refine z_iload_n (pc := 12) (i := 1) C 1 dX0_rowOf_12 rfl rfl ?_
    refine z_aload_n (pc := 13) (i := 0) C 0 dX0_rowOf_13 rfl rfl ?_
    refine z_get (pc := 14) (ci := 0) C (.int (s0.1 1)) bi_X0 rfl 0 1 (by decide) rfl bf_X0_15 rfl rfl dX0_rowOf_14 ?_
    obtain ⟨hn2, hf⟩ := bb_g_some hf
    refine z_idiv (pc := 17) C dX0_rowOf_17 hn2 ?_
    refine z_lv [] rfl ?_
    exact B_X0_rowOf_18 C hR hr h R  hf
  · have hf := bb_e hf hc1
    refine z_iconst (pc := 8) C (0 : Int32) dX0_rowOf_8 (by decide) ?_
    refine z_goto (pc := 9) C 18 dX0_rowOf_9 (by decide) ?_
    refine z_lv [] rfl ?_
    exact B_X0_rowOf_18 C hR hr h R  hf
theorem c_X0_rowOf {l : Launch} {D : va_G} {cs : Nat → ClassId} (h : Nat → Nat) {s0 : bb_O} {x1 : Int32} {z : Int32} (hf : F_X0_rowOf_0 s0 x1 = some z) : bb_M l yX0_rowOf cX0_rowOf 2 (some .int) 1 D cs [.ref (h 0), .int x1] (some (.int z)) (wX0 cs h s0) (wX0 cs h s0) := bb_mg (by decide) rfl (Nat.le_of_ble_eq_true rfl) rfl (fun X hl hD hcs C hR hr R => by
  subst hl
  subst hD
  subst hcs
  exact B_X0_rowOf_0 C hR hr h R hf)
/-! X0_columnOf: reads, level 1 -/
noncomputable def F_X0_columnOf_18 (s0 : bb_O) (y0 : Int32) : Option Int32 := some y0
set_option maxHeartbeats 4000000 in
set_option maxRecDepth 100000 in
theorem B_X0_columnOf_18 {X : bb_X} (C : bb_C X RX0 cX0_columnOf 2) (hR : bb_r X 1) (hr : X.meth.sig.returnType = (some .int)) (h : Nat → Nat) {z : Int32} {s0 : bb_O} (R : bb_R X (some (.int z)) (wX0 X.cs h s0)) {y0 : Int32} (hf : F_X0_columnOf_18 s0 y0 = some z) : bb_Z X 2 (wX0 X.cs h s0) 18 [] [.int y0] := by
  obtain rfl := Option.some.inj hf
  exact z_iret (pc := 18) C hr R dX0_columnOf_18
noncomputable def F_X0_columnOf_0 (s0 : bb_O) (x1 : Int32) : Option Int32 := if ((2 : Int32)) ≤ (s0.1 1) then (bb_g (¬ (s0.1 1) = 0) (F_X0_columnOf_18 s0 (x1 % (s0.1 1)))) else (F_X0_columnOf_18 s0 ((0 : Int32)))
set_option maxHeartbeats 4000000 in
set_option maxRecDepth 100000 in
theorem B_X0_columnOf_0 {X : bb_X} (C : bb_C X RX0 cX0_columnOf 2) (hR : bb_r X 1) (hr : X.meth.sig.returnType = (some .int)) (h : Nat → Nat) {z : Int32} {s0 : bb_O} (R : bb_R X (some (.int z)) (wX0 X.cs h s0)) {x1 : Int32} (hf : F_X0_columnOf_0 s0 x1 = some z) : bb_Z X 2 (wX0 X.cs h s0) 0 [(0, .ref (h 0)), (1, .int x1)] [] := by
  refine z_aload_n (pc := 0) (i := 0) C 0 dX0_columnOf_0 rfl rfl ?_
  refine z_get (pc := 1) (ci := 0) C (.int (s0.1 1)) bi_X0 rfl 0 1 (by decide) rfl bf_X0_15 rfl rfl dX0_columnOf_1 ?_
  refine z_iconst (pc := 4) C (2 : Int32) dX0_columnOf_4 (by decide) ?_
  refine z_icmp_ge (pc := 5) C 12 dX0_columnOf_5 (by decide) (fun hc1 => ?_) (fun hc1 => ?_)
  · have hf := bb_t hf hc1
    refine z_iload_n (pc := 12) (i := 1) C 1 dX0_columnOf_12 rfl rfl ?_
    refine z_aload_n (pc := 13) (i := 0) C 0 dX0_columnOf_13 rfl rfl ?_
    refine z_get (pc := 14) (ci := 0) C (.int (s0.1 1)) bi_X0 rfl 0 1 (by decide) rfl bf_X0_15 rfl rfl dX0_columnOf_14 ?_
    obtain ⟨hn2, hf⟩ := bb_g_some hf
    refine z_irem (pc := 17) C dX0_columnOf_17 hn2 ?_
    refine z_lv [] rfl ?_
    exact B_X0_columnOf_18 C hR hr h R  hf
  · have hf := bb_e hf hc1
    refine z_iconst (pc := 8) C (0 : Int32) dX0_columnOf_8 (by decide) ?_
    refine z_goto (pc := 9) C 18 dX0_columnOf_9 (by decide) ?_
    refine z_lv [] rfl ?_
    exact B_X0_columnOf_18 C hR hr h R  hf
theorem c_X0_columnOf {l : Launch} {D : va_G} {cs : Nat → ClassId} (h : Nat → Nat) {s0 : bb_O} {x1 : Int32} {z : Int32} (hf : F_X0_columnOf_0 s0 x1 = some z) : bb_M l yX0_columnOf cX0_columnOf 2 (some .int) 1 D cs [.ref (h 0), .int x1] (some (.int z)) (wX0 cs h s0) (wX0 cs h s0) := bb_mg (by decide) rfl (Nat.le_of_ble_eq_true rfl) rfl (fun X hl hD hcs C hR hr R => by
  subst hl
  subst hD
  subst hcs
  exact B_X0_columnOf_0 C hR hr h R hf)
/-! X0_far: reads, level 2 -/
noncomputable def F_X0_far_0 (s0 : bb_O) (x1 : Int32) : Option Int32 := bb_g (vp_in x1 6) ((F_X0_rowOf_0 s0 (s0.2.1 10 x1.toNatClampNeg)).bind (fun q2 => (F_X0_rowOf_0 s0 (s0.1 3)).bind (fun q3 => bb_g (vp_in x1 6) ((F_X0_columnOf_0 s0 (s0.2.1 10 x1.toNatClampNeg)).bind (fun q5 => (F_X0_columnOf_0 s0 (s0.1 3)).bind (fun q6 => some ((if 0 ≤ (q2 - q3) then (q2 - q3) else 0 - (q2 - q3)) + (if 0 ≤ (q5 - q6) then (q5 - q6) else 0 - (q5 - q6)))))))))
set_option maxHeartbeats 4000000 in
set_option maxRecDepth 100000 in
theorem B_X0_far_0 {X : bb_X} (C : bb_C X RX0 cX0_far 2) (hR : bb_r X 2) (hr : X.meth.sig.returnType = (some .int)) (h : Nat → Nat) {z : Int32} {s0 : bb_O} (R : bb_R X (some (.int z)) (wX0 X.cs h s0)) {x1 : Int32} (hf : F_X0_far_0 s0 x1 = some z) : bb_Z X 2 (wX0 X.cs h s0) 0 [(0, .ref (h 0)), (1, .int x1)] [] := by
  refine z_aload_n (pc := 0) (i := 0) C 0 dX0_far_0 rfl rfl ?_
  refine z_aload_n (pc := 1) (i := 0) C 0 dX0_far_1 rfl rfl ?_
  refine z_get (pc := 2) (ci := 0) C (.ref (h 11)) bi_X0 rfl 0 10 (by decide) rfl bf_X0_25 rfl rfl dX0_far_2 ?_
  refine z_iload_n (pc := 5) (i := 1) C 1 dX0_far_5 rfl rfl ?_
  obtain ⟨hv1, hf⟩ := bb_g_some hf
  refine z_iald (pc := 6) C 2 0 (x1.toNatClampNeg) rfl rfl hv1 rfl dX0_far_6 ?_
  obtain ⟨q2, hq2, hf⟩ := bb_b_some hf
  refine z_callVi (pc := 7) (ci := 0) (q0 := 0) (As := [.int (s0.2.1 10 x1.toNatClampNeg)]) (rest := []) C (hR.le (by decide)) (c_X0_rowOf h hq2) (bb_cut_self _ _) bv_X0_rowOf bm_X0_61 rfl rfl rfl rfl (Nat.le_of_ble_eq_true rfl) dX0_far_7 ?_
  refine z_aload_n (pc := 10) (i := 0) C 0 dX0_far_10 rfl rfl ?_
  refine z_aload_n (pc := 11) (i := 0) C 0 dX0_far_11 rfl rfl ?_
  refine z_get (pc := 12) (ci := 0) C (.int (s0.1 3)) bi_X0 rfl 0 3 (by decide) rfl bf_X0_40 rfl rfl dX0_far_12 ?_
  obtain ⟨q3, hq3, hf⟩ := bb_b_some hf
  refine z_callVi (pc := 15) (ci := 0) (q0 := 0) (As := [.int (s0.1 3)]) (rest := [.int q2]) C (hR.le (by decide)) (c_X0_rowOf h hq3) (bb_cut_self _ _) bv_X0_rowOf bm_X0_61 rfl rfl rfl rfl (Nat.le_of_ble_eq_true rfl) dX0_far_15 ?_
  refine z_isub (pc := 18) C dX0_far_18 ?_
  refine z_mabs (pc := 19) C (hR.le (by decide)) bm_X0_65 bl_abs_s bl_Math bl_abs_c (Nat.le_of_ble_eq_true rfl) dX0_far_19 ?_
  refine z_aload_n (pc := 22) (i := 0) C 0 dX0_far_22 rfl rfl ?_
  refine z_aload_n (pc := 23) (i := 0) C 0 dX0_far_23 rfl rfl ?_
  refine z_get (pc := 24) (ci := 0) C (.ref (h 11)) bi_X0 rfl 0 10 (by decide) rfl bf_X0_25 rfl rfl dX0_far_24 ?_
  refine z_iload_n (pc := 27) (i := 1) C 1 dX0_far_27 rfl rfl ?_
  obtain ⟨hv4, hf⟩ := bb_g_some hf
  refine z_iald (pc := 28) C 2 0 (x1.toNatClampNeg) rfl rfl hv4 rfl dX0_far_28 ?_
  obtain ⟨q5, hq5, hf⟩ := bb_b_some hf
  refine z_callVi (pc := 29) (ci := 0) (q0 := 0) (As := [.int (s0.2.1 10 x1.toNatClampNeg)]) (rest := [.int (if 0 ≤ (q2 - q3) then (q2 - q3) else 0 - (q2 - q3))]) C (hR.le (by decide)) (c_X0_columnOf h hq5) (bb_cut_self _ _) bv_X0_columnOf bm_X0_70 rfl rfl rfl rfl (Nat.le_of_ble_eq_true rfl) dX0_far_29 ?_
  refine z_aload_n (pc := 32) (i := 0) C 0 dX0_far_32 rfl rfl ?_
  refine z_aload_n (pc := 33) (i := 0) C 0 dX0_far_33 rfl rfl ?_
  refine z_get (pc := 34) (ci := 0) C (.int (s0.1 3)) bi_X0 rfl 0 3 (by decide) rfl bf_X0_40 rfl rfl dX0_far_34 ?_
  obtain ⟨q6, hq6, hf⟩ := bb_b_some hf
  refine z_callVi (pc := 37) (ci := 0) (q0 := 0) (As := [.int (s0.1 3)]) (rest := [.int q5, .int (if 0 ≤ (q2 - q3) then (q2 - q3) else 0 - (q2 - q3))]) C (hR.le (by decide)) (c_X0_columnOf h hq6) (bb_cut_self _ _) bv_X0_columnOf bm_X0_70 rfl rfl rfl rfl (Nat.le_of_ble_eq_true rfl) dX0_far_37 ?_
  refine z_isub (pc := 40) C dX0_far_40 ?_
  refine z_mabs (pc := 41) C (hR.le (by decide)) bm_X0_65 bl_abs_s bl_Math bl_abs_c (Nat.le_of_ble_eq_true rfl) dX0_far_41 ?_
  refine z_iadd (pc := 44) C dX0_far_44 ?_
  obtain rfl := Option.some.inj hf
  exact z_iret (pc := 45) C hr R dX0_far_45
theorem c_X0_far {l : Launch} {D : va_G} {cs : Nat → ClassId} (h : Nat → Nat) {s0 : bb_O} {x1 : Int32} {z : Int32} (hf : F_X0_far_0 s0 x1 = some z) : bb_M l yX0_far cX0_far 2 (some .int) 2 D cs [.ref (h 0), .int x1] (some (.int z)) (wX0 cs h s0) (wX0 cs h s0) := bb_mg (by decide) rfl (Nat.le_of_ble_eq_true rfl) rfl (fun X hl hD hcs C hR hr R => by
  subst hl
  subst hD
  subst hcs
  exact B_X0_far_0 C hR hr h R hf)
/-! X0_loud: reads, level 3 -/
noncomputable def F_X0_loud_85 (s0 : bb_O) (y0 : Int32) : Option Int32 := some y0
set_option maxHeartbeats 4000000 in
set_option maxRecDepth 100000 in
theorem B_X0_loud_85 {X : bb_X} (C : bb_C X RX0 cX0_loud 6) (hR : bb_r X 3) (hr : X.meth.sig.returnType = (some .int)) (h : Nat → Nat) {z : Int32} {s0 : bb_O} (R : bb_R X (some (.int z)) (wX0 X.cs h s0)) {y0 : Int32} (hf : F_X0_loud_85 s0 y0 = some z) : bb_Z X 6 (wX0 X.cs h s0) 85 [] [.int y0] := by
  obtain rfl := Option.some.inj hf
  exact z_iret (pc := 85) C hr R dX0_loud_85
noncomputable def F_X0_loud_100 (s0 : bb_O) (y0 : Int32) : Option Int32 := some y0
set_option maxHeartbeats 4000000 in
set_option maxRecDepth 100000 in
theorem B_X0_loud_100 {X : bb_X} (C : bb_C X RX0 cX0_loud 6) (hR : bb_r X 3) (hr : X.meth.sig.returnType = (some .int)) (h : Nat → Nat) {z : Int32} {s0 : bb_O} (R : bb_R X (some (.int z)) (wX0 X.cs h s0)) {y0 : Int32} (hf : F_X0_loud_100 s0 y0 = some z) : bb_Z X 6 (wX0 X.cs h s0) 100 [] [.int y0] := by
  obtain rfl := Option.some.inj hf
  exact z_iret (pc := 100) C hr R dX0_loud_100
noncomputable def F_X0_loud_19 (s0 : bb_O) (x1 : Int32) (x2 : Int32) (x3 : Int32) : Option Int32 := bb_g (vp_in x1 6) (if (s0.2.1 9 x1.toNatClampNeg) = 1 then (some (x3 / ((2 : Int32)))) else (if (s0.2.1 9 x1.toNatClampNeg) = 2 then (some (x3 + ((4 : Int32)))) else (if (s0.2.1 9 x1.toNatClampNeg) = 3 then (if ((s0.1 5) % ((2 : Int32))) = 0 then (F_X0_loud_85 s0 ((0 : Int32))) else (F_X0_loud_85 s0 (x3 / ((2 : Int32))))) else (if (s0.2.1 9 x1.toNatClampNeg) = 4 then (if ((2 : Int32)) < x2 then (F_X0_loud_100 s0 (x3 + ((4 : Int32)))) else (F_X0_loud_100 s0 (((2 : Int32)) * (x3 + ((4 : Int32)))))) else (some x3)))))
set_option maxHeartbeats 4000000 in
set_option maxRecDepth 100000 in
theorem B_X0_loud_19 {X : bb_X} (C : bb_C X RX0 cX0_loud 6) (hR : bb_r X 3) (hr : X.meth.sig.returnType = (some .int)) (h : Nat → Nat) {z : Int32} {s0 : bb_O} (R : bb_R X (some (.int z)) (wX0 X.cs h s0)) {x1 : Int32} {x2 : Int32} {x3 : Int32} (hf : F_X0_loud_19 s0 x1 x2 x3 = some z) : bb_Z X 6 (wX0 X.cs h s0) 19 [(0, .ref (h 0)), (1, .int x1), (2, .int x2), (3, .int x3)] [] := by
  refine z_iload_n (pc := 19) (i := 3) C 3 dX0_loud_19 rfl rfl ?_
  refine z_iconst (pc := 20) C (2 : Int32) dX0_loud_20 (by decide) ?_
  refine z_idiv (pc := 21) C dX0_loud_21 (by decide) ?_
  refine z_istore (pc := 22) (lv' := [(4, .int (x3 / ((2 : Int32)))), (0, .ref (h 0)), (1, .int x1), (2, .int x2), (3, .int x3)]) C dX0_loud_22 (by decide) rfl ?_
  refine z_iload_n (pc := 24) (i := 3) C 4 dX0_loud_24 rfl rfl ?_
  refine z_iconst (pc := 25) C (4 : Int32) dX0_loud_25 (by decide) ?_
  refine z_iadd (pc := 26) C dX0_loud_26 ?_
  refine z_istore (pc := 27) (lv' := [(5, .int (x3 + ((4 : Int32)))), (4, .int (x3 / ((2 : Int32)))), (0, .ref (h 0)), (1, .int x1), (2, .int x2), (3, .int x3)]) C dX0_loud_27 (by decide) rfl ?_
  refine z_aload_n (pc := 29) (i := 0) C 2 dX0_loud_29 rfl rfl ?_
  refine z_get (pc := 30) (ci := 0) C (.ref (h 10)) bi_X0 rfl 0 9 (by decide) rfl bf_X0_21 rfl rfl dX0_loud_30 ?_
  refine z_iload_n (pc := 33) (i := 1) C 3 dX0_loud_33 rfl rfl ?_
  obtain ⟨hv1, hf⟩ := bb_g_some hf
  refine z_iald (pc := 34) C 1 0 (x1.toNatClampNeg) rfl rfl hv1 rfl dX0_loud_34 ?_
  by_cases hc2 : (s0.2.1 9 x1.toNatClampNeg) = 1
  · have hf := bb_t hf hc2
    refine z_tabIn (pc := 35) C 64 (1 : Int32) dX0_loud_35 hc2 (by decide) (by decide) rfl (by decide) ?_
    refine z_iload (pc := 64) C 1 dX0_loud_64 rfl ?_
    obtain rfl := Option.some.inj hf
    exact z_iret (pc := 66) C hr R dX0_loud_66
  · have hf := bb_e hf hc2
    by_cases hc3 : (s0.2.1 9 x1.toNatClampNeg) = 2
    · have hf := bb_t hf hc3
      refine z_tabIn (pc := 35) C 67 (2 : Int32) dX0_loud_35 hc3 (by decide) (by decide) rfl (by decide) ?_
      refine z_iload (pc := 67) C 0 dX0_loud_67 rfl ?_
      obtain rfl := Option.some.inj hf
      exact z_iret (pc := 69) C hr R dX0_loud_69
    · have hf := bb_e hf hc3
      by_cases hc4 : (s0.2.1 9 x1.toNatClampNeg) = 3
      · have hf := bb_t hf hc4
        refine z_tabIn (pc := 35) C 70 (3 : Int32) dX0_loud_35 hc4 (by decide) (by decide) rfl (by decide) ?_
        refine z_aload_n (pc := 70) (i := 0) C 2 dX0_loud_70 rfl rfl ?_
        refine z_get (pc := 71) (ci := 0) C (.int (s0.1 5)) bi_X0 rfl 0 5 (by decide) rfl bf_X0_46 rfl rfl dX0_loud_71 ?_
        refine z_iconst (pc := 74) C (2 : Int32) dX0_loud_74 (by decide) ?_
        refine z_irem (pc := 75) C dX0_loud_75 (by decide) ?_
        refine z_if_ne (pc := 76) C 83 dX0_loud_76 (by decide) (fun hc5 => ?_) (fun hc5 => ?_)
        · have hf := bb_e hf hc5
          refine z_iload (pc := 83) C 1 dX0_loud_83 rfl ?_
          refine z_lv [] rfl ?_
          exact B_X0_loud_85 C hR hr h R  hf
        · have hf := bb_t hf hc5
          refine z_iconst (pc := 79) C (0 : Int32) dX0_loud_79 (by decide) ?_
          refine z_goto (pc := 80) C 85 dX0_loud_80 (by decide) ?_
          refine z_lv [] rfl ?_
          exact B_X0_loud_85 C hR hr h R  hf
      · have hf := bb_e hf hc4
        by_cases hc6 : (s0.2.1 9 x1.toNatClampNeg) = 4
        · have hf := bb_t hf hc6
          refine z_tabIn (pc := 35) C 86 (4 : Int32) dX0_loud_35 hc6 (by decide) (by decide) rfl (by decide) ?_
          refine z_iload_n (pc := 86) (i := 2) C 4 dX0_loud_86 rfl rfl ?_
          refine z_iconst (pc := 87) C (2 : Int32) dX0_loud_87 (by decide) ?_
          refine z_icmp_gt (pc := 88) C 98 dX0_loud_88 (by decide) (fun hc7 => ?_) (fun hc7 => ?_)
          · have hf := bb_t hf hc7
            refine z_iload (pc := 98) C 0 dX0_loud_98 rfl ?_
            refine z_lv [] rfl ?_
            exact B_X0_loud_100 C hR hr h R  hf
          · have hf := bb_e hf hc7
            refine z_iconst (pc := 91) C (2 : Int32) dX0_loud_91 (by decide) ?_
            refine z_iload (pc := 92) C 0 dX0_loud_92 rfl ?_
            refine z_imul (pc := 94) C dX0_loud_94 ?_
            refine z_goto (pc := 95) C 100 dX0_loud_95 (by decide) ?_
            refine z_lv [] rfl ?_
            exact B_X0_loud_100 C hR hr h R  hf
        · have hf := bb_e hf hc6
          refine z_tabOut (pc := 35) C 101 dX0_loud_35 (by have a1 := lv_neT hc2 (show (1 : Int32).toInt = 1 by decide); have a2 := lv_neT hc3 (show (2 : Int32).toInt = 2 by decide); have a3 := lv_neT hc4 (show (3 : Int32).toInt = 3 by decide); have a4 := lv_neT hc6 (show (4 : Int32).toInt = 4 by decide); omega) (by decide) ?_
          refine z_iload_n (pc := 101) (i := 3) C 5 dX0_loud_101 rfl rfl ?_
          obtain rfl := Option.some.inj hf
          exact z_iret (pc := 102) C hr R dX0_loud_102
noncomputable def F_X0_loud_0 (s0 : bb_O) (x1 : Int32) : Option Int32 := (F_X0_far_0 s0 x1).bind (fun q1 => bb_g (vp_in x1 6) (F_X0_loud_19 s0 x1 q1 (if ((0 : Int32)) < ((s0.2.1 11 x1.toNatClampNeg) - q1) then ((s0.2.1 11 x1.toNatClampNeg) - q1) else ((0 : Int32)))))
set_option maxHeartbeats 4000000 in
set_option maxRecDepth 100000 in
theorem B_X0_loud_0 {X : bb_X} (C : bb_C X RX0 cX0_loud 6) (hR : bb_r X 3) (hr : X.meth.sig.returnType = (some .int)) (h : Nat → Nat) {z : Int32} {s0 : bb_O} (R : bb_R X (some (.int z)) (wX0 X.cs h s0)) {x1 : Int32} (hf : F_X0_loud_0 s0 x1 = some z) : bb_Z X 6 (wX0 X.cs h s0) 0 [(0, .ref (h 0)), (1, .int x1)] [] := by
  refine z_aload_n (pc := 0) (i := 0) C 0 dX0_loud_0 rfl rfl ?_
  refine z_iload_n (pc := 1) (i := 1) C 1 dX0_loud_1 rfl rfl ?_
  obtain ⟨q1, hq1, hf⟩ := bb_b_some hf
  refine z_callVi (pc := 2) (ci := 0) (q0 := 0) (As := [.int x1]) (rest := []) C (hR.le (by decide)) (c_X0_far h hq1) (bb_cut_self _ _) bv_X0_far bm_X0_73 rfl rfl rfl rfl (Nat.le_of_ble_eq_true rfl) dX0_loud_2 ?_
  refine z_istore_n (pc := 5) (i := 2) (lv' := [(2, .int q1), (0, .ref (h 0)), (1, .int x1)]) C dX0_loud_5 rfl (by decide) rfl ?_
  refine z_iconst (pc := 6) C (0 : Int32) dX0_loud_6 (by decide) ?_
  refine z_aload_n (pc := 7) (i := 0) C 1 dX0_loud_7 rfl rfl ?_
  refine z_get (pc := 8) (ci := 0) C (.ref (h 12)) bi_X0 rfl 0 11 (by decide) rfl bf_X0_28 rfl rfl dX0_loud_8 ?_
  refine z_iload_n (pc := 11) (i := 1) C 2 dX0_loud_11 rfl rfl ?_
  obtain ⟨hv2, hf⟩ := bb_g_some hf
  refine z_iald (pc := 12) C 3 0 (x1.toNatClampNeg) rfl rfl hv2 rfl dX0_loud_12 ?_
  refine z_iload_n (pc := 13) (i := 2) C 0 dX0_loud_13 rfl rfl ?_
  refine z_isub (pc := 14) C dX0_loud_14 ?_
  refine z_mmax (pc := 15) C (hR.le (by decide)) bm_X0_76 bl_max_s bl_Math bl_max_c (Nat.le_of_ble_eq_true rfl) dX0_loud_15 ?_
  refine z_istore_n (pc := 18) (i := 3) (lv' := [(3, .int (if ((0 : Int32)) < ((s0.2.1 11 x1.toNatClampNeg) - q1) then ((s0.2.1 11 x1.toNatClampNeg) - q1) else ((0 : Int32)))), (2, .int q1), (0, .ref (h 0)), (1, .int x1)]) C dX0_loud_18 rfl (by decide) rfl ?_
  refine z_lv [2, 3, 1, 0] rfl ?_
  exact B_X0_loud_19 C hR hr h R  hf
theorem c_X0_loud {l : Launch} {D : va_G} {cs : Nat → ClassId} (h : Nat → Nat) {s0 : bb_O} {x1 : Int32} {z : Int32} (hf : F_X0_loud_0 s0 x1 = some z) : bb_M l yX0_loud cX0_loud 6 (some .int) 3 D cs [.ref (h 0), .int x1] (some (.int z)) (wX0 cs h s0) (wX0 cs h s0) := bb_mg (by decide) rfl (Nat.le_of_ble_eq_true rfl) rfl (fun X hl hD hcs C hR hr R => by
  subst hl
  subst hD
  subst hcs
  exact B_X0_loud_0 C hR hr h R hf)
/-! X0_followed: reads, level 4 -/
noncomputable def F_X0_followed_41 (s0 : bb_O) (k7 : Int32 → Int32 → Int32 → Option Int32) (x1 : Int32) (x2 : Int32) (x3 : Int32) : Option Int32 := k7 x1 x2 (x3 + 1)
set_option maxHeartbeats 4000000 in
set_option maxRecDepth 100000 in
theorem B_X0_followed_41 {X : bb_X} (C : bb_C X RX0 cX0_followed 5) (hR : bb_r X 4) (hr : X.meth.sig.returnType = (some .int)) (h : Nat → Nat) {z : Int32} {s0 : bb_O} (R : bb_R X (some (.int z)) (wX0 X.cs h s0)) {k7 : Int32 → Int32 → Int32 → Option Int32} (hk7 : ∀ (x1 : Int32) (x2 : Int32) (x3 : Int32), k7 x1 x2 x3 = some z → bb_Z X 5 (wX0 X.cs h s0) 7 [(0, .ref (h 0)), (1, .int x1), (2, .int x2), (3, .int x3)] []) {x1 : Int32} {x2 : Int32} {x3 : Int32} (hf : F_X0_followed_41 s0 k7 x1 x2 x3 = some z) : bb_Z X 5 (wX0 X.cs h s0) 41 [(0, .ref (h 0)), (1, .int x1), (2, .int x2), (3, .int x3)] [] := by
  refine z_iinc (pc := 41) (lv' := [(3, .int (x3 + 1)), (0, .ref (h 0)), (1, .int x1), (2, .int x2)]) C (x3 + 1) 3 dX0_followed_41 rfl rfl (by decide) rfl ?_
  refine z_goto (pc := 44) C 7 dX0_followed_44 (by decide) ?_
  refine z_lv [1, 2, 3, 0] rfl ?_
  exact hk7 _ _ _ hf
noncomputable def G_X0_followed_7 (s0 : bb_O) (k7 : Int32 → Int32 → Int32 → Option Int32) (x1 : Int32) (x2 : Int32) (x3 : Int32) : Option Int32 := if (s0.1 2) ≤ x3 then (some x1) else ((F_X0_isFree_0 s0 x3).bind (fun q2 => if q2 = 0 then (F_X0_followed_41 s0 k7 x1 x2 x3) else ((F_X0_loud_0 s0 x3).bind (fun q4 => if q4 ≤ x2 then (F_X0_followed_41 s0 k7 x1 x2 x3) else (F_X0_followed_41 s0 k7 x3 q4 x3)))))
noncomputable def F_X0_followed_7 (s0 : bb_O) : Nat → Int32 → Int32 → Int32 → Option Int32
  | 0, _, _, _ => none
  | n + 1, x1, x2, x3 => G_X0_followed_7 s0 (F_X0_followed_7 s0 n) x1 x2 x3
set_option maxHeartbeats 4000000 in
set_option maxRecDepth 100000 in
theorem A_X0_followed_7 {X : bb_X} (C : bb_C X RX0 cX0_followed 5) (hR : bb_r X 4) (hr : X.meth.sig.returnType = (some .int)) (h : Nat → Nat) {z : Int32} {s0 : bb_O} (R : bb_R X (some (.int z)) (wX0 X.cs h s0)) {k7 : Int32 → Int32 → Int32 → Option Int32} (hk7 : ∀ (x1 : Int32) (x2 : Int32) (x3 : Int32), k7 x1 x2 x3 = some z → bb_Z X 5 (wX0 X.cs h s0) 7 [(0, .ref (h 0)), (1, .int x1), (2, .int x2), (3, .int x3)] []) {x1 : Int32} {x2 : Int32} {x3 : Int32} (hf : G_X0_followed_7 s0 k7 x1 x2 x3 = some z) : bb_Z X 5 (wX0 X.cs h s0) 7 [(0, .ref (h 0)), (1, .int x1), (2, .int x2), (3, .int x3)] [] := by
  refine z_iload_n (pc := 7) (i := 3) C 3 dX0_followed_7 rfl rfl ?_
  refine z_aload_n (pc := 8) (i := 0) C 0 dX0_followed_8 rfl rfl ?_
  refine z_get (pc := 9) (ci := 0) C (.int (s0.1 2)) bi_X0 rfl 0 2 (by decide) rfl bf_X0_37 rfl rfl dX0_followed_9 ?_
  refine z_icmp_ge (pc := 12) C 47 dX0_followed_12 (by decide) (fun hc1 => ?_) (fun hc1 => ?_)
  · have hf := bb_t hf hc1
    refine z_iload_n (pc := 47) (i := 1) C 1 dX0_followed_47 rfl rfl ?_
    obtain rfl := Option.some.inj hf
    exact z_iret (pc := 48) C hr R dX0_followed_48
  · have hf := bb_e hf hc1
    refine z_aload_n (pc := 15) (i := 0) C 0 dX0_followed_15 rfl rfl ?_
    refine z_iload_n (pc := 16) (i := 3) C 3 dX0_followed_16 rfl rfl ?_
    obtain ⟨q2, hq2, hf⟩ := bb_b_some hf
    refine z_callVi (pc := 17) (ci := 0) (q0 := 0) (As := [.int x3]) (rest := []) C (hR.le (by decide)) (c_X0_isFree h hq2) (bb_cut_self _ _) bv_X0_isFree bm_X0_80 rfl rfl rfl rfl (Nat.le_of_ble_eq_true rfl) dX0_followed_17 ?_
    refine z_if_eq (pc := 20) C 41 dX0_followed_20 (by decide) (fun hc3 => ?_) (fun hc3 => ?_)
    · have hf := bb_t hf hc3
      exact B_X0_followed_41 C hR hr h R hk7 hf
    · have hf := bb_e hf hc3
      refine z_aload_n (pc := 23) (i := 0) C 0 dX0_followed_23 rfl rfl ?_
      refine z_iload_n (pc := 24) (i := 3) C 3 dX0_followed_24 rfl rfl ?_
      obtain ⟨q4, hq4, hf⟩ := bb_b_some hf
      refine z_callVi (pc := 25) (ci := 0) (q0 := 0) (As := [.int x3]) (rest := []) C (hR.le (by decide)) (c_X0_loud h hq4) (bb_cut_self _ _) bv_X0_loud bm_X0_84 rfl rfl rfl rfl (Nat.le_of_ble_eq_true rfl) dX0_followed_25 ?_
      refine z_istore (pc := 28) (lv' := [(4, .int q4), (0, .ref (h 0)), (1, .int x1), (2, .int x2), (3, .int x3)]) C dX0_followed_28 (by decide) rfl ?_
      refine z_iload (pc := 30) C 0 dX0_followed_30 rfl ?_
      refine z_iload_n (pc := 32) (i := 2) C 3 dX0_followed_32 rfl rfl ?_
      refine z_icmp_le (pc := 33) C 41 dX0_followed_33 (by decide) (fun hc5 => ?_) (fun hc5 => ?_)
      · have hf := bb_t hf hc5
        refine z_lv [1, 2, 3, 4] rfl ?_
        exact B_X0_followed_41 C hR hr h R hk7 hf
      · have hf := bb_e hf hc5
        refine z_iload (pc := 36) C 0 dX0_followed_36 rfl ?_
        refine z_istore_n (pc := 38) (i := 2) (lv' := [(2, .int q4), (4, .int q4), (0, .ref (h 0)), (1, .int x1), (3, .int x3)]) C dX0_followed_38 rfl (by decide) rfl ?_
        refine z_iload_n (pc := 39) (i := 3) C 4 dX0_followed_39 rfl rfl ?_
        refine z_istore_n (pc := 40) (i := 1) (lv' := [(1, .int x3), (2, .int q4), (4, .int q4), (0, .ref (h 0)), (3, .int x3)]) C dX0_followed_40 rfl (by decide) rfl ?_
        refine z_lv [3, 0, 1, 4] rfl ?_
        exact B_X0_followed_41 C hR hr h R hk7 hf
theorem B_X0_followed_7 {X : bb_X} (C : bb_C X RX0 cX0_followed 5) (hR : bb_r X 4) (hr : X.meth.sig.returnType = (some .int)) (h : Nat → Nat) {z : Int32} {s0 : bb_O} (R : bb_R X (some (.int z)) (wX0 X.cs h s0)) : ∀ (n : Nat) (x1 : Int32) (x2 : Int32) (x3 : Int32), F_X0_followed_7 s0 n x1 x2 x3 = some z → bb_Z X 5 (wX0 X.cs h s0) 7 [(0, .ref (h 0)), (1, .int x1), (2, .int x2), (3, .int x3)] [] := by
  intro n
  induction n with
  | zero =>
    intro x1 x2 x3 hf
    cases hf
  | succ n ih =>
    intro x1 x2 x3 hf
    exact A_X0_followed_7 C hR hr h R  ih hf
noncomputable def F_X0_followed_0 (s0 : bb_O) : Option Int32 := F_X0_followed_7 s0 bb_N ((-4 : Int32)) ((0 : Int32)) ((0 : Int32))
set_option maxHeartbeats 4000000 in
set_option maxRecDepth 100000 in
theorem B_X0_followed_0 {X : bb_X} (C : bb_C X RX0 cX0_followed 5) (hR : bb_r X 4) (hr : X.meth.sig.returnType = (some .int)) (h : Nat → Nat) {z : Int32} {s0 : bb_O} (R : bb_R X (some (.int z)) (wX0 X.cs h s0))  (hf : F_X0_followed_0 s0 = some z) : bb_Z X 5 (wX0 X.cs h s0) 0 [(0, .ref (h 0))] [] := by
  refine z_bipush (pc := 0) C (-4 : Int32) dX0_followed_0 (by decide) ?_
  refine z_istore_n (pc := 2) (i := 1) (lv' := [(1, .int ((-4 : Int32))), (0, .ref (h 0))]) C dX0_followed_2 rfl (by decide) rfl ?_
  refine z_iconst (pc := 3) C (0 : Int32) dX0_followed_3 (by decide) ?_
  refine z_istore_n (pc := 4) (i := 2) (lv' := [(2, .int ((0 : Int32))), (1, .int ((-4 : Int32))), (0, .ref (h 0))]) C dX0_followed_4 rfl (by decide) rfl ?_
  refine z_iconst (pc := 5) C (0 : Int32) dX0_followed_5 (by decide) ?_
  refine z_istore_n (pc := 6) (i := 3) (lv' := [(3, .int ((0 : Int32))), (2, .int ((0 : Int32))), (1, .int ((-4 : Int32))), (0, .ref (h 0))]) C dX0_followed_6 rfl (by decide) rfl ?_
  refine z_lv [3, 2, 1, 0] rfl ?_
  exact B_X0_followed_7 C hR hr h R  bb_N _ _ _ hf
theorem c_X0_followed {l : Launch} {D : va_G} {cs : Nat → ClassId} (h : Nat → Nat) {s0 : bb_O} {z : Int32} (hf : F_X0_followed_0 s0 = some z) : bb_M l yX0_followed cX0_followed 5 (some .int) 4 D cs [.ref (h 0)] (some (.int z)) (wX0 cs h s0) (wX0 cs h s0) := bb_mg (by decide) rfl (Nat.le_of_ble_eq_true rfl) rfl (fun X hl hD hcs C hR hr R => by
  subst hl
  subst hD
  subst hcs
  exact B_X0_followed_0 C hR hr h R hf)
/-! X0_goesFirst: reads, level 4 -/
noncomputable def F_X0_goesFirst_13 (s0 : bb_O) : Option Int32 := some ((0 : Int32))
set_option maxHeartbeats 4000000 in
set_option maxRecDepth 100000 in
theorem B_X0_goesFirst_13 {X : bb_X} (C : bb_C X RX0 cX0_goesFirst 4) (hR : bb_r X 4) (hr : X.meth.sig.returnType = (some .boolean)) (h : Nat → Nat) {z : Int32} {s0 : bb_O} (R : bb_R X (some (.int z)) (wX0 X.cs h s0))  (hf : F_X0_goesFirst_13 s0 = some z) : bb_Z X 4 (wX0 X.cs h s0) 13 [] [] := by
  refine z_iconst (pc := 13) C (0 : Int32) dX0_goesFirst_13 (by decide) ?_
  obtain rfl := Option.some.inj hf
  exact z_zret (pc := 14) C hr (bb_nz (Or.inl rfl)) R dX0_goesFirst_14
noncomputable def F_X0_goesFirst_45 (s0 : bb_O) (y0 : Int32) : Option Int32 := bb_g (bb_z y0) (some y0)
set_option maxHeartbeats 4000000 in
set_option maxRecDepth 100000 in
theorem B_X0_goesFirst_45 {X : bb_X} (C : bb_C X RX0 cX0_goesFirst 4) (hR : bb_r X 4) (hr : X.meth.sig.returnType = (some .boolean)) (h : Nat → Nat) {z : Int32} {s0 : bb_O} (R : bb_R X (some (.int z)) (wX0 X.cs h s0)) {y0 : Int32} (hf : F_X0_goesFirst_45 s0 y0 = some z) : bb_Z X 4 (wX0 X.cs h s0) 45 [] [.int y0] := by
  obtain ⟨hz1, hf⟩ := bb_g_some hf
  obtain rfl := Option.some.inj hf
  exact z_zret (pc := 45) C hr (bb_nz hz1) R dX0_goesFirst_45
noncomputable def F_X0_goesFirst_40 (s0 : bb_O) : Option Int32 := F_X0_goesFirst_45 s0 ((1 : Int32))
set_option maxHeartbeats 4000000 in
set_option maxRecDepth 100000 in
theorem B_X0_goesFirst_40 {X : bb_X} (C : bb_C X RX0 cX0_goesFirst 4) (hR : bb_r X 4) (hr : X.meth.sig.returnType = (some .boolean)) (h : Nat → Nat) {z : Int32} {s0 : bb_O} (R : bb_R X (some (.int z)) (wX0 X.cs h s0))  (hf : F_X0_goesFirst_40 s0 = some z) : bb_Z X 4 (wX0 X.cs h s0) 40 [] [] := by
  refine z_iconst (pc := 40) C (1 : Int32) dX0_goesFirst_40 (by decide) ?_
  refine z_goto (pc := 41) C 45 dX0_goesFirst_41 (by decide) ?_
  exact B_X0_goesFirst_45 C hR hr h R  hf
noncomputable def F_X0_goesFirst_44 (s0 : bb_O) : Option Int32 := F_X0_goesFirst_45 s0 ((0 : Int32))
set_option maxHeartbeats 4000000 in
set_option maxRecDepth 100000 in
theorem B_X0_goesFirst_44 {X : bb_X} (C : bb_C X RX0 cX0_goesFirst 4) (hR : bb_r X 4) (hr : X.meth.sig.returnType = (some .boolean)) (h : Nat → Nat) {z : Int32} {s0 : bb_O} (R : bb_R X (some (.int z)) (wX0 X.cs h s0))  (hf : F_X0_goesFirst_44 s0 = some z) : bb_Z X 4 (wX0 X.cs h s0) 44 [] [] := by
  refine z_iconst (pc := 44) C (0 : Int32) dX0_goesFirst_44 (by decide) ?_
  exact B_X0_goesFirst_45 C hR hr h R  hf
noncomputable def F_X0_goesFirst_0 (s0 : bb_O) (x1 : Int32) (x2 : Int32) : Option Int32 := if x1 = x2 then (F_X0_goesFirst_13 s0) else ((F_X0_isFree_0 s0 x1).bind (fun q2 => if q2 = 0 then (F_X0_goesFirst_13 s0) else ((F_X0_loud_0 s0 x1).bind (fun q4 => (F_X0_loud_0 s0 x2).bind (fun q5 => if 0 < (q4 - q5) then (F_X0_goesFirst_40 s0) else (if (q4 - q5) = 0 then (if x2 ≤ x1 then (F_X0_goesFirst_44 s0) else (F_X0_goesFirst_40 s0)) else (F_X0_goesFirst_44 s0)))))))
set_option maxHeartbeats 4000000 in
set_option maxRecDepth 100000 in
theorem B_X0_goesFirst_0 {X : bb_X} (C : bb_C X RX0 cX0_goesFirst 4) (hR : bb_r X 4) (hr : X.meth.sig.returnType = (some .boolean)) (h : Nat → Nat) {z : Int32} {s0 : bb_O} (R : bb_R X (some (.int z)) (wX0 X.cs h s0)) {x1 : Int32} {x2 : Int32} (hf : F_X0_goesFirst_0 s0 x1 x2 = some z) : bb_Z X 4 (wX0 X.cs h s0) 0 [(0, .ref (h 0)), (1, .int x1), (2, .int x2)] [] := by
  refine z_iload_n (pc := 0) (i := 1) C 1 dX0_goesFirst_0 rfl rfl ?_
  refine z_iload_n (pc := 1) (i := 2) C 2 dX0_goesFirst_1 rfl rfl ?_
  refine z_icmp_eq (pc := 2) C 13 dX0_goesFirst_2 (by decide) (fun hc1 => ?_) (fun hc1 => ?_)
  · have hf := bb_t hf hc1
    refine z_lv [] rfl ?_
    exact B_X0_goesFirst_13 C hR hr h R  hf
  · have hf := bb_e hf hc1
    refine z_aload_n (pc := 5) (i := 0) C 0 dX0_goesFirst_5 rfl rfl ?_
    refine z_iload_n (pc := 6) (i := 1) C 1 dX0_goesFirst_6 rfl rfl ?_
    obtain ⟨q2, hq2, hf⟩ := bb_b_some hf
    refine z_callVi (pc := 7) (ci := 0) (q0 := 0) (As := [.int x1]) (rest := []) C (hR.le (by decide)) (c_X0_isFree h hq2) (bb_cut_self _ _) bv_X0_isFree bm_X0_80 rfl rfl rfl rfl (Nat.le_of_ble_eq_true rfl) dX0_goesFirst_7 ?_
    refine z_if_ne (pc := 10) C 15 dX0_goesFirst_10 (by decide) (fun hc3 => ?_) (fun hc3 => ?_)
    · have hf := bb_e hf hc3
      refine z_aload_n (pc := 15) (i := 0) C 0 dX0_goesFirst_15 rfl rfl ?_
      refine z_iload_n (pc := 16) (i := 1) C 1 dX0_goesFirst_16 rfl rfl ?_
      obtain ⟨q4, hq4, hf⟩ := bb_b_some hf
      refine z_callVi (pc := 17) (ci := 0) (q0 := 0) (As := [.int x1]) (rest := []) C (hR.le (by decide)) (c_X0_loud h hq4) (bb_cut_self _ _) bv_X0_loud bm_X0_84 rfl rfl rfl rfl (Nat.le_of_ble_eq_true rfl) dX0_goesFirst_17 ?_
      refine z_aload_n (pc := 20) (i := 0) C 0 dX0_goesFirst_20 rfl rfl ?_
      refine z_iload_n (pc := 21) (i := 2) C 2 dX0_goesFirst_21 rfl rfl ?_
      obtain ⟨q5, hq5, hf⟩ := bb_b_some hf
      refine z_callVi (pc := 22) (ci := 0) (q0 := 0) (As := [.int x2]) (rest := [.int q4]) C (hR.le (by decide)) (c_X0_loud h hq5) (bb_cut_self _ _) bv_X0_loud bm_X0_84 rfl rfl rfl rfl (Nat.le_of_ble_eq_true rfl) dX0_goesFirst_22 ?_
      refine z_isub (pc := 25) C dX0_goesFirst_25 ?_
      refine z_istore_n (pc := 26) (i := 3) (lv' := [(3, .int (q4 - q5)), (0, .ref (h 0)), (1, .int x1), (2, .int x2)]) C dX0_goesFirst_26 rfl (by decide) rfl ?_
      refine z_iload_n (pc := 27) (i := 3) C 0 dX0_goesFirst_27 rfl rfl ?_
      refine z_if_gt (pc := 28) C 40 dX0_goesFirst_28 (by decide) (fun hc6 => ?_) (fun hc6 => ?_)
      · have hf := bb_t hf hc6
        refine z_lv [] rfl ?_
        exact B_X0_goesFirst_40 C hR hr h R  hf
      · have hf := bb_e hf hc6
        refine z_iload_n (pc := 31) (i := 3) C 0 dX0_goesFirst_31 rfl rfl ?_
        refine z_if_ne (pc := 32) C 44 dX0_goesFirst_32 (by decide) (fun hc7 => ?_) (fun hc7 => ?_)
        · have hf := bb_e hf hc7
          refine z_lv [] rfl ?_
          exact B_X0_goesFirst_44 C hR hr h R  hf
        · have hf := bb_t hf hc7
          refine z_iload_n (pc := 35) (i := 1) C 2 dX0_goesFirst_35 rfl rfl ?_
          refine z_iload_n (pc := 36) (i := 2) C 3 dX0_goesFirst_36 rfl rfl ?_
          refine z_icmp_ge (pc := 37) C 44 dX0_goesFirst_37 (by decide) (fun hc8 => ?_) (fun hc8 => ?_)
          · have hf := bb_t hf hc8
            refine z_lv [] rfl ?_
            exact B_X0_goesFirst_44 C hR hr h R  hf
          · have hf := bb_e hf hc8
            refine z_lv [] rfl ?_
            exact B_X0_goesFirst_40 C hR hr h R  hf
    · have hf := bb_t hf hc3
      refine z_lv [] rfl ?_
      exact B_X0_goesFirst_13 C hR hr h R  hf
theorem c_X0_goesFirst {l : Launch} {D : va_G} {cs : Nat → ClassId} (h : Nat → Nat) {s0 : bb_O} {x1 : Int32} {x2 : Int32} {z : Int32} (hf : F_X0_goesFirst_0 s0 x1 x2 = some z) : bb_M l yX0_goesFirst cX0_goesFirst 4 (some .boolean) 4 D cs [.ref (h 0), .int x1, .int x2] (some (.int z)) (wX0 cs h s0) (wX0 cs h s0) := bb_mg (by decide) rfl (Nat.le_of_ble_eq_true rfl) rfl (fun X hl hD hcs C hR hr R => by
  subst hl
  subst hD
  subst hcs
  exact B_X0_goesFirst_0 C hR hr h R hf)
/-! X0_feel: reads, level 1 -/
noncomputable def F_X0_feel_0 (s0 : bb_O) (x1 : Int32) : Option Int32 := bb_g (vp_in x1 6) (bb_g (vp_in x1 6) (some ((s0.2.1 12 x1.toNatClampNeg) ^^^ (s0.2.1 13 x1.toNatClampNeg))))
set_option maxHeartbeats 4000000 in
set_option maxRecDepth 100000 in
theorem B_X0_feel_0 {X : bb_X} (C : bb_C X RX0 cX0_feel 2) (hR : bb_r X 1) (hr : X.meth.sig.returnType = (some .int)) (h : Nat → Nat) {z : Int32} {s0 : bb_O} (R : bb_R X (some (.int z)) (wX0 X.cs h s0)) {x1 : Int32} (hf : F_X0_feel_0 s0 x1 = some z) : bb_Z X 2 (wX0 X.cs h s0) 0 [(0, .ref (h 0)), (1, .int x1)] [] := by
  refine z_aload_n (pc := 0) (i := 0) C 0 dX0_feel_0 rfl rfl ?_
  refine z_get (pc := 1) (ci := 0) C (.ref (h 13)) bi_X0 rfl 0 12 (by decide) rfl bf_X0_31 rfl rfl dX0_feel_1 ?_
  refine z_iload_n (pc := 4) (i := 1) C 1 dX0_feel_4 rfl rfl ?_
  obtain ⟨hv1, hf⟩ := bb_g_some hf
  refine z_iald (pc := 5) C 4 0 (x1.toNatClampNeg) rfl rfl hv1 rfl dX0_feel_5 ?_
  refine z_aload_n (pc := 6) (i := 0) C 0 dX0_feel_6 rfl rfl ?_
  refine z_get (pc := 7) (ci := 0) C (.ref (h 14)) bi_X0 rfl 0 13 (by decide) rfl bf_X0_34 rfl rfl dX0_feel_7 ?_
  refine z_iload_n (pc := 10) (i := 1) C 1 dX0_feel_10 rfl rfl ?_
  obtain ⟨hv2, hf⟩ := bb_g_some hf
  refine z_iald (pc := 11) C 5 0 (x1.toNatClampNeg) rfl rfl hv2 rfl dX0_feel_11 ?_
  refine z_ixor (pc := 12) C dX0_feel_12 ?_
  obtain rfl := Option.some.inj hf
  exact z_iret (pc := 13) C hr R dX0_feel_13
theorem c_X0_feel {l : Launch} {D : va_G} {cs : Nat → ClassId} (h : Nat → Nat) {s0 : bb_O} {x1 : Int32} {z : Int32} (hf : F_X0_feel_0 s0 x1 = some z) : bb_M l yX0_feel cX0_feel 2 (some .int) 1 D cs [.ref (h 0), .int x1] (some (.int z)) (wX0 cs h s0) (wX0 cs h s0) := bb_mg (by decide) rfl (Nat.le_of_ble_eq_true rfl) rfl (fun X hl hD hcs C hR hr R => by
  subst hl
  subst hD
  subst hcs
  exact B_X0_feel_0 C hR hr h R hf)
/-! J6_bitCount_0f7a4: reads, level 1 -/
noncomputable def F_J6_bitCount_0f7a4_48 (x0 : Int32) : Option Int32 := some (x0 &&& ((63 : Int32)))
set_option maxHeartbeats 4000000 in
set_option maxRecDepth 100000 in
theorem B_J6_bitCount_0f7a4_48 {X : bb_X} (C : bb_C X RJ6 cJ6_bitCount_0f7a4 1) (hR : bb_r X 1) (hr : X.meth.sig.returnType = (some .int)) {z : Int32} (R : bb_R X (some (.int z)) ([])) {x0 : Int32} (hf : F_J6_bitCount_0f7a4_48 x0 = some z) : bb_Z X 1 ([]) 48 [(0, .int x0)] [] := by
  refine z_iload_n (pc := 48) (i := 0) C 0 dJ6_bitCount_0f7a4_48 rfl rfl ?_
  refine z_bipush (pc := 49) C (63 : Int32) dJ6_bitCount_0f7a4_49 (by decide) ?_
  refine z_iand (pc := 51) C dJ6_bitCount_0f7a4_51 ?_
  obtain rfl := Option.some.inj hf
  exact z_iret (pc := 52) C hr R dJ6_bitCount_0f7a4_52
noncomputable def F_J6_bitCount_0f7a4_41 (x0 : Int32) : Option Int32 := F_J6_bitCount_0f7a4_48 (x0 + ((x0.toUInt32 >>> (((16 : Int32)).toUInt32 &&& Int32.toUInt32 31)).toInt32))
set_option maxHeartbeats 4000000 in
set_option maxRecDepth 100000 in
theorem B_J6_bitCount_0f7a4_41 {X : bb_X} (C : bb_C X RJ6 cJ6_bitCount_0f7a4 1) (hR : bb_r X 1) (hr : X.meth.sig.returnType = (some .int)) {z : Int32} (R : bb_R X (some (.int z)) ([])) {x0 : Int32} (hf : F_J6_bitCount_0f7a4_41 x0 = some z) : bb_Z X 1 ([]) 41 [(0, .int x0)] [] := by
  refine z_iload_n (pc := 41) (i := 0) C 0 dJ6_bitCount_0f7a4_41 rfl rfl ?_
  refine z_iload_n (pc := 42) (i := 0) C 0 dJ6_bitCount_0f7a4_42 rfl rfl ?_
  refine z_bipush (pc := 43) C (16 : Int32) dJ6_bitCount_0f7a4_43 (by decide) ?_
  refine z_iushr (pc := 45) C dJ6_bitCount_0f7a4_45 ?_
  refine z_iadd (pc := 46) C dJ6_bitCount_0f7a4_46 ?_
  refine z_istore_n (pc := 47) (i := 0) (lv' := [(0, .int (x0 + ((x0.toUInt32 >>> (((16 : Int32)).toUInt32 &&& Int32.toUInt32 31)).toInt32)))]) C dJ6_bitCount_0f7a4_47 rfl (by decide) rfl ?_
  exact B_J6_bitCount_0f7a4_48 C hR hr  R  hf
noncomputable def F_J6_bitCount_0f7a4_34 (x0 : Int32) : Option Int32 := F_J6_bitCount_0f7a4_41 (x0 + ((x0.toUInt32 >>> (((8 : Int32)).toUInt32 &&& Int32.toUInt32 31)).toInt32))
set_option maxHeartbeats 4000000 in
set_option maxRecDepth 100000 in
theorem B_J6_bitCount_0f7a4_34 {X : bb_X} (C : bb_C X RJ6 cJ6_bitCount_0f7a4 1) (hR : bb_r X 1) (hr : X.meth.sig.returnType = (some .int)) {z : Int32} (R : bb_R X (some (.int z)) ([])) {x0 : Int32} (hf : F_J6_bitCount_0f7a4_34 x0 = some z) : bb_Z X 1 ([]) 34 [(0, .int x0)] [] := by
  refine z_iload_n (pc := 34) (i := 0) C 0 dJ6_bitCount_0f7a4_34 rfl rfl ?_
  refine z_iload_n (pc := 35) (i := 0) C 0 dJ6_bitCount_0f7a4_35 rfl rfl ?_
  refine z_bipush (pc := 36) C (8 : Int32) dJ6_bitCount_0f7a4_36 (by decide) ?_
  refine z_iushr (pc := 38) C dJ6_bitCount_0f7a4_38 ?_
  refine z_iadd (pc := 39) C dJ6_bitCount_0f7a4_39 ?_
  refine z_istore_n (pc := 40) (i := 0) (lv' := [(0, .int (x0 + ((x0.toUInt32 >>> (((8 : Int32)).toUInt32 &&& Int32.toUInt32 31)).toInt32)))]) C dJ6_bitCount_0f7a4_40 rfl (by decide) rfl ?_
  exact B_J6_bitCount_0f7a4_41 C hR hr  R  hf
noncomputable def F_J6_bitCount_0f7a4_24 (x0 : Int32) : Option Int32 := F_J6_bitCount_0f7a4_34 ((x0 + ((x0.toUInt32 >>> (((4 : Int32)).toUInt32 &&& Int32.toUInt32 31)).toInt32)) &&& ((252645135 : Int32)))
set_option maxHeartbeats 4000000 in
set_option maxRecDepth 100000 in
theorem B_J6_bitCount_0f7a4_24 {X : bb_X} (C : bb_C X RJ6 cJ6_bitCount_0f7a4 1) (hR : bb_r X 1) (hr : X.meth.sig.returnType = (some .int)) {z : Int32} (R : bb_R X (some (.int z)) ([])) {x0 : Int32} (hf : F_J6_bitCount_0f7a4_24 x0 = some z) : bb_Z X 1 ([]) 24 [(0, .int x0)] [] := by
  refine z_iload_n (pc := 24) (i := 0) C 0 dJ6_bitCount_0f7a4_24 rfl rfl ?_
  refine z_iload_n (pc := 25) (i := 0) C 0 dJ6_bitCount_0f7a4_25 rfl rfl ?_
  refine z_iconst (pc := 26) C (4 : Int32) dJ6_bitCount_0f7a4_26 (by decide) ?_
  refine z_iushr (pc := 27) C dJ6_bitCount_0f7a4_27 ?_
  refine z_iadd (pc := 28) C dJ6_bitCount_0f7a4_28 ?_
  refine z_ldc_w (pc := 29) C bk_J6_267 dJ6_bitCount_0f7a4_29 ?_
  refine z_iand (pc := 32) C dJ6_bitCount_0f7a4_32 ?_
  refine z_istore_n (pc := 33) (i := 0) (lv' := [(0, .int ((x0 + ((x0.toUInt32 >>> (((4 : Int32)).toUInt32 &&& Int32.toUInt32 31)).toInt32)) &&& ((252645135 : Int32))))]) C dJ6_bitCount_0f7a4_33 rfl (by decide) rfl ?_
  exact B_J6_bitCount_0f7a4_34 C hR hr  R  hf
noncomputable def F_J6_bitCount_0f7a4_10 (x0 : Int32) : Option Int32 := F_J6_bitCount_0f7a4_24 ((x0 &&& ((858993459 : Int32))) + (((x0.toUInt32 >>> (((2 : Int32)).toUInt32 &&& Int32.toUInt32 31)).toInt32) &&& ((858993459 : Int32))))
set_option maxHeartbeats 4000000 in
set_option maxRecDepth 100000 in
theorem B_J6_bitCount_0f7a4_10 {X : bb_X} (C : bb_C X RJ6 cJ6_bitCount_0f7a4 1) (hR : bb_r X 1) (hr : X.meth.sig.returnType = (some .int)) {z : Int32} (R : bb_R X (some (.int z)) ([])) {x0 : Int32} (hf : F_J6_bitCount_0f7a4_10 x0 = some z) : bb_Z X 1 ([]) 10 [(0, .int x0)] [] := by
  refine z_iload_n (pc := 10) (i := 0) C 0 dJ6_bitCount_0f7a4_10 rfl rfl ?_
  refine z_ldc_w (pc := 11) C bk_J6_266 dJ6_bitCount_0f7a4_11 ?_
  refine z_iand (pc := 14) C dJ6_bitCount_0f7a4_14 ?_
  refine z_iload_n (pc := 15) (i := 0) C 0 dJ6_bitCount_0f7a4_15 rfl rfl ?_
  refine z_iconst (pc := 16) C (2 : Int32) dJ6_bitCount_0f7a4_16 (by decide) ?_
  refine z_iushr (pc := 17) C dJ6_bitCount_0f7a4_17 ?_
  refine z_ldc_w (pc := 18) C bk_J6_266 dJ6_bitCount_0f7a4_18 ?_
  refine z_iand (pc := 21) C dJ6_bitCount_0f7a4_21 ?_
  refine z_iadd (pc := 22) C dJ6_bitCount_0f7a4_22 ?_
  refine z_istore_n (pc := 23) (i := 0) (lv' := [(0, .int ((x0 &&& ((858993459 : Int32))) + (((x0.toUInt32 >>> (((2 : Int32)).toUInt32 &&& Int32.toUInt32 31)).toInt32) &&& ((858993459 : Int32)))))]) C dJ6_bitCount_0f7a4_23 rfl (by decide) rfl ?_
  exact B_J6_bitCount_0f7a4_24 C hR hr  R  hf
noncomputable def F_J6_bitCount_0f7a4_0 (x0 : Int32) : Option Int32 := F_J6_bitCount_0f7a4_10 (x0 - (((x0.toUInt32 >>> (((1 : Int32)).toUInt32 &&& Int32.toUInt32 31)).toInt32) &&& ((1431655765 : Int32))))
set_option maxHeartbeats 4000000 in
set_option maxRecDepth 100000 in
theorem B_J6_bitCount_0f7a4_0 {X : bb_X} (C : bb_C X RJ6 cJ6_bitCount_0f7a4 1) (hR : bb_r X 1) (hr : X.meth.sig.returnType = (some .int)) {z : Int32} (R : bb_R X (some (.int z)) ([])) {x0 : Int32} (hf : F_J6_bitCount_0f7a4_0 x0 = some z) : bb_Z X 1 ([]) 0 [(0, .int x0)] [] := by
  refine z_iload_n (pc := 0) (i := 0) C 0 dJ6_bitCount_0f7a4_0 rfl rfl ?_
  refine z_iload_n (pc := 1) (i := 0) C 0 dJ6_bitCount_0f7a4_1 rfl rfl ?_
  refine z_iconst (pc := 2) C (1 : Int32) dJ6_bitCount_0f7a4_2 (by decide) ?_
  refine z_iushr (pc := 3) C dJ6_bitCount_0f7a4_3 ?_
  refine z_ldc_w (pc := 4) C bk_J6_265 dJ6_bitCount_0f7a4_4 ?_
  refine z_iand (pc := 7) C dJ6_bitCount_0f7a4_7 ?_
  refine z_isub (pc := 8) C dJ6_bitCount_0f7a4_8 ?_
  refine z_istore_n (pc := 9) (i := 0) (lv' := [(0, .int (x0 - (((x0.toUInt32 >>> (((1 : Int32)).toUInt32 &&& Int32.toUInt32 31)).toInt32) &&& ((1431655765 : Int32)))))]) C dJ6_bitCount_0f7a4_9 rfl (by decide) rfl ?_
  exact B_J6_bitCount_0f7a4_10 C hR hr  R  hf
theorem c_J6_bitCount_0f7a4 {l : Launch} {D : va_G} {cs : Nat → ClassId} {x0 : Int32} {z : Int32} (hf : F_J6_bitCount_0f7a4_0 x0 = some z) : bb_M l yJ6_bitCount_0f7a4 cJ6_bitCount_0f7a4 1 (some .int) 1 D cs [.int x0] (some (.int z)) ([]) ([]) := bb_mg (by decide) rfl (Nat.le_of_ble_eq_true rfl) rfl (fun X hl hD hcs C hR hr R => by
  subst hl
  subst hD
  subst hcs
  exact B_J6_bitCount_0f7a4_0 C hR hr  R hf)
/-! X0_namedBy: reads, level 2 -/
noncomputable def F_X0_namedBy_44 (s0 : bb_O) (k9 : Int32 → Int32 → Int32 → Int32 → Option Int32) (x1 : Int32) (x2 : Int32) (x3 : Int32) (x4 : Int32) : Option Int32 := k9 x1 x2 x3 (x4 + 1)
set_option maxHeartbeats 4000000 in
set_option maxRecDepth 100000 in
theorem B_X0_namedBy_44 {X : bb_X} (C : bb_C X RX0 cX0_namedBy 6) (hR : bb_r X 2) (hr : X.meth.sig.returnType = (some .int)) (h : Nat → Nat) {z : Int32} {s0 : bb_O} (R : bb_R X (some (.int z)) (wX0 X.cs h s0)) {k9 : Int32 → Int32 → Int32 → Int32 → Option Int32} (hk9 : ∀ (x1 : Int32) (x2 : Int32) (x3 : Int32) (x4 : Int32), k9 x1 x2 x3 x4 = some z → bb_Z X 6 (wX0 X.cs h s0) 9 [(0, .ref (h 0)), (1, .int x1), (2, .int x2), (3, .int x3), (4, .int x4)] []) {x1 : Int32} {x2 : Int32} {x3 : Int32} {x4 : Int32} (hf : F_X0_namedBy_44 s0 k9 x1 x2 x3 x4 = some z) : bb_Z X 6 (wX0 X.cs h s0) 44 [(0, .ref (h 0)), (1, .int x1), (2, .int x2), (3, .int x3), (4, .int x4)] [] := by
  refine z_iinc (pc := 44) (lv' := [(4, .int (x4 + 1)), (0, .ref (h 0)), (1, .int x1), (2, .int x2), (3, .int x3)]) C (x4 + 1) 4 dX0_namedBy_44 rfl rfl (by decide) rfl ?_
  refine z_goto (pc := 47) C 9 dX0_namedBy_47 (by decide) ?_
  refine z_lv [1, 2, 3, 4, 0] rfl ?_
  exact hk9 _ _ _ _ hf
noncomputable def G_X0_namedBy_9 (s0 : bb_O) (k9 : Int32 → Int32 → Int32 → Int32 → Option Int32) (x1 : Int32) (x2 : Int32) (x3 : Int32) (x4 : Int32) : Option Int32 := if (s0.1 2) ≤ x4 then (some x2) else (bb_g (vp_in x4 6) ((F_J6_bitCount_0f7a4_0 ((s0.2.1 12 x4.toNatClampNeg) ^^^ x1)).bind (fun q3 => if x3 ≤ q3 then (F_X0_namedBy_44 s0 k9 x1 x2 x3 x4) else (F_X0_namedBy_44 s0 k9 x1 x4 q3 x4))))
noncomputable def F_X0_namedBy_9 (s0 : bb_O) : Nat → Int32 → Int32 → Int32 → Int32 → Option Int32
  | 0, _, _, _, _ => none
  | n + 1, x1, x2, x3, x4 => G_X0_namedBy_9 s0 (F_X0_namedBy_9 s0 n) x1 x2 x3 x4
set_option maxHeartbeats 4000000 in
set_option maxRecDepth 100000 in
theorem A_X0_namedBy_9 {X : bb_X} (C : bb_C X RX0 cX0_namedBy 6) (hR : bb_r X 2) (hr : X.meth.sig.returnType = (some .int)) (h : Nat → Nat) {z : Int32} {s0 : bb_O} (R : bb_R X (some (.int z)) (wX0 X.cs h s0)) {k9 : Int32 → Int32 → Int32 → Int32 → Option Int32} (hk9 : ∀ (x1 : Int32) (x2 : Int32) (x3 : Int32) (x4 : Int32), k9 x1 x2 x3 x4 = some z → bb_Z X 6 (wX0 X.cs h s0) 9 [(0, .ref (h 0)), (1, .int x1), (2, .int x2), (3, .int x3), (4, .int x4)] []) {x1 : Int32} {x2 : Int32} {x3 : Int32} {x4 : Int32} (hf : G_X0_namedBy_9 s0 k9 x1 x2 x3 x4 = some z) : bb_Z X 6 (wX0 X.cs h s0) 9 [(0, .ref (h 0)), (1, .int x1), (2, .int x2), (3, .int x3), (4, .int x4)] [] := by
  refine z_iload (pc := 9) C 4 dX0_namedBy_9 rfl ?_
  refine z_aload_n (pc := 11) (i := 0) C 0 dX0_namedBy_11 rfl rfl ?_
  refine z_get (pc := 12) (ci := 0) C (.int (s0.1 2)) bi_X0 rfl 0 2 (by decide) rfl bf_X0_37 rfl rfl dX0_namedBy_12 ?_
  refine z_icmp_ge (pc := 15) C 50 dX0_namedBy_15 (by decide) (fun hc1 => ?_) (fun hc1 => ?_)
  · have hf := bb_t hf hc1
    refine z_iload_n (pc := 50) (i := 2) C 2 dX0_namedBy_50 rfl rfl ?_
    obtain rfl := Option.some.inj hf
    exact z_iret (pc := 51) C hr R dX0_namedBy_51
  · have hf := bb_e hf hc1
    refine z_aload_n (pc := 18) (i := 0) C 0 dX0_namedBy_18 rfl rfl ?_
    refine z_get (pc := 19) (ci := 0) C (.ref (h 13)) bi_X0 rfl 0 12 (by decide) rfl bf_X0_31 rfl rfl dX0_namedBy_19 ?_
    refine z_iload (pc := 22) C 4 dX0_namedBy_22 rfl ?_
    obtain ⟨hv2, hf⟩ := bb_g_some hf
    refine z_iald (pc := 24) C 4 0 (x4.toNatClampNeg) rfl rfl hv2 rfl dX0_namedBy_24 ?_
    refine z_iload_n (pc := 25) (i := 1) C 1 dX0_namedBy_25 rfl rfl ?_
    refine z_ixor (pc := 26) C dX0_namedBy_26 ?_
    obtain ⟨q3, hq3, hf⟩ := bb_b_some hf
    refine z_callSi (pc := 27) (As := [.int ((s0.2.1 12 x4.toNatClampNeg) ^^^ x1)]) (rest := []) C (hR.le (by decide)) (c_J6_bitCount_0f7a4 hq3) (bb_cut_none _) bv_J6_bitCount_0f7a4 bm_X0_87 rfl rfl (Nat.le_of_ble_eq_true rfl) dX0_namedBy_27 ?_
    refine z_istore (pc := 30) (lv' := [(5, .int q3), (0, .ref (h 0)), (1, .int x1), (2, .int x2), (3, .int x3), (4, .int x4)]) C dX0_namedBy_30 (by decide) rfl ?_
    refine z_iload (pc := 32) C 0 dX0_namedBy_32 rfl ?_
    refine z_iload_n (pc := 34) (i := 3) C 4 dX0_namedBy_34 rfl rfl ?_
    refine z_icmp_ge (pc := 35) C 44 dX0_namedBy_35 (by decide) (fun hc4 => ?_) (fun hc4 => ?_)
    · have hf := bb_t hf hc4
      refine z_lv [1, 2, 3, 4, 5] rfl ?_
      exact B_X0_namedBy_44 C hR hr h R hk9 hf
    · have hf := bb_e hf hc4
      refine z_iload (pc := 38) C 0 dX0_namedBy_38 rfl ?_
      refine z_istore_n (pc := 40) (i := 3) (lv' := [(3, .int q3), (5, .int q3), (0, .ref (h 0)), (1, .int x1), (2, .int x2), (4, .int x4)]) C dX0_namedBy_40 rfl (by decide) rfl ?_
      refine z_iload (pc := 41) C 5 dX0_namedBy_41 rfl ?_
      refine z_istore_n (pc := 43) (i := 2) (lv' := [(2, .int x4), (3, .int q3), (5, .int q3), (0, .ref (h 0)), (1, .int x1), (4, .int x4)]) C dX0_namedBy_43 rfl (by decide) rfl ?_
      refine z_lv [3, 4, 0, 1, 5] rfl ?_
      exact B_X0_namedBy_44 C hR hr h R hk9 hf
theorem B_X0_namedBy_9 {X : bb_X} (C : bb_C X RX0 cX0_namedBy 6) (hR : bb_r X 2) (hr : X.meth.sig.returnType = (some .int)) (h : Nat → Nat) {z : Int32} {s0 : bb_O} (R : bb_R X (some (.int z)) (wX0 X.cs h s0)) : ∀ (n : Nat) (x1 : Int32) (x2 : Int32) (x3 : Int32) (x4 : Int32), F_X0_namedBy_9 s0 n x1 x2 x3 x4 = some z → bb_Z X 6 (wX0 X.cs h s0) 9 [(0, .ref (h 0)), (1, .int x1), (2, .int x2), (3, .int x3), (4, .int x4)] [] := by
  intro n
  induction n with
  | zero =>
    intro x1 x2 x3 x4 hf
    cases hf
  | succ n ih =>
    intro x1 x2 x3 x4 hf
    exact A_X0_namedBy_9 C hR hr h R  ih hf
noncomputable def F_X0_namedBy_0 (s0 : bb_O) (x1 : Int32) : Option Int32 := F_X0_namedBy_9 s0 bb_N x1 ((-4 : Int32)) ((7 : Int32)) ((0 : Int32))
set_option maxHeartbeats 4000000 in
set_option maxRecDepth 100000 in
theorem B_X0_namedBy_0 {X : bb_X} (C : bb_C X RX0 cX0_namedBy 6) (hR : bb_r X 2) (hr : X.meth.sig.returnType = (some .int)) (h : Nat → Nat) {z : Int32} {s0 : bb_O} (R : bb_R X (some (.int z)) (wX0 X.cs h s0)) {x1 : Int32} (hf : F_X0_namedBy_0 s0 x1 = some z) : bb_Z X 6 (wX0 X.cs h s0) 0 [(0, .ref (h 0)), (1, .int x1)] [] := by
  refine z_bipush (pc := 0) C (-4 : Int32) dX0_namedBy_0 (by decide) ?_
  refine z_istore_n (pc := 2) (i := 2) (lv' := [(2, .int ((-4 : Int32))), (0, .ref (h 0)), (1, .int x1)]) C dX0_namedBy_2 rfl (by decide) rfl ?_
  refine z_bipush (pc := 3) C (7 : Int32) dX0_namedBy_3 (by decide) ?_
  refine z_istore_n (pc := 5) (i := 3) (lv' := [(3, .int ((7 : Int32))), (2, .int ((-4 : Int32))), (0, .ref (h 0)), (1, .int x1)]) C dX0_namedBy_5 rfl (by decide) rfl ?_
  refine z_iconst (pc := 6) C (0 : Int32) dX0_namedBy_6 (by decide) ?_
  refine z_istore (pc := 7) (lv' := [(4, .int ((0 : Int32))), (3, .int ((7 : Int32))), (2, .int ((-4 : Int32))), (0, .ref (h 0)), (1, .int x1)]) C dX0_namedBy_7 (by decide) rfl ?_
  refine z_lv [3, 4, 2, 1, 0] rfl ?_
  exact B_X0_namedBy_9 C hR hr h R  bb_N _ _ _ _ hf
theorem c_X0_namedBy {l : Launch} {D : va_G} {cs : Nat → ClassId} (h : Nat → Nat) {s0 : bb_O} {x1 : Int32} {z : Int32} (hf : F_X0_namedBy_0 s0 x1 = some z) : bb_M l yX0_namedBy cX0_namedBy 6 (some .int) 2 D cs [.ref (h 0), .int x1] (some (.int z)) (wX0 cs h s0) (wX0 cs h s0) := bb_mg (by decide) rfl (Nat.le_of_ble_eq_true rfl) rfl (fun X hl hD hcs C hR hr R => by
  subst hl
  subst hD
  subst hcs
  exact B_X0_namedBy_0 C hR hr h R hf)
/-! J6_compare_7cf53: reads, level 1 -/
noncomputable def F_J6_compare_7cf53_19 (y0 : Int32) : Option Int32 := some y0
set_option maxHeartbeats 4000000 in
set_option maxRecDepth 100000 in
theorem B_J6_compare_7cf53_19 {X : bb_X} (C : bb_C X RJ6 cJ6_compare_7cf53 2) (hR : bb_r X 1) (hr : X.meth.sig.returnType = (some .int)) {z : Int32} (R : bb_R X (some (.int z)) ([])) {y0 : Int32} (hf : F_J6_compare_7cf53_19 y0 = some z) : bb_Z X 2 ([]) 19 [] [.int y0] := by
  obtain rfl := Option.some.inj hf
  exact z_iret (pc := 19) C hr R dJ6_compare_7cf53_19
noncomputable def F_J6_compare_7cf53_0 (x0 : Int32) (x1 : Int32) : Option Int32 := if x1 ≤ x0 then (if x0 = x1 then (F_J6_compare_7cf53_19 ((0 : Int32))) else (F_J6_compare_7cf53_19 ((1 : Int32)))) else (F_J6_compare_7cf53_19 ((-1 : Int32)))
set_option maxHeartbeats 4000000 in
set_option maxRecDepth 100000 in
theorem B_J6_compare_7cf53_0 {X : bb_X} (C : bb_C X RJ6 cJ6_compare_7cf53 2) (hR : bb_r X 1) (hr : X.meth.sig.returnType = (some .int)) {z : Int32} (R : bb_R X (some (.int z)) ([])) {x0 : Int32} {x1 : Int32} (hf : F_J6_compare_7cf53_0 x0 x1 = some z) : bb_Z X 2 ([]) 0 [(0, .int x0), (1, .int x1)] [] := by
  refine z_iload_n (pc := 0) (i := 0) C 0 dJ6_compare_7cf53_0 rfl rfl ?_
  refine z_iload_n (pc := 1) (i := 1) C 1 dJ6_compare_7cf53_1 rfl rfl ?_
  refine z_icmp_ge (pc := 2) C 9 dJ6_compare_7cf53_2 (by decide) (fun hc1 => ?_) (fun hc1 => ?_)
  · have hf := bb_t hf hc1
    refine z_iload_n (pc := 9) (i := 0) C 0 dJ6_compare_7cf53_9 rfl rfl ?_
    refine z_iload_n (pc := 10) (i := 1) C 1 dJ6_compare_7cf53_10 rfl rfl ?_
    refine z_icmp_ne (pc := 11) C 18 dJ6_compare_7cf53_11 (by decide) (fun hc2 => ?_) (fun hc2 => ?_)
    · have hf := bb_e hf hc2
      refine z_iconst (pc := 18) C (1 : Int32) dJ6_compare_7cf53_18 (by decide) ?_
      refine z_lv [] rfl ?_
      exact B_J6_compare_7cf53_19 C hR hr  R  hf
    · have hf := bb_t hf hc2
      refine z_iconst (pc := 14) C (0 : Int32) dJ6_compare_7cf53_14 (by decide) ?_
      refine z_goto (pc := 15) C 19 dJ6_compare_7cf53_15 (by decide) ?_
      refine z_lv [] rfl ?_
      exact B_J6_compare_7cf53_19 C hR hr  R  hf
  · have hf := bb_e hf hc1
    refine z_iconst (pc := 5) C (-1 : Int32) dJ6_compare_7cf53_5 (by decide) ?_
    refine z_goto (pc := 6) C 19 dJ6_compare_7cf53_6 (by decide) ?_
    refine z_lv [] rfl ?_
    exact B_J6_compare_7cf53_19 C hR hr  R  hf
theorem c_J6_compare_7cf53 {l : Launch} {D : va_G} {cs : Nat → ClassId} {x0 : Int32} {x1 : Int32} {z : Int32} (hf : F_J6_compare_7cf53_0 x0 x1 = some z) : bb_M l yJ6_compare_7cf53 cJ6_compare_7cf53 2 (some .int) 1 D cs [.int x0, .int x1] (some (.int z)) ([]) ([]) := bb_mg (by decide) rfl (Nat.le_of_ble_eq_true rfl) rfl (fun X hl hD hcs C hR hr R => by
  subst hl
  subst hD
  subst hcs
  exact B_J6_compare_7cf53_0 C hR hr  R hf)
/-! X0_nearerTo: reads, level 2 -/
noncomputable def F_X0_nearerTo_44 (s0 : bb_O) (y0 : Int32) : Option Int32 := some y0
set_option maxHeartbeats 4000000 in
set_option maxRecDepth 100000 in
theorem B_X0_nearerTo_44 {X : bb_X} (C : bb_C X RX0 cX0_nearerTo 3) (hR : bb_r X 2) (hr : X.meth.sig.returnType = (some .int)) (h : Nat → Nat) {z : Int32} {s0 : bb_O} (R : bb_R X (some (.int z)) (wX0 X.cs h s0)) {y0 : Int32} (hf : F_X0_nearerTo_44 s0 y0 = some z) : bb_Z X 3 (wX0 X.cs h s0) 44 [] [.int y0] := by
  obtain rfl := Option.some.inj hf
  exact z_iret (pc := 44) C hr R dX0_nearerTo_44
noncomputable def F_X0_nearerTo_0 (s0 : bb_O) (x1 : Int32) : Option Int32 := (F_X0_rowOf_0 s0 x1).bind (fun q1 => (F_X0_rowOf_0 s0 (s0.1 3)).bind (fun q2 => if (q1 - q2) = 0 then ((F_J6_compare_7cf53_0 x1 (s0.1 3)).bind (fun q4 => some ((s0.1 3) + q4))) else (if (q1 - q2) ≤ 0 then (F_X0_nearerTo_44 s0 ((s0.1 3) - (s0.1 1))) else (F_X0_nearerTo_44 s0 ((s0.1 3) + (s0.1 1))))))
set_option maxHeartbeats 4000000 in
set_option maxRecDepth 100000 in
theorem B_X0_nearerTo_0 {X : bb_X} (C : bb_C X RX0 cX0_nearerTo 3) (hR : bb_r X 2) (hr : X.meth.sig.returnType = (some .int)) (h : Nat → Nat) {z : Int32} {s0 : bb_O} (R : bb_R X (some (.int z)) (wX0 X.cs h s0)) {x1 : Int32} (hf : F_X0_nearerTo_0 s0 x1 = some z) : bb_Z X 3 (wX0 X.cs h s0) 0 [(0, .ref (h 0)), (1, .int x1)] [] := by
  refine z_aload_n (pc := 0) (i := 0) C 0 dX0_nearerTo_0 rfl rfl ?_
  refine z_iload_n (pc := 1) (i := 1) C 1 dX0_nearerTo_1 rfl rfl ?_
  obtain ⟨q1, hq1, hf⟩ := bb_b_some hf
  refine z_callVi (pc := 2) (ci := 0) (q0 := 0) (As := [.int x1]) (rest := []) C (hR.le (by decide)) (c_X0_rowOf h hq1) (bb_cut_self _ _) bv_X0_rowOf bm_X0_61 rfl rfl rfl rfl (Nat.le_of_ble_eq_true rfl) dX0_nearerTo_2 ?_
  refine z_aload_n (pc := 5) (i := 0) C 0 dX0_nearerTo_5 rfl rfl ?_
  refine z_aload_n (pc := 6) (i := 0) C 0 dX0_nearerTo_6 rfl rfl ?_
  refine z_get (pc := 7) (ci := 0) C (.int (s0.1 3)) bi_X0 rfl 0 3 (by decide) rfl bf_X0_40 rfl rfl dX0_nearerTo_7 ?_
  obtain ⟨q2, hq2, hf⟩ := bb_b_some hf
  refine z_callVi (pc := 10) (ci := 0) (q0 := 0) (As := [.int (s0.1 3)]) (rest := [.int q1]) C (hR.le (by decide)) (c_X0_rowOf h hq2) (bb_cut_self _ _) bv_X0_rowOf bm_X0_61 rfl rfl rfl rfl (Nat.le_of_ble_eq_true rfl) dX0_nearerTo_10 ?_
  refine z_isub (pc := 13) C dX0_nearerTo_13 ?_
  refine z_istore_n (pc := 14) (i := 2) (lv' := [(2, .int (q1 - q2)), (0, .ref (h 0)), (1, .int x1)]) C dX0_nearerTo_14 rfl (by decide) rfl ?_
  refine z_iload_n (pc := 15) (i := 2) C 0 dX0_nearerTo_15 rfl rfl ?_
  refine z_if_eq (pc := 16) C 45 dX0_nearerTo_16 (by decide) (fun hc3 => ?_) (fun hc3 => ?_)
  · have hf := bb_t hf hc3
    refine z_aload_n (pc := 45) (i := 0) C 1 dX0_nearerTo_45 rfl rfl ?_
    refine z_get (pc := 46) (ci := 0) C (.int (s0.1 3)) bi_X0 rfl 0 3 (by decide) rfl bf_X0_40 rfl rfl dX0_nearerTo_46 ?_
    refine z_iload_n (pc := 49) (i := 1) C 2 dX0_nearerTo_49 rfl rfl ?_
    refine z_aload_n (pc := 50) (i := 0) C 1 dX0_nearerTo_50 rfl rfl ?_
    refine z_get (pc := 51) (ci := 0) C (.int (s0.1 3)) bi_X0 rfl 0 3 (by decide) rfl bf_X0_40 rfl rfl dX0_nearerTo_51 ?_
    obtain ⟨q4, hq4, hf⟩ := bb_b_some hf
    refine z_callSi (pc := 54) (As := [.int x1, .int (s0.1 3)]) (rest := [.int (s0.1 3)]) C (hR.le (by decide)) (c_J6_compare_7cf53 hq4) (bb_cut_none _) bv_J6_compare_7cf53 bm_X0_108 rfl rfl (Nat.le_of_ble_eq_true rfl) dX0_nearerTo_54 ?_
    refine z_iadd (pc := 57) C dX0_nearerTo_57 ?_
    obtain rfl := Option.some.inj hf
    exact z_iret (pc := 58) C hr R dX0_nearerTo_58
  · have hf := bb_e hf hc3
    refine z_iload_n (pc := 19) (i := 2) C 0 dX0_nearerTo_19 rfl rfl ?_
    refine z_if_le (pc := 20) C 35 dX0_nearerTo_20 (by decide) (fun hc5 => ?_) (fun hc5 => ?_)
    · have hf := bb_t hf hc5
      refine z_aload_n (pc := 35) (i := 0) C 1 dX0_nearerTo_35 rfl rfl ?_
      refine z_get (pc := 36) (ci := 0) C (.int (s0.1 3)) bi_X0 rfl 0 3 (by decide) rfl bf_X0_40 rfl rfl dX0_nearerTo_36 ?_
      refine z_aload_n (pc := 39) (i := 0) C 1 dX0_nearerTo_39 rfl rfl ?_
      refine z_get (pc := 40) (ci := 0) C (.int (s0.1 1)) bi_X0 rfl 0 1 (by decide) rfl bf_X0_15 rfl rfl dX0_nearerTo_40 ?_
      refine z_isub (pc := 43) C dX0_nearerTo_43 ?_
      refine z_lv [] rfl ?_
      exact B_X0_nearerTo_44 C hR hr h R  hf
    · have hf := bb_e hf hc5
      refine z_aload_n (pc := 23) (i := 0) C 1 dX0_nearerTo_23 rfl rfl ?_
      refine z_get (pc := 24) (ci := 0) C (.int (s0.1 3)) bi_X0 rfl 0 3 (by decide) rfl bf_X0_40 rfl rfl dX0_nearerTo_24 ?_
      refine z_aload_n (pc := 27) (i := 0) C 1 dX0_nearerTo_27 rfl rfl ?_
      refine z_get (pc := 28) (ci := 0) C (.int (s0.1 1)) bi_X0 rfl 0 1 (by decide) rfl bf_X0_15 rfl rfl dX0_nearerTo_28 ?_
      refine z_iadd (pc := 31) C dX0_nearerTo_31 ?_
      refine z_goto (pc := 32) C 44 dX0_nearerTo_32 (by decide) ?_
      refine z_lv [] rfl ?_
      exact B_X0_nearerTo_44 C hR hr h R  hf
theorem c_X0_nearerTo {l : Launch} {D : va_G} {cs : Nat → ClassId} (h : Nat → Nat) {s0 : bb_O} {x1 : Int32} {z : Int32} (hf : F_X0_nearerTo_0 s0 x1 = some z) : bb_M l yX0_nearerTo cX0_nearerTo 3 (some .int) 2 D cs [.ref (h 0), .int x1] (some (.int z)) (wX0 cs h s0) (wX0 cs h s0) := bb_mg (by decide) rfl (Nat.le_of_ble_eq_true rfl) rfl (fun X hl hD hcs C hR hr R => by
  subst hl
  subst hD
  subst hcs
  exact B_X0_nearerTo_0 C hR hr h R hf)
/-! X0_firstOnHisCell: reads, level 2 -/
noncomputable def F_X0_firstOnHisCell_33 (s0 : bb_O) (k2 : Int32 → Option Int32) (x1 : Int32) : Option Int32 := k2 (x1 + 1)
set_option maxHeartbeats 4000000 in
set_option maxRecDepth 100000 in
theorem B_X0_firstOnHisCell_33 {X : bb_X} (C : bb_C X RX0 cX0_firstOnHisCell 2) (hR : bb_r X 2) (hr : X.meth.sig.returnType = (some .int)) (h : Nat → Nat) {z : Int32} {s0 : bb_O} (R : bb_R X (some (.int z)) (wX0 X.cs h s0)) {k2 : Int32 → Option Int32} (hk2 : ∀ (x1 : Int32), k2 x1 = some z → bb_Z X 2 (wX0 X.cs h s0) 2 [(0, .ref (h 0)), (1, .int x1)] []) {x1 : Int32} (hf : F_X0_firstOnHisCell_33 s0 k2 x1 = some z) : bb_Z X 2 (wX0 X.cs h s0) 33 [(0, .ref (h 0)), (1, .int x1)] [] := by
  refine z_iinc (pc := 33) (lv' := [(1, .int (x1 + 1)), (0, .ref (h 0))]) C (x1 + 1) 1 dX0_firstOnHisCell_33 rfl rfl (by decide) rfl ?_
  refine z_goto (pc := 36) C 2 dX0_firstOnHisCell_36 (by decide) ?_
  refine z_lv [1, 0] rfl ?_
  exact hk2 _ hf
noncomputable def G_X0_firstOnHisCell_2 (s0 : bb_O) (k2 : Int32 → Option Int32) (x1 : Int32) : Option Int32 := if (s0.1 2) ≤ x1 then (some ((-4 : Int32))) else ((F_X0_isFree_0 s0 x1).bind (fun q2 => if q2 = 0 then (F_X0_firstOnHisCell_33 s0 k2 x1) else (bb_g (vp_in x1 6) (if (s0.2.1 10 x1.toNatClampNeg) = (s0.1 3) then (some x1) else (F_X0_firstOnHisCell_33 s0 k2 x1)))))
noncomputable def F_X0_firstOnHisCell_2 (s0 : bb_O) : Nat → Int32 → Option Int32
  | 0, _ => none
  | n + 1, x1 => G_X0_firstOnHisCell_2 s0 (F_X0_firstOnHisCell_2 s0 n) x1
set_option maxHeartbeats 4000000 in
set_option maxRecDepth 100000 in
theorem A_X0_firstOnHisCell_2 {X : bb_X} (C : bb_C X RX0 cX0_firstOnHisCell 2) (hR : bb_r X 2) (hr : X.meth.sig.returnType = (some .int)) (h : Nat → Nat) {z : Int32} {s0 : bb_O} (R : bb_R X (some (.int z)) (wX0 X.cs h s0)) {k2 : Int32 → Option Int32} (hk2 : ∀ (x1 : Int32), k2 x1 = some z → bb_Z X 2 (wX0 X.cs h s0) 2 [(0, .ref (h 0)), (1, .int x1)] []) {x1 : Int32} (hf : G_X0_firstOnHisCell_2 s0 k2 x1 = some z) : bb_Z X 2 (wX0 X.cs h s0) 2 [(0, .ref (h 0)), (1, .int x1)] [] := by
  refine z_iload_n (pc := 2) (i := 1) C 1 dX0_firstOnHisCell_2 rfl rfl ?_
  refine z_aload_n (pc := 3) (i := 0) C 0 dX0_firstOnHisCell_3 rfl rfl ?_
  refine z_get (pc := 4) (ci := 0) C (.int (s0.1 2)) bi_X0 rfl 0 2 (by decide) rfl bf_X0_37 rfl rfl dX0_firstOnHisCell_4 ?_
  refine z_icmp_ge (pc := 7) C 39 dX0_firstOnHisCell_7 (by decide) (fun hc1 => ?_) (fun hc1 => ?_)
  · have hf := bb_t hf hc1
    refine z_bipush (pc := 39) C (-4 : Int32) dX0_firstOnHisCell_39 (by decide) ?_
    obtain rfl := Option.some.inj hf
    exact z_iret (pc := 41) C hr R dX0_firstOnHisCell_41
  · have hf := bb_e hf hc1
    refine z_aload_n (pc := 10) (i := 0) C 0 dX0_firstOnHisCell_10 rfl rfl ?_
    refine z_iload_n (pc := 11) (i := 1) C 1 dX0_firstOnHisCell_11 rfl rfl ?_
    obtain ⟨q2, hq2, hf⟩ := bb_b_some hf
    refine z_callVi (pc := 12) (ci := 0) (q0 := 0) (As := [.int x1]) (rest := []) C (hR.le (by decide)) (c_X0_isFree h hq2) (bb_cut_self _ _) bv_X0_isFree bm_X0_80 rfl rfl rfl rfl (Nat.le_of_ble_eq_true rfl) dX0_firstOnHisCell_12 ?_
    refine z_if_eq (pc := 15) C 33 dX0_firstOnHisCell_15 (by decide) (fun hc3 => ?_) (fun hc3 => ?_)
    · have hf := bb_t hf hc3
      exact B_X0_firstOnHisCell_33 C hR hr h R hk2 hf
    · have hf := bb_e hf hc3
      refine z_aload_n (pc := 18) (i := 0) C 0 dX0_firstOnHisCell_18 rfl rfl ?_
      refine z_get (pc := 19) (ci := 0) C (.ref (h 11)) bi_X0 rfl 0 10 (by decide) rfl bf_X0_25 rfl rfl dX0_firstOnHisCell_19 ?_
      refine z_iload_n (pc := 22) (i := 1) C 1 dX0_firstOnHisCell_22 rfl rfl ?_
      obtain ⟨hv4, hf⟩ := bb_g_some hf
      refine z_iald (pc := 23) C 2 0 (x1.toNatClampNeg) rfl rfl hv4 rfl dX0_firstOnHisCell_23 ?_
      refine z_aload_n (pc := 24) (i := 0) C 0 dX0_firstOnHisCell_24 rfl rfl ?_
      refine z_get (pc := 25) (ci := 0) C (.int (s0.1 3)) bi_X0 rfl 0 3 (by decide) rfl bf_X0_40 rfl rfl dX0_firstOnHisCell_25 ?_
      refine z_icmp_ne (pc := 28) C 33 dX0_firstOnHisCell_28 (by decide) (fun hc5 => ?_) (fun hc5 => ?_)
      · have hf := bb_e hf hc5
        exact B_X0_firstOnHisCell_33 C hR hr h R hk2 hf
      · have hf := bb_t hf hc5
        refine z_iload_n (pc := 31) (i := 1) C 1 dX0_firstOnHisCell_31 rfl rfl ?_
        obtain rfl := Option.some.inj hf
        exact z_iret (pc := 32) C hr R dX0_firstOnHisCell_32
theorem B_X0_firstOnHisCell_2 {X : bb_X} (C : bb_C X RX0 cX0_firstOnHisCell 2) (hR : bb_r X 2) (hr : X.meth.sig.returnType = (some .int)) (h : Nat → Nat) {z : Int32} {s0 : bb_O} (R : bb_R X (some (.int z)) (wX0 X.cs h s0)) : ∀ (n : Nat) (x1 : Int32), F_X0_firstOnHisCell_2 s0 n x1 = some z → bb_Z X 2 (wX0 X.cs h s0) 2 [(0, .ref (h 0)), (1, .int x1)] [] := by
  intro n
  induction n with
  | zero =>
    intro x1 hf
    cases hf
  | succ n ih =>
    intro x1 hf
    exact A_X0_firstOnHisCell_2 C hR hr h R  ih hf
noncomputable def F_X0_firstOnHisCell_0 (s0 : bb_O) : Option Int32 := F_X0_firstOnHisCell_2 s0 bb_N ((0 : Int32))
set_option maxHeartbeats 4000000 in
set_option maxRecDepth 100000 in
theorem B_X0_firstOnHisCell_0 {X : bb_X} (C : bb_C X RX0 cX0_firstOnHisCell 2) (hR : bb_r X 2) (hr : X.meth.sig.returnType = (some .int)) (h : Nat → Nat) {z : Int32} {s0 : bb_O} (R : bb_R X (some (.int z)) (wX0 X.cs h s0))  (hf : F_X0_firstOnHisCell_0 s0 = some z) : bb_Z X 2 (wX0 X.cs h s0) 0 [(0, .ref (h 0))] [] := by
  refine z_iconst (pc := 0) C (0 : Int32) dX0_firstOnHisCell_0 (by decide) ?_
  refine z_istore_n (pc := 1) (i := 1) (lv' := [(1, .int ((0 : Int32))), (0, .ref (h 0))]) C dX0_firstOnHisCell_1 rfl (by decide) rfl ?_
  refine z_lv [1, 0] rfl ?_
  exact B_X0_firstOnHisCell_2 C hR hr h R  bb_N _ hf
theorem c_X0_firstOnHisCell {l : Launch} {D : va_G} {cs : Nat → ClassId} (h : Nat → Nat) {s0 : bb_O} {z : Int32} (hf : F_X0_firstOnHisCell_0 s0 = some z) : bb_M l yX0_firstOnHisCell cX0_firstOnHisCell 2 (some .int) 2 D cs [.ref (h 0)] (some (.int z)) (wX0 cs h s0) (wX0 cs h s0) := bb_mg (by decide) rfl (Nat.le_of_ble_eq_true rfl) rfl (fun X hl hD hcs C hR hr R => by
  subst hl
  subst hD
  subst hcs
  exact B_X0_firstOnHisCell_0 C hR hr h R hf)
/-! X0_pass: writes, level 5 -/
noncomputable def F_X0_pass_84 (s0 : bb_O) (x2 : Int32) : Option (Int32 × bb_O) := some (x2, bb_sf s0 5 ((s0.1 5) + ((1 : Int32))))
set_option maxHeartbeats 4000000 in
set_option maxRecDepth 100000 in
theorem B_X0_pass_84 {X : bb_X} (C : bb_C X RX0 cX0_pass 3) (hR : bb_r X 5) (hr : X.meth.sig.returnType = (some .int)) (h : Nat → Nat) {z : (Int32 × bb_O)} (R : bb_R X (some (.int z.1)) (wX0 X.cs h z.2)) {s0 : bb_O} {x2 : Int32} (hf : F_X0_pass_84 s0 x2 = some z) : bb_Z X 3 (wX0 X.cs h s0) 84 [(0, .ref (h 0)), (2, .int x2)] [] := by
  refine z_aload_n (pc := 84) (i := 0) C 0 dX0_pass_84 rfl rfl ?_
  refine z_dup (pc := 85) C dX0_pass_85 rfl ?_
  refine z_get (pc := 86) (ci := 0) C (.int (s0.1 5)) bi_X0 rfl 0 5 (by decide) rfl bf_X0_46 rfl rfl dX0_pass_86 ?_
  refine z_iconst (pc := 89) C (1 : Int32) dX0_pass_89 (by decide) ?_
  refine z_iadd (pc := 90) C dX0_pass_90 ?_
  refine z_put (pc := 91) (ci := 0) (ty := .int) (ws' := wX0 X.cs h (bb_sf s0 5 ((s0.1 5) + ((1 : Int32))))) C bi_X0 tyX0_ok nmX0 rfl 0 5 (by decide) rfl bf_X0_46 rfl rfl rfl rfl rfl (Nat.le_of_ble_eq_true rfl) rfl dX0_pass_91 ?_
  refine z_iload_n (pc := 94) (i := 2) C 1 dX0_pass_94 rfl rfl ?_
  obtain rfl := Option.some.inj hf
  exact z_iret (pc := 95) C hr R dX0_pass_95
noncomputable def F_X0_pass_71 (s0 : bb_O) (x2 : Int32) : Option (Int32 × bb_O) := F_X0_pass_84 s0 x2
set_option maxHeartbeats 4000000 in
set_option maxRecDepth 100000 in
theorem B_X0_pass_71 {X : bb_X} (C : bb_C X RX0 cX0_pass 3) (hR : bb_r X 5) (hr : X.meth.sig.returnType = (some .int)) (h : Nat → Nat) {z : (Int32 × bb_O)} (R : bb_R X (some (.int z.1)) (wX0 X.cs h z.2)) {s0 : bb_O} {x2 : Int32} (hf : F_X0_pass_71 s0 x2 = some z) : bb_Z X 3 (wX0 X.cs h s0) 71 [(0, .ref (h 0)), (2, .int x2)] [] := by
  refine z_goto (pc := 71) C 84 dX0_pass_71 (by decide) ?_
  exact B_X0_pass_84 C hR hr h R  hf
noncomputable def F_X0_pass_25 (s0 : bb_O) : Option (Int32 × bb_O) := (F_X0_firstOnHisCell_0 s0).bind (fun q1 => if q1 = ((-4 : Int32)) then (F_X0_pass_84 s0 q1) else ((F_X0_feel_0 (bb_sf s0 4 ((s0.1 4) ||| (((1 : Int32)) <<< (q1 &&& 31)))) q1).bind (fun q3 => (F_X0_namedBy_0 (bb_sf s0 4 ((s0.1 4) ||| (((1 : Int32)) <<< (q1 &&& 31)))) q3).bind (fun q4 => if q4 = q1 then (F_X0_pass_71 (bb_sf (bb_sf s0 4 ((s0.1 4) ||| (((1 : Int32)) <<< (q1 &&& 31)))) 6 (((bb_sf s0 4 ((s0.1 4) ||| (((1 : Int32)) <<< (q1 &&& 31)))).1 6) + ((1 : Int32)))) q1) else (F_X0_pass_84 (bb_sf (bb_sf s0 4 ((s0.1 4) ||| (((1 : Int32)) <<< (q1 &&& 31)))) 7 (((bb_sf s0 4 ((s0.1 4) ||| (((1 : Int32)) <<< (q1 &&& 31)))).1 7) + ((1 : Int32)))) q1)))))
set_option maxHeartbeats 4000000 in
set_option maxRecDepth 100000 in
theorem B_X0_pass_25 {X : bb_X} (C : bb_C X RX0 cX0_pass 3) (hR : bb_r X 5) (hr : X.meth.sig.returnType = (some .int)) (h : Nat → Nat) {z : (Int32 × bb_O)} (R : bb_R X (some (.int z.1)) (wX0 X.cs h z.2)) {s0 : bb_O} (hf : F_X0_pass_25 s0 = some z) : bb_Z X 3 (wX0 X.cs h s0) 25 [(0, .ref (h 0))] [] := by
  refine z_aload_n (pc := 25) (i := 0) C 0 dX0_pass_25 rfl rfl ?_
  obtain ⟨q1, hq1, hf⟩ := bb_b_some hf
  refine z_callVi (pc := 26) (ci := 0) (q0 := 0) (As := []) (rest := []) C (hR.le (by decide)) (c_X0_firstOnHisCell h hq1) (bb_cut_self _ _) bv_X0_firstOnHisCell bm_X0_99 rfl rfl rfl rfl (Nat.le_of_ble_eq_true rfl) dX0_pass_26 ?_
  refine z_istore_n (pc := 29) (i := 2) (lv' := [(2, .int q1), (0, .ref (h 0))]) C dX0_pass_29 rfl (by decide) rfl ?_
  refine z_iload_n (pc := 30) (i := 2) C 0 dX0_pass_30 rfl rfl ?_
  refine z_bipush (pc := 31) C (-4 : Int32) dX0_pass_31 (by decide) ?_
  refine z_icmp_eq (pc := 33) C 84 dX0_pass_33 (by decide) (fun hc2 => ?_) (fun hc2 => ?_)
  · have hf := bb_t hf hc2
    refine z_lv [1, 0] rfl ?_
    exact B_X0_pass_84 C hR hr h R  hf
  · have hf := bb_e hf hc2
    refine z_aload_n (pc := 36) (i := 0) C 1 dX0_pass_36 rfl rfl ?_
    refine z_dup (pc := 37) C dX0_pass_37 rfl ?_
    refine z_get (pc := 38) (ci := 0) C (.int (s0.1 4)) bi_X0 rfl 0 4 (by decide) rfl bf_X0_43 rfl rfl dX0_pass_38 ?_
    refine z_iconst (pc := 41) C (1 : Int32) dX0_pass_41 (by decide) ?_
    refine z_iload_n (pc := 42) (i := 2) C 0 dX0_pass_42 rfl rfl ?_
    refine z_ishl (pc := 43) C dX0_pass_43 ?_
    refine z_ior (pc := 44) C dX0_pass_44 ?_
    refine z_put (pc := 45) (ci := 0) (ty := .int) (ws' := wX0 X.cs h (bb_sf s0 4 ((s0.1 4) ||| (((1 : Int32)) <<< (q1 &&& 31))))) C bi_X0 tyX0_ok nmX0 rfl 0 4 (by decide) rfl bf_X0_43 rfl rfl rfl rfl rfl (Nat.le_of_ble_eq_true rfl) rfl dX0_pass_45 ?_
    refine z_aload_n (pc := 48) (i := 0) C 1 dX0_pass_48 rfl rfl ?_
    refine z_aload_n (pc := 49) (i := 0) C 1 dX0_pass_49 rfl rfl ?_
    refine z_iload_n (pc := 50) (i := 2) C 0 dX0_pass_50 rfl rfl ?_
    obtain ⟨q3, hq3, hf⟩ := bb_b_some hf
    refine z_callVi (pc := 51) (ci := 0) (q0 := 0) (As := [.int q1]) (rest := [.ref (h 0)]) C (hR.le (by decide)) (c_X0_feel h hq3) (bb_cut_self _ _) bv_X0_feel bm_X0_102 rfl rfl rfl rfl (Nat.le_of_ble_eq_true rfl) dX0_pass_51 ?_
    obtain ⟨q4, hq4, hf⟩ := bb_b_some hf
    refine z_callVi (pc := 54) (ci := 0) (q0 := 0) (As := [.int q3]) (rest := []) C (hR.le (by decide)) (c_X0_namedBy h hq4) (bb_cut_self _ _) bv_X0_namedBy bm_X0_105 rfl rfl rfl rfl (Nat.le_of_ble_eq_true rfl) dX0_pass_54 ?_
    refine z_iload_n (pc := 57) (i := 2) C 0 dX0_pass_57 rfl rfl ?_
    refine z_icmp_ne (pc := 58) C 74 dX0_pass_58 (by decide) (fun hc5 => ?_) (fun hc5 => ?_)
    · have hf := bb_e hf hc5
      refine z_aload_n (pc := 74) (i := 0) C 1 dX0_pass_74 rfl rfl ?_
      refine z_dup (pc := 75) C dX0_pass_75 rfl ?_
      refine z_get (pc := 76) (ci := 0) C (.int ((bb_sf s0 4 ((s0.1 4) ||| (((1 : Int32)) <<< (q1 &&& 31)))).1 7)) bi_X0 rfl 0 7 (by decide) rfl bf_X0_52 rfl rfl dX0_pass_76 ?_
      refine z_iconst (pc := 79) C (1 : Int32) dX0_pass_79 (by decide) ?_
      refine z_iadd (pc := 80) C dX0_pass_80 ?_
      refine z_put (pc := 81) (ci := 0) (ty := .int) (ws' := wX0 X.cs h (bb_sf (bb_sf s0 4 ((s0.1 4) ||| (((1 : Int32)) <<< (q1 &&& 31)))) 7 (((bb_sf s0 4 ((s0.1 4) ||| (((1 : Int32)) <<< (q1 &&& 31)))).1 7) + ((1 : Int32))))) C bi_X0 tyX0_ok nmX0 rfl 0 7 (by decide) rfl bf_X0_52 rfl rfl rfl rfl rfl (Nat.le_of_ble_eq_true rfl) rfl dX0_pass_81 ?_
      refine z_lv [1, 0] rfl ?_
      exact B_X0_pass_84 C hR hr h R  hf
    · have hf := bb_t hf hc5
      refine z_aload_n (pc := 61) (i := 0) C 1 dX0_pass_61 rfl rfl ?_
      refine z_dup (pc := 62) C dX0_pass_62 rfl ?_
      refine z_get (pc := 63) (ci := 0) C (.int ((bb_sf s0 4 ((s0.1 4) ||| (((1 : Int32)) <<< (q1 &&& 31)))).1 6)) bi_X0 rfl 0 6 (by decide) rfl bf_X0_49 rfl rfl dX0_pass_63 ?_
      refine z_iconst (pc := 66) C (1 : Int32) dX0_pass_66 (by decide) ?_
      refine z_iadd (pc := 67) C dX0_pass_67 ?_
      refine z_put (pc := 68) (ci := 0) (ty := .int) (ws' := wX0 X.cs h (bb_sf (bb_sf s0 4 ((s0.1 4) ||| (((1 : Int32)) <<< (q1 &&& 31)))) 6 (((bb_sf s0 4 ((s0.1 4) ||| (((1 : Int32)) <<< (q1 &&& 31)))).1 6) + ((1 : Int32))))) C bi_X0 tyX0_ok nmX0 rfl 0 6 (by decide) rfl bf_X0_49 rfl rfl rfl rfl rfl (Nat.le_of_ble_eq_true rfl) rfl dX0_pass_68 ?_
      refine z_lv [1, 0] rfl ?_
      exact B_X0_pass_71 C hR hr h R  hf
noncomputable def F_X0_pass_0 (s0 : bb_O) : Option (Int32 × bb_O) := (F_X0_followed_0 s0).bind (fun q1 => if q1 = ((-4 : Int32)) then (F_X0_pass_25 s0) else (bb_g (vp_in q1 6) ((F_X0_nearerTo_0 s0 (s0.2.1 10 q1.toNatClampNeg)).bind (fun q4 => F_X0_pass_25 (bb_sf s0 3 q4)))))
set_option maxHeartbeats 4000000 in
set_option maxRecDepth 100000 in
theorem B_X0_pass_0 {X : bb_X} (C : bb_C X RX0 cX0_pass 3) (hR : bb_r X 5) (hr : X.meth.sig.returnType = (some .int)) (h : Nat → Nat) {z : (Int32 × bb_O)} (R : bb_R X (some (.int z.1)) (wX0 X.cs h z.2)) {s0 : bb_O} (hf : F_X0_pass_0 s0 = some z) : bb_Z X 3 (wX0 X.cs h s0) 0 [(0, .ref (h 0))] [] := by
  refine z_aload_n (pc := 0) (i := 0) C 0 dX0_pass_0 rfl rfl ?_
  obtain ⟨q1, hq1, hf⟩ := bb_b_some hf
  refine z_callVi (pc := 1) (ci := 0) (q0 := 0) (As := []) (rest := []) C (hR.le (by decide)) (c_X0_followed h hq1) (bb_cut_self _ _) bv_X0_followed bm_X0_92 rfl rfl rfl rfl (Nat.le_of_ble_eq_true rfl) dX0_pass_1 ?_
  refine z_istore_n (pc := 4) (i := 1) (lv' := [(1, .int q1), (0, .ref (h 0))]) C dX0_pass_4 rfl (by decide) rfl ?_
  refine z_iload_n (pc := 5) (i := 1) C 0 dX0_pass_5 rfl rfl ?_
  refine z_bipush (pc := 6) C (-4 : Int32) dX0_pass_6 (by decide) ?_
  refine z_icmp_eq (pc := 8) C 25 dX0_pass_8 (by decide) (fun hc2 => ?_) (fun hc2 => ?_)
  · have hf := bb_t hf hc2
    refine z_lv [1] rfl ?_
    exact B_X0_pass_25 C hR hr h R  hf
  · have hf := bb_e hf hc2
    refine z_aload_n (pc := 11) (i := 0) C 1 dX0_pass_11 rfl rfl ?_
    refine z_aload_n (pc := 12) (i := 0) C 1 dX0_pass_12 rfl rfl ?_
    refine z_aload_n (pc := 13) (i := 0) C 1 dX0_pass_13 rfl rfl ?_
    refine z_get (pc := 14) (ci := 0) C (.ref (h 11)) bi_X0 rfl 0 10 (by decide) rfl bf_X0_25 rfl rfl dX0_pass_14 ?_
    refine z_iload_n (pc := 17) (i := 1) C 0 dX0_pass_17 rfl rfl ?_
    obtain ⟨hv3, hf⟩ := bb_g_some hf
    refine z_iald (pc := 18) C 2 0 (q1.toNatClampNeg) rfl rfl hv3 rfl dX0_pass_18 ?_
    obtain ⟨q4, hq4, hf⟩ := bb_b_some hf
    refine z_callVi (pc := 19) (ci := 0) (q0 := 0) (As := [.int (s0.2.1 10 q1.toNatClampNeg)]) (rest := [.ref (h 0)]) C (hR.le (by decide)) (c_X0_nearerTo h hq4) (bb_cut_self _ _) bv_X0_nearerTo bm_X0_96 rfl rfl rfl rfl (Nat.le_of_ble_eq_true rfl) dX0_pass_19 ?_
    refine z_put (pc := 22) (ci := 0) (ty := .int) (ws' := wX0 X.cs h (bb_sf s0 3 q4)) C bi_X0 tyX0_ok nmX0 rfl 0 3 (by decide) rfl bf_X0_40 rfl rfl rfl rfl rfl (Nat.le_of_ble_eq_true rfl) rfl dX0_pass_22 ?_
    refine z_lv [1] rfl ?_
    exact B_X0_pass_25 C hR hr h R  hf
theorem c_X0_pass {l : Launch} {D : va_G} {cs : Nat → ClassId} (h : Nat → Nat) {s0 : bb_O} {z : (Int32 × bb_O)} (hf : F_X0_pass_0 s0 = some z) : bb_M l yX0_pass cX0_pass 3 (some .int) 5 D cs [.ref (h 0)] (some (.int z.1)) (wX0 cs h s0) (wX0 cs h z.2) := bb_mg (by decide) rfl (Nat.le_of_ble_eq_true rfl) rfl (fun X hl hD hcs C hR hr R => by
  subst hl
  subst hD
  subst hcs
  exact B_X0_pass_0 C hR hr h R hf)
/-! X0_passUntilCaught: writes, level 6 -/
noncomputable def F_X0_passUntilCaught_28 (s0 : bb_O) (x1 : Int32) : Option (Int32 × bb_O) := some (x1, s0)
set_option maxHeartbeats 4000000 in
set_option maxRecDepth 100000 in
theorem B_X0_passUntilCaught_28 {X : bb_X} (C : bb_C X RX0 cX0_passUntilCaught 3) (hR : bb_r X 6) (hr : X.meth.sig.returnType = (some .int)) (h : Nat → Nat) {z : (Int32 × bb_O)} (R : bb_R X (some (.int z.1)) (wX0 X.cs h z.2)) {s0 : bb_O} {x1 : Int32} (hf : F_X0_passUntilCaught_28 s0 x1 = some z) : bb_Z X 3 (wX0 X.cs h s0) 28 [(1, .int x1)] [] := by
  refine z_iload_n (pc := 28) (i := 1) C 0 dX0_passUntilCaught_28 rfl rfl ?_
  obtain rfl := Option.some.inj hf
  exact z_iret (pc := 29) C hr R dX0_passUntilCaught_29
noncomputable def G_X0_passUntilCaught_5 (k5 : bb_O → Int32 → Int32 → Option (Int32 × bb_O)) (s0 : bb_O) (x1 : Int32) (x2 : Int32) : Option (Int32 × bb_O) := if ((60 : Int32)) ≤ x2 then (F_X0_passUntilCaught_28 s0 x1) else (if x1 = ((-4 : Int32)) then ((F_X0_pass_0 s0).bind (fun q3 => k5 q3.2 q3.1 (x2 + 1))) else (F_X0_passUntilCaught_28 s0 x1))
noncomputable def F_X0_passUntilCaught_5  : Nat → bb_O → Int32 → Int32 → Option (Int32 × bb_O)
  | 0, _, _, _ => none
  | n + 1, s0, x1, x2 => G_X0_passUntilCaught_5  (F_X0_passUntilCaught_5  n) s0 x1 x2
set_option maxHeartbeats 4000000 in
set_option maxRecDepth 100000 in
theorem A_X0_passUntilCaught_5 {X : bb_X} (C : bb_C X RX0 cX0_passUntilCaught 3) (hR : bb_r X 6) (hr : X.meth.sig.returnType = (some .int)) (h : Nat → Nat) {z : (Int32 × bb_O)} (R : bb_R X (some (.int z.1)) (wX0 X.cs h z.2)) {k5 : bb_O → Int32 → Int32 → Option (Int32 × bb_O)} (hk5 : ∀ (s0 : bb_O) (x1 : Int32) (x2 : Int32), k5 s0 x1 x2 = some z → bb_Z X 3 (wX0 X.cs h s0) 5 [(0, .ref (h 0)), (1, .int x1), (2, .int x2)] []) {s0 : bb_O} {x1 : Int32} {x2 : Int32} (hf : G_X0_passUntilCaught_5 k5 s0 x1 x2 = some z) : bb_Z X 3 (wX0 X.cs h s0) 5 [(0, .ref (h 0)), (1, .int x1), (2, .int x2)] [] := by
  refine z_iload_n (pc := 5) (i := 2) C 2 dX0_passUntilCaught_5 rfl rfl ?_
  refine z_bipush (pc := 6) C (60 : Int32) dX0_passUntilCaught_6 (by decide) ?_
  refine z_icmp_ge (pc := 8) C 28 dX0_passUntilCaught_8 (by decide) (fun hc1 => ?_) (fun hc1 => ?_)
  · have hf := bb_t hf hc1
    refine z_lv [1] rfl ?_
    exact B_X0_passUntilCaught_28 C hR hr h R  hf
  · have hf := bb_e hf hc1
    refine z_iload_n (pc := 11) (i := 1) C 1 dX0_passUntilCaught_11 rfl rfl ?_
    refine z_bipush (pc := 12) C (-4 : Int32) dX0_passUntilCaught_12 (by decide) ?_
    refine z_icmp_ne (pc := 14) C 28 dX0_passUntilCaught_14 (by decide) (fun hc2 => ?_) (fun hc2 => ?_)
    · have hf := bb_e hf hc2
      refine z_lv [1] rfl ?_
      exact B_X0_passUntilCaught_28 C hR hr h R  hf
    · have hf := bb_t hf hc2
      refine z_aload_n (pc := 17) (i := 0) C 0 dX0_passUntilCaught_17 rfl rfl ?_
      obtain ⟨q3, hq3, hf⟩ := bb_b_some hf
      refine z_callVi (pc := 18) (ci := 0) (q0 := 0) (As := []) (rest := []) (ws' := wX0 X.cs h q3.2) C (hR.le (by decide)) (c_X0_pass h hq3) (bb_cut_self _ _) bv_X0_pass bm_X0_111 rfl rfl rfl rfl (Nat.le_of_ble_eq_true rfl) dX0_passUntilCaught_18 ?_
      refine z_istore_n (pc := 21) (i := 1) (lv' := [(1, .int q3.1), (0, .ref (h 0)), (2, .int x2)]) C dX0_passUntilCaught_21 rfl (by decide) rfl ?_
      refine z_iinc (pc := 22) (lv' := [(2, .int (x2 + 1)), (1, .int q3.1), (0, .ref (h 0))]) C (x2 + 1) 2 dX0_passUntilCaught_22 rfl rfl (by decide) rfl ?_
      refine z_goto (pc := 25) C 5 dX0_passUntilCaught_25 (by decide) ?_
      refine z_lv [2, 1, 0] rfl ?_
      exact hk5 _ _ _ hf
theorem B_X0_passUntilCaught_5 {X : bb_X} (C : bb_C X RX0 cX0_passUntilCaught 3) (hR : bb_r X 6) (hr : X.meth.sig.returnType = (some .int)) (h : Nat → Nat) {z : (Int32 × bb_O)} (R : bb_R X (some (.int z.1)) (wX0 X.cs h z.2)) : ∀ (n : Nat) (s0 : bb_O) (x1 : Int32) (x2 : Int32), F_X0_passUntilCaught_5  n s0 x1 x2 = some z → bb_Z X 3 (wX0 X.cs h s0) 5 [(0, .ref (h 0)), (1, .int x1), (2, .int x2)] [] := by
  intro n
  induction n with
  | zero =>
    intro s0 x1 x2 hf
    cases hf
  | succ n ih =>
    intro s0 x1 x2 hf
    exact A_X0_passUntilCaught_5 C hR hr h R  ih hf
noncomputable def F_X0_passUntilCaught_0 (s0 : bb_O) : Option (Int32 × bb_O) := F_X0_passUntilCaught_5 bb_N s0 ((-4 : Int32)) ((0 : Int32))
set_option maxHeartbeats 4000000 in
set_option maxRecDepth 100000 in
theorem B_X0_passUntilCaught_0 {X : bb_X} (C : bb_C X RX0 cX0_passUntilCaught 3) (hR : bb_r X 6) (hr : X.meth.sig.returnType = (some .int)) (h : Nat → Nat) {z : (Int32 × bb_O)} (R : bb_R X (some (.int z.1)) (wX0 X.cs h z.2)) {s0 : bb_O} (hf : F_X0_passUntilCaught_0 s0 = some z) : bb_Z X 3 (wX0 X.cs h s0) 0 [(0, .ref (h 0))] [] := by
  refine z_bipush (pc := 0) C (-4 : Int32) dX0_passUntilCaught_0 (by decide) ?_
  refine z_istore_n (pc := 2) (i := 1) (lv' := [(1, .int ((-4 : Int32))), (0, .ref (h 0))]) C dX0_passUntilCaught_2 rfl (by decide) rfl ?_
  refine z_iconst (pc := 3) C (0 : Int32) dX0_passUntilCaught_3 (by decide) ?_
  refine z_istore_n (pc := 4) (i := 2) (lv' := [(2, .int ((0 : Int32))), (1, .int ((-4 : Int32))), (0, .ref (h 0))]) C dX0_passUntilCaught_4 rfl (by decide) rfl ?_
  refine z_lv [2, 1, 0] rfl ?_
  exact B_X0_passUntilCaught_5 C hR hr h R  bb_N _ _ _ hf
theorem c_X0_passUntilCaught {l : Launch} {D : va_G} {cs : Nat → ClassId} (h : Nat → Nat) {s0 : bb_O} {z : (Int32 × bb_O)} (hf : F_X0_passUntilCaught_0 s0 = some z) : bb_M l yX0_passUntilCaught cX0_passUntilCaught 3 (some .int) 6 D cs [.ref (h 0)] (some (.int z.1)) (wX0 cs h s0) (wX0 cs h z.2) := bb_mg (by decide) rfl (Nat.le_of_ble_eq_true rfl) rfl (fun X hl hD hcs C hR hr R => by
  subst hl
  subst hD
  subst hcs
  exact B_X0_passUntilCaught_0 C hR hr h R hf)
/-! X0_behindHowMany: writes, level 6 -/
noncomputable def G_X0_behindHowMany_2 (k2 : bb_O → Int32 → Int32 → Int32 → Option (Int32 × bb_O)) (s0 : bb_O) (x1 : Int32) (x2 : Int32) (x3 : Int32) : Option (Int32 × bb_O) := if x2 < x3 then (some (x2 + ((1 : Int32)), s0)) else ((F_X0_pass_0 s0).bind (fun q2 => if q2.1 = x1 then (some (x3, q2.2)) else (k2 q2.2 x1 x2 (x3 + 1))))
noncomputable def F_X0_behindHowMany_2  : Nat → bb_O → Int32 → Int32 → Int32 → Option (Int32 × bb_O)
  | 0, _, _, _, _ => none
  | n + 1, s0, x1, x2, x3 => G_X0_behindHowMany_2  (F_X0_behindHowMany_2  n) s0 x1 x2 x3
set_option maxHeartbeats 4000000 in
set_option maxRecDepth 100000 in
theorem A_X0_behindHowMany_2 {X : bb_X} (C : bb_C X RX0 cX0_behindHowMany 4) (hR : bb_r X 6) (hr : X.meth.sig.returnType = (some .int)) (h : Nat → Nat) {z : (Int32 × bb_O)} (R : bb_R X (some (.int z.1)) (wX0 X.cs h z.2)) {k2 : bb_O → Int32 → Int32 → Int32 → Option (Int32 × bb_O)} (hk2 : ∀ (s0 : bb_O) (x1 : Int32) (x2 : Int32) (x3 : Int32), k2 s0 x1 x2 x3 = some z → bb_Z X 4 (wX0 X.cs h s0) 2 [(0, .ref (h 0)), (1, .int x1), (2, .int x2), (3, .int x3)] []) {s0 : bb_O} {x1 : Int32} {x2 : Int32} {x3 : Int32} (hf : G_X0_behindHowMany_2 k2 s0 x1 x2 x3 = some z) : bb_Z X 4 (wX0 X.cs h s0) 2 [(0, .ref (h 0)), (1, .int x1), (2, .int x2), (3, .int x3)] [] := by
  refine z_iload_n (pc := 2) (i := 3) C 3 dX0_behindHowMany_2 rfl rfl ?_
  refine z_iload_n (pc := 3) (i := 2) C 2 dX0_behindHowMany_3 rfl rfl ?_
  refine z_icmp_gt (pc := 4) C 23 dX0_behindHowMany_4 (by decide) (fun hc1 => ?_) (fun hc1 => ?_)
  · have hf := bb_t hf hc1
    refine z_iload_n (pc := 23) (i := 2) C 2 dX0_behindHowMany_23 rfl rfl ?_
    refine z_iconst (pc := 24) C (1 : Int32) dX0_behindHowMany_24 (by decide) ?_
    refine z_iadd (pc := 25) C dX0_behindHowMany_25 ?_
    obtain rfl := Option.some.inj hf
    exact z_iret (pc := 26) C hr R dX0_behindHowMany_26
  · have hf := bb_e hf hc1
    refine z_aload_n (pc := 7) (i := 0) C 0 dX0_behindHowMany_7 rfl rfl ?_
    obtain ⟨q2, hq2, hf⟩ := bb_b_some hf
    refine z_callVi (pc := 8) (ci := 0) (q0 := 0) (As := []) (rest := []) (ws' := wX0 X.cs h q2.2) C (hR.le (by decide)) (c_X0_pass h hq2) (bb_cut_self _ _) bv_X0_pass bm_X0_111 rfl rfl rfl rfl (Nat.le_of_ble_eq_true rfl) dX0_behindHowMany_8 ?_
    refine z_iload_n (pc := 11) (i := 1) C 1 dX0_behindHowMany_11 rfl rfl ?_
    refine z_icmp_ne (pc := 12) C 17 dX0_behindHowMany_12 (by decide) (fun hc3 => ?_) (fun hc3 => ?_)
    · have hf := bb_e hf hc3
      refine z_iinc (pc := 17) (lv' := [(3, .int (x3 + 1)), (0, .ref (h 0)), (1, .int x1), (2, .int x2)]) C (x3 + 1) 3 dX0_behindHowMany_17 rfl rfl (by decide) rfl ?_
      refine z_goto (pc := 20) C 2 dX0_behindHowMany_20 (by decide) ?_
      refine z_lv [1, 2, 3, 0] rfl ?_
      exact hk2 _ _ _ _ hf
    · have hf := bb_t hf hc3
      refine z_iload_n (pc := 15) (i := 3) C 3 dX0_behindHowMany_15 rfl rfl ?_
      obtain rfl := Option.some.inj hf
      exact z_iret (pc := 16) C hr R dX0_behindHowMany_16
theorem B_X0_behindHowMany_2 {X : bb_X} (C : bb_C X RX0 cX0_behindHowMany 4) (hR : bb_r X 6) (hr : X.meth.sig.returnType = (some .int)) (h : Nat → Nat) {z : (Int32 × bb_O)} (R : bb_R X (some (.int z.1)) (wX0 X.cs h z.2)) : ∀ (n : Nat) (s0 : bb_O) (x1 : Int32) (x2 : Int32) (x3 : Int32), F_X0_behindHowMany_2  n s0 x1 x2 x3 = some z → bb_Z X 4 (wX0 X.cs h s0) 2 [(0, .ref (h 0)), (1, .int x1), (2, .int x2), (3, .int x3)] [] := by
  intro n
  induction n with
  | zero =>
    intro s0 x1 x2 x3 hf
    cases hf
  | succ n ih =>
    intro s0 x1 x2 x3 hf
    exact A_X0_behindHowMany_2 C hR hr h R  ih hf
noncomputable def F_X0_behindHowMany_0 (s0 : bb_O) (x1 : Int32) (x2 : Int32) : Option (Int32 × bb_O) := F_X0_behindHowMany_2 bb_N s0 x1 x2 ((1 : Int32))
set_option maxHeartbeats 4000000 in
set_option maxRecDepth 100000 in
theorem B_X0_behindHowMany_0 {X : bb_X} (C : bb_C X RX0 cX0_behindHowMany 4) (hR : bb_r X 6) (hr : X.meth.sig.returnType = (some .int)) (h : Nat → Nat) {z : (Int32 × bb_O)} (R : bb_R X (some (.int z.1)) (wX0 X.cs h z.2)) {s0 : bb_O} {x1 : Int32} {x2 : Int32} (hf : F_X0_behindHowMany_0 s0 x1 x2 = some z) : bb_Z X 4 (wX0 X.cs h s0) 0 [(0, .ref (h 0)), (1, .int x1), (2, .int x2)] [] := by
  refine z_iconst (pc := 0) C (1 : Int32) dX0_behindHowMany_0 (by decide) ?_
  refine z_istore_n (pc := 1) (i := 3) (lv' := [(3, .int ((1 : Int32))), (0, .ref (h 0)), (1, .int x1), (2, .int x2)]) C dX0_behindHowMany_1 rfl (by decide) rfl ?_
  refine z_lv [1, 2, 3, 0] rfl ?_
  exact B_X0_behindHowMany_2 C hR hr h R  bb_N _ _ _ _ hf
theorem c_X0_behindHowMany {l : Launch} {D : va_G} {cs : Nat → ClassId} (h : Nat → Nat) {s0 : bb_O} {x1 : Int32} {x2 : Int32} {z : (Int32 × bb_O)} (hf : F_X0_behindHowMany_0 s0 x1 x2 = some z) : bb_M l yX0_behindHowMany cX0_behindHowMany 4 (some .int) 6 D cs [.ref (h 0), .int x1, .int x2] (some (.int z.1)) (wX0 cs h s0) (wX0 cs h z.2) := bb_mg (by decide) rfl (Nat.le_of_ble_eq_true rfl) rfl (fun X hl hD hcs C hR hr R => by
  subst hl
  subst hD
  subst hcs
  exact B_X0_behindHowMany_0 C hR hr h R hf)
/-! X0_beside: reads, level 2 -/
noncomputable def F_X0_beside_51 (s0 : bb_O) (y0 : Int32) : Option Int32 := some y0
set_option maxHeartbeats 4000000 in
set_option maxRecDepth 100000 in
theorem B_X0_beside_51 {X : bb_X} (C : bb_C X RX0 cX0_beside 3) (hR : bb_r X 2) (hr : X.meth.sig.returnType = (some .int)) (h : Nat → Nat) {z : Int32} {s0 : bb_O} (R : bb_R X (some (.int z)) (wX0 X.cs h s0)) {y0 : Int32} (hf : F_X0_beside_51 s0 y0 = some z) : bb_Z X 3 (wX0 X.cs h s0) 51 [] [.int y0] := by
  obtain rfl := Option.some.inj hf
  exact z_iret (pc := 51) C hr R dX0_beside_51
noncomputable def F_X0_beside_77 (s0 : bb_O) (y0 : Int32) : Option Int32 := some y0
set_option maxHeartbeats 4000000 in
set_option maxRecDepth 100000 in
theorem B_X0_beside_77 {X : bb_X} (C : bb_C X RX0 cX0_beside 3) (hR : bb_r X 2) (hr : X.meth.sig.returnType = (some .int)) (h : Nat → Nat) {z : Int32} {s0 : bb_O} (R : bb_R X (some (.int z)) (wX0 X.cs h s0)) {y0 : Int32} (hf : F_X0_beside_77 s0 y0 = some z) : bb_Z X 3 (wX0 X.cs h s0) 77 [] [.int y0] := by
  obtain rfl := Option.some.inj hf
  exact z_iret (pc := 77) C hr R dX0_beside_77
noncomputable def F_X0_beside_94 (s0 : bb_O) (y0 : Int32) : Option Int32 := some y0
set_option maxHeartbeats 4000000 in
set_option maxRecDepth 100000 in
theorem B_X0_beside_94 {X : bb_X} (C : bb_C X RX0 cX0_beside 3) (hR : bb_r X 2) (hr : X.meth.sig.returnType = (some .int)) (h : Nat → Nat) {z : Int32} {s0 : bb_O} (R : bb_R X (some (.int z)) (wX0 X.cs h s0)) {y0 : Int32} (hf : F_X0_beside_94 s0 y0 = some z) : bb_Z X 3 (wX0 X.cs h s0) 94 [] [.int y0] := by
  obtain rfl := Option.some.inj hf
  exact z_iret (pc := 94) C hr R dX0_beside_94
noncomputable def F_X0_beside_117 (s0 : bb_O) (y0 : Int32) : Option Int32 := some y0
set_option maxHeartbeats 4000000 in
set_option maxRecDepth 100000 in
theorem B_X0_beside_117 {X : bb_X} (C : bb_C X RX0 cX0_beside 3) (hR : bb_r X 2) (hr : X.meth.sig.returnType = (some .int)) (h : Nat → Nat) {z : Int32} {s0 : bb_O} (R : bb_R X (some (.int z)) (wX0 X.cs h s0)) {y0 : Int32} (hf : F_X0_beside_117 s0 y0 = some z) : bb_Z X 3 (wX0 X.cs h s0) 117 [] [.int y0] := by
  obtain rfl := Option.some.inj hf
  exact z_iret (pc := 117) C hr R dX0_beside_117
noncomputable def F_X0_beside_0 (s0 : bb_O) (x1 : Int32) (x2 : Int32) : Option Int32 := if x2 = 0 then ((F_X0_rowOf_0 s0 x1).bind (fun q2 => if q2 ≤ 0 then (F_X0_beside_51 s0 ((-4 : Int32))) else (F_X0_beside_51 s0 (x1 - (s0.1 1))))) else (if x2 = 1 then ((F_X0_rowOf_0 s0 x1).bind (fun q5 => if ((s0.1 0) - ((1 : Int32))) ≤ q5 then (F_X0_beside_77 s0 ((-4 : Int32))) else (F_X0_beside_77 s0 (x1 + (s0.1 1))))) else (if x2 = 2 then ((F_X0_columnOf_0 s0 x1).bind (fun q8 => if q8 ≤ 0 then (F_X0_beside_94 s0 ((-4 : Int32))) else (F_X0_beside_94 s0 (x1 - ((1 : Int32)))))) else (if x2 = 3 then ((F_X0_columnOf_0 s0 x1).bind (fun q11 => if ((s0.1 1) - ((1 : Int32))) ≤ q11 then (F_X0_beside_117 s0 ((-4 : Int32))) else (F_X0_beside_117 s0 (x1 + ((1 : Int32)))))) else (some ((-4 : Int32))))))
set_option maxHeartbeats 4000000 in
set_option maxRecDepth 100000 in
theorem B_X0_beside_0 {X : bb_X} (C : bb_C X RX0 cX0_beside 3) (hR : bb_r X 2) (hr : X.meth.sig.returnType = (some .int)) (h : Nat → Nat) {z : Int32} {s0 : bb_O} (R : bb_R X (some (.int z)) (wX0 X.cs h s0)) {x1 : Int32} {x2 : Int32} (hf : F_X0_beside_0 s0 x1 x2 = some z) : bb_Z X 3 (wX0 X.cs h s0) 0 [(0, .ref (h 0)), (1, .int x1), (2, .int x2)] [] := by
  refine z_iload_n (pc := 0) (i := 2) C 2 dX0_beside_0 rfl rfl ?_
  by_cases hc1 : x2 = 0
  · have hf := bb_t hf hc1
    refine z_tabIn (pc := 1) C 32 (0 : Int32) dX0_beside_1 hc1 (by decide) (by decide) rfl (by decide) ?_
    refine z_aload_n (pc := 32) (i := 0) C 0 dX0_beside_32 rfl rfl ?_
    refine z_iload_n (pc := 33) (i := 1) C 1 dX0_beside_33 rfl rfl ?_
    obtain ⟨q2, hq2, hf⟩ := bb_b_some hf
    refine z_callVi (pc := 34) (ci := 0) (q0 := 0) (As := [.int x1]) (rest := []) C (hR.le (by decide)) (c_X0_rowOf h hq2) (bb_cut_self _ _) bv_X0_rowOf bm_X0_61 rfl rfl rfl rfl (Nat.le_of_ble_eq_true rfl) dX0_beside_34 ?_
    refine z_if_le (pc := 37) C 49 dX0_beside_37 (by decide) (fun hc3 => ?_) (fun hc3 => ?_)
    · have hf := bb_t hf hc3
      refine z_bipush (pc := 49) C (-4 : Int32) dX0_beside_49 (by decide) ?_
      refine z_lv [] rfl ?_
      exact B_X0_beside_51 C hR hr h R  hf
    · have hf := bb_e hf hc3
      refine z_iload_n (pc := 40) (i := 1) C 1 dX0_beside_40 rfl rfl ?_
      refine z_aload_n (pc := 41) (i := 0) C 0 dX0_beside_41 rfl rfl ?_
      refine z_get (pc := 42) (ci := 0) C (.int (s0.1 1)) bi_X0 rfl 0 1 (by decide) rfl bf_X0_15 rfl rfl dX0_beside_42 ?_
      refine z_isub (pc := 45) C dX0_beside_45 ?_
      refine z_goto (pc := 46) C 51 dX0_beside_46 (by decide) ?_
      refine z_lv [] rfl ?_
      exact B_X0_beside_51 C hR hr h R  hf
  · have hf := bb_e hf hc1
    by_cases hc4 : x2 = 1
    · have hf := bb_t hf hc4
      refine z_tabIn (pc := 1) C 52 (1 : Int32) dX0_beside_1 hc4 (by decide) (by decide) rfl (by decide) ?_
      refine z_aload_n (pc := 52) (i := 0) C 0 dX0_beside_52 rfl rfl ?_
      refine z_iload_n (pc := 53) (i := 1) C 1 dX0_beside_53 rfl rfl ?_
      obtain ⟨q5, hq5, hf⟩ := bb_b_some hf
      refine z_callVi (pc := 54) (ci := 0) (q0 := 0) (As := [.int x1]) (rest := []) C (hR.le (by decide)) (c_X0_rowOf h hq5) (bb_cut_self _ _) bv_X0_rowOf bm_X0_61 rfl rfl rfl rfl (Nat.le_of_ble_eq_true rfl) dX0_beside_54 ?_
      refine z_aload_n (pc := 57) (i := 0) C 0 dX0_beside_57 rfl rfl ?_
      refine z_get (pc := 58) (ci := 0) C (.int (s0.1 0)) bi_X0 rfl 0 0 (by decide) rfl bf_X0_9 rfl rfl dX0_beside_58 ?_
      refine z_iconst (pc := 61) C (1 : Int32) dX0_beside_61 (by decide) ?_
      refine z_isub (pc := 62) C dX0_beside_62 ?_
      refine z_icmp_ge (pc := 63) C 75 dX0_beside_63 (by decide) (fun hc6 => ?_) (fun hc6 => ?_)
      · have hf := bb_t hf hc6
        refine z_bipush (pc := 75) C (-4 : Int32) dX0_beside_75 (by decide) ?_
        refine z_lv [] rfl ?_
        exact B_X0_beside_77 C hR hr h R  hf
      · have hf := bb_e hf hc6
        refine z_iload_n (pc := 66) (i := 1) C 1 dX0_beside_66 rfl rfl ?_
        refine z_aload_n (pc := 67) (i := 0) C 0 dX0_beside_67 rfl rfl ?_
        refine z_get (pc := 68) (ci := 0) C (.int (s0.1 1)) bi_X0 rfl 0 1 (by decide) rfl bf_X0_15 rfl rfl dX0_beside_68 ?_
        refine z_iadd (pc := 71) C dX0_beside_71 ?_
        refine z_goto (pc := 72) C 77 dX0_beside_72 (by decide) ?_
        refine z_lv [] rfl ?_
        exact B_X0_beside_77 C hR hr h R  hf
    · have hf := bb_e hf hc4
      by_cases hc7 : x2 = 2
      · have hf := bb_t hf hc7
        refine z_tabIn (pc := 1) C 78 (2 : Int32) dX0_beside_1 hc7 (by decide) (by decide) rfl (by decide) ?_
        refine z_aload_n (pc := 78) (i := 0) C 0 dX0_beside_78 rfl rfl ?_
        refine z_iload_n (pc := 79) (i := 1) C 1 dX0_beside_79 rfl rfl ?_
        obtain ⟨q8, hq8, hf⟩ := bb_b_some hf
        refine z_callVi (pc := 80) (ci := 0) (q0 := 0) (As := [.int x1]) (rest := []) C (hR.le (by decide)) (c_X0_columnOf h hq8) (bb_cut_self _ _) bv_X0_columnOf bm_X0_70 rfl rfl rfl rfl (Nat.le_of_ble_eq_true rfl) dX0_beside_80 ?_
        refine z_if_le (pc := 83) C 92 dX0_beside_83 (by decide) (fun hc9 => ?_) (fun hc9 => ?_)
        · have hf := bb_t hf hc9
          refine z_bipush (pc := 92) C (-4 : Int32) dX0_beside_92 (by decide) ?_
          refine z_lv [] rfl ?_
          exact B_X0_beside_94 C hR hr h R  hf
        · have hf := bb_e hf hc9
          refine z_iload_n (pc := 86) (i := 1) C 1 dX0_beside_86 rfl rfl ?_
          refine z_iconst (pc := 87) C (1 : Int32) dX0_beside_87 (by decide) ?_
          refine z_isub (pc := 88) C dX0_beside_88 ?_
          refine z_goto (pc := 89) C 94 dX0_beside_89 (by decide) ?_
          refine z_lv [] rfl ?_
          exact B_X0_beside_94 C hR hr h R  hf
      · have hf := bb_e hf hc7
        by_cases hc10 : x2 = 3
        · have hf := bb_t hf hc10
          refine z_tabIn (pc := 1) C 95 (3 : Int32) dX0_beside_1 hc10 (by decide) (by decide) rfl (by decide) ?_
          refine z_aload_n (pc := 95) (i := 0) C 0 dX0_beside_95 rfl rfl ?_
          refine z_iload_n (pc := 96) (i := 1) C 1 dX0_beside_96 rfl rfl ?_
          obtain ⟨q11, hq11, hf⟩ := bb_b_some hf
          refine z_callVi (pc := 97) (ci := 0) (q0 := 0) (As := [.int x1]) (rest := []) C (hR.le (by decide)) (c_X0_columnOf h hq11) (bb_cut_self _ _) bv_X0_columnOf bm_X0_70 rfl rfl rfl rfl (Nat.le_of_ble_eq_true rfl) dX0_beside_97 ?_
          refine z_aload_n (pc := 100) (i := 0) C 0 dX0_beside_100 rfl rfl ?_
          refine z_get (pc := 101) (ci := 0) C (.int (s0.1 1)) bi_X0 rfl 0 1 (by decide) rfl bf_X0_15 rfl rfl dX0_beside_101 ?_
          refine z_iconst (pc := 104) C (1 : Int32) dX0_beside_104 (by decide) ?_
          refine z_isub (pc := 105) C dX0_beside_105 ?_
          refine z_icmp_ge (pc := 106) C 115 dX0_beside_106 (by decide) (fun hc12 => ?_) (fun hc12 => ?_)
          · have hf := bb_t hf hc12
            refine z_bipush (pc := 115) C (-4 : Int32) dX0_beside_115 (by decide) ?_
            refine z_lv [] rfl ?_
            exact B_X0_beside_117 C hR hr h R  hf
          · have hf := bb_e hf hc12
            refine z_iload_n (pc := 109) (i := 1) C 1 dX0_beside_109 rfl rfl ?_
            refine z_iconst (pc := 110) C (1 : Int32) dX0_beside_110 (by decide) ?_
            refine z_iadd (pc := 111) C dX0_beside_111 ?_
            refine z_goto (pc := 112) C 117 dX0_beside_112 (by decide) ?_
            refine z_lv [] rfl ?_
            exact B_X0_beside_117 C hR hr h R  hf
        · have hf := bb_e hf hc10
          refine z_tabOut (pc := 1) C 118 dX0_beside_1 (by have a0 := lv_neT hc1 (show (0 : Int32).toInt = 0 by decide); have a1 := lv_neT hc4 (show (1 : Int32).toInt = 1 by decide); have a2 := lv_neT hc7 (show (2 : Int32).toInt = 2 by decide); have a3 := lv_neT hc10 (show (3 : Int32).toInt = 3 by decide); omega) (by decide) ?_
          refine z_bipush (pc := 118) C (-4 : Int32) dX0_beside_118 (by decide) ?_
          obtain rfl := Option.some.inj hf
          exact z_iret (pc := 120) C hr R dX0_beside_120
theorem c_X0_beside {l : Launch} {D : va_G} {cs : Nat → ClassId} (h : Nat → Nat) {s0 : bb_O} {x1 : Int32} {x2 : Int32} {z : Int32} (hf : F_X0_beside_0 s0 x1 x2 = some z) : bb_M l yX0_beside cX0_beside 3 (some .int) 2 D cs [.ref (h 0), .int x1, .int x2] (some (.int z)) (wX0 cs h s0) (wX0 cs h s0) := bb_mg (by decide) rfl (Nat.le_of_ble_eq_true rfl) rfl (fun X hl hD hcs C hR hr R => by
  subst hl
  subst hD
  subst hcs
  exact B_X0_beside_0 C hR hr h R hf)
/-! X0_stray: writes, level 3 -/
noncomputable def F_X0_stray_81 (s0 : bb_O) : Option (bb_O) := some s0
set_option maxHeartbeats 4000000 in
set_option maxRecDepth 100000 in
theorem B_X0_stray_81 {X : bb_X} (C : bb_C X RX0 cX0_stray 3) (hR : bb_r X 3) (hr : X.meth.sig.returnType = none) (h : Nat → Nat) {z : (bb_O)} (R : bb_R X none (wX0 X.cs h z)) {s0 : bb_O} (hf : F_X0_stray_81 s0 = some z) : bb_Z X 3 (wX0 X.cs h s0) 81 [] [] := by
  obtain rfl := Option.some.inj hf
  exact z_vret (pc := 81) C hr R dX0_stray_81
noncomputable def F_X0_stray_26 (s0 : bb_O) : Option (bb_O) := bb_g (¬ (s0.1 2) = 0) (bb_g (vp_in (((s0.1 8) / ((65536 : Int32))) % (s0.1 2)) 6) ((F_X0_beside_0 s0 (s0.2.1 10 (((s0.1 8) / ((65536 : Int32))) % (s0.1 2)).toNatClampNeg) (((s0.1 8) / ((128 : Int32))) % ((4 : Int32)))).bind (fun q3 => (F_X0_isFree_0 s0 (((s0.1 8) / ((65536 : Int32))) % (s0.1 2))).bind (fun q4 => if q4 = 0 then (F_X0_stray_81 s0) else (if q3 = ((-4 : Int32)) then (F_X0_stray_81 s0) else (bb_g (vp_in (((s0.1 8) / ((65536 : Int32))) % (s0.1 2)) 6) (F_X0_stray_81 (bb_sA s0 10 (upd (s0.2.1 10) (((s0.1 8) / ((65536 : Int32))) % (s0.1 2)).toNatClampNeg q3)))))))))
set_option maxHeartbeats 4000000 in
set_option maxRecDepth 100000 in
theorem B_X0_stray_26 {X : bb_X} (C : bb_C X RX0 cX0_stray 3) (hR : bb_r X 3) (hr : X.meth.sig.returnType = none) (h : Nat → Nat) {z : (bb_O)} (R : bb_R X none (wX0 X.cs h z)) {s0 : bb_O} (hf : F_X0_stray_26 s0 = some z) : bb_Z X 3 (wX0 X.cs h s0) 26 [(0, .ref (h 0))] [] := by
  refine z_aload_n (pc := 26) (i := 0) C 0 dX0_stray_26 rfl rfl ?_
  refine z_get (pc := 27) (ci := 0) C (.int (s0.1 8)) bi_X0 rfl 0 8 (by decide) rfl bf_X0_18 rfl rfl dX0_stray_27 ?_
  refine z_ldc (pc := 30) C bk_X0_116 dX0_stray_30 ?_
  refine z_idiv (pc := 32) C dX0_stray_32 (by decide) ?_
  refine z_aload_n (pc := 33) (i := 0) C 0 dX0_stray_33 rfl rfl ?_
  refine z_get (pc := 34) (ci := 0) C (.int (s0.1 2)) bi_X0 rfl 0 2 (by decide) rfl bf_X0_37 rfl rfl dX0_stray_34 ?_
  obtain ⟨hn1, hf⟩ := bb_g_some hf
  refine z_irem (pc := 37) C dX0_stray_37 hn1 ?_
  refine z_istore_n (pc := 38) (i := 1) (lv' := [(1, .int (((s0.1 8) / ((65536 : Int32))) % (s0.1 2))), (0, .ref (h 0))]) C dX0_stray_38 rfl (by decide) rfl ?_
  refine z_aload_n (pc := 39) (i := 0) C 1 dX0_stray_39 rfl rfl ?_
  refine z_aload_n (pc := 40) (i := 0) C 1 dX0_stray_40 rfl rfl ?_
  refine z_get (pc := 41) (ci := 0) C (.ref (h 11)) bi_X0 rfl 0 10 (by decide) rfl bf_X0_25 rfl rfl dX0_stray_41 ?_
  refine z_iload_n (pc := 44) (i := 1) C 0 dX0_stray_44 rfl rfl ?_
  obtain ⟨hv2, hf⟩ := bb_g_some hf
  refine z_iald (pc := 45) C 2 0 ((((s0.1 8) / ((65536 : Int32))) % (s0.1 2)).toNatClampNeg) rfl rfl hv2 rfl dX0_stray_45 ?_
  refine z_aload_n (pc := 46) (i := 0) C 1 dX0_stray_46 rfl rfl ?_
  refine z_get (pc := 47) (ci := 0) C (.int (s0.1 8)) bi_X0 rfl 0 8 (by decide) rfl bf_X0_18 rfl rfl dX0_stray_47 ?_
  refine z_sipush (pc := 50) C (128 : Int32) dX0_stray_50 (by decide) ?_
  refine z_idiv (pc := 53) C dX0_stray_53 (by decide) ?_
  refine z_iconst (pc := 54) C (4 : Int32) dX0_stray_54 (by decide) ?_
  refine z_irem (pc := 55) C dX0_stray_55 (by decide) ?_
  obtain ⟨q3, hq3, hf⟩ := bb_b_some hf
  refine z_callVi (pc := 56) (ci := 0) (q0 := 0) (As := [.int (s0.2.1 10 (((s0.1 8) / ((65536 : Int32))) % (s0.1 2)).toNatClampNeg), .int (((s0.1 8) / ((128 : Int32))) % ((4 : Int32)))]) (rest := []) C (hR.le (by decide)) (c_X0_beside h hq3) (bb_cut_self _ _) bv_X0_beside bm_X0_117 rfl rfl rfl rfl (Nat.le_of_ble_eq_true rfl) dX0_stray_56 ?_
  refine z_istore_n (pc := 59) (i := 2) (lv' := [(2, .int q3), (1, .int (((s0.1 8) / ((65536 : Int32))) % (s0.1 2))), (0, .ref (h 0))]) C dX0_stray_59 rfl (by decide) rfl ?_
  refine z_aload_n (pc := 60) (i := 0) C 2 dX0_stray_60 rfl rfl ?_
  refine z_iload_n (pc := 61) (i := 1) C 1 dX0_stray_61 rfl rfl ?_
  obtain ⟨q4, hq4, hf⟩ := bb_b_some hf
  refine z_callVi (pc := 62) (ci := 0) (q0 := 0) (As := [.int (((s0.1 8) / ((65536 : Int32))) % (s0.1 2))]) (rest := []) C (hR.le (by decide)) (c_X0_isFree h hq4) (bb_cut_self _ _) bv_X0_isFree bm_X0_80 rfl rfl rfl rfl (Nat.le_of_ble_eq_true rfl) dX0_stray_62 ?_
  refine z_if_eq (pc := 65) C 81 dX0_stray_65 (by decide) (fun hc5 => ?_) (fun hc5 => ?_)
  · have hf := bb_t hf hc5
    refine z_lv [] rfl ?_
    exact B_X0_stray_81 C hR hr h R  hf
  · have hf := bb_e hf hc5
    refine z_iload_n (pc := 68) (i := 2) C 0 dX0_stray_68 rfl rfl ?_
    refine z_bipush (pc := 69) C (-4 : Int32) dX0_stray_69 (by decide) ?_
    refine z_icmp_eq (pc := 71) C 81 dX0_stray_71 (by decide) (fun hc6 => ?_) (fun hc6 => ?_)
    · have hf := bb_t hf hc6
      refine z_lv [] rfl ?_
      exact B_X0_stray_81 C hR hr h R  hf
    · have hf := bb_e hf hc6
      refine z_aload_n (pc := 74) (i := 0) C 2 dX0_stray_74 rfl rfl ?_
      refine z_get (pc := 75) (ci := 0) C (.ref (h 11)) bi_X0 rfl 0 10 (by decide) rfl bf_X0_25 rfl rfl dX0_stray_75 ?_
      refine z_iload_n (pc := 78) (i := 1) C 1 dX0_stray_78 rfl rfl ?_
      refine z_iload_n (pc := 79) (i := 2) C 0 dX0_stray_79 rfl rfl ?_
      obtain ⟨hv7, hf⟩ := bb_g_some hf
      refine z_iast (pc := 80) (ws' := wX0 X.cs h (bb_sA s0 10 (upd (s0.2.1 10) (((s0.1 8) / ((65536 : Int32))) % (s0.1 2)).toNatClampNeg q3))) C 2 0 ((((s0.1 8) / ((65536 : Int32))) % (s0.1 2)).toNatClampNeg) rfl rfl hv7 rfl rfl dX0_stray_80 ?_
      refine z_lv [] rfl ?_
      exact B_X0_stray_81 C hR hr h R  hf
noncomputable def F_X0_stray_0 (s0 : bb_O) : Option (bb_O) := if 0 < (s0.1 2) then (F_X0_stray_26 (bb_sf s0 8 ((((s0.1 8) * ((1103515245 : Int32))) + ((12345 : Int32))) &&& ((2147483647 : Int32))))) else (some s0)
set_option maxHeartbeats 4000000 in
set_option maxRecDepth 100000 in
theorem B_X0_stray_0 {X : bb_X} (C : bb_C X RX0 cX0_stray 3) (hR : bb_r X 3) (hr : X.meth.sig.returnType = none) (h : Nat → Nat) {z : (bb_O)} (R : bb_R X none (wX0 X.cs h z)) {s0 : bb_O} (hf : F_X0_stray_0 s0 = some z) : bb_Z X 3 (wX0 X.cs h s0) 0 [(0, .ref (h 0))] [] := by
  refine z_aload_n (pc := 0) (i := 0) C 0 dX0_stray_0 rfl rfl ?_
  refine z_get (pc := 1) (ci := 0) C (.int (s0.1 2)) bi_X0 rfl 0 2 (by decide) rfl bf_X0_37 rfl rfl dX0_stray_1 ?_
  refine z_if_gt (pc := 4) C 8 dX0_stray_4 (by decide) (fun hc1 => ?_) (fun hc1 => ?_)
  · have hf := bb_t hf hc1
    refine z_aload_n (pc := 8) (i := 0) C 0 dX0_stray_8 rfl rfl ?_
    refine z_aload_n (pc := 9) (i := 0) C 0 dX0_stray_9 rfl rfl ?_
    refine z_get (pc := 10) (ci := 0) C (.int (s0.1 8)) bi_X0 rfl 0 8 (by decide) rfl bf_X0_18 rfl rfl dX0_stray_10 ?_
    refine z_ldc (pc := 13) C bk_X0_114 dX0_stray_13 ?_
    refine z_imul (pc := 15) C dX0_stray_15 ?_
    refine z_sipush (pc := 16) C (12345 : Int32) dX0_stray_16 (by decide) ?_
    refine z_iadd (pc := 19) C dX0_stray_19 ?_
    refine z_ldc (pc := 20) C bk_X0_115 dX0_stray_20 ?_
    refine z_iand (pc := 22) C dX0_stray_22 ?_
    refine z_put (pc := 23) (ci := 0) (ty := .int) (ws' := wX0 X.cs h (bb_sf s0 8 ((((s0.1 8) * ((1103515245 : Int32))) + ((12345 : Int32))) &&& ((2147483647 : Int32))))) C bi_X0 tyX0_ok nmX0 rfl 0 8 (by decide) rfl bf_X0_18 rfl rfl rfl rfl rfl (Nat.le_of_ble_eq_true rfl) rfl dX0_stray_23 ?_
    exact B_X0_stray_26 C hR hr h R  hf
  · have hf := bb_e hf hc1
    obtain rfl := Option.some.inj hf
    exact z_vret (pc := 7) C hr R dX0_stray_7
theorem c_X0_stray {l : Launch} {D : va_G} {cs : Nat → ClassId} (h : Nat → Nat) {s0 : bb_O} {z : (bb_O)} (hf : F_X0_stray_0 s0 = some z) : bb_M l yX0_stray cX0_stray 3 none 3 D cs [.ref (h 0)] none (wX0 cs h s0) (wX0 cs h z) := bb_mg (by decide) rfl (Nat.le_of_ble_eq_true rfl) rfl (fun X hl hD hcs C hR hr R => by
  subst hl
  subst hD
  subst hcs
  exact B_X0_stray_0 C hR hr h R hf)
end
